/-! ROWS FOR THE LIFTED METHODS: h is the store without the shapes -/
abbrev am_H : Type := (Nat → Nat → Int32) × (Nat → Nat → Int64) × (Nat → Nat → Option Nat)
def bnd {α ρ : Type} (x : α) (F : α → Option ρ) : Option ρ := F x
def rdI {ρ : Type} (h : am_H) (a n : Nat) (i : Int32) (F : Int32 → Option ρ) : Option ρ := if am_in i n then F (h.1 a i.toNatClampNeg) else none
def rdL {ρ : Type} (h : am_H) (a n : Nat) (i : Int32) (F : Int64 → Option ρ) : Option ρ := if am_in i n then F (h.2.1 a i.toNatClampNeg) else none
def rdR {ρ : Type} (h : am_H) (a n : Nat) (i : Int32) (F : Nat → Option ρ) : Option ρ := if am_in i n then (match h.2.2 a i.toNatClampNeg with
  | some y => F y
  | none => none) else none
def wrI {ρ : Type} (h : am_H) (a n : Nat) (i v : Int32) (F : am_H → Option ρ) : Option ρ := if am_in i n then F (am_u2 h.1 a i.toNatClampNeg v, h.2.1, h.2.2) else none
def wrL {ρ : Type} (h : am_H) (a n : Nat) (i : Int32) (v : Int64) (F : am_H → Option ρ) : Option ρ := if am_in i n then F (h.1, am_u2 h.2.1 a i.toNatClampNeg v, h.2.2) else none
def wrR {ρ : Type} (h : am_H) (a n : Nat) (i : Int32) (v : Nat) (F : am_H → Option ρ) : Option ρ := if am_in i n then F (h.1, h.2.1, am_u2 h.2.2 a i.toNatClampNeg (some v)) else none
def ptI {ρ : Type} (h : am_H) (a k : Nat) (v : Int32) (F : am_H → Option ρ) : Option ρ := F (am_u2 h.1 a k v, h.2.1, h.2.2)
def ptL {ρ : Type} (h : am_H) (a k : Nat) (v : Int64) (F : am_H → Option ρ) : Option ρ := F (h.1, am_u2 h.2.1 a k v, h.2.2)
/-- System.arraycopy -/
def cpI {ρ : Type} (h : am_H) (x nx : Nat) (sp : Int32) (y ny : Nat) (dp n : Int32) (F : am_H → Option ρ) : Option ρ := if 0 ≤ sp.toInt ∧ 0 ≤ dp.toInt ∧ 0 ≤ n.toInt ∧ sp.toInt + n.toInt ≤ nx ∧ dp.toInt + n.toInt ≤ ny ∧ x ≠ y then F ((fun a => if a = y then va_cpy (h.1 x) (h.1 y) sp.toNatClampNeg dp.toNatClampNeg n.toNatClampNeg else h.1 a), h.2.1, h.2.2) else none
def dvI {ρ : Type} (y : Int32) (F : Option ρ) : Option ρ := if y = 0 then none else F
/-- a flag that is given back -/
def zrt {ρ : Type} (v : Int32) (F : Option ρ) : Option ρ := if narrow .boolean (.int v) = .int v then F else none
/-- the method runs to its end, and the references are then as they should be -/
def am_GG (TP : (Nat → Nat → Option Nat) → Prop) (X : am_X) (d o : Nat) (ini : Bool) (cc : ByteArray) (ret : Option FieldType) (pc : Nat) (L : am_L) (st : List Value) (σ : am_S) (out : Option Value × am_S) : Prop := (∃ n, am_run X n d o ini cc ret pc L st σ = some out) ∧ TP out.2.2.2.2
abbrev am_G := am_GG am_TP
section AMR
variable {S : List am_Sh} {TP : (Nat → Nat → Option Nat) → Prop}
variable {X : am_X} {d o : Nat} {ini : Bool} {cc : ByteArray} {ret : Option FieldType} {pc : Nat} {L L' : am_L} {st st' : List Value} {σ : am_S} {out : Option Value × am_S} {i : Instr} {k : Nat} {h : am_H} {ρ : Type} {r : ρ}
theorem r_alu (hd : decode cc pc = .ok (i, k)) (h : am_alu i st = some (k, st')) (kk : am_GG TP X d o ini cc ret (pc + k) L st' σ out) : am_GG TP X d o ini cc ret pc L st σ out := by
  obtain ⟨⟨n, hn⟩, tp⟩ := kk
  exact ⟨⟨n + 1, am_fwd hd (Or.inr (Or.inl ⟨st', h, hn⟩))⟩, tp⟩
theorem r_div {x y : Int32} {F : Option ρ} (hd : decode cc pc = .ok (.idiv, 1)) (hf : dvI y F = some r) (kk : F = some r → am_GG TP X d o ini cc ret (pc + 1) L (.int (x / y) :: st) σ out) : am_GG TP X d o ini cc ret pc L (.int y :: .int x :: st) σ out := by
  unfold dvI at hf
  split at hf
  · cases hf
  · rename_i hy
    exact r_alu hd (by simp [am_alu, hy]) (kk hf)
theorem r_rem {x y : Int32} {F : Option ρ} (hd : decode cc pc = .ok (.irem, 1)) (hf : dvI y F = some r) (kk : F = some r → am_GG TP X d o ini cc ret (pc + 1) L (.int (x - x / y * y) :: st) σ out) : am_GG TP X d o ini cc ret pc L (.int y :: .int x :: st) σ out := by
  unfold dvI at hf
  split at hf
  · cases hf
  · rename_i hy
    exact r_alu hd (by simp [am_alu, hy]) (kk hf)
theorem r_loc (hd : decode cc pc = .ok (i, k)) (h : am_loc i L st = some (k, L', st')) (kk : am_GG TP X d o ini cc ret (pc + k) L' st' σ out) : am_GG TP X d o ini cc ret pc L st σ out := by
  obtain ⟨⟨n, hn⟩, tp⟩ := kk
  exact ⟨⟨n + 1, am_fwd hd (Or.inr (Or.inr (Or.inl ⟨L', st', h, hn⟩)))⟩, tp⟩
theorem r_br {t : Bool} {off : Int} {q : Nat} (hd : decode cc pc = .ok (i, 3)) (h : am_br i st = some (t, off, st')) (hj : am_jmp pc off = some q) (kk : am_GG TP X d o ini cc ret (if t = true then q else pc + 3) L st' σ out) : am_GG TP X d o ini cc ret pc L st σ out := by
  obtain ⟨⟨n, hn⟩, tp⟩ := kk
  exact ⟨⟨n + 1, am_fwd hd (Or.inr (Or.inr (Or.inr (Or.inl ⟨t, off, st', q, h, rfl, hj, hn⟩))))⟩, tp⟩
theorem r_goto {off : Int} {q : Nat} (hd : decode cc pc = .ok (.goto off, 3)) (hj : am_jmp pc off = some q) (kk : am_GG TP X d o ini cc ret q L st σ out) : am_GG TP X d o ini cc ret pc L st σ out := r_br hd rfl hj kk
theorem r_brc {c : Prop} [Decidable c] {A B : Option ρ} {off : Int} {q : Nat} (hd : decode cc pc = .ok (i, 3)) (h : am_br i st = am_if c off st') (hj : am_jmp pc off = some q) (hf : (if c then A else B) = some r) (kt : A = some r → am_GG TP X d o ini cc ret q L st' σ out) (kf : B = some r → am_GG TP X d o ini cc ret (pc + 3) L st' σ out) : am_GG TP X d o ini cc ret pc L st σ out := by
  refine r_br hd h hj ?_
  by_cases hc : c
  · rw [if_pos hc] at hf
    rw [if_pos (by simpa using hc)]
    exact kt hf
  · rw [if_neg hc] at hf
    rw [if_neg (by simpa using hc)]
    exact kf hf
/-- the same, jumping where c is not -/
theorem r_brn {c e : Prop} [Decidable c] [Decidable e] (hce : e ↔ ¬ c) {A B : Option ρ} {off : Int} {q : Nat} (hd : decode cc pc = .ok (i, 3)) (h : am_br i st = am_if e off st') (hj : am_jmp pc off = some q) (hf : (if c then B else A) = some r) (kt : A = some r → am_GG TP X d o ini cc ret q L st' σ out) (kf : B = some r → am_GG TP X d o ini cc ret (pc + 3) L st' σ out) : am_GG TP X d o ini cc ret pc L st σ out := by
  refine r_br hd h hj ?_
  by_cases hc : c
  · rw [if_pos hc] at hf
    rw [if_neg (by simpa [hce] using hc)]
    exact kf hf
  · rw [if_neg hc] at hf
    rw [if_pos (by simpa [hce] using hc)]
    exact kt hf
section BR
variable {x y : Int32} {A B : Option ρ} {off : Int} {q : Nat}
theorem r_eq0 (hd : decode cc pc = .ok (.ifCond .eq off, 3)) (hj : am_jmp pc off = some q) (hf : (if x = 0 then A else B) = some r) (kt : A = some r → am_GG TP X d o ini cc ret q L st σ out) (kf : B = some r → am_GG TP X d o ini cc ret (pc + 3) L st σ out) : am_GG TP X d o ini cc ret pc L (.int x :: st) σ out := r_brc hd rfl hj hf kt kf
theorem r_ne0 (hd : decode cc pc = .ok (.ifCond .ne off, 3)) (hj : am_jmp pc off = some q) (hf : (if x = 0 then B else A) = some r) (kt : A = some r → am_GG TP X d o ini cc ret q L st σ out) (kf : B = some r → am_GG TP X d o ini cc ret (pc + 3) L st σ out) : am_GG TP X d o ini cc ret pc L (.int x :: st) σ out := r_brn Iff.rfl hd rfl hj hf kt kf
theorem r_lt0 (hd : decode cc pc = .ok (.ifCond .lt off, 3)) (hj : am_jmp pc off = some q) (hf : (if x < 0 then A else B) = some r) (kt : A = some r → am_GG TP X d o ini cc ret q L st σ out) (kf : B = some r → am_GG TP X d o ini cc ret (pc + 3) L st σ out) : am_GG TP X d o ini cc ret pc L (.int x :: st) σ out := r_brc hd rfl hj hf kt kf
theorem r_ge0 (hd : decode cc pc = .ok (.ifCond .ge off, 3)) (hj : am_jmp pc off = some q) (hf : (if x < 0 then B else A) = some r) (kt : A = some r → am_GG TP X d o ini cc ret q L st σ out) (kf : B = some r → am_GG TP X d o ini cc ret (pc + 3) L st σ out) : am_GG TP X d o ini cc ret pc L (.int x :: st) σ out := r_brn Int32.not_lt.symm hd rfl hj hf kt kf
theorem r_gt0 (hd : decode cc pc = .ok (.ifCond .gt off, 3)) (hj : am_jmp pc off = some q) (hf : (if 0 < x then A else B) = some r) (kt : A = some r → am_GG TP X d o ini cc ret q L st σ out) (kf : B = some r → am_GG TP X d o ini cc ret (pc + 3) L st σ out) : am_GG TP X d o ini cc ret pc L (.int x :: st) σ out := r_brc hd rfl hj hf kt kf
theorem r_le0 (hd : decode cc pc = .ok (.ifCond .le off, 3)) (hj : am_jmp pc off = some q) (hf : (if 0 < x then B else A) = some r) (kt : A = some r → am_GG TP X d o ini cc ret q L st σ out) (kf : B = some r → am_GG TP X d o ini cc ret (pc + 3) L st σ out) : am_GG TP X d o ini cc ret pc L (.int x :: st) σ out := r_brn Int32.not_lt.symm hd rfl hj hf kt kf
theorem r_eq (hd : decode cc pc = .ok (.if_icmp .eq off, 3)) (hj : am_jmp pc off = some q) (hf : (if x = y then A else B) = some r) (kt : A = some r → am_GG TP X d o ini cc ret q L st σ out) (kf : B = some r → am_GG TP X d o ini cc ret (pc + 3) L st σ out) : am_GG TP X d o ini cc ret pc L (.int y :: .int x :: st) σ out := r_brc hd rfl hj hf kt kf
theorem r_ne (hd : decode cc pc = .ok (.if_icmp .ne off, 3)) (hj : am_jmp pc off = some q) (hf : (if x = y then B else A) = some r) (kt : A = some r → am_GG TP X d o ini cc ret q L st σ out) (kf : B = some r → am_GG TP X d o ini cc ret (pc + 3) L st σ out) : am_GG TP X d o ini cc ret pc L (.int y :: .int x :: st) σ out := r_brn Iff.rfl hd rfl hj hf kt kf
theorem r_lt (hd : decode cc pc = .ok (.if_icmp .lt off, 3)) (hj : am_jmp pc off = some q) (hf : (if x < y then A else B) = some r) (kt : A = some r → am_GG TP X d o ini cc ret q L st σ out) (kf : B = some r → am_GG TP X d o ini cc ret (pc + 3) L st σ out) : am_GG TP X d o ini cc ret pc L (.int y :: .int x :: st) σ out := r_brc hd rfl hj hf kt kf
theorem r_ge (hd : decode cc pc = .ok (.if_icmp .ge off, 3)) (hj : am_jmp pc off = some q) (hf : (if x < y then B else A) = some r) (kt : A = some r → am_GG TP X d o ini cc ret q L st σ out) (kf : B = some r → am_GG TP X d o ini cc ret (pc + 3) L st σ out) : am_GG TP X d o ini cc ret pc L (.int y :: .int x :: st) σ out := r_brn Int32.not_lt.symm hd rfl hj hf kt kf
theorem r_gt (hd : decode cc pc = .ok (.if_icmp .gt off, 3)) (hj : am_jmp pc off = some q) (hf : (if y < x then A else B) = some r) (kt : A = some r → am_GG TP X d o ini cc ret q L st σ out) (kf : B = some r → am_GG TP X d o ini cc ret (pc + 3) L st σ out) : am_GG TP X d o ini cc ret pc L (.int y :: .int x :: st) σ out := r_brc hd rfl hj hf kt kf
theorem r_le (hd : decode cc pc = .ok (.if_icmp .le off, 3)) (hj : am_jmp pc off = some q) (hf : (if y < x then B else A) = some r) (kt : A = some r → am_GG TP X d o ini cc ret q L st σ out) (kf : B = some r → am_GG TP X d o ini cc ret (pc + 3) L st σ out) : am_GG TP X d o ini cc ret pc L (.int y :: .int x :: st) σ out := r_brn Int32.not_lt.symm hd rfl hj hf kt kf
theorem r_nullN (hd : decode cc pc = .ok (.ifnull off, 3)) (hj : am_jmp pc off = some q) (kk : am_GG TP X d o ini cc ret q L st σ out) : am_GG TP X d o ini cc ret pc L (.null :: st) σ out := r_br hd rfl hj kk
theorem r_nullR {a : Nat} (hd : decode cc pc = .ok (.ifnull off, 3)) (hj : am_jmp pc off = some q) (kk : am_GG TP X d o ini cc ret (pc + 3) L st σ out) : am_GG TP X d o ini cc ret pc L (.ref a :: st) σ out := r_br hd rfl hj kk
theorem r_nonnullN (hd : decode cc pc = .ok (.ifnonnull off, 3)) (hj : am_jmp pc off = some q) (kk : am_GG TP X d o ini cc ret (pc + 3) L st σ out) : am_GG TP X d o ini cc ret pc L (.null :: st) σ out := r_br hd rfl hj kk
theorem r_nonnullR {a : Nat} (hd : decode cc pc = .ok (.ifnonnull off, 3)) (hj : am_jmp pc off = some q) (kk : am_GG TP X d o ini cc ret q L st σ out) : am_GG TP X d o ini cc ret pc L (.ref a :: st) σ out := r_br hd rfl hj kk
end BR
theorem r_sw {off : Int} {q : Nat} (hd : decode cc pc = .ok (i, k)) (h : am_sw i st = some (off, st')) (hj : am_jmp pc off = some q) (kk : am_GG TP X d o ini cc ret q L st' σ out) : am_GG TP X d o ini cc ret pc L st σ out := by
  obtain ⟨⟨n, hn⟩, tp⟩ := kk
  exact ⟨⟨n + 1, am_fwd hd (Or.inr (Or.inr (Or.inr (Or.inr (Or.inl ⟨off, st', q, h, hj, hn⟩)))))⟩, tp⟩
theorem r_hp {σ' : am_S} (hd : decode cc pc = .ok (i, k)) (h : am_hp X o ini i st σ = some (k, st', σ')) (kk : am_GG TP X d o ini cc ret (pc + k) L st' σ' out) : am_GG TP X d o ini cc ret pc L st σ out := by
  obtain ⟨⟨n, hn⟩, tp⟩ := kk
  exact ⟨⟨n + 1, am_fwd hd (Or.inr (Or.inr (Or.inr (Or.inr (Or.inr (Or.inl ⟨st', σ', h, hn⟩))))))⟩, tp⟩
theorem r_ret {v : Option Value} (T : TP σ.2.2.2) (hd : decode cc pc = .ok (i, 1)) (h : am_ret i ret st = some v) : am_GG TP X d o ini cc ret pc L st σ (v, σ) := ⟨⟨1, am_fwd (n := 0) hd (Or.inl ⟨v, h, rfl, rfl⟩)⟩, T⟩
theorem r_zret {v : Int32} {A : Option ρ} (T : TP σ.2.2.2) (hd : decode cc pc = .ok (.ireturn, 1)) (hf : zrt v A = some r) (kk : A = some r → out = (some (.int v), σ)) : am_GG TP X d o ini cc (some .boolean) pc L [.int v] σ out := by
  unfold zrt at hf
  split at hf
  · rename_i hn
    rw [kk hf]
    exact r_ret T hd (by simp [am_ret, hn])
  · cases hf
section HP
variable {ix a n ci fk : Nat} {F : Int32 → Option ρ}
theorem r_getI {F : Int32 → Option ρ} (hd : decode cc pc = .ok (.getfield ix, 3)) (hl : am_fl o ix = some (ci, fk)) (hs : S[a]? = some (.inl ci)) (ht : am_ty ci fk = .int) (hf : bnd (h.1 a fk) F = some r) (kk : ∀ v, F v = some r → am_GG TP X d o ini cc ret (pc + 3) L (.int v :: st) (S, h) out) : am_GG TP X d o ini cc ret pc L (.ref a :: st) (S, h) out := by
  refine r_hp hd (st' := .int (h.1 a fk) :: st) (σ' := (S, h)) ?_ (kk _ hf)
  simp [am_hp, hl, hs, ht, am_fv]
theorem r_getL {F : Int64 → Option ρ} (hd : decode cc pc = .ok (.getfield ix, 3)) (hl : am_fl o ix = some (ci, fk)) (hs : S[a]? = some (.inl ci)) (ht : am_ty ci fk = .long) (hf : bnd (h.2.1 a fk) F = some r) (kk : ∀ v, F v = some r → am_GG TP X d o ini cc ret (pc + 3) L (.long v :: st) (S, h) out) : am_GG TP X d o ini cc ret pc L (.ref a :: st) (S, h) out := by
  refine r_hp hd (st' := .long (h.2.1 a fk) :: st) (σ' := (S, h)) ?_ (kk _ hf)
  simp [am_hp, hl, hs, ht, am_fv]
theorem r_getR {y : Nat} (hd : decode cc pc = .ok (.getfield ix, 3)) (hl : am_fl o ix = some (ci, fk)) (hs : S[a]? = some (.inl ci)) (ht : (∃ t, am_ty ci fk = .object t) ∨ ∃ t, am_ty ci fk = .array t) (hy : h.2.2 a fk = some y) (kk : am_GG TP X d o ini cc ret (pc + 3) L (.ref y :: st) (S, h) out) : am_GG TP X d o ini cc ret pc L (.ref a :: st) (S, h) out := by
  refine r_hp hd (st' := .ref y :: st) (σ' := (S, h)) ?_ kk
  rcases ht with ⟨t, ht⟩ | ⟨t, ht⟩ <;> simp [am_hp, hl, hs, ht, am_fv, hy, am_rf]
theorem r_putI {v : Int32} {F : am_H → Option ρ} (hd : decode cc pc = .ok (.putfield ix, 3)) (hl : am_fl o ix = some (ci, fk)) (hs : S[a]? = some (.inl ci)) (ht : am_ty ci fk = .int ∧ (am_fT ci fk).2.2.2 = false) (hf : ptI h a fk v F = some r) (kk : ∀ h1 : am_H, h1.2.2 = h.2.2 → F h1 = some r → am_GG TP X d o ini cc ret (pc + 3) L st (S, h1) out) : am_GG TP X d o ini cc ret pc L (.int v :: .ref a :: st) (S, h) out := by
  refine r_hp hd (st' := st) (σ' := (S, am_u2 h.1 a fk v, h.2.1, h.2.2)) ?_ (kk _ rfl hf)
  simp [am_hp, hl, hs, ht.1, ht.2, am_fw]
theorem r_putL {v : Int64} {F : am_H → Option ρ} (hd : decode cc pc = .ok (.putfield ix, 3)) (hl : am_fl o ix = some (ci, fk)) (hs : S[a]? = some (.inl ci)) (ht : am_ty ci fk = .long ∧ (am_fT ci fk).2.2.2 = false) (hf : ptL h a fk v F = some r) (kk : ∀ h1 : am_H, h1.2.2 = h.2.2 → F h1 = some r → am_GG TP X d o ini cc ret (pc + 3) L st (S, h1) out) : am_GG TP X d o ini cc ret pc L (.long v :: .ref a :: st) (S, h) out := by
  refine r_hp hd (st' := st) (σ' := (S, h.1, am_u2 h.2.1 a fk v, h.2.2)) ?_ (kk _ rfl hf)
  simp [am_hp, hl, hs, ht.1, ht.2, am_fw]
theorem r_iald {i : Int32} {F : Int32 → Option ρ} (hd : decode cc pc = .ok (.iaload, 1)) (hs : S[a]? = some (.inr (.int, n))) (hf : rdI h a n i F = some r) (kk : ∀ v, F v = some r → am_GG TP X d o ini cc ret (pc + 1) L (.int v :: st) (S, h) out) : am_GG TP X d o ini cc ret pc L (.int i :: .ref a :: st) (S, h) out := by
  unfold rdI at hf
  split at hf
  · rename_i hc
    refine r_hp hd (st' := .int (h.1 a i.toNatClampNeg) :: st) (σ' := (S, h)) ?_ (kk _ hf)
    simp only [am_hp, am_ar, hs]
    rw [if_pos ⟨rfl, hc⟩]
  · cases hf
theorem r_bald {i : Int32} {ty : FieldType} {F : Int32 → Option ρ} (hd : decode cc pc = .ok (.baload, 1)) (hs : S[a]? = some (.inr (ty, n))) (ht : am_tB ty = true) (hf : rdI h a n i F = some r) (kk : ∀ v, F v = some r → am_GG TP X d o ini cc ret (pc + 1) L (.int v :: st) (S, h) out) : am_GG TP X d o ini cc ret pc L (.int i :: .ref a :: st) (S, h) out := by
  unfold rdI at hf
  split at hf
  · rename_i hc
    refine r_hp hd (st' := .int (h.1 a i.toNatClampNeg) :: st) (σ' := (S, h)) ?_ (kk _ hf)
    simp only [am_hp, am_ar, hs]
    rw [if_pos ⟨ht, hc⟩]
  · cases hf
theorem r_iast {i v : Int32} {F : am_H → Option ρ} (hd : decode cc pc = .ok (.iastore, 1)) (hs : S[a]? = some (.inr (.int, n))) (hf : wrI h a n i v F = some r) (kk : ∀ h1 : am_H, h1.2.2 = h.2.2 → F h1 = some r → am_GG TP X d o ini cc ret (pc + 1) L st (S, h1) out) : am_GG TP X d o ini cc ret pc L (.int v :: .int i :: .ref a :: st) (S, h) out := by
  unfold wrI at hf
  split at hf
  · rename_i hc
    refine r_hp hd (st' := st) (σ' := (S, am_u2 h.1 a i.toNatClampNeg v, h.2.1, h.2.2)) ?_ (kk _ rfl hf)
    simp only [am_hp, am_aw, hs]
    rw [if_pos ⟨rfl, hc⟩]
    rfl
  · cases hf
theorem r_bast {i v : Int32} {ty : FieldType} {F : am_H → Option ρ} (hd : decode cc pc = .ok (.bastore, 1)) (hs : S[a]? = some (.inr (ty, n))) (ht : am_tB ty = true) (hf : wrI h a n i (vp_nar ty v) F = some r) (kk : ∀ h1 : am_H, h1.2.2 = h.2.2 → F h1 = some r → am_GG TP X d o ini cc ret (pc + 1) L st (S, h1) out) : am_GG TP X d o ini cc ret pc L (.int v :: .int i :: .ref a :: st) (S, h) out := by
  unfold wrI at hf
  split at hf
  · rename_i hc
    refine r_hp hd (st' := st) (σ' := (S, am_u2 h.1 a i.toNatClampNeg (vp_nar ty v), h.2.1, h.2.2)) ?_ (kk _ rfl hf)
    simp only [am_hp, am_aw, hs]
    rw [if_pos ⟨ht, hc⟩]
  · cases hf
theorem r_lald {i : Int32} {F : Int64 → Option ρ} (hd : decode cc pc = .ok (.laload, 1)) (hs : S[a]? = some (.inr (.long, n))) (hf : rdL h a n i F = some r) (kk : ∀ v, F v = some r → am_GG TP X d o ini cc ret (pc + 1) L (.long v :: st) (S, h) out) : am_GG TP X d o ini cc ret pc L (.int i :: .ref a :: st) (S, h) out := by
  unfold rdL at hf
  split at hf
  · rename_i hc
    refine r_hp hd (st' := .long (h.2.1 a i.toNatClampNeg) :: st) (σ' := (S, h)) ?_ (kk _ hf)
    simp only [am_hp, hs]
    rw [if_pos hc]
  · cases hf
theorem r_last {i : Int32} {v : Int64} {F : am_H → Option ρ} (hd : decode cc pc = .ok (.lastore, 1)) (hs : S[a]? = some (.inr (.long, n))) (hf : wrL h a n i v F = some r) (kk : ∀ h1 : am_H, h1.2.2 = h.2.2 → F h1 = some r → am_GG TP X d o ini cc ret (pc + 1) L st (S, h1) out) : am_GG TP X d o ini cc ret pc L (.long v :: .int i :: .ref a :: st) (S, h) out := by
  unfold wrL at hf
  split at hf
  · rename_i hc
    refine r_hp hd (st' := st) (σ' := (S, h.1, am_u2 h.2.1 a i.toNatClampNeg v, h.2.2)) ?_ (kk _ rfl hf)
    simp only [am_hp, hs]
    rw [if_pos hc]
  · cases hf
theorem r_aald {i : Int32} {F : Nat → Option ρ} (hd : decode cc pc = .ok (.aaload, 1)) (hs : S[a]? = some (.inr (.object RX7, n))) (hf : rdR h a n i F = some r) (kk : ∀ y, am_in i n → h.2.2 a i.toNatClampNeg = some y → F y = some r → am_GG TP X d o ini cc ret (pc + 1) L (.ref y :: st) (S, h) out) : am_GG TP X d o ini cc ret pc L (.int i :: .ref a :: st) (S, h) out := by
  unfold rdR at hf
  split at hf
  · rename_i hc
    split at hf
    · rename_i y hy
      refine r_hp hd (st' := .ref y :: st) (σ' := (S, h)) ?_ (kk y hc hy hf)
      simp only [am_hp, hs]
      rw [if_pos ⟨trivial, hc⟩, hy]
      rfl
    · cases hf
  · cases hf
theorem r_aast {i : Int32} {y : Nat} {F : am_H → Option ρ} (hd : decode cc pc = .ok (.aastore, 1)) (hs : S[a]? = some (.inr (.object RX7, n))) (hy : S[y]? = some (.inl 6)) (hf : wrR h a n i y F = some r) (kk : ∀ h1 : am_H, am_in i n → h1.2.2 = am_u2 h.2.2 a i.toNatClampNeg (some y) → F h1 = some r → am_GG TP X d o ini cc ret (pc + 1) L st (S, h1) out) : am_GG TP X d o ini cc ret pc L (.ref y :: .int i :: .ref a :: st) (S, h) out := by
  unfold wrR at hf
  split at hf
  · rename_i hc
    refine r_hp hd (st' := st) (σ' := (S, h.1, h.2.1, am_u2 h.2.2 a i.toNatClampNeg (some y))) ?_ (kk _ hc rfl hf)
    simp only [am_hp, hs, hy]
    rw [if_pos ⟨trivial, trivial, hc⟩]
  · cases hf
theorem r_alen {ty : FieldType} {j : Nat} (hd : decode cc pc = .ok (.arraylength, 1)) (hs : S[a]? = some (.inr (ty, n))) (ht : am_tk ty = some j) (kk : am_GG TP X d o ini cc ret (pc + 1) L (.int (Int32.ofNat n) :: st) (S, h) out) : am_GG TP X d o ini cc ret pc L (.ref a :: st) (S, h) out := by
  refine r_hp hd (st' := .int (Int32.ofNat n) :: st) (σ' := (S, h)) ?_ kk
  simp [am_hp, hs, ht]
theorem r_ldc {v : Int32} (hd : decode cc pc = .ok (.ldc ix, 2)) (hk : am_k32 o ix = some v) (kk : am_GG TP X d o ini cc ret (pc + 2) L (.int v :: st) σ out) : am_GG TP X d o ini cc ret pc L st σ out :=
  r_hp hd (by simp [am_hp, hk]) kk
theorem r_ldcw {v : Int32} (hd : decode cc pc = .ok (.ldc_w ix, 3)) (hk : am_k32 o ix = some v) (kk : am_GG TP X d o ini cc ret (pc + 3) L (.int v :: st) σ out) : am_GG TP X d o ini cc ret pc L st σ out :=
  r_hp hd (by simp [am_hp, hk]) kk
theorem r_ldc2 {v : Int64} (hd : decode cc pc = .ok (.ldc2_w ix, 3)) (hk : am_k64 o ix = some v) (kk : am_GG TP X d o ini cc ret (pc + 3) L (.long v :: st) σ out) : am_GG TP X d o ini cc ret pc L st σ out :=
  r_hp hd (by simp [am_hp, hk]) kk
end HP
section CALL
variable {d : Nat} {ix rc : Nat} {m : am_M} {pre rest : List Value} {v : Option Value} {σ1 : am_S}
theorem r_call {κ : Nat} {as : List Value} (hd : decode cc pc = .ok (i, 3)) (hc : am_call o i = some (κ, rc, m)) (hκ : κ = 0 ∨ κ = 1 ∨ κ = 2 ∨ κ = 5) (hp : am_pop κ rc m st σ = some (as, rest)) (hcat : am_cat rest ≤ 8) (hl : (am_args as).length ≤ m.2.2.1) (h1 : am_GG TP X d m.1 m.2.2.2.2.2.2 m.2.1 m.2.2.2.1 0 (am_ent as m.2.2.1) [] σ (v, σ1)) (kk : am_GG TP X (d + 1) o ini cc ret (pc + 3) L (v.toList ++ rest) σ1 out) : am_GG TP X (d + 1) o ini cc ret pc L st σ out := by
  obtain ⟨⟨n1, h1⟩, -⟩ := h1
  obtain ⟨⟨n2, h2⟩, tp⟩ := kk
  refine ⟨⟨max n1 n2 + 1, am_fwd hd (Or.inr (Or.inr (Or.inr (Or.inr (Or.inr (Or.inr ⟨κ, rc, m, d, hc, rfl, rfl, ?_⟩))))))⟩, tp⟩
  exact Or.inr (Or.inr (Or.inr (Or.inr (Or.inr (Or.inr ⟨by omega, as, rest, v, σ1, hp, hcat, hl, am_fuel h1 (Nat.le_max_left _ _), am_fuel h2 (Nat.le_max_right _ _)⟩)))))
theorem r_virt {a : Nat} (hd : decode cc pc = .ok (.invokevirtual ix, 3)) (hc : am_ct o ix = some (0, rc, m)) (hn : pre.length = m.2.2.2.2.2.1) (hs : σ.1[a]? = some (.inl rc)) (hcat : am_cat rest ≤ 8) (hl : (am_args (.ref a :: pre.reverse)).length ≤ m.2.2.1) (h1 : am_GG TP X d m.1 m.2.2.2.2.2.2 m.2.1 m.2.2.2.1 0 (am_ent (.ref a :: pre.reverse) m.2.2.1) [] σ (v, σ1)) (kk : am_GG TP X (d + 1) o ini cc ret (pc + 3) L (v.toList ++ rest) σ1 out) : am_GG TP X (d + 1) o ini cc ret pc L (pre ++ .ref a :: rest) σ out := by
  refine r_call (κ := 0) (rc := rc) (m := m) hd (by simp [am_call, hc]) (Or.inl rfl) ?_ hcat hl h1 kk
  unfold am_pop
  simp only
  rw [if_pos (by simp; omega), if_neg (by decide), ← hn]
  simp [hs]
theorem r_stat (hd : decode cc pc = .ok (.invokestatic ix, 3)) (hc : am_ct o ix = some (1, rc, m)) (hn : pre.length = m.2.2.2.2.2.1) (hcat : am_cat rest ≤ 8) (hl : (am_args pre.reverse).length ≤ m.2.2.1) (h1 : am_GG TP X d m.1 m.2.2.2.2.2.2 m.2.1 m.2.2.2.1 0 (am_ent pre.reverse m.2.2.1) [] σ (v, σ1)) (kk : am_GG TP X (d + 1) o ini cc ret (pc + 3) L (v.toList ++ rest) σ1 out) : am_GG TP X (d + 1) o ini cc ret pc L (pre ++ rest) σ out := by
  refine r_call (κ := 1) (rc := rc) (m := m) hd (by simp [am_call, hc]) (Or.inr (Or.inl rfl)) ?_ hcat hl h1 kk
  unfold am_pop
  simp only
  rw [if_pos (by simp; omega), if_pos trivial, ← hn]
  simp
theorem r_b1 {κ : Nat} (hd : decode cc pc = .ok (i, 3)) (hc : am_call o i = some (κ, rc, m)) (hv : ∀ n, am_run X n (d + 1) o ini cc ret (pc + 3) L st' σ1 = some out → am_callV X n d o ini cc ret pc L st σ out κ rc m) (kk : am_GG TP X (d + 1) o ini cc ret (pc + 3) L st' σ1 out) : am_GG TP X (d + 1) o ini cc ret pc L st σ out := by
  obtain ⟨⟨n, hn⟩, tp⟩ := kk
  exact ⟨⟨n + 1, am_fwd hd (Or.inr (Or.inr (Or.inr (Or.inr (Or.inr (Or.inr ⟨κ, rc, m, d, hc, rfl, rfl, hv n hn⟩))))))⟩, tp⟩
theorem r_max {x y : Int32} (hd : decode cc pc = .ok (.invokestatic ix, 3)) (hc : am_ct o ix = some (8, rc, m)) (hcat : am_cat rest ≤ 8) (kk : am_GG TP X (d + 1) o ini cc ret (pc + 3) L (.int (if x < y then y else x) :: rest) σ out) : am_GG TP X (d + 1) o ini cc ret pc L (.int y :: .int x :: rest) σ out :=
  r_b1 (κ := 8) (rc := rc) (m := m) hd (by simp [am_call, hc]) (fun n hn => Or.inr (Or.inr (Or.inr (Or.inr (Or.inl ⟨rfl, x, y, rest, rfl, hcat, hn⟩))))) kk
theorem r_min {x y : Int32} (hd : decode cc pc = .ok (.invokestatic ix, 3)) (hc : am_ct o ix = some (9, rc, m)) (hcat : am_cat rest ≤ 8) (kk : am_GG TP X (d + 1) o ini cc ret (pc + 3) L (.int (if y < x then y else x) :: rest) σ out) : am_GG TP X (d + 1) o ini cc ret pc L (.int y :: .int x :: rest) σ out :=
  r_b1 (κ := 9) (rc := rc) (m := m) hd (by simp [am_call, hc]) (fun n hn => Or.inr (Or.inr (Or.inr (Or.inr (Or.inr (Or.inl ⟨rfl, x, y, rest, rfl, hcat, hn⟩)))))) kk
theorem r_cpy {n dp sp : Int32} {x y nx ny : Nat} {F : am_H → Option ρ} (hd : decode cc pc = .ok (.invokestatic ix, 3)) (hc : am_ct o ix = some (4, rc, m)) (hcat : am_cat rest ≤ 8) (hx : S[x]? = some (.inr (.int, nx))) (hy : S[y]? = some (.inr (.int, ny))) (hf : cpI h x nx sp y ny dp n F = some r) (kk : ∀ h1 : am_H, h1.2.2 = h.2.2 → F h1 = some r → am_GG TP X (d + 1) o ini cc ret (pc + 3) L rest (S, h1) out) : am_GG TP X (d + 1) o ini cc ret pc L (.int n :: .int dp :: .ref y :: .int sp :: .ref x :: rest) (S, h) out := by
  unfold cpI at hf
  split at hf
  · rename_i hcc
    refine r_b1 (κ := 4) (rc := rc) (m := m) (st' := rest) (σ1 := (S, (fun a => if a = y then va_cpy (h.1 x) (h.1 y) sp.toNatClampNeg dp.toNatClampNeg n.toNatClampNeg else h.1 a), h.2.1, h.2.2)) hd (by simp [am_call, hc]) (fun n hn => Or.inr (Or.inl ⟨rfl, rest, _, ?_, hcat, hn⟩)) (kk _ rfl hf)
    simp only [am_cpy, hx, hy]
    rw [if_pos hcc]
  · cases hf
end CALL
end AMR
/-! MORE ROWS: numbers by name, calls, less known locals -/
def cal {α ρ : Type} (x : Option α) (F : α → Option ρ) : Option ρ := match x with
  | some v => F v
  | none => none
theorem cal_inv {α ρ : Type} {x : Option α} {F : α → Option ρ} {r : ρ} (h : cal x F = some r) : ∃ v, x = some v ∧ F v = some r := by
  unfold cal at h
  split at h
  · rename_i v
    exact ⟨v, rfl, h⟩
  · cases h
def cal2 {α ρ : Type} (x : Option (α × am_H)) (F : α → am_H → Option ρ) : Option ρ := match x with
  | some v => F v.1 v.2
  | none => none
theorem cal2_inv {α ρ : Type} {x : Option (α × am_H)} {F : α → am_H → Option ρ} {r : ρ} (h : cal2 x F = some r) : ∃ v h1, x = some (v, h1) ∧ F v h1 = some r := by
  unfold cal2 at h
  split at h
  · rename_i v
    exact ⟨v.1, v.2, rfl, h⟩
  · cases h
def am_le : am_L → am_L → Prop
  | [], [] => True
  | none :: r, _ :: r' => am_le r r'
  | some v :: r, some v' :: r' => v = v' ∧ am_le r r'
  | _, _ => False
theorem am_le_0 : am_le [] [] := trivial
theorem am_le_n {r r' : am_L} {v : Option Value} (h : am_le r r') : am_le (none :: r) (v :: r') := h
theorem am_le_s {r r' : am_L} {v : Value} (h : am_le r r') : am_le (some v :: r) (some v :: r') := ⟨rfl, h⟩
theorem am_le_at : ∀ {L L' : am_L}, am_le L L' → L.length = L'.length ∧ ∀ (i : Nat) (v : Value), L[i]? = some (some v) → L'[i]? = some (some v)
  | [], [], _ => ⟨rfl, fun i v h => by simp at h⟩
  | none :: r, u :: r', h => by
    have ih := am_le_at (L := r) (L' := r') h
    refine ⟨by simp [ih.1], fun i v hv => ?_⟩
    cases i with
    | zero => simp at hv
    | succ i => simpa using ih.2 i v (by simpa using hv)
  | some u :: r, some u' :: r', h => by
    obtain ⟨rfl, h⟩ := h
    have ih := am_le_at (L := r) (L' := r') h
    refine ⟨by simp [ih.1], fun i v hv => ?_⟩
    cases i with
    | zero => simpa using hv
    | succ i => simpa using ih.2 i v (by simpa using hv)
  | some u :: r, none :: r', h => by simp [am_le] at h
  | some u :: r, [], h => by simp [am_le] at h
  | none :: r, [], h => by simp [am_le] at h
  | [], u :: r', h => by simp [am_le] at h
def am_le2 (L L' : am_L) : Prop := L.length = L'.length ∧ ∀ (i : Nat) (v : Value), L[i]? = some (some v) → L'[i]? = some (some v)
theorem am_le_cut {L L' : am_L} (h : am_le2 L L') (i : Nat) : am_le2 (am_cut L i) (am_cut L' i) := by
  refine ⟨by rw [am_cut_len, am_cut_len]; exact h.1, fun j v hv => ?_⟩
  obtain ⟨h1, h2⟩ := am_cut_get hv
  have h3 := h.2 j v h1
  unfold am_cut
  cases i with
  | zero => exact h3
  | succ i =>
    simp only
    split
    · rename_i u hu
      split
      · rename_i hc
        by_cases hj : j = i
        · subst hj
          rw [h3] at hu
          simp only [Option.some.injEq] at hu
          subst hu
          exact absurd ⟨rfl, hc⟩ h2
        · rw [List.getElem?_set_ne (Ne.symm hj)]
          exact h3
      · exact h3
    · exact h3
theorem am_le_set {L L' : am_L} (h : am_le2 L L') (i : Nat) (w : Option Value) : am_le2 (L.set i w) (L'.set i w) := by
  refine ⟨by simp [h.1], fun j v hv => ?_⟩
  by_cases hj : j = i
  · subst hj
    by_cases hl : j < L.length
    · rw [List.getElem?_set_self hl] at hv
      rw [List.getElem?_set_self (by rw [← h.1]; exact hl)]
      exact hv
    · rw [List.getElem?_eq_none (by simp; omega)] at hv
      simp at hv
  · rw [List.getElem?_set_ne (Ne.symm hj)] at hv ⊢
    exact h.2 j v hv
theorem am_le_ld {L L' : am_L} (h : am_le2 L L') {i : Nat} {v : Value} (hv : am_ld L i = v) (hn : v ≠ .float 0) : am_ld L' i = v := by
  have := h.2 i v (am_ld_inv hv hn)
  unfold am_ld
  rw [this]
theorem am_le_loc {L L' L1 : am_L} {i : Instr} {st st' : List Value} {k : Nat} (h : am_le2 L L') (hl : am_loc i L st = some (k, L1, st')) : ∃ L2, am_loc i L' st = some (k, L2, st') ∧ am_le2 L1 L2 := by
  have s1 : ∀ j v, am_le2 (am_st1 L j v) (am_st1 L' j v) := fun j v => am_le_set (am_le_cut h j) j _
  have s2 : ∀ j v, am_le2 (am_st2 L j v) (am_st2 L' j v) := fun j v => am_le_set (am_le_set (am_le_cut h j) j _) (j + 1) _
  unfold am_loc at hl
  split at hl
  · unfold am_ldI at hl
    split at hl <;> simp only [Option.some.injEq, Prod.mk.injEq, reduceCtorEq] at hl
    rename_i x hv
    obtain ⟨rfl, rfl, rfl⟩ := hl
    exact ⟨L', by simp [am_loc, am_ldI, am_le_ld h hv], h⟩
  · unfold am_ldI at hl
    split at hl <;> simp only [Option.some.injEq, Prod.mk.injEq, reduceCtorEq] at hl
    rename_i x hv
    obtain ⟨rfl, rfl, rfl⟩ := hl
    exact ⟨L', by simp [am_loc, am_ldI, am_le_ld h hv], h⟩
  · unfold am_ldL at hl
    split at hl <;> simp only [Option.some.injEq, Prod.mk.injEq, reduceCtorEq] at hl
    rename_i x hv
    obtain ⟨rfl, rfl, rfl⟩ := hl
    exact ⟨L', by simp [am_loc, am_ldL, am_le_ld h hv], h⟩
  · unfold am_ldL at hl
    split at hl <;> simp only [Option.some.injEq, Prod.mk.injEq, reduceCtorEq] at hl
    rename_i x hv
    obtain ⟨rfl, rfl, rfl⟩ := hl
    exact ⟨L', by simp [am_loc, am_ldL, am_le_ld h hv], h⟩
  · unfold am_ldA at hl
    split at hl <;> simp only [Option.some.injEq, Prod.mk.injEq, reduceCtorEq] at hl
    all_goals (first | rename_i x hv | rename_i hv)
    all_goals (obtain ⟨rfl, rfl, rfl⟩ := hl)
    all_goals exact ⟨L', by simp [am_loc, am_ldA, am_le_ld h hv], h⟩
  · unfold am_ldA at hl
    split at hl <;> simp only [Option.some.injEq, Prod.mk.injEq, reduceCtorEq] at hl
    all_goals (first | rename_i x hv | rename_i hv)
    all_goals (obtain ⟨rfl, rfl, rfl⟩ := hl)
    all_goals exact ⟨L', by simp [am_loc, am_ldA, am_le_ld h hv], h⟩
  · unfold am_stI at hl
    split at hl <;> (try split at hl) <;> simp only [Option.some.injEq, Prod.mk.injEq, reduceCtorEq] at hl
    rename_i hi
    obtain ⟨rfl, rfl, rfl⟩ := hl
    exact ⟨_, by simp [am_loc, am_stI, ← h.1, hi], s1 _ _⟩
  · unfold am_stI at hl
    split at hl <;> (try split at hl) <;> simp only [Option.some.injEq, Prod.mk.injEq, reduceCtorEq] at hl
    rename_i hi
    obtain ⟨rfl, rfl, rfl⟩ := hl
    exact ⟨_, by simp [am_loc, am_stI, ← h.1, hi], s1 _ _⟩
  · unfold am_stL at hl
    split at hl <;> (try split at hl) <;> simp only [Option.some.injEq, Prod.mk.injEq, reduceCtorEq] at hl
    rename_i hi
    obtain ⟨rfl, rfl, rfl⟩ := hl
    exact ⟨_, by simp [am_loc, am_stL, ← h.1, hi], s2 _ _⟩
  · unfold am_stL at hl
    split at hl <;> (try split at hl) <;> simp only [Option.some.injEq, Prod.mk.injEq, reduceCtorEq] at hl
    rename_i hi
    obtain ⟨rfl, rfl, rfl⟩ := hl
    exact ⟨_, by simp [am_loc, am_stL, ← h.1, hi], s2 _ _⟩
  · unfold am_stA at hl
    split at hl <;> (try split at hl) <;> simp only [Option.some.injEq, Prod.mk.injEq, reduceCtorEq] at hl
    all_goals rename_i hi
    all_goals (obtain ⟨rfl, rfl, rfl⟩ := hl)
    all_goals exact ⟨_, by simp [am_loc, am_stA, ← h.1, hi], s1 _ _⟩
  · unfold am_stA at hl
    split at hl <;> (try split at hl) <;> simp only [Option.some.injEq, Prod.mk.injEq, reduceCtorEq] at hl
    all_goals rename_i hi
    all_goals (obtain ⟨rfl, rfl, rfl⟩ := hl)
    all_goals exact ⟨_, by simp [am_loc, am_stA, ← h.1, hi], s1 _ _⟩
  · split at hl <;> (try split at hl) <;> simp only [Option.some.injEq, Prod.mk.injEq, reduceCtorEq] at hl
    rename_i x hv hi
    obtain ⟨rfl, rfl, rfl⟩ := hl
    exact ⟨_, by simp only [am_loc, am_le_ld h hv (by simp), ← h.1, if_pos hi], s1 _ _⟩
  · simp at hl
theorem am_weak {X : am_X} : ∀ (n : Nat) {d o : Nat} {ini : Bool} {cc : ByteArray} {ret : Option FieldType} {pc : Nat} {L L' : am_L} {st : List Value} {σ : am_S} {out : Option Value × am_S}, am_le2 L L' → am_run X n d o ini cc ret pc L st σ = some out → am_run X n d o ini cc ret pc L' st σ = some out := by
  intro n
  induction n with
  | zero => intro d o ini cc ret pc L L' st σ out _ h; simp [am_run] at h
  | succ n ih =>
    intro d o ini cc ret pc L L' st σ out hle h
    obtain ⟨i, len, hd, hh⟩ := am_inv_run h
    clear h
    refine am_fwd hd ?_
    rcases hh with ⟨v, hv, h2, h3⟩ | ⟨st', hv, h⟩ | ⟨L1, st', hv, h⟩ | ⟨t, off, st', q, hv, h2, hj, h⟩ | ⟨off, st', q, hv, hj, h⟩ | ⟨st', σ', hv, h⟩ | ⟨κ, rc, mm, d', hv, h2, h3, hh⟩
    · exact Or.inl ⟨v, hv, h2, h3⟩
    · exact Or.inr (Or.inl ⟨st', hv, ih hle h⟩)
    · obtain ⟨L2, g1, g2⟩ := am_le_loc hle hv
      exact Or.inr (Or.inr (Or.inl ⟨L2, st', g1, ih g2 h⟩))
    · exact Or.inr (Or.inr (Or.inr (Or.inl ⟨t, off, st', q, hv, h2, hj, ih hle h⟩)))
    · exact Or.inr (Or.inr (Or.inr (Or.inr (Or.inl ⟨off, st', q, hv, hj, ih hle h⟩))))
    · exact Or.inr (Or.inr (Or.inr (Or.inr (Or.inr (Or.inl ⟨st', σ', hv, ih hle h⟩)))))
    · refine Or.inr (Or.inr (Or.inr (Or.inr (Or.inr (Or.inr ⟨κ, rc, mm, d', hv, h2, h3, ?_⟩)))))
      unfold am_callV at hh ⊢
      rcases hh with h | h | h | h | h | h | h
      · obtain ⟨e, a, rest, e2, hcat, h⟩ := h
        exact Or.inl ⟨e, a, rest, e2, hcat, ih hle h⟩
      · obtain ⟨e, rest, σ', hc, hcat, h⟩ := h
        exact Or.inr (Or.inl ⟨e, rest, σ', hc, hcat, ih hle h⟩)
      · obtain ⟨e, rest, e2, hcat, hdd, h⟩ := h
        exact Or.inr (Or.inr (Or.inl ⟨e, rest, e2, hcat, hdd, ih hle h⟩))
      · obtain ⟨e, j, rest, e2, hcat, hdd, hj, h⟩ := h
        exact Or.inr (Or.inr (Or.inr (Or.inl ⟨e, j, rest, e2, hcat, hdd, hj, ih hle h⟩)))
      · obtain ⟨e, x, y, rest, e2, hcat, h⟩ := h
        exact Or.inr (Or.inr (Or.inr (Or.inr (Or.inl ⟨e, x, y, rest, e2, hcat, ih hle h⟩))))
      · obtain ⟨e, x, y, rest, e2, hcat, h⟩ := h
        exact Or.inr (Or.inr (Or.inr (Or.inr (Or.inr (Or.inl ⟨e, x, y, rest, e2, hcat, ih hle h⟩)))))
      · obtain ⟨e, as, rest, v, σ', hp, hcat, hlen, h1, h⟩ := h
        exact Or.inr (Or.inr (Or.inr (Or.inr (Or.inr (Or.inr ⟨e, as, rest, v, σ', hp, hcat, hlen, h1, ih hle h⟩)))))
section AMR2
variable {S : List am_Sh} {TP : (Nat → Nat → Option Nat) → Prop}
variable {X : am_X} {d o : Nat} {ini : Bool} {cc : ByteArray} {ret : Option FieldType} {pc : Nat} {L L' : am_L} {st st' : List Value} {σ : am_S} {out : Option Value × am_S}
theorem r_weak (hle : am_le L L') (kk : am_GG TP X d o ini cc ret pc L st σ out) : am_GG TP X d o ini cc ret pc L' st σ out := by
  obtain ⟨⟨n, hn⟩, tp⟩ := kk
  exact ⟨⟨n, am_weak n (am_le_at hle) hn⟩, tp⟩
theorem r_iconst {n : Int} {v : Int32} (hd : decode cc pc = .ok (.iconst n, 1)) (hv : Int32.ofInt n = v) (kk : am_GG TP X d o ini cc ret (pc + 1) L (.int v :: st) σ out) : am_GG TP X d o ini cc ret pc L st σ out := r_alu hd rfl (by rw [hv]; exact kk)
theorem r_bipush {n : Int} {v : Int32} (hd : decode cc pc = .ok (.bipush n, 2)) (hv : (Int8.ofInt n).toInt32 = v) (kk : am_GG TP X d o ini cc ret (pc + 2) L (.int v :: st) σ out) : am_GG TP X d o ini cc ret pc L st σ out := r_alu hd rfl (by rw [hv]; exact kk)
theorem r_sipush {n : Int} {v : Int32} (hd : decode cc pc = .ok (.sipush n, 3)) (hv : (Int16.ofInt n).toInt32 = v) (kk : am_GG TP X d o ini cc ret (pc + 3) L (.int v :: st) σ out) : am_GG TP X d o ini cc ret pc L st σ out := r_alu hd rfl (by rw [hv]; exact kk)
theorem r_divc {x y : Int32} (hd : decode cc pc = .ok (.idiv, 1)) (hy : ¬ y = 0) (kk : am_GG TP X d o ini cc ret (pc + 1) L (.int (x / y) :: st) σ out) : am_GG TP X d o ini cc ret pc L (.int y :: .int x :: st) σ out := r_alu hd (by simp [am_alu, hy]) kk
theorem r_remc {x y : Int32} (hd : decode cc pc = .ok (.irem, 1)) (hy : ¬ y = 0) (kk : am_GG TP X d o ini cc ret (pc + 1) L (.int (x - x / y * y) :: st) σ out) : am_GG TP X d o ini cc ret pc L (.int y :: .int x :: st) σ out := r_alu hd (by simp [am_alu, hy]) kk
theorem r_z0 (T : TP σ.2.2.2) (hd : decode cc pc = .ok (.ireturn, 1)) : am_GG TP X d o ini cc (some .boolean) pc L [.int 0] σ (some (.int 0), σ) := r_ret T hd (by decide +kernel)
theorem r_z1 (T : TP σ.2.2.2) (hd : decode cc pc = .ok (.ireturn, 1)) : am_GG TP X d o ini cc (some .boolean) pc L [.int 1] σ (some (.int 1), σ) := r_ret T hd (by decide +kernel)
theorem tp_eq {h h1 : am_H} (e : h1.2.2 = h.2.2) (T : TP h.2.2) : TP h1.2.2 := by rw [e]; exact T
theorem tp_kept_45 {h : am_H} (T : am_TP h.2.2) {i : Int32} {y : Nat} (hin : am_in i 41) (hy : h.2.2 45 i.toNatClampNeg = some y) : y ∈ am_ST := by
  obtain ⟨s, h1, h2⟩ := T.2.2 i.toNatClampNeg (by show i.toInt.toNat < 41; have := hin.1; have := hin.2; omega)
  rw [h1] at hy
  cases hy
  exact h2
theorem tp_kept_375 {h : am_H} (T : am_TP h.2.2) {i : Int32} {y : Nat} (hin : am_in i 3) (hy : h.2.2 375 i.toNatClampNeg = some y) : y ∈ am_ST := by
  have hj : i.toNatClampNeg < 3 := by show i.toInt.toNat < 3; have := hin.1; have := hin.2; omega
  rcases (show i.toNatClampNeg = 0 ∨ i.toNatClampNeg = 1 ∨ i.toNatClampNeg = 2 by omega) with e | e | e <;> rw [e] at hy
  · rw [tp_375_0 T] at hy; cases hy; decide
  · rw [tp_375_1 T] at hy; cases hy; decide
  · rw [tp_375_2 T] at hy; cases hy; decide
theorem tp_R0_45 : ∀ q ∈ am_R0, q.1 ≠ 45 := by decide +kernel
theorem tp_ST_45 : ∀ s ∈ am_ST, s ≠ 45 := by decide +kernel
theorem tp_set {h h1 : am_H} {i : Int32} {y : Nat} (e : h1.2.2 = am_u2 h.2.2 45 i.toNatClampNeg (some y)) (T : am_TP h.2.2) (hin : am_in i 41) (hy : y ∈ am_ST) : am_TP h1.2.2 := by
  rw [e]
  refine ⟨fun q hq => ?_, fun s hs => ?_, fun j hj => ?_⟩
  · rw [am_u2_ne (tp_R0_45 q hq)]
    exact T.1 q hq
  · rw [am_u2_ne (tp_ST_45 s hs)]
    exact T.2.1 s hs
  · by_cases hji : j = i.toNatClampNeg
    · exact ⟨y, by simp [am_u2, hji], hy⟩
    · obtain ⟨s, h1, h2⟩ := T.2.2 j hj
      exact ⟨s, by simp [am_u2, hji, h1], h2⟩
theorem r_swc {x v : Int32} {off : Int} {q k : Nat} {i : Instr} {ρ : Type} {A B : Option ρ} {r : ρ} (hd : decode cc pc = .ok (i, k)) (h : am_sw i (.int v :: st) = some (off, st)) (hj : am_jmp pc off = some q) (hf : (if x = v then A else B) = some r) (kt : A = some r → am_GG TP X d o ini cc ret q L st σ out) (kf : ¬ x = v → B = some r → am_GG TP X d o ini cc ret pc L (.int x :: st) σ out) : am_GG TP X d o ini cc ret pc L (.int x :: st) σ out := by
  by_cases hx : x = v
  · rw [if_pos hx] at hf
    subst hx
    exact r_sw hd h hj (kt hf)
  · rw [if_neg hx] at hf
    exact kf hx hf
def am_swn (d : Int) (x : Int32) : Int → List Int → Prop
  | _, [] => True
  | lo, q :: r => (q = d ∨ ¬ x = Int32.ofInt lo) ∧ am_swn d x (lo + 1) r
theorem am_swn_at {d : Int} {x : Int32} : ∀ (l : List Int) (lo : Int) (j : Nat), am_swn d x lo l → x.toInt = lo + j → j < l.length → l[j]? = some d
  | [], _, j, _, _, hj => by simp at hj
  | q :: r, lo, 0, h, e, _ => by
    rcases h.1 with h1 | h1
    · simp [h1]
    · refine absurd ?_ h1
      rw [show lo = x.toInt by simpa using e.symm]
      simp
  | q :: r, lo, j + 1, h, e, hj => by
    simp only [List.getElem?_cons_succ]
    exact am_swn_at r (lo + 1) j h.2 (by rw [e]; omega) (by simpa using hj)
theorem r_swdt {x : Int32} {dd lo hi : Int} {os : Array Int} {q k : Nat} (hd : decode cc pc = .ok (.tableswitch dd lo hi os, k)) (hsz : hi - lo + 1 ≤ os.toList.length) (hn : am_swn dd x lo os.toList) (hj : am_jmp pc dd = some q) (kk : am_GG TP X d o ini cc ret q L st σ out) : am_GG TP X d o ini cc ret pc L (.int x :: st) σ out := by
  refine r_sw hd (off := dd) (st' := st) ?_ hj kk
  unfold am_sw
  simp only
  split
  · rfl
  · rename_i hc
    have h1 := am_swn_at os.toList lo (x.toInt - lo).toNat hn (by omega) (by omega)
    rw [Array.getElem?_toList] at h1
    rw [h1]
def am_lkn (x : Int32) : List (Int × Int) → Prop
  | [] => True
  | q :: r => ¬ x = Int32.ofInt q.1 ∧ am_lkn x r
theorem am_lkn_def {x : Int32} {dd : Int} : ∀ (l : List (Int × Int)), am_lkn x l → Op.lookupswitch.offset l dd x.toInt = dd
  | [], _ => rfl
  | (a, q) :: r, h => by
    rw [Op.lookupswitch.offset_cons, if_neg ?_]
    · exact am_lkn_def r h.2
    · intro e
      refine h.1 ?_
      simp only
      rw [e]
      simp
theorem r_swdl {x : Int32} {dd : Int} {ps : Array (Int × Int)} {q k : Nat} (hd : decode cc pc = .ok (.lookupswitch dd ps, k)) (hs : (ps.toList.zip (ps.toList.drop 1)).all (fun (a, next) => a.1 < next.1) = true) (hn : am_lkn x ps.toList) (hj : am_jmp pc dd = some q) (kk : am_GG TP X d o ini cc ret q L st σ out) : am_GG TP X d o ini cc ret pc L (.int x :: st) σ out := by
  refine r_sw hd (off := dd) (st' := st) ?_ hj kk
  unfold am_sw
  simp only
  rw [if_pos hs, am_lkn_def _ hn]
theorem r_ri {v : Int32} (T : TP σ.2.2.2) (hd : decode cc pc = .ok (.ireturn, 1)) : am_GG TP X d o ini cc (some .int) pc L [.int v] σ (some (.int v), σ) := r_ret T hd (by simp [am_ret, vp_nar_int])
end AMR2
def rdX {ρ : Type} (X : am_X) (i : Int32) (F : Int32 → Option ρ) : Option ρ := if am_in i X.1 then F (X.2 i.toNatClampNeg) else none
section AMR3
variable {S : List am_Sh} {TP : (Nat → Nat → Option Nat) → Prop}
variable {X : am_X} {d o : Nat} {ini : Bool} {cc : ByteArray} {ret : Option FieldType} {pc : Nat} {L : am_L} {st : List Value} {σ : am_S} {out : Option Value × am_S} {ρ : Type} {r : ρ}
theorem r_sld {i : Int32} {F : Int32 → Option ρ} (hd : decode cc pc = .ok (.iaload, 1)) (hf : rdX X i F = some r) (kk : ∀ v, F v = some r → am_GG TP X d o ini cc ret (pc + 1) L (.int v :: st) σ out) : am_GG TP X d o ini cc ret pc L (.int i :: .retAddr 0 :: st) σ out := by
  unfold rdX at hf
  split at hf
  · rename_i hc
    refine r_hp hd (st' := .int (X.2 i.toNatClampNeg) :: st) (σ' := σ) ?_ (kk _ hf)
    simp only [am_hp]
    rw [if_pos hc]
  · cases hf
theorem r_slen (hd : decode cc pc = .ok (.arraylength, 1)) (kk : am_GG TP X d o ini cc ret (pc + 1) L (.int (Int32.ofNat X.1) :: st) σ out) : am_GG TP X d o ini cc ret pc L (.retAddr 0 :: st) σ out := r_hp hd rfl kk
theorem r_alen2 {a n : Nat} {v : Int32} {ty : FieldType} {j : Nat} {h : am_H} (hd : decode cc pc = .ok (.arraylength, 1)) (hs : S[a]? = some (.inr (ty, n))) (ht : am_tk ty = some j) (hv : Int32.ofNat n = v) (kk : am_GG TP X d o ini cc ret (pc + 1) L (.int v :: st) (S, h) out) : am_GG TP X d o ini cc ret pc L (.ref a :: st) (S, h) out := by
  subst hv
  exact r_alen hd hs ht kk
end AMR3
