/-! ROWS FOR THE LIFTED METHODS: h is the store without the shapes -/
abbrev am_H : Type := (Nat → Nat → Int32) × (Nat → Nat → Int64) × (Nat → Nat → Option Nat)
def bnd {α ρ : Type} (x : α) (F : α → Option ρ) : Option ρ := F x
def rdI {ρ : Type} (h : am_H) (a n : Nat) (i : Int32) (F : Int32 → Option ρ) : Option ρ := if am_in i n then F (h.1 a i.toNatClampNeg) else none
def rdL {ρ : Type} (h : am_H) (a n : Nat) (i : Int32) (F : Int64 → Option ρ) : Option ρ := if am_in i n then F (h.2.1 a i.toNatClampNeg) else none
def rdR {ρ : Type} (h : am_H) (a n : Nat) (i : Int32) (F : Nat → Option ρ) : Option ρ := if am_in i n then (match h.2.2 a i.toNatClampNeg with
  | some y => F y
  | none => none) else none
def wrI {ρ : Type} (h : am_H) (a n : Nat) (i v : Int32) (F : am_H → Option ρ) : Option ρ := if am_in i n then F (am_u2 h.1 a i.toNatClampNeg v, h.2.1, h.2.2) else none
def wrL {ρ : Type} (h : am_H) (a n : Nat) (i : Int32) (v : Int64) (F : am_H → Option ρ) : Option ρ := if am_in i n then F (h.1, am_u2 h.2.1 a i.toNatClampNeg v, h.2.2) else none
def wrR {ρ : Type} (h : am_H) (a n : Nat) (i : Int32) (v : Nat) (F : am_H → Option ρ) : Option ρ := if am_in i n then F (h.1, h.2.1, am_u2 h.2.2 a i.toNatClampNeg (some v)) else none
def ptI {ρ : Type} (h : am_H) (a k : Nat) (v : Int32) (F : am_H → Option ρ) : Option ρ := F (am_u2 h.1 a k v, h.2.1, h.2.2)
def ptL {ρ : Type} (h : am_H) (a k : Nat) (v : Int64) (F : am_H → Option ρ) : Option ρ := F (h.1, am_u2 h.2.1 a k v, h.2.2)
/-- System.arraycopy -/
def cpI {ρ : Type} (h : am_H) (x nx : Nat) (sp : Int32) (y ny : Nat) (dp n : Int32) (F : am_H → Option ρ) : Option ρ := if 0 ≤ sp.toInt ∧ 0 ≤ dp.toInt ∧ 0 ≤ n.toInt ∧ sp.toInt + n.toInt ≤ nx ∧ dp.toInt + n.toInt ≤ ny ∧ x ≠ y then F ((fun a => if a = y then va_cpy (h.1 x) (h.1 y) sp.toNatClampNeg dp.toNatClampNeg n.toNatClampNeg else h.1 a), h.2.1, h.2.2) else none
def dvI {ρ : Type} (y : Int32) (F : Option ρ) : Option ρ := if y = 0 then none else F
/-- a flag that is given back -/
def zrt {ρ : Type} (v : Int32) (F : Option ρ) : Option ρ := if narrow .boolean (.int v) = .int v then F else none
section AMR
variable {X : am_X} {d o : Nat} {ini : Bool} {cc : ByteArray} {ret : Option FieldType} {pc : Nat} {L L' : am_L} {st st' : List Value} {σ : am_S} {out : Option Value × am_S} {i : Instr} {k : Nat} {h : am_H} {ρ : Type} {r : ρ}
theorem r_go {k : Nat} (kk : am_R X d o ini cc ret pc L st σ out) (f : ∀ n, am_run X n d o ini cc ret pc L st σ = some out → am_run X (n + 1) d o ini cc ret k L' st' (σ) = some out) : am_R X d o ini cc ret k L' st' σ out := by
  obtain ⟨n, hn⟩ := kk
  exact ⟨n + 1, f n hn⟩
theorem r_alu (hd : decode cc pc = .ok (i, k)) (h : am_alu i st = some (k, st')) (kk : am_R X d o ini cc ret (pc + k) L st' σ out) : am_R X d o ini cc ret pc L st σ out := by
  obtain ⟨n, hn⟩ := kk
  exact ⟨n + 1, am_fwd hd (Or.inr (Or.inl ⟨st', h, hn⟩))⟩
theorem r_div {x y : Int32} {F : Option ρ} (hd : decode cc pc = .ok (.idiv, 1)) (hf : dvI y F = some r) (kk : F = some r → am_R X d o ini cc ret (pc + 1) L (.int (x / y) :: st) σ out) : am_R X d o ini cc ret pc L (.int y :: .int x :: st) σ out := by
  unfold dvI at hf
  split at hf
  · cases hf
  · rename_i hy
    exact r_alu hd (by simp [am_alu, hy]) (kk hf)
theorem r_rem {x y : Int32} {F : Option ρ} (hd : decode cc pc = .ok (.irem, 1)) (hf : dvI y F = some r) (kk : F = some r → am_R X d o ini cc ret (pc + 1) L (.int (x - x / y * y) :: st) σ out) : am_R X d o ini cc ret pc L (.int y :: .int x :: st) σ out := by
  unfold dvI at hf
  split at hf
  · cases hf
  · rename_i hy
    exact r_alu hd (by simp [am_alu, hy]) (kk hf)
theorem r_loc (hd : decode cc pc = .ok (i, k)) (h : am_loc i L st = some (k, L', st')) (kk : am_R X d o ini cc ret (pc + k) L' st' σ out) : am_R X d o ini cc ret pc L st σ out := by
  obtain ⟨n, hn⟩ := kk
  exact ⟨n + 1, am_fwd hd (Or.inr (Or.inr (Or.inl ⟨L', st', h, hn⟩)))⟩
theorem r_br {t : Bool} {off : Int} {q : Nat} (hd : decode cc pc = .ok (i, 3)) (h : am_br i st = some (t, off, st')) (hj : am_jmp pc off = some q) (kk : am_R X d o ini cc ret (if t = true then q else pc + 3) L st' σ out) : am_R X d o ini cc ret pc L st σ out := by
  obtain ⟨n, hn⟩ := kk
  exact ⟨n + 1, am_fwd hd (Or.inr (Or.inr (Or.inr (Or.inl ⟨t, off, st', q, h, rfl, hj, hn⟩))))⟩
theorem r_goto {off : Int} {q : Nat} (hd : decode cc pc = .ok (.goto off, 3)) (hj : am_jmp pc off = some q) (kk : am_R X d o ini cc ret q L st σ out) : am_R X d o ini cc ret pc L st σ out := r_br hd rfl hj kk
theorem r_brc {c : Prop} [Decidable c] {A B : Option ρ} {off : Int} {q : Nat} (hd : decode cc pc = .ok (i, 3)) (h : am_br i st = am_if c off st') (hj : am_jmp pc off = some q) (hf : (if c then A else B) = some r) (kt : A = some r → am_R X d o ini cc ret q L st' σ out) (kf : B = some r → am_R X d o ini cc ret (pc + 3) L st' σ out) : am_R X d o ini cc ret pc L st σ out := by
  refine r_br hd h hj ?_
  by_cases hc : c
  · rw [if_pos hc] at hf
    rw [if_pos (by simpa using hc)]
    exact kt hf
  · rw [if_neg hc] at hf
    rw [if_neg (by simpa using hc)]
    exact kf hf
/-- the same, jumping where c is not -/
theorem r_brn {c e : Prop} [Decidable c] [Decidable e] (hce : e ↔ ¬ c) {A B : Option ρ} {off : Int} {q : Nat} (hd : decode cc pc = .ok (i, 3)) (h : am_br i st = am_if e off st') (hj : am_jmp pc off = some q) (hf : (if c then B else A) = some r) (kt : A = some r → am_R X d o ini cc ret q L st' σ out) (kf : B = some r → am_R X d o ini cc ret (pc + 3) L st' σ out) : am_R X d o ini cc ret pc L st σ out := by
  refine r_br hd h hj ?_
  by_cases hc : c
  · rw [if_pos hc] at hf
    rw [if_neg (by simpa [hce] using hc)]
    exact kf hf
  · rw [if_neg hc] at hf
    rw [if_pos (by simpa [hce] using hc)]
    exact kt hf
section BR
variable {x y : Int32} {A B : Option ρ} {off : Int} {q : Nat}
theorem r_eq0 (hd : decode cc pc = .ok (.ifCond .eq off, 3)) (hj : am_jmp pc off = some q) (hf : (if x = 0 then A else B) = some r) (kt : A = some r → am_R X d o ini cc ret q L st σ out) (kf : B = some r → am_R X d o ini cc ret (pc + 3) L st σ out) : am_R X d o ini cc ret pc L (.int x :: st) σ out := r_brc hd rfl hj hf kt kf
theorem r_ne0 (hd : decode cc pc = .ok (.ifCond .ne off, 3)) (hj : am_jmp pc off = some q) (hf : (if x = 0 then B else A) = some r) (kt : A = some r → am_R X d o ini cc ret q L st σ out) (kf : B = some r → am_R X d o ini cc ret (pc + 3) L st σ out) : am_R X d o ini cc ret pc L (.int x :: st) σ out := r_brn Iff.rfl hd rfl hj hf kt kf
theorem r_lt0 (hd : decode cc pc = .ok (.ifCond .lt off, 3)) (hj : am_jmp pc off = some q) (hf : (if x < 0 then A else B) = some r) (kt : A = some r → am_R X d o ini cc ret q L st σ out) (kf : B = some r → am_R X d o ini cc ret (pc + 3) L st σ out) : am_R X d o ini cc ret pc L (.int x :: st) σ out := r_brc hd rfl hj hf kt kf
theorem r_ge0 (hd : decode cc pc = .ok (.ifCond .ge off, 3)) (hj : am_jmp pc off = some q) (hf : (if x < 0 then B else A) = some r) (kt : A = some r → am_R X d o ini cc ret q L st σ out) (kf : B = some r → am_R X d o ini cc ret (pc + 3) L st σ out) : am_R X d o ini cc ret pc L (.int x :: st) σ out := r_brn Int32.not_lt.symm hd rfl hj hf kt kf
theorem r_gt0 (hd : decode cc pc = .ok (.ifCond .gt off, 3)) (hj : am_jmp pc off = some q) (hf : (if 0 < x then A else B) = some r) (kt : A = some r → am_R X d o ini cc ret q L st σ out) (kf : B = some r → am_R X d o ini cc ret (pc + 3) L st σ out) : am_R X d o ini cc ret pc L (.int x :: st) σ out := r_brc hd rfl hj hf kt kf
theorem r_le0 (hd : decode cc pc = .ok (.ifCond .le off, 3)) (hj : am_jmp pc off = some q) (hf : (if 0 < x then B else A) = some r) (kt : A = some r → am_R X d o ini cc ret q L st σ out) (kf : B = some r → am_R X d o ini cc ret (pc + 3) L st σ out) : am_R X d o ini cc ret pc L (.int x :: st) σ out := r_brn Int32.not_lt.symm hd rfl hj hf kt kf
theorem r_eq (hd : decode cc pc = .ok (.if_icmp .eq off, 3)) (hj : am_jmp pc off = some q) (hf : (if x = y then A else B) = some r) (kt : A = some r → am_R X d o ini cc ret q L st σ out) (kf : B = some r → am_R X d o ini cc ret (pc + 3) L st σ out) : am_R X d o ini cc ret pc L (.int y :: .int x :: st) σ out := r_brc hd rfl hj hf kt kf
theorem r_ne (hd : decode cc pc = .ok (.if_icmp .ne off, 3)) (hj : am_jmp pc off = some q) (hf : (if x = y then B else A) = some r) (kt : A = some r → am_R X d o ini cc ret q L st σ out) (kf : B = some r → am_R X d o ini cc ret (pc + 3) L st σ out) : am_R X d o ini cc ret pc L (.int y :: .int x :: st) σ out := r_brn Iff.rfl hd rfl hj hf kt kf
theorem r_lt (hd : decode cc pc = .ok (.if_icmp .lt off, 3)) (hj : am_jmp pc off = some q) (hf : (if x < y then A else B) = some r) (kt : A = some r → am_R X d o ini cc ret q L st σ out) (kf : B = some r → am_R X d o ini cc ret (pc + 3) L st σ out) : am_R X d o ini cc ret pc L (.int y :: .int x :: st) σ out := r_brc hd rfl hj hf kt kf
theorem r_ge (hd : decode cc pc = .ok (.if_icmp .ge off, 3)) (hj : am_jmp pc off = some q) (hf : (if x < y then B else A) = some r) (kt : A = some r → am_R X d o ini cc ret q L st σ out) (kf : B = some r → am_R X d o ini cc ret (pc + 3) L st σ out) : am_R X d o ini cc ret pc L (.int y :: .int x :: st) σ out := r_brn Int32.not_lt.symm hd rfl hj hf kt kf
theorem r_gt (hd : decode cc pc = .ok (.if_icmp .gt off, 3)) (hj : am_jmp pc off = some q) (hf : (if y < x then A else B) = some r) (kt : A = some r → am_R X d o ini cc ret q L st σ out) (kf : B = some r → am_R X d o ini cc ret (pc + 3) L st σ out) : am_R X d o ini cc ret pc L (.int y :: .int x :: st) σ out := r_brc hd rfl hj hf kt kf
theorem r_le (hd : decode cc pc = .ok (.if_icmp .le off, 3)) (hj : am_jmp pc off = some q) (hf : (if y < x then B else A) = some r) (kt : A = some r → am_R X d o ini cc ret q L st σ out) (kf : B = some r → am_R X d o ini cc ret (pc + 3) L st σ out) : am_R X d o ini cc ret pc L (.int y :: .int x :: st) σ out := r_brn Int32.not_lt.symm hd rfl hj hf kt kf
theorem r_nullN (hd : decode cc pc = .ok (.ifnull off, 3)) (hj : am_jmp pc off = some q) (kk : am_R X d o ini cc ret q L st σ out) : am_R X d o ini cc ret pc L (.null :: st) σ out := r_br hd rfl hj kk
theorem r_nullR {a : Nat} (hd : decode cc pc = .ok (.ifnull off, 3)) (hj : am_jmp pc off = some q) (kk : am_R X d o ini cc ret (pc + 3) L st σ out) : am_R X d o ini cc ret pc L (.ref a :: st) σ out := r_br hd rfl hj kk
theorem r_nonnullN (hd : decode cc pc = .ok (.ifnonnull off, 3)) (hj : am_jmp pc off = some q) (kk : am_R X d o ini cc ret (pc + 3) L st σ out) : am_R X d o ini cc ret pc L (.null :: st) σ out := r_br hd rfl hj kk
theorem r_nonnullR {a : Nat} (hd : decode cc pc = .ok (.ifnonnull off, 3)) (hj : am_jmp pc off = some q) (kk : am_R X d o ini cc ret q L st σ out) : am_R X d o ini cc ret pc L (.ref a :: st) σ out := r_br hd rfl hj kk
end BR
theorem r_sw {off : Int} {q : Nat} (hd : decode cc pc = .ok (i, k)) (h : am_sw i st = some (off, st')) (hj : am_jmp pc off = some q) (kk : am_R X d o ini cc ret q L st' σ out) : am_R X d o ini cc ret pc L st σ out := by
  obtain ⟨n, hn⟩ := kk
  exact ⟨n + 1, am_fwd hd (Or.inr (Or.inr (Or.inr (Or.inr (Or.inl ⟨off, st', q, h, hj, hn⟩)))))⟩
theorem r_hp {σ' : am_S} (hd : decode cc pc = .ok (i, k)) (h : am_hp X o ini i st σ = some (k, st', σ')) (kk : am_R X d o ini cc ret (pc + k) L st' σ' out) : am_R X d o ini cc ret pc L st σ out := by
  obtain ⟨n, hn⟩ := kk
  exact ⟨n + 1, am_fwd hd (Or.inr (Or.inr (Or.inr (Or.inr (Or.inr (Or.inl ⟨st', σ', h, hn⟩))))))⟩
theorem r_ret {v : Option Value} (hd : decode cc pc = .ok (i, 1)) (h : am_ret i ret st = some v) : am_R X d o ini cc ret pc L st σ (v, σ) := ⟨1, am_fwd hd (Or.inl ⟨v, h, rfl, rfl⟩)⟩
theorem r_zret {v : Int32} {A : Option ρ} (hd : decode cc pc = .ok (.ireturn, 1)) (hf : zrt v A = some r) (kk : A = some r → out = (some (.int v), σ)) : am_R X d o ini cc (some .boolean) pc L [.int v] σ out := by
  unfold zrt at hf
  split at hf
  · rename_i hn
    rw [kk hf]
    exact r_ret hd (by simp [am_ret, hn])
  · cases hf
section HP
variable {ix a n ci fk : Nat} {F : Int32 → Option ρ}
theorem r_getI {F : Int32 → Option ρ} (hd : decode cc pc = .ok (.getfield ix, 3)) (hl : am_fl o ix = some (ci, fk)) (hs : am_SH[a]? = some (.inl ci)) (ht : am_ty ci fk = .int) (hf : bnd (h.1 a fk) F = some r) (kk : ∀ v, F v = some r → am_R X d o ini cc ret (pc + 3) L (.int v :: st) (am_SH, h) out) : am_R X d o ini cc ret pc L (.ref a :: st) (am_SH, h) out := by
  refine r_hp hd (st' := .int (h.1 a fk) :: st) (σ' := (am_SH, h)) ?_ (kk _ hf)
  simp [am_hp, hl, hs, ht, am_fv]
theorem r_getL {F : Int64 → Option ρ} (hd : decode cc pc = .ok (.getfield ix, 3)) (hl : am_fl o ix = some (ci, fk)) (hs : am_SH[a]? = some (.inl ci)) (ht : am_ty ci fk = .long) (hf : bnd (h.2.1 a fk) F = some r) (kk : ∀ v, F v = some r → am_R X d o ini cc ret (pc + 3) L (.long v :: st) (am_SH, h) out) : am_R X d o ini cc ret pc L (.ref a :: st) (am_SH, h) out := by
  refine r_hp hd (st' := .long (h.2.1 a fk) :: st) (σ' := (am_SH, h)) ?_ (kk _ hf)
  simp [am_hp, hl, hs, ht, am_fv]
theorem r_getR {y : Nat} (hd : decode cc pc = .ok (.getfield ix, 3)) (hl : am_fl o ix = some (ci, fk)) (hs : am_SH[a]? = some (.inl ci)) (ht : (∃ t, am_ty ci fk = .object t) ∨ ∃ t, am_ty ci fk = .array t) (hy : h.2.2 a fk = some y) (kk : am_R X d o ini cc ret (pc + 3) L (.ref y :: st) (am_SH, h) out) : am_R X d o ini cc ret pc L (.ref a :: st) (am_SH, h) out := by
  refine r_hp hd (st' := .ref y :: st) (σ' := (am_SH, h)) ?_ kk
  rcases ht with ⟨t, ht⟩ | ⟨t, ht⟩ <;> simp [am_hp, hl, hs, ht, am_fv, hy, am_rf]
theorem r_putI {v : Int32} {F : am_H → Option ρ} (hd : decode cc pc = .ok (.putfield ix, 3)) (hl : am_fl o ix = some (ci, fk)) (hs : am_SH[a]? = some (.inl ci)) (ht : am_ty ci fk = .int ∧ (am_fT ci fk).2.2.2 = false) (hf : ptI h a fk v F = some r) (kk : ∀ h1 : am_H, h1.2.2 = h.2.2 → F h1 = some r → am_R X d o ini cc ret (pc + 3) L st (am_SH, h1) out) : am_R X d o ini cc ret pc L (.int v :: .ref a :: st) (am_SH, h) out := by
  refine r_hp hd (st' := st) (σ' := (am_SH, am_u2 h.1 a fk v, h.2.1, h.2.2)) ?_ (kk _ rfl hf)
  simp [am_hp, hl, hs, ht.1, ht.2, am_fw]
theorem r_putL {v : Int64} {F : am_H → Option ρ} (hd : decode cc pc = .ok (.putfield ix, 3)) (hl : am_fl o ix = some (ci, fk)) (hs : am_SH[a]? = some (.inl ci)) (ht : am_ty ci fk = .long ∧ (am_fT ci fk).2.2.2 = false) (hf : ptL h a fk v F = some r) (kk : ∀ h1 : am_H, h1.2.2 = h.2.2 → F h1 = some r → am_R X d o ini cc ret (pc + 3) L st (am_SH, h1) out) : am_R X d o ini cc ret pc L (.long v :: .ref a :: st) (am_SH, h) out := by
  refine r_hp hd (st' := st) (σ' := (am_SH, h.1, am_u2 h.2.1 a fk v, h.2.2)) ?_ (kk _ rfl hf)
  simp [am_hp, hl, hs, ht.1, ht.2, am_fw]
theorem r_iald {i : Int32} {F : Int32 → Option ρ} (hd : decode cc pc = .ok (.iaload, 1)) (hs : am_SH[a]? = some (.inr (.int, n))) (hf : rdI h a n i F = some r) (kk : ∀ v, F v = some r → am_R X d o ini cc ret (pc + 1) L (.int v :: st) (am_SH, h) out) : am_R X d o ini cc ret pc L (.int i :: .ref a :: st) (am_SH, h) out := by
  unfold rdI at hf
  split at hf
  · rename_i hc
    refine r_hp hd (st' := .int (h.1 a i.toNatClampNeg) :: st) (σ' := (am_SH, h)) ?_ (kk _ hf)
    simp only [am_hp, am_ar, hs]
    rw [if_pos ⟨rfl, hc⟩]
  · cases hf
theorem r_bald {i : Int32} {ty : FieldType} {F : Int32 → Option ρ} (hd : decode cc pc = .ok (.baload, 1)) (hs : am_SH[a]? = some (.inr (ty, n))) (ht : am_tB ty = true) (hf : rdI h a n i F = some r) (kk : ∀ v, F v = some r → am_R X d o ini cc ret (pc + 1) L (.int v :: st) (am_SH, h) out) : am_R X d o ini cc ret pc L (.int i :: .ref a :: st) (am_SH, h) out := by
  unfold rdI at hf
  split at hf
  · rename_i hc
    refine r_hp hd (st' := .int (h.1 a i.toNatClampNeg) :: st) (σ' := (am_SH, h)) ?_ (kk _ hf)
    simp only [am_hp, am_ar, hs]
    rw [if_pos ⟨ht, hc⟩]
  · cases hf
theorem r_iast {i v : Int32} {F : am_H → Option ρ} (hd : decode cc pc = .ok (.iastore, 1)) (hs : am_SH[a]? = some (.inr (.int, n))) (hf : wrI h a n i v F = some r) (kk : ∀ h1 : am_H, h1.2.2 = h.2.2 → F h1 = some r → am_R X d o ini cc ret (pc + 1) L st (am_SH, h1) out) : am_R X d o ini cc ret pc L (.int v :: .int i :: .ref a :: st) (am_SH, h) out := by
  unfold wrI at hf
  split at hf
  · rename_i hc
    refine r_hp hd (st' := st) (σ' := (am_SH, am_u2 h.1 a i.toNatClampNeg v, h.2.1, h.2.2)) ?_ (kk _ rfl hf)
    simp only [am_hp, am_aw, hs]
    rw [if_pos ⟨rfl, hc⟩]
    rfl
  · cases hf
theorem r_bast {i v : Int32} {ty : FieldType} {F : am_H → Option ρ} (hd : decode cc pc = .ok (.bastore, 1)) (hs : am_SH[a]? = some (.inr (ty, n))) (ht : am_tB ty = true) (hf : wrI h a n i (vp_nar ty v) F = some r) (kk : ∀ h1 : am_H, h1.2.2 = h.2.2 → F h1 = some r → am_R X d o ini cc ret (pc + 1) L st (am_SH, h1) out) : am_R X d o ini cc ret pc L (.int v :: .int i :: .ref a :: st) (am_SH, h) out := by
  unfold wrI at hf
  split at hf
  · rename_i hc
    refine r_hp hd (st' := st) (σ' := (am_SH, am_u2 h.1 a i.toNatClampNeg (vp_nar ty v), h.2.1, h.2.2)) ?_ (kk _ rfl hf)
    simp only [am_hp, am_aw, hs]
    rw [if_pos ⟨ht, hc⟩]
  · cases hf
theorem r_lald {i : Int32} {F : Int64 → Option ρ} (hd : decode cc pc = .ok (.laload, 1)) (hs : am_SH[a]? = some (.inr (.long, n))) (hf : rdL h a n i F = some r) (kk : ∀ v, F v = some r → am_R X d o ini cc ret (pc + 1) L (.long v :: st) (am_SH, h) out) : am_R X d o ini cc ret pc L (.int i :: .ref a :: st) (am_SH, h) out := by
  unfold rdL at hf
  split at hf
  · rename_i hc
    refine r_hp hd (st' := .long (h.2.1 a i.toNatClampNeg) :: st) (σ' := (am_SH, h)) ?_ (kk _ hf)
    simp only [am_hp, hs]
    rw [if_pos hc]
  · cases hf
theorem r_last {i : Int32} {v : Int64} {F : am_H → Option ρ} (hd : decode cc pc = .ok (.lastore, 1)) (hs : am_SH[a]? = some (.inr (.long, n))) (hf : wrL h a n i v F = some r) (kk : ∀ h1 : am_H, h1.2.2 = h.2.2 → F h1 = some r → am_R X d o ini cc ret (pc + 1) L st (am_SH, h1) out) : am_R X d o ini cc ret pc L (.long v :: .int i :: .ref a :: st) (am_SH, h) out := by
  unfold wrL at hf
  split at hf
  · rename_i hc
    refine r_hp hd (st' := st) (σ' := (am_SH, h.1, am_u2 h.2.1 a i.toNatClampNeg v, h.2.2)) ?_ (kk _ rfl hf)
    simp only [am_hp, hs]
    rw [if_pos hc]
  · cases hf
theorem r_aald {i : Int32} {F : Nat → Option ρ} (hd : decode cc pc = .ok (.aaload, 1)) (hs : am_SH[a]? = some (.inr (.object RX7, n))) (hf : rdR h a n i F = some r) (kk : ∀ y, am_in i n → h.2.2 a i.toNatClampNeg = some y → F y = some r → am_R X d o ini cc ret (pc + 1) L (.ref y :: st) (am_SH, h) out) : am_R X d o ini cc ret pc L (.int i :: .ref a :: st) (am_SH, h) out := by
  unfold rdR at hf
  split at hf
  · rename_i hc
    split at hf
    · rename_i y hy
      refine r_hp hd (st' := .ref y :: st) (σ' := (am_SH, h)) ?_ (kk y hc hy hf)
      simp only [am_hp, hs]
      rw [if_pos ⟨trivial, hc⟩, hy]
      rfl
    · cases hf
  · cases hf
theorem r_aast {i : Int32} {y : Nat} {F : am_H → Option ρ} (hd : decode cc pc = .ok (.aastore, 1)) (hs : am_SH[a]? = some (.inr (.object RX7, n))) (hy : am_SH[y]? = some (.inl 6)) (hf : wrR h a n i y F = some r) (kk : ∀ h1 : am_H, am_in i n → h1.2.2 = am_u2 h.2.2 a i.toNatClampNeg (some y) → F h1 = some r → am_R X d o ini cc ret (pc + 1) L st (am_SH, h1) out) : am_R X d o ini cc ret pc L (.ref y :: .int i :: .ref a :: st) (am_SH, h) out := by
  unfold wrR at hf
  split at hf
  · rename_i hc
    refine r_hp hd (st' := st) (σ' := (am_SH, h.1, h.2.1, am_u2 h.2.2 a i.toNatClampNeg (some y))) ?_ (kk _ hc rfl hf)
    simp only [am_hp, hs, hy]
    rw [if_pos ⟨trivial, trivial, hc⟩]
  · cases hf
theorem r_alen {ty : FieldType} {j : Nat} (hd : decode cc pc = .ok (.arraylength, 1)) (hs : am_SH[a]? = some (.inr (ty, n))) (ht : am_tk ty = some j) (kk : am_R X d o ini cc ret (pc + 1) L (.int (Int32.ofNat n) :: st) (am_SH, h) out) : am_R X d o ini cc ret pc L (.ref a :: st) (am_SH, h) out := by
  refine r_hp hd (st' := .int (Int32.ofNat n) :: st) (σ' := (am_SH, h)) ?_ kk
  simp [am_hp, hs, ht]
theorem r_ldc {v : Int32} (hd : decode cc pc = .ok (.ldc ix, 2)) (hk : am_k32 o ix = some v) (kk : am_R X d o ini cc ret (pc + 2) L (.int v :: st) σ out) : am_R X d o ini cc ret pc L st σ out :=
  r_hp hd (by simp [am_hp, hk]) kk
theorem r_ldcw {v : Int32} (hd : decode cc pc = .ok (.ldc_w ix, 3)) (hk : am_k32 o ix = some v) (kk : am_R X d o ini cc ret (pc + 3) L (.int v :: st) σ out) : am_R X d o ini cc ret pc L st σ out :=
  r_hp hd (by simp [am_hp, hk]) kk
theorem r_ldc2 {v : Int64} (hd : decode cc pc = .ok (.ldc2_w ix, 3)) (hk : am_k64 o ix = some v) (kk : am_R X d o ini cc ret (pc + 3) L (.long v :: st) σ out) : am_R X d o ini cc ret pc L st σ out :=
  r_hp hd (by simp [am_hp, hk]) kk
end HP
section CALL
variable {d : Nat} {ix rc : Nat} {m : am_M} {pre rest : List Value} {v : Option Value} {σ1 : am_S}
theorem r_call {κ : Nat} {as : List Value} (hd : decode cc pc = .ok (i, 3)) (hc : am_call o i = some (κ, rc, m)) (hκ : κ = 0 ∨ κ = 1 ∨ κ = 2 ∨ κ = 5) (hp : am_pop κ rc m st σ = some (as, rest)) (hcat : am_cat rest ≤ 8) (hl : (am_args as).length ≤ m.2.2.1) (h1 : am_R X d m.1 m.2.2.2.2.2.2 m.2.1 m.2.2.2.1 0 (am_ent as m.2.2.1) [] σ (v, σ1)) (kk : am_R X (d + 1) o ini cc ret (pc + 3) L (v.toList ++ rest) σ1 out) : am_R X (d + 1) o ini cc ret pc L st σ out := by
  obtain ⟨n1, h1⟩ := h1
  obtain ⟨n2, h2⟩ := kk
  refine ⟨max n1 n2 + 1, am_fwd hd (Or.inr (Or.inr (Or.inr (Or.inr (Or.inr (Or.inr ⟨κ, rc, m, d, hc, rfl, rfl, ?_⟩))))))⟩
  exact Or.inr (Or.inr (Or.inr (Or.inr (Or.inr (Or.inr ⟨by omega, as, rest, v, σ1, hp, hcat, hl, am_fuel h1 (Nat.le_max_left _ _), am_fuel h2 (Nat.le_max_right _ _)⟩)))))
theorem r_virt {a : Nat} (hd : decode cc pc = .ok (.invokevirtual ix, 3)) (hc : am_ct o ix = some (0, rc, m)) (hn : pre.length = m.2.2.2.2.2.1) (hs : σ.1[a]? = some (.inl rc)) (hcat : am_cat rest ≤ 8) (hl : (am_args (.ref a :: pre.reverse)).length ≤ m.2.2.1) (h1 : am_R X d m.1 m.2.2.2.2.2.2 m.2.1 m.2.2.2.1 0 (am_ent (.ref a :: pre.reverse) m.2.2.1) [] σ (v, σ1)) (kk : am_R X (d + 1) o ini cc ret (pc + 3) L (v.toList ++ rest) σ1 out) : am_R X (d + 1) o ini cc ret pc L (pre ++ .ref a :: rest) σ out := by
  refine r_call (κ := 0) (rc := rc) (m := m) hd (by simp [am_call, hc]) (Or.inl rfl) ?_ hcat hl h1 kk
  unfold am_pop
  simp only
  rw [if_pos (by simp; omega), if_neg (by decide), ← hn]
  simp [hs]
theorem r_stat (hd : decode cc pc = .ok (.invokestatic ix, 3)) (hc : am_ct o ix = some (1, rc, m)) (hn : pre.length = m.2.2.2.2.2.1) (hcat : am_cat rest ≤ 8) (hl : (am_args pre.reverse).length ≤ m.2.2.1) (h1 : am_R X d m.1 m.2.2.2.2.2.2 m.2.1 m.2.2.2.1 0 (am_ent pre.reverse m.2.2.1) [] σ (v, σ1)) (kk : am_R X (d + 1) o ini cc ret (pc + 3) L (v.toList ++ rest) σ1 out) : am_R X (d + 1) o ini cc ret pc L (pre ++ rest) σ out := by
  refine r_call (κ := 1) (rc := rc) (m := m) hd (by simp [am_call, hc]) (Or.inr (Or.inl rfl)) ?_ hcat hl h1 kk
  unfold am_pop
  simp only
  rw [if_pos (by simp; omega), if_pos trivial, ← hn]
  simp
theorem r_b1 {κ : Nat} (hd : decode cc pc = .ok (i, 3)) (hc : am_call o i = some (κ, rc, m)) (hv : ∀ n, am_run X n (d + 1) o ini cc ret (pc + 3) L st' σ1 = some out → am_callV X n d o ini cc ret pc L st σ out κ rc m) (kk : am_R X (d + 1) o ini cc ret (pc + 3) L st' σ1 out) : am_R X (d + 1) o ini cc ret pc L st σ out := by
  obtain ⟨n, hn⟩ := kk
  exact ⟨n + 1, am_fwd hd (Or.inr (Or.inr (Or.inr (Or.inr (Or.inr (Or.inr ⟨κ, rc, m, d, hc, rfl, rfl, hv n hn⟩))))))⟩
theorem r_max {x y : Int32} (hd : decode cc pc = .ok (.invokestatic ix, 3)) (hc : am_ct o ix = some (8, rc, m)) (hcat : am_cat rest ≤ 8) (kk : am_R X (d + 1) o ini cc ret (pc + 3) L (.int (if x < y then y else x) :: rest) σ out) : am_R X (d + 1) o ini cc ret pc L (.int y :: .int x :: rest) σ out :=
  r_b1 (κ := 8) (rc := rc) (m := m) hd (by simp [am_call, hc]) (fun n hn => Or.inr (Or.inr (Or.inr (Or.inr (Or.inl ⟨rfl, x, y, rest, rfl, hcat, hn⟩))))) kk
theorem r_min {x y : Int32} (hd : decode cc pc = .ok (.invokestatic ix, 3)) (hc : am_ct o ix = some (9, rc, m)) (hcat : am_cat rest ≤ 8) (kk : am_R X (d + 1) o ini cc ret (pc + 3) L (.int (if y < x then y else x) :: rest) σ out) : am_R X (d + 1) o ini cc ret pc L (.int y :: .int x :: rest) σ out :=
  r_b1 (κ := 9) (rc := rc) (m := m) hd (by simp [am_call, hc]) (fun n hn => Or.inr (Or.inr (Or.inr (Or.inr (Or.inr (Or.inl ⟨rfl, x, y, rest, rfl, hcat, hn⟩)))))) kk
theorem r_cpy {n dp sp : Int32} {x y nx ny : Nat} {F : am_H → Option ρ} (hd : decode cc pc = .ok (.invokestatic ix, 3)) (hc : am_ct o ix = some (4, rc, m)) (hcat : am_cat rest ≤ 8) (hx : am_SH[x]? = some (.inr (.int, nx))) (hy : am_SH[y]? = some (.inr (.int, ny))) (hf : cpI h x nx sp y ny dp n F = some r) (kk : ∀ h1 : am_H, h1.2.2 = h.2.2 → F h1 = some r → am_R X (d + 1) o ini cc ret (pc + 3) L rest (am_SH, h1) out) : am_R X (d + 1) o ini cc ret pc L (.int n :: .int dp :: .ref y :: .int sp :: .ref x :: rest) (am_SH, h) out := by
  unfold cpI at hf
  split at hf
  · rename_i hcc
    refine r_b1 (κ := 4) (rc := rc) (m := m) (st' := rest) (σ1 := (am_SH, (fun a => if a = y then va_cpy (h.1 x) (h.1 y) sp.toNatClampNeg dp.toNatClampNeg n.toNatClampNeg else h.1 a), h.2.1, h.2.2)) hd (by simp [am_call, hc]) (fun n hn => Or.inr (Or.inl ⟨rfl, rest, _, ?_, hcat, hn⟩)) (kk _ rfl hf)
    simp only [am_cpy, hx, hy]
    rw [if_pos hcc]
  · cases hf
end CALL
end AMR
