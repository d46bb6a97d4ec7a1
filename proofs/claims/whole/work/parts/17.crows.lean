/-! ROWS FOR THE CONSTRUCTORS: the shapes made so far are the first n of am_SH -/
def nwH {ρ : Type} (h : am_H) (n : Nat) (F : am_H → Option ρ) : Option ρ := F ((fun x k => if x = n then 0 else h.1 x k), (fun x k => if x = n then 0 else h.2.1 x k), (fun x k => if x = n then none else h.2.2 x k))
def gtR {ρ : Type} (h : am_H) (a k y : Nat) (F : Option ρ) : Option ρ := if h.2.2 a k = some y then F else none
def ptR {ρ : Type} (h : am_H) (a k y : Nat) (F : am_H → Option ρ) : Option ρ := F (h.1, h.2.1, am_u2 h.2.2 a k (some y))
def chX {ρ : Type} (j : Int32) (F : Int32 → Option ρ) : Option ρ := if am_in j 91 then F (am_chr j.toNatClampNeg) else none
abbrev am_N0 : (Nat → Nat → Option Nat) → Prop := fun _ => True
theorem am_SH_len : am_SH.length = 450 := by decide +kernel
theorem sh_tk {n a : Nat} {x : am_Sh} (h : am_SH[a]? = some x) (hn : a < n) : (am_SH.take n)[a]? = some x := by
  rw [List.getElem?_take_of_lt hn]
  exact h
theorem sh_tk_len {n : Nat} (hn : n ≤ 450) : (am_SH.take n).length = n := by
  rw [List.length_take, am_SH_len]
  omega
theorem sh_tk_all : am_SH.take 450 = am_SH := by
  rw [← am_SH_len]
  exact List.take_length
theorem sh_tk_succ {n : Nat} {x : am_Sh} (h : am_SH[n]? = some x) : am_SH.take n ++ [x] = am_SH.take (n + 1) := by
  have hl : n < am_SH.length := (List.getElem?_eq_some_iff.mp h).1
  rw [List.take_add_one, h]
  rfl
theorem am_new_tk {n : Nat} {x : am_Sh} {h : am_H} (hx : am_SH[n]? = some x) : am_new x (am_SH.take n, h) = (am_SH.take (n + 1), (fun y k => if y = n then 0 else h.1 y k), (fun y k => if y = n then 0 else h.2.1 y k), (fun y k => if y = n then none else h.2.2 y k)) := by
  have hl : n < am_SH.length := (List.getElem?_eq_some_iff.mp hx).1
  rw [am_SH_len] at hl
  unfold am_new
  rw [sh_tk_len (by omega), sh_tk_succ hx]
section AMK
variable {X : am_X} {d o : Nat} {ini : Bool} {cc : ByteArray} {ret : Option FieldType} {pc : Nat} {L : am_L} {st : List Value} {out : Option Value × am_S} {n n2 : Nat} {h : am_H} {ρ : Type} {r : ρ} {TP : (Nat → Nat → Option Nat) → Prop} {S : List am_Sh}
theorem r_new {ix ci : Nat} {F : am_H → Option ρ} (hd : decode cc pc = .ok (.new ix, 3)) (hc : am_cl o ix = some ci) (hx : am_SH[n]? = some (.inl ci)) (h2 : n2 = n + 1) (hf : nwH h n F = some r) (kk : ∀ h1, F h1 = some r → am_GG TP X d o ini cc ret (pc + 3) L (.ref n :: st) (am_SH.take n2, h1) out) : am_GG TP X d o ini cc ret pc L st (am_SH.take n, h) out := by
  subst h2
  have hl : n < am_SH.length := (List.getElem?_eq_some_iff.mp hx).1
  rw [am_SH_len] at hl
  refine r_hp hd ?_ (kk _ hf)
  simp only [am_hp, hc]
  rw [am_new_tk hx, sh_tk_len (by omega)]
theorem r_newar {t : ArrayType} {ty : FieldType} {k : Nat} {c : Int32} {F : am_H → Option ρ} (hd : decode cc pc = .ok (.newarray t, 2)) (ht : am_newa t = some ty) (hk : c.toInt = k) (hb : k ≤ 60000) (hx : am_SH[n]? = some (.inr (ty, k))) (h2 : n2 = n + 1) (hf : nwH h n F = some r) (kk : ∀ h1, F h1 = some r → am_GG TP X d o ini cc ret (pc + 2) L (.ref n :: st) (am_SH.take n2, h1) out) : am_GG TP X d o ini cc ret pc L (.int c :: st) (am_SH.take n, h) out := by
  subst h2
  have hl : n < am_SH.length := (List.getElem?_eq_some_iff.mp hx).1
  rw [am_SH_len] at hl
  have hk2 : c.toNatClampNeg = k := by show c.toInt.toNat = k; rw [hk]; simp
  refine r_hp hd ?_ (kk _ hf)
  simp only [am_hp, ht]
  rw [if_pos ⟨by omega, by omega⟩, hk2, am_new_tk hx, sh_tk_len (by omega)]
theorem r_anewar {ix k : Nat} {c : Int32} {F : am_H → Option ρ} (hd : decode cc pc = .ok (.anewarray ix, 3)) (hc : am_cl o ix = some 6) (hk : c.toInt = k) (hb : k ≤ 60000) (hx : am_SH[n]? = some (.inr (.object RX7, k))) (h2 : n2 = n + 1) (hf : nwH h n F = some r) (kk : ∀ h1, F h1 = some r → am_GG TP X d o ini cc ret (pc + 3) L (.ref n :: st) (am_SH.take n2, h1) out) : am_GG TP X d o ini cc ret pc L (.int c :: st) (am_SH.take n, h) out := by
  subst h2
  have hl : n < am_SH.length := (List.getElem?_eq_some_iff.mp hx).1
  rw [am_SH_len] at hl
  have hk2 : c.toNatClampNeg = k := by show c.toInt.toNat = k; rw [hk]; simp
  refine r_hp hd ?_ (kk _ hf)
  simp only [am_hp, hc]
  rw [if_pos ⟨by omega, by omega⟩, hk2, am_new_tk hx, sh_tk_len (by omega)]
theorem r_gtR {ix ci fk a y : Nat} {F : Option ρ} (hd : decode cc pc = .ok (.getfield ix, 3)) (hl : am_fl o ix = some (ci, fk)) (hs : S[a]? = some (.inl ci)) (ht : (∃ t, am_ty ci fk = .object t) ∨ ∃ t, am_ty ci fk = .array t) (hf : gtR h a fk y F = some r) (kk : F = some r → am_GG TP X d o ini cc ret (pc + 3) L (.ref y :: st) (S, h) out) : am_GG TP X d o ini cc ret pc L (.ref a :: st) (S, h) out := by
  unfold gtR at hf
  split at hf
  · rename_i hy
    exact r_getR hd hl hs ht hy (kk hf)
  · cases hf
theorem r_putR {ix ci fk a y : Nat} {F : am_H → Option ρ} (hd : decode cc pc = .ok (.putfield ix, 3)) (hl : am_fl o ix = some (ci, fk)) (hs : S[a]? = some (.inl ci)) (ht : (∃ t, am_ty ci fk = .object t) ∨ ∃ t, am_ty ci fk = .array t) (hfin : (am_fT ci fk).2.2.2 = false ∨ ini = true ∧ (am_fT ci fk).1 = am_own o) (hf : ptR h a fk y F = some r) (kk : ∀ h1, F h1 = some r → am_GG TP X d o ini cc ret (pc + 3) L st (S, h1) out) : am_GG TP X d o ini cc ret pc L (.ref y :: .ref a :: st) (S, h) out := by
  refine r_hp hd (st' := st) (σ' := (S, h.1, h.2.1, am_u2 h.2.2 a fk (some y))) ?_ (kk _ hf)
  simp only [am_hp, hl]
  rw [if_pos ⟨hs, hfin⟩]
  rcases ht with ⟨t, ht⟩ | ⟨t, ht⟩ <;> simp [am_fw, ht]
theorem r_putIc {ix ci fk a : Nat} {v : Int32} {F : am_H → Option ρ} (hd : decode cc pc = .ok (.putfield ix, 3)) (hl : am_fl o ix = some (ci, fk)) (hs : S[a]? = some (.inl ci)) (ht : am_ty ci fk = .int ∧ (am_fT ci fk).2.2.2 = false) (hf : ptI h a fk v F = some r) (kk : ∀ h1, F h1 = some r → am_GG TP X d o ini cc ret (pc + 3) L st (S, h1) out) : am_GG TP X d o ini cc ret pc L (.int v :: .ref a :: st) (S, h) out := r_putI hd hl hs ht hf (fun h1 _ hf => kk h1 hf)
theorem r_aastc {a y k : Nat} {i : Int32} {F : am_H → Option ρ} (hd : decode cc pc = .ok (.aastore, 1)) (hs : S[a]? = some (.inr (.object RX7, k))) (hy : S[y]? = some (.inl 6)) (hf : wrR h a k i y F = some r) (kk : ∀ h1, F h1 = some r → am_GG TP X d o ini cc ret (pc + 1) L st (S, h1) out) : am_GG TP X d o ini cc ret pc L (.ref y :: .int i :: .ref a :: st) (S, h) out := r_aast hd hs hy hf (fun h1 _ _ hf => kk h1 hf)
theorem r_obj {d ix rc a : Nat} {m : am_M} {rest : List Value} {σ : am_S} (hd : decode cc pc = .ok (.invokespecial ix, 3)) (hc : am_ct o ix = some (3, rc, m)) (hcat : am_cat rest ≤ 8) (kk : am_GG TP X (d + 1) o ini cc ret (pc + 3) L rest σ out) : am_GG TP X (d + 1) o ini cc ret pc L (.ref a :: rest) σ out :=
  r_b1 (κ := 3) (rc := rc) (m := m) hd (by simp [am_call, hc]) (fun n hn => Or.inl ⟨rfl, a, rest, rfl, hcat, hn⟩) kk
theorem r_slS {d ix rc : Nat} {m : am_M} {rest : List Value} {σ : am_S} (hd : decode cc pc = .ok (.invokevirtual ix, 3)) (hc : am_ct o ix = some (6, rc, m)) (hcat : am_cat rest ≤ 8) (h9 : 9 ≤ d) (kk : am_GG TP X (d + 1) o ini cc ret (pc + 3) L (.int 91 :: rest) σ out) : am_GG TP X (d + 1) o ini cc ret pc L (.retAddr 1 :: rest) σ out :=
  r_b1 (κ := 6) (rc := rc) (m := m) hd (by simp [am_call, hc]) (fun n hn => Or.inr (Or.inr (Or.inl ⟨rfl, rest, rfl, hcat, h9, hn⟩))) kk
theorem r_chS {d ix rc : Nat} {m : am_M} {j : Int32} {rest : List Value} {σ : am_S} {F : Int32 → Option ρ} (hd : decode cc pc = .ok (.invokevirtual ix, 3)) (hc : am_ct o ix = some (7, rc, m)) (hcat : am_cat rest ≤ 8) (h9 : 9 ≤ d) (hf : chX j F = some r) (kk : ∀ v, F v = some r → am_GG TP X (d + 1) o ini cc ret (pc + 3) L (.int v :: rest) σ out) : am_GG TP X (d + 1) o ini cc ret pc L (.int j :: .retAddr 1 :: rest) σ out := by
  unfold chX at hf
  split at hf
  · rename_i hj
    exact r_b1 (κ := 7) (rc := rc) (m := m) hd (by simp [am_call, hc]) (fun n hn => Or.inr (Or.inr (Or.inr (Or.inl ⟨rfl, j, rest, rfl, hcat, h9, hj, hn⟩)))) (kk _ hf)
  · cases hf
theorem r_ldcS (hd : decode cc pc = .ok (.ldc 39, 2)) (ho : o = 9) {σ : am_S} (kk : am_GG TP X d o ini cc ret (pc + 2) L (.retAddr 1 :: st) σ out) : am_GG TP X d o ini cc ret pc L st σ out := by
  subst ho
  exact r_hp hd rfl kk
theorem r_spec {d ix rc κ a : Nat} {m : am_M} {pre rest : List Value} {v : Option Value} {σ σ1 : am_S} (hd : decode cc pc = .ok (.invokespecial ix, 3)) (hc : am_ct o ix = some (κ, rc, m)) (hκ : κ = 2 ∨ κ = 5) (hn : pre.length = m.2.2.2.2.2.1) (hcat : am_cat rest ≤ 8) (hl : (am_args (.ref a :: pre.reverse)).length ≤ m.2.2.1) (h1 : am_GG TP X d m.1 m.2.2.2.2.2.2 m.2.1 m.2.2.2.1 0 (am_ent (.ref a :: pre.reverse) m.2.2.1) [] σ (v, σ1)) (kk : am_GG TP X (d + 1) o ini cc ret (pc + 3) L (v.toList ++ rest) σ1 out) : am_GG TP X (d + 1) o ini cc ret pc L (pre ++ .ref a :: rest) σ out := by
  refine r_call (κ := κ) (rc := rc) (m := m) hd (by rcases hκ with rfl | rfl <;> simp [am_call, hc]) (by omega) ?_ hcat hl h1 kk
  unfold am_pop
  simp only
  rw [if_pos (by simp; omega), if_neg (by omega), ← hn]
  rcases hκ with rfl | rfl <;> simp
theorem r_cT {off : Int} {q : Nat} {i : Instr} {st' : List Value} {σ : am_S} (hd : decode cc pc = .ok (i, 3)) (h : am_br i st = some (true, off, st')) (hj : am_jmp pc off = some q) (kk : am_GG TP X d o ini cc ret q L st' σ out) : am_GG TP X d o ini cc ret pc L st σ out := r_br hd h hj kk
theorem r_cF {off : Int} {q : Nat} {i : Instr} {st' : List Value} {σ : am_S} (hd : decode cc pc = .ok (i, 3)) (h : am_br i st = some (false, off, st')) (hj : am_jmp pc off = some q) (kk : am_GG TP X d o ini cc ret (pc + 3) L st' σ out) : am_GG TP X d o ini cc ret pc L st σ out := r_br hd h hj kk
end AMK
