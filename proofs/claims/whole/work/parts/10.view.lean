/-! ONE STEP, READ BACK -/
def am_callV (X : am_X) (n d' o : Nat) (ini : Bool) (cc : ByteArray) (ret : Option FieldType) (pc : Nat) (L : am_L) (st : List Value) (σ : am_S) (out : Option Value × am_S) (κ rc : Nat) (m : am_M) : Prop :=
  (κ = 3 ∧ ∃ a rest, st = .ref a :: rest ∧ am_cat rest ≤ 8 ∧ am_run X n (d' + 1) o ini cc ret (pc + 3) L rest σ = some out) ∨
  (κ = 4 ∧ ∃ rest σ', am_cpy st σ = some (rest, σ') ∧ am_cat rest ≤ 8 ∧ am_run X n (d' + 1) o ini cc ret (pc + 3) L rest σ' = some out) ∨
  (κ = 6 ∧ ∃ rest, st = .retAddr 1 :: rest ∧ am_cat rest ≤ 8 ∧ 9 ≤ d' ∧ am_run X n (d' + 1) o ini cc ret (pc + 3) L (.int 91 :: rest) σ = some out) ∨
  (κ = 7 ∧ ∃ j rest, st = .int j :: .retAddr 1 :: rest ∧ am_cat rest ≤ 8 ∧ 9 ≤ d' ∧ am_in j 91 ∧ am_run X n (d' + 1) o ini cc ret (pc + 3) L (.int (am_chr j.toNatClampNeg) :: rest) σ = some out) ∨
  (κ = 8 ∧ ∃ x y rest, st = .int y :: .int x :: rest ∧ am_cat rest ≤ 8 ∧ am_run X n (d' + 1) o ini cc ret (pc + 3) L (.int (if x < y then y else x) :: rest) σ = some out) ∨
  (κ = 9 ∧ ∃ x y rest, st = .int y :: .int x :: rest ∧ am_cat rest ≤ 8 ∧ am_run X n (d' + 1) o ini cc ret (pc + 3) L (.int (if y < x then y else x) :: rest) σ = some out) ∨
  ((κ ≠ 3 ∧ κ ≠ 4 ∧ κ ≠ 6 ∧ κ ≠ 7 ∧ κ ≠ 8 ∧ κ ≠ 9) ∧ ∃ as rest v σ', am_pop κ rc m st σ = some (as, rest) ∧ am_cat rest ≤ 8 ∧ (am_args as).length ≤ m.2.2.1 ∧ am_run X n d' m.1 m.2.2.2.2.2.2 m.2.1 m.2.2.2.1 0 (am_ent as m.2.2.1) [] σ = some (v, σ') ∧ am_run X n (d' + 1) o ini cc ret (pc + 3) L (v.toList ++ rest) σ' = some out)
def am_view (X : am_X) (n d o : Nat) (ini : Bool) (cc : ByteArray) (ret : Option FieldType) (pc : Nat) (L : am_L) (st : List Value) (σ : am_S) (out : Option Value × am_S) (i : Instr) (len : Nat) : Prop :=
  (∃ v, am_ret i ret st = some v ∧ len = 1 ∧ out = (v, σ)) ∨
  (∃ st', am_alu i st = some (len, st') ∧ am_run X n d o ini cc ret (pc + len) L st' σ = some out) ∨
  (∃ L' st', am_loc i L st = some (len, L', st') ∧ am_run X n d o ini cc ret (pc + len) L' st' σ = some out) ∨
  (∃ t off st' q, am_br i st = some (t, off, st') ∧ len = 3 ∧ am_jmp pc off = some q ∧ am_run X n d o ini cc ret (if t = true then q else pc + 3) L st' σ = some out) ∨
  (∃ off st' q, am_sw i st = some (off, st') ∧ am_jmp pc off = some q ∧ am_run X n d o ini cc ret q L st' σ = some out) ∨
  (∃ st' σ', am_hp X o ini i st σ = some (len, st', σ') ∧ am_run X n d o ini cc ret (pc + len) L st' σ' = some out) ∨
  (∃ κ rc m d', am_call o i = some (κ, rc, m) ∧ len = 3 ∧ d = d' + 1 ∧ am_callV X n d' o ini cc ret pc L st σ out κ rc m)
set_option maxHeartbeats 4000000 in
theorem am_inv_run {X : am_X} {n d o : Nat} {ini : Bool} {cc : ByteArray} {ret : Option FieldType} {pc : Nat} {L : am_L} {st : List Value} {σ : am_S} {out : Option Value × am_S} (h : am_run X (n + 1) d o ini cc ret pc L st σ = some out) : ∃ i len, decode cc pc = .ok (i, len) ∧ am_view X n d o ini cc ret pc L st σ out i len := by
  unfold am_run at h
  split at h
  · simp at h
  rename_i i len hd
  refine ⟨i, len, hd, ?_⟩
  unfold am_view
  split at h
  · rename_i v hv
    split at h
    · rename_i hl
      simp only [Option.some.injEq] at h
      exact Or.inl ⟨v, hv, hl, h.symm⟩
    · simp at h
  split at h
  · rename_i k st' hv
    split at h
    · rename_i hk
      subst hk
      exact Or.inr (Or.inl ⟨st', hv, h⟩)
    · simp at h
  split at h
  · rename_i k L' st' hv
    split at h
    · rename_i hk
      subst hk
      exact Or.inr (Or.inr (Or.inl ⟨L', st', hv, h⟩))
    · simp at h
  split at h
  · rename_i t off st' hv
    split at h
    · rename_i hl
      split at h
      · rename_i q hq
        exact Or.inr (Or.inr (Or.inr (Or.inl ⟨t, off, st', q, hv, hl, hq, h⟩)))
      · simp at h
    · simp at h
  split at h
  · rename_i off st' hv
    split at h
    · rename_i q hq
      exact Or.inr (Or.inr (Or.inr (Or.inr (Or.inl ⟨off, st', q, hv, hq, h⟩))))
    · simp at h
  split at h
  · rename_i k st' σ' hv
    split at h
    · rename_i hk
      subst hk
      exact Or.inr (Or.inr (Or.inr (Or.inr (Or.inr (Or.inl ⟨st', σ', hv, h⟩)))))
    · simp at h
  split at h
  · simp at h
  rename_i κ rc m hv
  split at h
  · rename_i hl
    split at h
    · simp at h
    rename_i d'
    refine Or.inr (Or.inr (Or.inr (Or.inr (Or.inr (Or.inr ⟨κ, rc, m, d', hv, hl, rfl, ?_⟩)))))
    unfold am_callV
    split at h
    · rename_i hκ
      split at h
      · split at h
        · rename_i hc
          exact Or.inl ⟨hκ, _, _, rfl, hc, h⟩
        · simp at h
      · simp at h
    rename_i n3
    split at h
    · rename_i hκ
      split at h
      · rename_i rest σ' hc
        split at h
        · rename_i hk
          exact Or.inr (Or.inl ⟨hκ, rest, σ', hc, hk, h⟩)
        · simp at h
      · simp at h
    rename_i n4
    split at h
    · rename_i hκ
      split at h
      · split at h
        · rename_i hc
          exact Or.inr (Or.inr (Or.inl ⟨hκ, _, rfl, hc.1, hc.2, h⟩))
        · simp at h
      · simp at h
    rename_i n6
    split at h
    · rename_i hκ
      split at h
      · split at h
        · rename_i hc
          exact Or.inr (Or.inr (Or.inr (Or.inl ⟨hκ, _, _, rfl, hc.1, hc.2.1, hc.2.2, h⟩)))
        · simp at h
      · simp at h
    rename_i n7
    split at h
    · rename_i hκ
      split at h
      · split at h
        · rename_i hc
          exact Or.inr (Or.inr (Or.inr (Or.inr (Or.inl ⟨hκ, _, _, _, rfl, hc, h⟩))))
        · simp at h
      · simp at h
    rename_i n8
    split at h
    · rename_i hκ
      split at h
      · split at h
        · rename_i hc
          exact Or.inr (Or.inr (Or.inr (Or.inr (Or.inr (Or.inl ⟨hκ, _, _, _, rfl, hc, h⟩)))))
        · simp at h
      · simp at h
    rename_i n9
    split at h
    · simp at h
    rename_i as rest hp
    split at h
    · rename_i hc
      split at h
      · simp at h
      rename_i v σ' hr
      exact Or.inr (Or.inr (Or.inr (Or.inr (Or.inr (Or.inr ⟨⟨n3, n4, n6, n7, n8, n9⟩, as, rest, v, σ', hp, hc.1, hc.2, hr, h⟩)))))
    · simp at h
  · simp at h
theorem am_cpy_sh {st rest : List Value} {σ σ' : am_S} (h : am_cpy st σ = some (rest, σ')) : σ'.1 = σ.1 := by
  unfold am_cpy at h
  split at h
  · split at h
    · split at h
      · simp only [Option.some.injEq, Prod.mk.injEq] at h
        rw [← h.2]
      · simp at h
    · simp at h
  · simp at h
theorem am_mono {X : am_X} : ∀ (n : Nat) {d o : Nat} {ini : Bool} {cc : ByteArray} {ret : Option FieldType} {pc : Nat} {L : am_L} {st : List Value} {σ : am_S} {out : Option Value × am_S}, am_run X n d o ini cc ret pc L st σ = some out → σ.1.length ≤ out.2.1.length ∧ am_tot σ ≤ am_tot out.2 := by
  intro n
  induction n with
  | zero => intro d o ini cc ret pc L st σ out h; simp [am_run] at h
  | succ n ih =>
    intro d o ini cc ret pc L st σ out h
    obtain ⟨i, len, -, h⟩ := am_inv_run h
    rcases h with ⟨v, -, -, rfl⟩ | ⟨st', -, h⟩ | ⟨L', st', -, h⟩ | ⟨t, off, st', q, -, -, -, h⟩ | ⟨off, st', q, -, -, h⟩ | ⟨st', σ', hv, h⟩ | ⟨κ, rc, m, d', -, -, -, h⟩
    · exact ⟨Nat.le_refl _, Nat.le_refl _⟩
    · exact ih h
    · exact ih h
    · exact ih h
    · exact ih h
    · have h1 := am_hp_sh hv
      have h2 := ih h
      omega
    · rcases h with ⟨-, a, rest, -, -, h⟩ | ⟨-, rest, σ', hc, -, h⟩ | ⟨-, rest, -, -, -, h⟩ | ⟨-, j, rest, -, -, -, -, h⟩ | ⟨-, x, y, rest, -, -, h⟩ | ⟨-, x, y, rest, -, -, h⟩ | ⟨-, as, rest, v, σ', -, -, -, h1, h⟩
      · exact ih h
      · have h2 := ih h
        unfold am_tot at h2 ⊢
        rw [am_cpy_sh hc] at h2
        exact h2
      · exact ih h
      · exact ih h
      · exact ih h
      · exact ih h
      · have h1 := ih h1
        have h2 := ih h
        simp only at h1
        omega
