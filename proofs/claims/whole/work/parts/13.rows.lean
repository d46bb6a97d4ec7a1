/-! ROWS OF THE ABSTRACT MACHINE: forward -/
def am_kd : Instr → Nat
  | .ireturn => 0
  | .lreturn => 0
  | .areturn => 0
  | .return_ => 0
  | .iload_n _ => 2
  | .iload _ => 2
  | .lload_n _ => 2
  | .lload _ => 2
  | .aload_n _ => 2
  | .aload _ => 2
  | .istore_n _ => 2
  | .istore _ => 2
  | .lstore_n _ => 2
  | .lstore _ => 2
  | .astore_n _ => 2
  | .astore _ => 2
  | .iinc _ _ => 2
  | .goto _ => 3
  | .ifCond _ _ => 3
  | .if_icmp _ _ => 3
  | .ifnull _ => 3
  | .ifnonnull _ => 3
  | .tableswitch _ _ _ _ => 4
  | .lookupswitch _ _ => 4
  | .getfield _ => 5
  | .putfield _ => 5
  | .iaload => 5
  | .baload => 5
  | .laload => 5
  | .aaload => 5
  | .iastore => 5
  | .bastore => 5
  | .lastore => 5
  | .aastore => 5
  | .arraylength => 5
  | .new _ => 5
  | .newarray _ => 5
  | .anewarray _ => 5
  | .ldc _ => 5
  | .ldc_w _ => 5
  | .ldc2_w _ => 5
  | .invokevirtual _ => 6
  | .invokestatic _ => 6
  | .invokespecial _ => 6
  | _ => 1
theorem am_kd_ret {i : Instr} {ret : Option FieldType} {st : List Value} (h : am_kd i ≠ 0) : am_ret i ret st = none := by
  unfold am_ret
  split <;> first | rfl | exact absurd rfl h
theorem am_kd_alu {i : Instr} {st : List Value} (h : am_kd i ≠ 1) : am_alu i st = none := by
  unfold am_alu
  split <;> first | rfl | exact absurd rfl h
theorem am_kd_loc {i : Instr} {L : am_L} {st : List Value} (h : am_kd i ≠ 2) : am_loc i L st = none := by
  unfold am_loc
  split <;> first | rfl | exact absurd rfl h
theorem am_kd_br {i : Instr} {st : List Value} (h : am_kd i ≠ 3) : am_br i st = none := by
  unfold am_br
  split <;> first | rfl | exact absurd rfl h
theorem am_kd_sw {i : Instr} {st : List Value} (h : am_kd i ≠ 4) : am_sw i st = none := by
  unfold am_sw
  split <;> first | rfl | exact absurd rfl h
theorem am_kd_hp {X : am_X} {o : Nat} {ini : Bool} {i : Instr} {st : List Value} {σ : am_S} (h : am_kd i ≠ 5) : am_hp X o ini i st σ = none := by
  unfold am_hp
  split <;> first | rfl | exact absurd rfl h
section AMF
variable {X : am_X} {n d o : Nat} {ini : Bool} {cc : ByteArray} {ret : Option FieldType} {pc : Nat} {L : am_L} {st : List Value} {σ : am_S} {out : Option Value × am_S} {i : Instr} {len : Nat}
theorem am_kd_of_ret {v : Option Value} (h : am_ret i ret st = some v) : am_kd i = 0 := by
  by_cases hk : am_kd i = 0
  · exact hk
  · rw [am_kd_ret hk] at h; simp at h
theorem am_kd_of_alu {q : Nat × List Value} (h : am_alu i st = some q) : am_kd i = 1 := by
  by_cases hk : am_kd i = 1
  · exact hk
  · rw [am_kd_alu hk] at h; simp at h
theorem am_kd_of_loc {q : Nat × am_L × List Value} (h : am_loc i L st = some q) : am_kd i = 2 := by
  by_cases hk : am_kd i = 2
  · exact hk
  · rw [am_kd_loc hk] at h; simp at h
theorem am_kd_of_br {q : Bool × Int × List Value} (h : am_br i st = some q) : am_kd i = 3 := by
  by_cases hk : am_kd i = 3
  · exact hk
  · rw [am_kd_br hk] at h; simp at h
theorem am_kd_of_sw {q : Int × List Value} (h : am_sw i st = some q) : am_kd i = 4 := by
  by_cases hk : am_kd i = 4
  · exact hk
  · rw [am_kd_sw hk] at h; simp at h
theorem am_kd_of_hp {q : Nat × List Value × am_S} (h : am_hp X o ini i st σ = some q) : am_kd i = 5 := by
  by_cases hk : am_kd i = 5
  · exact hk
  · rw [am_kd_hp hk] at h; simp at h
theorem am_kd_of_call {q : Nat × Nat × am_M} (h : am_call o i = some q) : am_kd i = 6 := by
  unfold am_call at h
  split at h
  · rfl
  · rfl
  · rfl
  · simp at h
set_option maxHeartbeats 4000000 in
theorem am_fwd (hd : decode cc pc = .ok (i, len)) (h : am_view X n d o ini cc ret pc L st σ out i len) : am_run X (n + 1) d o ini cc ret pc L st σ = some out := by
  unfold am_run
  rw [hd]
  simp only
  rcases h with ⟨v, hv, rfl, rfl⟩ | ⟨st', hv, h⟩ | ⟨L', st', hv, h⟩ | ⟨t, off, st', q, hv, rfl, hj, h⟩ | ⟨off, st', q, hv, hj, h⟩ | ⟨st', σ', hv, h⟩ | ⟨κ, rc, mm, d', hv, rfl, rfl, hh⟩
  · rw [hv]; simp
  · have hk := am_kd_of_alu hv
    rw [am_kd_ret (by rw [hk]; decide), hv]; simp only [if_true]; exact h
  · have hk := am_kd_of_loc hv
    rw [am_kd_ret (by rw [hk]; decide), am_kd_alu (by rw [hk]; decide), hv]; simp only [if_true]; exact h
  · have hk := am_kd_of_br hv
    rw [am_kd_ret (by rw [hk]; decide), am_kd_alu (by rw [hk]; decide), am_kd_loc (by rw [hk]; decide), hv]
    simp only [if_true]; rw [hj]; exact h
  · have hk := am_kd_of_sw hv
    rw [am_kd_ret (by rw [hk]; decide), am_kd_alu (by rw [hk]; decide), am_kd_loc (by rw [hk]; decide), am_kd_br (by rw [hk]; decide), hv]
    simp only; rw [hj]; exact h
  · have hk := am_kd_of_hp hv
    rw [am_kd_ret (by rw [hk]; decide), am_kd_alu (by rw [hk]; decide), am_kd_loc (by rw [hk]; decide), am_kd_br (by rw [hk]; decide), am_kd_sw (by rw [hk]; decide), hv]
    simp only [if_true]; exact h
  · have hk := am_kd_of_call hv
    rw [am_kd_ret (by rw [hk]; decide), am_kd_alu (by rw [hk]; decide), am_kd_loc (by rw [hk]; decide), am_kd_br (by rw [hk]; decide), am_kd_sw (by rw [hk]; decide), am_kd_hp (by rw [hk]; decide), hv]
    simp only [if_true]
    unfold am_callV at hh
    rcases hh with h | h | h | h | h | h | h
    · obtain ⟨rfl, a, rest, rfl, hcat, h⟩ := h
      simp [hcat, h]
    · obtain ⟨rfl, rest, σ', hc, hcat, h⟩ := h
      simp [hc, hcat, h]
    · obtain ⟨rfl, rest, rfl, hcat, hdd, h⟩ := h
      simp [hcat, hdd, h]
    · obtain ⟨rfl, j, rest, rfl, hcat, hdd, hj, h⟩ := h
      simp only [show (7 : Nat) = 3 ↔ False by decide, show (7 : Nat) = 4 ↔ False by decide, show (7 : Nat) = 6 ↔ False by decide, if_false, if_true]
      rw [if_pos ⟨hcat, hdd, hj⟩]
      exact h
    · obtain ⟨rfl, x, y, rest, rfl, hcat, h⟩ := h
      simp [hcat, h]
    · obtain ⟨rfl, x, y, rest, rfl, hcat, h⟩ := h
      simp [hcat, h]
    · obtain ⟨⟨n3, n4, n6, n7, n8, n9⟩, as, rest, v, σ', hp, hcat, hlen, h1, h⟩ := h
      simp only [if_neg n3, if_neg n4, if_neg n6, if_neg n7, if_neg n8, if_neg n9]
      rw [hp]
      simp only
      rw [if_pos ⟨hcat, hlen⟩, h1]
      exact h
end AMF
theorem am_fuel1 {X : am_X} : ∀ (n : Nat) {d o : Nat} {ini : Bool} {cc : ByteArray} {ret : Option FieldType} {pc : Nat} {L : am_L} {st : List Value} {σ : am_S} {out : Option Value × am_S}, am_run X n d o ini cc ret pc L st σ = some out → am_run X (n + 1) d o ini cc ret pc L st σ = some out := by
  intro n
  induction n with
  | zero => intro d o ini cc ret pc L st σ out h; simp [am_run] at h
  | succ n ih =>
    intro d o ini cc ret pc L st σ out h
    obtain ⟨i, len, hd, hh⟩ := am_inv_run h
    clear h
    refine am_fwd hd ?_
    rcases hh with ⟨v, hv, h2, h3⟩ | ⟨st', hv, h⟩ | ⟨L', st', hv, h⟩ | ⟨t, off, st', q, hv, h2, hj, h⟩ | ⟨off, st', q, hv, hj, h⟩ | ⟨st', σ', hv, h⟩ | ⟨κ, rc, mm, d', hv, h2, h3, hh⟩
    · exact Or.inl ⟨v, hv, h2, h3⟩
    · exact Or.inr (Or.inl ⟨st', hv, ih h⟩)
    · exact Or.inr (Or.inr (Or.inl ⟨L', st', hv, ih h⟩))
    · exact Or.inr (Or.inr (Or.inr (Or.inl ⟨t, off, st', q, hv, h2, hj, ih h⟩)))
    · exact Or.inr (Or.inr (Or.inr (Or.inr (Or.inl ⟨off, st', q, hv, hj, ih h⟩))))
    · exact Or.inr (Or.inr (Or.inr (Or.inr (Or.inr (Or.inl ⟨st', σ', hv, ih h⟩)))))
    · refine Or.inr (Or.inr (Or.inr (Or.inr (Or.inr (Or.inr ⟨κ, rc, mm, d', hv, h2, h3, ?_⟩)))))
      unfold am_callV at hh ⊢
      rcases hh with h | h | h | h | h | h | h
      · obtain ⟨e, a, rest, e2, hcat, h⟩ := h
        exact Or.inl ⟨e, a, rest, e2, hcat, ih h⟩
      · obtain ⟨e, rest, σ', hc, hcat, h⟩ := h
        exact Or.inr (Or.inl ⟨e, rest, σ', hc, hcat, ih h⟩)
      · obtain ⟨e, rest, e2, hcat, hdd, h⟩ := h
        exact Or.inr (Or.inr (Or.inl ⟨e, rest, e2, hcat, hdd, ih h⟩))
      · obtain ⟨e, j, rest, e2, hcat, hdd, hj, h⟩ := h
        exact Or.inr (Or.inr (Or.inr (Or.inl ⟨e, j, rest, e2, hcat, hdd, hj, ih h⟩)))
      · obtain ⟨e, x, y, rest, e2, hcat, h⟩ := h
        exact Or.inr (Or.inr (Or.inr (Or.inr (Or.inl ⟨e, x, y, rest, e2, hcat, ih h⟩))))
      · obtain ⟨e, x, y, rest, e2, hcat, h⟩ := h
        exact Or.inr (Or.inr (Or.inr (Or.inr (Or.inr (Or.inl ⟨e, x, y, rest, e2, hcat, ih h⟩)))))
      · obtain ⟨e, as, rest, v, σ', hp, hcat, hlen, h1, h⟩ := h
        exact Or.inr (Or.inr (Or.inr (Or.inr (Or.inr (Or.inr ⟨e, as, rest, v, σ', hp, hcat, hlen, ih h1, ih h⟩)))))
theorem am_fuel {X : am_X} {n k d o : Nat} {ini : Bool} {cc : ByteArray} {ret : Option FieldType} {pc : Nat} {L : am_L} {st : List Value} {σ : am_S} {out : Option Value × am_S} (h : am_run X n d o ini cc ret pc L st σ = some out) (hk : n ≤ k) : am_run X k d o ini cc ret pc L st σ = some out := by
  obtain ⟨j, rfl⟩ : ∃ j, k = n + j := ⟨k - n, by omega⟩
  clear hk
  induction j with
  | zero => exact h
  | succ j ih => exact am_fuel1 _ ih
