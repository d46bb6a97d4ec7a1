/-! at the start -/
def am_ok2 (h : am_H) : Bool := (List.range 41).all (fun i => h.2.2 45 i == some (46 + 8 * i)) && (List.range 3).all (fun i => h.2.2 375 i == some (377 + 8 * i)) && am_sI 46 h
def am_oko2 : Bool := match am_ctor am_hE with
  | some h => am_ok2 h
  | none => false
theorem am_oko2_ok : am_oko2 = true := by decide +kernel
theorem sI_at {s : Nat} {h : am_H} (e : am_sI s h = true) : (∀ k, k < 8 → h.1 (s + 1) k = 0 ∧ h.1 (s + 2) k = -1 ∧ h.1 (s + 3) k = 0 ∧ h.1 (s + 4) k = 0 ∧ h.1 (s + 5) k = 0 ∧ h.1 (s + 6) k = -1 ∧ h.1 (s + 7) k = -1) ∧ h.1 s 8 = 0 ∧ h.1 s 9 = 0 ∧ h.1 s 10 = 0 := by
  unfold am_sI at e
  simp only [Bool.and_eq_true, beq_iff_eq, List.all_eq_true, List.mem_range] at e
  obtain ⟨⟨⟨e1, e2⟩, e3⟩, e4⟩ := e
  refine ⟨fun k hk => ?_, e2, e3, e4⟩
  obtain ⟨⟨⟨⟨⟨⟨z1, z2⟩, z3⟩, z4⟩, z5⟩, z6⟩, z7⟩ := e1 k hk
  exact ⟨z1, z2, z3, z4, z5, z6, z7⟩
/-- the row at the start -/
def Z0 (q : Nat → Int32) : Prop := ∀ k, k < 59 → q k = if 40 ≤ k ∧ k < 56 then -1 else 0
theorem Z0_RC {s : Nat} {q : Nat → Int32} {h : am_H} (z : Z0 q) (e : am_sI s h = true) : RC s q h.1 := by
  obtain ⟨e1, e2, e3, e4⟩ := sI_at e
  refine ⟨fun t ht => ?_, by rw [e2, z 56 (by decide)]; rfl, by rw [e3, z 57 (by decide)]; rfl, by rw [e4, z 58 (by decide)]; rfl⟩
  obtain ⟨a1, a2, a3, a4, a5, a6, a7⟩ := e1 t ht
  have q0 : q t = 0 := by rw [z t (by omega), if_neg (by omega)]
  have q16 : q (16 + t) = 0 := by rw [z (16 + t) (by omega), if_neg (by omega)]
  have q24 : q (24 + t) = 0 := by rw [z (24 + t) (by omega), if_neg (by omega)]
  have q32 : q (32 + t) = 0 := by rw [z (32 + t) (by omega), if_neg (by omega)]
  have q40 : q (40 + t) = -1 := by rw [z (40 + t) (by omega), if_pos (by omega)]
  have q48 : q (48 + t) = -1 := by rw [z (48 + t) (by omega), if_pos (by omega)]
  rw [a1, a2, a3, a4, a5, a6, a7, q0, q16, q24, q32, q40, q48, if_pos rfl]
  exact ⟨rfl, rfl, rfl, rfl, rfl, rfl, rfl⟩
theorem Z0_WQ {q : Nat → Int32} (z : Z0 q) : WQ 0 q := by
  intro t ht
  have z16 : q (16 + t) = 0 := by rw [z (16 + t) (by omega), if_neg (by omega)]
  refine ⟨Or.inl ⟨by rw [z t (by omega), if_neg (by omega)], z16, by rw [z (24 + t) (by omega), if_neg (by omega)], by rw [z (32 + t) (by omega), if_neg (by omega)]⟩, ?_, ?_, ?_, Or.inl (by rw [z (40 + t) (by omega), if_pos (by omega)]), Or.inl (by rw [z (48 + t) (by omega), if_pos (by omega)])⟩
  · unfold mk
    rw [z16]
    exact ⟨by decide, rfl⟩
  · rw [z (24 + t) (by omega), if_neg (by omega)]
    decide
  · rw [z (32 + t) (by omega), if_neg (by omega)]
    decide
theorem INV_0 {h : am_H} (hc : am_ctor am_hE = some h) (e : am_okh h = true) : INV h.1 h.2 := by
  have e2 := am_oko2_ok
  unfold am_oko2 at e2
  rw [hc] at e2
  have e2' : am_ok2 h = true := e2
  unfold am_ok2 at e2'
  unfold am_okh at e
  simp only [Bool.and_eq_true, beq_iff_eq, List.all_eq_true, List.mem_range] at e e2'
  obtain ⟨⟨⟨⟨-, c1⟩, c2⟩, c3⟩, c4⟩ := e
  obtain ⟨⟨d1, d2⟩, d3⟩ := e2'
  have cell : ∀ a n k, (a, n) ∈ am_c0l → k < n → h.1 a k = am_I0 a k := fun a n k hm hk => c1 (a, n) hm k hk
  have st27 : am_sI 27 h = true := c4 27 (by decide)
  have z437 : Z0 (h.1 437) := by
    intro k hk
    rw [cell 437 59 k (by decide) hk]
    have z : ∀ k : Fin 59, am_I0 437 k.val = if 40 ≤ k.val ∧ k.val < 56 then -1 else 0 := by decide +kernel
    exact z ⟨k, hk⟩
  have v : ∀ a n k x, (a, n) ∈ am_c0l → k < n → am_I0 a k = x → h.1 a k = x := fun a n k x hm hk hx => by rw [cell a n k hm hk]; exact hx
  have hHM : HM h.1 0 D0 := ⟨v 422 2 0 0 (by decide) (by decide) (by decide), fun z => absurd z (by decide)⟩
  have W := Z0_WQ z437
  have fo : ∀ a k x, (a, k, x) ∈ am_fo → h.1 a k = x := fun a k x hm => c2 (a, k, x) hm
  have hEC : EC h.1 (valE D0.2.2) := EC_of (C := D0.2.2) (by decide) (v 10 5 3 3 (by decide) (by decide) (by decide)) ⟨fo 11 2 25 (by decide), fun z => absurd z (by decide), fo 11 1 16 (by decide), fun z => absurd z (by decide), fo 11 0 14 (by decide), fun z => absurd z (by decide), trivial⟩ okD_0.1 okD_0.2
  have G : GR h.2 (fun i => i) := ⟨fun i hi => ⟨d1 i hi, hi⟩, fun i j _ _ z => z⟩
  refine ⟨0, D0, DV_0, okD_0, hHM, ⟨Z0_RC z437 st27, W, fun r hr => absurd hr (by simp [D0]), fun r hr => absurd hr (by simp [D0]), ⟨v 4 11 6 0 (by decide) (by decide) (by decide), by decide, fun r hr => absurd hr (by simp [D0])⟩, ⟨v 413 60 32 0 (by decide) (by decide) (by decide), by decide, v 416 2 0 0 (by decide) (by decide) (by decide), by decide, fun r hr => absurd hr (by simp [D0])⟩, hEC, EM_of DV_0 okD_0 hHM, v 4 11 8 3 (by decide) (by decide) (by decide), by decide, by decide, v 419 2 0 3 (by decide) (by decide) (by decide), v 413 60 42 (-1) (by decide) (by decide) (by decide)⟩, ⟨W, fun r hr => absurd hr (by simp [D0]), ?_, ?_⟩, IA_begin G (v 44 3 1 0 (by decide) (by decide) (by decide)) (v 44 3 2 0 (by decide) (by decide) (by decide)) (v 413 60 44 0 (by decide) (by decide) (by decide)) (v 413 60 45 0 (by decide) (by decide) (by decide)) (Z0_RC z437 d3), fun i hi => ⟨d2 i hi, ?_, Or.inl ?_⟩, ⟨0, v 4 11 7 0 (by decide) (by decide) (by decide), by decide, by decide, v 413 60 32 0 (by decide) (by decide) (by decide), v 417 2 0 0 (by decide) (by decide) (by decide), fun t ht => absurd ht (by simp [D0]), by decide, v 404 10 8 0 (by decide) (by decide) (by decide), v 413 60 55 0 (by decide) (by decide) (by decide), ?_, ?_, fun i hi => absurd hi (by omega)⟩, IT_0 (v 1 8 3 0 (by decide) (by decide) (by decide)) (v 413 60 2 0 (by decide) (by decide) (by decide)), ⟨0, by decide, v 0 11 10 0 (by decide) (by decide) (by decide), v 413 60 47 0 (by decide) (by decide) (by decide), fun i hi => absurd hi (by omega)⟩, ⟨?_, ?_⟩, ?_, fun i hi => ?_⟩
  · rw [z437 56 (by decide)]; decide
  · rw [z437 57 (by decide)]; decide
  · have zz : ∀ i : Fin 3, am_I0 376 i.val = am_I0 449 i.val := by decide +kernel
    rw [cell 376 3 i (by decide) hi, cell 449 3 i (by decide) hi]
    exact zz ⟨i, hi⟩
  · have zz : ∀ i : Fin 3, am_I0 449 i.val = 0 := by decide +kernel
    rw [cell 449 3 i (by decide) hi]
    exact zz ⟨i, hi⟩
  · rw [v 404 10 9 0 (by decide) (by decide) (by decide), v 413 60 56 0 (by decide) (by decide) (by decide)]
  · rw [v 413 60 56 0 (by decide) (by decide) (by decide)]; decide
  · rw [v 14 8 6 0 (by decide) (by decide) (by decide), v 413 60 4 0 (by decide) (by decide) (by decide)]
  · rw [v 14 8 7 (-1) (by decide) (by decide) (by decide), v 413 60 5 (-1) (by decide) (by decide) (by decide)]
  · rw [v 10 5 4 0 (by decide) (by decide) (by decide), v 418 2 0 0 (by decide) (by decide) (by decide)]
  · have zz : ∀ i : Fin 18, (i.val, Int64.ofNat (kwN.getD i.val 0)) ∈ am_lo := by decide +kernel
    exact c3 (i, Int64.ofNat (kwN.getD i 0)) (zz ⟨i, hi⟩)
