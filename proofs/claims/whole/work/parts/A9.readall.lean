/-! the whole text, by the class -/
section KD
variable {f : Nat → Nat → Int32} {g : (Nat → Nat → Int64) × (Nat → Nat → Option Nat)} {B : Nat → Nat} {L : Nat}
theorem add_23 {n : Nat} (hn : n < 300) (h3 : f 23 3 = Int32.ofNat n) (k v : Int32) : f_X2_addStep_23 k v (f, g) = some (am_u2 (am_u2 (am_u2 f 24 n k) 25 n v) 23 3 (Int32.ofNat (n + 1)), g) := by
  have hl3 : Int32.ofNat n < 300 := by
    rw [show (300 : Int32) = Int32.ofNat 300 from rfl, on_lt (by omega) (by omega)]; exact hn
  unfold f_X2_addStep_23
  rw [bnd_eq]
  simp only [h3]
  rw [if_neg (nneg (by omega)), bnd_eq, if_pos hl3, bnd_eq, wrI_n hn (by decide), bnd_eq]
  simp only [u2_ne (show (23 : Nat) ≠ 24 by decide), h3]
  rw [wrI_n hn (by decide), bnd_eq, ptI_eq]
  simp only [u2_ne (show (23 : Nat) ≠ 24 by decide), u2_ne (show (23 : Nat) ≠ 25 by decide), h3, on_succ]
theorem X4_clear : ∃ f', f_X4_clear_17 (f, g) = some (f', g) ∧ f' 17 6 = 0 ∧ f' 17 7 = 0 ∧ f' 17 8 = 3 ∧ f' 17 9 = 0 ∧ f' 17 10 = 0 ∧ f' 23 3 = 3 ∧ f' 23 4 = 0 ∧ CLc f' [(25, 0), (16, 0), (14, 0)] ∧ ∀ a, a ≠ 17 → a ≠ 23 → a ≠ 24 → a ≠ 25 → f' a = f a := by
  let f1 := am_u2 (am_u2 (am_u2 (am_u2 (am_u2 f 17 6 0) 17 7 0) 17 8 3) 17 9 0) 17 10 0
  let f2 := am_u2 (am_u2 f1 23 3 0) 23 4 0
  let f3 := am_u2 (am_u2 (am_u2 f2 24 0 14) 25 0 0) 23 3 1
  let f4 := am_u2 (am_u2 (am_u2 f3 24 1 16) 25 1 0) 23 3 2
  let f5 := am_u2 (am_u2 (am_u2 f4 24 2 25) 25 2 0) 23 3 3
  have s1 : f_X2_addStep_23 14 0 (f2, g) = some (f3, g) := add_23 (n := 0) (by decide) (by simp [f2, am_u2]) 14 0
  have s2 : f_X2_addStep_23 16 0 (f3, g) = some (f4, g) := add_23 (n := 1) (by decide) (by simp [f3, am_u2]) 16 0
  have s3 : f_X2_addStep_23 25 0 (f4, g) = some (f5, g) := add_23 (n := 2) (by decide) (by simp [f4, am_u2]) 25 0
  refine ⟨f5, ?_, by simp [f5, f4, f3, f2, f1, am_u2], by simp [f5, f4, f3, f2, f1, am_u2], by simp [f5, f4, f3, f2, f1, am_u2], by simp [f5, f4, f3, f2, f1, am_u2], by simp [f5, f4, f3, f2, f1, am_u2], by simp [f5, am_u2], by simp [f5, f4, f3, f2, am_u2], ⟨by simp [f5, am_u2], fun z => absurd z (by decide), by simp [f5, f4, am_u2], fun z => absurd z (by decide), by simp [f5, f4, f3, am_u2], fun z => absurd z (by decide), trivial⟩, fun a z1 z2 z3 z4 => ?_⟩
  · unfold f_X4_clear_17 f_X2_beAsUntold_23 f_X2_clear_23
    simp only [ptI_eq]
    rw [cal_some]
    have s1' : f_X2_addStep_23 14 0 (am_u2 (am_u2 (am_u2 (am_u2 (am_u2 (am_u2 (am_u2 f 17 6 0) 17 7 0) 17 8 3) 17 9 0) 17 10 0) 23 3 0) 23 4 0, g) = some (f3, g) := s1
    rw [s1', cal_some, s2, cal_some, s3, cal_some, cal_some]
  · show am_u2 (am_u2 (am_u2 f4 _ _ _) _ _ _) _ _ _ a = _
    rw [u2_ne z2, u2_ne z4, u2_ne z3]
    show am_u2 (am_u2 (am_u2 f3 _ _ _) _ _ _) _ _ _ a = _
    rw [u2_ne z2, u2_ne z4, u2_ne z3]
    show am_u2 (am_u2 (am_u2 f2 _ _ _) _ _ _) _ _ _ a = _
    rw [u2_ne z2, u2_ne z4, u2_ne z3]
    show am_u2 (am_u2 f1 _ _ _) _ _ _ a = _
    rw [u2_ne z2, u2_ne z2]
    show am_u2 (am_u2 (am_u2 (am_u2 (am_u2 f _ _ _) _ _ _) _ _ _) _ _ _) _ _ _ a = _
    rw [u2_ne z1, u2_ne z1, u2_ne z1, u2_ne z1, u2_ne z1]
theorem DV_0 : DV D0 := ⟨by decide, by decide, by decide, by decide, by decide, by decide, fun r hr => absurd hr (by simp [D0]), fun t ht => absurd ht (by simp [D0]), by decide, by decide, fun _ => ⟨rfl, rfl⟩⟩
theorem X5_readAll (T : TPc f g B L) : match pAll (tk B L) 1600 (tk B L 0) D0 with
    | .inl e => FAc f g (f_X5_readAll (f, g)) e
    | .inr (t', D') => ∃ f' g', f_X5_readAll (f, g) = some (1, (f', g')) ∧ CDT f' g' B L D' t' ∧ FRc f f' g g' ∧ f' 14 6 = 0 ∧ f' 14 7 = -1 := by
  obtain ⟨f1, a1, a2, a3, a4, a5, a6, a7, a8, a9, a10⟩ := X4_clear (f := f) (g := g)
  let f2 := am_u2 (am_u2 (am_u2 (am_u2 f1 14 3 0) 14 6 0) 14 7 (-1)) 1 2 0
  have fr2 : ∀ a, a ≠ 1 → a ≠ 14 → f2 a = f1 a := fun a z1 z2 => by show am_u2 (am_u2 (am_u2 (am_u2 _ _ _ _) _ _ _) _ _ _) _ _ _ a = _; rw [u2_ne z1, u2_ne z2, u2_ne z2, u2_ne z2]
  have T2 : TPc f2 g B L := by
    obtain ⟨t1, t2, t3, t4, t5⟩ := T
    refine ⟨?_, t2, by rw [fr2 2 (by decide) (by decide), a10 2 (by decide) (by decide) (by decide) (by decide)]; exact t3, t4, t5⟩
    show am_u2 _ 1 2 _ 1 3 = _
    rw [au_nk (by decide), u2_ne (by decide), u2_ne (by decide), u2_ne (by decide), a10 1 (by decide) (by decide) (by decide) (by decide)]
    exact t1
  have e12 : f2 1 2 = Int32.ofNat 0 := au_same
  obtain ⟨f3, g3, b1, b2, b3, b4, b5, b6⟩ := X9_advance T2 e12 (Nat.zero_le _)
  have tv : TV B L (tk B L 0) := ⟨0, Nat.zero_le _, rfl⟩
  have c14 : ∀ k, f3 14 k = am_u2 (am_u2 (am_u2 f1 14 3 0) 14 6 0) 14 7 (-1) 14 k := fun k => by
    rw [b4 14 (by decide)]
    show am_u2 _ 1 2 _ 14 k = _
    rw [u2_ne (by decide)]
  have h3 : CDT f3 g3 B L D0 (tk B L 0) := by
    refine ⟨b2, b3, tv, ?_⟩
    unfold CD
    rw [c14 3, b4 17 (by decide), fr2 17 (by decide) (by decide), b4 23 (by decide), fr2 23 (by decide) (by decide)]
    exact ⟨⟨a2, a3, a4, a5, a6⟩, by rw [au_nk (by decide), au_nk (by decide), au_same]; rfl, fun i hi => absurd hi (by simp [D0]), fun i hi => absurd hi (by simp [D0]), a7, a8, CLc_cong (fun i _ => by rw [b4 24 (by decide), fr2 24 (by decide) (by decide)]) (fun i _ => by rw [b4 25 (by decide), fr2 25 (by decide) (by decide)]) a9⟩
  have hR : f_X5_readAll (f, g) = lp_X5_readAll_31 4000 0 (f3, g3) := by
    unfold f_X5_readAll f_X9_rewind
    rw [a1, cal_some, ptI_eq, ptI_eq, ptI_eq, ptI_eq]
    have b1' : f_X9_advance (am_u2 (am_u2 (am_u2 (am_u2 f1 14 3 0) 14 6 0) 14 7 (-1)) 1 2 0, g) = some (f3, g3) := b1
    simp only
    rw [b1', cal_some, cal_some]
  have fr : FRc f f3 g g3 := ⟨fun a z1 z2 => by rw [b4 a z1, fr2 a z1 (by omega), a10 a (by omega) (by omega) (by omega) (by omega)], b5, fun a z1 _ _ => b6 a z1⟩
  have s := k_all (B := B) (L := L) 1600 2399 0 (tk B L 0) D0 f3 g3 rfl DV_0 h3
  have s' : KR f3 g3 B L (f_X5_readAll (f, g)) (pAll (tk B L) 1600 (tk B L 0) D0) := by rw [hR]; exact s
  revert s'
  generalize pAll (tk B L) 1600 (tk B L 0) D0 = r
  intro s'
  rcases r with e | ⟨t', D'⟩
  · exact FAc.pre fr s'
  · obtain ⟨f', g', d1, d2, d3, d4, d5⟩ := s'
    exact ⟨f', g', d1, d2, fr.trans d3, by rw [d4, c14 6, au_nk (by decide), au_same], by rw [d5, c14 7, au_same]⟩
theorem pAll_ok : ∀ n t D t' D', DV D → TV B L t → L ≤ t.2.1 + n → pAll (tk B L) n t D = .inr (t', D') → DV D' ∧ TV B L t' ∧ t'.1 = 31
  | 0, t, D, t', D', hD, ht, hn, e => by
    rw [pAll] at e
    cases e
    refine ⟨hD, ht, ?_⟩
    obtain ⟨p, hp, rfl⟩ := ht
    obtain ⟨h1, h2, h3, h4, h5, h6⟩ := tk_ok B hp
    by_cases c : (tk B L p).1 = 31
    · exact c
    · have := h4 c; omega
  | n + 1, t, D, t', D', hD, ht, hn, e => by
    rw [pAll] at e
    by_cases c : t.1 = 31
    · rw [if_pos c] at e
      cases e
      exact ⟨hD, ht, c⟩
    · rw [if_neg c] at e
      obtain ⟨x, e1, e⟩ := bR_ok e
      obtain ⟨n1, hD'⟩ := pLine_ok hD ht e1
      exact pAll_ok n x.1 x.2 t' D' hD' n1.1 (by have := n1.2; omega) e
end KD
