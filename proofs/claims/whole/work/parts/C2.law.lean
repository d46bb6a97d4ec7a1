/-! the law, call by call -/
theorem rdXv {ρ : Type} {X : am_X} {i : Nat} {F : Int32 → Option ρ} (hX : X.1 ≤ 3072) (hi : i < X.1) : rdX X (Int32.ofNat i) F = F (X.2 i) := by
  unfold rdX
  rw [if_pos (on_in hi (by omega)), on_nat (by omega)]
theorem law_loop {X : am_X} (hX : X.1 ≤ 3072) : ∀ m n p (f : Nat → Nat → Int32) (g : (Nat → Nat → Int64) × (Nat → Nat → Option Nat)), X.1 < p + 6 * m + 6 → p ≤ 3072 → INV f g → ∃ h, lp_L_law_18 X (n + m + 1) (Int32.ofNat p) (f, g) = some (1, h) := by
  have exit : ∀ p, p ≤ 3072 → ((Int32.ofNat X.1 - 6) < Int32.ofNat p ↔ X.1 < p + 6) := fun p hp => by
    have e6 : (6 : Int32).toInt = 6 := rfl
    rw [Int32.lt_iff_toInt_lt, ti_sub (by rw [on_toInt (by omega), e6]; omega) (by rw [on_toInt (by omega), e6]; omega), on_toInt (by omega), on_toInt (by omega), e6]
    omega
  intro m
  induction m with
  | zero =>
    intro n p f g hm hp I
    rw [show n + 0 + 1 = n + 1 from rfl, lp_L_law_18, if_pos ((exit p hp).mpr (by omega))]
    exact ⟨_, rfl⟩
  | succ m ih =>
    intro n p f g hm hp I
    rw [show n + (m + 1) + 1 = (n + m + 1) + 1 by omega, lp_L_law_18]
    by_cases ce : X.1 < p + 6
    · rw [if_pos ((exit p hp).mpr ce)]
      exact ⟨_, rfl⟩
    rw [if_neg (fun z => ce ((exit p hp).mp z))]
    have r0 : ∀ F : Int32 → Option (Int32 × am_H), rdX X (Int32.ofNat p) F = F (X.2 p) := fun F => rdXv hX (by omega)
    have r1 : ∀ F : Int32 → Option (Int32 × am_H), rdX X (Int32.ofNat p + 1) F = F (X.2 (p + 1)) := fun F => by rw [show Int32.ofNat p + 1 = Int32.ofNat (p + 1) from on_add p 1]; exact rdXv hX (by omega)
    have r2 : ∀ F : Int32 → Option (Int32 × am_H), rdX X (Int32.ofNat p + 2) F = F (X.2 (p + 2)) := fun F => by rw [show Int32.ofNat p + 2 = Int32.ofNat (p + 2) from on_add p 2]; exact rdXv hX (by omega)
    have r3 : ∀ F : Int32 → Option (Int32 × am_H), rdX X (Int32.ofNat p + 3) F = F (X.2 (p + 3)) := fun F => by rw [show Int32.ofNat p + 3 = Int32.ofNat (p + 3) from on_add p 3]; exact rdXv hX (by omega)
    have r4 : ∀ F : Int32 → Option (Int32 × am_H), rdX X (Int32.ofNat p + 4) F = F (X.2 (p + 4)) := fun F => by rw [show Int32.ofNat p + 4 = Int32.ofNat (p + 4) from on_add p 4]; exact rdXv hX (by omega)
    have r5 : ∀ F : Int32 → Option (Int32 × am_H), rdX X (Int32.ofNat p + 5) F = F (X.2 (p + 5)) := fun F => by rw [show Int32.ofNat p + 5 = Int32.ofNat (p + 5) from on_add p 5]; exact rdXv hX (by omega)
    have go : ∀ (f' : Nat → Nat → Int32) (g' : (Nat → Nat → Int64) × (Nat → Nat → Option Nat)), INV f' g' → ∃ h, lp_L_law_18 X (n + m + 1) (Int32.ofNat p + 6) (f', g') = some (1, h) := fun f' g' I' => by
      rw [show Int32.ofNat p + 6 = Int32.ofNat (p + 6) from on_add p 6]
      exact ih n (p + 6) f' g' (by omega) (by omega) I'
    rw [r0]
    by_cases c0 : (X.2 p &&& 63) = 0
    · obtain ⟨v, f1, g1, f2, g2, e1, e2, I2⟩ := i_feed I (X.2 (p + 1)) (X.2 (p + 2)) (X.2 (p + 3)) (X.2 (p + 4)) (X.2 (p + 5))
      rw [if_pos c0, r1, r2, r3, r4, r5, e1, cal2_some, r1, r2, r3, r4, r5, e2, cal2_some, if_pos rfl]
      exact go f2 g2 I2
    rw [if_neg c0]
    by_cases c1 : (X.2 p &&& 63) = 1
    · obtain ⟨v, f1, g1, f2, g2, e1, e2, I2⟩ := i_end I (X.2 (p + 1))
      rw [if_pos c1, r1, e1, cal2_some, r1, e2, cal2_some, if_pos rfl]
      exact go f2 g2 I2
    rw [if_neg c1]
    by_cases c2 : (X.2 p &&& 63) = 2
    · obtain ⟨v, f1, g1, f2, g2, e1, e2, I2⟩ := i_house I 
      rw [if_pos c2, e1, cal2_some, e2, cal2_some, if_pos rfl]
      exact go f2 g2 I2
    rw [if_neg c2]
    by_cases c3 : (X.2 p &&& 63) = 3
    · obtain ⟨b, D, hD, hok, hHM, hHI, hW, hA, hB, hM, hT, hL, hHX, hu, hK⟩ := id I
      obtain ⟨R, W, WLh, H, P, M, -⟩ := id hHI
      obtain ⟨v, e1, e2⟩ := q_fault hHX.1 hHX.2 (X.2 (p + 1))
      rw [if_pos c3, r1, e1, cal_some, r1, e2, cal_some, if_pos rfl]
      exact go f g I
    rw [if_neg c3]
    by_cases c4 : (X.2 p &&& 63) = 4
    · obtain ⟨b, D, hD, hok, hHM, hHI, hW, hA, hB, hM, hT, hL, hHX, hu, hK⟩ := id I
      obtain ⟨R, W, WLh, H, P, M, -⟩ := id hHI
      obtain ⟨v, e1, e2⟩ := q_room R P M (X.2 (p + 1)) (X.2 (p + 2))
      rw [if_pos c4, r1, r2, e1, cal_some, r1, r2, e2, cal_some, if_pos rfl]
      exact go f g I
    rw [if_neg c4]
    by_cases c5 : (X.2 p &&& 63) = 5
    · obtain ⟨b, D, hD, hok, hHM, hHI, hW, hA, hB, hM, hT, hL, hHX, hu, hK⟩ := id I
      obtain ⟨R, W, WLh, H, P, M, -⟩ := id hHI
      obtain ⟨v, e1, e2⟩ := q_trunk R (X.2 (p + 1)) (X.2 (p + 2))
      rw [if_pos c5, r1, r2, e1, cal_some, r1, r2, e2, cal_some, if_pos rfl]
      exact go f g I
    rw [if_neg c5]
    by_cases c6 : (X.2 p &&& 63) = 6
    · obtain ⟨v, f1, g1, f2, g2, e1, e2, I2⟩ := i_brood I (X.2 (p + 1)) (X.2 (p + 2))
      rw [if_pos c6, r1, r2, e1, cal2_some, r1, r2, e2, cal2_some, if_pos rfl]
      exact go f2 g2 I2
    rw [if_neg c6]
    by_cases c7 : (X.2 p &&& 63) = 7
    · obtain ⟨b, D, hD, hok, hHM, hHI, hW, hA, hB, hM, hT, hL, hHX, hu, hK⟩ := id I
      obtain ⟨R, W, WLh, H, P, M, -⟩ := id hHI
      obtain ⟨v, e1, e2⟩ := q_couple R W P M (X.2 (p + 1))
      rw [if_pos c7, r1, e1, cal_some, r1, e2, cal_some, if_pos rfl]
      exact go f g I
    rw [if_neg c7]
    by_cases c8 : (X.2 p &&& 63) = 8
    · obtain ⟨v, f1, g1, f2, g2, e1, e2, I2⟩ := i_year I 
      rw [if_pos c8, e1, cal2_some, e2, cal2_some, if_pos rfl]
      exact go f2 g2 I2
    rw [if_neg c8]
    by_cases c9 : (X.2 p &&& 63) = 9
    · obtain ⟨v, f1, g1, f2, g2, e1, e2, I2⟩ := i_carry I (X.2 (p + 1)) (X.2 (p + 2))
      rw [if_pos c9, r1, r2, e1, cal2_some, r1, r2, e2, cal2_some, if_pos rfl]
      exact go f2 g2 I2
    rw [if_neg c9]
    by_cases c10 : (X.2 p &&& 63) = 10
    · obtain ⟨v, f1, g1, f2, g2, e1, e2, I2⟩ := i_tell I (X.2 (p + 1))
      rw [if_pos c10, r1, e1, cal2_some, r1, e2, cal2_some, if_pos rfl]
      exact go f2 g2 I2
    rw [if_neg c10]
    by_cases c11 : (X.2 p &&& 63) = 11
    · obtain ⟨v, f1, g1, f2, g2, e1, e2, I2⟩ := i_lose I (X.2 (p + 1))
      rw [if_pos c11, r1, e1, cal2_some, r1, e2, cal2_some, if_pos rfl]
      exact go f2 g2 I2
    rw [if_neg c11]
    by_cases c12 : (X.2 p &&& 63) = 12
    · obtain ⟨v, f1, g1, f2, g2, e1, e2, I2⟩ := i_undo I 
      rw [if_pos c12, e1, cal2_some, e2, cal2_some, if_pos rfl]
      exact go f2 g2 I2
    rw [if_neg c12]
    by_cases c13 : (X.2 p &&& 63) = 13
    · obtain ⟨v, f1, g1, f2, g2, e1, e2, I2⟩ := i_redo I 
      rw [if_pos c13, e1, cal2_some, e2, cal2_some, if_pos rfl]
      exact go f2 g2 I2
    rw [if_neg c13]
    by_cases c14 : (X.2 p &&& 63) = 14
    · obtain ⟨v, f1, g1, f2, g2, e1, e2, I2⟩ := i_will I (X.2 (p + 1)) (X.2 (p + 2)) (X.2 (p + 3))
      rw [if_pos c14, r1, r2, r3, e1, cal2_some, r1, r2, r3, e2, cal2_some, if_pos rfl]
      exact go f2 g2 I2
    rw [if_neg c14]
    by_cases c15 : (X.2 p &&& 63) = 15
    · obtain ⟨v, f1, g1, f2, g2, e1, e2, I2⟩ := i_alive I (X.2 (p + 1))
      rw [if_pos c15, r1, e1, cal2_some, r1, e2, cal2_some, if_pos rfl]
      exact go f2 g2 I2
    rw [if_neg c15]
    by_cases c16 : (X.2 p &&& 63) = 16
    · obtain ⟨v, f1, g1, f2, g2, e1, e2, I2⟩ := i_pack I 
      rw [if_pos c16, e1, cal2_some, e2, cal2_some, if_pos rfl]
      exact go f2 g2 I2
    rw [if_neg c16]
    by_cases c17 : (X.2 p &&& 63) = 17
    · obtain ⟨b, D, hD, hok, hHM, hHI, hW, hA, hB, hM, hT, hL, hHX, hu, hK⟩ := id I
      obtain ⟨R, W, WLh, H, P, M, -⟩ := id hHI
      obtain ⟨v, e1, e2⟩ := q_fill R W H P M (X.2 (p + 1)) (X.2 (p + 2))
      rw [if_pos c17, r1, r2, e1, cal_some, r1, r2, e2, cal_some, if_pos rfl]
      exact go f g I
    rw [if_neg c17]
    by_cases c18 : (X.2 p &&& 63) = 18
    · obtain ⟨b, D, hD, hok, hHM, hHI, hW, hA, hB, hM, hT, hL, hHX, hu, hK⟩ := id I
      obtain ⟨R, W, WLh, H, P, M, -⟩ := id hHI
      obtain ⟨v, e1, e2⟩ := q_sires R W (X.2 (p + 1)) (X.2 (p + 2))
      rw [if_pos c18, r1, r2, e1, cal_some, r1, r2, e2, cal_some, if_pos rfl]
      exact go f g I
    rw [if_neg c18]
    by_cases c19 : (X.2 p &&& 63) = 19
    · obtain ⟨b, D, hD, hok, hHM, hHI, hW, hA, hB, hM, hT, hL, hHX, hu, hK⟩ := id I
      obtain ⟨R, W, WLh, H, P, M, -⟩ := id hHI
      obtain ⟨v, e1, e2⟩ := q_quartet R (X.2 (p + 1)) (X.2 (p + 2)) (X.2 (p + 3)) (X.2 (p + 4)) (X.2 (p + 5))
      rw [if_pos c19, r1, r2, r3, r4, r5, e1, cal_some, r1, r2, r3, r4, r5, e2, cal_some, if_pos rfl]
      exact go f g I
    rw [if_neg c19]
    by_cases c20 : (X.2 p &&& 63) = 20
    · obtain ⟨b, D, hD, hok, hHM, hHI, hW, hA, hB, hM, hT, hL, hHX, hu, hK⟩ := id I
      obtain ⟨R, W, WLh, H, P, M, -⟩ := id hHI
      obtain ⟨v, e1, e2⟩ := q_span R W 
      rw [if_pos c20, e1, cal_some, e2, cal_some, if_pos rfl]
      exact go f g I
    rw [if_neg c20]
    by_cases c21 : (X.2 p &&& 63) = 21
    · obtain ⟨b, D, hD, hok, hHM, hHI, hW, hA, hB, hM, hT, hL, hHX, hu, hK⟩ := id I
      obtain ⟨R, W, WLh, H, P, M, -⟩ := id hHI
      obtain ⟨v, e1, e2⟩ := q_line R W (X.2 (p + 1))
      rw [if_pos c21, r1, e1, cal_some, r1, e2, cal_some, if_pos rfl]
      exact go f g I
    rw [if_neg c21]
    by_cases c22 : (X.2 p &&& 63) = 22
    · obtain ⟨b, D, hD, hok, hHM, hHI, hW, hA, hB, hM, hT, hL, hHX, hu, hK⟩ := id I
      obtain ⟨R, W, WLh, H, P, M, -⟩ := id hHI
      obtain ⟨v, e1, e2⟩ := q_litter R (X.2 (p + 1))
      rw [if_pos c22, r1, e1, cal_some, r1, e2, cal_some, if_pos rfl]
      exact go f g I
    rw [if_neg c22]
    by_cases c23 : (X.2 p &&& 63) = 23
    · obtain ⟨b, D, hD, hok, hHM, hHI, hW, hA, hB, hM, hT, hL, hHX, hu, hK⟩ := id I
      obtain ⟨R, W, WLh, H, P, M, -⟩ := id hHI
      obtain ⟨v, e1, e2⟩ := q_kin R W (X.2 (p + 1)) (X.2 (p + 2))
      rw [if_pos c23, r1, r2, e1, cal_some, r1, r2, e2, cal_some, if_pos rfl]
      exact go f g I
    rw [if_neg c23]
    by_cases c24 : (X.2 p &&& 63) = 24
    · obtain ⟨b, D, hD, hok, hHM, hHI, hW, hA, hB, hM, hT, hL, hHX, hu, hK⟩ := id I
      obtain ⟨R, W, WLh, H, P, M, -⟩ := id hHI
      obtain ⟨v, e1, e2⟩ := q_need R W (X.2 (p + 1))
      rw [if_pos c24, r1, e1, cal_some, r1, e2, cal_some, if_pos rfl]
      exact go f g I
    rw [if_neg c24]
    by_cases c25 : (X.2 p &&& 63) = 25
    · obtain ⟨v, f1, g1, f2, g2, e1, e2, I2⟩ := i_best I (X.2 (p + 1)) (X.2 (p + 2))
      rw [if_pos c25, r1, r2, e1, cal2_some, r1, r2, e2, cal2_some, if_pos rfl]
      exact go f2 g2 I2
    rw [if_neg c25]
    by_cases c26 : (X.2 p &&& 63) = 26
    · obtain ⟨v, f1, g1, f2, g2, e1, e2, I2⟩ := i_rivals I (X.2 (p + 1)) (X.2 (p + 2))
      rw [if_pos c26, r1, r2, e1, cal2_some, r1, r2, e2, cal2_some, if_pos rfl]
      exact go f2 g2 I2
    rw [if_neg c26]
    by_cases c27 : (X.2 p &&& 63) = 27
    · obtain ⟨v, f1, g1, f2, g2, e1, e2, I2⟩ := i_fading I (X.2 (p + 1))
      rw [if_pos c27, r1, e1, cal2_some, r1, e2, cal2_some, if_pos rfl]
      exact go f2 g2 I2
    rw [if_neg c27]
    by_cases c28 : (X.2 p &&& 63) = 28
    · obtain ⟨b, D, hD, hok, hHM, hHI, hW, hA, hB, hM, hT, hL, hHX, hu, hK⟩ := id I
      obtain ⟨R, W, WLh, H, P, M, -⟩ := id hHI
      obtain ⟨v, e1, e2⟩ := q_alike R W (X.2 (p + 1)) (X.2 (p + 2))
      rw [if_pos c28, r1, r2, e1, cal_some, r1, r2, e2, cal_some, if_pos rfl]
      exact go f g I
    rw [if_neg c28]
    by_cases c29 : (X.2 p &&& 63) = 29
    · obtain ⟨b, D, hD, hok, hHM, hHI, hW, hA, hB, hM, hT, hL, hHX, hu, hK⟩ := id I
      obtain ⟨R, W, WLh, H, P, M, -⟩ := id hHI
      obtain ⟨v, e1, e2⟩ := q_like R W (X.2 (p + 1))
      rw [if_pos c29, r1, e1, cal_some, r1, e2, cal_some, if_pos rfl]
      exact go f g I
    rw [if_neg c29]
    by_cases c30 : (X.2 p &&& 63) = 30
    · obtain ⟨b, D, hD, hok, hHM, hHI, hW, hA, hB, hM, hT, hL, hHX, hu, hK⟩ := id I
      obtain ⟨R, W, WLh, H, P, M, -⟩ := id hHI
      obtain ⟨v, e1, e2⟩ := q_odd R W 
      rw [if_pos c30, e1, cal_some, e2, cal_some, if_pos rfl]
      exact go f g I
    rw [if_neg c30]
    by_cases c31 : (X.2 p &&& 63) = 31
    · obtain ⟨b, D, hD, hok, hHM, hHI, hW, hA, hB, hM, hT, hL, hHX, hu, hK⟩ := id I
      obtain ⟨R, W, WLh, H, P, M, -⟩ := id hHI
      obtain ⟨v, e1, e2⟩ := q_bearers R W (X.2 (p + 1))
      rw [if_pos c31, r1, e1, cal_some, r1, e2, cal_some, if_pos rfl]
      exact go f g I
    rw [if_neg c31]
    by_cases c32 : (X.2 p &&& 63) = 32
    · obtain ⟨b, D, hD, hok, hHM, hHI, hW, hA, hB, hM, hT, hL, hHX, hu, hK⟩ := id I
      obtain ⟨R, W, WLh, H, P, M, -⟩ := id hHI
      obtain ⟨v, e1, e2⟩ := q_roomiest H R W WLh P M 
      rw [if_pos c32, e1, cal_some, e2, cal_some, if_pos rfl]
      exact go f g I
    rw [if_neg c32]
    by_cases c33 : (X.2 p &&& 63) = 33
    · obtain ⟨v, f1, g1, f2, g2, e1, e2, I2⟩ := i_ripe I 
      rw [if_pos c33, e1, cal2_some, e2, cal2_some, if_pos rfl]
      exact go f2 g2 I2
    rw [if_neg c33]
    by_cases c34 : (X.2 p &&& 63) = 34
    · obtain ⟨v, f1, g1, f2, g2, e1, e2, I2⟩ := i_law I (X.2 (p + 1)) (X.2 (p + 2))
      rw [if_pos c34, r1, r2, e1, cal2_some, r1, r2, e2, cal2_some, if_pos rfl]
      exact go f2 g2 I2
    rw [if_neg c34]
    by_cases c35 : (X.2 p &&& 63) = 35
    · obtain ⟨b, D, hD, hok, hHM, hHI, hW, hA, hB, hM, hT, hL, hHX, hu, hK⟩ := id I
      obtain ⟨R, W, WLh, H, P, M, -⟩ := id hHI
      obtain ⟨v, e1, e2⟩ := q_pining R 
      rw [if_pos c35, e1, cal_some, e2, cal_some, if_pos rfl]
      exact go f g I
    rw [if_neg c35]
    by_cases c36 : (X.2 p &&& 63) = 36
    · obtain ⟨v, f1, g1, f2, g2, e1, e2, I2⟩ := i_gone I (X.2 (p + 1))
      rw [if_pos c36, r1, e1, cal2_some, r1, e2, cal2_some, if_pos rfl]
      exact go f2 g2 I2
    rw [if_neg c36]
    by_cases c37 : (X.2 p &&& 63) = 37
    · obtain ⟨b, D, hD, hok, hHM, hHI, hW, hA, hB, hM, hT, hL, hHX, hu, hK⟩ := id I
      obtain ⟨R, W, WLh, H, P, M, -⟩ := id hHI
      obtain ⟨v, e1, e2⟩ := q_lies hL (X.2 (p + 1))
      rw [if_pos c37, r1, e1, cal_some, r1, e2, cal_some, if_pos rfl]
      exact go f g I
    rw [if_neg c37]
    by_cases c38 : (X.2 p &&& 63) = 38
    · rw [if_pos c38, r1, r2, r3]
      by_cases cz : X.2 (p + 3) = 0
      · obtain ⟨v, f1, g1, f2, g2, e1, e2, I2⟩ := i_held I (X.2 (p + 1)) (X.2 (p + 2)) 0 (by decide)
        rw [if_pos cz, e1, cal2_some, r1, r2, r3, if_pos cz, e2, cal2_some, if_pos rfl]
        exact go f2 g2 I2
      · obtain ⟨v, f1, g1, f2, g2, e1, e2, I2⟩ := i_held I (X.2 (p + 1)) (X.2 (p + 2)) 1 (by decide)
        rw [if_neg cz, e1, cal2_some, r1, r2, r3, if_neg cz, e2, cal2_some, if_pos rfl]
        exact go f2 g2 I2
    rw [if_neg c38]
    by_cases c39 : (X.2 p &&& 63) = 39
    · obtain ⟨v, f1, g1, f2, g2, e1, e2, I2⟩ := i_untell I (X.2 (p + 1))
      rw [if_pos c39, r1, e1, cal2_some, r1, e2, cal2_some, if_pos rfl]
      exact go f2 g2 I2
    rw [if_neg c39]
    by_cases c40 : (X.2 p &&& 63) = 40
    · obtain ⟨v, f1, g1, f2, g2, e1, e2, I2⟩ := i_later I (X.2 (p + 1))
      rw [if_pos c40, r1, e1, cal2_some, r1, e2, cal2_some, if_pos rfl]
      exact go f2 g2 I2
    rw [if_neg c40]
    by_cases c41 : (X.2 p &&& 63) = 41
    · obtain ⟨v, f2, g2, e1, e2, I2⟩ := i_fits I (X.2 (p + 1))
      rw [if_pos c41, r1, e1, cal_some, r1, e2, cal2_some, if_pos rfl]
      exact go f2 g2 I2
    rw [if_neg c41]
    by_cases c42 : (X.2 p &&& 63) = 42
    · obtain ⟨v, f2, g2, e1, e2, I2⟩ := i_sure I (X.2 (p + 1)) (X.2 (p + 2))
      rw [if_pos c42, r1, r2, e1, cal_some, r1, r2, e2, cal2_some, if_pos rfl]
      exact go f2 g2 I2
    rw [if_neg c42]
    by_cases c43 : (X.2 p &&& 63) = 43
    · obtain ⟨v, f1, g1, f2, g2, e1, e2, I2⟩ := i_ask I (X.2 (p + 1)) (X.2 (p + 2))
      rw [if_pos c43, r1, r2, e1, cal2_some, r1, r2, e2, cal2_some, if_pos rfl]
      exact go f2 g2 I2
    rw [if_neg c43]
    by_cases c44 : (X.2 p &&& 63) = 44
    · obtain ⟨v, f1, g1, f2, g2, e1, e2, I2⟩ := i_image I (X.2 (p + 1))
      rw [if_pos c44, r1, e1, cal2_some, r1, e2, cal2_some, if_pos rfl]
      exact go f2 g2 I2
    rw [if_neg c44]
    by_cases c45 : (X.2 p &&& 63) = 45
    · obtain ⟨v, f1, g1, f2, g2, e1, e2, I2⟩ := i_back I (X.2 (p + 1))
      rw [if_pos c45, r1, e1, cal2_some, r1, e2, cal2_some, if_pos rfl]
      exact go f2 g2 I2
    rw [if_neg c45]
    by_cases c46 : (X.2 p &&& 63) = 46
    · obtain ⟨b, D, hD, hok, hHM, hHI, hW, hA, hB, hM, hT, hL, hHX, hu, hK⟩ := id I
      obtain ⟨R, W, WLh, H, P, M, -⟩ := id hHI
      obtain ⟨v, e1, e2⟩ := q_about hHI hA hM hT hL hu (X.2 (p + 1))
      rw [if_pos c46, r1, e1, cal_some, r1, e2, cal_some, if_pos rfl]
      exact go f g I
    rw [if_neg c46]
    exact go f g I
theorem am_math : am_Math := by
  intro X h0 hX hc e
  obtain ⟨h, eh⟩ := law_loop hX 512 3487 0 h0.1 h0.2 (by omega) (by decide) (INV_0 hc e)
  exact ⟨h, eh⟩
