/-! the model at a unit, and behind one -/
section MU1
variable {f : Nat → Nat → Int32} {g : (Nat → Nat → Int64) × (Nat → Nat → Option Nat)} {B : Nat → Nat} {L rb : Nat} {t : TK} {S : List (Nat × Nat)} {w u : Nat} {C : List (Nat × Nat)} {a k : Nat}
def begN (a : Nat) : Bool := decide (a ≤ 3) || decide (7 ≤ a)
def notX (a : Nat) (t : TK) : Bool := begN a && t.1 == 13
theorem unit_56 (h : ME f g B L rb t ((a, k) :: S) w u C) (hl : S.length < 89) : f_X12_unit (f, g) = jn_X12_unit_56 (if notX a t = true then 1 else 0) (f, g) := by
  obtain ⟨hG, h36, h35, h418, h37, h34, ⟨hS1, hS2, hS3, hS4⟩, hC⟩ := h
  have hk := hG.k
  have w13 : f_X12_isWord 7237492 (f, g) = _ := X12_isWord hG.1 hk (i := 13) (by decide) rfl
  have hp : Int32.ofNat ((a, k) :: S).length - 1 = Int32.ofNat S.length := by rw [on_pred (by simp)]; rfl
  have j55 : jn_X12_unit_55 (f, g) = jn_X12_unit_56 0 (f, g) := rfl
  have j31 : jn_X12_unit_31 (f, g) = jn_X12_unit_56 (if t.1 = 13 then 1 else 0) (f, g) := by
    unfold jn_X12_unit_31 jn_X12_unit_36
    rw [if_neg (by decide), w13, cal_some]
    by_cases c : t.1 = 13
    · rw [if_pos c, if_neg (by decide)]
    · rw [if_neg c, if_pos rfl, j55]
  have lt3 : (3 : Int32) < Int32.ofNat a ↔ 3 < a := by rw [show (3 : Int32) = Int32.ofNat 3 from rfl, on_lt (by omega) (by omega)]
  have lt7 : Int32.ofNat a < 7 ↔ a < 7 := by rw [show (7 : Int32) = Int32.ofNat 7 from rfl, on_lt (by omega) (by omega)]
  unfold f_X12_unit
  rw [bnd_eq]
  simp only [h36, hp]
  rw [rdI_n (by omega) (by decide)]
  simp only [hS1, lt3]
  unfold notX begN
  by_cases c : 3 < a
  · rw [if_pos c, bnd_eq]
    simp only [h36, hp]
    rw [rdI_n (by omega) (by decide)]
    simp only [hS1, lt7]
    by_cases c7 : a < 7
    · rw [if_pos c7]
      unfold jn_X12_unit_36
      rw [if_pos rfl, j55, decide_eq_false (by omega), decide_eq_false (by omega)]
      rfl
    · rw [if_neg c7, j31, decide_eq_true (show 7 ≤ a by omega), Bool.or_true, Bool.true_and]
      simp only [beq_iff_eq]
  · rw [if_neg c, j31, decide_eq_true (show a ≤ 3 by omega), Bool.true_or, Bool.true_and]
    simp only [beq_iff_eq]
def wdX (t : TK) : Int32 := if isPl t.1 = true ∧ t.1 ≠ 29 then Int32.ofNat (mch t.1) else 0
def brX (t : TK) : Int32 := if t.1 = 19 then 1 else 0
theorem unit_98 (h : ME f g B L rb t S w u C) (hu : u ≤ 30) (y : Int32) : jn_X12_unit_56 y (f, g) = jn_X12_unit_98 y (brX t) (wdX t) (if u = 30 then 1 else 0) (f, g) := by
  obtain ⟨hG, h36, h35, h418, h37, h34, hS, hC⟩ := h
  have s40 : f_X12_isSignHere 40 (f, g) = _ := X12_isSignHere (s := 19) (c := 40) hG.1 hG.2.1 hG.k (by decide) rfl (by decide)
  unfold jn_X12_unit_56
  rw [s40, cal_some, X12_wordHere hG, cal_some, bnd_eq]
  simp only [hG.2.2.2.1]
  rw [rdI_n hG.2.2.1 (by decide)]
  simp only [h418]
  have n60 : ¬ Int32.ofNat u = 60 := by rw [show (60 : Int32) = Int32.ofNat 60 from rfl, on_inj (by omega) (by omega)]; omega
  have e30 : Int32.ofNat u = 30 ↔ u = 30 := by rw [show (30 : Int32) = Int32.ofNat 30 from rfl, on_inj (by omega) (by omega)]
  rw [if_neg n60, bnd_eq]
  simp only [h37, e30]
  by_cases c : u = 30
  · rw [if_pos c, if_pos c]; rfl
  · rw [if_neg c, if_neg c]; rfl
theorem u_143 (hG : MG f g B L rb t) (x y z : Int32) : jn_X12_unit_143 x y z (f, g) = some (1, (failM f (if t.1 = 32 then 1 else 2) t.2.1, g)) := by
  unfold jn_X12_unit_143 jn_X12_unit_147
  rw [X12_misplaced hG, cal_some, isGood_n (c := if t.1 = 32 then 1 else 2) (by split <;> decide) failM_4.1, cal_some, if_pos rfl]
theorem u_134 (h : ME f g B L rb t S w u C) (hw : w ≤ 7) (x y z : Int32) : jn_X12_unit_134 x y z (f, g) = if w = 7 then jn_X12_unit_143 x y z (f, g) else jn_X12_unit_147 x y z (f, g) := by
  obtain ⟨hG, h36, h35, h418, h37, h34, hS, hC⟩ := h
  unfold jn_X12_unit_134
  rw [bnd_eq]
  have e7 : Int32.ofNat w = 7 ↔ w = 7 := by rw [show (7 : Int32) = Int32.ofNat 7 from rfl, on_inj (by omega) (by omega)]
  simp only [h35, e7]
theorem ME_u (h : ME f g B L rb t S w u C) (u' : Nat) : ME (am_u2 (am_u2 f 418 rb (Int32.ofNat u')) 413 37 (Int32.ofNat u')) g B L rb t S w u' C ∧ MFr rb f (am_u2 (am_u2 f 418 rb (Int32.ofNat u')) 413 37 (Int32.ofNat u')) g g := by
  obtain ⟨hG, h36, h35, h418, h37, h34, hS, hC⟩ := h
  have fr : ∀ b, b ≠ 413 → b ≠ 418 → am_u2 (am_u2 f 418 rb (Int32.ofNat u')) 413 37 (Int32.ofNat u') b = f b := fun b z1 z2 => by rw [u2_ne z1, u2_ne z2]
  have fk : ∀ k, k ≠ 37 → am_u2 (am_u2 f 418 rb (Int32.ofNat u')) 413 37 (Int32.ofNat u') 413 k = f 413 k := fun k z => by rw [au_nk z, u2_ne (by decide)]
  refine ⟨⟨MG_fr (fun k z => fk k (by omega)) (fr 415 (by decide) (by decide)) hG, by rw [fk 36 (by decide)]; exact h36, by rw [fk 35 (by decide)]; exact h35, by rw [u2_ne (by decide), au_same], au_same, by rw [fk 34 (by decide)]; exact h34, STm_cong (fun i _ => by rw [fr 434 (by decide) (by decide)]) (fun i _ => by rw [fr 435 (by decide) (by decide)]) hS, CLm_cong (fun i _ => by rw [fr 432 (by decide) (by decide)]) (fun i _ => by rw [fr 433 (by decide) (by decide)]) hC⟩, ⟨fun b z1 z2 _ _ _ _ => fr b z1 z2, fun k z1 z2 => fk k (by omega), fun i z => by rw [u2_ne (by decide), au_nk z], fun i _ => by rw [fr 432 (by decide) (by decide), fr 433 (by decide) (by decide)]; exact ⟨rfl, rfl⟩, rfl, fun _ _ => rfl⟩⟩
theorem ME_w (h : ME f g B L rb t S w u C) (w' : Nat) : ME (am_u2 f 413 35 (Int32.ofNat w')) g B L rb t S w' u C ∧ MFr rb f (am_u2 f 413 35 (Int32.ofNat w')) g g := by
  obtain ⟨hG, h36, h35, h418, h37, h34, hS, hC⟩ := h
  have fr : ∀ b, b ≠ 413 → am_u2 f 413 35 (Int32.ofNat w') b = f b := fun b z1 => u2_ne z1
  have fk : ∀ k, k ≠ 35 → am_u2 f 413 35 (Int32.ofNat w') 413 k = f 413 k := fun k z => au_nk z
  exact ⟨⟨MG_fr (fun k z => fk k (by omega)) (fr 415 (by decide)) hG, by rw [fk 36 (by decide)]; exact h36, au_same, by rw [fr 418 (by decide)]; exact h418, by rw [fk 37 (by decide)]; exact h37, by rw [fk 34 (by decide)]; exact h34, STm_cong (fun i _ => by rw [fr 434 (by decide)]) (fun i _ => by rw [fr 435 (by decide)]) hS, CLm_cong (fun i _ => by rw [fr 432 (by decide)]) (fun i _ => by rw [fr 433 (by decide)]) hC⟩, ⟨fun b z1 _ _ _ _ _ => fr b z1, fun k z1 z2 => fk k (by omega), fun i z => by rw [fr 418 (by decide)], fun i _ => by rw [fr 432 (by decide), fr 433 (by decide)]; exact ⟨rfl, rfl⟩, rfl, fun _ _ => rfl⟩⟩
/-- a unit that stands for itself -/
theorem u_147p (h : ME f g B L rb t S w u C) (hC' : C.length < 560) (hp : isPl t.1 = true) : ∃ f' g', jn_X12_unit_147 0 0 (wdX t) (f, g) = some (0, (f', g')) ∧ ME f' g' B L rb (tk B L t.2.2.1) S w (u + 1) ((t.1, t.2.2.2.1) :: C) ∧ MFr rb f f' g g' := by
  obtain ⟨h1, fr1⟩ := ME_u h (u + 1)
  obtain ⟨f2, g2, a1, a2, a3⟩ := ME_go h1
  obtain ⟨hG, h36, h35, h418, h37, h34, hS, hC⟩ := h
  unfold jn_X12_unit_147
  rw [isGood_0 hG.2.2.2.2.1, cal_some, if_neg (by decide), bnd_eq]
  simp only [hG.2.2.2.1]
  rw [rdI_n hG.2.2.1 (by decide), if_pos True.intro, wrI_n hG.2.2.1 (by decide), bnd_eq]
  simp only [h418, on_succ, u2_ne (show (413 : Nat) ≠ 418 by decide), h37, if_true]
  rw [ptI_eq]
  simp only
  have hz : ∀ c : Nat, (c = 110 ∨ c ≠ 110) := fun c => by omega
  by_cases c29 : t.1 = 29
  · have w0 : wdX t = 0 := by unfold wdX; rw [if_neg (fun z => z.2 c29)]
    obtain ⟨f3, b1, b2, b3⟩ := ME_emit a2 hC' t.1 (f 413 9) t.2.2.2.1 (fun z => hG.1.2.2.2.1 z)
    have b1' : f_X12_emit 110 (f 413 9) (f2, g2) = some (f3, g2) := by rw [← b1, c29]; rfl
    rw [w0, if_pos rfl, bnd_eq]
    unfold jn_X12_unit_208
    rw [a1, cal_some, if_pos rfl, if_pos rfl, if_pos rfl]
    have e9 : am_u2 (am_u2 f 418 rb (Int32.ofNat (u + 1))) 413 37 (Int32.ofNat (u + 1)) 413 9 = f 413 9 := by rw [au_nk (by decide), u2_ne (by decide)]
    simp only [e9]
    rw [b1', cal_some]
    exact ⟨f3, g2, rfl, b2, fr1.trans (a3.trans b3)⟩
  · have w1 : wdX t = Int32.ofNat (mch t.1) := by unfold wdX; rw [if_pos ⟨hp, c29⟩]
    have wn : ¬ Int32.ofNat (mch t.1) = 0 := by
      simp only [isPl, Bool.or_eq_true, beq_iff_eq] at hp
      have : t.1 = 3 ∨ t.1 = 14 ∨ t.1 = 15 ∨ t.1 = 16 ∨ t.1 = 17 := by omega
      rcases this with z | z | z | z | z <;> rw [z] <;> decide
    obtain ⟨f3, b1, b2, b3⟩ := ME_emit a2 hC' t.1 0 t.2.2.2.1 (fun z => absurd z c29)
    rw [w1, if_neg wn]
    unfold jn_X12_unit_208
    rw [a1, cal_some, if_pos rfl, if_pos rfl, if_neg wn, b1, cal_some]
    exact ⟨f3, g2, rfl, b2, fr1.trans (a3.trans b3)⟩
theorem u_147b (h : ME f g B L rb t S w u C) (hl : S.length < 90) : ∃ f' g', jn_X12_unit_147 0 1 0 (f, g) = some (1, (f', g')) ∧ ME f' g' B L rb (tk B L t.2.2.1) ((7, 0) :: S) (w + 1) (u + 1) C ∧ MFr rb f f' g g' := by
  obtain ⟨h1, fr1⟩ := ME_u h (u + 1)
  obtain ⟨f2, g2, a1, a2, a3⟩ := ME_go h1
  obtain ⟨f3, b1, b2, b3⟩ := ME_push a2 hl 7 126 0 (by decide) (fun z => absurd z (by decide))
  obtain ⟨h4, fr4⟩ := ME_w b2 (w + 1)
  obtain ⟨hG, h36, h35, h418, h37, h34, hS, hC⟩ := h
  have b1' : f_X12_pushE 7 126 (f2, g2) = some (f3, g2) := b1
  unfold jn_X12_unit_147
  rw [isGood_0 hG.2.2.2.2.1, cal_some, if_neg (by decide), bnd_eq]
  simp only [hG.2.2.2.1]
  rw [rdI_n hG.2.2.1 (by decide), if_pos True.intro, wrI_n hG.2.2.1 (by decide), bnd_eq]
  simp only [h418, on_succ, u2_ne (show (413 : Nat) ≠ 418 by decide), h37, if_true]
  rw [ptI_eq]
  simp only
  rw [bnd_eq]
  unfold jn_X12_unit_208 jn_X12_unit_222
  rw [a1, cal_some, if_pos rfl, if_neg (by decide), if_pos rfl, b1', cal_some, bnd_eq, ptI_eq]
  simp only [b2.2.2.1, on_succ]
  exact ⟨_, g2, rfl, h4, fr1.trans (a3.trans (b3.trans fr4))⟩
theorem u_147n (h : ME f g B L rb t S w u C) (hl : S.length < 90) : ∃ f' g', jn_X12_unit_147 1 0 0 (f, g) = some (1, (f', g')) ∧ ME f' g' B L rb (tk B L t.2.2.1) ((3, 13) :: S) (w + 1) u C ∧ MFr rb f f' g g' := by
  obtain ⟨h1, fr1⟩ := ME_u h u
  obtain ⟨f2, g2, a1, a2, a3⟩ := ME_go h1
  obtain ⟨f3, b1, b2, b3⟩ := ME_push a2 hl 3 126 13 (by decide) (fun z => rfl)
  obtain ⟨h4, fr4⟩ := ME_w b2 (w + 1)
  obtain ⟨hG, h36, h35, h418, h37, h34, hS, hC⟩ := h
  have b1' : f_X12_pushE 3 126 (f2, g2) = some (f3, g2) := b1
  have one : ¬ (1 : Int32) = 0 := by decide
  unfold jn_X12_unit_147
  rw [isGood_0 hG.2.2.2.2.1, cal_some, if_neg (by decide), bnd_eq]
  simp only [hG.2.2.2.1]
  rw [rdI_n hG.2.2.1 (by decide), if_neg one, wrI_n hG.2.2.1 (by decide), bnd_eq]
  simp only [h418, Int32.add_zero, u2_ne (show (413 : Nat) ≠ 418 by decide), h37, if_true, one, if_false]
  rw [ptI_eq]
  simp only
  rw [bnd_eq]
  unfold jn_X12_unit_208 jn_X12_unit_222
  rw [a1, cal_some, if_neg one, if_neg one, b1', cal_some, bnd_eq, ptI_eq]
  simp only [b2.2.2.1, on_succ]
  exact ⟨_, g2, rfl, h4, fr1.trans (a3.trans (b3.trans fr4))⟩
/-- the whole step at a unit -/
theorem m_unit (h : ME f g B L rb t ((a, k) :: S) w u C) (hl : S.length < 89) (hC' : C.length < 560) (hu : u ≤ 30) (hw : w ≤ 7) :
    (notX a t = true → w < 7 → ∃ f' g', f_X12_unit (f, g) = some (1, (f', g')) ∧ ME f' g' B L rb (tk B L t.2.2.1) ((3, 13) :: (a, k) :: S) (w + 1) u C ∧ MFr rb f f' g g') ∧
    (notX a t = false → isPl t.1 = true → u < 30 → ∃ f' g', f_X12_unit (f, g) = some (0, (f', g')) ∧ ME f' g' B L rb (tk B L t.2.2.1) ((a, k) :: S) w (u + 1) ((t.1, t.2.2.2.1) :: C) ∧ MFr rb f f' g g') ∧
    (notX a t = false → t.1 = 19 → u < 30 → w < 7 → ∃ f' g', f_X12_unit (f, g) = some (1, (f', g')) ∧ ME f' g' B L rb (tk B L t.2.2.1) ((7, 0) :: (a, k) :: S) (w + 1) (u + 1) C ∧ MFr rb f f' g g') ∧
    ((notX a t = true ∧ w = 7 ∨ notX a t = false ∧ (isPl t.1 = true ∧ u = 30 ∨ t.1 = 19 ∧ (u = 30 ∨ w = 7) ∨ isPl t.1 = false ∧ t.1 ≠ 19)) → f_X12_unit (f, g) = some (1, (failM f (if t.1 = 32 then 1 else 2) t.2.1, g))) := by
  have hG := h.1
  have hk := hG.k
  have one : ¬ (1 : Int32) = 0 := by decide
  have u143 := u_143 hG
  have u134 := u_134 h hw
  have ll : ((a, k) :: S).length < 90 := by simp only [List.length_cons]; omega
  have e4 : f 413 8 = 4 ↔ t.1 = 29 := by rw [hG.1.2.2.1]; exact (mtk_n hk).2.2.1
  have hpl0 : isPl t.1 = false → wdX t = 0 := fun z => by unfold wdX; rw [if_neg (fun y => by rw [z] at y; exact absurd y.1 (by decide))]
  have hw0 : wdX t = 0 ↔ ¬ (isPl t.1 = true ∧ t.1 ≠ 29) := by
    unfold wdX
    by_cases c : isPl t.1 = true ∧ t.1 ≠ 29
    · rw [if_pos c]
      have hp := c.1
      simp only [isPl, Bool.or_eq_true, beq_iff_eq] at hp
      have c2 := c.2
      have : t.1 = 3 ∨ t.1 = 14 ∨ t.1 = 15 ∨ t.1 = 16 ∨ t.1 = 17 := by omega
      constructor
      · intro y
        rcases this with z | z | z | z | z <;> rw [z] at y <;> exact absurd y (by decide)
      · intro y; exact absurd c y
    · rw [if_neg c]; exact ⟨fun _ => c, fun _ => rfl⟩
  have k19 : t.1 = 19 → isPl t.1 = false := fun z => by rw [z]; rfl
  -- not
  have hnot : notX a t = true → jn_X12_unit_98 1 (brX t) (wdX t) (if u = 30 then 1 else 0) (f, g) = if w = 7 then jn_X12_unit_143 1 0 0 (f, g) else jn_X12_unit_147 1 0 0 (f, g) := fun hn => by
    have h13 : t.1 = 13 := by
      unfold notX at hn; rw [Bool.and_eq_true, beq_iff_eq] at hn; exact hn.2
    have b0 : brX t = 0 := by unfold brX; rw [if_neg (by omega)]
    have w0 : wdX t = 0 := hpl0 (by rw [h13]; rfl)
    rw [b0, w0]
    unfold jn_X12_unit_98 jn_X12_unit_126
    rw [if_neg one, if_neg one, u134]
  -- else
  have hels : jn_X12_unit_98 0 (brX t) (wdX t) (if u = 30 then 1 else 0) (f, g) = if isPl t.1 = true then (if u = 30 then jn_X12_unit_143 0 (brX t) (wdX t) (f, g) else jn_X12_unit_147 0 0 (wdX t) (f, g)) else if t.1 = 19 then (if u = 30 ∨ w = 7 then jn_X12_unit_143 0 1 0 (f, g) else jn_X12_unit_147 0 1 0 (f, g)) else jn_X12_unit_143 0 0 0 (f, g) := by
    have j121 : jn_X12_unit_121 0 (brX t) (wdX t) (if u = 30 then 1 else 0) (f, g) = if u = 30 then jn_X12_unit_143 0 (brX t) (wdX t) (f, g) else if t.1 = 19 then (if w = 7 then jn_X12_unit_143 0 (brX t) (wdX t) (f, g) else jn_X12_unit_147 0 (brX t) (wdX t) (f, g)) else jn_X12_unit_147 0 (brX t) (wdX t) (f, g) := by
      unfold jn_X12_unit_121 jn_X12_unit_126
      by_cases c : u = 30
      · rw [if_pos c, if_neg one, if_pos c]
      · rw [if_neg c, if_pos rfl, if_neg c, if_pos rfl]
        unfold brX
        by_cases c19 : t.1 = 19
        · rw [if_pos c19, if_neg one, if_pos c19, u134]
        · rw [if_neg c19, if_pos rfl, if_neg c19]
    unfold jn_X12_unit_98
    rw [if_pos rfl]
    by_cases p : isPl t.1 = true
    · have n19 : ¬ t.1 = 19 := fun z => by rw [k19 z] at p; exact absurd p (by decide)
      have b0 : brX t = 0 := by unfold brX; rw [if_neg n19]
      rw [if_pos p]
      by_cases c29 : t.1 = 29
      · have w0 := hw0.mpr (fun z => z.2 c29)
        rw [if_pos w0, bnd_eq]
        simp only [e4]
        rw [if_pos c29, j121, if_neg n19, b0]
      · have w1 : ¬ wdX t = 0 := fun z => hw0.mp z ⟨p, c29⟩
        rw [if_neg w1, j121, if_neg n19, b0]
    · have p' : isPl t.1 = false := by simpa using p
      have w0 := hpl0 p'
      have n29 : ¬ t.1 = 29 := fun z => by rw [z] at p'; exact absurd p' (by decide)
      rw [if_neg p, if_pos w0, bnd_eq]
      simp only [e4]
      rw [if_neg n29]
      by_cases c19 : t.1 = 19
      · have b1 : brX t = 1 := by unfold brX; rw [if_pos c19]
        rw [b1, w0] at j121 ⊢
        rw [if_neg one, j121, if_pos c19, if_pos c19]
        by_cases c : u = 30
        · rw [if_pos c, if_pos (Or.inl c)]
        · rw [if_neg c]
          by_cases c7 : w = 7
          · rw [if_pos c7, if_pos (Or.inr c7)]
          · rw [if_neg c7, if_neg (fun z => z.elim c c7)]
      · have b0 : brX t = 0 := by unfold brX; rw [if_neg c19]
        rw [b0, w0, if_pos rfl, if_neg c19]
  have hU := unit_56 h hl
  refine ⟨fun hn hw7 => ?_, fun hn hp hu' => ?_, fun hn h19 hu' hw7 => ?_, fun hh => ?_⟩
  · rw [hU, if_pos hn, unit_98 h hu, hnot hn, if_neg (by omega)]
    exact u_147n h ll
  · rw [hU, if_neg (by rw [hn]; decide), unit_98 h hu, hels, if_pos hp, if_neg (by omega)]
    exact u_147p h hC' hp
  · rw [hU, if_neg (by rw [hn]; decide), unit_98 h hu, hels, if_neg (by rw [k19 h19]; decide), if_pos h19, if_neg (by omega)]
    exact u_147b h ll
  · rw [hU]
    rcases hh with ⟨hn, h7⟩ | ⟨hn, hh⟩
    · rw [if_pos hn, unit_98 h hu, hnot hn, if_pos h7, u143]
    · rw [if_neg (by rw [hn]; decide), unit_98 h hu, hels]
      rcases hh with ⟨hp, h30⟩ | ⟨h19, hh⟩ | ⟨hp, h19⟩
      · rw [if_pos hp, if_pos h30, u143]
      · rw [if_neg (by rw [k19 h19]; decide), if_pos h19, if_pos hh, u143]
      · rw [if_neg (by rw [hp]; decide), if_neg h19, u143]
end MU1
