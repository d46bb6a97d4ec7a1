/-! the model reads a line, and all of a text, as on paper -/
def fulX (D : DR) (t : TK) : Bool := if t.1 = 0 then decide (4 ≤ D.1 0) else if t.1 = 2 then decide (6 ≤ D.1 1) else if t.1 = 7 then decide (D.1 5 = 1) else if t.1 = 8 then decide (D.1 6 = 1) else if t.1 = 9 then decide (D.1 7 = 1) else if t.1 = 10 then decide (D.1 8 = 1) else true
theorem if_dec {p : Prop} [Decidable p] : (if decide p = true then (1 : Int32) else 0) = if p then 1 else 0 := by
  by_cases h : p
  · rw [if_pos (decide_eq_true h), if_pos h]
  · rw [if_neg (fun z => h (of_decide_eq_true z)), if_neg h]
section LD
variable {f : Nat → Nat → Int32} {g : (Nat → Nat → Int64) × (Nat → Nat → Option Nat)} {B : Nat → Nat} {L rb : Nat} {D : DR} {t : TK} {e : Nat × Nat}
theorem X12_isFull (hD : DV D) (h : MDT f g B L rb D t) : f_X12_isFull (f, g) = some (if fulX D t = true then 1 else 0) := by
  have hrb := h.1.2.2.1
  have h33 := h.1.2.2.2.1
  have hd0 := hD.1
  have hd1 := hD.2.1
  have W : ∀ i, i < 18 → ∀ c, c = Int64.ofNat (kwM.getD i 0) → f_X12_isWord c (f, g) = some (if t.1 = i then 1 else 0) := fun i hi c hc => X12_isWord h.1.1 h.k hi hc
  have bits : ∀ j, j < 4 → f_X12_bit (Int32.ofNat (mbits D)) (Int32.ofNat j) (f, g) = some (if D.1 (5 + j) = 1 then 1 else 0) := fun j hj => by
    rw [X12_bit, mb_tb hD hj, if_dec]
  have b0 : f_X12_bit (Int32.ofNat (mbits D)) 0 (f, g) = _ := bits 0 (by decide)
  have b1 : f_X12_bit (Int32.ofNat (mbits D)) 1 (f, g) = _ := bits 1 (by decide)
  have b2 : f_X12_bit (Int32.ofNat (mbits D)) 2 (f, g) = _ := bits 2 (by decide)
  have b3 : f_X12_bit (Int32.ofNat (mbits D)) 3 (f, g) = _ := bits 3 (by decide)
  have e422 := h.2.1.2.2.2.2.2
  have t1 : ∀ {α : Type} {x y : α}, (if (1 : Int32) = 0 then x else y) = y := fun {α x y} => if_neg (by decide)
  have t0 : ∀ {α : Type} {x y : α}, (if (0 : Int32) = 0 then x else y) = x := fun {α x y} => if_pos rfl
  unfold f_X12_isFull fulX
  rw [W 0 (by decide) 1919905645 rfl, cal_some]
  by_cases k0 : t.1 = 0
  · rw [if_pos k0, t1, if_pos k0, bndv h33, rdIv hrb (by decide) h.2.1.1, if_dec]
    by_cases c : 4 ≤ D.1 0
    · rw [if_pos (show Int32.ofNat (D.1 0) = 4 by rw [show D.1 0 = 4 by omega]; rfl), if_pos c]
    · rw [if_neg (fun z => c (by have := (on_inj (a := D.1 0) (b := 4) (by omega) (by omega)).mp z; omega)), if_neg c]
  rw [if_neg k0, t0, if_neg k0, W 2 (by decide) 500136504939 rfl, cal_some]
  by_cases k2 : t.1 = 2
  · rw [if_pos k2, t1, if_pos k2, bndv h33, rdIv hrb (by decide) h.2.1.2.1, if_dec]
    by_cases c : 6 ≤ D.1 1
    · rw [if_pos (show Int32.ofNat (D.1 1) = 6 by rw [show D.1 1 = 6 by omega]; rfl), if_pos c]
    · rw [if_neg (fun z => c (by have := (on_inj (a := D.1 1) (b := 6) (by omega) (by omega)).mp z; omega)), if_neg c]
  rw [if_neg k2, t0, if_neg k2, W 7 (by decide) 422826700644 rfl, cal_some]
  by_cases k7 : t.1 = 7
  · rw [if_pos k7, t1, if_pos k7, bndv h33, rdIv hrb (by decide) e422, b0, cal_some, if_dec]
    exact zrt_if
  rw [if_neg k7, t0, if_neg k7, W 8 (by decide) 482805179763 rfl, cal_some]
  by_cases k8 : t.1 = 8
  · rw [if_pos k8, t1, if_pos k8, bndv h33, rdIv hrb (by decide) e422, b1, cal_some, if_dec]
    exact zrt_if
  rw [if_neg k8, t0, if_neg k8, W 9 (by decide) 499850700147 rfl, cal_some]
  by_cases k9 : t.1 = 9
  · rw [if_pos k9, t1, if_pos k9, bndv h33, rdIv hrb (by decide) e422, b2, cal_some, if_dec]
    exact zrt_if
  rw [if_neg k9, t0, if_neg k9, W 10 (by decide) 1685217655 rfl, cal_some]
  by_cases k10 : t.1 = 10
  · rw [if_pos k10, t1, if_pos k10, bndv h33, rdIv hrb (by decide) e422, b3, cal_some, if_dec]
    by_cases c : D.1 (5 + 3) = 1
    · rw [if_pos c, t1]
    · rw [if_neg c, t0]
  rw [if_neg k10, t0, if_neg k10]
  rfl
theorem l_bad20 (h : MDT f g B L rb D t) (x : Int64) : KM f g B L rb (jn_X12_readLine_20 x (f, g)) (csT t) := by
  unfold jn_X12_readLine_20 jn_X12_readLine_24
  rw [X12_misplaced h.1, cal_some, isGood_n cs12 failM_4.1, cal_some, if_pos rfl]
  exact ⟨_, _, rfl, BD_fail h.1 cs12, failM_gf.m⟩
theorem pl_full {T : Nat → TK} (h : fulX D t = true) : pLine T t D = csT t := by
  unfold fulX at h
  unfold pLine
  by_cases k0 : t.1 = 0
  · rw [if_pos k0] at h ⊢
    unfold lRoom
    rw [if_pos (of_decide_eq_true h)]
  rw [if_neg k0] at h ⊢
  by_cases k2 : t.1 = 2
  · rw [if_pos k2] at h ⊢
    unfold lTrunk
    rw [if_pos (of_decide_eq_true h)]
  rw [if_neg k2] at h ⊢
  by_cases k7 : t.1 = 7
  · rw [if_pos k7] at h ⊢
    unfold lBrood
    rw [if_pos (of_decide_eq_true h)]
  rw [if_neg k7] at h ⊢
  by_cases k8 : t.1 = 8
  · rw [if_pos k8] at h ⊢
    unfold lOne
    rw [if_pos (of_decide_eq_true h)]
  rw [if_neg k8] at h ⊢
  by_cases k9 : t.1 = 9
  · rw [if_pos k9] at h ⊢
    unfold lOne
    rw [if_pos (of_decide_eq_true h)]
  rw [if_neg k9] at h ⊢
  by_cases k10 : t.1 = 10
  · rw [if_pos k10] at h ⊢
    unfold lOne
    rw [if_pos (of_decide_eq_true h)]
  rw [if_neg k10]
/-- a second comparison: the class sees it at the line's end -/
theorem brood_r {T : Nat → TK} {r : PR} {s : Nat → Nat} {X : Nat → Nat → Nat} : bR (bR r fun x => if lvO x.1.1 = 3 then (.inl (2, x.1.2.1) : LR) else .inr (x.1, sN (sN s 5 1) 9 x.2.1, X, x.2.2)) (fun x => bR (pTk T 18 x.1) fun t9 => (.inr (t9, x.2) : LR)) = bR r fun x => bR (pTk T 18 x.1) fun t2 => .inr (t2, sN (sN s 5 1) 9 x.2.1, X, x.2.2) := by
  rcases r with e | ⟨t', u', C'⟩
  · rfl
  · rw [bR_r, bR_r]
    simp only
    by_cases c : lvO t'.1 = 3
    · rw [if_pos c, bR_l]
      unfold pTk csT
      rw [if_neg (fun z => by rw [z] at c; exact absurd c (by decide)), if_neg (fun z => by rw [z] at c; exact absurd c (by decide)), bR_l]
    · rw [if_neg c, bR_r]
theorem mh_line (hD : DV D) (h : MDT f g B L rb D t) : KM f g B L rb (f_X12_readLine (f, g)) (pLine (tk B L) t D) := by
  have h4 := h.1.2.2.2.2.1
  unfold f_X12_readLine
  rw [bndw rfl, bndv rfl]
  by_cases c : t.1 < 18
  · have hx := nx_of h.1.1 c
    rw [if_pos (show f 413 8 = 3 by rw [h.1.1.2.2.1, mtk_3 h.k]; exact c), X12_isFull hD h, cal_some]
    by_cases cf : fulX D t = true
    · rw [if_pos cf, if_neg (by decide), pl_full cf]
      exact l_bad20 h _
    · obtain ⟨f1, g1, a1, a2, a3⟩ := m_adv h
      rw [if_neg cf, if_pos rfl]
      unfold jn_X12_readLine_24
      rw [isGood_0 h4, cal_some, if_neg (show ¬ (1 : Int32) = 0 by decide), a1, cal_some]
      refine KM_pre a3.m ?_
      unfold fulX at cf
      unfold pLine
      by_cases k0 : t.1 = 0
      · rw [if_pos k0] at cf
        rw [k0] at hx
        rw [if_pos ((hx 0 (by decide) 1919905645 rfl).mpr rfl), if_pos k0]
        unfold lRoom
        rw [if_neg (fun z => cf (decide_eq_true z))]
        exact m_room hx (Nat.lt_of_not_le (fun z => cf (decide_eq_true z))) a2
      rw [if_neg k0] at cf
      rw [if_neg (fun z => k0 ((hx 0 (by decide) 1919905645 rfl).mp z)), if_neg k0]
      by_cases k2 : t.1 = 2
      · rw [if_pos k2] at cf
        rw [k2] at hx
        unfold jn_X12_readLine_117
        rw [if_pos ((hx 2 (by decide) 500136504939 rfl).mpr rfl), if_pos k2, lTrunk_0, if_neg (fun z => cf (decide_eq_true z))]
        exact KM_end (m_trunk hD (Nat.lt_of_not_le (fun z => cf (decide_eq_true z))) a2) (fun h => by rw [st129 hx (by decide), st141 hx (by decide), st166 hx (by decide), st191 hx (by decide)])
      rw [if_neg k2] at cf
      rw [st117 hx k2, if_neg k2]
      by_cases k7 : t.1 = 7
      · rw [if_pos k7] at cf
        rw [k7] at hx
        have c5 : ¬ D.1 5 = 1 := fun z => cf (decide_eq_true z)
        unfold jn_X12_readLine_129
        rw [if_pos ((hx 7 (by decide) 422826700644 rfl).mpr rfl), if_pos k7]
        unfold lBrood
        rw [if_neg c5, ← brood_r]
        exact KM_end (m_rule hD c5 a2) (fun h => by rw [st141 hx (by decide), st166 hx (by decide), st191 hx (by decide)])
      rw [if_neg k7] at cf
      rw [st129 hx k7, if_neg k7]
      by_cases k8 : t.1 = 8
      · rw [if_pos k8] at cf
        rw [k8] at hx
        unfold jn_X12_readLine_141
        rw [if_pos ((hx 8 (by decide) 482805179763 rfl).mpr rfl), if_pos k8]
        unfold lOne
        rw [if_neg (fun z => cf (decide_eq_true z))]
        have s := m_once hD a2 (o := 6) (v := 2) (lo := 1) (hi := 9) (a := 419) (by decide) rfl rfl (by decide) (by decide) (c := 1) (cl := 1) (ch := 9) rfl rfl rfl
        unfold kOnce at s
        simp only [st166 hx (show 8 ≠ 9 by decide), st191 hx (show 8 ≠ 10 by decide)]
        exact s
      rw [if_neg k8] at cf
      rw [st141 hx k8, if_neg k8]
      by_cases k9 : t.1 = 9
      · rw [if_pos k9] at cf
        rw [k9] at hx
        unfold jn_X12_readLine_166
        rw [if_pos ((hx 9 (by decide) 499850700147 rfl).mpr rfl), if_pos k9]
        unfold lOne
        rw [if_neg (fun z => cf (decide_eq_true z))]
        have s := m_once hD a2 (o := 7) (v := 3) (lo := 0) (hi := 99) (a := 420) (by decide) rfl rfl (by decide) (by decide) (c := 2) (cl := 0) (ch := 99) rfl rfl rfl
        unfold kOnce at s
        simp only [st191 hx (show 9 ≠ 10 by decide)]
        exact s
      rw [if_neg k9] at cf
      rw [st166 hx k9, if_neg k9]
      by_cases k10 : t.1 = 10
      · rw [if_pos k10] at cf
        rw [k10] at hx
        unfold jn_X12_readLine_191
        rw [if_pos ((hx 10 (by decide) 1685217655 rfl).mpr rfl), if_pos k10]
        unfold lOne
        rw [if_neg (fun z => cf (decide_eq_true z))]
        have s := m_once hD a2 (o := 8) (v := 4) (lo := 0) (hi := 999) (a := 421) (by decide) rfl rfl (by decide) (by decide) (c := 3) (cl := 0) (ch := 999) rfl rfl rfl
        unfold kOnce kEnd at s
        exact s
      rw [if_neg k10] at cf
      exact absurd rfl cf
  · rw [if_neg (show ¬ f 413 8 = 3 by rw [h.1.1.2.2.1, mtk_3 h.k]; exact c)]
    have hp : pLine (tk B L) t D = csT t := by
      unfold pLine
      rw [if_neg (by omega), if_neg (by omega), if_neg (by omega), if_neg (by omega), if_neg (by omega), if_neg (by omega)]
    rw [hp]
    exact l_bad20 h _
/-- all lines -/
theorem mh_all {K : am_H → Option (Int32 × am_H)} : ∀ m n t D (f : Nat → Nat → Int32) (g : (Nat → Nat → Int64) × (Nat → Nat → Option Nat)), L ≤ t.2.1 + m → DV D → MDT f g B L rb D t → match pAll (tk B L) m t D with
    | .inl e => ∃ f' g', lp_X12_house_74 K (n + m + 2) (f, g) = K (f', g') ∧ BDm f' g' B L rb e ∧ FRm rb f f' g g'
    | .inr (t', D') => ∃ f' g', lp_X12_house_74 K (n + m + 2) (f, g) = K (f', g') ∧ MDT f' g' B L rb D' t' ∧ FRm rb f f' g g' ∧ DV D' := by
  intro m
  induction m with
  | zero =>
    intro n t D f g hm hD h
    rw [pAll]
    refine ⟨f, g, ?_, h, FRm.refl, hD⟩
    have tv := h.1.2.2.2.2.2
    have e31 : t.1 = 31 := by
      obtain ⟨p, hp, rfl⟩ := tv
      obtain ⟨h1, h2, h3, h4, h5, h6⟩ := tk_ok B hp
      by_cases c : (tk B L p).1 = 31
      · exact c
      · have := h4 c; omega
    rw [show n + 0 + 2 = (n + 1) + 1 by omega, lp_X12_house_74, isGood_0 h.1.2.2.2.2.1, cal_some, if_neg (show ¬ (1 : Int32) = 0 by decide), bndv rfl, if_pos (show f 413 8 = 0 by rw [h.1.1.2.2.1, e31]; rfl)]
  | succ m ih =>
    intro n t D f g hm hD h
    rw [pAll, show n + (m + 1) + 2 = (n + m + 2) + 1 by omega, lp_X12_house_74, isGood_0 h.1.2.2.2.2.1, cal_some, if_neg (show ¬ (1 : Int32) = 0 by decide), bndv rfl]
    by_cases c : t.1 = 31
    · rw [if_pos c, if_pos (show f 413 8 = 0 by rw [h.1.1.2.2.1, c]; rfl)]
      exact ⟨f, g, rfl, h, FRm.refl, hD⟩
    · rw [if_neg c, if_neg (show ¬ f 413 8 = 0 by rw [h.1.1.2.2.1, (mtk_n h.k).2.2.2.1]; exact c)]
      have s := mh_line hD h
      rcases hx : pLine (tk B L) t D with e | ⟨t', D'⟩
      · rw [hx] at s
        obtain ⟨f1, g1, a1, a2, a3⟩ := s
        rw [a1, cal_some, bR_l, lp_X12_house_74, isGood_n a2.2.2.2.2.2.1 a2.2.2.2.2.1, cal_some, if_pos rfl]
        exact ⟨f1, g1, rfl, a2, a3⟩
      · rw [hx] at s
        obtain ⟨f1, g1, a1, a2, a3⟩ := s
        obtain ⟨n1, hD'⟩ := pLine_ok hD h.1.2.2.2.2.2 hx
        rw [a1, cal_some, bR_r]
        have s2 := ih n t' D' f1 g1 (by have := n1.2; omega) hD' a2
        simp only
        revert s2
        generalize pAll (tk B L) m t' D' = r
        intro s2
        rcases r with e | ⟨t2, D2⟩
        · obtain ⟨f2, g2, b1, b2, b3⟩ := s2
          exact ⟨f2, g2, b1, b2, a3.trans b3⟩
        · obtain ⟨f2, g2, b1, b2, b3, b4⟩ := s2
          exact ⟨f2, g2, b1, b2, a3.trans b3, b4⟩
end LD
