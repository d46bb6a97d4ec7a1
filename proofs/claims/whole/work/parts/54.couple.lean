/-! The couple of a room, on both sides -/
theorem zC_two (e : Nat → Bool) : 2 ≤ zC e ↔ ∃ i j : Fin 8, i ≠ j ∧ e i.val = true ∧ e j.val = true := all8 (P := fun e => 2 ≤ zC e ↔ ∃ i j : Fin 8, i ≠ j ∧ e i.val = true ∧ e j.val = true) (fun e e' h hp => by
  rw [zC_cong h, hp]
  constructor
  · rintro ⟨i, j, h1, h2, h3⟩; exact ⟨i, j, h1, by rw [h i.val i.isLt]; exact h2, by rw [h j.val j.isLt]; exact h3⟩
  · rintro ⟨i, j, h1, h2, h3⟩; exact ⟨i, j, h1, by rw [← h i.val i.isLt]; exact h2, by rw [← h j.val j.isLt]; exact h3⟩) (by decide +kernel) e
theorem fo_minus (p : Nat → Bool) : ∀ m t (e : Nat → Bool), t + m ≤ 8 → fo (fun t a => if p t = true then a &&& (sB t ^^^ ((-1) : Int32)) else a) m t (zS e) = zS (fun k => e k && !(decide (t ≤ k) && decide (k < t + m) && p k)) := by
  intro m
  induction m with
  | zero =>
    intro t e ht
    rw [fo]
    refine zS_cong (fun k hk => ?_)
    by_cases h1 : t ≤ k
    · have : ¬ k < t := by omega
      simp [this]
    · simp [h1]
  | succ m ih =>
    intro t e ht
    rw [fo]
    by_cases hc : p t = true
    · rw [if_pos hc, zS_minus e (by omega), ih (t + 1) _ (by omega)]
      refine zS_cong (fun k hk => ?_)
      by_cases hk : k = t
      · subst hk; simp [hc]
      · have h1 : decide (t + 1 ≤ k) = decide (t ≤ k) := by
          by_cases h : t ≤ k
          · have : t + 1 ≤ k := by omega
            simp [h, this]
          · have : ¬ t + 1 ≤ k := by omega
            simp [h, this]
        rw [h1, show t + 1 + m = t + (m + 1) by omega]
        simp [hk]
    · rw [if_neg hc, ih (t + 1) _ (by omega)]
      refine zS_cong (fun k hk => ?_)
      by_cases hk : k = t
      · subst hk; simp [hc]
      · have h1 : decide (t + 1 ≤ k) = decide (t ≤ k) := by
          by_cases h : t ≤ k
          · have : t + 1 ≤ k := by omega
            simp [h, this]
          · have : ¬ t + 1 ≤ k := by omega
            simp [h, this]
        rw [h1, show t + 1 + m = t + (m + 1) by omega]
def WP (q : Nat → Int32) : Prop := ∀ t, t < 8 → q (32 + t) = 0 ∨ 0 < q (32 + t)
theorem m_couple {h : am_H} {k : Int32 → Option Int32} : ∀ m n t a, t + m = 8 → lp_X12_coupleOf_8 h k (n + m + 1) a (Int32.ofNat t) = k (fo (fun t a => if decide (0 < h.1 437 (32 + t)) = true then a &&& (sB t ^^^ ((-1) : Int32)) else a) m t a) := by
  intro m
  induction m with
  | zero => intro n t a ht; obtain rfl : t = 8 := by omega
            rw [lp_X12_coupleOf_8, if_neg (by decide)]; rfl
  | succ m ih =>
    intro n t a ht
    have h8 : t < 8 := by omega
    have e : ∀ a, lp_X12_coupleOf_8 h k (n + (m + 1)) a (Int32.ofNat (t + 1)) = _ := fun a => ih n (t + 1) a (by omega)
    rw [lp_X12_coupleOf_8, if_pos (i8_lt t h8), rdA32 h8, i8_succ t h8, e, e, fo]
    by_cases hc : 0 < h.1 437 (32 + t) <;> simp [hc, sB]
theorem m_couple0 {h : am_H} {k : Int32 → Option Int32} (a : Int32) : lp_X12_coupleOf_8 h k 4000 a 0 = k (fo (fun t a => if decide (0 < h.1 437 (32 + t)) = true then a &&& (sB t ^^^ ((-1) : Int32)) else a) 8 0 a) := m_couple 8 3991 0 a rfl
theorem i8_ne {k : Nat} (hk : k < 8) : ¬ Int32.ofNat k = -1 := fun h => i8_neg k hk h.symm
theorem zBg_cong {q : Nat → Int32} {e e' : Nat → Bool} (h : ∀ t, t < 8 → e t = e' t) : zBg q e = zBg q e' := fo8 (fun k hk x => by rw [h k hk])
theorem couple_comm {a b : Int32} : (8 : Int32) * a + b = a * 8 + b := by rw [Int32.mul_comm]
theorem X12_coupleOf {h : am_H} (W : WP (h.1 437)) {x : Int32} : f_X12_coupleOf x h = some (zCp (h.1 437) x) := by
  have hE : zS (fun k => qIn (h.1 437) x k && !(decide (0 ≤ k) && decide (k < 0 + 8) && decide (0 < h.1 437 (32 + k)))) = zS (qE (h.1 437) x) := by
    refine zS_cong (fun k hk => ?_)
    unfold qIn qE
    rcases W k hk with hz | hz
    · simp [hz]
    · have h1 := pos_ne hz
      have h2 : k < 0 + 8 := by omega
      simp [hz, h1, h2]
  unfold f_X12_coupleOf
  rw [X12_thoseIn, cal_some, m_couple0, fo_minus _ 8 0 _ (by decide), hE]
  rw [X12_bitsOf_zS, cal_some, X12_biggestOf, cal_some]
  have hb1 : zBk (h.1 437) x (-1) = zBg (h.1 437) (qE (h.1 437) x) := by
    rw [zBk_Bg]
    refine zBg_cong (fun t ht => ?_)
    simp [i8_ne ht]
  rw [← hb1]
  have h8 : zC (qE (h.1 437) x) ≤ 8 := by rw [← bc_zN]; exact bc_le
  have hlt : (Int32.ofNat (zC (qE (h.1 437) x)) < 2) ↔ ¬ 2 ≤ zC (qE (h.1 437) x) := by
    rw [show (2 : Int32) = Int32.ofNat 2 from rfl, on_lt (by omega) (by decide)]
    omega
  unfold zCp
  rcases zBk_ex (h.1 437) x (-1) with ⟨h1, h2⟩ | ⟨k, hk, h1, h2, h3⟩
  · have hc : ¬ 2 ≤ zC (qE (h.1 437) x) := by
      rw [zC_two]
      rintro ⟨i, j, g1, g2, g3⟩
      exact i8_ne i.isLt (h2 i.val i.isLt g2)
    rw [if_pos (hlt.mpr hc), if_pos h1]
  · have hmin : zS (qE (h.1 437) x) &&& (((1 : Int32) <<< (Int32.ofNat k &&& 31)) ^^^ ((-1) : Int32)) = zS (fun t => qE (h.1 437) x t && !decide (t = k)) := zS_minus _ hk
    have hb2 : zBk (h.1 437) x (Int32.ofNat k) = zBg (h.1 437) (fun t => qE (h.1 437) x t && !decide (t = k)) := by
      rw [zBk_Bg]
      refine zBg_cong (fun t ht => ?_)
      rw [Bool.and_comm]
      congr 2
      have := on_inj (a := t) (b := k) (by omega) (by omega)
      simp [this]
    rw [h1, hmin, X12_biggestOf, cal_some, ← hb2, if_neg (i8_ne hk)]
    rcases zBk_ex (h.1 437) x (Int32.ofNat k) with ⟨g1, g2⟩ | ⟨j, hj, g1, g2, g3⟩
    · have hc : ¬ 2 ≤ zC (qE (h.1 437) x) := by
        rw [zC_two]
        rintro ⟨i, j, d1, d2, d3⟩
        have e1 := (on_inj (by omega) (by omega)).mp (g2 i.val i.isLt d2)
        have e2 := (on_inj (by omega) (by omega)).mp (g2 j.val j.isLt d3)
        exact d1 (Fin.ext (by omega))
      rw [if_pos (hlt.mpr hc), if_pos g1]
    · have hc : 2 ≤ zC (qE (h.1 437) x) := by
        rw [zC_two]
        refine ⟨⟨k, hk⟩, ⟨j, hj⟩, fun e => g3 (by rw [show j = k from (congrArg Fin.val e).symm]), h2, g2⟩
      rw [if_neg (fun z => hlt.mp z hc), g1, if_neg (i8_ne hj), couple_comm]
theorem zCp_ex (q : Nat → Int32) (x : Int32) : zCp q x = -1 ∨ ∃ i j, i < 8 ∧ j < 8 ∧ i ≠ j ∧ qE q x i = true ∧ qE q x j = true ∧ zCp q x = Int32.ofNat (8 * i + j) := by
  unfold zCp
  rcases zBk_ex q x (-1) with ⟨h1, h2⟩ | ⟨i, hi, h1, h2, h3⟩
  · left; rw [if_pos h1]
  · rw [h1, if_neg (i8_ne hi)]
    rcases zBk_ex q x (Int32.ofNat i) with ⟨g1, g2⟩ | ⟨j, hj, g1, g2, g3⟩
    · left; rw [if_pos g1]
    · right
      refine ⟨i, j, hi, hj, fun e => g3 (by rw [e]), h2, g2, ?_⟩
      rw [g1, if_neg (i8_ne hj), ← on_add, ← couple_comm]
      congr 1
      exact (Int32.ofNat_mul 8 i).symm
theorem cp_div {i j : Nat} (hi : i < 8) (hj : j < 8) : Int32.ofNat (8 * i + j) / 8 = Int32.ofNat i := by
  have h : ∀ i j : Fin 8, Int32.ofNat (8 * i.val + j.val) / 8 = Int32.ofNat i.val := by decide +kernel
  exact h ⟨i, hi⟩ ⟨j, hj⟩
theorem cp_mod {i j : Nat} (hi : i < 8) (hj : j < 8) : Int32.ofNat (8 * i + j) - Int32.ofNat (8 * i + j) / 8 * 8 = Int32.ofNat j := by
  have h : ∀ i j : Fin 8, Int32.ofNat (8 * i.val + j.val) - Int32.ofNat (8 * i.val + j.val) / 8 * 8 = Int32.ofNat j.val := by decide +kernel
  exact h ⟨i, hi⟩ ⟨j, hj⟩
theorem cp_ge {i j : Nat} (hi : i < 8) (hj : j < 8) : ¬ Int32.ofNat (8 * i + j) < 0 ∧ ¬ Int32.ofNat (8 * i + j) = -1 := by
  have h : ∀ i j : Fin 8, ¬ Int32.ofNat (8 * i.val + j.val) < 0 ∧ ¬ Int32.ofNat (8 * i.val + j.val) = -1 := by decide +kernel
  exact h ⟨i, hi⟩ ⟨j, hj⟩
theorem fi_ex {p : Nat → Bool} : ∀ m t, t + m = 8 → (fi p m t = -1 ∧ ∀ k, t ≤ k → k < 8 → p k = false) ∨ ∃ k, k < 8 ∧ fi p m t = Int32.ofNat k ∧ p k = true := by
  intro m
  induction m with
  | zero => intro t ht; exact Or.inl ⟨rfl, fun k h1 h2 => by omega⟩
  | succ m ih =>
    intro t ht
    rw [fi]
    by_cases hc : p t = true
    · rw [if_pos hc]; exact Or.inr ⟨t, by omega, rfl, hc⟩
    · rw [if_neg hc]
      rcases ih (t + 1) (by omega) with ⟨h1, h2⟩ | h
      · left
        refine ⟨h1, fun k h3 h4 => ?_⟩
        by_cases hk : k = t
        · subst hk; simpa using hc
        · exact h2 k (by omega) h4
      · exact Or.inr h
theorem zFree_ex (q : Nat → Int32) : (zFree q = -1 ∧ ∀ k, k < 8 → ¬ q k = 0) ∨ ∃ k, k < 8 ∧ zFree q = Int32.ofNat k ∧ q k = 0 := by
  rcases fi_ex (p := fun t => decide (q t = 0)) 8 0 rfl with ⟨h1, h2⟩ | ⟨k, h1, h2, h3⟩
  · left
    exact ⟨h1, fun k hk => by have := h2 k (Nat.zero_le _) hk; simpa using this⟩
  · right
    exact ⟨k, h1, h2, by simpa using h3⟩
def zYb (a b : Int32) : Int32 := if (a + b) / 4 < 1 then 1 else (a + b) / 4
theorem young_eq {v : Int32} : (if 1 < v then v else 1) = (if v < 1 then (1 : Int32) else v) := by
  by_cases h1 : 1 < v
  · rw [if_pos h1, if_neg (fun h2 => by rw [Int32.lt_iff_toInt_lt] at h1 h2; omega)]
  · rw [if_neg h1]
    by_cases h2 : v < 1
    · rw [if_pos h2]
    · rw [if_neg h2]
      rw [Int32.lt_iff_toInt_lt] at h1 h2
      apply Int32.toInt_inj.mp
      omega
theorem X10_youngBulk {s : Nat} {q : Nat → Int32} {h : am_H} (R : RC s q h.1) {i j : Nat} (hi : i < 8) (hj : j < 8) (gi : 0 < q i) (gj : 0 < q j) : f_X10_youngBulk s (Int32.ofNat i) (Int32.ofNat j) h = some (zYb (q i) (q j)) := by
  unfold f_X10_youngBulk
  rw [X7_hasBoth R, cal_some, hs_on hi, hs_on hj, rdS1 R hi, rdS1 R hj, young_eq]
  simp [gi, gj, zYb]
theorem X12_youngOf {h : am_H} {i j : Nat} (hi : i < 8) (hj : j < 8) : f_X12_youngOf (Int32.ofNat (8 * i + j)) h = some (zYb (h.1 437 i) (h.1 437 j)) := by
  unfold f_X12_youngOf
  rw [cp_mod hi hj, cp_div hi hj, rdA0 hi, rdA0 hj]
  unfold zYb
  split <;> rfl
