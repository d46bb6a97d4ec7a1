/-! Like, odd, roomiest; what comes of two, who is ripe -/
section QB
variable {f : Nat → Nat → Int32} {g : (Nat → Nat → Int64) × (Nat → Nat → Option Nat)} {b nr : Nat} {hold : Nat → Int32}
theorem neg_lt {x : Int32} (h : 0 ≤ x.toInt) : (-1 : Int32) < x := by
  rw [Int32.lt_iff_toInt_lt]
  have : (-1 : Int32).toInt = -1 := rfl
  omega
theorem q_like (R : RC 27 (f 437) f) (W : WQ nr (f 437)) (x : Int32) : AG (f_X11_like x (f, g)) (f_X12_like x (f, g)) := by
  have R' : RC 27 (f 437) (f, g).1 := R
  unfold f_X11_like f_X12_like
  rw [X7_has R', X12_isThere, cal_some, cal_some]
  simp only
  by_cases h1 : hs (f 437) x = true
  · obtain ⟨p, hp, rfl, p0⟩ := hs_ex h1
    rw [if_pos h1, if_neg (show ¬ (1 : Int32) = 0 by decide), if_neg (show ¬ (1 : Int32) = 0 by decide)]
    have key : ∀ m n t a c, t + m = 8 → ((a = -1 ∧ c = -1) ∨ ∃ k, k < 8 ∧ a = Int32.ofNat k ∧ 0 < f 437 k ∧ c = zSh (f 437) p k) → AG (lp_X6_mostLike_7 27 (Int32.ofNat p) (f, g) (n + m + 1) a c (Int32.ofNat t)) (lp_X12_like_14 (Int32.ofNat p) (f, g) (n + m + 1) a (Int32.ofNat t)) := by
      intro m
      induction m with
      | zero =>
        intro n t a c ht _
        obtain rfl : t = 8 := by omega
        rw [lp_X6_mostLike_7, lp_X12_like_14, if_neg (by decide), if_neg (by decide)]
        exact AG.of rfl rfl
      | succ m ih =>
        intro n t a c ht hac
        have h8 : t < 8 := by omega
        have e : ∀ a c, ((a = -1 ∧ c = -1) ∨ ∃ k, k < 8 ∧ a = Int32.ofNat k ∧ 0 < f 437 k ∧ c = zSh (f 437) p k) → AG (lp_X6_mostLike_7 27 (Int32.ofNat p) (f, g) (n + (m + 1)) a c (Int32.ofNat (t + 1))) (lp_X12_like_14 (Int32.ofNat p) (f, g) (n + (m + 1)) a (Int32.ofNat (t + 1))) := fun a c => ih n (t + 1) a c (by omega)
        rw [lp_X6_mostLike_7, lp_X12_like_14, if_pos (i8_lt t h8), if_pos (i8_lt t h8), i8_succ t h8, X7_has R', X12_isThere, cal_some, cal_some, hs_on h8]
        by_cases c1 : Int32.ofNat t = Int32.ofNat p
        · rw [if_pos c1, if_pos c1]
          exact (by
            split
            · exact e a c hac
            · exact e a c hac)
        · rw [if_neg c1, if_neg c1]
          by_cases c2 : 0 < f 437 t
          · have c2' : decide (0 < f 437 t) = true := by simp [c2]
            have hb : (qT (f 437) p && qT (f 437) t) = true := by simp [qT, p0, c2]
            rw [if_pos c2', if_neg (show ¬ (1 : Int32) = 0 by decide), if_neg (show ¬ (1 : Int32) = 0 by decide), X7_shared R' W.wm hp h8, if_pos hb, cal_some, cal_some]
            rcases hac with ⟨rfl, rfl⟩ | ⟨k, hk, rfl, k0, rfl⟩
            · rw [if_pos (neg_lt (sh_b W.wm hp h8).1), if_pos (show (-1 : Int32) < 0 by decide)]
              exact e _ _ (Or.inr ⟨t, h8, rfl, c2, rfl⟩)
            · rw [if_neg (i8_ge k (by omega)), X12_alikeT W hp h8 p0 c2, cal_some, X12_alikeT W hp hk p0 k0, cal_some]
              exact AG.ite (e _ _ (Or.inr ⟨t, h8, rfl, c2, rfl⟩)) (e _ _ (Or.inr ⟨k, hk, rfl, k0, rfl⟩))
          · have c2' : ¬ decide (0 < f 437 t) = true := by simp [c2]
            rw [if_neg c2', if_pos (show (0 : Int32) = 0 from rfl), if_pos (show (0 : Int32) = 0 from rfl)]
            exact e a c hac
    obtain ⟨v, k1, k2⟩ := key 8 3991 0 (-1) (-1) rfl (Or.inl ⟨rfl, rfl⟩)
    have k1' : f_X6_mostLike 27 (Int32.ofNat p) (f, g) = some v := k1
    rw [k1', cal_some]
    exact ⟨v, rfl, k2⟩
  · rw [if_neg h1, if_pos rfl]
    exact AG.of rfl rfl
def zAll (q : Nat → Int32) (p : Nat) : Int32 := fo (fun o a => if o = p then a else a + (if qT q o = true then zSh q p o else 0)) 8 0 0
theorem zAll_b {q : Nat → Int32} (W : WM q) {p : Nat} (hp : p < 8) : 0 ≤ (zAll q p).toInt ∧ (zAll q p).toInt ≤ 48 := by
  have h := fo_ind (f := fun o a => if o = p then a else a + (if qT q o = true then zSh q p o else 0)) (P := fun n a => 0 ≤ a.toInt ∧ a.toInt ≤ 6 * (n : Int)) (fun t a ht hp' => by
    have hb := sh_b W hp ht
    by_cases c : t = p
    · rw [if_pos c]; omega
    · rw [if_neg c]
      by_cases c2 : qT q t = true
      · rw [if_pos c2, ti_add (by omega) (by omega)]; omega
      · rw [if_neg c2, Int32.add_zero]; omega) (a := 0) ⟨by decide, by decide⟩
  have h' : 0 ≤ (zAll q p).toInt ∧ (zAll q p).toInt ≤ 6 * ((8 : Nat) : Int) := h
  omega
theorem c_all (R : RC 27 (f 437) f) (W : WQ nr (f 437)) {p : Nat} (hp : p < 8) (p0 : 0 < f 437 p) {x y : Int32} {k : Int32 → Option Int32} : ∀ m n t a, t + m = 8 → lp_X6_leastLikeAll_27 27 x y (Int32.ofNat p) (f, g) k (n + m + 1) a (Int32.ofNat t) = k (fo (fun o a => if o = p then a else a + (if qT (f 437) o = true then zSh (f 437) p o else 0)) m t a) := by
  have R' : RC 27 (f 437) (f, g).1 := R
  intro m
  induction m with
  | zero =>
    intro n t a ht
    obtain rfl : t = 8 := by omega
    rw [lp_X6_leastLikeAll_27, if_neg (by decide)]
    rfl
  | succ m ih =>
    intro n t a ht
    have h8 : t < 8 := by omega
    have e : ∀ a, lp_X6_leastLikeAll_27 27 x y (Int32.ofNat p) (f, g) k (n + (m + 1)) a (Int32.ofNat (t + 1)) = _ := fun a => ih n (t + 1) a (by omega)
    rw [lp_X6_leastLikeAll_27, if_pos (i8_lt t h8), i8_succ t h8, X7_shared R' W.wm hp h8, cal_some, e, e, fo]
    by_cases c : t = p
    · subst c
      simp
    · have c' : ¬ Int32.ofNat t = Int32.ofNat p := fun z => c ((on_inj (by omega) (by omega)).mp z)
      rw [if_neg c', if_neg c]
      have hq : qT (f 437) p = true := by simp [qT, p0]
      rw [hq, Bool.true_and]
theorem m_all (W : WQ nr (f 437)) {p : Nat} (hp : p < 8) (p0 : 0 < f 437 p) : ∀ m n t a, t + m = 8 → lp_X12_sharesAll_4 (Int32.ofNat p) (f, g) (n + m + 1) a (Int32.ofNat t) = some (fo (fun o a => if o = p then a else a + (if qT (f 437) o = true then zSh (f 437) p o else 0)) m t a) := by
  intro m
  induction m with
  | zero =>
    intro n t a ht
    obtain rfl : t = 8 := by omega
    rw [lp_X12_sharesAll_4, if_neg (by decide)]
    rfl
  | succ m ih =>
    intro n t a ht
    have h8 : t < 8 := by omega
    have e : ∀ a, lp_X12_sharesAll_4 (Int32.ofNat p) (f, g) (n + (m + 1)) a (Int32.ofNat (t + 1)) = _ := fun a => ih n (t + 1) a (by omega)
    rw [lp_X12_sharesAll_4, if_pos (i8_lt t h8), i8_succ t h8, X12_isThere, cal_some, hs_on h8, e, fo]
    simp only
    by_cases c : t = p
    · subst c
      simp
    · have c' : ¬ Int32.ofNat t = Int32.ofNat p := fun z => c ((on_inj (by omega) (by omega)).mp z)
      rw [if_neg c', if_neg c]
      by_cases c2 : 0 < f 437 t
      · rw [if_pos (show decide (0 < f 437 t) = true by simp [c2]), if_neg (show ¬ (1 : Int32) = 0 by decide), X12_alikeT W hp h8 p0 c2, cal_some, e, if_pos (show qT (f 437) t = true by simp [qT, c2])]
      · rw [if_neg (show ¬ decide (0 < f 437 t) = true by simp [c2]), if_pos rfl, if_neg (show ¬ qT (f 437) t = true by simp [qT, c2])]
theorem X12_sharesAll (W : WQ nr (f 437)) {p : Nat} (hp : p < 8) (p0 : 0 < f 437 p) : f_X12_sharesAll (Int32.ofNat p) (f, g) = some (zAll (f 437) p) := m_all W hp p0 8 3991 0 0 rfl
theorem q_odd (R : RC 27 (f 437) f) (W : WQ nr (f 437)) : AG (f_X11_odd (f, g)) (f_X12_odd (f, g)) := by
  have R' : RC 27 (f 437) (f, g).1 := R
  have key : ∀ m n t a c, t + m = 8 → ((a = -1 ∧ c = 49) ∨ ∃ k, k < 8 ∧ a = Int32.ofNat k ∧ 0 < f 437 k ∧ c = zAll (f 437) k) → AG (lp_X6_leastLikeAll_7 27 (f, g) (n + m + 1) a c (Int32.ofNat t)) (lp_X12_odd_4 (f, g) (n + m + 1) a (Int32.ofNat t)) := by
    intro m
    induction m with
    | zero =>
      intro n t a c ht _
      obtain rfl : t = 8 := by omega
      rw [lp_X6_leastLikeAll_7, lp_X12_odd_4, if_neg (by decide), if_neg (by decide)]
      exact AG.of rfl rfl
    | succ m ih =>
      intro n t a c ht hac
      have h8 : t < 8 := by omega
      have e : ∀ a c, ((a = -1 ∧ c = 49) ∨ ∃ k, k < 8 ∧ a = Int32.ofNat k ∧ 0 < f 437 k ∧ c = zAll (f 437) k) → AG (lp_X6_leastLikeAll_7 27 (f, g) (n + (m + 1)) a c (Int32.ofNat (t + 1))) (lp_X12_odd_4 (f, g) (n + (m + 1)) a (Int32.ofNat (t + 1))) := fun a c => ih n (t + 1) a c (by omega)
      rw [lp_X6_leastLikeAll_7, lp_X12_odd_4, if_pos (i8_lt t h8), if_pos (i8_lt t h8), i8_succ t h8, X7_has R', X12_isThere, cal_some, cal_some, hs_on h8]
      by_cases c2 : 0 < f 437 t
      · rw [if_pos (show decide (0 < f 437 t) = true by simp [c2]), if_neg (show ¬ (1 : Int32) = 0 by decide), if_neg (show ¬ (1 : Int32) = 0 by decide)]
        have hi := c_all (g := g) (x := a) (y := c) (k := (fun z7 => if z7 < c then lp_X6_leastLikeAll_7 27 (f, g) (n + (m + 1)) (Int32.ofNat t) z7 (Int32.ofNat (t + 1)) else lp_X6_leastLikeAll_7 27 (f, g) (n + (m + 1)) a c (Int32.ofNat (t + 1)))) R W h8 c2 8 3991 0 0 rfl
        have hi' : lp_X6_leastLikeAll_27 27 a c (Int32.ofNat t) (f, g) (fun z7 => if z7 < c then lp_X6_leastLikeAll_7 27 (f, g) (n + (m + 1)) (Int32.ofNat t) z7 (Int32.ofNat (t + 1)) else lp_X6_leastLikeAll_7 27 (f, g) (n + (m + 1)) a c (Int32.ofNat (t + 1))) 4000 0 0 = (if zAll (f 437) t < c then lp_X6_leastLikeAll_7 27 (f, g) (n + (m + 1)) (Int32.ofNat t) (zAll (f 437) t) (Int32.ofNat (t + 1)) else lp_X6_leastLikeAll_7 27 (f, g) (n + (m + 1)) a c (Int32.ofNat (t + 1))) := hi
        rw [hi']
        have hb := zAll_b W.wm h8
        rcases hac with ⟨rfl, rfl⟩ | ⟨k, hk, rfl, k0, rfl⟩
        · rw [if_pos (show zAll (f 437) t < 49 by
            rw [Int32.lt_iff_toInt_lt]
            have : (49 : Int32).toInt = 49 := rfl
            omega), if_pos (show (-1 : Int32) < 0 by decide)]
          exact e _ _ (Or.inr ⟨t, h8, rfl, c2, rfl⟩)
        · rw [if_neg (i8_ge k (by omega)), X12_sharesAll W h8 c2, cal_some, X12_sharesAll W hk k0, cal_some]
          exact AG.ite (e _ _ (Or.inr ⟨t, h8, rfl, c2, rfl⟩)) (e _ _ (Or.inr ⟨k, hk, rfl, k0, rfl⟩))
      · rw [if_neg (show ¬ decide (0 < f 437 t) = true by simp [c2]), if_pos (show (0 : Int32) = 0 from rfl), if_pos (show (0 : Int32) = 0 from rfl)]
        exact e a c hac
  obtain ⟨v, k1, k2⟩ := key 8 3991 0 (-1) 49 rfl (Or.inl ⟨rfl, rfl⟩)
  have k1' : f_X6_leastLikeAll 27 (f, g) = some v := k1
  unfold f_X11_odd
  rw [k1', cal_some]
  exact ⟨v, rfl, k2⟩
theorem q_roomiest (H : HO nr hold) (R : RC 27 (f 437) f) (W : WQ nr (f 437)) (L : WL nr hold (f 437)) (P : PC (f, g) nr hold) (M : MP (f, g) b nr hold) : AG (f_X11_roomiest (f, g)) (f_X12_roomiest (f, g)) := by
  have R' : RC 27 (f 437) (f, g).1 := R
  have h4 := P.2.1
  have key : ∀ m n t a c, t + m = nr → ((a = -1 ∧ c = -1) ∨ ∃ k, k < nr ∧ a = Int32.ofNat k ∧ c = zLeft hold (f 437) k) → AG (lp_X11_roomiest_6 (f, g) (n + m + 1) a c (Int32.ofNat t)) (lp_X12_roomiest_4 (f, g) (n + m + 1) a (Int32.ofNat t)) := by
    intro m
    induction m with
    | zero =>
      intro n t a c ht _
      obtain rfl : t = nr := by omega
      have hn : ¬ Int32.ofNat t < Int32.ofNat t := by rw [on_lt (by omega) (by omega)]; omega
      rw [lp_X11_roomiest_6, lp_X12_roomiest_4, bnd_eq, P.1, X12_chambers M, cal_some, if_neg hn, if_neg hn]
      exact AG.of rfl rfl
    | succ m ih =>
      intro n t a c ht hac
      have h8 : t < nr := by omega
      have e : ∀ a c, ((a = -1 ∧ c = -1) ∨ ∃ k, k < nr ∧ a = Int32.ofNat k ∧ c = zLeft hold (f 437) k) → AG (lp_X11_roomiest_6 (f, g) (n + (m + 1)) a c (Int32.ofNat (t + 1))) (lp_X12_roomiest_4 (f, g) (n + (m + 1)) a (Int32.ofNat (t + 1))) := fun a c => ih n (t + 1) a c (by omega)
      have hp : Int32.ofNat t < Int32.ofNat nr := (on_lt (by omega) (by omega)).mpr h8
      rw [lp_X11_roomiest_6, lp_X12_roomiest_4, bnd_eq, P.1, X12_chambers M, cal_some, if_pos hp, if_pos hp, on_succ, X7_leftIn P R' h8, cal_some]
      have hl := left_eq H W h8
      have hl2 := L t h8
      rcases hac with ⟨rfl, rfl⟩ | ⟨k, hk, rfl, rfl⟩
      · rw [if_pos (neg_lt (by omega)), if_pos (show (-1 : Int32) < 0 by decide)]
        exact e _ _ (Or.inr ⟨t, h8, rfl, rfl⟩)
      · rw [if_neg (i8_ge k (by omega)), X12_leftIn M h8, cal_some, X12_leftIn M hk, cal_some]
        exact AG.ite (e _ _ (Or.inr ⟨t, h8, rfl, rfl⟩)) (e _ _ (Or.inr ⟨k, hk, rfl, rfl⟩))
  have := key nr (3999 - nr) 0 (-1) (-1) (by omega) (Or.inl ⟨rfl, rfl⟩)
  rw [show 3999 - nr + nr + 1 = 4000 by omega] at this
  exact this
/-- what comes of two -/
theorem q_brood {E : EV} (R : RC 27 (f 437) f) (W : WQ nr (f 437)) (P : PC (f, g) nr hold) (e : EC f E) (M : MP (f, g) b nr hold) (em : EM f b nr hold E) (x y : Int32) : ∃ v f1 f2, f_X11_brood x y (f, g) = some (v, (f1, g)) ∧ f_X12_brood x y (f1, g) = some (v, (f2, g)) ∧ (∀ a, a ≠ 13 → f1 a = f a) ∧ MN f1 f2 := by
  have R' : RC 27 (f 437) (f, g).1 := R
  unfold f_X11_brood f_X12_brood
  rw [X7_hasBoth R', cal_some]
  by_cases hxy : x = y
  · subst hxy
    rw [if_pos rfl]
    refine ⟨_, f, f, rfl, ?_, fun _ _ => rfl, MN.refl⟩
    rw [X12_isThere, cal_some]
    by_cases h1 : hs (f 437) x = true
    · simp only [h1, if_true]
      rw [if_neg (show ¬ (1 : Int32) = 0 by decide)]
      rfl
    · simp only [h1, Bool.false_eq_true, if_false, if_true]
  · rw [if_neg hxy]
    by_cases h1 : hs (f 437) x = true
    · obtain ⟨i, hi, rfl, i0⟩ := hs_ex h1
      by_cases h2 : hs (f 437) y = true
      · obtain ⟨j, hj, rfl, j0⟩ := hs_ex h2
        rw [if_pos (show (hs (f 437) (Int32.ofNat i) && hs (f 437) (Int32.ofNat j)) = true by rw [h1, h2]; rfl), if_neg (show ¬ (1 : Int32) = 0 by decide)]
        rw [rdS2 R' hi, rdS2 R' hj, if_neg (pos_ne i0), if_neg (pos_ne j0)]
        by_cases h3 : f 437 (8 + i) = f 437 (8 + j)
        · rw [if_pos h3]
          obtain ⟨w, hw⟩ := X10_broodOf R W P e hi hj i0 j0
          rw [hw, cal2_some]
          have q1 : up f 13 w 437 = f 437 := up_ne (by decide)
          have M1 : MP (up f 13 w, g) b nr hold := by
            unfold MP at M ⊢
            simp only at M ⊢
            rw [up_ne (by decide), up_ne (by decide), up_ne (by decide)]
            exact M
          obtain ⟨f2, k1, k2⟩ := em (up f 13 w) g i j (up_ne (by decide)) (up_ne (by decide)) (up_ne (by decide)) (up_ne (by decide)) (up_ne (by decide)) M1 (by rw [q1]; exact W) hi hj (by rw [q1]; exact i0) (by rw [q1]; exact j0)
          refine ⟨_, up f 13 w, f2, rfl, ?_, fun a ha => up_ne ha, k2⟩
          rw [X12_isThere, cal_some, X12_isThere, cal_some, rdA8 hi, rdA8 hj, k1, cal2_some]
          simp only [q1, h1, h2, if_true]
          rw [if_neg (show ¬ (1 : Int32) = 0 by decide), if_neg (show ¬ (1 : Int32) = 0 by decide), if_neg hxy, if_pos h3]
        · rw [if_neg h3]
          refine ⟨_, f, f, rfl, ?_, fun _ _ => rfl, MN.refl⟩
          rw [X12_isThere, cal_some, X12_isThere, cal_some, rdA8 hi, rdA8 hj]
          simp only [h1, h2, if_true]
          rw [if_neg (show ¬ (1 : Int32) = 0 by decide), if_neg (show ¬ (1 : Int32) = 0 by decide), if_neg hxy, if_neg h3]
      · rw [if_neg (show ¬ (hs (f 437) (Int32.ofNat i) && hs (f 437) y) = true by simp [h2]), if_pos rfl]
        refine ⟨_, f, f, rfl, ?_, fun _ _ => rfl, MN.refl⟩
        rw [X12_isThere, cal_some, X12_isThere, cal_some]
        simp only [h1, h2, if_true, Bool.false_eq_true, if_false]
        rw [if_neg (show ¬ (1 : Int32) = 0 by decide)]
    · rw [if_neg (show ¬ (hs (f 437) x && hs (f 437) y) = true by simp [h1]), if_pos rfl]
      refine ⟨_, f, f, rfl, ?_, fun _ _ => rfl, MN.refl⟩
      rw [X12_isThere, cal_some]
      simp only [h1, Bool.false_eq_true, if_false, if_true]
end QB
