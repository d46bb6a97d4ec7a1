/-! Rivals, on both sides -/
section QK
variable {nr b : Nat} {hold q : Nat → Int32} {g : (Nat → Nat → Int64) × (Nat → Nat → Option Nat)}
def FL (S : Nat → Int32) (own : Int32) (r : Nat) (x : Int32) : Prop := (x = 0 ∧ ∀ r', r' < r → S r' < own) ∨ x = 1
theorem FL_step {S : Nat → Int32} {own : Int32} {r : Nat} {x : Int32} (h : FL S own r x) : FL S own (r + 1) (x ||| (if S r < own then 0 else 1)) := by
  rcases h with ⟨rfl, h2⟩ | rfl
  · by_cases c : S r < own
    · rw [if_pos c]
      refine Or.inl ⟨by decide, fun r' hr' => ?_⟩
      by_cases e : r' = r
      · subst e; exact c
      · exact h2 r' (by omega)
    · rw [if_neg c]
      exact Or.inr (by decide)
  · by_cases c : S r < own
    · rw [if_pos c]; exact Or.inr (by decide)
    · rw [if_neg c]; exact Or.inr (by decide)
theorem c_rests {f : Nat → Nat → Int32} (H : HO nr hold) (R : RC 27 q f) (W : WQ nr q) (P : PC (f, g) nr hold) {t o : Nat} (ht : t < 8) (ho : o < 8) (hto : t ≠ o) (t0 : 0 < q t) (o0 : 0 < q o) {k : Int32 → Int32 → am_H → Option (Int32 × am_H)} : ∀ m n r x6 x7 (w : Nat → Int32), r + m = nr → FL (sp hold q t o) (q t) r x6 → FL (sp hold q t o) (q o) r x7 → (∀ r', r' < r → w r' = sp hold q t o r') → ∃ x6' x7' w', lp_X8_countRests_36 27 (Int32.ofNat t) (Int32.ofNat o) (q t) (q o) k (n + m + 1) x6 x7 (Int32.ofNat r) (up f 402 w, g) = k x6' x7' (up f 402 w', g) ∧ FL (sp hold q t o) (q t) nr x6' ∧ FL (sp hold q t o) (q o) nr x7' ∧ ∀ r', r' < nr → w' r' = sp hold q t o r' := by
  have h4 := P.2.1
  intro m
  induction m with
  | zero =>
    intro n r x6 x7 w hr f6 f7 hw
    obtain rfl : r = nr := by omega
    rw [lp_X8_countRests_36, bnd_eq]
    have e46 : up f 402 w 4 6 = Int32.ofNat r := by rw [up_ne (by decide)]; exact P.1
    simp only [e46]
    rw [if_neg (by rw [on_lt (by omega) (by omega)]; omega)]
    exact ⟨x6, x7, w, rfl, f6, f7, hw⟩
  | succ m ih =>
    intro n r x6 x7 w hr f6 f7 hw
    have hr' : r < nr := by omega
    have R' : RC 27 q (up f 402 w, g).1 := RC_frame (fun a h1 h2 => up_ne (by omega)) R
    have P' : PC (up f 402 w, g) nr hold := PC_frame (up_ne (by decide)) (up_ne (by decide)) P
    have e46 : up f 402 w 4 6 = Int32.ofNat nr := by rw [up_ne (by decide)]; exact P.1
    have tail : ∀ v, v = sp hold q t o r → ∃ x6' x7' w', (wrI (up f 402 w, g) 402 4 (Int32.ofNat r) v fun h26 => rdI h26 402 4 (Int32.ofNat r) fun v29 => if v29 < q t then jn_X8_countRests_122 (lp_X8_countRests_36 27 (Int32.ofNat t) (Int32.ofNat o) (q t) (q o) k (n + (m + 1))) 27 (Int32.ofNat t) (Int32.ofNat o) (q t) (q o) x7 (Int32.ofNat r) 0 x6 h26 else jn_X8_countRests_122 (lp_X8_countRests_36 27 (Int32.ofNat t) (Int32.ofNat o) (q t) (q o) k (n + (m + 1))) 27 (Int32.ofNat t) (Int32.ofNat o) (q t) (q o) x7 (Int32.ofNat r) 1 x6 h26) = k x6' x7' (up f 402 w', g) ∧ FL (sp hold q t o) (q t) nr x6' ∧ FL (sp hold q t o) (q o) nr x7' ∧ ∀ r', r' < nr → w' r' = sp hold q t o r' := by
      rintro v rfl
      rw [wrI_n (by omega) (by decide), rdI_n (by omega) (by decide)]
      unfold jn_X8_countRests_122
      rw [rdI_n (by omega) (by decide), rdI_n (by omega) (by decide), on_succ]
      simp only [u2_up, up_up, up_same, st_same]
      have f6' := FL_step f6
      have f7' := FL_step f7
      have hw' : ∀ r', r' < r + 1 → st w r (sp hold q t o r) r' = sp hold q t o r' := fun r' hr' => by
        by_cases e : r' = r
        · subst e; rw [st_same]
        · rw [st_ne e]; exact hw r' (by omega)
      by_cases c1 : sp hold q t o r < q t
      · rw [if_pos c1] at f6'
        rw [if_pos c1]
        by_cases c2 : sp hold q t o r < q o
        · rw [if_pos c2] at f7' ⊢
          exact ih n (r + 1) _ _ _ (by omega) f6' f7' hw'
        · rw [if_neg c2] at f7' ⊢
          exact ih n (r + 1) _ _ _ (by omega) f6' f7' hw'
      · rw [if_neg c1] at f6'
        rw [if_neg c1]
        by_cases c2 : sp hold q t o r < q o
        · rw [if_pos c2] at f7' ⊢
          exact ih n (r + 1) _ _ _ (by omega) f6' f7' hw'
        · rw [if_neg c2] at f7' ⊢
          exact ih n (r + 1) _ _ _ (by omega) f6' f7' hw'
    have sc := sp_class h4 H W ht ho hto t0 o0 hr'
    rw [lp_X8_countRests_36, bnd_eq]
    simp only [e46]
    rw [if_pos ((on_lt (by omega) (by omega)).mpr hr'), if_pos (lt4 (by omega)), X7_leftIn P' R' hr', cal_some, rdS2 R' ht, if_neg (pos_ne t0), rdS2 R' ho, if_neg (pos_ne o0), rdS2 R' ho, if_neg (pos_ne o0)]
    by_cases c1 : q (8 + t) = Int32.ofNat r
    · rw [if_pos c1] at sc ⊢
      by_cases c2 : q (8 + o) = Int32.ofNat r
      · rw [if_pos c2] at sc ⊢
        exact tail _ sc
      · rw [if_neg c2] at sc ⊢
        exact tail _ sc
    · rw [if_neg c1] at sc ⊢
      by_cases c2 : q (8 + o) = Int32.ofNat r
      · rw [if_pos c2] at sc ⊢
        exact tail _ sc
      · rw [if_neg c2] at sc ⊢
        exact tail _ sc
/-- the room where it stands can always be chosen -/
theorem FL_one (H : HO nr hold) (h4 : nr ≤ 4) (W : WQ nr q) (L : WL nr hold q) {t o : Nat} (ht : t < 8) (ho : o < 8) (hto : t ≠ o) (t0 : 0 < q t) {x : Int32} (h : FL (sp hold q t o) (q t) nr x) : x = 1 := by
  rcases h with ⟨-, h2⟩ | h
  · exfalso
    obtain ⟨r, hr, er⟩ := W.room ht t0
    have h3 := h2 r hr
    rw [Int32.lt_iff_toInt_lt, sp_ti H W ht ho hto hr, vol_at h4 W ht t0 hr, if_pos er] at h3
    have l := L r hr
    have v := vol_le W r ho
    omega
  · exact h
theorem X12_leftBut {f : Nat → Nat → Int32} (M : MP (f, g) b nr hold) {t o r : Nat} (ht : t < 8) (ho : o < 8) (hr : r < nr) : f_X12_leftBut (Int32.ofNat r) (Int32.ofNat t) (Int32.ofNat o) (f, g) = some (sp hold (f 437) t o r) := by
  unfold f_X12_leftBut
  rw [X12_holdsOf M hr, cal_some, X12_thoseIn, cal_some]
  simp only
  have e1 := zS_minus (qIn (f 437) (Int32.ofNat r)) ht
  have e2 := zS_minus (fun k => qIn (f 437) (Int32.ofNat r) k && !decide (k = t)) ho
  unfold sB at e1 e2
  rw [e1, e2, X12_bulkOf, cal_some]
  rfl
theorem X12_canChoose {f : Nat → Nat → Int32} (M : MP (f, g) b nr hold) {t o r : Nat} (ht : t < 8) (ho : o < 8) (hr : r < nr) : f_X12_canChoose (Int32.ofNat t) (Int32.ofNat o) (Int32.ofNat r) (f, g) = some (if sp hold (f 437) t o r < f 437 t then 0 else 1) := by
  unfold f_X12_canChoose
  rw [X12_isRoom M hr, cal_some, if_neg (show ¬ (1 : Int32) = 0 by decide), X12_leftBut M ht ho hr, cal_some, rdA0 ht]
  split <;> rfl
theorem X12_cannot {f : Nat → Nat → Int32} (M : MP (f, g) b nr hold) {t o r : Nat} (hr : ¬ r < nr) (h4 : r < 4) : f_X12_canChoose (Int32.ofNat t) (Int32.ofNat o) (Int32.ofNat r) (f, g) = some 0 := by
  have hm := M.2.2.2.1
  unfold f_X12_canChoose
  rw [X12_noRoom M (Or.inr (by rw [on_lt (by omega) (by omega)]; exact hr)), cal_some, if_pos rfl]
theorem X12_gainOf {f : Nat → Nat → Int32} (M : MP (f, g) b nr hold) {t o x y : Nat} (ht : t < 8) (ho : o < 8) (hx : x < nr) (hy : y < nr) : f_X12_gainOf (Int32.ofNat t) (Int32.ofNat o) (Int32.ofNat x) (Int32.ofNat y) (f, g) = some (mg (sp hold (f 437) t o) (f 437 t) (f 437 o) x y) := by
  have h4 := M.2.2.2.1
  have e : (Int32.ofNat x = Int32.ofNat y) ↔ x = y := on_inj (by omega) (by omega)
  unfold f_X12_gainOf jn_X12_gainOf_34 mg
  rw [X12_leftBut M ht ho hx, cal_some, rdA0 ht, rdA0 ho]
  simp only
  by_cases c : x = y
  · rw [if_pos (e.mpr c), if_pos c]
    split <;> rfl
  · rw [if_neg (fun z => c (e.mp z)), if_neg c]
    split <;> rfl
theorem m_rest {f : Nat → Nat → Int32} (M : MP (f, g) b nr hold) {t o x y : Nat} (ht : t < 8) (ho : o < 8) (hx : x < nr) (hy : y < nr) : ∀ m n r, r + m = nr → lp_X12_isRest_3 (Int32.ofNat t) (Int32.ofNat o) (Int32.ofNat x) (Int32.ofNat y) (f, g) (n + m + 1) (Int32.ofNat r) = some (if al (fun r => (decide (sp hold (f 437) t o r < f 437 t) || !decide (mg (sp hold (f 437) t o) (f 437 t) (f 437 o) x y < mg (sp hold (f 437) t o) (f 437 t) (f 437 o) r y)) && (decide (sp hold (f 437) t o r < f 437 o) || !decide (mg (sp hold (f 437) t o) (f 437 o) (f 437 t) y x < mg (sp hold (f 437) t o) (f 437 o) (f 437 t) r x))) m r = true then 1 else 0) := by
  have h4 := M.2.2.2.1
  have es : sp hold (f 437) o t = sp hold (f 437) t o := funext (fun r => sp_symm)
  intro m
  induction m with
  | zero =>
    intro n r hr
    rw [lp_X12_isRest_3, X12_chambers M, cal_some, if_neg (by rw [on_lt (by omega) (by omega)]; omega)]
    rfl
  | succ m ih =>
    intro n r hr
    have hr' : r < nr := by omega
    have e : lp_X12_isRest_3 (Int32.ofNat t) (Int32.ofNat o) (Int32.ofNat x) (Int32.ofNat y) (f, g) (n + (m + 1)) (Int32.ofNat (r + 1)) = _ := ih n (r + 1) (by omega)
    rw [lp_X12_isRest_3, X12_chambers M, cal_some, if_pos ((on_lt (by omega) (by omega)).mpr hr'), X12_canChoose M ht ho hr', cal_some, al]
    unfold jn_X12_isRest_47
    rw [X12_canChoose M ho ht hr', cal_some, X12_gainOf M ht ho hr' hy, cal_some, X12_gainOf M ht ho hx hy, cal_some, X12_gainOf M ho ht hr' hx, cal_some, X12_gainOf M ho ht hy hx, cal_some, on_succ, e, es]
    by_cases c1 : sp hold (f 437) t o r < f 437 t
    · by_cases c3 : sp hold (f 437) t o r < f 437 o
      · simp [c1, c3]
      · by_cases c4 : mg (sp hold (f 437) t o) (f 437 o) (f 437 t) y x < mg (sp hold (f 437) t o) (f 437 o) (f 437 t) r x <;> simp [c1, c3, c4]
    · by_cases c2 : mg (sp hold (f 437) t o) (f 437 t) (f 437 o) x y < mg (sp hold (f 437) t o) (f 437 t) (f 437 o) r y
      · simp [c1, c2]
      · by_cases c3 : sp hold (f 437) t o r < f 437 o
        · simp [c1, c2, c3]
        · by_cases c4 : mg (sp hold (f 437) t o) (f 437 o) (f 437 t) y x < mg (sp hold (f 437) t o) (f 437 o) (f 437 t) r x <;> simp [c1, c2, c3, c4]
theorem X12_isRest {f : Nat → Nat → Int32} (M : MP (f, g) b nr hold) {t o x y : Nat} (ht : t < 8) (ho : o < 8) (hx : x < nr) (hy : y < nr) : f_X12_isRest (Int32.ofNat t) (Int32.ofNat o) (Int32.ofNat x) (Int32.ofNat y) (f, g) = some (if rt nr (sp hold (f 437) t o) (f 437 t) (f 437 o) x y = true then 1 else 0) := by
  have h4 := M.2.2.2.1
  have h := m_rest M ht ho hx hy nr (3999 - nr) 0 (by omega)
  rw [show 3999 - nr + nr + 1 = 4000 by omega] at h
  exact h
/-- what the model's rivals leave alone -/
def MR (f f' : Nat → Nat → Int32) : Prop := (∀ a, a ≠ 413 → a ≠ 440 → f' a = f a) ∧ ∀ k, k ≠ 47 → f' 413 k = f 413 k
theorem MR.refl {f : Nat → Nat → Int32} : MR f f := ⟨fun _ _ _ => rfl, fun _ _ => rfl⟩
theorem MR.trans {f f' f'' : Nat → Nat → Int32} (h : MR f f') (h' : MR f' f'') : MR f f'' := ⟨fun a h1 h2 => (h'.1 a h1 h2).trans (h.1 a h1 h2), fun k h1 => (h'.2 k h1).trans (h.2 k h1)⟩
theorem MP_mr {f f' : Nat → Nat → Int32} (h : MR f f') (M : MP (f, g) b nr hold) : MP (f', g) b nr hold := by
  unfold MP at M ⊢
  simp only at M ⊢
  rw [h.1 416 (by decide) (by decide), h.1 423 (by decide) (by decide), h.2 32 (by decide)]
  exact M
def RMs (f : Nat → Nat → Int32) (p : Nat × Nat × Nat) : Prop := (p.1 = 0 ∧ f 413 47 = 0) ∨ (p.1 ≠ 0 ∧ f 413 47 = 2 ∧ f 440 0 = Int32.ofNat p.2.1 ∧ f 440 1 = Int32.ofNat p.2.2)
theorem v_div4 {v : Nat} (h : v < 16) : Int32.ofNat v / 4 = Int32.ofNat (v / 4) ∧ Int32.ofNat v - Int32.ofNat v / 4 * 4 = Int32.ofNat (v % 4) := by
  have k : ∀ v : Fin 16, Int32.ofNat v.val / 4 = Int32.ofNat (v.val / 4) ∧ Int32.ofNat v.val - Int32.ofNat v.val / 4 * 4 = Int32.ofNat (v.val % 4) := by decide +kernel
  exact k ⟨v, h⟩
theorem m_rivals (H : HO nr hold) (q : Nat → Int32) (W : WQ nr q) (L : WL nr hold q) {t o : Nat} (ht : t < 8) (ho : o < 8) (hto : t ≠ o) : ∀ m n v (p : Nat × Nat × Nat) (f : Nat → Nat → Int32), v + m = 16 → f 437 = q → MP (f, g) b nr hold → p.1 ≤ v → RMs f p → ∃ f', lp_X12_rivals_33 (Int32.ofNat t) (Int32.ofNat o) (n + m + 1) (Int32.ofNat p.1) (Int32.ofNat v) (f, g) = some (Int32.ofNat (fo (rS (both nr (sp hold q t o) (q t) (q o))) m v p).1, (f', g)) ∧ RMs f' (fo (rS (both nr (sp hold q t o) (q t) (q o))) m v p) ∧ MR f f' ∧ (fo (rS (both nr (sp hold q t o) (q t) (q o))) m v p).1 ≤ 16 := by
  intro m
  induction m with
  | zero =>
    intro n v p f hv hq M hp hr
    obtain rfl : v = 16 := by omega
    rw [lp_X12_rivals_33, if_neg (by decide)]
    exact ⟨f, rfl, hr, MR.refl, hp⟩
  | succ m ih =>
    intro n v p f hv hq M hp hr
    have h4 := M.2.2.2.1
    have h16 : v < 16 := by omega
    have hl : Int32.ofNat v < 16 := by
      rw [show (16 : Int32) = Int32.ofNat 16 from rfl, on_lt (by omega) (by omega)]
      exact h16
    obtain ⟨d1, d2⟩ := v_div4 h16
    have ok : okS nr (sp hold q t o) := fun r hr => sp_b H W L ht ho hto hr
    have es : sp hold q o t = sp hold q t o := funext (fun r => sp_symm)
    have skip : both nr (sp hold q t o) (q t) (q o) (v / 4) (v % 4) = false → ∃ f', lp_X12_rivals_33 (Int32.ofNat t) (Int32.ofNat o) (n + (m + 1)) (Int32.ofNat p.1) (Int32.ofNat (v + 1)) (f, g) = some (Int32.ofNat (fo (rS (both nr (sp hold q t o) (q t) (q o))) (m + 1) v p).1, (f', g)) ∧ RMs f' (fo (rS (both nr (sp hold q t o) (q t) (q o))) (m + 1) v p) ∧ MR f f' ∧ (fo (rS (both nr (sp hold q t o) (q t) (q o))) (m + 1) v p).1 ≤ 16 := by
      intro hb
      have er : rS (both nr (sp hold q t o) (q t) (q o)) v p = p := by
        unfold rS
        rw [hb]
        rfl
      rw [fo, er]
      exact ih n (v + 1) p f (by omega) hq M (by omega) hr
    rw [lp_X12_rivals_33, if_pos hl, d2, d1, on_succ]
    by_cases ha : v / 4 < nr
    · rw [X12_canChoose M ht ho ha, cal_some, hq]
      by_cases c1 : sp hold q t o (v / 4) < q t
      · rw [if_pos c1, if_pos rfl]
        refine skip ?_
        by_cases hc : v % 4 < nr
        · rw [both_rt ok (W.le ht) (W.le ho) ha hc]
          simp [c1]
        · unfold both
          simp [hc]
      · rw [if_neg c1, if_neg (show ¬ (1 : Int32) = 0 by decide)]
        by_cases hc : v % 4 < nr
        · rw [X12_canChoose M ho ht hc, cal_some, hq, es]
          by_cases c2 : sp hold q t o (v % 4) < q o
          · rw [if_pos c2, if_pos rfl]
            refine skip ?_
            rw [both_rt ok (W.le ht) (W.le ho) ha hc]
            simp [c2]
          · rw [if_neg c2, if_neg (show ¬ (1 : Int32) = 0 by decide), X12_isRest M ht ho ha hc, cal_some, hq]
            by_cases c3 : rt nr (sp hold q t o) (q t) (q o) (v / 4) (v % 4) = true
            · rw [if_pos c3, if_neg (show ¬ (1 : Int32) = 0 by decide)]
              have hb : both nr (sp hold q t o) (q t) (q o) (v / 4) (v % 4) = true := by
                rw [both_rt ok (W.le ht) (W.le ho) ha hc, c3]
                simp [c1, c2]
              have er : rS (both nr (sp hold q t o) (q t) (q o)) v p = (p.1 + 1, if p.1 = 0 then (v / 4, v % 4) else p.2) := by
                unfold rS
                rw [hb]
                rfl
              rw [fo, er, on_succ]
              by_cases c4 : p.1 = 0
              · rw [if_pos (show Int32.ofNat p.1 = 0 by rw [c4]; rfl), if_pos c4]
                have w0 : ∀ x (F : am_H → Option (Int32 × am_H)), wrI (f, g) 440 8 0 x F = F (am_u2 f 440 0 x, g) := fun x F => wrI_n (j := 0) (by decide) (by decide)
                have w1 : ∀ f x (F : am_H → Option (Int32 × am_H)), wrI (f, g) 440 8 1 x F = F (am_u2 f 440 1 x, g) := fun f x F => wrI_n (j := 1) (by decide) (by decide)
                rw [w0, w1, ptI_eq]
                have K : MR f (am_u2 (am_u2 (am_u2 f 440 0 (Int32.ofNat (v / 4))) 440 1 (Int32.ofNat (v % 4))) 413 47 2) := ⟨fun a h1 h2 => by rw [u2_ne h1, u2_ne h2, u2_ne h2], fun k hk => by rw [au_nk hk, au_ne (by decide), au_ne (by decide)]⟩
                obtain ⟨f', k1, k2, k3, k4⟩ := ih n (v + 1) (p.1 + 1, (v / 4, v % 4)) _ (by omega) (by rw [K.1 437 (by decide) (by decide)]; exact hq) (MP_mr K M) (by simp only; omega) (Or.inr ⟨by simp, au_same, by rw [au_ne (by decide), au_nk (by decide), au_same], by rw [au_ne (by decide), au_same]⟩)
                exact ⟨f', k1, k2, K.trans k3, k4⟩
              · have n0 : ¬ Int32.ofNat p.1 = 0 := fun z => c4 ((on_inj (a := p.1) (b := 0) (by omega) (by decide)).mp z)
                rw [if_neg n0, if_neg c4]
                refine ih n (v + 1) (p.1 + 1, p.2) f (by omega) hq M (by simp only; omega) ?_
                rcases hr with ⟨z, -⟩ | ⟨-, z⟩
                · exact absurd z c4
                · exact Or.inr ⟨by simp, z⟩
            · rw [if_neg c3, if_pos rfl]
              refine skip ?_
              rw [both_rt ok (W.le ht) (W.le ho) ha hc]
              simp [c3]
        · rw [X12_cannot M hc (by omega), cal_some, if_pos rfl]
          refine skip ?_
          unfold both
          simp [hc]
    · rw [X12_cannot M ha (by omega), cal_some, if_pos rfl]
      refine skip ?_
      unfold both
      simp [ha]
end QK
/-- what lies -/
def IL (f : Nat → Nat → Int32) : Prop := ∃ c, c ≤ 8 ∧ f 0 10 = Int32.ofNat c ∧ f 413 47 = Int32.ofNat c ∧ ∀ i, i < c → f 412 i = f 440 i
theorem X11_layDown {f : Nat → Nat → Int32} {g : (Nat → Nat → Int64) × (Nat → Nat → Option Nat)} {c : Nat} (hc : c < 8) (h : f 0 10 = Int32.ofNat c) (x : Int32) : f_X11_layDown x (f, g) = some (am_u2 (am_u2 f 412 c x) 0 10 (Int32.ofNat (c + 1)), g) := by
  unfold f_X11_layDown
  rw [bnd_eq, bnd_eq, bnd_eq]
  simp only [h]
  rw [if_neg (i8_ge c (by omega)), if_pos (i8_lt c hc), wrI_i8 hc, bnd_eq, ptI_eq]
  simp only
  rw [au_ne (by decide), h, on_succ]
theorem fo_cnt {B : Nat → Nat → Bool} : ∀ m v (p : Nat × Nat × Nat), (fo (rS B) m v p).1 ≤ p.1 + m
  | 0, _, _ => Nat.le_refl _
  | m + 1, v, p => by
    rw [fo]
    have := fo_cnt (B := B) m (v + 1) (rS B v p)
    have h : (rS B v p).1 ≤ p.1 + 1 := by
      unfold rS
      split
      · exact Nat.le_refl _
      · omega
    omega
theorem q_rivals {f : Nat → Nat → Int32} {g : (Nat → Nat → Int64) × (Nat → Nat → Option Nat)} {b nr : Nat} {hold : Nat → Int32} (H : HO nr hold) (R : RC 27 (f 437) f) (W : WQ nr (f 437)) (L : WL nr hold (f 437)) (P : PC (f, g) nr hold) (M : MP (f, g) b nr hold) (x y : Int32) : ∃ v f1 f2, f_X11_rivals x y (f, g) = some (v, (f1, g)) ∧ f_X12_rivals x y (f1, g) = some (v, (f2, g)) ∧ (∀ a, a ≠ 0 → a ≠ 401 → a ≠ 402 → a ≠ 412 → f1 a = f a) ∧ MR f1 f2 ∧ IL f2 := by
  have one : ¬ (1 : Int32) = 0 := by decide
  have h4 := P.2.1
  have q0 : am_u2 f 0 10 0 437 = f 437 := u2_ne (by decide)
  have R0 : RC 27 (f 437) (am_u2 f 0 10 0, g).1 := RC_frame (fun a h1 h2 => u2_ne (by omega)) R
  have base : ∀ v, (f_X11_rivals x y (f, g) = some (v, (am_u2 f 0 10 0, g))) → (∀ f1 : Nat → Nat → Int32, f1 437 = f 437 → f_X12_rivals x y (f1, g) = some (v, (am_u2 f1 413 47 0, g))) → ∃ v f1 f2, f_X11_rivals x y (f, g) = some (v, (f1, g)) ∧ f_X12_rivals x y (f1, g) = some (v, (f2, g)) ∧ (∀ a, a ≠ 0 → a ≠ 401 → a ≠ 402 → a ≠ 412 → f1 a = f a) ∧ MR f1 f2 ∧ IL f2 := by
    intro v h1 h2
    refine ⟨v, _, _, h1, h2 _ q0, fun a a1 a2 a3 a4 => u2_ne a1, ⟨fun a a1 a2 => u2_ne a1, fun k hk => au_nk hk⟩, 0, Nat.zero_le _, ?_, au_same, fun i hi => by omega⟩
    rw [au_ne (by decide), au_same]
    rfl
  have qM : ∀ f1 : Nat → Nat → Int32, f1 437 = f 437 → am_u2 f1 413 47 0 437 = f 437 := fun f1 h => by rw [u2_ne (by decide), h]
  by_cases hxy : x = y
  · subst hxy
    refine base (-1) ?_ (fun f1 hf1 => ?_)
    · unfold f_X11_rivals
      rw [ptI_eq, if_pos rfl]
    · unfold f_X12_rivals
      rw [ptI_eq, X12_isThere, cal_some]
      simp only [qM f1 hf1, if_true]
      by_cases c : hs (f 437) x = true
      · rw [if_pos c, if_neg one, cal_some, if_neg one]
      · rw [if_neg c, if_pos rfl]
  · by_cases h1 : hs (f 437) x = true
    · by_cases h2 : hs (f 437) y = true
      · obtain ⟨t, ht, rfl, t0⟩ := hs_ex h1
        obtain ⟨o, ho, rfl, o0⟩ := hs_ex h2
        have hto : t ≠ o := fun z => hxy (by rw [z])
        have P0 : PC (am_u2 f 0 10 0, g) nr hold := PC_frame (u2_ne (by decide)) (u2_ne (by decide)) P
        obtain ⟨x6, x7, w', k1, k2, k3, k4⟩ := c_rests (g := g) H R0 W P0 ht ho hto t0 o0 (k := fun z30 z31 h32 => jn_X8_countRests_153 (f 437 t) (f 437 o) z30 z31 h32) nr (3999 - nr) 0 0 0 (am_u2 f 0 10 0 402) (by omega) (Or.inl ⟨rfl, fun r' h => by omega⟩) (Or.inl ⟨rfl, fun r' h => by omega⟩) (fun r' h => by omega)
        rw [show 3999 - nr + nr + 1 = 4000 by omega] at k1
        have e6 := FL_one H h4 W L ht ho hto t0 k2
        have e7 : x7 = 1 := by
          refine FL_one (q := f 437) (o := t) H h4 W L ho ht (fun z => hto z.symm) o0 ?_
          have es : sp hold (f 437) o t = sp hold (f 437) t o := funext (fun r => sp_symm)
          rw [es]
          exact k3
        subst e6
        subst e7
        have hSW : SW (up (am_u2 f 0 10 0) 402 w') nr (sp hold (f 437) t o) := ⟨by rw [up_ne (by decide), u2_ne (by decide)]; exact P.1, h4, fun r hr => by rw [up_same]; exact k4 r hr⟩
        obtain ⟨w'', j1, j2⟩ := c_pairs2 (g := g) (own := f 437 t) (their := f 437 o) hSW nr (3999 - nr) 0 (0, 0, 0) (up (am_u2 f 0 10 0) 402 w' 401) (by omega) (Nat.zero_le _) (Or.inl rfl)
        rw [show 3999 - nr + nr + 1 = 4000 by omega, up_self] at j1
        have ec : f_X8_countRests 27 (Int32.ofNat t) (Int32.ofNat o) (am_u2 f 0 10 0, g) = some (Int32.ofNat (fo (rS (both nr (sp hold (f 437) t o) (f 437 t) (f 437 o))) (4 * nr) (4 * 0) (0, 0, 0)).1, (up (up (am_u2 f 0 10 0) 402 w') 401 w'', g)) := by
          unfold f_X8_countRests
          rw [X7_hasBoth R0, cal_some, hs_on ht, hs_on ho, if_pos (show (decide (0 < f 437 t) && decide (0 < f 437 o)) = true by simp [t0, o0]), if_neg one, rdS1 R0 ht, rdS1 R0 ho]
          rw [up_self] at k1
          refine Eq.trans k1 ?_
          unfold jn_X8_countRests_153
          rw [if_neg one, if_neg one]
          have j1' : f_X8_countPairsAtRest (f 437 t) (f 437 o) (up (am_u2 f 0 10 0) 402 w', g) = _ := j1
          rw [j1', cal2_some]
        have efo : fo (rS (both nr (sp hold (f 437) t o) (f 437 t) (f 437 o))) 16 0 (0, 0, 0) = fo (rS (both nr (sp hold (f 437) t o) (f 437 t) (f 437 o))) (4 * nr) (4 * 0) (0, 0, 0) := by
          rw [show (16 : Nat) = 4 * nr + (16 - 4 * nr) by omega, fo_add]
          exact fo_id _ _ _ (fun k h1 h2 x => by
            unfold rS both
            have d2 : ¬ k / 4 < nr := by omega
            simp [d2])
        rw [← efo] at ec j2
        generalize hD : fo (rS (both nr (sp hold (f 437) t o) (f 437 t) (f 437 o))) 16 0 (0, 0, 0) = D at ec j2
        have f1eq : ∃ f1, f_X11_rivals (Int32.ofNat t) (Int32.ofNat o) (f, g) = some (Int32.ofNat D.1, (f1, g)) ∧ (∀ a, a ≠ 0 → a ≠ 401 → a ≠ 402 → a ≠ 412 → f1 a = f a) ∧ ((D.1 = 0 ∧ f1 0 10 = 0) ∨ (D.1 ≠ 0 ∧ f1 0 10 = 2 ∧ f1 412 0 = Int32.ofNat D.2.1 ∧ f1 412 1 = Int32.ofNat D.2.2)) ∧ D.1 ≤ 16 := by
          have hD16 : D.1 ≤ 16 := by
            rw [← hD]
            have := fo_cnt (B := both nr (sp hold (f 437) t o) (f 437 t) (f 437 o)) 16 0 (0, 0, 0)
            simpa using this
          have eb : ∀ a, a ≠ 0 → a ≠ 401 → a ≠ 402 → a ≠ 412 → up (up (am_u2 f 0 10 0) 402 w') 401 w'' a = f a := fun a a1 a2 a3 a4 => by rw [up_ne a2, up_ne a3, u2_ne a1]
          have e0 : up (up (am_u2 f 0 10 0) 402 w') 401 w'' 0 10 = Int32.ofNat 0 := by rw [up_ne (by decide), up_ne (by decide), au_same]; rfl
          unfold f_X11_rivals
          rw [ptI_eq, if_neg hxy, X7_hasBoth R0, cal_some, hs_on ht, hs_on ho, if_pos (show (decide (0 < f 437 t) && decide (0 < f 437 o)) = true by simp [t0, o0]), if_neg one]
          have ec' : f_X8_countRests 27 (Int32.ofNat t) (Int32.ofNat o) (am_u2 (f, g).1 0 10 0, (f, g).2) = _ := ec
          rw [ec', cal2_some]
          have hpos : (0 < Int32.ofNat D.1) ↔ D.1 ≠ 0 := by
            rw [show (0 : Int32) = Int32.ofNat 0 from rfl, on_lt (by decide) (by omega)]
            omega
          by_cases c : D.1 = 0
          · rw [if_neg (fun z => hpos.mp z c)]
            exact ⟨_, rfl, eb, Or.inl ⟨c, e0⟩, hD16⟩
          · rw [if_pos (hpos.mpr c), bnd_eq, X11_layDown (c := 0) (by decide) e0, cal_some, bnd_eq]
            have e1 : am_u2 (am_u2 (up (up (am_u2 f 0 10 0) 402 w') 401 w'') 412 0 (up (up (am_u2 f 0 10 0) 402 w') 401 w'' 401 3)) 0 10 (Int32.ofNat (0 + 1)) 0 10 = Int32.ofNat 1 := au_same
            rw [X11_layDown (c := 1) (by decide) e1, cal_some]
            have hw := j2.elim (fun z => absurd z c) id
            refine ⟨_, rfl, fun a a1 a2 a3 a4 => ?_, Or.inr ⟨c, au_same, ?_, ?_⟩, hD16⟩
            · rw [u2_ne a1, u2_ne a4, u2_ne a1, u2_ne a4]
              exact eb a a1 a2 a3 a4
            · rw [au_ne (by decide), au_nk (by decide), au_ne (by decide), au_same, up_same]
              exact hw.1
            · rw [au_ne (by decide), au_same]
              simp only
              rw [au_ne (by decide), au_ne (by decide), up_same]
              exact hw.2
        obtain ⟨f1, a1, a2, a3, a4⟩ := f1eq
        have q1 : f1 437 = f 437 := a2 437 (by decide) (by decide) (by decide) (by decide)
        have M1 : MP (f1, g) b nr hold := by
          unfold MP at M ⊢
          simp only at M ⊢
          rw [a2 413 (by decide) (by decide) (by decide) (by decide), a2 416 (by decide) (by decide) (by decide) (by decide), a2 423 (by decide) (by decide) (by decide) (by decide)]
          exact M
        have K0 : MR f1 (am_u2 f1 413 47 0) := ⟨fun a h1 _ => u2_ne h1, fun k hk => au_nk hk⟩
        obtain ⟨f2, m1, m2, m3, m4⟩ := m_rivals (g := g) (b := b) H (f 437) W L ht ho hto 16 3983 0 (0, 0, 0) (am_u2 f1 413 47 0) rfl (by rw [u2_ne (by decide)]; exact q1) (MP_mr K0 M1) (Nat.le_refl _) (Or.inl ⟨rfl, au_same⟩)
        rw [hD] at m1 m2
        refine ⟨Int32.ofNat D.1, f1, f2, a1, ?_, a2, K0.trans m3, ?_⟩
        · unfold f_X12_rivals
          rw [ptI_eq, X12_isThere, cal_some, X12_isThere, cal_some]
          simp only [qM f1 q1, h1, h2, if_true]
          rw [if_neg one, if_neg one, if_neg hxy]
          exact m1
        · have g0 : f2 0 10 = f1 0 10 := by rw [m3.1 0 (by decide) (by decide), u2_ne (by decide)]
          have g1 : f2 412 = f1 412 := by rw [m3.1 412 (by decide) (by decide), u2_ne (by decide)]
          rcases a3 with ⟨c, c1⟩ | ⟨c, c1, c2, c3⟩
          · rcases m2 with ⟨-, d1⟩ | ⟨d, -⟩
            · exact ⟨0, by decide, by rw [g0, c1]; rfl, by rw [d1]; rfl, fun i hi => by omega⟩
            · exact absurd c d
          · rcases m2 with ⟨d, -⟩ | ⟨-, d1, d2, d3⟩
            · exact absurd d c
            · refine ⟨2, by decide, by rw [g0, c1]; rfl, by rw [d1]; rfl, fun i hi => ?_⟩
              rw [g1]
              match i, hi with
              | 0, _ => rw [c2, d2]
              | 1, _ => rw [c3, d3]
      · refine base (-1) ?_ (fun f1 hf1 => ?_)
        · unfold f_X11_rivals
          rw [ptI_eq, if_neg hxy, X7_hasBoth R0, cal_some, if_neg (show ¬ (hs (f 437) x && hs (f 437) y) = true by simp [h2]), if_pos rfl]
        · unfold f_X12_rivals
          rw [ptI_eq, X12_isThere, cal_some, X12_isThere, cal_some]
          simp only [qM f1 hf1]
          rw [if_pos h1, if_neg one, if_neg h2, if_pos rfl]
    · refine base (-1) ?_ (fun f1 hf1 => ?_)
      · unfold f_X11_rivals
        rw [ptI_eq, if_neg hxy, X7_hasBoth R0, cal_some, if_neg (show ¬ (hs (f 437) x && hs (f 437) y) = true by simp [h1]), if_pos rfl]
      · unfold f_X12_rivals
        rw [ptI_eq, X12_isThere, cal_some]
        simp only [qM f1 hf1]
        rw [if_neg h1, if_pos rfl]
