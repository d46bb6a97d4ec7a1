/-! Rivals: the room that two leave, what each gains -/
def sp (hold q : Nat → Int32) (t o r : Nat) : Int32 := hold r - zBulk q (zS (fun k => qIn q (Int32.ofNat r) k && !decide (k = t) && !decide (k = o)))
theorem sp_symm {hold q : Nat → Int32} {t o r : Nat} : sp hold q o t r = sp hold q t o r := by
  unfold sp
  rw [zS_cong (e := fun k => qIn q (Int32.ofNat r) k && !decide (k = o) && !decide (k = t)) (e' := fun k => qIn q (Int32.ofNat r) k && !decide (k = t) && !decide (k = o)) (fun k _ => by
    cases qIn q (Int32.ofNat r) k <;> cases decide (k = o) <;> cases decide (k = t) <;> rfl)]
theorem sp_ti {nr : Nat} {hold q : Nat → Int32} (H : HO nr hold) (W : WQ nr q) {t o r : Nat} (ht : t < 8) (ho : o < 8) (hto : t ≠ o) (hr : r < nr) : (sp hold q t o r).toInt = (hold r).toInt - sum8 (vol q r) + vol q r t + vol q r o := by
  have h1 := H r hr
  have hv := fun k (hk : k < 8) => vol_le W r hk
  have s0 := sum8_b (g := vol q r) hv
  have s1 := sum8_one (g := vol q r) (g' := fun k => if k = t then 0 else vol q r k) ht (fun k hk hkt => by simp [hkt])
  have s2 := sum8_one (g := fun k => if k = t then 0 else vol q r k) (g' := fun k => if k = o then 0 else if k = t then 0 else vol q r k) ho (fun k hk hko => by simp [hko])
  have hot : ¬ o = t := fun z => hto z.symm
  simp only [if_true, if_neg hot] at s1 s2
  have e : (zBulk q (zS (fun k => qIn q (Int32.ofNat r) k && !decide (k = t) && !decide (k = o)))).toInt = sum8 (fun k => if k = o then 0 else if k = t then 0 else vol q r k) := by
    rw [zBulk_S, fo_sum (fun k hk => W.le hk)]
    refine sum8_eq (fun k hk => ?_)
    unfold vol
    by_cases c1 : k = o
    · simp [c1]
    · by_cases c2 : k = t
      · simp [c2, hto]
      · simp [c1, c2]
  have b2 := sum8_b (g := fun k => if k = o then 0 else if k = t then 0 else vol q r k) (n := 20) (fun k hk => by
    have := hv k hk
    split
    · omega
    · split <;> omega)
  unfold sp
  rw [ti_sub (by rw [e]; omega) (by rw [e]; omega), e]
  omega
theorem vol_at {nr : Nat} {q : Nat → Int32} (h4 : nr ≤ 4) (W : WQ nr q) {t r : Nat} (ht : t < 8) (t0 : 0 < q t) (hr : r < nr) : vol q r t = if q (8 + t) = Int32.ofNat r then (q t).toInt else 0 := by
  unfold vol qIn
  simp [t0]
theorem sp_class {nr : Nat} {hold q : Nat → Int32} (h4 : nr ≤ 4) (H : HO nr hold) (W : WQ nr q) {t o r : Nat} (ht : t < 8) (ho : o < 8) (hto : t ≠ o) (t0 : 0 < q t) (o0 : 0 < q o) (hr : r < nr) : (zLeft hold q r + (if q (8 + t) = Int32.ofNat r then q t else 0)) + (if q (8 + o) = Int32.ofNat r then q o else 0) = sp hold q t o r := by
  have s := sp_ti H W ht ho hto hr
  rw [vol_at h4 W ht t0 hr, vol_at h4 W ho o0 hr] at s
  have l := left_eq H W hr
  have h1 := H r hr
  have s0 := sum8_b (g := vol q r) (fun k hk => vol_le W r hk)
  have bt := W.le ht
  have bo := W.le ho
  apply Int32.toInt_inj.mp
  rw [s]
  by_cases c1 : q (8 + t) = Int32.ofNat r
  · simp only [c1, if_true]
    by_cases c2 : q (8 + o) = Int32.ofNat r
    · simp only [c2, if_true]
      rw [ti_add (by rw [ti_add (by omega) (by omega)]; omega) (by rw [ti_add (by omega) (by omega)]; omega), ti_add (by omega) (by omega), l]
    · simp only [if_neg c2]
      rw [Int32.add_zero, ti_add (by omega) (by omega), l]
      omega
  · simp only [if_neg c1]
    rw [Int32.add_zero]
    by_cases c2 : q (8 + o) = Int32.ofNat r
    · simp only [c2, if_true]
      rw [ti_add (by omega) (by omega), l]
      omega
    · simp only [if_neg c2]
      rw [Int32.add_zero, l]
      omega
theorem sp_b {nr : Nat} {hold q : Nat → Int32} (H : HO nr hold) (W : WQ nr q) (L : WL nr hold q) {t o r : Nat} (ht : t < 8) (ho : o < 8) (hto : t ≠ o) (hr : r < nr) : 0 ≤ (sp hold q t o r).toInt ∧ (sp hold q t o r).toInt ≤ 139 := by
  have s := sp_ti H W ht ho hto hr
  have h1 := H r hr
  have l := L r hr
  have s0 := sum8_b (g := vol q r) (fun k hk => vol_le W r hk)
  have b1 := vol_le W r ht
  have b2 := vol_le W r ho
  omega
/-- all of m places from t on -/
def al (p : Nat → Bool) : Nat → Nat → Bool
  | 0, _ => true
  | m + 1, t => p t && al p m (t + 1)
theorem al_iff {p : Nat → Bool} : ∀ m t, al p m t = true ↔ ∀ k, t ≤ k → k < t + m → p k = true
  | 0, t => by
    constructor
    · intro _ k h1 h2; omega
    · intro _; rfl
  | m + 1, t => by
    rw [al, Bool.and_eq_true, al_iff m (t + 1)]
    constructor
    · rintro ⟨h1, h2⟩ k k1 k2
      by_cases e : k = t
      · subst e; exact h1
      · exact h2 k (by omega) (by omega)
    · intro h
      exact ⟨h t (Nat.le_refl _) (by omega), fun k k1 k2 => h k (by omega) (by omega)⟩
def cg (S : Nat → Int32) (own their : Int32) (a c : Nat) : Int32 := if S a < own then -2 else if a = c then (if (-1 : Int32) < S a - own - their then S a - own - their else -1) else S a - own
def mg (S : Nat → Int32) (own their : Int32) (a c : Nat) : Int32 := if S a - own - (if a = c then their else 0) < 0 then -1 else S a - own - (if a = c then their else 0)
/-- numbers of that size -/
def okS (nr : Nat) (S : Nat → Int32) : Prop := ∀ r, r < nr → 0 ≤ (S r).toInt ∧ (S r).toInt ≤ 139
theorem cg_mg {nr : Nat} {S : Nat → Int32} {own their : Int32} (ok : okS nr S) (ho : 0 ≤ own.toInt ∧ own.toInt ≤ 20) {a c : Nat} (ha : a < nr) (h : ¬ S a < own) : cg S own their a c = mg S own their a c := by
  have s := ok a ha
  unfold cg mg
  rw [if_neg h]
  by_cases e : a = c
  · simp only [if_pos e]
    by_cases l : S a - own - their < 0
    · rw [if_pos l, if_neg (by
        rw [Int32.lt_iff_toInt_lt] at l ⊢
        have e1 : (-1 : Int32).toInt = -1 := rfl
        rw [ti_0] at l
        omega)]
    · rw [if_neg l, if_pos (by
        rw [Int32.lt_iff_toInt_lt] at l ⊢
        have e1 : (-1 : Int32).toInt = -1 := rfl
        rw [ti_0] at l
        omega)]
  · simp only [if_neg e]
    rw [Int32.sub_zero, if_neg (by
      rw [Int32.lt_iff_toInt_lt] at h ⊢
      rw [ti_0, ti_sub (by omega) (by omega)]
      omega)]
theorem mg_ge {S : Nat → Int32} {own their : Int32} {a c : Nat} : -1 ≤ (mg S own their a c).toInt := by
  unfold mg
  generalize S a - own - (if a = c then their else 0) = v
  split
  · decide
  · rename_i h
    rw [Int32.lt_iff_toInt_lt, ti_0] at h
    omega
def ct (nr : Nat) (S : Nat → Int32) (own their : Int32) (a c : Nat) : Bool := !decide (cg S own their a c = -2) && al (fun r => !decide (cg S own their a c < cg S own their r c)) nr 0
def rt (nr : Nat) (S : Nat → Int32) (own their : Int32) (a c : Nat) : Bool := al (fun r => (decide (S r < own) || !decide (mg S own their a c < mg S own their r c)) && (decide (S r < their) || !decide (mg S their own c a < mg S their own r a))) nr 0
theorem ct_iff {nr : Nat} {S : Nat → Int32} {own their : Int32} (ok : okS nr S) (ho : 0 ≤ own.toInt ∧ own.toInt ≤ 20) {a c : Nat} (ha : a < nr) : ct nr S own their a c = true ↔ ¬ S a < own ∧ ∀ r, r < nr → S r < own ∨ ¬ mg S own their a c < mg S own their r c := by
  unfold ct
  rw [Bool.and_eq_true, al_iff]
  simp only [Bool.not_eq_true', decide_eq_false_iff_not]
  have e2 : (-2 : Int32).toInt = -2 := rfl
  constructor
  · rintro ⟨h1, h2⟩
    have ca : ¬ S a < own := fun z => h1 (by unfold cg; rw [if_pos z])
    refine ⟨ca, fun r hr => ?_⟩
    by_cases c1 : S r < own
    · exact Or.inl c1
    · right
      have := h2 r (Nat.zero_le _) (by omega)
      rwa [cg_mg ok ho ha ca, cg_mg ok ho hr c1] at this
  · rintro ⟨h1, h2⟩
    refine ⟨fun z => ?_, fun r _ hr => ?_⟩
    · rw [cg_mg ok ho ha h1] at z
      have := mg_ge (S := S) (own := own) (their := their) (a := a) (c := c)
      rw [z] at this
      omega
    · rw [cg_mg ok ho ha h1]
      rcases h2 r (by omega) with h3 | h3
      · have : cg S own their r c = -2 := by unfold cg; rw [if_pos h3]
        rw [this]
        intro z
        rw [Int32.lt_iff_toInt_lt] at z
        have := mg_ge (S := S) (own := own) (their := their) (a := a) (c := c)
        omega
      · by_cases c1 : S r < own
        · have : cg S own their r c = -2 := by unfold cg; rw [if_pos c1]
          rw [this]
          intro z
          rw [Int32.lt_iff_toInt_lt] at z
          have := mg_ge (S := S) (own := own) (their := their) (a := a) (c := c)
          omega
        · rw [cg_mg ok ho (by omega) c1]
          exact h3
/-- both are content -/
def both (nr : Nat) (S : Nat → Int32) (own their : Int32) (a c : Nat) : Bool := decide (a < nr) && decide (c < nr) && ct nr S own their a c && ct nr S their own c a
theorem both_rt {nr : Nat} {S : Nat → Int32} {own their : Int32} (ok : okS nr S) (ho : 0 ≤ own.toInt ∧ own.toInt ≤ 20) (ht : 0 ≤ their.toInt ∧ their.toInt ≤ 20) {a c : Nat} (ha : a < nr) (hc : c < nr) : both nr S own their a c = (!decide (S a < own) && !decide (S c < their) && rt nr S own their a c) := by
  apply bool_ext
  unfold both rt
  simp only [Bool.and_eq_true, decide_eq_true_eq, Bool.not_eq_true', decide_eq_false_iff_not, Bool.or_eq_true]
  rw [ct_iff ok ho ha, ct_iff ok ht hc, al_iff]
  simp only [Bool.and_eq_true, Bool.or_eq_true, decide_eq_true_eq, Bool.not_eq_true', decide_eq_false_iff_not]
  constructor
  · rintro ⟨⟨_, h1, h2⟩, h3, h4⟩
    exact ⟨⟨h1, h3⟩, fun r _ hr => ⟨h2 r (by omega), h4 r (by omega)⟩⟩
  · rintro ⟨⟨h1, h3⟩, h⟩
    exact ⟨⟨⟨ha, hc⟩, h1, fun r hr => (h r (Nat.zero_le _) (by omega)).1⟩, h3, fun r hr => (h r (Nat.zero_le _) (by omega)).2⟩
def rS (B : Nat → Nat → Bool) (v : Nat) (p : Nat × Nat × Nat) : Nat × Nat × Nat := if B (v / 4) (v % 4) = true then (p.1 + 1, if p.1 = 0 then (v / 4, v % 4) else p.2) else p
section QJ
variable {nr : Nat} {S : Nat → Int32} {own their : Int32} {g : (Nat → Nat → Int64) × (Nat → Nat → Option Nat)}
/-- what the class's stowing sees -/
def SW (f : Nat → Nat → Int32) (nr : Nat) (S : Nat → Int32) : Prop := f 4 6 = Int32.ofNat nr ∧ nr ≤ 4 ∧ ∀ r, r < nr → f 402 r = S r
theorem lt4 {r : Nat} (h : r < 4) : Int32.ofNat r < 4 := by
  rw [show (4 : Int32) = Int32.ofNat 4 from rfl, on_lt (by omega) (by omega)]
  exact h
theorem X8_gainOf {f : Nat → Nat → Int32} (w : SW f nr S) {a c : Nat} (ha : a < nr) (hc : c < nr) : f_X8_gainOf (Int32.ofNat a) (Int32.ofNat c) own their (f, g) = some (cg S own their a c) := by
  obtain ⟨w1, w2, w3⟩ := w
  have e : (Int32.ofNat a = Int32.ofNat c) ↔ a = c := on_inj (by omega) (by omega)
  unfold f_X8_gainOf cg
  rw [if_neg (i8_ge a (by omega)), if_pos (lt4 (by omega)), rdI_n (by omega) (by decide), rdI_n (by omega) (by decide)]
  simp only [w3 a ha]
  by_cases c1 : S a < own
  · rw [if_pos c1, if_pos c1]
  · rw [if_neg c1, if_neg c1]
    by_cases c2 : a = c
    · rw [if_pos (e.mpr c2), if_pos c2]
    · rw [if_neg (fun z => c2 (e.mp z)), if_neg c2]
theorem c_cont {f : Nat → Nat → Int32} (w : SW f nr S) {c : Nat} (hc : c < nr) {x : Int32} {k : Option Int32} : ∀ m n r, r + m = nr → lp_X8_isContent_14 (Int32.ofNat c) own their x (f, g) k (n + m + 1) (Int32.ofNat r) = if al (fun r => !decide (x < cg S own their r c)) m r = true then k else some 0 := by
  have w1 := w.1
  have w2 := w.2.1
  intro m
  induction m with
  | zero =>
    intro n r hr
    rw [lp_X8_isContent_14, bnd_eq]
    simp only [w1]
    rw [if_neg (by rw [on_lt (by omega) (by omega)]; omega)]
    rfl
  | succ m ih =>
    intro n r hr
    have hr' : r < nr := by omega
    have e : lp_X8_isContent_14 (Int32.ofNat c) own their x (f, g) k (n + (m + 1)) (Int32.ofNat (r + 1)) = _ := ih n (r + 1) (by omega)
    rw [lp_X8_isContent_14, bnd_eq]
    simp only [w1]
    rw [if_pos ((on_lt (by omega) (by omega)).mpr hr'), if_pos (lt4 (by omega)), X8_gainOf w hr' hc, cal_some, on_succ, e, al]
    by_cases c1 : x < cg S own their r c
    · simp [c1]
    · simp [c1]
theorem X8_isContent {f : Nat → Nat → Int32} (w : SW f nr S) {a c : Nat} (ha : a < nr) (hc : c < nr) : f_X8_isContent (Int32.ofNat a) (Int32.ofNat c) own their (f, g) = some (if ct nr S own their a c = true then 1 else 0) := by
  have w2 := w.2.1
  have h := c_cont (g := g) (own := own) (their := their) w hc (x := cg S own their a c) (k := jn_X8_isContent_55 (cg S own their a c) (f, g)) nr (3999 - nr) 0 (by omega)
  rw [show 3999 - nr + nr + 1 = 4000 by omega] at h
  unfold f_X8_isContent
  rw [X8_gainOf w ha hc, cal_some]
  refine Eq.trans h ?_
  unfold jn_X8_isContent_55 ct
  by_cases c1 : cg S own their a c = -2
  · simp [c1]
  · by_cases c2 : al (fun r => !decide (cg S own their a c < cg S own their r c)) nr 0 = true
    · simp [c1, c2]
    · simp [c1, c2]
def W3 (w : Nat → Int32) (p : Nat × Nat × Nat) : Prop := p.1 = 0 ∨ (w 3 = Int32.ofNat p.2.1 ∧ w 4 = Int32.ofNat p.2.2)
theorem SW_up {f : Nat → Nat → Int32} {w : Nat → Int32} (h : SW f nr S) : SW (up f 401 w) nr S := by
  unfold SW
  rw [up_ne (by decide), up_ne (by decide)]
  exact h
theorem c_pairs1 {f : Nat → Nat → Int32} (ws : SW f nr S) {a : Nat} (ha : a < nr) {k : Int32 → am_H → Option (Int32 × am_H)} : ∀ m n c (p : Nat × Nat × Nat) (w : Nat → Int32), c + m = nr → p.1 ≤ 4 * a + c → W3 w p → ∃ w', lp_X8_countPairsAtRest_26 own their (Int32.ofNat a) k (n + m + 1) (Int32.ofNat p.1) (Int32.ofNat c) (up f 401 w, g) = k (Int32.ofNat (fo (rS (both nr S own their)) m (4 * a + c) p).1) (up f 401 w', g) ∧ W3 w' (fo (rS (both nr S own their)) m (4 * a + c) p) ∧ (fo (rS (both nr S own their)) m (4 * a + c) p).1 ≤ 4 * a + nr := by
  have w1 := ws.1
  have w2 := ws.2.1
  intro m
  induction m with
  | zero =>
    intro n c p w hc hp hw
    rw [lp_X8_countPairsAtRest_26, bnd_eq]
    have e46 : up f 401 w 4 6 = Int32.ofNat nr := by rw [up_ne (by decide)]; exact w1
    simp only [e46]
    rw [if_neg (by rw [on_lt (by omega) (by omega)]; omega)]
    exact ⟨w, rfl, hw, by show p.1 ≤ _; omega⟩
  | succ m ih =>
    intro n c p w hc hp hw
    have hc' : c < nr := by omega
    have e46 : up f 401 w 4 6 = Int32.ofNat nr := by rw [up_ne (by decide)]; exact w1
    have d1 : (4 * a + c) / 4 = a := by omega
    have d2 : (4 * a + c) % 4 = c := by omega
    have ih' := fun (p : Nat × Nat × Nat) (w : Nat → Int32) => ih n (c + 1) p w (by omega)
    rw [lp_X8_countPairsAtRest_26, bnd_eq]
    simp only [e46]
    rw [if_pos ((on_lt (by omega) (by omega)).mpr hc'), if_pos (lt4 (by omega)), X8_isContent (SW_up ws) ha hc', cal_some, X8_isContent (SW_up ws) hc' ha, cal_some, on_succ, fo]
    have hb : both nr S own their a c = (ct nr S own their a c && ct nr S their own c a) := by
      unfold both
      simp [ha, hc']
    by_cases c1 : ct nr S own their a c = true
    · rw [if_pos c1, if_neg (show ¬ (1 : Int32) = 0 by decide)]
      by_cases c2 : ct nr S their own c a = true
      · rw [if_pos c2, if_neg (show ¬ (1 : Int32) = 0 by decide)]
        have er : rS (both nr S own their) (4 * a + c) p = (p.1 + 1, if p.1 = 0 then (a, c) else p.2) := by
          unfold rS
          rw [d1, d2, hb, c1, c2]
          rfl
        rw [er, on_succ]
        by_cases c3 : p.1 = 0
        · rw [if_pos (show Int32.ofNat p.1 = 0 by rw [c3]; rfl), if_pos c3, ptI_eq, ptI_eq]
          have eu : am_u2 (am_u2 (up f 401 w) 401 3 (Int32.ofNat a)) 401 4 (Int32.ofNat c) = up f 401 (st (st w 3 (Int32.ofNat a)) 4 (Int32.ofNat c)) := by
            simp only [u2_up, up_up, up_same]
          simp only [eu]
          exact ih' (p.1 + 1, (a, c)) (st (st w 3 (Int32.ofNat a)) 4 (Int32.ofNat c)) (by simp only; omega) (Or.inr ⟨by rw [st_ne (by decide), st_same], by rw [st_same]⟩)
        · have n0 : ¬ Int32.ofNat p.1 = 0 := fun z => c3 ((on_inj (a := p.1) (b := 0) (by omega) (by decide)).mp z)
          rw [if_neg n0, if_neg c3]
          exact ih' (p.1 + 1, p.2) w (by simp only; omega) (Or.inr (hw.elim (fun z => absurd z c3) id))
      · rw [if_neg c2, if_pos rfl]
        have er : rS (both nr S own their) (4 * a + c) p = p := by
          unfold rS
          rw [d1, d2, hb, c1]
          simp [c2]
        rw [er]
        exact ih' p w (by omega) hw
    · rw [if_neg c1, if_pos rfl]
      have er : rS (both nr S own their) (4 * a + c) p = p := by
        unfold rS
        rw [d1, d2, hb]
        simp [c1]
      rw [er]
      exact ih' p w (by omega) hw
theorem c_pairs2 {f : Nat → Nat → Int32} (ws : SW f nr S) : ∀ m n a (p : Nat × Nat × Nat) (w : Nat → Int32), a + m = nr → p.1 ≤ 4 * a → W3 w p → ∃ w', lp_X8_countPairsAtRest_5 own their (n + m + 1) (Int32.ofNat p.1) (Int32.ofNat a) (up f 401 w, g) = some (Int32.ofNat (fo (rS (both nr S own their)) (4 * m) (4 * a) p).1, (up f 401 w', g)) ∧ W3 w' (fo (rS (both nr S own their)) (4 * m) (4 * a) p) := by
  have w1 := ws.1
  have w2 := ws.2.1
  intro m
  induction m with
  | zero =>
    intro n a p w ha hp hw
    rw [lp_X8_countPairsAtRest_5, bnd_eq]
    have e46 : up f 401 w 4 6 = Int32.ofNat nr := by rw [up_ne (by decide)]; exact w1
    simp only [e46]
    rw [if_neg (by rw [on_lt (by omega) (by omega)]; omega)]
    exact ⟨w, rfl, hw⟩
  | succ m ih =>
    intro n a p w ha hp hw
    have ha' : a < nr := by omega
    have e46 : up f 401 w 4 6 = Int32.ofNat nr := by rw [up_ne (by decide)]; exact w1
    rw [lp_X8_countPairsAtRest_5, bnd_eq]
    simp only [e46]
    rw [if_pos ((on_lt (by omega) (by omega)).mpr ha'), if_pos (lt4 (by omega)), on_succ]
    obtain ⟨w', k1, k2, k3⟩ := c_pairs1 (g := g) (own := own) (their := their) ws ha' (k := fun z15 h16 => lp_X8_countPairsAtRest_5 own their (n + (m + 1)) z15 (Int32.ofNat (a + 1)) h16) nr (3999 - nr) 0 p w (by omega) (by omega) hw
    rw [show 3999 - nr + nr + 1 = 4000 by omega] at k1
    have eq : fo (rS (both nr S own their)) 4 (4 * a) p = fo (rS (both nr S own their)) nr (4 * a) p := by
      rw [show (4 : Nat) = nr + (4 - nr) by omega, fo_add, show (nr + (4 - nr)) * a = 4 * a by rw [show nr + (4 - nr) = 4 by omega]]
      exact fo_id (4 - nr) _ _ (fun k h1 h2 x => by
        unfold rS both
        have d2 : ¬ k % 4 < nr := by omega
        simp [d2])
    obtain ⟨w'', j1, j2⟩ := ih n (a + 1) (fo (rS (both nr S own their)) nr (4 * a) p) w' (by omega) (by
      simp only [Nat.add_zero] at k3
      omega) (by simpa using k2)
    refine ⟨w'', ?_, ?_⟩
    · refine Eq.trans k1 ?_
      simp only [Nat.add_zero]
      rw [show 4 * (m + 1) = 4 + 4 * m by omega, fo_add, eq]
      exact j1
    · rw [show 4 * (m + 1) = 4 + 4 * m by omega, fo_add, eq]
      exact j2
end QJ
