/-! States copied; years ahead -/
theorem cp8 {ρ : Type} {f : Nat → Nat → Int32} {g : (Nat → Nat → Int64) × (Nat → Nat → Option Nat)} {x y : Nat} {F : am_H → Option ρ} (h : x ≠ y) : cpI (f, g) x 8 0 y 8 0 8 F = F (up f y (fun k => if k < 8 then f x k else f y k), g) := by
  unfold cpI
  rw [if_pos ⟨by decide, by decide, by decide, by decide, by decide, h⟩]
  congr 2
  funext a
  unfold up
  by_cases e : a = y
  · subst e
    rw [if_pos rfl, if_pos rfl]
    funext k
    show va_cpy (f x) (f a) 0 0 8 k = _
    unfold va_cpy
    by_cases hk : k < 8
    · simp [hk]
    · simp [hk]
  · rw [if_neg e, if_neg e]
theorem X7_copyFrom {d s : Nat} {q : Nat → Int32} {f : Nat → Nat → Int32} {g : (Nat → Nat → Int64) × (Nat → Nat → Option Nat)} (hds : d + 8 ≤ s ∨ s + 8 ≤ d) (R : RC s q f) : ∃ f', f_X7_copyFrom d s (f, g) = some (f', g) ∧ RC d q f' ∧ ∀ a, ¬ (d ≤ a ∧ a < d + 8) → f' a = f a := by
  unfold f_X7_copyFrom
  rw [cp8 (by omega), cp8 (by omega), cp8 (by omega), cp8 (by omega), cp8 (by omega), cp8 (by omega), cp8 (by omega), bnd_eq, ptI_eq, bnd_eq, ptI_eq, bnd_eq, ptI_eq]
  refine ⟨_, rfl, ⟨fun t ht => ?_, ?_, ?_, ?_⟩, fun a ha => ?_⟩
  · obtain ⟨r1, r2, r3, r4, r5, r6, r7⟩ := R.1 t ht
    simp (disch := omega) only [u2_ne, up_ne, up_same, if_pos ht]
    exact ⟨r1, r2, r3, r4, r5, r6, r7⟩
  · simp (disch := omega) only [au_nk, au_same, u2_ne, up_ne, up_same]
    exact R.2.1
  · simp (disch := omega) only [au_nk, au_same, u2_ne, up_ne, up_same]
    exact R.2.2.1
  · simp (disch := omega) only [au_nk, au_same, u2_ne, up_ne, up_same]
    exact R.2.2.2
  · simp (disch := omega) only [u2_ne, up_ne]
/-- the model's cells up to 59 are what counts -/
theorem RC_59 {s : Nat} {q q' : Nat → Int32} {f : Nat → Nat → Int32} (h : ∀ k, k < 59 → q' k = q k) (R : RC s q f) : RC s q' f := by
  refine ⟨fun t ht => ?_, by rw [h 56 (by decide)]; exact R.2.1, by rw [h 57 (by decide)]; exact R.2.2.1, by rw [h 58 (by decide)]; exact R.2.2.2⟩
  rw [h t (by omega), h (8 + t) (by omega), h (16 + t) (by omega), h (24 + t) (by omega), h (32 + t) (by omega), h (40 + t) (by omega), h (48 + t) (by omega)]
  exact R.1 t ht
theorem WQ_59 {nr : Nat} {q q' : Nat → Int32} (h : ∀ k, k < 59 → q' k = q k) (W : WQ nr q) : WQ nr q' := fun t ht => WT_cong (h _ (by omega)) (h _ (by omega)) (h _ (by omega)) (h _ (by omega)) (h _ (by omega)) (h _ (by omega)) (h _ (by omega)) (W t ht)
theorem WL_59 {nr : Nat} {hold q q' : Nat → Int32} (h : ∀ k, k < 59 → q' k = q k) (L : WL nr hold q) : WL nr hold q' := fun r hr => by
  rw [sum8_eq (g := vol q r) (fun k hk => by unfold vol qIn; rw [h k (by omega), h (8 + k) (by omega)])]
  exact L r hr
/-- what a copy of the model's row leaves alone -/
theorem m_keep {g : (Nat → Nat → Int64) × (Nat → Nat → Option Nat)} (q : Nat → Int32) : ∀ m n t (f : Nat → Nat → Int32), t + m = 59 → f 437 = q → ∃ w, lp_X12_keepNow_2 (n + m + 1) (Int32.ofNat t) (f, g) = some (up f 438 w, g) ∧ (∀ i, i < t → w i = f 438 i) ∧ ∀ i, t ≤ i → i < 59 → w i = q i := by
  intro m
  induction m with
  | zero =>
    intro n t f ht hq
    obtain rfl : t = 59 := by omega
    rw [lp_X12_keepNow_2, if_neg (by decide)]
    exact ⟨f 438, by rw [up_self], fun _ _ => rfl, fun i h1 h2 => by omega⟩
  | succ m ih =>
    intro n t f ht hq
    have h8 : t < 59 := by omega
    have hl : Int32.ofNat t < 59 := by
      rw [show (59 : Int32) = Int32.ofNat 59 from rfl, on_lt (by omega) (by omega)]
      exact h8
    rw [lp_X12_keepNow_2, if_pos hl, rdI_n h8 (by decide), wrI_n h8 (by decide), on_succ]
    obtain ⟨w, a1, a2, a3⟩ := ih n (t + 1) (am_u2 f 438 t (f 437 t)) (by omega) (by rw [u2_ne (by decide)]; exact hq)
    rw [show up (am_u2 f 438 t (f 437 t)) 438 w = up f 438 w by rw [u2_up, up_up]] at a1
    refine ⟨w, a1, fun i hi => ?_, fun i h1 h2 => ?_⟩
    · rw [a2 i (by omega), au_nk (by omega)]
    · by_cases e : i = t
      · subst e; rw [a2 i (by omega), au_same, hq]
      · exact a3 i (by omega) h2
theorem m_back {g : (Nat → Nat → Int64) × (Nat → Nat → Option Nat)} (q : Nat → Int32) : ∀ m n t (f : Nat → Nat → Int32), t + m = 59 → f 438 = q → ∃ w, lp_X12_bringBack_2 (n + m + 1) (Int32.ofNat t) (f, g) = some (up f 437 w, g) ∧ (∀ i, i < t → w i = f 437 i) ∧ (∀ i, t ≤ i → i < 59 → w i = q i) ∧ ∀ i, 59 ≤ i → w i = f 437 i := by
  intro m
  induction m with
  | zero =>
    intro n t f ht hq
    obtain rfl : t = 59 := by omega
    rw [lp_X12_bringBack_2, if_neg (by decide)]
    exact ⟨f 437, by rw [up_self], fun _ _ => rfl, fun i h1 h2 => by omega, fun _ _ => rfl⟩
  | succ m ih =>
    intro n t f ht hq
    have h8 : t < 59 := by omega
    have hl : Int32.ofNat t < 59 := by
      rw [show (59 : Int32) = Int32.ofNat 59 from rfl, on_lt (by omega) (by omega)]
      exact h8
    rw [lp_X12_bringBack_2, if_pos hl, rdI_n h8 (by decide), wrI_n h8 (by decide), on_succ]
    obtain ⟨w, a1, a2, a3, a4⟩ := ih n (t + 1) (am_u2 f 437 t (f 438 t)) (by omega) (by rw [u2_ne (by decide)]; exact hq)
    rw [show up (am_u2 f 437 t (f 438 t)) 437 w = up f 437 w by rw [u2_up, up_up]] at a1
    refine ⟨w, a1, fun i hi => ?_, fun i h1 h2 => ?_, fun i hi => by rw [a4 i hi, au_nk (by omega)]⟩
    · rw [a2 i (by omega), au_nk (by omega)]
    · by_cases e : i = t
      · subst e; rw [a2 i (by omega), au_same, hq]
      · exact a3 i (by omega) h2
theorem X12_keepNow {f : Nat → Nat → Int32} {g : (Nat → Nat → Int64) × (Nat → Nat → Option Nat)} : ∃ w, f_X12_keepNow (f, g) = some (up f 438 w, g) ∧ ∀ i, i < 59 → w i = f 437 i := by
  obtain ⟨w, a1, -, a3⟩ := m_keep (g := g) (f 437) 59 3940 0 f rfl rfl
  exact ⟨w, a1, fun i hi => a3 i (Nat.zero_le _) hi⟩
theorem X12_bringBack {f : Nat → Nat → Int32} {g : (Nat → Nat → Int64) × (Nat → Nat → Option Nat)} : ∃ w, f_X12_bringBack (f, g) = some (up f 437 w, g) ∧ (∀ i, i < 59 → w i = f 438 i) ∧ ∀ i, 59 ≤ i → w i = f 437 i := by
  obtain ⟨w, a1, -, a3, a4⟩ := m_back (g := g) (f 438) 59 3940 0 f rfl rfl
  exact ⟨w, a1, fun i hi => a3 i (Nat.zero_le _) hi, a4⟩
/-- a year leaves the cells behind the row alone -/
theorem hi_ls {lim : Int32} {t : Nat} {p : (Nat → Int32) × Int32} (ht : t < 8) {k : Nat} (hk : 56 ≤ k ∧ k ≠ 58) : (zLs lim t p).1 k = p.1 k := by
  unfold zLs
  split
  · rfl
  · split
    · show st (st p.1 (24 + t) (p.1 (24 + t) - 1)) (32 + t) 0 k = _
      rw [st_ne (by omega), st_ne (by omega)]
    · split
      · show st p.1 (32 + t) (p.1 (32 + t) + 1) k = _
        rw [st_ne (by omega)]
      · show zLose t (st p.1 (32 + t) (p.1 (32 + t) + 1)) k = _
        rw [zLose_o (by omega) (by omega) (by omega), st_ne (by omega)]
theorem hi_gs {hold : Nat → Int32} {t : Nat} {q : Nat → Int32} (ht : t < 8) {k : Nat} (hk : 56 ≤ k ∧ k ≠ 58) : zGs hold t q k = q k := by
  unfold zGs
  split
  · rw [st_ne (by omega)]
  · rfl
theorem hi_rs {E : EV} {nr r : Nat} {hold : Nat → Int32} {p : (Nat → Int32) × Int32} {k : Nat} (hk : 56 ≤ k ∧ k ≠ 58) : (zRs E hold r p).1 k = p.1 k := by
  unfold zRs
  by_cases h : zRp E hold p.1 r = true
  · rw [if_pos h]
    obtain ⟨i, j, t, hi, hj, ht, gi, gj, q0, ri, he, ft, ci, cj, et, h3⟩ := rp_at h
    show zBf p.1 (cI p.1 r) (cJ p.1 r) (zT p.1) r k = _
    rw [et]
    unfold zBf
    simp (disch := omega) only [st_ne]
  · rw [if_neg h]
theorem hi_fo {E : EV} {nr : Nat} {hold : Nat → Int32} {k : Nat} (hk : 56 ≤ k ∧ k ≠ 58) : ∀ m r (p : (Nat → Int32) × Int32), (fo (zRs E hold) m r p).1 k = p.1 k
  | 0, _, _ => rfl
  | m + 1, r, p => by
    rw [fo, hi_fo (nr := nr) hk m (r + 1), hi_rs (nr := nr) hk]
def hiP (k : Nat) (q : Nat → Int32) (_ : Nat) (p : (Nat → Int32) × Int32) : Prop := p.1 k = q k
def hiG (k : Nat) (q : Nat → Int32) (_ : Nat) (p : Nat → Int32) : Prop := p k = q k
theorem hi_listen {q : Nat → Int32} {lim : Int32} {k : Nat} (hk : 56 ≤ k ∧ k ≠ 58) : hiP k q 8 (zListen lim q) := fo_ind (f := zLs lim) (P := hiP k q) (fun t p ht hp => (hi_ls ht hk).trans hp) (a := (q, 0)) rfl
theorem hi_grow {hold q : Nat → Int32} {k : Nat} (hk : 56 ≤ k ∧ k ≠ 58) : hiG k q 8 (zGrow hold q) := fo_ind (f := zGs hold) (P := hiG k q) (fun t p ht hp => (hi_gs ht hk).trans hp) (a := q) rfl
theorem pass_k {E : EV} {nr : Nat} {hold q : Nat → Int32} {lim : Int32} {k : Nat} (hk : 56 ≤ k ∧ k ≠ 58) : (zPass E hold nr lim q).1 k = if k = 57 then q 57 + 1 else q k := by
  have h1 : ∀ k, 56 ≤ k ∧ k ≠ 58 → (zListen lim q).1 k = q k := fun k hk => hi_listen hk
  have h2 : ∀ k, 56 ≤ k ∧ k ≠ 58 → zGrow hold (zListen lim q).1 k = (zListen lim q).1 k := fun k hk => hi_grow hk
  unfold zPass
  simp only
  generalize zGrow hold (zListen lim q).1 = z at h2 ⊢
  have h3 : ∀ k, 56 ≤ k ∧ k ≠ 58 → (fo (zRs E hold) nr 0 (z, 0)).1 k = q k := fun k hk => (hi_fo (E := E) (nr := nr) (hold := hold) hk nr 0 (z, 0)).trans ((h2 k hk).trans (h1 k hk))
  by_cases e : k = 57
  · subst e
    rw [if_pos rfl, st_same, h3 57 (by decide)]
  · rw [if_neg e, st_ne e, h3 k hk]
theorem hi_pass {E : EV} {nr : Nat} {hold q : Nat → Int32} {lim : Int32} {k : Nat} (hk : 59 ≤ k) : (zPass E hold nr lim q).1 k = q k := by
  rw [pass_k ⟨by omega, by omega⟩, if_neg (by omega)]
/-- some years on -/
def yrs (E : EV) (hold : Nat → Int32) (nr : Nat) (lim : Int32) : Nat → (Nat → Int32) → Nat → Int32
  | 0, q => q
  | n + 1, q => yrs E hold nr lim n (zPass E hold nr lim q).1
theorem hi_yrs {E : EV} {nr : Nat} {hold : Nat → Int32} {lim : Int32} {k : Nat} (hk : 59 ≤ k) : ∀ n q, yrs E hold nr lim n q k = q k
  | 0, _ => rfl
  | n + 1, q => by
    show yrs E hold nr lim n (zPass E hold nr lim q).1 k = q k
    rw [hi_yrs hk n, hi_pass hk]
theorem W_yrs {E : EV} {nr : Nat} {hold : Nat → Int32} {lim : Int32} (h4 : nr ≤ 4) (H : HO nr hold) (hl : lim.toInt ≤ 9) : ∀ n q, WQ nr q → WL nr hold q → WQ nr (yrs E hold nr lim n q) ∧ WL nr hold (yrs E hold nr lim n q)
  | 0, q, W, L => ⟨W, L⟩
  | n + 1, q, W, L => by
    obtain ⟨W', L'⟩ := W_pass (E := E) h4 H hl W L
    exact W_yrs h4 H hl n _ W' L'
section YA
variable {f : Nat → Nat → Int32} {g : (Nat → Nat → Int64) × (Nat → Nat → Option Nat)} {b nr : Nat} {hold : Nat → Int32} {E : EV} {lim : Int32}
theorem PC_ck {f f' : Nat → Nat → Int32} (h : CK 36 f f') (P : PC (f, g) nr hold) : PC (f', g) nr hold := PC_frame (h 4 (by decide) (by decide) (by decide)) (h 5 (by decide) (by decide) (by decide)) P
theorem EC_ck {f f' : Nat → Nat → Int32} (h : CK 36 f f') (e : EC f E) : EC f' E := EC_frame (h 10 (by decide) (by decide) (by decide)) (h 11 (by decide) (by decide) (by decide)) (h 12 (by decide) (by decide) (by decide)) e
theorem c_years (H : HO nr hold) (hl : lim.toInt ≤ 9) {N : Nat} (hN : N ≤ 30) {k : am_H → Option am_H} : ∀ m n i q (f : Nat → Nat → Int32), i + m = N → RC 36 q f → WQ nr q → WL nr hold q → PC (f, g) nr hold → EC f E → ∃ f', lp_X10_behind_11 (Int32.ofNat N) lim k (n + m + 1) (Int32.ofNat i) (f, g) = k (f', g) ∧ RC 36 (yrs E hold nr lim m q) f' ∧ CK 36 f f' := by
  intro m
  induction m with
  | zero =>
    intro n i q f hi R W L P e
    rw [lp_X10_behind_11, if_neg (by rw [on_lt (by omega) (by omega)]; omega)]
    exact ⟨f, rfl, R, CK.refl⟩
  | succ m ih =>
    intro n i q f hi R W L P e
    have h4 := P.2.1
    obtain ⟨f1, a1, a2, -, -, a5⟩ := X10_pass (g := g) (Or.inr rfl) H hl R W L P e
    obtain ⟨W', L'⟩ := W_pass (E := E) h4 H hl W L
    obtain ⟨f', b1, b2, b3⟩ := ih n (i + 1) _ f1 (by omega) a2 W' L' (PC_ck a5 P) (EC_ck a5 e)
    rw [lp_X10_behind_11, if_pos ((on_lt (by omega) (by omega)).mpr (by omega)), a1, cal_some, on_succ]
    exact ⟨f', b1, b2, a5.trans b3⟩
theorem X10_behind (H : HO nr hold) (hl : lim.toInt ≤ 9) {N : Nat} (hN : N ≤ 30) {q : Nat → Int32} (R : RC 27 q f) (W : WQ nr q) (L : WL nr hold q) (P : PC (f, g) nr hold) (e : EC f E) : ∃ f', f_X10_behind 27 (Int32.ofNat N) lim (f, g) = some (f', g) ∧ RC 36 (yrs E hold nr lim N q) f' ∧ CK 36 f f' := by
  obtain ⟨f1, a1, a2, a3⟩ := X7_copyFrom (g := g) (d := 36) (s := 27) (Or.inr (by decide)) R
  have K : CK 36 f f1 := fun a h1 _ _ => a3 a h1
  obtain ⟨f', b1, b2, b3⟩ := c_years (g := g) (k := fun h9 => some h9) H hl hN N (3999 - N) 0 q f1 (by omega) a2 W L (PC_ck K P) (EC_ck K e)
  rw [show 3999 - N + N + 1 = 4000 by omega] at b1
  unfold f_X10_behind
  rw [a1, cal_some]
  exact ⟨f', b1, b2, K.trans b3⟩
theorem m_years (H : HO nr hold) (hl : lim.toInt ≤ 9) {N : Nat} (hN : N ≤ 30) : ∀ m n i c (f : Nat → Nat → Int32), i + m = N → MP (f, g) b nr hold → LM f b lim → WQ nr (f 437) → WL nr hold (f 437) → EM f b nr hold E → ∃ c' f', lp_X12_goYears_4 (Int32.ofNat N) (n + m + 1) c (Int32.ofNat i) (f, g) = some (c', (f', g)) ∧ f' 437 = yrs E hold nr lim m (f 437) ∧ MK f f' := by
  intro m
  induction m with
  | zero =>
    intro n i c f hi M Li W L e
    rw [lp_X12_goYears_4, if_neg (by rw [on_lt (by omega) (by omega)]; omega)]
    exact ⟨c, f, rfl, rfl, MK.refl⟩
  | succ m ih =>
    intro n i c f hi M Li W L e
    have h4 := M.2.2.2.1
    obtain ⟨f1, a1, a2, a3⟩ := X12_goYear (g := g) H hl M Li W L e
    obtain ⟨W', L'⟩ := W_pass (E := E) h4 H hl W L
    obtain ⟨c', f', b1, b2, b3⟩ := ih n (i + 1) (c ||| (zPass E hold nr lim (f 437)).2.1) f1 (by omega) (MP_mk a3 M) (LM_mk a3 Li) (by rw [a2]; exact W') (by rw [a2]; exact L') (EM_mk a3 e)
    rw [lp_X12_goYears_4, if_pos ((on_lt (by omega) (by omega)).mpr (by omega)), a1, cal2_some, on_succ]
    refine ⟨c', f', b1, ?_, a3.trans b3⟩
    rw [b2, a2]
    rfl
theorem X12_goYears (H : HO nr hold) (hl : lim.toInt ≤ 9) {N : Nat} (hN : N ≤ 30) (M : MP (f, g) b nr hold) (Li : LM f b lim) (W : WQ nr (f 437)) (L : WL nr hold (f 437)) (e : EM f b nr hold E) : ∃ c' f', f_X12_goYears (Int32.ofNat N) (f, g) = some (c', (f', g)) ∧ f' 437 = yrs E hold nr lim N (f 437) ∧ MK f f' := by
  have h := m_years (g := g) (E := E) H hl hN N (3999 - N) 0 0 f (by omega) M Li W L e
  rw [show 3999 - N + N + 1 = 4000 by omega] at h
  exact h
end YA
theorem la_cases (x : Int32) : (∃ n, n ≤ 30 ∧ x = Int32.ofNat n) ∨ (x < 0 ∨ (30 : Int32) < x) := by
  by_cases h1 : x < 0
  · exact Or.inr (Or.inl h1)
  · by_cases h2 : (30 : Int32) < x
    · exact Or.inr (Or.inr h2)
    · left
      rw [Int32.lt_iff_toInt_lt] at h1 h2
      have e : (30 : Int32).toInt = 30 := rfl
      rw [ti_0] at h1
      refine ⟨x.toInt.toNat, by omega, ?_⟩
      apply Int32.toInt_inj.mp
      rw [on_toInt (by omega)]
      omega
theorem la_yes {n : Nat} (hn : n ≤ 30) : ¬ Int32.ofNat n < 0 ∧ ¬ (30 : Int32) < Int32.ofNat n := by
  rw [Int32.lt_iff_toInt_lt, Int32.lt_iff_toInt_lt, on_toInt (by omega)]
  have e : (30 : Int32).toInt = 30 := rfl
  rw [ti_0]
  omega
theorem X11_lie {n : Nat} (hn : n ≤ 30) {h : am_H} : f_X11_canLieAhead (Int32.ofNat n) h = some 1 := by
  obtain ⟨h1, h2⟩ := la_yes hn
  unfold f_X11_canLieAhead
  rw [if_neg h1, if_neg h2]
theorem X11_nolie {x : Int32} (hx : x < 0 ∨ (30 : Int32) < x) {h : am_H} : f_X11_canLieAhead x h = some 0 := by
  unfold f_X11_canLieAhead
  by_cases h1 : x < 0
  · rw [if_pos h1]
  · rw [if_neg h1, if_pos (hx.elim (fun z => absurd z h1) id)]
/-- what a look ahead leaves of the model -/
def MA (f f' : Nat → Nat → Int32) : Prop := (∀ a, a ≠ 413 → a ≠ 436 → a ≠ 438 → f' a = f a) ∧ ∀ k, k ≠ 38 → k ≠ 39 → f' 413 k = f 413 k
theorem MA.refl {f : Nat → Nat → Int32} : MA f f := ⟨fun _ _ _ _ => rfl, fun _ _ _ => rfl⟩
theorem MA.trans {f f' f'' : Nat → Nat → Int32} (h : MA f f') (h' : MA f' f'') : MA f f'' := ⟨fun a h1 h2 h3 => (h'.1 a h1 h2 h3).trans (h.1 a h1 h2 h3), fun k h1 h2 => (h'.2 k h1 h2).trans (h.2 k h1 h2)⟩
/-- a look ahead: kept, gone on from, brought back -/
theorem MA.of {f f1 f2 : Nat → Nat → Int32} {w w2 : Nat → Int32} (h1 : MK (up f 438 w) f1) (hw : ∀ i, i < 59 → w i = f 437 i) (hw2 : (∀ i, i < 59 → w2 i = f1 438 i) ∧ ∀ i, 59 ≤ i → w2 i = f1 437 i) (hh : ∀ i, 59 ≤ i → f1 437 i = f 437 i) (e : f2 = up f1 437 w2) : MA f f2 := by
  subst e
  refine ⟨fun a a1 a2 a4 => ?_, fun k k1 k2 => ?_⟩
  · by_cases a3 : a = 437
    · subst a3
      rw [up_same]
      funext k
      by_cases hk : k < 59
      · rw [hw2.1 k hk, h1.1 438 (by decide) (by decide) (by decide), up_same, hw k hk]
      · rw [hw2.2 k (by omega), hh k (by omega)]
    · rw [up_ne a3, h1.1 a a1 a2 a3, up_ne a4]
  · rw [up_ne (by decide), h1.2 k k1 k2, up_ne (by decide)]
theorem MP_438 {f : Nat → Nat → Int32} {g : (Nat → Nat → Int64) × (Nat → Nat → Option Nat)} {b nr : Nat} {hold w : Nat → Int32} (M : MP (f, g) b nr hold) : MP (up f 438 w, g) b nr hold := by
  unfold MP at M ⊢
  simp only at M ⊢
  rw [up_ne (by decide), up_ne (by decide), up_ne (by decide)]
  exact M
theorem EM_438 {f : Nat → Nat → Int32} {b nr : Nat} {hold w : Nat → Int32} {E : EV} (e : EM f b nr hold E) : EM (up f 438 w) b nr hold E := fun f'' g i j a1 a2 a3 a4 a5 => e f'' g i j (a1.trans (up_ne (by decide))) (a2.trans (up_ne (by decide))) (a3.trans (up_ne (by decide))) (a4.trans (up_ne (by decide))) (a5.trans (up_ne (by decide)))
theorem LM_438 {f : Nat → Nat → Int32} {b : Nat} {w : Nat → Int32} {lim : Int32} (L : LM f b lim) : LM (up f 438 w) b lim := by
  unfold LM at L ⊢
  rw [up_ne (by decide), up_ne (by decide)]
  exact L
