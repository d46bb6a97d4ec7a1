/-! Gone and best -/
def lsP (q : Nat → Int32) (n : Nat) (p : (Nat → Int32) × Int32) : Prop := ∃ c : Nat → Bool, p.2 = zS c ∧ (∀ k, k < 8 → (c k = true ↔ (k < n ∧ ¬ q k = 0 ∧ p.1 k = 0))) ∧ (∀ k, k < 8 → n ≤ k → p.1 k = q k) ∧ ∀ k, k < 8 → q k = 0 → p.1 k = 0
theorem lsP_stay {q q' : Nat → Int32} {t : Nat} {p : (Nat → Int32) × Int32} (ht : t < 8) (h : lsP q t p) (hq : ∀ k, k < 8 → q' k = p.1 k) (hn : ¬ (¬ q t = 0 ∧ q' t = 0)) : lsP q (t + 1) (q', p.2) := by
  obtain ⟨c, h1, h2, h3, h4⟩ := h
  have ct : c t = false := by
    cases hc : c t
    · rfl
    · have := (h2 t ht).mp hc
      omega
  refine ⟨c, h1, fun k hk => ?_, fun k hk hk2 => (hq k hk).trans (h3 k hk (by omega)), fun k hk h0 => (hq k hk).trans (h4 k hk h0)⟩
  show c k = true ↔ (k < t + 1 ∧ ¬ q k = 0 ∧ q' k = 0)
  by_cases e : k = t
  · subst e
    rw [ct]
    constructor
    · intro z; cases z
    · rintro ⟨-, z⟩; exact absurd z hn
  · rw [h2 k hk, hq k hk]
    constructor
    · rintro ⟨a1, a2⟩; exact ⟨by omega, a2⟩
    · rintro ⟨a1, a2⟩; exact ⟨by omega, a2⟩
theorem lsP_lose {q q' : Nat → Int32} {t : Nat} {p : (Nat → Int32) × Int32} (ht : t < 8) (h : lsP q t p) (hl : ∀ k, k < 8 → q' k = if k = t then 0 else p.1 k) (hn : ¬ q t = 0) : lsP q (t + 1) (q', p.2 ||| sB t) := by
  obtain ⟨c, h1, h2, h3, h4⟩ := h
  refine ⟨fun k => c k || decide (k = t), by show p.2 ||| sB t = _; rw [h1]; exact zS_or c ht, fun k hk => ?_, fun k hk hk2 => ?_, fun k hk h0 => ?_⟩
  · show (c k || decide (k = t)) = true ↔ (k < t + 1 ∧ ¬ q k = 0 ∧ q' k = 0)
    rw [hl k hk]
    by_cases e : k = t
    · subst e
      simp only [decide_true, Bool.or_true, true_iff, if_true]
      exact ⟨by omega, hn, trivial⟩
    · simp only [e, decide_false, Bool.or_false, if_false]
      rw [h2 k hk]
      constructor
      · rintro ⟨a1, a2⟩; exact ⟨by omega, a2⟩
      · rintro ⟨a1, a2⟩; exact ⟨by omega, a2⟩
  · show q' k = q k
    rw [hl k hk, if_neg (show ¬ k = t by omega)]
    exact h3 k hk (by omega)
  · show q' k = 0
    rw [hl k hk]
    split
    · rfl
    · exact h4 k hk h0
theorem lsP_step {lim : Int32} {q : Nat → Int32} {t : Nat} {p : (Nat → Int32) × Int32} (ht : t < 8) (h : lsP q t p) : lsP q (t + 1) (zLs lim t p) := by
  have pt : p.1 t = q t := h.choose_spec.2.2.1 t ht (Nat.le_refl _)
  unfold zLs
  by_cases c1 : p.1 t = 0
  · rw [if_pos c1]
    exact lsP_stay (q' := p.1) ht h (fun _ _ => rfl) (fun z => z.1 (by rw [← pt]; exact c1))
  · rw [if_neg c1]
    by_cases c2 : 0 < p.1 (24 + t)
    · rw [if_pos c2]
      have hq : ∀ k, k < 8 → st (st p.1 (24 + t) (p.1 (24 + t) - 1)) (32 + t) 0 k = p.1 k := fun k hk => by rw [st_ne (by omega), st_ne (by omega)]
      exact lsP_stay ht h hq (fun z => c1 (by rw [← hq t ht]; exact z.2))
    · rw [if_neg c2]
      have hq : ∀ k, k < 8 → st p.1 (32 + t) (p.1 (32 + t) + 1) k = p.1 k := fun k hk => by rw [st_ne (by omega)]
      by_cases c3 : p.1 (32 + t) + 1 < lim
      · rw [if_pos c3]
        exact lsP_stay ht h hq (fun z => c1 (by rw [← hq t ht]; exact z.2))
      · rw [if_neg c3]
        exact lsP_lose ht h (fun k hk => by
          by_cases e : k = t
          · subst e; rw [zLose_z (Or.inl rfl), if_pos rfl]
          · rw [zLose_o (by omega) (by omega) (by omega), if_neg e, hq k hk]) (by rw [← pt]; exact c1)
theorem ls_fell {lim : Int32} {q : Nat → Int32} : ∃ c : Nat → Bool, (zListen lim q).2 = zS c ∧ (∀ k, k < 8 → (c k = true ↔ (¬ q k = 0 ∧ (zListen lim q).1 k = 0))) ∧ ∀ k, k < 8 → q k = 0 → (zListen lim q).1 k = 0 := by
  have h : lsP q 8 (zListen lim q) := fo_ind (f := zLs lim) (P := lsP q) (fun t p ht hp => lsP_step ht hp) (a := (q, 0)) ⟨fun _ => false, zS_empty.symm, fun k hk => ⟨fun z => (by cases z), fun z => (by omega)⟩, fun _ _ _ => rfl, fun _ _ h => h⟩
  obtain ⟨c, h1, h2, -, h4⟩ := h
  refine ⟨c, h1, fun k hk => ?_, h4⟩
  have := h2 k hk
  constructor
  · intro z; exact (this.mp z).2
  · intro z; exact this.mpr ⟨by omega, z⟩
theorem gr_zero {hold q : Nat → Int32} : ∀ k, k < 8 → (zGrow hold q k = 0 ↔ q k = 0) := by
  refine fo_ind (f := zGs hold) (P := fun _ p => ∀ k, k < 8 → (p k = 0 ↔ q k = 0)) (fun t p ht hp k hk => ?_) (a := q) (fun k _ => Iff.rfl)
  unfold zGs
  split
  · rename_i h
    by_cases e : k = t
    · subst e
      rw [st_same]
      have h1 := ti_pos.mp h.1
      have h2 := h.2.1
      rw [Int32.lt_iff_toInt_lt] at h2
      have h3 : (20 : Int32).toInt = 20 := rfl
      have h6 := ti_add (x := p k) (y := 1) (by rw [ti_1]; omega) (by rw [ti_1]; omega)
      rw [ti_1] at h6
      constructor
      · intro z
        rw [ti_zero] at z
        omega
      · intro z
        exact absurd ((hp k hk).mpr z) (pos_ne h.1)
    · rw [st_ne e]
      exact hp k hk
  · exact hp k hk
theorem ro_came {E : EV} {hold : Nat → Int32} {b0 : Nat → Int32} {nr : Nat} (h4 : nr ≤ 4) (H : HO nr hold) : ∀ m r (p : (Nat → Int32) × Int32), r + m = nr → WQ nr p.1 → WL nr hold p.1 → (∃ c : Nat → Bool, p.2 = zS c ∧ ∀ k, k < 8 → (c k = true ↔ (b0 k = 0 ∧ ¬ p.1 k = 0)) ∧ (¬ b0 k = 0 → ¬ p.1 k = 0)) → ∃ c : Nat → Bool, (fo (zRs E hold) m r p).2 = zS c ∧ ∀ k, k < 8 → (c k = true ↔ (b0 k = 0 ∧ ¬ (fo (zRs E hold) m r p).1 k = 0)) ∧ (¬ b0 k = 0 → ¬ (fo (zRs E hold) m r p).1 k = 0) := by
  intro m
  induction m with
  | zero => intro r p hr _ _ h; exact h
  | succ m ih =>
    intro r p hr W L h
    obtain ⟨W2, L2⟩ := W_rs (E := E) h4 H (show r < nr by omega) W L
    refine ih (r + 1) _ (by omega) W2 L2 ?_
    by_cases c0 : zRp E hold p.1 r = true
    · obtain ⟨i, j, t, hi, hj, ht, gi, gj, q0, ri, he, ft, ci, cj, et, h3⟩ := rp_at c0
      have ez : zRs E hold r p = (zBf p.1 i j t r, p.2 ||| sB t) := by
        unfold zRs
        rw [if_pos c0, ci, cj, et]
      rw [ez]
      obtain ⟨c, h1, h2⟩ := h
      have hy : ¬ zYb (p.1 i) (p.1 j) = 0 := by
        have := yb_b W hi hj
        rw [ti_zero]
        omega
      have hb : ∀ k, k < 8 → zBf p.1 i j t r k = if k = t then zYb (p.1 i) (p.1 j) else p.1 k := fun k hk => by
        unfold zBf
        by_cases e : k = t
        · subst e
          simp (disch := omega) only [st_same, st_ne, if_true]
        · simp (disch := omega) only [st_ne, if_neg e]
      refine ⟨fun k => c k || decide (k = t), by rw [h1]; exact zS_or c ht, fun k hk => ?_⟩
      simp only [hb k hk]
      by_cases e : k = t
      · subst e
        have h5 := h2 k hk
        simp only [decide_true, Bool.or_true, true_iff, if_true]
        refine ⟨⟨Classical.byContradiction (fun z => h5.2 z q0), hy⟩, fun _ => hy⟩
      · simp only [e, decide_false, Bool.or_false, if_false]
        exact h2 k hk
    · have ez : zRs E hold r p = p := by
        unfold zRs
        rw [if_neg c0]
      rw [ez]
      exact h
/-- who falls is not there any more, or another came there -/
theorem year_gone {E : EV} {nr : Nat} {hold q : Nat → Int32} {lim : Int32} (h4 : nr ≤ 4) (H : HO nr hold) (hl : lim.toInt ≤ 9) (W : WQ nr q) (L : WL nr hold q) {t : Nat} (ht : t < 8) (t0 : 0 < q t) : tb (zPass E hold nr lim q).2.2 t = true ↔ ((zPass E hold nr lim q).1 t = 0 ∨ tb (zPass E hold nr lim q).2.1 t = true) := by
  obtain ⟨W1, L1⟩ := W_listen (hold := hold) hl W L
  obtain ⟨W2, L2⟩ := W_grow h4 H W1 L1
  obtain ⟨c, h1, h2, h3⟩ := ls_fell (lim := lim) (q := q)
  have g := gr_zero (hold := hold) (q := (zListen lim q).1) t ht
  unfold zPass
  simp only
  rw [h1, tb_zS c ht, h2 t ht]
  generalize zGrow hold (zListen lim q).1 = z at W2 L2 g ⊢
  obtain ⟨d, d1, d2⟩ := ro_came (E := E) (b0 := z) h4 H nr 0 (z, 0) (by omega) W2 L2 ⟨fun _ => false, zS_empty.symm, fun k hk => ⟨⟨fun z => (by cases z), fun z => absurd z.1 z.2⟩, fun z => z⟩⟩
  generalize fo (zRs E hold) nr 0 (z, 0) = C at d1 d2 ⊢
  rw [d1, tb_zS d ht, (d2 t ht).1, st_ne (show t ≠ 57 by omega), ← g]
  constructor
  · rintro ⟨-, z0⟩
    by_cases c0 : C.1 t = 0
    · exact Or.inl c0
    · exact Or.inr ⟨z0, c0⟩
  · rintro (c0 | ⟨z0, -⟩)
    · exact ⟨pos_ne t0, Classical.byContradiction (fun w => (d2 t ht).2 w c0)⟩
    · exact ⟨pos_ne t0, z0⟩
def gnY (E : EV) (hold : Nat → Int32) (nr : Nat) (lim : Int32) (t : Nat) : Nat → Nat → (Nat → Int32) → Int32
  | 0, _, _ => -1
  | m + 1, i, q => if tb (zPass E hold nr lim q).2.2 t = true then Int32.ofNat i else gnY E hold nr lim t m (i + 1) (zPass E hold nr lim q).1
section YC
variable {f : Nat → Nat → Int32} {g : (Nat → Nat → Int64) × (Nat → Nat → Option Nat)} {b nr : Nat} {hold : Nat → Int32} {E : EV} {lim : Int32}
theorem n30 {i : Nat} (h : i ≤ 31) : ((30 : Int32) < Int32.ofNat i) ↔ 30 < i := by
  rw [show (30 : Int32) = Int32.ofNat 30 from rfl, on_lt (by omega) (by omega)]
theorem c_gone (H : HO nr hold) (hl : lim.toInt ≤ 9) {t : Nat} (ht : t < 8) : ∀ m n i q (f : Nat → Nat → Int32), i + m = 31 → f 4 8 = lim → RC 36 q f → WQ nr q → WL nr hold q → PC (f, g) nr hold → EC f E → ∃ f', lp_X10_untilGone_10 (Int32.ofNat t) (n + m + 1) (Int32.ofNat i) (f, g) = some (gnY E hold nr lim t m i q, (f', g)) ∧ CK 36 f f' := by
  intro m
  induction m with
  | zero =>
    intro n i q f hi h8 R W L P e
    rw [lp_X10_untilGone_10, if_pos ((n30 (by omega)).mpr (by omega))]
    exact ⟨f, rfl, CK.refl⟩
  | succ m ih =>
    intro n i q f hi h8 R W L P e
    have h4 := P.2.1
    obtain ⟨f1, a1, a2, a3, a4, a5⟩ := X10_pass (g := g) (Or.inr rfl) H hl R W L P e
    obtain ⟨W', L'⟩ := W_pass (E := E) h4 H hl W L
    rw [lp_X10_untilGone_10, if_neg (fun z => by have := (n30 (by omega)).mp z; omega), bnd_eq]
    simp only [h8]
    rw [a1, cal_some, bnd_eq, on_succ, gnY]
    simp only [a4]
    by_cases c : tb (zPass E hold nr lim q).2.2 t = true
    · rw [if_neg (fun z => by rw [tb_0.mp z] at c; cases c), if_pos c]
      exact ⟨f1, rfl, a5⟩
    · have c' : tb (zPass E hold nr lim q).2.2 t = false := by simpa using c
      rw [if_pos (tb_0.mpr c'), if_neg c]
      obtain ⟨f', b1, b2⟩ := ih n (i + 1) _ f1 (by omega) (by rw [a5 4 (by decide) (by decide) (by decide)]; exact h8) a2 W' L' (PC_ck a5 P) (EC_ck a5 e)
      exact ⟨f', b1, a5.trans b2⟩
theorem m_gone (H : HO nr hold) (hl : lim.toInt ≤ 9) {t : Nat} (ht : t < 8) {k : Int32 → am_H → Option (Int32 × am_H)} : ∀ m n i (f : Nat → Nat → Int32), i + m = 31 → 1 ≤ i → MP (f, g) b nr hold → LM f b lim → WQ nr (f 437) → WL nr hold (f 437) → EM f b nr hold E → 0 < f 437 t → ∃ f', lp_X12_gone_18 (Int32.ofNat t) k (n + m + 1) (-1) (Int32.ofNat i) (f, g) = k (gnY E hold nr lim t m i (f 437)) (f', g) ∧ MK f f' ∧ ∀ k, 59 ≤ k → f' 437 k = f 437 k := by
  intro m
  induction m with
  | zero =>
    intro n i f hi i1 M Li W L e t0
    rw [lp_X12_gone_18, if_pos ((n30 (by omega)).mpr (by omega))]
    exact ⟨f, rfl, MK.refl, fun _ _ => rfl⟩
  | succ m ih =>
    intro n i f hi i1 M Li W L e t0
    have h4 := M.2.2.2.1
    obtain ⟨f1, a1, a2, a3⟩ := X12_goYear (g := g) H hl M Li W L e
    obtain ⟨W', L'⟩ := W_pass (E := E) h4 H hl W L
    have yg := year_gone (E := E) h4 H hl W L ht t0
    rw [lp_X12_gone_18, if_neg (fun z => by have := (n30 (by omega)).mp z; omega), if_pos (show (-1 : Int32) < 0 by decide), a1, cal2_some, X12_isThere, cal_some, hs_on ht, X12_bit, cal_some, on_succ, gnY]
    simp only [a2]
    have fin : ∃ f', lp_X12_gone_18 (Int32.ofNat t) k (n + (m + 1)) (Int32.ofNat i) (Int32.ofNat (i + 1)) (f1, g) = k (Int32.ofNat i) (f', g) ∧ MK f f' ∧ ∀ k, 59 ≤ k → f' 437 k = f 437 k := by
      have hh : ∀ k, 59 ≤ k → f1 437 k = f 437 k := fun k hk => by rw [a2, hi_pass hk]
      rw [show n + (m + 1) = (n + m) + 1 by omega, lp_X12_gone_18]
      by_cases c : (30 : Int32) < Int32.ofNat (i + 1)
      · rw [if_pos c]; exact ⟨f1, rfl, a3, hh⟩
      · rw [if_neg c, if_neg (by rw [Int32.lt_iff_toInt_lt, on_toInt (by omega), ti_0]; omega)]
        exact ⟨f1, rfl, a3, hh⟩
    by_cases c1 : 0 < (zPass E hold nr lim (f 437)).1 t
    · rw [if_pos (show decide (0 < (zPass E hold nr lim (f 437)).1 t) = true by simp [c1]), if_neg (show ¬ (1 : Int32) = 0 by decide)]
      by_cases c2 : tb (zPass E hold nr lim (f 437)).2.1 t = true
      · rw [if_pos c2, if_neg (show ¬ (1 : Int32) = 0 by decide), if_pos (yg.mpr (Or.inr c2))]
        exact fin
      · rw [if_neg c2, if_pos rfl, if_neg (fun z => (yg.mp z).elim (fun w => pos_ne c1 w) c2)]
        obtain ⟨f', b1, b2, b3⟩ := ih n (i + 1) f1 (by omega) (by omega) (MP_mk a3 M) (LM_mk a3 Li) (by rw [a2]; exact W') (by rw [a2]; exact L') (EM_mk a3 e) (by rw [a2]; exact c1)
        rw [a2] at b1
        exact ⟨f', b1, a3.trans b2, fun k hk => by rw [b3 k hk, a2, hi_pass hk]⟩
    · have hz : (zPass E hold nr lim (f 437)).1 t = 0 := (W'.wb t ht).elim id (fun z => absurd z c1)
      rw [if_neg (show ¬ decide (0 < (zPass E hold nr lim (f 437)).1 t) = true by simp [c1]), if_pos (show (0 : Int32) = 0 from rfl), if_pos (yg.mpr (Or.inl hz))]
      exact fin
theorem q_gone (h : HI f g b nr hold E lim) (x : Int32) : AH f g (f_X11_gone x) (f_X12_gone x) := by
  have Li := h.lm
  obtain ⟨R, W, L, H, P, M, e, em, h8, l1, l9, h19, h42⟩ := h
  have one : ¬ (1 : Int32) = 0 := by decide
  have h4 := P.2.1
  by_cases h1 : hs (f 437) x = true
  · obtain ⟨t, ht, rfl, t0⟩ := hs_ex h1
    obtain ⟨f0, a1, a2, a3⟩ := X7_copyFrom (g := g) (d := 36) (s := 27) (Or.inr (by decide)) R
    have K0 : CK 36 f f0 := fun a h1 _ _ => a3 a h1
    obtain ⟨f1, c1, c2⟩ := c_gone (g := g) (E := E) H l9 ht 30 3969 1 (f 437) f0 rfl (by rw [a3 4 (by decide)]; exact h8) a2 W L (PC_ck K0 P) (EC_ck K0 e)
    have c1' : lp_X10_untilGone_10 (Int32.ofNat t) 4000 1 (f0, g) = _ := c1
    have K1 := K0.trans c2
    have q1 : f1 437 = f 437 := ck_m K1 (by decide)
    obtain ⟨w, k1, k2⟩ := X12_keepNow (f := f1) (g := g)
    have qw : up f1 438 w 437 = f 437 := by rw [up_ne (by decide), q1]
    obtain ⟨f2, m1, m2, m3⟩ := m_gone (g := g) (b := b) (E := E) (k := fun z20 h21 => cal (f_X12_bringBack h21) fun h24 => some (z20, h24)) H l9 ht 30 3969 1 (up f1 438 w) rfl (Nat.le_refl _) (MP_438 (MP_ck K1 M)) (LM_438 (LM_ck K1 Li)) (by rw [qw]; exact W) (by rw [qw]; exact L) (EM_438 (EM_ck K1 em)) (by rw [qw]; exact t0)
    have m1' : lp_X12_gone_18 (Int32.ofNat t) (fun z20 h21 => cal (f_X12_bringBack h21) fun h24 => some (z20, h24)) 4000 (-1) 1 (up f1 438 w, g) = _ := m1
    obtain ⟨w2, d1, d2⟩ := X12_bringBack (f := f2) (g := g)
    refine ⟨gnY E hold nr lim t 30 1 (f 437), f1, up f2 437 w2, ?_, ?_, K1, MA.of m2 k2 d2 (fun i hi => by rw [m3 i hi, qw, q1]) rfl⟩
    · unfold f_X11_gone f_X10_untilGone
      rw [X7_has (h := (f, g)) R, cal_some, if_pos h1, if_neg one, a1, cal_some, c1', cal2_some]
    · unfold f_X12_gone
      rw [X12_isThere, cal_some]
      simp only [q1]
      rw [if_pos h1, if_neg one, k1, cal_some, m1', d1, cal_some, qw]
  · refine AH.same (v := -1) ?_ ?_
    · unfold f_X11_gone
      rw [X7_has (h := (f, g)) R, cal_some, if_neg h1, if_pos rfl]
    · unfold f_X12_gone
      rw [X12_isThere, cal_some]
      simp only
      rw [if_neg h1, if_pos rfl]
theorem c_five (H : HO nr hold) (hl : lim.toInt ≤ 9) {k : am_H → Option (Int32 × am_H)} : ∀ m n i q (f : Nat → Nat → Int32), i + m = 5 → f 4 8 = lim → RC 36 q f → WQ nr q → WL nr hold q → PC (f, g) nr hold → EC f E → ∃ f', lp_X10_countIfCarried_31 k (n + m + 1) (Int32.ofNat i) (f, g) = k (f', g) ∧ RC 36 (yrs E hold nr lim m q) f' ∧ CK 36 f f' := by
  intro m
  induction m with
  | zero =>
    intro n i q f hi h8 R W L P e
    obtain rfl : i = 5 := by omega
    rw [lp_X10_countIfCarried_31, if_neg (by decide)]
    exact ⟨f, rfl, R, CK.refl⟩
  | succ m ih =>
    intro n i q f hi h8 R W L P e
    have h4 := P.2.1
    have hl5 : Int32.ofNat i < 5 := by
      rw [show (5 : Int32) = Int32.ofNat 5 from rfl, on_lt (by omega) (by omega)]; omega
    obtain ⟨f1, a1, a2, -, -, a5⟩ := X10_pass (g := g) (Or.inr rfl) H hl R W L P e
    obtain ⟨W', L'⟩ := W_pass (E := E) h4 H hl W L
    obtain ⟨f', b1, b2, b3⟩ := ih n (i + 1) _ f1 (by omega) (by rw [a5 4 (by decide) (by decide) (by decide)]; exact h8) a2 W' L' (PC_ck a5 P) (EC_ck a5 e)
    rw [lp_X10_countIfCarried_31, if_pos hl5, bnd_eq]
    simp only [h8]
    rw [a1, cal_some, on_succ]
    exact ⟨f', b1, b2, a5.trans b3⟩
/-- one in another room -/
theorem WL_carry {q : Nat → Int32} (h4 : nr ≤ 4) (H : HO nr hold) (W : WQ nr q) (L : WL nr hold q) {t r : Nat} (ht : t < 8) (t0 : 0 < q t) (hr : r < nr) (h : q (8 + t) = Int32.ofNat r ∨ ¬ zLeft hold q r < q t) : WL nr hold (st q (8 + t) (Int32.ofNat r)) := by
  intro r' hr'
  have l := L r' hr'
  have v0 := vol_le W r' ht
  rw [sum8_one (g := vol q r') (t := t) ht (fun k hk hkt => by unfold vol qIn; rw [st_ne (by omega), st_ne (by omega)])]
  have ev : vol (st q (8 + t) (Int32.ofNat r)) r' t = if r' = r then (q t).toInt else 0 := by
    unfold vol qIn
    rw [st_ne (by omega), st_same]
    by_cases e : r' = r
    · subst e; simp [t0]
    · have : ¬ Int32.ofNat r = Int32.ofNat r' := fun z => e ((on_inj (by omega) (by omega)).mp z).symm
      simp [this, e]
  rw [ev]
  by_cases e : r' = r
  · subst e
    rw [if_pos rfl]
    rcases h with h | h
    · have : vol q r' t = (q t).toInt := by rw [vol_at h4 W ht t0 hr', if_pos h]
      omega
    · rw [Int32.lt_iff_toInt_lt, left_eq H W hr'] at h
      omega
  · rw [if_neg e]; omega
theorem X10_carried (h : HI f g b nr hold E lim) {t r : Nat} (ht : t < 8) (t0 : 0 < f 437 t) (hr : r < nr) (hc : f 437 (8 + t) = Int32.ofNat r ∨ ¬ zLeft hold (f 437) r < f 437 t) : ∃ f1, f_X10_countIfCarried 27 (Int32.ofNat t) (Int32.ofNat r) (f, g) = some (Int32.ofNat (zC (qT (yrs E hold nr lim 5 (st (f 437) (8 + t) (Int32.ofNat r))))), (f1, g)) ∧ CK 36 f f1 := by
  obtain ⟨R, W, L, H, P, M, e, em, h8, l1, l9, h19, h42⟩ := h
  have h4 := P.2.1
  obtain ⟨f0, a1, a2, a3⟩ := X7_copyFrom (g := g) (d := 36) (s := 27) (Or.inr (by decide)) R
  have K0 : CK 36 f f0 := fun a h1 _ _ => a3 a h1
  have R2 := RC_w2 (v := Int32.ofNat r) a2 ht (pos_ne t0)
  have K1 : CK 36 f (am_u2 f0 (36 + 2) t (Int32.ofNat r)) := K0.trans (CK.au (Or.inl ⟨by decide, by decide⟩))
  obtain ⟨f1, c1, c2, c3⟩ := c_five (g := g) (E := E) (k := fun h23 => cal (f_X7_count 36 h23) fun v26 => some (v26, h23)) H l9 5 3994 0 _ _ rfl (by rw [K1 4 (by decide) (by decide) (by decide)]; exact h8) R2 (WQ_w2 W ht t0 hr) (WL_carry h4 H W L ht t0 hr hc) (PC_ck K1 P) (EC_ck K1 e)
  have c1' : lp_X10_countIfCarried_31 (fun h23 => cal (f_X7_count 36 h23) fun v26 => some (v26, h23)) 4000 0 (am_u2 f0 (36 + 2) t (Int32.ofNat r), g) = _ := c1
  refine ⟨f1, ?_, K1.trans c3⟩
  unfold f_X10_countIfCarried
  rw [a1, cal_some, if_neg (i8_ge t (by omega)), if_pos (i8_lt t ht), wrI_i8 ht, c1', X7_count (h := (f1, g)) c2, cal_some]
theorem X12_carried {f : Nat → Nat → Int32} (h4 : nr ≤ 4) (H : HO nr hold) (l9 : lim.toInt ≤ 9) (M : MP (f, g) b nr hold) (Li : LM f b lim) (W : WQ nr (f 437)) (L : WL nr hold (f 437)) (em : EM f b nr hold E) {t r : Nat} (ht : t < 8) (t0 : 0 < f 437 t) (hr : r < nr) (hc : f 437 (8 + t) = Int32.ofNat r ∨ ¬ zLeft hold (f 437) r < f 437 t) {k : Int32 → Int32 → Int32 → am_H → Option (Int32 × am_H)} {x2 x3 x4 : Int32} : ∃ f2, jn_X12_best_63 k (Int32.ofNat t) x2 x3 x4 (Int32.ofNat r) (f, g) = (if x4 < Int32.ofNat (zC (qT (yrs E hold nr lim 5 (st (f 437) (8 + t) (Int32.ofNat r))))) then k (Int32.ofNat r) (Int32.ofNat (zC (qT (yrs E hold nr lim 5 (st (f 437) (8 + t) (Int32.ofNat r)))))) (Int32.ofNat (r + 1)) (f2, g) else k x3 x4 (Int32.ofNat (r + 1)) (f2, g)) ∧ MA f f2 := by
  obtain ⟨w, k1, k2⟩ := X12_keepNow (f := f) (g := g)
  have e0 : am_u2 (up f 438 w) 437 (8 + t) (Int32.ofNat r) = up (up f 438 w) 437 (st (f 437) (8 + t) (Int32.ofNat r)) := by
    rw [u2_up, up_ne (show (437 : Nat) ≠ 438 by decide)]
  have qe : up (up f 438 w) 437 (st (f 437) (8 + t) (Int32.ofNat r)) 437 = st (f 437) (8 + t) (Int32.ofNat r) := up_same
  have K : MK (up f 438 w) (up (up f 438 w) 437 (st (f 437) (8 + t) (Int32.ofNat r))) := MK.up
  obtain ⟨c', f1, b1, b2, b3⟩ := X12_goYears (g := g) (E := E) (N := 5) H l9 (by decide) (MP_mk K (MP_438 M)) (LM_mk K (LM_438 Li)) (by rw [qe]; exact WQ_w2 W ht t0 hr) (by rw [qe]; exact WL_carry h4 H W L ht t0 hr hc) (EM_mk K (EM_438 em))
  rw [qe] at b2
  obtain ⟨w2, d1, d2⟩ := X12_bringBack (f := f1) (g := g)
  refine ⟨up f1 437 w2, ?_, MA.of (K.trans b3) k2 d2 (fun i hi => by rw [b2, hi_yrs hi, st_ne (by omega)]) rfl⟩
  unfold jn_X12_best_63
  have b1' : f_X12_goYears 5 (up (up f 438 w) 437 (st (f 437) (8 + t) (Int32.ofNat r)), g) = _ := b1
  rw [k1, cal_some, wrA8 ht]
  simp only
  rw [e0, b1', cal2_some, X12_those, cal_some, X12_bitsOf_zS, cal_some, d1, cal_some, on_succ]
  simp only [b2]
end YC
