/-! A whole year, on both sides -/
def zT (q : Nat → Int32) : Nat := (zFree q).toNatClampNeg
def zRs (E : EV) (hold : Nat → Int32) (r : Nat) (p : (Nat → Int32) × Int32) : (Nat → Int32) × Int32 := if zRp E hold p.1 r = true then (zBf p.1 (cI p.1 r) (cJ p.1 r) (zT p.1) r, p.2 ||| sB (zT p.1)) else p
def zPass (E : EV) (hold : Nat → Int32) (nr : Nat) (lim : Int32) (q : Nat → Int32) : (Nat → Int32) × Int32 × Int32 :=
  let a := zListen lim q
  let c := fo (zRs E hold) nr 0 (zGrow hold a.1, 0)
  (st c.1 57 (c.1 57 + 1), c.2, a.2)
/-- what a ripe room is -/
theorem rp_at {E : EV} {hold q : Nat → Int32} {r : Nat} (h : zRp E hold q r = true) : ∃ i j t, i < 8 ∧ j < 8 ∧ t < 8 ∧ 0 < q i ∧ 0 < q j ∧ q t = 0 ∧ q (8 + i) = Int32.ofNat r ∧ zCp q (Int32.ofNat r) = Int32.ofNat (8 * i + j) ∧ zFree q = Int32.ofNat t ∧ cI q r = i ∧ cJ q r = j ∧ zT q = t ∧ ¬ zLeft hold q r < zYb (q i) (q j) := by
  unfold zRp at h
  simp only [Bool.and_eq_true, Bool.not_eq_true', decide_eq_false_iff_not, decide_eq_true_eq] at h
  obtain ⟨⟨⟨h1, h2⟩, h3⟩, h4⟩ := h
  obtain ⟨i, j, hi, hj, hij, gi, gj, ri, rj, he, ci, cj⟩ := cp_at h1
  rcases zFree_ex q with ⟨z, -⟩ | ⟨t, ht, ft, q0⟩
  · exact absurd z h2
  · rw [ci, cj] at h3
    refine ⟨i, j, t, hi, hj, ht, gi, gj, q0, ri, he, ft, ci, cj, ?_, h3⟩
    unfold zT
    rw [ft, i8_nat t ht]
theorem W_rs {E : EV} {nr r : Nat} {hold : Nat → Int32} {p : (Nat → Int32) × Int32} (h4 : nr ≤ 4) (H : HO nr hold) (hr : r < nr) (W : WQ nr p.1) (L : WL nr hold p.1) : WQ nr (zRs E hold r p).1 ∧ WL nr hold (zRs E hold r p).1 := by
  unfold zRs
  by_cases h : zRp E hold p.1 r = true
  · rw [if_pos h]
    obtain ⟨i, j, t, hi, hj, ht, gi, gj, q0, ri, he, ft, ci, cj, et, h3⟩ := rp_at h
    rw [ci, cj, et]
    exact ⟨WQ_bf W hi hj ht hr, WL_bf h4 H W L hi hj ht hr q0 h3⟩
  · rw [if_neg h]
    exact ⟨W, L⟩
theorem W_rooms {E : EV} {nr : Nat} {hold : Nat → Int32} (h4 : nr ≤ 4) (H : HO nr hold) : ∀ m r (p : (Nat → Int32) × Int32), r + m = nr → WQ nr p.1 → WL nr hold p.1 → WQ nr (fo (zRs E hold) m r p).1 ∧ WL nr hold (fo (zRs E hold) m r p).1 := by
  intro m
  induction m with
  | zero => intro r p hr W L; exact ⟨W, L⟩
  | succ m ih =>
    intro r p hr W L
    obtain ⟨W2, L2⟩ := W_rs (E := E) h4 H (show r < nr by omega) W L
    exact ih (r + 1) _ (by omega) W2 L2
theorem W_pass {E : EV} {nr : Nat} {hold q : Nat → Int32} {lim : Int32} (h4 : nr ≤ 4) (H : HO nr hold) (hl : lim.toInt ≤ 9) (W : WQ nr q) (L : WL nr hold q) : WQ nr (zPass E hold nr lim q).1 ∧ WL nr hold (zPass E hold nr lim q).1 := by
  obtain ⟨W1, L1⟩ := W_listen (hold := hold) hl W L
  obtain ⟨W2, L2⟩ := W_grow h4 H W1 L1
  generalize hz : zGrow hold (zListen lim q).1 = z at W2 L2
  obtain ⟨W3, L3⟩ := W_rooms (E := E) h4 H nr 0 (z, 0) (by omega) W2 L2
  unfold zPass
  simp only
  rw [hz]
  exact ⟨WQ_n W3 (by decide), fun r hr => by
    have := L3 r hr
    rw [sum_st r (by omega)]
    exact this⟩
/-- the class brings forth -/
theorem X10_bringForth {s nr i j t r : Nat} {q : Nat → Int32} {f : Nat → Nat → Int32} {g : (Nat → Nat → Int64) × (Nat → Nat → Option Nat)} (hs : s = 27 ∨ s = 36) (R : RC s q f) (W : WQ nr q) (hi : i < 8) (hj : j < 8) (ht : t < 8) (gi : 0 < q i) (gj : 0 < q j) (q0 : q t = 0) (ri : q (8 + i) = Int32.ofNat r) : ∃ f', f_X10_bringForth s (Int32.ofNat (8 * i + j)) (Int32.ofNat t) (f, g) = some (f', g) ∧ RC s (zBf q i j t r) f' ∧ f' 35 2 = f 35 2 ||| sB t ∧ f' 35 3 = f 35 3 ∧ CK s f f' := by
  have R' : RC s q (f, g).1 := R
  have R5 : RC s (st q 58 (zSd (q 58))) (am_u2 f s 10 (zSd (q 58))) := RC_n (j := 2) R (by decide)
  have h10 : f s 10 = q 58 := R.2.2.2
  have hsd : f s 10 * 137 + 71 = 137 * q 58 + 71 := by rw [h10, Int32.mul_comm]
  unfold f_X10_bringForth
  rw [cp_mod hi hj, cp_div hi hj, X7_hasBoth R', cal_some, hs_on hi, hs_on hj]
  have h1 : (decide (0 < q i) && decide (0 < q j)) = true := by simp [gi, gj]
  rw [if_pos h1, if_neg (show ¬ (1 : Int32) = 0 by decide), if_neg (i8_ge t (by omega)), if_pos (i8_lt t ht), bnd_eq, ptI_eq]
  simp only [hsd]
  have R5' : RC s (st q 58 (zSd (q 58))) (am_u2 f s 10 (137 * q 58 + 71 - (137 * q 58 + 71) / 1000 * 1000), g).1 := R5
  rw [bnd_eq, rdS3 R5' hi, bnd_eq, rdS3 R5' hj, X10_youngBulk R5' hi hj (by rw [st_ne (by omega)]; exact gi) (by rw [st_ne (by omega)]; exact gj), cal_some, rdS2 R5' hi]
  have e10 : am_u2 f s 10 (137 * q 58 + 71 - (137 * q 58 + 71) / 1000 * 1000) s 10 = zSd (q 58) := au_same
  simp only [e10]
  simp (disch := omega) only [st_ne]
  rw [if_neg (pos_ne gi), ri]
  unfold f_X7_add
  rw [if_neg (i8_ge t (by omega)), if_pos (i8_lt t ht), wrI_i8 ht, wrI_i8 ht, wrI_i8 ht, cal_some, wrI_i8 ht, wrI_i8 ht, bnd_eq, ptI_eq]
  have hy : ¬ zYb (q i) (q j) = 0 := by
    have := yb_b W hi hj
    rw [ti_zero]
    omega
  have hT := (W t ht).1
  have z24 : q (24 + t) = 0 ∧ q (32 + t) = 0 := hT.elim (fun z => z.2.2) (fun z => absurd q0 (pos_ne z.1))
  have RA := RC_w7 (v := Int32.ofNat j) (RC_w6 (v := Int32.ofNat i) (RC_w3 (v := zMk q (zSd (q 58)) i j) (RC_w12 (v := zYb (q i) (q j)) (w := Int32.ofNat r) R5 ht hy) ht) ht) ht
  have eB : zBf q i j t r = st (st (st (st (st (st q 58 (zSd (q 58))) t (zYb (q i) (q j))) (8 + t) (Int32.ofNat r)) (16 + t) (zMk q (zSd (q 58)) i j)) (40 + t) (Int32.ofNat i)) (48 + t) (Int32.ofNat j) := by
    unfold zBf
    rw [st_id (k := 24 + t) (v := 0) (by simp (disch := omega) only [st_ne]; exact z24.1), st_id (k := 32 + t) (v := 0) (by simp (disch := omega) only [st_ne]; exact z24.2)]
  rw [eB]
  refine ⟨_, rfl, RC_frame (fun a h1 h2 => u2_ne (by omega)) RA, ?_, ?_, ?_⟩
  · rw [au_same]
    simp (disch := omega) only [au_ne]
    rfl
  · rw [au_nk (by omega)]
    simp (disch := omega) only [au_ne]
  · have c1 : ∀ (f0 : Nat → Nat → Int32) (c k : Nat) (v : Int32), c < 8 → CK s f0 (am_u2 f0 (s + c) k v) := fun f0 c k v hc => CK.au (Or.inl ⟨by omega, by omega⟩)
    have c0 : ∀ (f0 : Nat → Nat → Int32) (k : Nat) (v : Int32), CK s f0 (am_u2 f0 s k v) := fun f0 k v => CK.au (Or.inl ⟨by omega, by omega⟩)
    have c35 : ∀ (f0 : Nat → Nat → Int32) (k : Nat) (v : Int32), CK s f0 (am_u2 f0 35 k v) := fun f0 k v => CK.au (Or.inr (Or.inl rfl))
    exact ((((((((c0 _ _ _).trans (c1 _ 1 _ _ (by decide))).trans (c1 _ 2 _ _ (by decide))).trans (c1 _ 3 _ _ (by decide))).trans (c1 _ 6 _ _ (by decide))).trans (c1 _ 7 _ _ (by decide))).trans (c35 _ _ _)))
theorem EC_frame {f f' : Nat → Nat → Int32} {E : EV} (h : f' 10 = f 10) (h1 : f' 11 = f 11) (h2 : f' 12 = f 12) (e : EC f E) : EC f' E := fun f'' g a1 a2 a3 => e f'' g (a1.trans h) (a2.trans h1) (a3.trans h2)
theorem c_rooms {s nr : Nat} {hold : Nat → Int32} {E : EV} (hs : s = 27 ∨ s = 36) {g : (Nat → Nat → Int64) × (Nat → Nat → Option Nat)} {k : am_H → Option am_H} (H : HO nr hold) : ∀ m n r (p : (Nat → Int32) × Int32) (f : Nat → Nat → Int32), r + m = nr → RC s p.1 f → f 35 2 = p.2 → WQ nr p.1 → WL nr hold p.1 → PC (f, g) nr hold → EC f E → ∃ f', lp_X10_pass_22 s k (n + m + 1) (Int32.ofNat r) (f, g) = k (f', g) ∧ RC s (fo (zRs E hold) m r p).1 f' ∧ f' 35 2 = (fo (zRs E hold) m r p).2 ∧ f' 35 3 = f 35 3 ∧ CK s f f' := by
  intro m
  induction m with
  | zero =>
    intro n r p f hr R h2 W L P e
    have hp := P.2.1
    rw [lp_X10_pass_22, bnd_eq, P.1, if_neg (by rw [on_lt (by omega) (by omega)]; omega)]
    exact ⟨f, rfl, R, h2, rfl, CK.refl⟩
  | succ m ih =>
    intro n r p f hr R h2 W L P e
    have hp := P.2.1
    have hr' : r < nr := by omega
    have e0 : fo (zRs E hold) (m + 1) r p = fo (zRs E hold) m (r + 1) (zRs E hold r p) := rfl
    obtain ⟨W', L'⟩ := W_rs (E := E) hp H hr' W L
    obtain ⟨f1, k1, k2⟩ := X10_isRipe R W P e hr'
    have C1 : CK s f f1 := fun a _ _ h3 => k2 a h3
    have R1 : RC s p.1 f1 := RC_frame (fun a h1 h2 => k2 a (by omega)) R
    have P1 : PC (f1, g) nr hold := PC_frame (k2 4 (by decide)) (k2 5 (by decide)) P
    have e1 : EC f1 E := EC_frame (k2 10 (by decide)) (k2 11 (by decide)) (k2 12 (by decide)) e
    have i2 : f1 35 2 = p.2 := by rw [k2 35 (by decide)]; exact h2
    have i3 : f1 35 3 = f 35 3 := by rw [k2 35 (by decide)]
    rw [e0, lp_X10_pass_22, bnd_eq, P.1, if_pos ((on_lt (by omega) (by omega)).mpr hr'), k1, cal2_some]
    by_cases h : zRp E hold p.1 r = true
    · rw [if_pos h, if_neg (show ¬ (1 : Int32) = 0 by decide)]
      obtain ⟨i, j, t, hi, hj, ht, gi, gj, q0, ri, he, ft, ci, cj, et, h3⟩ := rp_at h
      have R1' : RC s p.1 (f1, g).1 := R1
      rw [X7_coupleIn R1' W.wb (r4_ne (by omega)), cal_some, X7_firstFree R1', cal_some, he, ft]
      obtain ⟨f2, b1, b2, b3, b4, b5⟩ := X10_bringForth (g := g) hs R1 W hi hj ht gi gj q0 ri
      rw [b1, cal_some, on_succ]
      have ez : zRs E hold r p = (zBf p.1 i j t r, p.2 ||| sB t) := by
        unfold zRs
        rw [if_pos h, ci, cj, et]
      rw [ez] at W' L' ⊢
      obtain ⟨f', a1, a2, a3, a4, a5⟩ := ih n (r + 1) (zBf p.1 i j t r, p.2 ||| sB t) f2 (by omega) b2 (by rw [b3, i2]) W' L' (PC_frame (b5 4 (by omega) (by decide) (by decide)) (b5 5 (by omega) (by decide) (by decide)) P1) (EC_frame (b5 10 (by omega) (by decide) (by decide)) (b5 11 (by omega) (by decide) (by decide)) (b5 12 (by omega) (by decide) (by decide)) e1)
      exact ⟨f', a1, a2, a3, by rw [a4, b4, i3], (C1.trans b5).trans a5⟩
    · rw [if_neg h, if_pos (show (0 : Int32) = 0 from rfl), on_succ]
      have ez : zRs E hold r p = p := by
        unfold zRs
        rw [if_neg h]
      rw [ez]
      obtain ⟨f', a1, a2, a3, a4, a5⟩ := ih n (r + 1) p f1 (by omega) R1 i2 W L P1 e1
      exact ⟨f', a1, a2, a3, by rw [a4, i3], C1.trans a5⟩
theorem X10_pass {s nr : Nat} {hold q : Nat → Int32} {lim : Int32} {E : EV} (hs : s = 27 ∨ s = 36) {f : Nat → Nat → Int32} {g : (Nat → Nat → Int64) × (Nat → Nat → Option Nat)} (H : HO nr hold) (hl : lim.toInt ≤ 9) (R : RC s q f) (W : WQ nr q) (L : WL nr hold q) (P : PC (f, g) nr hold) (e : EC f E) : ∃ f', f_X10_pass s lim (f, g) = some (f', g) ∧ RC s (zPass E hold nr lim q).1 f' ∧ f' 35 2 = (zPass E hold nr lim q).2.1 ∧ f' 35 3 = (zPass E hold nr lim q).2.2 ∧ CK s f f' := by
  have hp := P.2.1
  unfold f_X10_pass
  rw [ptI_eq, ptI_eq]
  simp only
  have R1 : RC s q (am_u2 (am_u2 f 35 2 0) 35 3 0) := RC_frame (fun a h1 h2 => by rw [u2_ne (by omega), u2_ne (by omega)]) R
  have C1 : CK s f (am_u2 (am_u2 f 35 2 0) 35 3 0) := (CK.au (Or.inr (Or.inl rfl))).trans (CK.au (Or.inr (Or.inl rfl)))
  obtain ⟨f2, a1, a2, a3, a4, a5⟩ := X10_listen (g := g) (show s < 28 ∨ 36 ≤ s by omega) lim R1 au_same
  have C2 := C1.trans a5
  obtain ⟨W1, L1⟩ := W_listen (hold := hold) hl W L
  have P2 : PC (f2, g) nr hold := PC_frame (C2 4 (by omega) (by decide) (by decide)) (C2 5 (by omega) (by decide) (by decide)) P
  obtain ⟨f3, b1, b2, b3, b4⟩ := c_grow (hold := hold) hs (g := g) 8 3991 0 (zListen lim q).1 f2 rfl a2 W1 P2
  have b1' : f_X10_grow s (f2, g) = some (f3, g) := b1
  obtain ⟨W2, L2⟩ := W_grow hp H W1 L1
  have C3 := C2.trans b3
  have P3 : PC (f3, g) nr hold := PC_frame (C3 4 (by omega) (by decide) (by decide)) (C3 5 (by omega) (by decide) (by decide)) P
  have e3 : EC f3 E := EC_frame (C3 10 (by omega) (by decide) (by decide)) (C3 11 (by omega) (by decide) (by decide)) (C3 12 (by omega) (by decide) (by decide)) e
  have i2 : f3 35 2 = 0 := by rw [b4, a4, au_nk (by decide), au_same]
  have i3 : f3 35 3 = (zListen lim q).2 := by rw [b4, a3]
  have hR : (zPass E hold nr lim q) = (st (fo (zRs E hold) nr 0 (zGrow hold (zListen lim q).1, 0)).1 57 ((fo (zRs E hold) nr 0 (zGrow hold (zListen lim q).1, 0)).1 57 + 1), (fo (zRs E hold) nr 0 (zGrow hold (zListen lim q).1, 0)).2, (zListen lim q).2) := rfl
  rw [hR]
  have b2' : RC s (zGrow hold (zListen lim q).1) f3 := b2
  clear b1 b2 hR
  generalize hz : zGrow hold (zListen lim q).1 = z at W2 L2 b2' ⊢
  obtain ⟨f4, d1, d2, d3, d4, d5⟩ := c_rooms (E := E) hs (g := g) (k := fun h32 => bnd (h32.1 s 9) fun v34 => ptI h32 s 9 (v34 + 1) fun h35 => some h35) H nr (3999 - nr) 0 (z, 0) f3 (by omega) b2' i2 W2 L2 P3 e3
  rw [show 3999 - nr + nr + 1 = 4000 by omega] at d1
  rw [a1, cal_some, b1', cal_some]
  generalize fo (zRs E hold) nr 0 (z, 0) = C at d2 d3 ⊢
  simp only
  refine ⟨am_u2 f4 s 9 (f4 s 9 + 1), ?_, ?_, ?_, ?_, ?_⟩
  · exact d1
  · have := RC_n (j := 1) (v := C.1 57 + 1) d2 (by decide)
    have e9 : f4 s 9 = C.1 57 := d2.2.2.1
    rw [e9]
    simp only [Nat.reduceAdd] at this
    exact this
  · rw [au_ne (by omega)]; exact d3
  · rw [au_ne (by omega), d4]; exact i3
  · exact (C3.trans d5).trans (CK.au (Or.inl ⟨by omega, by omega⟩))
