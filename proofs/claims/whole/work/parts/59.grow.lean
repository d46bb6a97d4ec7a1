/-! Listening keeps what holds; growing, on both sides -/
theorem zLs_q (lim : Int32) (t : Nat) (q : Nat → Int32) (x y : Int32) : (zLs lim t (q, x)).1 = (zLs lim t (q, y)).1 := by
  unfold zLs
  simp only
  split
  · rfl
  · split
    · rfl
    · split <;> rfl
theorem WQ_ls {nr t : Nat} {lim : Int32} {p : (Nat → Int32) × Int32} (hl : lim.toInt ≤ 9) (W : WQ nr p.1) (ht : t < 8) : WQ nr (zLs lim t p).1 := by
  have w := W t ht
  unfold zLs
  split
  · exact W
  · rename_i h0
    have h0' : 0 < p.1 t := (W.wb t ht).elim (fun z => absurd z h0) id
    split
    · rename_i h1
      have h2 := w.2.2.1
      have h3 := ti_pos.mp h1
      have h4 := ti_sub (x := p.1 (24 + t)) (y := 1) (by rw [ti_1]; omega) (by rw [ti_1]; omega)
      rw [ti_1] at h4
      refine WQ_w5 (WQ_w4 W ht h0' (by omega)) ht (by rw [st_ne (by omega)]; exact h0') (by decide)
    · have h2 := w.2.2.2.1
      have h4 := ti_add (x := p.1 (32 + t)) (y := 1) (by rw [ti_1]; omega) (by rw [ti_1]; omega)
      rw [ti_1] at h4
      split
      · rename_i h3
        rw [Int32.lt_iff_toInt_lt] at h3
        exact WQ_w5 W ht h0' (by omega)
      · have : zLose t (st p.1 (32 + t) (p.1 (32 + t) + 1)) = zLose t p.1 := by
          funext j
          unfold zLose
          by_cases h5 : j = t ∨ j = 8 + t ∨ j = 16 + t ∨ j = 24 + t ∨ j = 32 + t
          · rw [if_pos h5, if_pos h5]
          · rw [if_neg h5, if_neg h5, st_ne (by omega)]
        simp only [this]
        exact WQ_lose W ht
theorem vol_lose {q : Nat → Int32} {r t k : Nat} (ht : t < 8) (hk : k < 8) : vol (zLose t q) r k = if k = t then 0 else vol q r k := by
  unfold vol qIn
  by_cases e : k = t
  · subst e
    rw [zLose_z (by omega), if_pos rfl]
    simp
  · rw [zLose_o (by omega) (by omega) (by omega), zLose_o (j := 8 + k) (by omega) (by omega) (by omega), if_neg e]
theorem vol_st {q : Nat → Int32} {r j k : Nat} {v : Int32} (hk : k < 8) (hj : 16 ≤ j) : vol (st q j v) r k = vol q r k := by
  unfold vol qIn
  rw [st_ne (by omega), st_ne (by omega)]
theorem sum_lose {nr : Nat} {q : Nat → Int32} (W : WQ nr q) (r : Nat) {t : Nat} (ht : t < 8) : sum8 (vol (zLose t q) r) ≤ sum8 (vol q r) := sum8_le (fun k hk => by
  rw [vol_lose ht hk]
  have := vol_le W r hk
  split <;> omega)
theorem sum_st {q : Nat → Int32} (r : Nat) {j : Nat} {v : Int32} (hj : 16 ≤ j) : sum8 (vol (st q j v) r) = sum8 (vol q r) := sum8_eq (fun k hk => vol_st hk hj)
theorem WL_ls {nr t : Nat} {lim : Int32} {hold : Nat → Int32} {p : (Nat → Int32) × Int32} (W : WQ nr p.1) (L : WL nr hold p.1) (ht : t < 8) : WL nr hold (zLs lim t p).1 := by
  intro r hr
  have l := L r hr
  unfold zLs
  split
  · exact l
  · split
    · rw [sum_st r (by omega), sum_st r (by omega)]; exact l
    · split
      · rw [sum_st r (by omega)]; exact l
      · have : zLose t (st p.1 (32 + t) (p.1 (32 + t) + 1)) = zLose t p.1 := by
          funext j
          unfold zLose
          by_cases h5 : j = t ∨ j = 8 + t ∨ j = 16 + t ∨ j = 24 + t ∨ j = 32 + t
          · rw [if_pos h5, if_pos h5]
          · rw [if_neg h5, if_neg h5, st_ne (by omega)]
        simp only [this]
        exact Int.le_trans (sum_lose W r ht) l
theorem W_listen {nr : Nat} {lim : Int32} {hold q : Nat → Int32} (hl : lim.toInt ≤ 9) (W : WQ nr q) (L : WL nr hold q) : WQ nr (zListen lim q).1 ∧ WL nr hold (zListen lim q).1 :=
  fo_ind (f := zLs lim) (P := fun _ p => WQ nr p.1 ∧ WL nr hold p.1) (fun t p ht h => ⟨WQ_ls hl h.1 ht, WL_ls h.1 h.2 ht⟩) (a := (q, 0)) ⟨W, L⟩
theorem LM_up {b : Nat} {lim : Int32} {f : Nat → Nat → Int32} {q : Nat → Int32} (L : LM f b lim) : LM (up f 437 q) b lim := by
  obtain ⟨l1, l2, l3⟩ := L
  unfold LM
  rw [up_ne (by decide), up_ne (by decide)]
  exact ⟨l1, l2, l3⟩
theorem m_goListen {b nr : Nat} {lim : Int32} {f : Nat → Nat → Int32} {g : (Nat → Nat → Int64) × (Nat → Nat → Option Nat)} {k : am_H → Option (Int32 × am_H)} (hl : lim.toInt ≤ 9) (L : LM f b lim) : ∀ m n t (p : (Nat → Int32) × Int32), t + m = 8 → WQ nr p.1 → lp_X12_goYear_2 k (n + m + 1) (Int32.ofNat t) (up f 437 p.1, g) = k (up f 437 (fo (zLs lim) m t p).1, g) := by
  intro m
  induction m with
  | zero =>
    intro n t p ht W
    obtain rfl : t = 8 := by omega
    rw [lp_X12_goYear_2, if_neg (by decide)]
    rfl
  | succ m ih =>
    intro n t p ht W
    have h8 : t < 8 := by omega
    have e : ∀ p : (Nat → Int32) × Int32, WQ nr p.1 → lp_X12_goYear_2 k (n + (m + 1)) (Int32.ofNat (t + 1)) (up f 437 p.1, g) = _ := fun p => ih n (t + 1) p (by omega)
    rw [lp_X12_goYear_2, if_pos (i8_lt t h8), rdA0 h8, i8_succ t h8, fo]
    simp only [up_same]
    rcases W.wb t h8 with hz | hz
    · rw [if_neg (by rw [hz]; decide), e p W]
      have : zLs lim t p = p := by unfold zLs; rw [if_pos hz]
      rw [this]
    · rw [if_pos hz, X12_listen L h8 (pos_ne hz) p.2, cal_some]
      exact e (zLs lim t p) (WQ_ls hl W h8)
/-- who grows -/
def rmN (q : Nat → Int32) (t : Nat) : Nat := (q (8 + t)).toNatClampNeg
theorem rmN_on {q : Nat → Int32} {t r : Nat} (h : q (8 + t) = Int32.ofNat r) (hr : r < 8) : rmN q t = r := by
  unfold rmN
  rw [h, on_nat (by omega)]
def zGs (hold : Nat → Int32) (t : Nat) (q : Nat → Int32) : Nat → Int32 := if 0 < q t ∧ q t < 20 ∧ q (32 + t) = 0 ∧ ¬ zLeft hold q (rmN q t) < 1 then st q t (q t + 1) else q
def zGrow (hold q : Nat → Int32) : Nat → Int32 := fo (zGs hold) 8 0 q
theorem PC_frame {f f' : Nat → Nat → Int32} {g g' : (Nat → Nat → Int64) × (Nat → Nat → Option Nat)} {nr : Nat} {hold : Nat → Int32} (h4 : f' 4 = f 4) (h5 : f' 5 = f 5) (P : PC (f, g) nr hold) : PC (f', g') nr hold := by
  unfold PC at P ⊢
  simp only at P ⊢
  rw [h4, h5]
  exact P
theorem grow_le {nr t : Nat} {hold q : Nat → Int32} (W : WQ nr q) (ht : t < 8) : WQ nr (zGs hold t q) := by
  unfold zGs
  split
  · rename_i h
    have h1 := ti_pos.mp h.1
    have h2 := h.2.1
    rw [Int32.lt_iff_toInt_lt] at h2
    have h3 : (20 : Int32).toInt = 20 := rfl
    have h4 := ti_add (x := q t) (y := 1) (by rw [ti_1]; omega) (by rw [ti_1]; omega)
    rw [ti_1] at h4
    exact WQ_w1 W ht h.1 (by rw [ti_pos]; omega) (by omega)
  · exact W
theorem lt_one {x : Int32} : x < 1 ↔ ¬ 0 < x := by
  rw [Int32.lt_iff_toInt_lt, ti_pos, ti_1]
  omega
theorem WL_gs {nr t : Nat} {hold q : Nat → Int32} (h4 : nr ≤ 4) (H : HO nr hold) (W : WQ nr q) (L : WL nr hold q) (ht : t < 8) : WL nr hold (zGs hold t q) := by
  unfold zGs
  split
  · rename_i h
    obtain ⟨r0, g1, g2⟩ := W.room ht h.1
    rw [rmN_on g2 (by omega)] at h
    intro r hr
    have l := L r hr
    have hb := W.le ht
    have h6 := ti_add (x := q t) (y := 1) (by rw [ti_1]; omega) (by rw [ti_1]; omega)
    rw [ti_1] at h6
    have hp : 0 < q t + 1 := by rw [ti_pos]; omega
    rw [sum8_one (g := vol q r) (t := t) ht (fun k hk hkt => by unfold vol qIn; rw [st_ne hkt, st_ne (by omega)])]
    have ev : vol (st q t (q t + 1)) r t = vol q r t + (if r = r0 then 1 else 0) := by
      unfold vol qIn
      rw [st_same, st_ne (by omega), g2]
      by_cases hr0 : r = r0
      · subst hr0
        simp [hp, h.1, h6]
      · have : ¬ Int32.ofNat r0 = Int32.ofNat r := fun z => hr0 ((on_inj (by omega) (by omega)).mp z).symm
        simp [this, hr0]
    rw [ev]
    by_cases hr0 : r = r0
    · subst hr0
      have h7 := h.2.2.2
      rw [lt_one, ti_pos, left_eq H W hr] at h7
      rw [if_pos rfl]
      omega
    · rw [if_neg hr0]
      omega
  · exact L
theorem W_grow {nr : Nat} {hold q : Nat → Int32} (h4 : nr ≤ 4) (H : HO nr hold) (W : WQ nr q) (L : WL nr hold q) : WQ nr (zGrow hold q) ∧ WL nr hold (zGrow hold q) :=
  fo_ind (f := zGs hold) (P := fun _ q => WQ nr q ∧ WL nr hold q) (fun t q ht h => ⟨grow_le h.1 ht, WL_gs h4 H h.1 h.2 ht⟩) (a := q) ⟨W, L⟩
theorem c_grow {s nr : Nat} {hold : Nat → Int32} (hs : s = 27 ∨ s = 36) {g : (Nat → Nat → Int64) × (Nat → Nat → Option Nat)} : ∀ m n t (q : Nat → Int32) (f : Nat → Nat → Int32), t + m = 8 → RC s q f → WQ nr q → PC (f, g) nr hold → ∃ f', lp_X10_grow_2 s (n + m + 1) (Int32.ofNat t) (f, g) = some (f', g) ∧ RC s (fo (zGs hold) m t q) f' ∧ CK s f f' ∧ f' 35 = f 35 := by
  intro m
  induction m with
  | zero =>
    intro n t q f ht R W P
    obtain rfl : t = 8 := by omega
    rw [lp_X10_grow_2, if_neg (by decide)]
    exact ⟨f, rfl, R, CK.refl, rfl⟩
  | succ m ih =>
    intro n t q f ht R W P
    have h8 : t < 8 := by omega
    have e : ∀ q f, RC s q f → WQ nr q → PC (f, g) nr hold → ∃ f', lp_X10_grow_2 s (n + (m + 1)) (Int32.ofNat (t + 1)) (f, g) = some (f', g) ∧ RC s (fo (zGs hold) m (t + 1) q) f' ∧ CK s f f' ∧ f' 35 = f 35 := fun q f => ih n (t + 1) q f (by omega)
    have hP4 := P.2.1
    have e0 : fo (zGs hold) (m + 1) t q = fo (zGs hold) m (t + 1) (zGs hold t q) := rfl
    rw [e0, lp_X10_grow_2, if_pos (i8_lt t h8), rdS1 R h8, rdS1 R h8, rdS5 R h8]
    unfold jn_X10_grow_41 jn_X10_grow_42
    rw [if_pos (show (0 : Int32) = 0 from rfl), if_neg (show ¬ (1 : Int32) = 0 by decide), i8_succ t h8, rdS2 R h8, rdS1 R h8]
    by_cases c1 : 0 < q t
    · rw [if_pos c1]
      by_cases c2 : q t < 20
      · rw [if_pos c2]
        by_cases c3 : q (32 + t) = 0
        · rw [if_pos c3, if_neg (pos_ne c1)]
          obtain ⟨r0, g1, g2⟩ := W.room h8 c1
          rw [g2, X7_leftIn P R g1, cal_some]
          by_cases c4 : zLeft hold q r0 < 1
          · have : zGs hold t q = q := by
              unfold zGs
              rw [rmN_on g2 (by omega), if_neg (fun z => z.2.2.2 c4)]
            rw [if_pos c4, this]
            exact e q f R W P
          · have : zGs hold t q = st q t (q t + 1) := by
              unfold zGs
              rw [rmN_on g2 (by omega), if_pos ⟨c1, c2, c3, c4⟩]
            have W2 := grow_le (hold := hold) W h8
            rw [this] at W2
            rw [if_neg c4, this, wrI_i8 h8]
            have hne : ¬ q t + 1 = 0 := by
              have hb := W.le h8
              have h6 := ti_add (x := q t) (y := 1) (by rw [ti_1]; omega) (by rw [ti_1]; omega)
              rw [ti_1] at h6
              rw [ti_zero]
              omega
            have R2 := RC_w1 (v := q t + 1) R h8 ⟨fun z => absurd z (pos_ne c1), fun z => absurd z hne⟩
            obtain ⟨f', k1, k2, k3, k4⟩ := e _ _ R2 W2 (PC_frame (g := g) (u2_ne (by omega)) (u2_ne (by omega)) P)
            exact ⟨f', k1, k2, CK.trans (CK.au (Or.inl ⟨by omega, by omega⟩)) k3, by rw [k4, u2_ne (by omega)]⟩
        · have : zGs hold t q = q := by
            unfold zGs
            rw [if_neg (fun z => c3 z.2.2.1)]
          rw [if_neg c3, this]
          exact e q f R W P
      · have : zGs hold t q = q := by
          unfold zGs
          rw [if_neg (fun z => c2 z.2.1)]
        rw [if_neg c2, this]
        exact e q f R W P
    · have : zGs hold t q = q := by
        unfold zGs
        rw [if_neg (fun z => c1 z.1)]
      rw [if_neg c1, this]
      exact e q f R W P
theorem MP_up {f : Nat → Nat → Int32} {g g' : (Nat → Nat → Int64) × (Nat → Nat → Option Nat)} {b nr : Nat} {hold q : Nat → Int32} (M : MP (f, g) b nr hold) : MP (up f 437 q, g') b nr hold := by
  unfold MP at M ⊢
  simp only at M ⊢
  rw [up_ne (by decide), up_ne (by decide), up_ne (by decide)]
  exact M
theorem not_20 {x : Int32} : (x < 1 ∨ 19 < x) ↔ ¬ (0 < x ∧ x < 20) := by
  rw [lt_one, Int32.lt_iff_toInt_lt, Int32.lt_iff_toInt_lt, Int32.lt_iff_toInt_lt]
  have h3 : (20 : Int32).toInt = 20 := rfl
  have h4 : (19 : Int32).toInt = 19 := rfl
  omega
theorem m_goGrow {b nr : Nat} {hold : Nat → Int32} {f : Nat → Nat → Int32} {g : (Nat → Nat → Int64) × (Nat → Nat → Option Nat)} {k : am_H → Option (Int32 × am_H)} (M : MP (f, g) b nr hold) : ∀ m n t (q : Nat → Int32), t + m = 8 → WQ nr q → lp_X12_goYear_32 k (n + m + 1) (Int32.ofNat t) (up f 437 q, g) = k (up f 437 (fo (zGs hold) m t q), g) := by
  intro m
  induction m with
  | zero =>
    intro n t q ht W
    obtain rfl : t = 8 := by omega
    rw [lp_X12_goYear_32, if_neg (by decide)]
    rfl
  | succ m ih =>
    intro n t q ht W
    have h8 : t < 8 := by omega
    have hM4 := M.2.2.2.1
    have e : ∀ q : Nat → Int32, WQ nr q → lp_X12_goYear_32 k (n + (m + 1)) (Int32.ofNat (t + 1)) (up f 437 q, g) = _ := fun q => ih n (t + 1) q (by omega)
    have e0 : fo (zGs hold) (m + 1) t q = fo (zGs hold) m (t + 1) (zGs hold t q) := rfl
    rw [e0, lp_X12_goYear_32, if_pos (i8_lt t h8), rdA0 h8, X12_isIn, cal_some, rdA32 h8]
    unfold jn_X12_goYear_71 jn_X12_goYear_72
    rw [if_pos (show (0 : Int32) = 0 from rfl), if_neg (show ¬ (1 : Int32) = 0 by decide), i8_succ t h8, rdA8 h8]
    simp only [up_same]
    by_cases c1 : 0 < q t ∧ q t < 20
    · rw [if_neg (fun z => not_20.mp z c1), if_neg (by decide)]
      by_cases c3 : q (32 + t) = 0
      · rw [if_pos c3]
        obtain ⟨r0, g1, g2⟩ := W.room h8 c1.1
        rw [g2, X12_leftIn (MP_up M) g1, cal_some, rdA0 h8]
        simp only [up_same]
        by_cases c4 : zLeft hold q r0 < 1
        · have : zGs hold t q = q := by
            unfold zGs
            rw [rmN_on g2 (by omega), if_neg (fun z => z.2.2.2 c4)]
          rw [if_neg (lt_one.mp c4), this]
          exact e q W
        · have : zGs hold t q = st q t (q t + 1) := by
            unfold zGs
            rw [rmN_on g2 (by omega), if_pos ⟨c1.1, c1.2, c3, c4⟩]
          have W2 := grow_le (hold := hold) W h8
          rw [this] at W2
          have c5 : 0 < zLeft hold q r0 := Decidable.byContradiction (fun z => c4 (lt_one.mpr z))
          rw [if_pos c5, this, wrA0 h8]
          simp only [up_hu]
          exact e _ W2
      · have : zGs hold t q = q := by
          unfold zGs
          rw [if_neg (fun z => c3 z.2.2.1)]
        rw [if_neg c3, this]
        exact e q W
    · have : zGs hold t q = q := by
        unfold zGs
        rw [if_neg (fun z => c1 ⟨z.1, z.2.1⟩)]
      rw [if_pos (not_20.mpr c1), if_pos rfl, this]
      exact e q W
