/-! the model reads a trunk's line -/
def pT0 (T : Nat → TK) (t : TK) (D : DR) : LR := bR (pNm T (D.2.1 2) (D.1 1) t) fun x => bR (pTk T 3 x.2) fun t2 => bR (pNu T 1 20 t2) fun y => bR (pTk T 4 y.2) fun t4 => bR (pRm T D y.1 t4) fun z =>
    bR (pTk T 5 z.2) fun t6 => bR (pNu T 0 63 t6) fun q => bR (pTo T q.2) fun o => .inr (o.2, dTk D x.1 y.1 z.1 q.1 o.1)
theorem lTrunk_0 {T : Nat → TK} {t : TK} {D : DR} : lTrunk T t D = if 6 ≤ D.1 1 then csT t else bR (pT0 T (T t.2.2.1) D) fun x => bR (pTk T 18 x.1) fun t9 => .inr (t9, x.2) := by
  unfold lTrunk pT0
  simp only [bR_as, bR_r]
def kTK (x1 x2 : Int32) (z : Int32) (h : am_H) : Option am_H := bnd (h.1 413 8) fun v49 => if v49 = 2 then if x2 < 0 then bnd (h.1 413 6) fun v135 => cal (f_X12_fails 5 v135 h) fun h137 => jn_X12_readTrunk_210 x1 x2 h137 else rdI h 424 12 x1 fun v50 => if z < v50 then bnd (h.1 413 6) fun v130 => cal (f_X12_fails 3 v130 h) fun h132 => jn_X12_readTrunk_210 x1 x2 h132 else jn_X12_readTrunk_210 x1 x2 h else cal (f_X12_misplaced h) fun h141 => jn_X12_readTrunk_210 x1 x2 h141
section LC
variable {f : Nat → Nat → Int32} {g : (Nat → Nat → Int64) × (Nat → Nat → Option Nat)} {B : Nat → Nat} {L rb : Nat} {D : DR} {t : TK} {e : Nat × Nat}
theorem x291 (hrb : rb < 2) (h33 : f 413 33 = Int32.ofNat rb) {n : Nat} (h417 : f 417 rb = Int32.ofNat n) : jn_X12_readTrunk_291 (f, g) = some (am_u2 f 417 rb (Int32.ofNat (n + 1)), g) := by
  unfold jn_X12_readTrunk_291
  rw [bndv h33, rdIv hrb (by decide) h417, wrIp hrb (by decide), on_succ]
/-- a fault ahead: what is written then counts for nothing -/
theorem bad_427 (hn : D.1 1 < 6) (h : BDm f g B L rb e) (h417 : f 417 rb = Int32.ofNat (D.1 1)) (v : Int32) : KM f g B L rb (wrI (f, g) 427 12 (Int32.ofNat (6 * rb + D.1 1)) v fun h92 => jn_X12_readTrunk_291 h92) (.inl e) := by
  have hrb := h.2.2.1
  have b1 := BD_w (a := 427) (j := 6 * rb + D.1 1) (v := v) (by decide) h
  have q1 := FRm_w424 (f := f) (g := g) (rb := rb) (a := 427) (j := 6 * rb + D.1 1) (v := v) (by decide) (by omega)
  have e417 : am_u2 f 427 (6 * rb + D.1 1) v 417 rb = Int32.ofNat (D.1 1) := by rw [u2_ne (by decide)]; exact h417
  rw [wrIp (by omega) (by decide), x291 hrb b1.2.2.2.1 e417]
  exact ⟨_, _, rfl, BD_w (by decide) b1, q1.trans (FRm_w (by decide))⟩
def kT2 (x1 v60 : Int32) (h : am_H) : Option am_H := wrI h 426 12 x1 v60 fun h65 => wrI h65 427 12 x1 0 fun h68 => cal (f_X12_isGood h68) fun v72 => if v72 = 0 then jn_X12_readTrunk_291 h68 else cal (f_X12_isWord 1953459300 h68) fun v80 => if v80 = 0 then jn_X12_readTrunk_291 h68 else cal (f_X12_goOn h68) fun h83 => cal2 (f_X12_numeral 0 9 h83) fun v87 h89 => wrI h89 427 12 x1 v87 fun h92 => jn_X12_readTrunk_291 h92
theorem bad_t2 (hn : D.1 1 < 6) (h : BDm f g B L rb e) (h417 : f 417 rb = Int32.ofNat (D.1 1)) (v : Int32) : KM f g B L rb (kT2 (Int32.ofNat (6 * rb + D.1 1)) v (f, g)) (.inl e) := by
  have hrb := h.2.2.1
  have b1 := BD_w (a := 426) (j := 6 * rb + D.1 1) (v := v) (by decide) h
  have q1 := FRm_w424 (f := f) (g := g) (rb := rb) (a := 426) (j := 6 * rb + D.1 1) (v := v) (by decide) (by omega)
  have b2 := BD_w (a := 427) (j := 6 * rb + D.1 1) (v := 0) (by decide) b1
  have q2 := FRm_w424 (f := am_u2 f 426 (6 * rb + D.1 1) v) (g := g) (rb := rb) (a := 427) (j := 6 * rb + D.1 1) (v := 0) (by decide) (by omega)
  have e417 : am_u2 (am_u2 f 426 (6 * rb + D.1 1) v) 427 (6 * rb + D.1 1) 0 417 rb = Int32.ofNat (D.1 1) := by rw [u2_ne (by decide), u2_ne (by decide)]; exact h417
  unfold kT2
  rw [wrIp (by omega) (by decide), wrIp (by omega) (by decide), isGood_n b2.2.2.2.2.2.1 b2.2.2.2.2.1, cal_some, if_pos rfl, x291 hrb b2.2.2.2.1 e417]
  exact ⟨_, _, rfl, BD_w (by decide) b2, q1.trans (q2.trans (FRm_w (by decide)))⟩
theorem bad_210 (hn : D.1 1 < 6) (h : BDm f g B L rb e) (h417 : f 417 rb = Int32.ofNat (D.1 1)) (v : Int32) : KM f g B L rb (jn_X12_readTrunk_210 (Int32.ofNat (6 * rb + D.1 1)) v (f, g)) (.inl e) := by
  have hrb := h.2.2.1
  have b1 := BD_w (a := 425) (j := 6 * rb + D.1 1) (v := v) (by decide) h
  have q1 := FRm_w424 (f := f) (g := g) (rb := rb) (a := 425) (j := 6 * rb + D.1 1) (v := v) (by decide) (by omega)
  have e417 : am_u2 f 425 (6 * rb + D.1 1) v 417 rb = Int32.ofNat (D.1 1) := by rw [u2_ne (by decide)]; exact h417
  have ba := bad_after b1 469786323827 0 63
  have bt := bad_t2 hn b1 e417 0
  unfold kT2 at bt
  unfold jn_X12_readTrunk_210
  rw [wrIp (by omega) (by decide), bndv rfl]
  refine KM_pre q1 ?_
  split
  · rw [bad_must b1, cal_some, ba, cal2_some]
    exact bt
  · rw [bad_must b1, cal_some, ba, cal2_some]
    exact bt
/-- what is left in a room, as far as it is told -/
theorem m_left (h : MDT f g B L rb D t) (hD : DV D) {r : Nat} (hr : r < D.1 0) {K : Int32 → am_H → Option am_H} : ∀ m n i, i + m = D.1 1 → lp_X12_readTrunk_123 (Int32.ofNat (6 * rb + D.1 1)) (Int32.ofNat r) K (n + m + 1) (Int32.ofNat (D.2.1 1 r - smB (D.2.1 3) (D.2.1 4) r i)) (Int32.ofNat (6 * rb + i)) (f, g) = K (Int32.ofNat (D.2.1 1 r - smB (D.2.1 3) (D.2.1 4) r (D.1 1))) (f, g) := by
  have hrb := h.1.2.2.1
  have hn := hD.2.1
  have h4 := hD.1
  obtain ⟨hH, hs⟩ := hD.2.2.2.2.2.2.1 r hr
  intro m
  induction m with
  | zero =>
    intro n i hi
    obtain rfl : i = D.1 1 := by omega
    rw [lp_X12_readTrunk_123, if_neg (by rw [on_lt (by omega) (by omega)]; omega)]
  | succ m ih =>
    intro n i hi
    obtain ⟨-, e3, e4, -, -⟩ := h.2.2.2.1 i (by omega)
    obtain ⟨t1, t2, t3, -, -⟩ := hD.2.2.2.2.2.2.2.1 i (by omega)
    have hm := smB_mono (bu := D.2.1 3) (ro := D.2.1 4) (r := r) (i + 1) (D.1 1) (by omega)
    rw [smB] at hm
    rw [show n + (m + 1) + 1 = (n + m + 1) + 1 by omega, lp_X12_readTrunk_123, if_pos (by rw [on_lt (by omega) (by omega)]; omega), rdIv (by omega) (by decide) e4]
    have ih' := ih n (i + 1) (by omega)
    rw [smB] at ih'
    by_cases c : D.2.1 4 i = r
    · rw [if_pos c] at hm ih'
      rw [if_pos (by rw [c]), rdIv (by omega) (by decide) e3, on_subN (by omega) (by omega), on_succ, show D.2.1 1 r - smB (D.2.1 3) (D.2.1 4) r i - D.2.1 3 i = D.2.1 1 r - (smB (D.2.1 3) (D.2.1 4) r i + D.2.1 3 i) by omega]
      exact ih'
    · rw [if_neg c] at ih'
      rw [if_neg (by rw [on_inj (by omega) (by omega)]; exact c), on_succ, show Int32.ofNat (D.2.1 1 r - smB (D.2.1 3) (D.2.1 4) r i) - 0 = Int32.ofNat (D.2.1 1 r - smB (D.2.1 3) (D.2.1 4) r i) by rw [Int32.sub_zero]]
      exact ih'
theorem m_left1 (h : MDT f g B L rb D t) (hD : DV D) {K : Int32 → am_H → Option am_H} : ∀ m n i, i + m = D.1 1 → lp_X12_readTrunk_123 (Int32.ofNat (6 * rb + D.1 1)) (-1) K (n + m + 1) 0 (Int32.ofNat (6 * rb + i)) (f, g) = K 0 (f, g) := by
  have hrb := h.1.2.2.1
  have hn := hD.2.1
  have h4 := hD.1
  intro m
  induction m with
  | zero =>
    intro n i hi
    obtain rfl : i = D.1 1 := by omega
    rw [lp_X12_readTrunk_123, if_neg (by rw [on_lt (by omega) (by omega)]; omega)]
  | succ m ih =>
    intro n i hi
    obtain ⟨-, e3, e4, -, -⟩ := h.2.2.2.1 i (by omega)
    obtain ⟨t1, t2, t3, -, -⟩ := hD.2.2.2.2.2.2.2.1 i (by omega)
    rw [show n + (m + 1) + 1 = (n + m + 1) + 1 by omega, lp_X12_readTrunk_123, if_pos (by rw [on_lt (by omega) (by omega)]; omega), rdIv (by omega) (by decide) e4, if_neg (fun z => nneg (i := D.2.1 4 i) (by omega) (by rw [z]; decide)), on_succ, show (0 : Int32) - 0 = 0 from rfl]
    exact ih n (i + 1) (by omega)
/-- marks, tales: the line's end -/
theorem m_t2 (hD : DV D) (hn : D.1 1 < 6) (h : MDT f g B L rb D t) {n M bk r mk : Nat} (e31 : g.1 431 (6 * rb + D.1 1) = Int64.ofNat M) (hw : WMr n M) (e24 : f 424 (6 * rb + D.1 1) = Int32.ofNat bk) (e25 : f 425 (6 * rb + D.1 1) = Int32.ofNat r) : KM f g B L rb (kT2 (Int32.ofNat (6 * rb + D.1 1)) (Int32.ofNat mk) (f, g)) (bR (pTo (tk B L) t) fun o => .inr (o.2, dTk D n bk r mk o.1)) := by
  have hrb := h.1.2.2.1
  let x := 6 * rb + D.1 1
  let f1 := am_u2 f 426 x (Int32.ofNat mk)
  let f2 := am_u2 f1 427 x 0
  have h1 : MDT f1 g B L rb D t := MDT_w (a := 426) (n := 6 * rb + D.1 1) (Or.inr ⟨by decide, rfl⟩) h
  have h2 : MDT f2 g B L rb D t := MDT_w (a := 427) (n := 6 * rb + D.1 1) (Or.inr ⟨by decide, rfl⟩) h1
  have q1 : FRm rb f f1 g g := FRm_w424 (by decide) (by omega)
  have q2 : FRm rb f1 f2 g g := FRm_w424 (by decide) (by omega)
  have w6 : f_X12_isWord 1953459300 (f2, g) = some (if t.1 = 6 then 1 else 0) := X12_isWord h2.1.1 h2.k (i := 6) (by decide) rfl
  /- what is done at the very end -/
  have fin : ∀ (f3 : Nat → Nat → Int32) (g3 : (Nat → Nat → Int64) × (Nat → Nat → Option Nat)) (t' : TK) (to : Nat), MDT f3 g3 B L rb D t' → g3.1 431 x = Int64.ofNat M → f3 424 x = Int32.ofNat bk → f3 425 x = Int32.ofNat r → f3 426 x = Int32.ofNat mk → f3 427 x = Int32.ofNat to → KM f3 g3 B L rb (jn_X12_readTrunk_291 (f3, g3)) (.inr (t', dTk D n bk r mk to)) := by
    intro f3 g3 t' to h3 z1 z2 z3 z4 z5
    have e417 := h3.2.1.2.1
    rw [x291 hrb h3.1.2.2.2.1 e417]
    refine ⟨_, _, rfl, ⟨MG_w (by decide) h3.1, ?_⟩, FRm_w (by decide)⟩
    obtain ⟨-, k1, k2, k3, k4⟩ := h3
    have fr : ∀ b, b ≠ 417 → am_u2 f3 417 rb (Int32.ofNat (D.1 1 + 1)) b = f3 b := fun b z => u2_ne z
    have A : ∀ (i l : Nat), l ≠ D.1 1 → aN (aN (aN (aN (aN D.2.1 2 (D.1 1) n) 3 (D.1 1) bk) 4 (D.1 1) r) 5 (D.1 1) mk) 6 (D.1 1) to i l = D.2.1 i l := fun i l hl => by rw [aN_nk hl, aN_nk hl, aN_nk hl, aN_nk hl, aN_nk hl]
    have A0 : aN (aN (aN (aN (aN D.2.1 2 (D.1 1) n) 3 (D.1 1) bk) 4 (D.1 1) r) 5 (D.1 1) mk) 6 (D.1 1) to 0 = D.2.1 0 := by rw [aN_ne (by decide), aN_ne (by decide), aN_ne (by decide), aN_ne (by decide), aN_ne (by decide)]
    have A1 : aN (aN (aN (aN (aN D.2.1 2 (D.1 1) n) 3 (D.1 1) bk) 4 (D.1 1) r) 5 (D.1 1) mk) 6 (D.1 1) to 1 = D.2.1 1 := by rw [aN_ne (by decide), aN_ne (by decide), aN_ne (by decide), aN_ne (by decide), aN_ne (by decide)]
    have v2 : aN (aN (aN (aN (aN D.2.1 2 (D.1 1) n) 3 (D.1 1) bk) 4 (D.1 1) r) 5 (D.1 1) mk) 6 (D.1 1) to 2 (D.1 1) = n := by rw [aN_ne (by decide), aN_ne (by decide), aN_ne (by decide), aN_ne (by decide), aN_same]
    have v3 : aN (aN (aN (aN (aN D.2.1 2 (D.1 1) n) 3 (D.1 1) bk) 4 (D.1 1) r) 5 (D.1 1) mk) 6 (D.1 1) to 3 (D.1 1) = bk := by rw [aN_ne (by decide), aN_ne (by decide), aN_ne (by decide), aN_same]
    have v4 : aN (aN (aN (aN (aN D.2.1 2 (D.1 1) n) 3 (D.1 1) bk) 4 (D.1 1) r) 5 (D.1 1) mk) 6 (D.1 1) to 4 (D.1 1) = r := by rw [aN_ne (by decide), aN_ne (by decide), aN_same]
    have v5 : aN (aN (aN (aN (aN D.2.1 2 (D.1 1) n) 3 (D.1 1) bk) 4 (D.1 1) r) 5 (D.1 1) mk) 6 (D.1 1) to 5 (D.1 1) = mk := by rw [aN_ne (by decide), aN_same]
    have v6 : aN (aN (aN (aN (aN D.2.1 2 (D.1 1) n) 3 (D.1 1) bk) 4 (D.1 1) r) 5 (D.1 1) mk) 6 (D.1 1) to 6 (D.1 1) = to := by rw [aN_same]
    have hm : mbits (dTk D n bk r mk to) = mbits D := mbits_D (fun k z1 z2 => sN_ne (by omega))
    unfold MD
    rw [hm]
    unfold dTk
    simp only
    rw [sN_same, sN_ne (show 0 ≠ 1 by decide), sN_ne (show 2 ≠ 1 by decide), sN_ne (show 3 ≠ 1 by decide), sN_ne (show 4 ≠ 1 by decide), A0, A1, fr 416 (by decide), fr 419 (by decide), fr 420 (by decide), fr 421 (by decide), fr 422 (by decide), fr 423 (by decide), fr 424 (by decide), fr 425 (by decide), fr 426 (by decide), fr 427 (by decide)]
    refine ⟨⟨k1.1, au_same, k1.2.2⟩, k2, fun i hi => ?_, MDr_w (by decide) (MDr_D (D := D) (D' := dTk D n bk r mk to) (show sN D.1 1 (D.1 1 + 1) 5 = D.1 5 from sN_ne (by decide)) (show sN D.1 1 (D.1 1 + 1) 9 = D.1 9 from sN_ne (by decide)) rfl k4)⟩
    by_cases ei : i = D.1 1
    · subst ei
      rw [v2, v3, v4, v5, v6]
      exact ⟨⟨M, z1, hw⟩, z2, z3, z4, z5⟩
    · rw [A 2 i ei, A 3 i ei, A 4 i ei, A 5 i ei, A 6 i ei]
      exact k3 i (by omega)
  have x24 : f2 424 x = Int32.ofNat bk := by show am_u2 (am_u2 _ _ _ _) _ _ _ 424 _ = _; rw [u2_ne (by decide), u2_ne (by decide)]; exact e24
  have x25 : f2 425 x = Int32.ofNat r := by show am_u2 (am_u2 _ _ _ _) _ _ _ 425 _ = _; rw [u2_ne (by decide), u2_ne (by decide)]; exact e25
  have x26 : f2 426 x = Int32.ofNat mk := by show am_u2 (am_u2 _ _ _ _) _ _ _ 426 _ = _; rw [u2_ne (by decide), au_same]
  have x27 : f2 427 x = Int32.ofNat 0 := au_same
  unfold kT2
  rw [wrIp (by omega) (by decide), wrIp (by omega) (by decide)]
  refine KM_pre (q1.trans q2) ?_
  have gd : f_X12_isGood (am_u2 (am_u2 f 426 (6 * rb + D.1 1) (Int32.ofNat mk)) 427 (6 * rb + D.1 1) 0, g) = some 1 := isGood_0 h2.1.2.2.2.2.1
  have w6' : f_X12_isWord 1953459300 (am_u2 (am_u2 f 426 (6 * rb + D.1 1) (Int32.ofNat mk)) 427 (6 * rb + D.1 1) 0, g) = some (if t.1 = 6 then 1 else 0) := w6
  rw [gd, cal_some, if_neg (by decide), w6', cal_some]
  unfold pTo
  by_cases c6 : t.1 = 6
  · rw [if_pos c6, if_pos c6, if_neg (by decide)]
    obtain ⟨f3, g3, a1, a2, a3⟩ := m_adv h2
    have a1' : f_X12_goOn (am_u2 (am_u2 f 426 (6 * rb + D.1 1) (Int32.ofNat mk)) 427 (6 * rb + D.1 1) 0, g) = some (f3, g3) := a1
    rw [a1', cal_some]
    refine KM_pre a3.m ?_
    have s := m_num a2 (lo := 0) (hi := 9) (by decide) (by decide)
    have e0 : Int32.ofNat 0 = 0 := rfl
    have e9 : Int32.ofNat 9 = 9 := rfl
    rw [e0, e9] at s
    rcases hx : pNu (tk B L) 0 9 (tk B L t.2.2.1) with e | o
    · rw [hx] at s
      obtain ⟨f4, b1, b2, b3⟩ := s
      rw [b1, cal2_some, bR_l]
      exact KM_pre b3.m (bad_427 hn b2 (by rw [b3.1 417 (by decide), a3.1 417 (by decide)]; exact h2.2.1.2.1) 0)
    · rw [hx] at s
      obtain ⟨f4, g4, b1, b2, b3⟩ := s
      rw [b1, cal2_some, bR_r, wrIp (by omega) (by decide)]
      have h5 := MDT_w (a := 427) (n := 6 * rb + D.1 1) (v := Int32.ofNat o.1) (Or.inr ⟨by decide, rfl⟩) b2
      have tr : ∀ b, b ≠ 413 → b ≠ 427 → am_u2 f4 427 (6 * rb + D.1 1) (Int32.ofNat o.1) b = f2 b := fun b z1 z2 => by rw [u2_ne z2, b3.1 b z1, a3.1 b z1]
      refine KM_pre (b3.m.trans (FRm_w424 (a := 427) (j := 6 * rb + D.1 1) (v := Int32.ofNat o.1) (by decide) (by omega))) ?_
      exact fin _ _ _ _ h5 (by rw [b3.2.2.2 431 (by decide), a3.2.2.2 431 (by decide)]; exact e31) (by rw [tr 424 (by decide) (by decide)]; exact x24) (by rw [tr 425 (by decide) (by decide)]; exact x25) (by rw [tr 426 (by decide) (by decide)]; exact x26) au_same
  · rw [if_neg c6, if_neg c6, if_pos rfl, bR_r]
    exact fin f2 g t 0 h2 e31 x24 x25 x26 x27
theorem m_210 (hD : DV D) (hn : D.1 1 < 6) (h : MDT f g B L rb D t) {n M bk r : Nat} (e31 : g.1 431 (6 * rb + D.1 1) = Int64.ofNat M) (hw : WMr n M) (e24 : f 424 (6 * rb + D.1 1) = Int32.ofNat bk) (c : t.1 = 30) : KM f g B L rb (jn_X12_readTrunk_210 (Int32.ofNat (6 * rb + D.1 1)) (Int32.ofNat r) (f, g)) (bR (pTk (tk B L) 5 (tk B L t.2.2.1)) fun t6 => bR (pNu (tk B L) 0 63 t6) fun q => bR (pTo (tk B L) q.2) fun o => .inr (o.2, dTk D n bk r q.1 o.1)) := by
  have hrb := h.1.2.2.1
  have h1 := MDT_w (a := 425) (n := 6 * rb + D.1 1) (v := Int32.ofNat r) (Or.inr ⟨by decide, rfl⟩) h
  have q1 := FRm_w424 (f := f) (g := g) (rb := rb) (a := 425) (j := 6 * rb + D.1 1) (v := Int32.ofNat r) (by decide) (by omega)
  have tk8 : am_u2 f 425 (6 * rb + D.1 1) (Int32.ofNat r) 413 8 = 2 := by
    rw [h1.1.1.2.2.1, c]
    rfl
  obtain ⟨f2, g2, a1, a2, a3⟩ := m_adv h1
  have hm : f_X12_must 1 (am_u2 f 425 (6 * rb + D.1 1) (Int32.ofNat r), g) = some (f2, g2) := by
    unfold f_X12_must
    rw [isGood_0 h1.1.2.2.2.2.1, cal_some, if_neg (show ¬ (1 : Int32) = 0 by decide), if_neg (show ¬ (1 : Int32) = 0 by decide), a1, cal_some]
  unfold jn_X12_readTrunk_210
  rw [wrIp (by omega) (by decide), bndv tk8, if_pos rfl, hm, cal_some]
  refine KM_pre (q1.trans a3.m) ?_
  have sa := m_after (k := 5) (by decide) (w := 469786323827) rfl a2 (lo := 0) (hi := 63) (by decide) (by decide)
  have e0 : Int32.ofNat 0 = 0 := rfl
  have e63 : Int32.ofNat 63 = 63 := rfl
  rw [e0, e63] at sa
  have e417 : f2 417 rb = Int32.ofNat (D.1 1) := a2.2.1.2.1
  have as := bR_as (pTk (tk B L) 5 (tk B L t.2.2.1)) (pNu (tk B L) 0 63) (fun q => bR (pTo (tk B L) q.2) fun o => (.inr (o.2, dTk D n bk r q.1 o.1) : LR))
  rw [← as]
  rcases hy : bR (pTk (tk B L) 5 (tk B L t.2.2.1)) (pNu (tk B L) 0 63) with e | y
  · rw [hy] at sa
    obtain ⟨f3, g3, b1, b2, b3⟩ := sa
    have bt := bad_t2 hn b2 (by rw [b3.1 417 (by decide)]; exact e417) 0
    unfold kT2 at bt
    rw [b1, cal2_some, bR_l]
    exact KM_pre b3.m bt
  · rw [hy] at sa
    obtain ⟨f3, g3, b1, b2, b3⟩ := sa
    have s := m_t2 (mk := y.1) (n := n) (M := M) (bk := bk) (r := r) hD hn b2 (by rw [b3.2.2.2 431 (by decide), a3.2.2.2 431 (by decide)]; exact e31) hw (by rw [b3.1 424 (by decide), a3.1 424 (by decide), u2_ne (by decide)]; exact e24) (by rw [b3.1 425 (by decide), a3.1 425 (by decide)]; exact au_same)
    unfold kT2 at s
    rw [b1, cal2_some, bR_r]
    exact KM_pre b3.m s
theorem m_kTK (hD : DV D) (hn : D.1 1 < 6) (h : MDT f g B L rb D t) {n M bk : Nat} (hb : bk ≤ 20) (e31 : g.1 431 (6 * rb + D.1 1) = Int64.ofNat M) (hw : WMr n M) (e24 : f 424 (6 * rb + D.1 1) = Int32.ofNat bk) {z v : Int32} (hv : v = if t.1 = 30 then (if fndN (D.2.1 0) t.2.2.2.2 (D.1 0) 0 = 99 then -1 else Int32.ofNat (fndN (D.2.1 0) t.2.2.2.2 (D.1 0) 0)) else -1) (hz : t.1 = 30 → ¬ fndN (D.2.1 0) t.2.2.2.2 (D.1 0) 0 = 99 → z = Int32.ofNat (D.2.1 1 (fndN (D.2.1 0) t.2.2.2.2 (D.1 0) 0) - smB (D.2.1 3) (D.2.1 4) (fndN (D.2.1 0) t.2.2.2.2 (D.1 0) 0) (D.1 1)) ∧ fndN (D.2.1 0) t.2.2.2.2 (D.1 0) 0 < D.1 0) : KM f g B L rb (kTK (Int32.ofNat (6 * rb + D.1 1)) v z (f, g)) (bR (pRm (tk B L) D bk t) fun z => bR (pTk (tk B L) 5 z.2) fun t6 => bR (pNu (tk B L) 0 63 t6) fun q => bR (pTo (tk B L) q.2) fun o => .inr (o.2, dTk D n bk z.1 q.1 o.1)) := by
  have hrb := h.1.2.2.1
  have e417 : f 417 rb = Int32.ofNat (D.1 1) := h.2.1.2.1
  have f417 : ∀ c p, failM f c p 417 rb = Int32.ofNat (D.1 1) := fun c p => by unfold failM; rw [u2_ne (by decide), u2_ne (by decide)]; exact e417
  have h6 := h.1.1.1
  have g4 := h.1.2.2.2.2.1
  unfold kTK pRm
  by_cases c : t.1 = 30
  · have tk8 : f 413 8 = 2 := by rw [h.1.1.2.2.1, c]; rfl
    rw [bndv tk8, if_pos rfl, if_pos c]
    rw [if_pos c] at hv
    by_cases c9 : fndN (D.2.1 0) t.2.2.2.2 (D.1 0) 0 = 99
    · rw [if_pos c9] at hv
      have x5 := X12_fails (g := g) g4 5 t.2.1
      have e5 : Int32.ofNat 5 = 5 := rfl
      rw [e5] at x5
      rw [hv, if_pos (by decide), bndv h6, x5, cal_some, if_pos c9, bR_l]
      exact KM_pre failM_gf.m (bad_210 hn (BD_fail h.1 (by decide)) (f417 5 _) (-1))
    · rw [if_neg c9] at hv
      obtain ⟨hz1, hz2⟩ := hz c c9
      have h4 := hD.1
      obtain ⟨hH, hs⟩ := hD.2.2.2.2.2.2.1 _ hz2
      rw [hv, if_neg (nneg (by omega)), rdIv (by omega) (by decide) e24, if_neg c9, hz1]
      have l1 := on_lt (a := D.2.1 1 (fndN (D.2.1 0) t.2.2.2.2 (D.1 0) 0) - smB (D.2.1 3) (D.2.1 4) (fndN (D.2.1 0) t.2.2.2.2 (D.1 0) 0) (D.1 1)) (b := bk) (by omega) (by omega)
      by_cases cb : D.2.1 1 (fndN (D.2.1 0) t.2.2.2.2 (D.1 0) 0) - smB (D.2.1 3) (D.2.1 4) (fndN (D.2.1 0) t.2.2.2.2 (D.1 0) 0) (D.1 1) < bk
      · have x3 := X12_fails (g := g) g4 3 t.2.1
        have e3 : Int32.ofNat 3 = 3 := rfl
        rw [e3] at x3
        rw [if_pos (l1.mpr cb), if_pos cb, bndv h6, x3, cal_some, bR_l]
        exact KM_pre failM_gf.m (bad_210 hn (BD_fail h.1 (by decide)) (f417 3 _) _)
      · rw [if_neg (fun x => cb (l1.mp x)), if_neg cb, bR_r]
        exact m_210 hD hn h e31 hw e24 c
  · rw [bndv rfl, if_neg (show ¬ f 413 8 = 2 by rw [h.1.1.2.2.1, (mtk_n h.k).2.1]; exact c), if_neg c, X12_misplaced h.1, cal_some]
    exact KM_pre failM_gf.m (bad_210 hn (BD_fail h.1 cs12) (f417 _ _) _)
theorem m_trunk (hD : DV D) (hn : D.1 1 < 6) (h : MDT f g B L rb D t) : KM f g B L rb (f_X12_readTrunk (f, g)) (pT0 (tk B L) t D) := by
  have hrb := h.1.2.2.1
  have h33 := h.1.2.2.2.1
  have h417 := h.2.1.2.1
  have b6 : (6 : Int32) * Int32.ofNat rb = Int32.ofNat (6 * rb) := bx6 (t := 0)
  have hh := here_431 h (by omega) (D.1 1) (3999 - D.1 1) 0 (by omega)
  rw [show 3999 - D.1 1 + D.1 1 + 1 = 4000 by omega] at hh
  have hh' : f_X12_here_413_431 (Int32.ofNat (6 * rb)) (Int32.ofNat (D.1 1)) (f, g) = some (if t.1 = 30 then (if fndN (D.2.1 2) t.2.2.2.2 (D.1 1) 0 = 99 then -1 else Int32.ofNat (fndN (D.2.1 2) t.2.2.2.2 (D.1 1) 0)) else -1) := hh
  unfold f_X12_readTrunk pT0
  rw [bndv h33, bndv h33, rdIv hrb (by decide) h417, bndv h33, bndv h33, rdIv hrb (by decide) h417, b6, hh', cal_some, on_add]
  have s := m_fresh (names := D.2.1 2) (n := D.1 1) (by omega) h (x := (if t.1 = 30 then (if fndN (D.2.1 2) t.2.2.2.2 (D.1 1) 0 = 99 then -1 else Int32.ofNat (fndN (D.2.1 2) t.2.2.2.2 (D.1 1) 0)) else -1)) rfl
  have e1 : Int32.ofNat 1 = 1 := rfl
  have e20 : Int32.ofNat 20 = 20 := rfl
  /- a fault ahead of the room's name -/
  have early : ∀ (f3 : Nat → Nat → Int32) (g3 : (Nat → Nat → Int64) × (Nat → Nat → Option Nat)) (e : Nat × Nat) (K : am_H → Option am_H), BDm f3 g3 B L rb e → KM f3 g3 B L rb (cal (f_X12_isGood (f3, g3)) fun v36 => if v36 = 0 then some (f3, g3) else K (f3, g3)) (.inl e) := fun f3 g3 e K hb => by
    rw [isGood_n hb.2.2.2.2.2.1 hb.2.2.2.2.1, cal_some, if_pos rfl]
    exact ⟨f3, g3, rfl, hb, FRm.refl⟩
  rcases hp : pNm (tk B L) (D.2.1 2) (D.1 1) t with e | x
  · rw [hp] at s
    obtain ⟨v, f1, a1, a2, a3⟩ := s
    have b2 := BD_wL (a := 431) (j := 6 * rb + D.1 1) (v := v) (by decide) a2
    have b3 := BD_w (a := 424) (j := 6 * rb + D.1 1) (v := 1) (by decide) b2
    obtain ⟨w, hw⟩ := bad_word (f := am_u2 f1 424 (6 * rb + D.1 1) 1) (g := (am_u2 g.1 431 (6 * rb + D.1 1) v, g.2)) 24948
    rw [a1, cal2_some, wrLp (by omega) (by decide), bad_after b2 1651862635 1 20, cal2_some, wrIp (by omega) (by decide), hw, cal_some, bad_must b3, cal_some, isGood_n b3.2.2.2.2.2.1 b3.2.2.2.2.1, cal_some, if_pos rfl, bR_l]
    exact ⟨_, _, rfl, b3, a3.m.trans ((FRm_wL (by decide)).trans (FRm_w424 (by decide) (by omega)))⟩
  · rw [hp] at s
    obtain ⟨M, f1, g1, a1, aw, a2, a3⟩ := s
    have m2 := MDT_wL (a := 431) (n := 6 * rb + D.1 1) (v := Int64.ofNat M) (Or.inr ⟨rfl, rfl⟩) a2
    have q2 := FRm_wL (rb := rb) (f := f1) (g := g1) (a := 431) (j := 6 * rb + D.1 1) (v := Int64.ofNat M) (by decide)
    have sa := m_after (k := 3) (by decide) (w := 1651862635) rfl m2 (lo := 1) (hi := 20) (by decide) (by decide)
    rw [e1, e20] at sa
    rw [a1, cal2_some, wrLp (by omega) (by decide), bR_r]
    refine KM_pre (a3.m.trans q2) ?_
    have as := bR_as (pTk (tk B L) 3 x.2) (pNu (tk B L) 1 20) (fun y => bR (pTk (tk B L) 4 y.2) fun t4 => bR (pRm (tk B L) D y.1 t4) fun z =>
      bR (pTk (tk B L) 5 z.2) fun t6 => bR (pNu (tk B L) 0 63 t6) fun q => bR (pTo (tk B L) q.2) fun o => (.inr (o.2, dTk D x.1 y.1 z.1 q.1 o.1) : LR))
    rw [← as]
    rcases hy : bR (pTk (tk B L) 3 x.2) (pNu (tk B L) 1 20) with e | y
    · rw [hy] at sa
      obtain ⟨f2, g2, b1, b2, b3⟩ := sa
      have c2 := BD_w (a := 424) (j := 6 * rb + D.1 1) (v := 1) (by decide) b2
      obtain ⟨w, hw⟩ := bad_word (f := am_u2 f2 424 (6 * rb + D.1 1) 1) (g := g2) 24948
      rw [b1, cal2_some, wrIp (by omega) (by decide), hw, cal_some, bad_must c2, cal_some, isGood_n c2.2.2.2.2.2.1 c2.2.2.2.2.1, cal_some, if_pos rfl, bR_l]
      exact ⟨_, _, rfl, c2, b3.m.trans (FRm_w424 (by decide) (by omega))⟩
    · have hy2 : y.1 ≤ 20 := by
        obtain ⟨t', h1, h2⟩ := bR_ok hy
        exact (pNu_ok (pTk_ok (k := 3) (by decide) a2.1.2.2.2.2.2 h1).1 h2).2.2
      rw [hy] at sa
      obtain ⟨f2, g2, b1, b2, b3⟩ := sa
      have c2 := MDT_w (a := 424) (n := 6 * rb + D.1 1) (v := Int32.ofNat y.1) (Or.inr ⟨by decide, rfl⟩) b2
      have q4 := FRm_w424 (f := f2) (g := g2) (rb := rb) (a := 424) (j := 6 * rb + D.1 1) (v := Int32.ofNat y.1) (by decide) (by omega)
      have w4 : f_X12_isWord 24948 (am_u2 f2 424 (6 * rb + D.1 1) (Int32.ofNat y.1), g2) = some (if y.2.1 = 4 then 1 else 0) := X12_isWord c2.1.1 c2.k (i := 4) (by decide) rfl
      have sm := m_must (k := 4) c2 (v := if y.2.1 = 4 then 1 else 0) rfl
      rw [b1, cal2_some, wrIp (by omega) (by decide), w4, cal_some, bR_r]
      refine KM_pre (b3.m.trans q4) ?_
      rcases hz : pTk (tk B L) 4 y.2 with e | t4
      · rw [hz] at sm
        obtain ⟨f3, d1, d2, d3⟩ := sm
        rw [d1, cal_some, isGood_n d2.2.2.2.2.2.1 d2.2.2.2.2.1, cal_some, if_pos rfl, bR_l]
        exact ⟨_, _, rfl, d2, d3.m⟩
      · rw [hz] at sm
        obtain ⟨f3, g3, d1, d2, d3⟩ := sm
        have h31 : g3.1 431 (6 * rb + D.1 1) = Int64.ofNat M := by
          rw [d3.2.2.2 431 (by decide), b3.2.2.2 431 (by decide)]
          exact gu_same
        have h24 : f3 424 (6 * rb + D.1 1) = Int32.ofNat y.1 := by rw [d3.1 424 (by decide)]; exact au_same
        have k33 := d2.1.2.2.2.1
        have h4 := hD.1
        have rh := X12_roomHere d2 (by omega)
        rw [d1, cal_some, isGood_0 d2.1.2.2.2.2.1, cal_some, if_neg (show ¬ (1 : Int32) = 0 by decide), rh, cal_some, bR_r]
        refine KM_pre d3.m ?_
        have fs := fnd_spec (names := D.2.1 0) (w := t4.2.2.2.2) (D.1 0) 0 (by omega)
        by_cases c : t4.1 = 30 ∧ ¬ fndN (D.2.1 0) t4.2.2.2.2 (D.1 0) 0 = 99
        · have hr : fndN (D.2.1 0) t4.2.2.2.2 (D.1 0) 0 < D.1 0 := by
            rcases fs with ⟨z, -⟩ | ⟨-, z, -⟩
            · exact absurd z c.2
            · omega
          have hv : (if t4.1 = 30 then (if fndN (D.2.1 0) t4.2.2.2.2 (D.1 0) 0 = 99 then -1 else Int32.ofNat (fndN (D.2.1 0) t4.2.2.2.2 (D.1 0) 0)) else (-1 : Int32)) = Int32.ofNat (fndN (D.2.1 0) t4.2.2.2.2 (D.1 0) 0) := by rw [if_pos c.1, if_neg c.2]
          have e423 := (d2.2.2.1 _ hr).2
          have ml := m_left (K := kTK (Int32.ofNat (6 * rb + D.1 1)) (Int32.ofNat (fndN (D.2.1 0) t4.2.2.2.2 (D.1 0) 0))) d2 hD hr (D.1 1) (3999 - D.1 1) 0 (by omega)
          rw [show 3999 - D.1 1 + D.1 1 + 1 = 4000 by omega, smB, Nat.sub_zero, Nat.add_zero] at ml
          rw [hv, if_neg (nneg (by omega)), bndv k33, bx4 (t := 0), on_add, rdIv (by omega) (by decide) e423, bndv k33, b6]
          have goalk := m_kTK (n := x.1) (M := M) (bk := y.1) hD hn d2 hy2 h31 aw h24 (z := Int32.ofNat (D.2.1 1 (fndN (D.2.1 0) t4.2.2.2.2 (D.1 0) 0) - smB (D.2.1 3) (D.2.1 4) (fndN (D.2.1 0) t4.2.2.2.2 (D.1 0) 0) (D.1 1))) (v := Int32.ofNat (fndN (D.2.1 0) t4.2.2.2.2 (D.1 0) 0)) hv.symm (fun _ _ => ⟨rfl, hr⟩)
          rw [← ml] at goalk
          exact goalk
        · have hv : (if t4.1 = 30 then (if fndN (D.2.1 0) t4.2.2.2.2 (D.1 0) 0 = 99 then -1 else Int32.ofNat (fndN (D.2.1 0) t4.2.2.2.2 (D.1 0) 0)) else (-1 : Int32)) = -1 := by
            by_cases c1 : t4.1 = 30
            · rw [if_pos c1, if_pos (Classical.not_not.mp (fun z => c ⟨c1, z⟩))]
            · rw [if_neg c1]
          have ml := m_left1 (K := kTK (Int32.ofNat (6 * rb + D.1 1)) (-1)) d2 hD (D.1 1) (3999 - D.1 1) 0 (by omega)
          rw [show 3999 - D.1 1 + D.1 1 + 1 = 4000 by omega, Nat.add_zero] at ml
          rw [hv, if_pos (by decide), bndv k33, b6]
          have goalk := m_kTK (n := x.1) (M := M) (bk := y.1) hD hn d2 hy2 h31 aw h24 (z := 0) (v := -1) hv.symm (fun z1 z2 => absurd ⟨z1, z2⟩ c)
          rw [← ml] at goalk
          exact goalk
end LC
