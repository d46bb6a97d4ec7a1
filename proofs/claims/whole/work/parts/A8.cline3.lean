/-! the class reads trunks, and all -/
section KC
variable {f : Nat → Nat → Int32} {g : (Nat → Nat → Int64) × (Nat → Nat → Option Nat)} {B : Nat → Nat} {L : Nat} {D : DR} {t : TK}
theorem CDT_w {a : Nat} {v : Int32} (ha : 19 ≤ a ∧ a ≤ 22) (h : CDT f g B L D t) : CDT (am_u2 f a (D.1 1) v) g B L D t := by
  obtain ⟨k1, k2, k3, q1, q2, q3, q4, q5, q6, q7⟩ := h
  have fr : ∀ b, b ≠ a → am_u2 f a (D.1 1) v b = f b := fun b z => u2_ne z
  have fk : ∀ b i, i < D.1 1 → am_u2 f a (D.1 1) v b i = f b i := fun b i hi => au_nk (by omega)
  refine ⟨CT_fr (fr 1 (by omega)) k1, TPc_fr (fr 1 (by omega)) (fr 2 (by omega)) k2, k3, by rw [fr 17 (by omega)]; exact q1, by rw [fr 14 (by omega)]; exact q2, fun i hi => by rw [fr 18 (by omega)]; exact q3 i hi, fun i hi => ?_, by rw [fr 23 (by omega)]; exact q5, by rw [fr 23 (by omega)]; exact q6, CLc_cong (fun i _ => by rw [fr 24 (by omega)]) (fun i _ => by rw [fr 25 (by omega)]) q7⟩
  rw [fk 19 i hi, fk 20 i hi, fk 21 i hi, fk 22 i hi]
  exact q4 i hi
theorem w_fr {a k : Nat} {v : Int32} (ha : 15 ≤ a ∧ a ≤ 26) : FRc f (am_u2 f a k v) g g ∧ am_u2 f a k v 14 6 = f 14 6 ∧ am_u2 f a k v 14 7 = f 14 7 := ⟨⟨fun b _ z => u2_ne (by omega), rfl, fun _ _ _ _ => rfl⟩, by rw [u2_ne (by omega)], by rw [u2_ne (by omega)]⟩
theorem s_room (hD : DV D) {bk : Nat} (hb : bk ≤ 20) (h : CDT f g B L D t) {F : am_H → Option (Int32 × am_H)} {K : Nat × TK → LR} (hF : ∀ f' g' x, pRm (tk B L) D bk t = .inr x → CDT f' g' B L D x.2 → QF f f' g g' → f' 14 4 = Int32.ofNat x.1 → KR f' g' B L (F (f', g')) (K x)) : KR f g B L (cal2 (f_X5_readRoomFor (Int32.ofNat bk) (f, g)) fun v h => if v = 0 then some (0, h) else F h) (bR (pRm (tk B L) D bk t) K) := by
  have s := c_room hD h hb
  rcases hx : pRm (tk B L) D bk t with e | x
  · rw [hx] at s
    exact FAc.iff s (fun h => if_pos rfl)
  · rw [hx] at s
    obtain ⟨f', g', a1, a2, a3, a4⟩ := s
    rw [a1, cal2_some, if_neg (by decide), bR_r]
    exact KR_pre a3.fr a3.f67.1 a3.f67.2 (hF f' g' x hx a2 a3 a4)
/-- the line's end -/
theorem k_201 (h : CDT f g B L D t) {n bk r mk to : Nat} (hn : D.1 1 < 6) (e15 : g.1 16 (D.1 1) = Int64.ofNat n) (hn40 : n < 2 ^ 40) (e19 : f 19 (D.1 1) = Int32.ofNat bk) (e20 : f 20 (D.1 1) = Int32.ofNat r) (e21 : f 21 (D.1 1) = Int32.ofNat mk) (e22 : f 22 (D.1 1) = Int32.ofNat to) : KR f g B L (jn_X5_readTrunk_201 (Int32.ofNat (D.1 1)) (f, g)) (bR (pTk (tk B L) 18 t) fun t9 => .inr (t9, dTk D n bk r mk to)) := by
  unfold jn_X5_readTrunk_201
  rw [ptI_eq, on_succ]
  let f1 := am_u2 f 17 7 (Int32.ofNat (D.1 1 + 1))
  have fr1 : ∀ a, a ≠ 17 → f1 a = f a := fun a z => u2_ne z
  have f17 : ∀ k, k ≠ 7 → f1 17 k = f 17 k := fun k z => au_nk z
  refine KR_pre (f1 := f1) (g1 := g) ⟨fun a z1 z2 => fr1 a (by omega), rfl, fun _ _ _ _ => rfl⟩ (by rw [fr1 14 (by decide)]) (by rw [fr1 14 (by decide)]) ?_
  obtain ⟨k1, k2, k3, q1, q2, q3, q4, q5, q6, q7⟩ := h
  refine s_last (D := dTk D n bk r mk to) ⟨CT_fr (fr1 1 (by decide)) k1, TPc_fr (fr1 1 (by decide)) (fr1 2 (by decide)) k2, k3, ?_⟩
  unfold CD dTk
  simp only
  rw [bits_D (by decide), f17 6 (by decide), f17 8 (by decide), f17 9 (by decide), f17 10 (by decide), sN_same, sN_ne (show 0 ≠ 1 by decide), sN_ne (show 2 ≠ 1 by decide), sN_ne (show 3 ≠ 1 by decide), sN_ne (show 4 ≠ 1 by decide), sN_ne (show 9 ≠ 1 by decide), fr1 14 (by decide), fr1 18 (by decide), fr1 19 (by decide), fr1 20 (by decide), fr1 21 (by decide), fr1 22 (by decide), fr1 23 (by decide)]
  have A : ∀ (i l : Nat), l ≠ D.1 1 → aN (aN (aN (aN (aN D.2.1 2 (D.1 1) n) 3 (D.1 1) bk) 4 (D.1 1) r) 5 (D.1 1) mk) 6 (D.1 1) to i l = D.2.1 i l := fun i l hl => by rw [aN_nk hl, aN_nk hl, aN_nk hl, aN_nk hl, aN_nk hl]
  have A0 : aN (aN (aN (aN (aN D.2.1 2 (D.1 1) n) 3 (D.1 1) bk) 4 (D.1 1) r) 5 (D.1 1) mk) 6 (D.1 1) to 0 = D.2.1 0 := by rw [aN_ne (by decide), aN_ne (by decide), aN_ne (by decide), aN_ne (by decide), aN_ne (by decide)]
  have A1 : aN (aN (aN (aN (aN D.2.1 2 (D.1 1) n) 3 (D.1 1) bk) 4 (D.1 1) r) 5 (D.1 1) mk) 6 (D.1 1) to 1 = D.2.1 1 := by rw [aN_ne (by decide), aN_ne (by decide), aN_ne (by decide), aN_ne (by decide), aN_ne (by decide)]
  have v2 : aN (aN (aN (aN (aN D.2.1 2 (D.1 1) n) 3 (D.1 1) bk) 4 (D.1 1) r) 5 (D.1 1) mk) 6 (D.1 1) to 2 (D.1 1) = n := by rw [aN_ne (by decide), aN_ne (by decide), aN_ne (by decide), aN_ne (by decide), aN_same]
  have v3 : aN (aN (aN (aN (aN D.2.1 2 (D.1 1) n) 3 (D.1 1) bk) 4 (D.1 1) r) 5 (D.1 1) mk) 6 (D.1 1) to 3 (D.1 1) = bk := by rw [aN_ne (by decide), aN_ne (by decide), aN_ne (by decide), aN_same]
  have v4 : aN (aN (aN (aN (aN D.2.1 2 (D.1 1) n) 3 (D.1 1) bk) 4 (D.1 1) r) 5 (D.1 1) mk) 6 (D.1 1) to 4 (D.1 1) = r := by rw [aN_ne (by decide), aN_ne (by decide), aN_same]
  have v5 : aN (aN (aN (aN (aN D.2.1 2 (D.1 1) n) 3 (D.1 1) bk) 4 (D.1 1) r) 5 (D.1 1) mk) 6 (D.1 1) to 5 (D.1 1) = mk := by rw [aN_ne (by decide), aN_same]
  have v6 : aN (aN (aN (aN (aN D.2.1 2 (D.1 1) n) 3 (D.1 1) bk) 4 (D.1 1) r) 5 (D.1 1) mk) 6 (D.1 1) to 6 (D.1 1) = to := by rw [aN_same]
  refine ⟨⟨q1.1, au_same, q1.2.2.1, q1.2.2.2.1, q1.2.2.2.2⟩, q2, fun i hi => by rw [A0, A1]; exact q3 i hi, fun i hi => ?_, q5, q6, CLc_cong (fun i _ => by rw [fr1 24 (by decide)]) (fun i _ => by rw [fr1 25 (by decide)]) q7⟩
  by_cases ei : i = D.1 1
  · subst ei
    rw [v2, v3, v4, v5, v6]
    exact ⟨e15, hn40, e19, e20, e21, e22⟩
  · rw [A 2 i ei, A 3 i ei, A 4 i ei, A 5 i ei, A 6 i ei]
    exact q4 i (by omega)
theorem k_trunk (hD : DV D) (h : CDT f g B L D t) : KR f g B L (f_X5_readTrunk (f, g)) (lTrunk (tk B L) t D) := by
  have d1 := hD.2.1
  unfold f_X5_readTrunk lTrunk
  rw [bnd_eq]
  simp only [h.2.2.2.1.2.1]
  rw [if_neg (nneg (by omega))]
  by_cases c : 6 ≤ D.1 1
  · rw [if_neg (show ¬ Int32.ofNat (D.1 1) < 6 by rw [show (6 : Int32) = Int32.ofNat 6 from rfl, on_lt (by omega) (by omega)]; omega), if_pos c]
    exact (FA_cs h).zrt
  · have hn : D.1 1 < 6 := by omega
    rw [if_pos (show Int32.ofNat (D.1 1) < 6 by rw [show (6 : Int32) = Int32.ofNat 6 from rfl, on_lt (by omega) (by omega)]; omega), if_neg c]
    obtain ⟨f1, g1, a1, a2, a3, a4⟩ := c_adv h
    rw [a1, cal_some]
    refine KR_pre a3.fr a3.f67.1 a3.f67.2 ?_
    have s := c_nm16 a2 hn
    rcases hx : pNm (tk B L) (D.2.1 2) (D.1 1) (tk B L t.2.2.1) with e | x
    · rw [hx] at s
      exact FAc.iff s (fun h => if_pos rfl)
    · rw [hx] at s
      obtain ⟨f2, g2, b1, b2, b3, b4, b5, b6⟩ := s
      rw [b1, cal2_some, if_neg (by decide), bR_r]
      refine KR_pre b3 (by rw [b4]) (by rw [b4]) ?_
      refine s_take (k := 3) (by decide) rfl b2 (fun f3 g3 t3 _ c2 c3 => ?_)
      refine s_num (lo := 1) (hi := 20) (by decide) (by decide) rfl rfl c2 (fun f4 g4 y hy d2 d3 d4 => ?_)
      have hy2 : y.1 ≤ 20 := (pNu_ok c2.2.2.1 hy).2.2
      simp only
      rw [bnd_eq]
      simp only [d4]
      rw [wrI_n (by omega) (by decide)]
      have w5 := CDT_w (a := 19) (v := Int32.ofNat y.1) (by decide) d2
      have r5 := w_fr (f := f4) (g := g4) (a := 19) (k := D.1 1) (v := Int32.ofNat y.1) (by decide)
      refine KR_pre r5.1 r5.2.1 r5.2.2 ?_
      refine s_take (k := 4) (by decide) rfl w5 (fun f6 g6 t6 _ k2 k3 => ?_)
      have e19 : f6 19 (D.1 1) = Int32.ofNat y.1 := by rw [k3.1 19 (by decide) (by decide), au_same]
      rw [rdI_n (by omega) (by decide)]
      simp only [e19]
      refine s_room hD hy2 k2 (fun f7 g7 z _ m2 m3 m4 => ?_)
      simp only
      rw [bnd_eq]
      simp only [m4]
      rw [wrI_n (by omega) (by decide)]
      have w8 := CDT_w (a := 20) (v := Int32.ofNat z.1) (by decide) m2
      have r8 := w_fr (f := f7) (g := g7) (a := 20) (k := D.1 1) (v := Int32.ofNat z.1) (by decide)
      refine KR_pre r8.1 r8.2.1 r8.2.2 ?_
      refine s_take (k := 5) (by decide) rfl w8 (fun f9 g9 t9 _ n2 n3 => ?_)
      refine s_num (lo := 0) (hi := 63) (by decide) (by decide) rfl rfl n2 (fun fa ga q _ p2 p3 p4 => ?_)
      simp only
      rw [bnd_eq]
      simp only [p4]
      rw [wrI_n (by omega) (by decide), wrI_n (by omega) (by decide)]
      have wb := CDT_w (a := 22) (v := 0) (by decide) (CDT_w (a := 21) (v := Int32.ofNat q.1) (by decide) p2)
      have rb1 := w_fr (f := fa) (g := ga) (a := 21) (k := D.1 1) (v := Int32.ofNat q.1) (by decide)
      have rb2 := w_fr (f := am_u2 fa 21 (D.1 1) (Int32.ofNat q.1)) (g := ga) (a := 22) (k := D.1 1) (v := 0) (by decide)
      refine KR_pre (rb1.1.trans rb2.1) (rb2.2.1.trans rb1.2.1) (rb2.2.2.trans rb1.2.2) ?_
      let fb := am_u2 (am_u2 fa 21 (D.1 1) (Int32.ofNat q.1)) 22 (D.1 1) 0
      have frb : ∀ a, a ≠ 21 → a ≠ 22 → fb a = fa a := fun a z1 z2 => by show am_u2 (am_u2 _ _ _ _) _ _ _ a = _; rw [u2_ne z2, u2_ne z1]
      have eN : ga.1 16 (D.1 1) = Int64.ofNat x.1 := by rw [p3.2.2.2 16 (by decide), n3.2.2.2 16 (by decide), m3.2.2.2 16 (by decide), k3.2.2.2 16 (by decide), d3.2.2.2 16 (by decide), c3.2.2.2 16 (by decide)]; exact b5
      have E19 : fa 19 (D.1 1) = Int32.ofNat y.1 := by rw [p3.1 19 (by decide) (by decide), n3.1 19 (by decide) (by decide), u2_ne (by decide), m3.1 19 (by decide) (by decide)]; exact e19
      have E20 : fa 20 (D.1 1) = Int32.ofNat z.1 := by rw [p3.1 20 (by decide) (by decide), n3.1 20 (by decide) (by decide), au_same]
      have b19 : fb 19 (D.1 1) = Int32.ofNat y.1 := by rw [frb 19 (by decide) (by decide)]; exact E19
      have b20 : fb 20 (D.1 1) = Int32.ofNat z.1 := by rw [frb 20 (by decide) (by decide)]; exact E20
      have b21 : fb 21 (D.1 1) = Int32.ofNat q.1 := by show am_u2 _ 22 _ _ 21 _ = _; rw [u2_ne (by decide), au_same]
      have b22 : fb 22 (D.1 1) = Int32.ofNat 0 := au_same
      have ek : fb 1 4 = Int32.ofNat q.2.1 := wb.1.2.1
      rw [bnd_eq]
      have ek' : am_u2 (am_u2 fa 21 (D.1 1) (Int32.ofNat q.1)) 22 (D.1 1) 0 1 4 = Int32.ofNat q.2.1 := ek
      simp only [ek', kiff (CDT.k wb) (show (6 : Int32) = Int32.ofNat 6 from rfl) (by decide)]
      unfold pTo
      by_cases c6 : q.2.1 = 6
      · rw [if_pos c6, if_pos c6]
        obtain ⟨fc, gc, u1, u2, u3, u4⟩ := c_adv wb
        have u1' : f_X9_advance (am_u2 (am_u2 fa 21 (D.1 1) (Int32.ofNat q.1)) 22 (D.1 1) 0, ga) = some (fc, gc) := u1
        rw [u1', cal_some]
        refine KR_pre u3.fr u3.f67.1 u3.f67.2 ?_
        refine s_num (lo := 0) (hi := 9) (by decide) (by decide) rfl rfl u2 (fun fd gd o _ v2 v3 v4 => ?_)
        simp only
        rw [bnd_eq]
        simp only [v4]
        rw [wrI_n (by omega) (by decide)]
        have we := CDT_w (a := 22) (v := Int32.ofNat o.1) (by decide) v2
        have re := w_fr (f := fd) (g := gd) (a := 22) (k := D.1 1) (v := Int32.ofNat o.1) (by decide)
        refine KR_pre re.1 re.2.1 re.2.2 ?_
        have tr : ∀ a, a ≠ 1 → a ≠ 14 → a ≠ 22 → am_u2 fd 22 (D.1 1) (Int32.ofNat o.1) a = fb a := fun a z1 z2 z3 => by rw [u2_ne z3, v3.1 a z1 z2, u3.1 a z1 z2]
        exact k_201 we hn (by rw [v3.2.2.2 16 (by decide), u3.2.2.2 16 (by decide)]; exact eN) b6 (by rw [tr 19 (by decide) (by decide) (by decide)]; exact b19) (by rw [tr 20 (by decide) (by decide) (by decide)]; exact b20) (by rw [tr 21 (by decide) (by decide) (by decide)]; exact b21) au_same
      · rw [if_neg c6, if_neg c6, bR_r]
        exact k_201 wb hn eN b6 b19 b20 b21 b22
theorem KR_zrt {out : Option (Int32 × am_H)} {r : LR} (s : KR f g B L out r) : KR f g B L (cal2 out fun v h => zrt v (some (v, h))) r := by
  rcases r with e | ⟨t', D'⟩
  · exact FAc.zrt s
  · obtain ⟨f', g', a1, a2⟩ := s
    exact ⟨f', g', by rw [a1, cal2_some, zrt_1], a2⟩
theorem k_line (hD : DV D) (h : CDT f g B L D t) : KR f g B L (f_X5_readLine (f, g)) (pLine (tk B L) t D) := by
  have hk := h.k
  unfold f_X5_readLine pLine
  rw [bnd_eq]
  simp only [h.1.2.1, kiff hk (show (0 : Int32) = Int32.ofNat 0 from rfl) (by decide), kiff hk (show (2 : Int32) = Int32.ofNat 2 from rfl) (by decide), kiff hk (show (7 : Int32) = Int32.ofNat 7 from rfl) (by decide), kiff hk (show (8 : Int32) = Int32.ofNat 8 from rfl) (by decide), kiff hk (show (9 : Int32) = Int32.ofNat 9 from rfl) (by decide), kiff hk (show (10 : Int32) = Int32.ofNat 10 from rfl) (by decide)]
  by_cases k0 : t.1 = 0
  · rw [if_pos k0, if_pos k0]; exact KR_zrt (k_room hD h)
  rw [if_neg k0, if_neg k0]
  by_cases k2 : t.1 = 2
  · rw [if_pos k2, if_pos k2]; exact KR_zrt (k_trunk hD h)
  rw [if_neg k2, if_neg k2]
  by_cases k7 : t.1 = 7
  · rw [if_pos k7, if_pos k7]; exact k_brood hD h
  rw [if_neg k7, if_neg k7]
  by_cases k8 : t.1 = 8
  · rw [if_pos k8, if_pos k8]; exact k_one hD h (o := 6) (v := 2) (by decide) (by decide) rfl (by decide) (by decide) rfl rfl rfl
  rw [if_neg k8, if_neg k8]
  by_cases k9 : t.1 = 9
  · rw [if_pos k9, if_pos k9]; exact k_one hD h (o := 7) (v := 3) (by decide) (by decide) rfl (by decide) (by decide) rfl rfl rfl
  rw [if_neg k9, if_neg k9]
  by_cases k10 : t.1 = 10
  · rw [if_pos k10, if_pos k10]; exact k_one hD h (o := 8) (v := 4) (by decide) (by decide) rfl (by decide) (by decide) rfl rfl rfl
  rw [if_neg k10, if_neg k10]
  exact (FA_cs h).zrt
theorem k_all : ∀ m n i t D (f : Nat → Nat → Int32) (g : (Nat → Nat → Int64) × (Nat → Nat → Option Nat)), i + m = 1600 → DV D → CDT f g B L D t → KR f g B L (lp_X5_readAll_31 (n + m + 1) (Int32.ofNat i) (f, g)) (pAll (tk B L) m t D) := by
  intro m
  induction m with
  | zero =>
    intro n i t D f g hi hD h
    obtain rfl : i = 1600 := by omega
    rw [lp_X5_readAll_31, if_neg (by decide), pAll]
    exact ⟨f, g, rfl, h, FRc.refl, rfl, rfl⟩
  | succ m ih =>
    intro n i t D f g hi hD h
    rw [lp_X5_readAll_31, if_pos (lt1600 (by omega)), bnd_eq, pAll]
    simp only [h.1.2.1, kiff h.k (show (31 : Int32) = Int32.ofNat 31 from rfl) (by decide)]
    by_cases c : t.1 = 31
    · rw [if_pos c, if_pos c]
      exact ⟨f, g, rfl, h, FRc.refl, rfl, rfl⟩
    · rw [if_neg c, if_neg c]
      have s := k_line hD h
      rcases hx : pLine (tk B L) t D with e | ⟨t', D'⟩
      · rw [hx] at s
        exact FAc.iff s (fun h => if_pos rfl)
      · rw [hx] at s
        obtain ⟨f1, g1, a1, a2, a3, a4, a5⟩ := s
        obtain ⟨-, hD'⟩ := pLine_ok hD h.2.2.1 hx
        rw [a1, cal2_some, if_neg (by decide), bR_r, on_succ]
        exact KR_pre a3 a4 a5 (ih n (i + 1) t' D' f1 g1 (by omega) hD' a2)
end KC
