/-! the class reads a text, as on paper -/
section KB
variable {f : Nat → Nat → Int32} {g : (Nat → Nat → Int64) × (Nat → Nat → Option Nat)} {B : Nat → Nat} {L : Nat} {D : DR} {t : TK}
theorem bR_r {α β : Type} {a : α} {k : α → (Nat × Nat) ⊕ β} : bR (.inr a) k = k a := rfl
theorem bR_l {α β : Type} {e : Nat × Nat} {k : α → (Nat × Nat) ⊕ β} : bR (.inl e) k = .inl e := rfl
theorem KR_pre {f1 : Nat → Nat → Int32} {g1 : (Nat → Nat → Int64) × (Nat → Nat → Option Nat)} {out : Option (Int32 × am_H)} {r : LR} (h : FRc f f1 g g1) (h6 : f1 14 6 = f 14 6) (h7 : f1 14 7 = f 14 7) (s : KR f1 g1 B L out r) : KR f g B L out r := by
  rcases r with e | ⟨t', D'⟩
  · exact FAc.pre h s
  · obtain ⟨f', g', a1, a2, a3, a4, a5⟩ := s
    exact ⟨f', g', a1, a2, h.trans a3, a4.trans h6, a5.trans h7⟩
theorem QF.f67 {f f' : Nat → Nat → Int32} {g g' : (Nat → Nat → Int64) × (Nat → Nat → Option Nat)} (h : QF f f' g g') : f' 14 6 = f 14 6 ∧ f' 14 7 = f 14 7 := ⟨h.2.1 6 (by decide), h.2.1 7 (by decide)⟩
/-- a token that must come -/
theorem s_take {k : Nat} (hk : k ≤ 32) {c : Int32} (hc : c = Int32.ofNat k) (h : CDT f g B L D t) {F : am_H → Option (Int32 × am_H)} {K : TK → LR} (hF : ∀ f' g' t', pTk (tk B L) k t = .inr t' → CDT f' g' B L D t' → QF f f' g g' → KR f' g' B L (F (f', g')) (K t')) : KR f g B L (cal2 (f_X5_take c (f, g)) fun v h => if v = 0 then some (0, h) else F h) (bR (pTk (tk B L) k t) K) := by
  have s := c_take h hk
  rw [← hc] at s
  rcases hx : pTk (tk B L) k t with e | t'
  · rw [hx] at s
    exact FAc.iff s (fun h => if_pos rfl)
  · rw [hx] at s
    obtain ⟨f', g', a1, a2, a3⟩ := s
    rw [a1, cal2_some, if_neg (by decide), bR_r]
    exact KR_pre a3.fr a3.f67.1 a3.f67.2 (hF f' g' t' hx a2 a3)
theorem s_num {lo hi : Nat} (hlo : lo ≤ 10) (hhi : hi ≤ 1000) {cl ch : Int32} (hcl : cl = Int32.ofNat lo) (hch : ch = Int32.ofNat hi) (h : CDT f g B L D t) {F : am_H → Option (Int32 × am_H)} {K : Nat × TK → LR} (hF : ∀ f' g' x, pNu (tk B L) lo hi t = .inr x → CDT f' g' B L D x.2 → QF f f' g g' → f' 14 4 = Int32.ofNat x.1 → KR f' g' B L (F (f', g')) (K x)) : KR f g B L (cal2 (f_X5_readNumber cl ch (f, g)) fun v h => if v = 0 then some (0, h) else F h) (bR (pNu (tk B L) lo hi t) K) := by
  have s := c_num h hlo hhi
  rw [← hcl, ← hch] at s
  rcases hx : pNu (tk B L) lo hi t with e | x
  · rw [hx] at s
    exact FAc.iff s (fun h => if_pos rfl)
  · rw [hx] at s
    obtain ⟨f', g', a1, a2, a3, a4⟩ := s
    rw [a1, cal2_some, if_neg (by decide), bR_r]
    exact KR_pre a3.fr a3.f67.1 a3.f67.2 (hF f' g' x hx a2 a3 a4)
theorem s_last (h : CDT f g B L D t) : KR f g B L (cal2 (f_X5_take 18 (f, g)) fun v h => zrt v (some (v, h))) (bR (pTk (tk B L) 18 t) fun t' => .inr (t', D)) := by
  have s := c_take h (k := 18) (by decide)
  have e : Int32.ofNat 18 = 18 := rfl
  rw [e] at s
  rcases hx : pTk (tk B L) 18 t with e | t'
  · rw [hx] at s
    exact FAc.zrt s
  · rw [hx] at s
    obtain ⟨f', g', a1, a2, a3⟩ := s
    rw [bR_r]
    exact ⟨f', g', by rw [a1, cal2_some, zrt_1], a2, a3.fr, a3.f67.1, a3.f67.2⟩
theorem CT_fr {f' : Nat → Nat → Int32} (h1 : f' 1 = f 1) (h : CT f g t) : CT f' g t := by unfold CT; rw [h1]; exact h
theorem TPc_fr {f' : Nat → Nat → Int32} (h1 : f' 1 = f 1) (h2 : f' 2 = f 2) (h : TPc f g B L) : TPc f' g B L := by
  obtain ⟨t1, t2, t3, t4, t5⟩ := h
  exact ⟨by rw [h1]; exact t1, t2, by rw [h2]; exact t3, t4, t5⟩
theorem bits_D {s : Nat → Nat} {k v : Nat} {X : (Nat → Nat → Nat) × List (Nat × Nat)} (hk : k ≠ 5 ∧ k ≠ 6 ∧ k ≠ 7 ∧ k ≠ 8) : bitsO (sN s k v, X) = bitsO (s, X) := by
  unfold bitsO
  simp only
  rw [sN_ne (Ne.symm hk.1), sN_ne (Ne.symm hk.2.1), sN_ne (Ne.symm hk.2.2.1), sN_ne (Ne.symm hk.2.2.2)]
theorem k_room (hD : DV D) (h : CDT f g B L D t) : KR f g B L (f_X5_readRoom (f, g)) (lRoom (tk B L) t D) := by
  have d0 := hD.1
  unfold f_X5_readRoom lRoom
  rw [bnd_eq]
  simp only [h.2.2.2.1.1]
  rw [if_neg (nneg (by omega))]
  by_cases c : 4 ≤ D.1 0
  · rw [if_neg (show ¬ Int32.ofNat (D.1 0) < 4 by rw [show (4 : Int32) = Int32.ofNat 4 from rfl, on_lt (by omega) (by omega)]; omega), if_pos c]
    exact (FA_cs h).zrt
  · rw [if_pos (show Int32.ofNat (D.1 0) < 4 by rw [show (4 : Int32) = Int32.ofNat 4 from rfl, on_lt (by omega) (by omega)]; omega), if_neg c]
    obtain ⟨f1, g1, a1, a2, a3, a4⟩ := c_adv h
    rw [a1, cal_some]
    refine KR_pre a3.fr a3.f67.1 a3.f67.2 ?_
    have s := c_nm15 a2 (by omega)
    rcases hx : pNm (tk B L) (D.2.1 0) (D.1 0) (tk B L t.2.2.1) with e | x
    · rw [hx] at s
      exact FAc.iff s (fun h => if_pos rfl)
    · rw [hx] at s
      obtain ⟨f2, g2, b1, b2, b3, b4, b5, b6⟩ := s
      rw [b1, cal2_some, if_neg (by decide), bR_r]
      refine KR_pre b3 (by rw [b4]) (by rw [b4]) ?_
      refine s_take (k := 1) (by decide) rfl b2 (fun f3 g3 t3 _ c2 c3 => ?_)
      refine s_num (lo := 0) (hi := 99) (by decide) (by decide) rfl rfl c2 (fun f4 g4 y _ d2 d3 d4 => ?_)
      simp only
      rw [bnd_eq]
      simp only [d4]
      rw [wrI_n (by omega) (by decide), ptI_eq]
      simp only [on_succ]
      let f5 := am_u2 (am_u2 f4 18 (D.1 0) (Int32.ofNat y.1)) 17 6 (Int32.ofNat (D.1 0 + 1))
      have fr5 : ∀ a, a ≠ 17 → a ≠ 18 → f5 a = f4 a := fun a z1 z2 => by show am_u2 (am_u2 _ _ _ _) _ _ _ a = _; rw [u2_ne z1, u2_ne z2]
      have f17 : ∀ k, k ≠ 6 → f5 17 k = f4 17 k := fun k z => by show am_u2 (am_u2 _ _ _ _) _ _ _ 17 k = _; rw [au_nk z, u2_ne (by decide)]
      have f18 : ∀ k, f5 18 k = am_u2 f4 18 (D.1 0) (Int32.ofNat y.1) 18 k := fun k => by show am_u2 (am_u2 _ _ _ _) _ _ _ 18 k = _; rw [u2_ne (by decide)]
      refine KR_pre (f1 := f5) (g1 := g4) ⟨fun a z1 z2 => fr5 a (by omega) (by omega), rfl, fun _ _ _ _ => rfl⟩ (by rw [fr5 14 (by decide) (by decide)]) (by rw [fr5 14 (by decide) (by decide)]) ?_
      obtain ⟨k1, k2, k3, k4⟩ := d2
      obtain ⟨q1, q2, q3, q4, q5, q6, q7⟩ := k4
      have hname : g4.1 15 (D.1 0) = Int64.ofNat x.1 := by rw [d3.2.2.2 15 (by decide), c3.2.2.2 15 (by decide)]; exact b5
      refine s_last (D := (sN D.1 0 (D.1 0 + 1), aN (aN D.2.1 0 (D.1 0) x.1) 1 (D.1 0) y.1, D.2.2)) ⟨CT_fr (fr5 1 (by decide) (by decide)) k1, TPc_fr (fr5 1 (by decide) (by decide)) (fr5 2 (by decide) (by decide)) k2, k3, ?_⟩
      unfold CD
      simp only
      rw [bits_D (by decide), f17 7 (by decide), f17 8 (by decide), f17 9 (by decide), f17 10 (by decide), sN_same, sN_ne (show 1 ≠ 0 by decide), sN_ne (show 2 ≠ 0 by decide), sN_ne (show 3 ≠ 0 by decide), sN_ne (show 4 ≠ 0 by decide), sN_ne (show 9 ≠ 0 by decide), fr5 14 (by decide) (by decide), fr5 19 (by decide) (by decide), fr5 20 (by decide) (by decide), fr5 21 (by decide) (by decide), fr5 22 (by decide) (by decide), fr5 23 (by decide) (by decide)]
      have z2 : aN (aN D.2.1 0 (D.1 0) x.1) 1 (D.1 0) y.1 2 = D.2.1 2 := by rw [aN_ne (by decide), aN_ne (by decide)]
      have z3 : aN (aN D.2.1 0 (D.1 0) x.1) 1 (D.1 0) y.1 3 = D.2.1 3 := by rw [aN_ne (by decide), aN_ne (by decide)]
      have z4 : aN (aN D.2.1 0 (D.1 0) x.1) 1 (D.1 0) y.1 4 = D.2.1 4 := by rw [aN_ne (by decide), aN_ne (by decide)]
      have z5 : aN (aN D.2.1 0 (D.1 0) x.1) 1 (D.1 0) y.1 5 = D.2.1 5 := by rw [aN_ne (by decide), aN_ne (by decide)]
      have z6 : aN (aN D.2.1 0 (D.1 0) x.1) 1 (D.1 0) y.1 6 = D.2.1 6 := by rw [aN_ne (by decide), aN_ne (by decide)]
      rw [z2, z3, z4, z5, z6]
      refine ⟨⟨au_same, q1.2⟩, q2, fun i hi => ?_, q4, q5, q6, CLc_cong (fun i _ => by rw [fr5 24 (by decide) (by decide)]) (fun i _ => by rw [fr5 25 (by decide) (by decide)]) q7⟩
      rw [f18]
      by_cases ei : i = D.1 0
      · subst ei
        rw [aN_ne (by decide), aN_same, au_same, aN_same]
        exact ⟨hname, b6, rfl⟩
      · rw [aN_ne (show 0 ≠ 1 by decide), aN_nk ei, aN_nk ei, aN_ne (by decide), au_nk ei]
        exact q3 i (by omega)
theorem k_first0 (hD : D.1 5 ≤ 1 ∧ D.1 6 ≤ 1 ∧ D.1 7 ≤ 1 ∧ D.1 8 ≤ 1) (h : CDT f g B L D t) {o : Nat} (ho : 5 ≤ o ∧ o ≤ 8) {c : Int32} (hc : c = Int32.ofNat (o + 2)) : if D.1 o = 1 then FAc f g (f_X5_isFirst c (f, g)) (if t.1 = 32 then 1 else 2, t.2.1) else ∃ f' g', f_X5_isFirst c (f, g) = some (1, (f', g')) ∧ CDT f' g' B L (sN D.1 o 1, D.2) (tk B L t.2.2.1) ∧ FRc f f' g g' ∧ f' 14 6 = f 14 6 ∧ f' 14 7 = f 14 7 := by
  obtain ⟨b5, b6, b7, b8⟩ := hD
  have hb : bitsO D = D.1 5 * 128 + D.1 6 * 256 + D.1 7 * 512 + D.1 8 * 1024 := rfl
  have hbit : (Int32.ofNat (bitsO D) &&& ((1 : Int32) <<< (c &&& 31))) = 0 ↔ ¬ D.1 o = 1 := by
    have z : ∀ (a b c' d : Fin 2) (o : Fin 9), 5 ≤ o.val → ((Int32.ofNat (a.val * 128 + b.val * 256 + c'.val * 512 + d.val * 1024) &&& ((1 : Int32) <<< (Int32.ofNat (o.val + 2) &&& 31))) = 0 ↔ ¬ (if o.val = 5 then a.val else if o.val = 6 then b.val else if o.val = 7 then c'.val else d.val) = 1) := by decide +kernel
    have := z ⟨D.1 5, by omega⟩ ⟨D.1 6, by omega⟩ ⟨D.1 7, by omega⟩ ⟨D.1 8, by omega⟩ ⟨o, by omega⟩ ho.1
    simp only at this
    rw [hb, hc, this]
    have : (if o = 5 then D.1 5 else if o = 6 then D.1 6 else if o = 7 then D.1 7 else D.1 8) = D.1 o := by
      by_cases e5 : o = 5
      · rw [if_pos e5, e5]
      · rw [if_neg e5]
        by_cases e6 : o = 6
        · rw [if_pos e6, e6]
        · rw [if_neg e6]
          by_cases e7 : o = 7
          · rw [if_pos e7, e7]
          · rw [if_neg e7, show o = 8 by omega]
    rw [this]
  unfold f_X5_isFirst
  rw [bnd_eq]
  simp only [h.2.2.2.2.1, hbit]
  by_cases c1 : D.1 o = 1
  · rw [if_pos c1, if_neg (fun z => z c1)]
    exact (FA_cs h).zrt
  · rw [if_neg c1, if_pos c1, bnd_eq, ptI_eq]
    have hor : Int32.ofNat (bitsO D) ||| ((1 : Int32) <<< (c &&& 31)) = Int32.ofNat (bitsO (sN D.1 o 1, D.2)) := by
      have z : ∀ (a b c' d : Fin 2) (o : Fin 9), 5 ≤ o.val → (Int32.ofNat (a.val * 128 + b.val * 256 + c'.val * 512 + d.val * 1024) ||| ((1 : Int32) <<< (Int32.ofNat (o.val + 2) &&& 31))) = Int32.ofNat ((if o.val = 5 then 1 else a.val) * 128 + (if o.val = 6 then 1 else b.val) * 256 + (if o.val = 7 then 1 else c'.val) * 512 + (if o.val = 8 then 1 else d.val) * 1024) := by decide +kernel
      have := z ⟨D.1 5, by omega⟩ ⟨D.1 6, by omega⟩ ⟨D.1 7, by omega⟩ ⟨D.1 8, by omega⟩ ⟨o, by omega⟩ ho.1
      simp only at this
      rw [hb, hc, this]
      unfold bitsO sN
      simp only [eq_comm (a := o)]
    simp only [h.2.2.2.2.1, hor]
    let f1 := am_u2 f 14 3 (Int32.ofNat (bitsO (sN D.1 o 1, D.2)))
    have fr1 : ∀ a, a ≠ 14 → f1 a = f a := fun a z => u2_ne z
    have h1 : CDT f1 g B L (sN D.1 o 1, D.2) t := by
      obtain ⟨k1, k2, k3, q1, q2, q3, q4, q5, q6, q7⟩ := h
      refine ⟨CT_fr (fr1 1 (by decide)) k1, TPc_fr (fr1 1 (by decide)) (fr1 2 (by decide)) k2, k3, ?_⟩
      unfold CD
      simp only
      rw [fr1 17 (by decide), fr1 18 (by decide), fr1 19 (by decide), fr1 20 (by decide), fr1 21 (by decide), fr1 22 (by decide), fr1 23 (by decide), sN_ne (show 0 ≠ o by omega), sN_ne (show 1 ≠ o by omega), sN_ne (show 2 ≠ o by omega), sN_ne (show 3 ≠ o by omega), sN_ne (show 4 ≠ o by omega), sN_ne (show 9 ≠ o by omega)]
      exact ⟨q1, au_same, q3, q4, q5, q6, CLc_cong (fun i _ => by rw [fr1 24 (by decide)]) (fun i _ => by rw [fr1 25 (by decide)]) q7⟩
    obtain ⟨f', g', a1, a2, a3, a4⟩ := c_adv h1
    have e6 : ∀ k, k ≠ 3 → f1 14 k = f 14 k := fun k z => by show am_u2 _ _ _ _ 14 k = _; rw [au_nk z]
    exact ⟨f', g', by rw [a1, cal_some], a2, FRc.trans (f' := f1) (g' := g) ⟨fun a z1 z2 => fr1 a (by omega), rfl, fun _ _ _ _ => rfl⟩ a3.fr, by rw [a4, e6 6 (by decide)], by rw [a4, e6 7 (by decide)]⟩
theorem k_first (hD : DV D) (h : CDT f g B L D t) {o : Nat} (ho : 5 ≤ o ∧ o ≤ 8) {c : Int32} (hc : c = Int32.ofNat (o + 2)) : if D.1 o = 1 then FAc f g (f_X5_isFirst c (f, g)) (if t.1 = 32 then 1 else 2, t.2.1) else ∃ f' g', f_X5_isFirst c (f, g) = some (1, (f', g')) ∧ CDT f' g' B L (sN D.1 o 1, D.2) (tk B L t.2.2.1) ∧ FRc f f' g g' ∧ f' 14 6 = f 14 6 ∧ f' 14 7 = f 14 7 := k_first0 hD.2.2.2.2.2.1 h ho hc
theorem k_one (hD : DV D) (h : CDT f g B L D t) {o v lo hi j : Nat} (ho : 5 ≤ o ∧ o ≤ 8) (hv : 2 ≤ v ∧ v ≤ 4) (hj : j = v + 6) (hlo : lo ≤ 10) (hhi : hi ≤ 1000) {c cl ch : Int32} (hc : c = Int32.ofNat (o + 2)) (hcl : cl = Int32.ofNat lo) (hch : ch = Int32.ofNat hi) : KR f g B L (cal2 (f_X5_isFirst c (f, g)) fun v43 h45 => if v43 = 0 then some (0, h45) else cal2 (f_X5_readNumber cl ch h45) fun v49 h51 => if v49 = 0 then some (0, h51) else bnd (h51.1 14 4) fun v54 => ptI h51 17 j v54 fun h55 => cal2 (f_X5_take 18 h55) fun v59 h61 => zrt v59 (some (v59, h61))) (lOne (tk B L) o v lo hi t D) := by
  have s := k_first hD h ho hc
  unfold lOne
  by_cases c1 : D.1 o = 1
  · rw [if_pos c1] at s ⊢
    exact FAc.iff s (fun h => if_pos rfl)
  · rw [if_neg c1] at s ⊢
    obtain ⟨f1, g1, a1, a2, a3, a4, a5⟩ := s
    rw [a1, cal2_some, if_neg (by decide)]
    refine KR_pre a3 a4 a5 ?_
    refine s_num hlo hhi hcl hch a2 (fun f2 g2 y _ d2 d3 d4 => ?_)
    simp only
    rw [bnd_eq, ptI_eq]
    simp only [d4]
    let f3 := am_u2 f2 17 j (Int32.ofNat y.1)
    have fr3 : ∀ a, a ≠ 17 → f3 a = f2 a := fun a z => u2_ne z
    refine KR_pre (f1 := f3) (g1 := g2) ⟨fun a z1 z2 => fr3 a (by omega), rfl, fun _ _ _ _ => rfl⟩ (by rw [fr3 14 (by decide)]) (by rw [fr3 14 (by decide)]) ?_
    obtain ⟨k1, k2, k3, q1, q2, q3, q4, q5, q6, q7⟩ := d2
    refine s_last (D := (sN (sN D.1 o 1) v y.1, D.2)) ⟨CT_fr (fr3 1 (by decide)) k1, TPc_fr (fr3 1 (by decide)) (fr3 2 (by decide)) k2, k3, ?_⟩
    unfold CD
    simp only
    have f17 : ∀ k, k ≠ j → f3 17 k = f2 17 k := fun k z => au_nk z
    have hbv : bitsO (sN (sN D.1 o 1) v y.1, D.2) = bitsO (sN D.1 o 1, D.2) := bits_D (by omega)
    simp only at q1 q2 q3 q4 q5 q6 q7
    rw [hbv, fr3 14 (by decide), fr3 18 (by decide), fr3 19 (by decide), fr3 20 (by decide), fr3 21 (by decide), fr3 22 (by decide), fr3 23 (by decide), sN_ne (show 0 ≠ v by omega), sN_ne (show 1 ≠ v by omega), sN_ne (show 9 ≠ v by omega), f17 6 (by omega), f17 7 (by omega)]
    have val : ∀ k, 2 ≤ k → k ≤ 4 → f2 17 (k + 6) = Int32.ofNat (sN D.1 o 1 k) → f3 17 (k + 6) = Int32.ofNat (sN (sN D.1 o 1) v y.1 k) := fun k z1 z2 hk => by
      by_cases e : k = v
      · subst e
        rw [sN_same]
        show am_u2 f2 17 j _ 17 (k + 6) = _
        rw [hj, au_same]
      · rw [sN_ne e, f17 (k + 6) (by omega)]; exact hk
    exact ⟨⟨q1.1, q1.2.1, val 2 (by decide) (by decide) q1.2.2.1, val 3 (by decide) (by decide) q1.2.2.2.1, val 4 (by decide) (by decide) q1.2.2.2.2⟩, q2, q3, q4, q5, q6, CLc_cong (fun i _ => by rw [fr3 24 (by decide)]) (fun i _ => by rw [fr3 25 (by decide)]) q7⟩
theorem k_first' (hD : DV D) (h : CDT f g B L (sN D.1 9 0, D.2.1, []) t) : if D.1 5 = 1 then FAc f g (f_X5_isFirst 7 (f, g)) (if t.1 = 32 then 1 else 2, t.2.1) else ∃ f' g', f_X5_isFirst 7 (f, g) = some (1, (f', g')) ∧ CDT f' g' B L (sN (sN D.1 9 0) 5 1, D.2.1, []) (tk B L t.2.2.1) ∧ FRc f f' g g' ∧ f' 14 6 = f 14 6 ∧ f' 14 7 = f 14 7 := by
  have s := k_first0 (D := (sN D.1 9 0, D.2.1, [])) (by
    obtain ⟨-, -, -, -, -, b, -⟩ := hD
    simp only
    rw [sN_ne (show 5 ≠ 9 by decide), sN_ne (show 6 ≠ 9 by decide), sN_ne (show 7 ≠ 9 by decide), sN_ne (show 8 ≠ 9 by decide)]
    exact b) h (o := 5) ⟨by decide, by decide⟩ (c := 7) rfl
  simp only at s
  rw [sN_ne (show 5 ≠ 9 by decide)] at s
  exact s
theorem k_brood (hD : DV D) (h : CDT f g B L D t) : KR f g B L (cal (f_X2_clear_23 (f, g)) fun h21 => cal2 (f_X5_isFirst 7 h21) fun v25 h27 => if v25 = 0 then some (0, h27) else cal2 (f_X5_readPart 60 1 0 h27) fun v31 h33 => if v31 = 0 then some (0, h33) else cal2 (f_X5_take 18 h33) fun v37 h39 => if v37 = 0 then some (0, h39) else some (1, h39)) (lBrood (tk B L) t D) := by
  let f1 := am_u2 (am_u2 f 23 3 0) 23 4 0
  have fr1 : ∀ a, a ≠ 23 → f1 a = f a := fun a z => by show am_u2 (am_u2 _ _ _ _) _ _ _ a = _; rw [u2_ne z, u2_ne z]
  have hcl : f_X2_clear_23 (f, g) = some (f1, g) := by
    unfold f_X2_clear_23
    rw [ptI_eq, ptI_eq]
  rw [hcl, cal_some]
  have h1 : CDT f1 g B L (sN D.1 9 0, D.2.1, []) t := by
    obtain ⟨k1, k2, k3, q1, q2, q3, q4, q5, q6, q7⟩ := h
    refine ⟨CT_fr (fr1 1 (by decide)) k1, TPc_fr (fr1 1 (by decide)) (fr1 2 (by decide)) k2, k3, ?_⟩
    unfold CD
    simp only
    rw [bits_D (by decide), fr1 14 (by decide), fr1 17 (by decide), fr1 18 (by decide), fr1 19 (by decide), fr1 20 (by decide), fr1 21 (by decide), fr1 22 (by decide), sN_ne (show 0 ≠ 9 by decide), sN_ne (show 1 ≠ 9 by decide), sN_ne (show 2 ≠ 9 by decide), sN_ne (show 3 ≠ 9 by decide), sN_ne (show 4 ≠ 9 by decide), sN_same]
    exact ⟨q1, q2, q3, q4, by show am_u2 _ 23 4 _ 23 3 = _; rw [au_nk (by decide), au_same]; rfl, au_same, trivial⟩
  refine KR_pre (f1 := f1) (g1 := g) ⟨fun a z1 z2 => fr1 a (by omega), rfl, fun _ _ _ _ => rfl⟩ (by rw [fr1 14 (by decide)]) (by rw [fr1 14 (by decide)]) ?_
  have hD1 : ∀ k, k ≠ 9 → sN D.1 9 0 k = D.1 k := fun k z => sN_ne z
  have s := k_first' hD h1
  unfold lBrood
  by_cases c1 : D.1 5 = 1
  · rw [if_pos c1] at s ⊢
    exact FAc.iff s (fun h => if_pos rfl)
  · rw [if_neg c1] at s ⊢
    obtain ⟨f2, g2, a1, a2, a3, a4, a5⟩ := s
    rw [a1, cal2_some, if_neg (by decide)]
    refine KR_pre a3 a4 a5 ?_
    obtain ⟨k1, k2, k3, q1, q2, q3, q4, q5, q6, q7⟩ := a2
    have z := SZ_pe (B := B) (L := L) 60 1 0 (tk B L t.2.2.1) 0 [] (by decide) k3
    have cs := c_pe (B := B) (L := L) 60 1 0 (by decide) (by decide) (by decide) (by decide) (tk B L t.2.2.1) 0 [] f2 g2 k3 (by simp) (by decide) ⟨k1, k2, q5, by rw [q6]; simp [sN], trivial⟩
    have e1 : Int32.ofNat 1 = 1 := rfl
    have e0 : Int32.ofNat 0 = 0 := rfl
    rw [e1, e0] at cs
    revert cs z
    generalize PE (tk B L) 60 1 0 (tk B L t.2.2.1) 0 [] = r
    intro z cs
    rcases r with ⟨c, p⟩ | ⟨t', u', C'⟩
    · obtain ⟨f3, g3, b1, b2, b3, b4⟩ := cs
      rw [b1, cal2_some, if_pos rfl]
      exact ⟨f3, g3, rfl, b2, b3, ⟨fun a z1 z2 => b4.1 a z1 (by omega) (by omega) (by omega) (by omega), b4.2.2.1, fun a z1 _ _ => b4.2.2.2 a z1⟩⟩
    · obtain ⟨f3, g3, b1, ⟨m1, m2, m3, m4, m5⟩, b3, b4⟩ := cs
      obtain ⟨z1, z2, z3, z4⟩ := z
      rw [b1, cal2_some, if_neg (by decide), bR_r]
      refine KR_pre (f1 := f3) (g1 := g3) ⟨fun a z1 z2 => b3.1 a z1 (by omega) (by omega) (by omega) (by omega), b3.2.2.1, fun a z1 _ _ => b3.2.2.2 a z1⟩ (by rw [b4]) (by rw [b4]) ?_
      have f3r : ∀ a, a ≠ 1 → a ≠ 23 → a ≠ 24 → a ≠ 25 → f3 a = f2 a := fun a z1 z2 z3 z4 => by
        by_cases e : a = 14
        · rw [e]; exact b4
        · exact b3.1 a z1 e z2 z3 z4
      have h3 : CDT f3 g3 B L (sN (sN D.1 5 1) 9 u', D.2.1, C') t' := by
        refine ⟨m1, m2, z4, ?_⟩
        unfold CD
        simp only
        simp only at q1 q2 q3 q4 q5 q6 q7
        rw [f3r 14 (by decide) (by decide) (by decide) (by decide), f3r 17 (by decide) (by decide) (by decide) (by decide), f3r 18 (by decide) (by decide) (by decide) (by decide), f3r 19 (by decide) (by decide) (by decide) (by decide), f3r 20 (by decide) (by decide) (by decide) (by decide), f3r 21 (by decide) (by decide) (by decide) (by decide), f3r 22 (by decide) (by decide) (by decide) (by decide), b3.2.2.2 15 (by decide), b3.2.2.2 16 (by decide)]
        have ss : ∀ k, k ≠ 9 → sN (sN D.1 5 1) 9 u' k = sN (sN D.1 9 0) 5 1 k := fun k hk => by
          rw [sN_ne hk]
          by_cases e : k = 5
          · rw [e, sN_same, sN_same]
          · rw [sN_ne e, sN_ne e, sN_ne hk]
        have hbits : bitsO (sN (sN D.1 5 1) 9 u', D.2.1, C') = bitsO (sN (sN D.1 9 0) 5 1, D.2.1, []) := by
          unfold bitsO
          simp only
          rw [ss 5 (by decide), ss 6 (by decide), ss 7 (by decide), ss 8 (by decide)]
        rw [hbits, ss 0 (by decide), ss 1 (by decide), ss 2 (by decide), ss 3 (by decide), ss 4 (by decide), sN_same]
        exact ⟨q1, q2, q3, q4, m3, m4, m5⟩
      have s := c_take h3 (k := 18) (by decide)
      have e : Int32.ofNat 18 = 18 := rfl
      rw [e] at s
      simp only
      rcases hx : pTk (tk B L) 18 t' with e | t''
      · rw [hx] at s
        exact FAc.iff s (fun h => if_pos rfl)
      · rw [hx] at s
        obtain ⟨f4, g4, d1, d2, d3⟩ := s
        rw [bR_r]
        exact ⟨f4, g4, by rw [d1, cal2_some, if_neg (by decide)], d2, d3.fr, d3.f67.1, d3.f67.2⟩
end KB
