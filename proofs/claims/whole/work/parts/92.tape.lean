/-! the tape of both -/
def BY (a m : Int32) : Prop := ∃ v, v < 256 ∧ a = Int32.ofNat v ∧ m = (if v < 128 then Int32.ofNat v else Int32.ofNat v - 256)
theorem BY_of (z : Int32) : BY (z &&& 255) z.toInt8.toInt32 := by
  have hn : z.toBitVec.toNat < 4294967296 := z.toBitVec.isLt
  refine ⟨z.toBitVec.toNat % 256, by omega, ?_, ?_⟩
  · apply Int32.toBitVec_inj.mp
    apply BitVec.eq_of_toNat_eq
    rw [Int32.toBitVec_and, BitVec.toNat_and]
    show z.toBitVec.toNat &&& 255 = (BitVec.ofNat 32 (z.toBitVec.toNat % 256)).toNat
    rw [BitVec.toNat_ofNat, show (255 : Nat) = 2 ^ 8 - 1 from rfl, Nat.and_two_pow_sub_one_eq_mod]
    omega
  · rw [← Int32.toInt_inj, Int8.toInt_toInt32, Int32.toInt_toInt8]
    have e : z.toInt = if 2 * z.toBitVec.toNat < 4294967296 then (z.toBitVec.toNat : Int) else (z.toBitVec.toNat : Int) - 4294967296 := BitVec.toInt_eq_toNat_cond z.toBitVec
    have e256 : (256 : Int32).toInt = 256 := rfl
    by_cases c : z.toBitVec.toNat % 256 < 128
    · rw [if_pos c, on_toInt (by omega), e]
      simp only [Int.bmod]
      split <;> split <;> omega
    · rw [if_neg c, ti_sub (by rw [on_toInt (by omega), e256]; omega) (by rw [on_toInt (by omega), e256]; omega), on_toInt (by omega), e, e256]
      simp only [Int.bmod]
      split <;> split <;> omega
def IT (f : Nat → Nat → Int32) : Prop := ∃ L, L ≤ 1600 ∧ f 1 3 = Int32.ofNat L ∧ f 413 2 = Int32.ofNat L ∧ ∀ i, i < L → BY (f 2 i) (f 414 i)
def shA (j : Nat) : Int32 := Int32.ofNat (24 - 8 * j)
section TF
variable {f : Nat → Nat → Int32} {g : (Nat → Nat → Int64) × (Nat → Nat → Option Nat)}
theorem put_1 {p x2 : Int32} {n L : Nat} (h2 : ¬ x2 < 0) (hL : L < 1600) (h13 : f 1 3 = Int32.ofNat L) : lp_X9_put_3 p (n + 1) x2 (f, g) = lp_X9_put_3 p n (x2 + (-8)) (am_u2 (am_u2 f 2 L ((p >>> (x2 &&& 31)) &&& 255)) 1 3 (Int32.ofNat (L + 1)), g) := by
  have hl : Int32.ofNat L < 1600 := by
    rw [show (1600 : Int32) = Int32.ofNat 1600 from rfl, on_lt (by omega) (by omega)]; exact hL
  rw [lp_X9_put_3, if_neg h2, bnd_eq]
  simp only [h13]
  rw [if_neg (nneg (by omega)), bnd_eq, if_pos hl, bnd_eq, wrI_n (by omega) (by decide), bnd_eq, ptI_eq]
  simp only [u2_ne (show (1 : Nat) ≠ 2 by decide), h13, on_succ]
theorem X9_put {p : Int32} {L : Nat} (hL : L + 4 ≤ 1600) (h13 : f 1 3 = Int32.ofNat L) : ∃ f', f_X9_put p (f, g) = some (f', g) ∧ f' 1 3 = Int32.ofNat (L + 4) ∧ (∀ i, i < L → f' 2 i = f 2 i) ∧ (∀ j, j < 4 → f' 2 (L + j) = ((p >>> (shA j &&& 31)) &&& 255)) ∧ (∀ k, k ≠ 3 → f' 1 k = f 1 k) ∧ ∀ a, a ≠ 1 → a ≠ 2 → f' a = f a := by
  unfold f_X9_put
  rw [show (4000 : Nat) = 3995 + 1 + 1 + 1 + 1 + 1 from rfl, put_1 (by decide) (by omega) h13, put_1 (L := L + 1) (by decide) (by omega) au_same, put_1 (L := L + 1 + 1) (by decide) (by omega) au_same, put_1 (L := L + 1 + 1 + 1) (by decide) (by omega) au_same, lp_X9_put_3, if_pos (by decide)]
  refine ⟨_, rfl, au_same, fun i hi => ?_, fun j hj => ?_, fun k hk => ?_, fun a h1 h2 => ?_⟩
  · rw [u2_ne (show (2 : Nat) ≠ 1 by decide), au_nk (by omega), u2_ne (show (2 : Nat) ≠ 1 by decide), au_nk (by omega), u2_ne (show (2 : Nat) ≠ 1 by decide), au_nk (by omega), u2_ne (show (2 : Nat) ≠ 1 by decide), au_nk (by omega)]
  · rw [u2_ne (show (2 : Nat) ≠ 1 by decide)]
    by_cases e3 : j = 3
    · subst e3; rw [au_same]; rfl
    · rw [au_nk (by omega), u2_ne (show (2 : Nat) ≠ 1 by decide)]
      by_cases e2 : j = 2
      · subst e2; rw [au_same]; rfl
      · rw [au_nk (by omega), u2_ne (show (2 : Nat) ≠ 1 by decide)]
        by_cases e1 : j = 1
        · subst e1; rw [au_same]; rfl
        · obtain rfl : j = 0 := by omega
          rw [au_nk (by omega), u2_ne (show (2 : Nat) ≠ 1 by decide), Nat.add_zero, au_same]; rfl
  · rw [au_nk hk, u2_ne (show (1 : Nat) ≠ 2 by decide), au_nk hk, u2_ne (show (1 : Nat) ≠ 2 by decide), au_nk hk, u2_ne (show (1 : Nat) ≠ 2 by decide), au_nk hk, u2_ne (show (1 : Nat) ≠ 2 by decide)]
  · rw [u2_ne h1, u2_ne h2, u2_ne h1, u2_ne h2, u2_ne h1, u2_ne h2, u2_ne h1, u2_ne h2]
def arg5 (p1 p2 p3 p4 p5 : Int32) (i : Nat) : Int32 := if i < 4 then p1 else if i < 8 then p2 else if i < 12 then p3 else if i < 16 then p4 else p5
def byI (arg : Nat → Int32) (i : Nat) : Int32 := arg i >>> (shA (i % 4) &&& 31)
theorem m_feed (p1 p2 p3 p4 p5 : Int32) {L : Nat} (hL : L + 20 ≤ 1600) {K : am_H → Option (Int32 × am_H)} : ∀ m n i (f : Nat → Nat → Int32), i + m = 20 → f 413 2 = Int32.ofNat L → ∃ f', lp_X12_feed_18 p1 p2 p3 p4 p5 K (n + m + 1) (Int32.ofNat i) (f, g) = K (f', g) ∧ (∀ a, a ≠ 414 → f' a = f a) ∧ (∀ j, j < L + i → f' 414 j = f 414 j) ∧ ∀ j, i ≤ j → j < 20 → f' 414 (L + j) = (byI (arg5 p1 p2 p3 p4 p5) j).toInt8.toInt32 := by
  intro m
  induction m with
  | zero =>
    intro n i f hi h2
    obtain rfl : i = 20 := by omega
    rw [lp_X12_feed_18, if_neg (by decide)]
    exact ⟨f, rfl, fun _ _ => rfl, fun _ _ => rfl, fun j z1 z2 => by omega⟩
  | succ m ih =>
    intro n i f hi h2
    have lt : ∀ (M : Int32) (N : Nat), M = Int32.ofNat N → N ≤ 20 → (Int32.ofNat i < M ↔ i < N) := fun M N hM hN => by rw [hM]; exact on_lt (by omega) (by omega)
    have j71 : ∀ y0, jn_X12_feed_71 (lp_X12_feed_18 p1 p2 p3 p4 p5 K (n + m + 1)) p1 p2 p3 p4 p5 (Int32.ofNat i) y0 (f, g) = lp_X12_feed_18 p1 p2 p3 p4 p5 K (n + m + 1) (Int32.ofNat (i + 1)) (am_u2 f 414 (L + i) ((y0 >>> (shA (i % 4) &&& 31)).toInt8.toInt32), g) := fun y0 => by
      have e : ∀ i : Fin 20, (24 : Int32) - 8 * (Int32.ofNat i.val &&& 3) = shA (i.val % 4) := by decide
      unfold jn_X12_feed_71
      rw [bnd_eq]
      simp only [h2]
      rw [on_add, wrI_n (by omega) (by decide), on_succ, vp_nar_byte, e ⟨i, by omega⟩]
      have e8 : ∀ z : Int32, z.toInt8.toInt32.toInt8.toInt32 = z.toInt8.toInt32 := fun z => by
        rw [Int8.toInt8_toInt32]
      rw [e8]
    obtain ⟨f', a1, a2, a3, a4⟩ := ih n (i + 1) (am_u2 f 414 (L + i) ((byI (arg5 p1 p2 p3 p4 p5) i).toInt8.toInt32)) (by omega) (by rw [u2_ne (by decide)]; exact h2)
    refine ⟨f', ?_, fun a z => by rw [a2 a z, u2_ne z], fun j hj => by rw [a3 j (by omega), au_nk (by omega)], fun j z1 z2 => ?_⟩
    · rw [← a1, show n + (m + 1) + 1 = n + m + 1 + 1 from rfl, lp_X12_feed_18, if_pos ((lt 20 20 rfl (by decide)).mpr (by omega))]
      unfold byI arg5
      by_cases c1 : i < 4
      · rw [if_pos ((lt 4 4 rfl (by decide)).mpr c1), if_pos c1, j71]
      · rw [if_neg (fun z => c1 ((lt 4 4 rfl (by decide)).mp z)), if_neg c1]
        by_cases c2 : i < 8
        · rw [if_pos ((lt 8 8 rfl (by decide)).mpr c2), if_pos c2, j71]
        · rw [if_neg (fun z => c2 ((lt 8 8 rfl (by decide)).mp z)), if_neg c2]
          by_cases c3 : i < 12
          · rw [if_pos ((lt 12 12 rfl (by decide)).mpr c3), if_pos c3, j71]
          · rw [if_neg (fun z => c3 ((lt 12 12 rfl (by decide)).mp z)), if_neg c3]
            by_cases c4 : i < 16
            · rw [if_pos ((lt 16 16 rfl (by decide)).mpr c4), if_pos c4, j71]
            · rw [if_neg (fun z => c4 ((lt 16 16 rfl (by decide)).mp z)), if_neg c4, j71]
    · by_cases e : j = i
      · subst e; rw [a3 _ (by omega), au_same]
      · exact a4 j (by omega) z2
def TH (f : Nat → Nat → Int32) (g : (Nat → Nat → Int64) × (Nat → Nat → Option Nat)) (C M : am_H → Option (Int32 × am_H)) : Prop := ∃ v f1 f2, C (f, g) = some (v, (f1, g)) ∧ M (f1, g) = some (v, (f2, g)) ∧ (∀ a, a ≠ 1 → a ≠ 2 → f1 a = f a) ∧ (∀ a, a ≠ 413 → a ≠ 414 → f2 a = f1 a) ∧ (∀ k, k ≠ 2 → f2 413 k = f1 413 k) ∧ (∀ k, k ≠ 3 → f1 1 k = f 1 k) ∧ IT f2
theorem q_feed (I : IT f) (p1 p2 p3 p4 p5 : Int32) : TH f g (f_X11_feed p1 p2 p3 p4 p5) (f_X12_feed p1 p2 p3 p4 p5) := by
  have I0 := I
  obtain ⟨L, hL, h1, h2, h3⟩ := I
  have e1 : (1580 : Int32) < Int32.ofNat L ↔ 1580 < L := by
    rw [show (1580 : Int32) = Int32.ofNat 1580 from rfl, on_lt (by omega) (by omega)]
  have e2 : (1600 : Int32) < Int32.ofNat L + 20 ↔ 1580 < L := by
    rw [show (1600 : Int32) = Int32.ofNat 1600 from rfl, show (20 : Int32) = Int32.ofNat 20 from rfl, on_add, on_lt (by omega) (by omega)]; omega
  by_cases c : 1580 < L
  · refine ⟨-1, f, f, ?_, ?_, fun _ _ _ => rfl, fun _ _ _ => rfl, fun _ _ => rfl, fun _ _ => rfl, I0⟩
    · unfold f_X11_feed
      rw [bnd_eq]
      simp only [h1]
      rw [if_pos (e1.mpr c)]
    · unfold f_X12_feed
      rw [bnd_eq]
      simp only [h2]
      rw [if_pos (e2.mpr c)]
  · let A := arg5 p1 p2 p3 p4 p5
    have step : ∀ {f fk : Nat → Nat → Int32} {p : Int32} {K : Nat}, K ≤ 16 → (∀ j, j < 4 → A (K + j) = p) → K % 4 = 0 → fk 1 3 = Int32.ofNat (L + K) → (∀ i, i < L → fk 2 i = f 2 i) → (∀ i, i < K → fk 2 (L + i) = (byI A i &&& 255)) → (∀ k, k ≠ 3 → fk 1 k = f 1 k) → (∀ a, a ≠ 1 → a ≠ 2 → fk a = f a) → ∃ f', f_X9_put p (fk, g) = some (f', g) ∧ f' 1 3 = Int32.ofNat (L + (K + 4)) ∧ (∀ i, i < L → f' 2 i = f 2 i) ∧ (∀ i, i < K + 4 → f' 2 (L + i) = (byI A i &&& 255)) ∧ (∀ k, k ≠ 3 → f' 1 k = f 1 k) ∧ ∀ a, a ≠ 1 → a ≠ 2 → f' a = f a := fun hK hA h4 q1 q2 q3 q4 q5 => by
      obtain ⟨f', b1, b2, b3, b4, b5, b6⟩ := X9_put (g := g) (by omega) q1
      refine ⟨f', b1, by rw [b2, Nat.add_assoc], fun i hi => by rw [b3 i (by omega), q2 i hi], fun i hi => ?_, fun k hk => by rw [b5 k hk, q4 k hk], fun a z1 z2 => by rw [b6 a z1 z2, q5 a z1 z2]⟩
      rename_i f0 fk0 p0 K0
      by_cases ci : i < K0
      · rw [b3 _ (by omega), q3 i ci]
      · obtain ⟨j, rfl⟩ : ∃ j, i = K0 + j := ⟨i - K0, by omega⟩
        rw [← Nat.add_assoc, b4 j (by omega), byI, hA j (by omega), show (K0 + j) % 4 = j by omega]
    obtain ⟨f1, a1, a2, a3, a4, a5, a6⟩ := step (f := f) (fk := f) (p := p1) (K := 0) (by decide) (fun j hj => by simp only [A, arg5]; rw [if_pos (by omega)]) rfl h1 (fun _ _ => rfl) (fun i hi => by omega) (fun _ _ => rfl) (fun _ _ _ => rfl)
    obtain ⟨f2, b1, b2, b3, b4, b5, b6⟩ := step (f := f) (fk := f1) (p := p2) (K := 4) (by decide) (fun j hj => by simp only [A, arg5]; rw [if_neg (by omega), if_pos (by omega)]) rfl a2 a3 a4 a5 a6
    obtain ⟨f3, c1, c2, c3, c4, c5, c6⟩ := step (f := f) (fk := f2) (p := p3) (K := 8) (by decide) (fun j hj => by simp only [A, arg5]; rw [if_neg (by omega), if_neg (by omega), if_pos (by omega)]) rfl b2 b3 b4 b5 b6
    obtain ⟨f4, d1, d2, d3, d4, d5, d6⟩ := step (f := f) (fk := f3) (p := p4) (K := 12) (by decide) (fun j hj => by simp only [A, arg5]; rw [if_neg (by omega), if_neg (by omega), if_neg (by omega), if_pos (by omega)]) rfl c2 c3 c4 c5 c6
    obtain ⟨f5, g1, g2, g3, g4, g5, g6⟩ := step (f := f) (fk := f4) (p := p5) (K := 16) (by decide) (fun j hj => by simp only [A, arg5]; rw [if_neg (by omega), if_neg (by omega), if_neg (by omega), if_neg (by omega)]) rfl d2 d3 d4 d5 d6
    have m2 : f5 413 2 = Int32.ofNat L := by rw [g6 413 (by decide) (by decide)]; exact h2
    obtain ⟨f6, k1, k2, k3, k4⟩ := m_feed (g := g) p1 p2 p3 p4 p5 (L := L) (by omega) (K := fun h6 => bnd (h6.1 413 2) fun v8 => ptI h6 413 2 (v8 + 20) fun h9 => bnd (h9.1 413 2) fun v12 => some (v12, h9)) 20 3979 0 f5 rfl m2
    have k1' : lp_X12_feed_18 p1 p2 p3 p4 p5 (fun h6 => bnd (h6.1 413 2) fun v8 => ptI h6 413 2 (v8 + 20) fun h9 => bnd (h9.1 413 2) fun v12 => some (v12, h9)) 4000 0 (f5, g) = _ := k1
    have e20 : Int32.ofNat L + 20 = Int32.ofNat (L + 20) := on_add L 20
    have m62 : f6 413 2 = Int32.ofNat L := by rw [k2 413 (by decide)]; exact m2
    refine ⟨Int32.ofNat (L + 20), f5, am_u2 f6 413 2 (Int32.ofNat (L + 20)), ?_, ?_, g6, fun a z1 z2 => by rw [u2_ne z1, k2 a z2], fun k z => by rw [au_nk z, k2 413 (by decide)], g5, L + 20, by omega, by rw [u2_ne (by decide), k2 1 (by decide)]; exact g2, au_same, fun i hi => ?_⟩
    · unfold f_X11_feed
      rw [bnd_eq]
      simp only [h1]
      rw [if_neg (fun z => c (e1.mp z)), a1, cal_some, b1, cal_some, c1, cal_some, d1, cal_some, g1, cal_some, bnd_eq]
      simp only [g2]
    · unfold f_X12_feed
      rw [bnd_eq]
      simp only [m2]
      rw [if_neg (fun z => c (e2.mp z)), k1', bnd_eq, ptI_eq, bnd_eq]
      simp only [m62, e20, au_same]
    · rw [u2_ne (by decide), u2_ne (by decide), k2 2 (by decide)]
      by_cases ci : i < L
      · rw [g3 i ci, k3 i (by omega), g6 414 (by decide) (by decide)]
        exact h3 i ci
      · obtain ⟨j, rfl⟩ : ∃ j, i = L + j := ⟨i - L, by omega⟩
        rw [g4 j (by omega), k4 j (Nat.zero_le _) (by omega)]
        exact BY_of _
theorem q_end (I : IT f) (x : Int32) : TH f g (f_X11_end x) (f_X12_end x) := by
  have I0 := I
  obtain ⟨L, hL, h1, h2, h3⟩ := I
  have same : ∀ h1 : f_X11_end x (f, g) = some (-1, (f, g)), ∀ h2 : f_X12_end x (f, g) = some (-1, (f, g)), TH f g (f_X11_end x) (f_X12_end x) := fun z1 z2 => ⟨-1, f, f, z1, z2, fun _ _ _ => rfl, fun _ _ _ => rfl, fun _ _ => rfl, fun _ _ => rfl, I0⟩
  by_cases c : x < 0
  · refine same ?_ ?_
    · unfold f_X11_end; rw [if_pos c]
    · unfold f_X12_end; rw [if_pos c]
  · by_cases c2 : Int32.ofNat L < x
    · refine same ?_ ?_
      · unfold f_X11_end; rw [if_neg c, bnd_eq]; simp only [h1]; rw [if_pos c2]
      · unfold f_X12_end; rw [if_neg c, bnd_eq]; simp only [h2]; rw [if_pos c2]
    · have hx : ∃ j, j ≤ L ∧ x = Int32.ofNat j := by
        rw [Int32.lt_iff_toInt_lt, ti_0] at c
        rw [Int32.lt_iff_toInt_lt, on_toInt (by omega)] at c2
        exact ⟨x.toInt.toNat, by omega, by rw [← Int32.toInt_inj, on_toInt (by omega)]; omega⟩
      obtain ⟨j, hj, rfl⟩ := hx
      refine ⟨Int32.ofNat j, am_u2 f 1 3 (Int32.ofNat j), am_u2 (am_u2 f 1 3 (Int32.ofNat j)) 413 2 (Int32.ofNat j), ?_, ?_, fun a z1 z2 => u2_ne z1, fun a z1 z2 => u2_ne z1, fun k z => au_nk z, fun k z => au_nk z, j, by omega, by rw [u2_ne (by decide), au_same], au_same, fun i hi => ?_⟩
      · unfold f_X11_end; rw [if_neg c, bnd_eq]; simp only [h1]; rw [if_neg c2, ptI_eq]
      · unfold f_X12_end; rw [if_neg c, bnd_eq]; simp only [u2_ne (show (413 : Nat) ≠ 1 by decide), h2]; rw [if_neg c2, ptI_eq]
      · rw [u2_ne (by decide), u2_ne (by decide), u2_ne (by decide), u2_ne (by decide)]
        exact h3 i (by omega)
end TF
