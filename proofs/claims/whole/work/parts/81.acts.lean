/-! Acts: what both keep -/
def GR (g : (Nat → Nat → Int64) × (Nat → Nat → Option Nat)) (pi : Nat → Nat) : Prop := (∀ i, i < 41 → g.2 45 i = some (46 + 8 * pi i) ∧ pi i < 41) ∧ ∀ i j, i < 41 → j < 41 → pi i = pi j → i = j
def rw59 (f : Nat → Nat → Int32) (i : Nat) : Nat → Int32 := fun k => f 439 (59 * i + k)
/-- a row that may be now -/
def WR (nr : Nat) (hold q : Nat → Int32) : Prop := WQ nr q ∧ WL nr hold q ∧ (0 ≤ (q 56).toInt ∧ (q 56).toInt ≤ 99) ∧ 0 ≤ (q 57).toInt ∧ (q 57).toInt ≤ 999
theorem WR_59 {nr : Nat} {hold q q' : Nat → Int32} (h : ∀ k, k < 59 → q' k = q k) (W : WR nr hold q) : WR nr hold q' := ⟨WQ_59 h W.1, WL_59 h W.2.1, by rw [h 56 (by decide)]; exact W.2.2.1, by rw [h 57 (by decide)]; exact W.2.2.2⟩
/-- which row of the model's the class's i-th one is, when d of them are done -/
def rowAt (f : Nat → Nat → Int32) (d i : Nat) : Nat → Int32 := if i < d then rw59 f i else if i = d then f 437 else rw59 f (i - 1)
def IA (f : Nat → Nat → Int32) (g : (Nat → Nat → Int64) × (Nat → Nat → Option Nat)) (nr : Nat) (hold : Nat → Int32) : Prop := ∃ (pi : Nat → Nat) (d a : Nat), GR g pi ∧ d ≤ a ∧ a ≤ 40 ∧ f 44 1 = Int32.ofNat d ∧ f 44 2 = Int32.ofNat a ∧ f 413 44 = Int32.ofNat d ∧ f 413 45 = Int32.ofNat (a - d) ∧ (∀ i, i ≤ a → RC (46 + 8 * pi i) (rowAt f d i) f) ∧ ∀ i, i < a → WR nr hold (rw59 f i)
theorem rdR_n {ρ : Type} {h : am_H} {a n j x : Nat} {F : Nat → Option ρ} (hj : j < n) (hn : n ≤ 2147483648) (hx : h.2.2 a j = some x) : rdR h a n (Int32.ofNat j) F = F x := by
  unfold rdR
  rw [if_pos (on_in hj hn), on_nat (by omega), hx]
theorem wrR_n {ρ : Type} {h : am_H} {a n j v : Nat} {F : am_H → Option ρ} (hj : j < n) (hn : n ≤ 2147483648) : wrR h a n (Int32.ofNat j) v F = F (h.1, h.2.1, am_u2 h.2.2 a j (some v)) := by
  unfold wrR
  rw [if_pos (on_in hj hn), on_nat (by omega)]
section CA
variable {f : Nat → Nat → Int32} {g : (Nat → Nat → Int64) × (Nat → Nat → Option Nat)} {pi : Nat → Nat} {q : Nat → Int32}
theorem not_40 {i : Nat} (h : i ≤ 40) : ¬ (40 : Int32) < Int32.ofNat i := by
  rw [show (40 : Int32) = Int32.ofNat 40 from rfl, on_lt (by omega) (by omega)]; omega
theorem nneg {i : Nat} (h : i < 2147483648) : ¬ Int32.ofNat i < 0 := by
  rw [Int32.lt_iff_toInt_lt, on_toInt h, ti_0]; omega
theorem X0_write (G : GR g pi) {i : Nat} (hi : i ≤ 40) (R : RC 27 q f) : ∃ f', f_X0_write (Int32.ofNat i) 27 (f, g) = some (f', g) ∧ RC (46 + 8 * pi i) q f' ∧ ∀ a, ¬ (46 + 8 * pi i ≤ a ∧ a < 46 + 8 * pi i + 8) → f' a = f a := by
  obtain ⟨g1, g2⟩ := G.1 i (by omega)
  obtain ⟨f', a1, a2, a3⟩ := X7_copyFrom (g := g) (d := 46 + 8 * pi i) (s := 27) (Or.inr (by omega)) R
  unfold f_X0_write
  rw [if_neg (nneg (by omega)), if_neg (not_40 hi), rdR_n (h := (f, g)) (by omega) (by decide) g1, a1, cal_some]
  exact ⟨f', rfl, a2, a3⟩
theorem X0_read (G : GR g pi) {i : Nat} (hi : i ≤ 40) (R : RC (46 + 8 * pi i) q f) : ∃ f', f_X0_read (Int32.ofNat i) 27 (f, g) = some (f', g) ∧ RC 27 q f' ∧ ∀ a, ¬ (27 ≤ a ∧ a < 27 + 8) → f' a = f a := by
  obtain ⟨g1, g2⟩ := G.1 i (by omega)
  obtain ⟨f', a1, a2, a3⟩ := X7_copyFrom (g := g) (d := 27) (s := 46 + 8 * pi i) (Or.inl (by omega)) R
  unfold f_X0_read
  rw [if_neg (nneg (by omega)), if_neg (not_40 hi), rdR_n (h := (f, g)) (by omega) (by decide) g1, a1, cal_some]
  exact ⟨f', rfl, a2, a3⟩
/-- the oldest one goes behind all -/
theorem c_drop {u : Nat} {k : am_H → Option am_H} : ∀ m n i (g : (Nat → Nat → Int64) × (Nat → Nat → Option Nat)), i + m = 40 → (∀ j, j < 41 → ∃ x, g.2 45 j = some x) → ∃ r, lp_X0_dropOldest_9 u k (n + m + 1) (Int32.ofNat i) (f, g) = k (f, g.1, r) ∧ (∀ a, a ≠ 45 → r a = g.2 a) ∧ (∀ j, j < i → r 45 j = g.2 45 j) ∧ (∀ j, i ≤ j → j < 40 → r 45 j = g.2 45 (j + 1)) ∧ ∀ j, 40 ≤ j → r 45 j = g.2 45 j := by
  intro m
  induction m with
  | zero =>
    intro n i g hi _
    obtain rfl : i = 40 := by omega
    rw [lp_X0_dropOldest_9, if_neg (by decide)]
    exact ⟨g.2, rfl, fun _ _ => rfl, fun _ _ => rfl, fun j h1 h2 => by omega, fun _ _ => rfl⟩
  | succ m ih =>
    intro n i g hi hx
    have hl : Int32.ofNat i < 40 := by
      rw [show (40 : Int32) = Int32.ofNat 40 from rfl, on_lt (by omega) (by omega)]; omega
    obtain ⟨x, hx1⟩ := hx (i + 1) (by omega)
    rw [lp_X0_dropOldest_9, if_pos hl, on_succ, rdR_n (h := (f, g)) (j := i + 1) (by omega) (by decide) hx1, wrR_n (by omega) (by decide)]
    obtain ⟨r, a1, a2, a3, a4, a5⟩ := ih n (i + 1) (g.1, am_u2 g.2 45 i (some x)) (by omega) (fun j hj => by
      by_cases e : j = i
      · subst e; exact ⟨x, by simp [am_u2]⟩
      · obtain ⟨y, hy⟩ := hx j hj
        exact ⟨y, by simp [am_u2, e, hy]⟩)
    refine ⟨r, a1, fun a ha => ?_, fun j hj => ?_, fun j h1 h2 => ?_, fun j hj => ?_⟩
    · rw [a2 a ha]
      funext y
      simp [am_u2, ha]
    · rw [a3 j (by omega)]
      have : ¬ j = i := by omega
      simp [am_u2, this]
    · by_cases e : j = i
      · subst e
        rw [a3 j (by omega)]
        simp [am_u2, hx1]
      · rw [a4 j (by omega) h2]
        have : ¬ j + 1 = i := by omega
        simp [am_u2, this]
    · rw [a5 j hj]
      have : ¬ j = i := by omega
      simp [am_u2, this]
theorem X0_drop (G : GR g pi) : ∃ g', f_X0_dropOldest (f, g) = some (f, g') ∧ GR g' (fun i => if i < 40 then pi (i + 1) else pi 0) ∧ g'.1 = g.1 ∧ ∀ a, a ≠ 45 → g'.2 a = g.2 a := by
  obtain ⟨g0, p0⟩ := G.1 0 (by decide)
  obtain ⟨r, a1, a2, a3, a4, a5⟩ := c_drop (f := f) (u := 46 + 8 * pi 0) (k := fun h8 => wrR h8 45 41 40 (46 + 8 * pi 0) fun h10 => some h10) 40 3959 0 g rfl (fun j hj => ⟨_, (G.1 j hj).1⟩)
  refine ⟨(g.1, am_u2 r 45 40 (some (46 + 8 * pi 0))), ?_, ⟨fun i hi => ?_, fun i j hi hj h => ?_⟩, rfl, fun a ha => ?_⟩
  · unfold f_X0_dropOldest
    have e0 : ∀ F : Nat → Option am_H, rdR (f, g) 45 41 0 F = F (46 + 8 * pi 0) := fun F => rdR_n (h := (f, g)) (j := 0) (by decide) (by decide) g0
    rw [e0]
    have a1' : lp_X0_dropOldest_9 (46 + 8 * pi 0) (fun h8 => wrR h8 45 41 40 (46 + 8 * pi 0) fun h10 => some h10) 4000 0 (f, g) = _ := a1
    rw [a1']
    exact wrR_n (h := (f, g.1, r)) (j := 40) (by decide) (by decide)
  · by_cases c : i < 40
    · simp only [c, if_true]
      refine ⟨?_, (G.1 (i + 1) (by omega)).2⟩
      have : ¬ i = 40 := by omega
      show am_u2 r 45 40 (some (46 + 8 * pi 0)) 45 i = _
      simp only [am_u2, this, and_false, if_false]
      rw [a4 i (Nat.zero_le _) c]
      exact (G.1 (i + 1) (by omega)).1
    · obtain rfl : i = 40 := by omega
      simp only [Nat.lt_irrefl, if_false]
      refine ⟨?_, p0⟩
      show am_u2 r 45 40 (some (46 + 8 * pi 0)) 45 40 = _
      simp [am_u2]
  · simp only at h
    by_cases c : i < 40
    · by_cases c2 : j < 40
      · rw [if_pos c, if_pos c2] at h
        have := G.2 _ _ (by omega) (by omega) h
        omega
      · rw [if_pos c, if_neg c2] at h
        have := G.2 _ _ (by omega) (by omega) h
        omega
    · by_cases c2 : j < 40
      · rw [if_neg c, if_pos c2] at h
        have := G.2 _ _ (by omega) (by omega) h
        omega
      · omega
  · show am_u2 r 45 40 (some (46 + 8 * pi 0)) a = g.2 a
    rw [← a2 a ha]
    funext y
    simp [am_u2, ha]
/-- keep: where it is written, what else changes -/
theorem X0_keep (G : GR g pi) {d : Nat} (hd : d ≤ 40) (h1 : f 44 1 = Int32.ofNat d) (R : RC 27 q f) : ∃ f' g' pi' e, f_X0_keep 27 (f, g) = some (f', g') ∧ GR g' pi' ∧ (d < 40 ∧ e = d + 1 ∧ pi' = pi ∨ d = 40 ∧ e = 40 ∧ pi' = fun i => if i < 40 then pi (i + 1) else pi 0) ∧ f' 44 1 = Int32.ofNat e ∧ f' 44 2 = Int32.ofNat e ∧ RC (46 + 8 * pi' e) q f' ∧ (∀ a, a ≠ 44 → ¬ (46 + 8 * pi' e ≤ a ∧ a < 46 + 8 * pi' e + 8) → f' a = f a) ∧ g'.1 = g.1 ∧ ∀ a, a ≠ 45 → g'.2 a = g.2 a := by
  unfold f_X0_keep
  rw [bnd_eq]
  simp only [h1]
  by_cases c : d < 40
  · have hl : Int32.ofNat d < 40 := by
      rw [show (40 : Int32) = Int32.ofNat 40 from rfl, on_lt (by omega) (by omega)]; exact c
    rw [if_pos hl, bnd_eq, ptI_eq]
    unfold jn_X0_keep_26
    rw [bnd_eq, ptI_eq, bnd_eq]
    simp only [h1, on_succ]
    have e1 : am_u2 f 44 1 (Int32.ofNat (d + 1)) 44 1 = Int32.ofNat (d + 1) := au_same
    simp only [e1]
    have e2 : am_u2 (am_u2 f 44 1 (Int32.ofNat (d + 1))) 44 2 (Int32.ofNat (d + 1)) 44 1 = Int32.ofNat (d + 1) := by rw [au_nk (by decide), au_same]
    simp only [e2]
    obtain ⟨f', a1, a2, a3⟩ := X0_write (f := am_u2 (am_u2 f 44 1 (Int32.ofNat (d + 1))) 44 2 (Int32.ofNat (d + 1))) G (i := d + 1) (by omega) (RC_frame (fun a h1 h2 => by rw [u2_ne (by omega), u2_ne (by omega)]) R)
    rw [a1, cal_some]
    have n44 : ¬ (46 + 8 * pi (d + 1) ≤ 44 ∧ 44 < 46 + 8 * pi (d + 1) + 8) := by omega
    refine ⟨f', g, pi, d + 1, rfl, G, Or.inl ⟨c, rfl, rfl⟩, ?_, ?_, a2, fun a h1 h2 => ?_, rfl, fun _ _ => rfl⟩
    · rw [a3 44 n44, e2]
    · rw [a3 44 n44, au_same]
    · rw [a3 a h2, u2_ne h1, u2_ne h1]
  · obtain rfl : d = 40 := by omega
    rw [if_neg (by decide)]
    obtain ⟨g', b1, b2, b3, b4⟩ := X0_drop (f := f) G
    rw [b1, cal_some]
    unfold jn_X0_keep_26
    rw [bnd_eq, ptI_eq, bnd_eq]
    simp only [h1]
    have e2 : am_u2 f 44 2 (Int32.ofNat 40) 44 1 = Int32.ofNat 40 := by rw [au_nk (by decide)]; exact h1
    simp only [e2]
    obtain ⟨f', a1, a2, a3⟩ := X0_write (f := am_u2 f 44 2 (Int32.ofNat 40)) b2 (i := 40) (by omega) (RC_frame (fun a h1 h2 => by rw [u2_ne (by omega)]) R)
    rw [a1, cal_some]
    have n44 : ¬ (46 + 8 * (if 40 < 40 then pi (40 + 1) else pi 0) ≤ 44 ∧ 44 < 46 + 8 * (if 40 < 40 then pi (40 + 1) else pi 0) + 8) := by omega
    refine ⟨f', g', _, 40, rfl, b2, Or.inr ⟨by first | trivial | rfl, by first | trivial | rfl, by first | trivial | rfl⟩, ?_, ?_, a2, fun a h1 h2 => ?_, b3, b4⟩
    · rw [a3 44 n44, e2]
    · rw [a3 44 n44, au_same]
    · rw [a3 a h2, u2_ne h1]
end CA
/-! the model's -/
section MAc
variable {g : (Nat → Nat → Int64) × (Nat → Nat → Option Nat)}
theorem lt59 {t : Nat} (h : t < 59) : Int32.ofNat t < 59 := by
  rw [show (59 : Int32) = Int32.ofNat 59 from rfl, on_lt (by omega) (by omega)]; exact h
theorem ix59 (d t : Nat) : (59 : Int32) * Int32.ofNat d + Int32.ofNat t = Int32.ofNat (59 * d + t) := by
  rw [← on_add]
  congr 1
  exact (Int32.ofNat_mul 59 d).symm
theorem m_was {d : Nat} (hd : d ≤ 40) (q : Nat → Int32) {k : am_H → Option am_H} : ∀ m n t (f : Nat → Nat → Int32), t + m = 59 → f 437 = q → f 413 44 = Int32.ofNat d → ∃ w, lp_X12_keepAct_51 k (n + m + 1) (Int32.ofNat t) (f, g) = k (up f 439 w, g) ∧ (∀ i, ¬ (59 * d + t ≤ i ∧ i < 59 * d + 59) → w i = f 439 i) ∧ ∀ i, t ≤ i → i < 59 → w (59 * d + i) = q i := by
  intro m
  induction m with
  | zero =>
    intro n t f ht hq h44
    obtain rfl : t = 59 := by omega
    rw [lp_X12_keepAct_51, if_neg (by decide)]
    exact ⟨f 439, by rw [up_self], fun _ _ => rfl, fun i h1 h2 => by omega⟩
  | succ m ih =>
    intro n t f ht hq h44
    have h8 : t < 59 := by omega
    rw [lp_X12_keepAct_51, if_pos (lt59 h8), bnd_eq]
    simp only [h44]
    rw [rdI_n h8 (by decide), ix59, wrI_n (by omega) (by decide), on_succ]
    obtain ⟨w, a1, a2, a3⟩ := ih n (t + 1) (am_u2 f 439 (59 * d + t) (f 437 t)) (by omega) (by rw [u2_ne (by decide)]; exact hq) (by rw [au_ne (by decide)]; exact h44)
    rw [show up (am_u2 f 439 (59 * d + t) (f 437 t)) 439 w = up f 439 w by rw [u2_up, up_up]] at a1
    refine ⟨w, a1, fun i hi => ?_, fun i h1 h2 => ?_⟩
    · rw [a2 i (by omega), au_nk (by omega)]
    · by_cases e : i = t
      · subst e; rw [a2 _ (by omega), au_same, hq]
      · exact a3 i (by omega) h2
theorem m_shift {k : am_H → Option am_H} : ∀ m n t (f : Nat → Nat → Int32), t + m = 2360 → ∃ w, lp_X12_keepAct_11 k (n + m + 1) (Int32.ofNat t) (f, g) = k (up f 439 w, g) ∧ (∀ i, i < t → w i = f 439 i) ∧ (∀ i, t ≤ i → i < 2360 → w i = f 439 (i + 59)) ∧ ∀ i, 2360 ≤ i → w i = f 439 i := by
  intro m
  induction m with
  | zero =>
    intro n t f ht
    obtain rfl : t = 2360 := by omega
    rw [lp_X12_keepAct_11, if_neg (by decide)]
    exact ⟨f 439, by rw [up_self], fun _ _ => rfl, fun i h1 h2 => by omega, fun _ _ => rfl⟩
  | succ m ih =>
    intro n t f ht
    have h8 : t < 2360 := by omega
    have hl : Int32.ofNat t < 2360 := by
      rw [show (2360 : Int32) = Int32.ofNat 2360 from rfl, on_lt (by omega) (by omega)]; exact h8
    have e59 : Int32.ofNat t + 59 = Int32.ofNat (t + 59) := on_add t 59
    rw [lp_X12_keepAct_11, if_pos hl, e59, rdI_n (by omega) (by decide), wrI_n (by omega) (by decide), on_succ]
    obtain ⟨w, a1, a2, a3, a4⟩ := ih n (t + 1) (am_u2 f 439 t (f 439 (t + 59))) (by omega)
    rw [show up (am_u2 f 439 t (f 439 (t + 59))) 439 w = up f 439 w by rw [u2_up, up_up]] at a1
    refine ⟨w, a1, fun i hi => ?_, fun i h1 h2 => ?_, fun i hi => ?_⟩
    · rw [a2 i (by omega), au_nk (by omega)]
    · by_cases e : i = t
      · subst e; rw [a2 i (by omega), au_same]
      · rw [a3 i (by omega) h2, au_nk (by omega)]
    · rw [a4 i hi, au_nk (by omega)]
def kA (h26 : am_H) : Option am_H := bnd (h26.1 413 44) fun v28 => ptI h26 413 44 (v28 + 1) fun h29 => ptI h29 413 45 0 fun h32 => some h32
def kB (h20 : am_H) : Option am_H := bnd (h20.1 413 44) fun v22 => ptI h20 413 44 (v22 - 1) fun h23 => lp_X12_keepAct_51 kA 4000 0 h23
theorem keepAct_k {h : am_H} : f_X12_keepAct h = bnd (h.1 413 44) fun v1 => if v1 = 40 then lp_X12_keepAct_11 kB 4000 0 h else lp_X12_keepAct_51 kA 4000 0 h := rfl
theorem m_was2 {f : Nat → Nat → Int32} {d : Nat} (hd : d ≤ 39) (h44 : f 413 44 = Int32.ofNat d) : ∃ f', lp_X12_keepAct_51 kA 4000 0 (f, g) = some (f', g) ∧ (∀ i, ¬ (59 * d ≤ i ∧ i < 59 * d + 59) → f' 439 i = f 439 i) ∧ (∀ k, k < 59 → rw59 f' d k = f 437 k) ∧ f' 413 44 = Int32.ofNat (d + 1) ∧ f' 413 45 = 0 ∧ (∀ a, a ≠ 439 → a ≠ 413 → f' a = f a) ∧ ∀ k, k ≠ 44 → k ≠ 45 → f' 413 k = f 413 k := by
  obtain ⟨w, a1, a2, a3⟩ := m_was (g := g) (k := kA) (show d ≤ 40 by omega) (f 437) 59 3940 0 f rfl rfl h44
  have a1' : lp_X12_keepAct_51 kA 4000 0 (f, g) = kA (up f 439 w, g) := a1
  have e44 : up f 439 w 413 44 = Int32.ofNat d := by rw [up_ne (by decide)]; exact h44
  refine ⟨am_u2 (am_u2 (up f 439 w) 413 44 (Int32.ofNat (d + 1))) 413 45 0, ?_, fun i hi => ?_, fun k hk => ?_, ?_, au_same, fun a h1 h2 => ?_, fun k h1 h2 => ?_⟩
  · rw [a1']
    unfold kA
    rw [bnd_eq, ptI_eq, ptI_eq]
    simp only [e44, on_succ]
  · rw [au_ne (by decide), au_ne (by decide), up_same]
    exact a2 i (by omega)
  · unfold rw59
    rw [au_ne (by decide), au_ne (by decide), up_same]
    exact a3 k (Nat.zero_le _) hk
  · rw [au_nk (by decide), au_same]
  · rw [u2_ne h2, u2_ne h2, up_ne h1]
  · rw [au_nk h2, au_nk h1, up_ne (by decide)]
/-- the model's keeping -/
theorem X12_keepAct {f : Nat → Nat → Int32} {d : Nat} (hd : d ≤ 40) (h44 : f 413 44 = Int32.ofNat d) : ∃ f' e, f_X12_keepAct (f, g) = some (f', g) ∧ (d < 40 ∧ e = d + 1 ∧ (∀ i, i < d → ∀ k, k < 59 → rw59 f' i k = rw59 f i k) ∨ d = 40 ∧ e = 40 ∧ ∀ i, i < 39 → ∀ k, k < 59 → rw59 f' i k = rw59 f (i + 1) k) ∧ (∀ k, k < 59 → rw59 f' (e - 1) k = f 437 k) ∧ f' 413 44 = Int32.ofNat e ∧ f' 413 45 = 0 ∧ (∀ a, a ≠ 439 → a ≠ 413 → f' a = f a) ∧ ∀ k, k ≠ 44 → k ≠ 45 → f' 413 k = f 413 k := by
  by_cases c : d = 40
  · obtain ⟨w, a1, -, a3, -⟩ := m_shift (g := g) (k := kB) 2360 1639 0 f rfl
    have a1' : lp_X12_keepAct_11 kB 4000 0 (f, g) = kB (up f 439 w, g) := a1
    have e44 : up f 439 w 413 44 = 40 := by rw [up_ne (by decide), h44, c]; rfl
    obtain ⟨f', b1, b2, b3, b4, b5, b6, b7⟩ := m_was2 (g := g) (f := am_u2 (up f 439 w) 413 44 39) (d := 39) (by decide) au_same
    refine ⟨f', 40, ?_, Or.inr ⟨c, rfl, fun i hi k hk => ?_⟩, fun k hk => ?_, b4, b5, fun a h1 h2 => ?_, fun k h1 h2 => ?_⟩
    · rw [keepAct_k, bnd_eq]
      simp only [h44, c]
      rw [if_pos (show Int32.ofNat 40 = 40 from rfl), a1']
      unfold kB
      rw [bnd_eq, ptI_eq]
      simp only [e44]
      exact b1
    · unfold rw59
      rw [b2 _ (by omega), au_ne (by decide), up_same, a3 _ (Nat.zero_le _) (by omega)]
      exact congrArg (f 439) (by omega)
    · have := b3 k hk
      rw [au_ne (by decide), up_ne (by decide)] at this
      exact this
    · rw [b6 a h1 h2, u2_ne h2, up_ne h1]
    · rw [b7 k h1 h2, au_nk h1, up_ne (by decide)]
  · obtain ⟨f', b1, b2, b3, b4, b5, b6, b7⟩ := m_was2 (g := g) (f := f) (d := d) (by omega) h44
    refine ⟨f', d + 1, ?_, Or.inl ⟨by omega, rfl, fun i hi k hk => ?_⟩, fun k hk => b3 k hk, b4, b5, b6, b7⟩
    · rw [keepAct_k, bnd_eq]
      simp only [h44]
      have n40 : ¬ Int32.ofNat d = 40 := fun z => c ((on_inj (b := 40) (by omega) (by decide)).mp z)
      rw [if_neg n40]
      exact b1
    · unfold rw59
      rw [b2 _ (by
        have : 59 * (i + 1) ≤ 59 * d := Nat.mul_le_mul_left _ (by omega)
        omega)]
theorem m_swap {d : Nat} (hd : d ≤ 40) : ∀ m n t (f : Nat → Nat → Int32), t + m = 59 → f 413 44 = Int32.ofNat d → ∃ f', lp_X12_swapAll_2 (n + m + 1) (Int32.ofNat t) (f, g) = some (f', g) ∧ (∀ i, ¬ (59 * d + t ≤ i ∧ i < 59 * d + 59) → f' 439 i = f 439 i) ∧ (∀ i, t ≤ i → i < 59 → f' 439 (59 * d + i) = f 437 i ∧ f' 437 i = f 439 (59 * d + i)) ∧ (∀ i, ¬ (t ≤ i ∧ i < 59) → f' 437 i = f 437 i) ∧ ∀ a, a ≠ 437 → a ≠ 439 → f' a = f a := by
  intro m
  induction m with
  | zero =>
    intro n t f ht h44
    obtain rfl : t = 59 := by omega
    rw [lp_X12_swapAll_2, if_neg (by decide)]
    exact ⟨f, rfl, fun _ _ => rfl, fun i h1 h2 => by omega, fun _ _ => rfl, fun _ _ _ => rfl⟩
  | succ m ih =>
    intro n t f ht h44
    have h8 : t < 59 := by omega
    rw [lp_X12_swapAll_2, if_pos (lt59 h8), bnd_eq]
    simp only [h44]
    rw [ix59, rdI_n (by omega) (by decide), bnd_eq]
    simp only [h44]
    rw [rdI_n h8 (by decide), ix59, wrI_n (by omega) (by decide), wrI_n h8 (by decide), on_succ]
    obtain ⟨f', a1, a2, a3, a4, a5⟩ := ih n (t + 1) (am_u2 (am_u2 f 439 (59 * d + t) (f 437 t)) 437 t (f 439 (59 * d + t))) (by omega) (by rw [au_ne (by decide), au_ne (by decide)]; exact h44)
    refine ⟨f', a1, fun i hi => ?_, fun i h1 h2 => ?_, fun i hi => ?_, fun a h1 h2 => ?_⟩
    · rw [a2 i (by omega), au_ne (by decide), au_nk (by omega)]
    · by_cases e : i = t
      · subst e
        rw [a2 _ (by omega), a4 i (by omega), au_ne (by decide), au_same, au_same]
        exact ⟨rfl, rfl⟩
      · have := a3 i (by omega) h2
        rw [this.1, this.2, au_nk e, au_ne (by decide), au_ne (by decide), au_nk (by omega)]
        exact ⟨rfl, rfl⟩
    · rw [a4 i (by omega), au_nk (by omega), au_ne (by decide)]
    · rw [a5 a h1 h2, u2_ne h1, u2_ne h2]
theorem X12_swapAll {f : Nat → Nat → Int32} {d : Nat} (hd : d ≤ 40) (h44 : f 413 44 = Int32.ofNat d) : ∃ f', f_X12_swapAll (f, g) = some (f', g) ∧ (∀ i, i ≠ d → ∀ k, k < 59 → rw59 f' i k = rw59 f i k) ∧ (∀ k, k < 59 → rw59 f' d k = f 437 k ∧ f' 437 k = rw59 f d k) ∧ ∀ a, a ≠ 437 → a ≠ 439 → f' a = f a := by
  obtain ⟨f', a1, a2, a3, a4, a5⟩ := m_swap (g := g) hd 59 3940 0 f rfl h44
  refine ⟨f', a1, fun i hi k hk => ?_, fun k hk => a3 k (Nat.zero_le _) hk, a5⟩
  unfold rw59
  refine a2 _ ?_
  rcases Nat.lt_or_gt_of_ne hi with h | h
  · have : 59 * (i + 1) ≤ 59 * d := Nat.mul_le_mul_left _ (by omega)
    omega
  · have : 59 * (d + 1) ≤ 59 * i := Nat.mul_le_mul_left _ (by omega)
    omega
end MAc
