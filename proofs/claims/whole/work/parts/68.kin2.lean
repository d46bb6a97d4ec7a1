/-! Kin: the fewest steps -/
def ball (q : Nat → Int32) (e : Nat → Bool) (n : Nat) : Nat → Bool := fun k => e k || sx q e n k
theorem ball_iff {q : Nat → Int32} {e : Nat → Bool} {k n : Nat} : ball q e n k = true ↔ ∃ i, i ≤ n ∧ pit q e i k = true := by
  unfold ball
  rw [Bool.or_eq_true, sx_iff]
  constructor
  · rintro (h | ⟨i, h1, h2, h3⟩)
    · exact ⟨0, Nat.zero_le _, h⟩
    · exact ⟨i, h2, h3⟩
  · rintro ⟨i, h1, h2⟩
    cases i with
    | zero => exact Or.inl h2
    | succ i => exact Or.inr ⟨i + 1, by omega, h1, h2⟩
theorem ball_full {q : Nat → Int32} {e : Nat → Bool} (h1 : 1 ≤ zC e) : ∀ k, k < 8 → ball q e 8 k = ball q e 7 k := by
  have hm : ∀ n k, k < 8 → ball q e n k = true → ball q e (n + 1) k = true := fun n k _ h => by
    rw [ball_iff] at h ⊢
    obtain ⟨i, a, c⟩ := h
    exact ⟨i, by omega, c⟩
  have hp : ∀ n, (∀ k, k < 8 → ball q e (n + 1) k = ball q e n k) → ∀ k, k < 8 → ball q e (n + 2) k = ball q e (n + 1) k := by
    intro n h k hk
    apply bool_ext
    constructor
    · intro z
      rw [ball_iff] at z
      obtain ⟨i, a, c⟩ := z
      cases i with
      | zero => exact ball_iff.mpr ⟨0, Nat.zero_le _, c⟩
      | succ i =>
        have c' : pr q (pit q e i) k = true := c
        rw [pr_iff] at c'
        obtain ⟨j, j1, j2, j3⟩ := c'
        have : ball q e (n + 1) j = true := ball_iff.mpr ⟨i, by omega, j2⟩
        rw [h j j1, ball_iff] at this
        obtain ⟨i', a', c'⟩ := this
        exact ball_iff.mpr ⟨i' + 1, by omega, pr_iff.mpr ⟨j, j1, c', j3⟩⟩
    · exact hm (n + 1) k hk
  rcases full (S := ball q e) hm hp 7 with h | h
  · exact h
  · have h2 := zC_le8 (ball q e (7 + 1))
    have h3 : zC (ball q e 0) = zC e := zC_cong (fun k hk => by simp [ball, sx])
    omega
theorem pit_7 {q : Nat → Int32} {e : Nat → Bool} (h1 : 1 ≤ zC e) {i k : Nat} (hi : i ≤ 8) (hk : k < 8) (h : pit q e i k = true) : ∃ i', i' ≤ 7 ∧ i' ≤ i ∧ pit q e i' k = true := by
  have : ball q e 8 k = true := ball_iff.mpr ⟨i, hi, h⟩
  by_cases h8 : i ≤ 7
  · exact ⟨i, h8, Nat.le_refl _, h⟩
  · rw [ball_full h1 k hk, ball_iff] at this
    obtain ⟨i', a, c⟩ := this
    exact ⟨i', a, by omega, c⟩
/-- whether i steps up from the one and j from the other there is one and the same -/
def meet (q : Nat → Int32) (e e' : Nat → Bool) (i j : Nat) : Prop := ∃ k, k < 8 ∧ pit q e i k = true ∧ pit q e' j k = true
/-- the least sum of those steps that have been looked at -/
def isMin (D : Nat → Nat → Prop) (V : Nat → Nat → Prop) (c : Int32) : Prop := (c = -1 ∧ ∀ i j, D i j → ¬ V i j) ∨ ∃ i j, i < 8 ∧ j < 8 ∧ V i j ∧ c = Int32.ofNat (i + j) ∧ ∀ i' j', D i' j' → V i' j' → i + j ≤ i' + j'
theorem isMin_step {D D' V : Nat → Nat → Prop} {i j : Nat} {c : Int32} (hi : i < 8) (hj : j < 8) (hD : ∀ i' j', D' i' j' → D i' j' ∨ (i' = i ∧ j' = j)) (h : isMin D V c) {z : Prop} [Decidable z] (hz : z ↔ (V i j ∧ (c = -1 ∨ Int32.ofNat i + Int32.ofNat j < c))) : isMin D' V (if z then Int32.ofNat i + Int32.ofNat j else c) := by
  by_cases hc : z
  · rw [if_pos hc]
    have hv := hz.mp hc
    refine Or.inr ⟨i, j, hi, hj, hv.1, on_add i j, fun i' j' hd hv' => ?_⟩
    rcases hD i' j' hd with hd | ⟨rfl, rfl⟩
    · rcases h with ⟨rfl, h2⟩ | ⟨a, d, ha, hd8, _, rfl, h3⟩
      · exact absurd hv' (h2 i' j' hd)
      · rcases hv.2 with h4 | h4
        · have h5 : ∀ n : Fin 15, ¬ Int32.ofNat n.val = -1 := by decide +kernel
          exact absurd h4 (h5 ⟨a + d, by omega⟩)
        · rw [on_add, on_lt (by omega) (by omega)] at h4
          have := h3 i' j' hd hv'
          omega
    · exact Nat.le_refl _
  · rw [if_neg hc]
    have hn : ¬ (V i j ∧ (c = -1 ∨ Int32.ofNat i + Int32.ofNat j < c)) := fun w => hc (hz.mpr w)
    rcases h with ⟨rfl, h2⟩ | ⟨a, d, ha, hd8, h1, rfl, h3⟩
    · refine Or.inl ⟨rfl, fun i' j' hd hv' => ?_⟩
      rcases hD i' j' hd with hd | ⟨rfl, rfl⟩
      · exact h2 i' j' hd hv'
      · exact hn ⟨hv', Or.inl rfl⟩
    · refine Or.inr ⟨a, d, ha, hd8, h1, rfl, fun i' j' hd hv' => ?_⟩
      rcases hD i' j' hd with hd | ⟨rfl, rfl⟩
      · exact h3 i' j' hd hv'
      · refine Classical.byContradiction (fun w => hn ⟨hv', Or.inr ?_⟩)
        rw [on_add, on_lt (by omega) (by omega)]
        omega
section QG
variable {f : Nat → Nat → Int32} {g : (Nat → Nat → Int64) × (Nat → Nat → Option Nat)} {b nr : Nat} {hold : Nat → Int32}
theorem meet_iff {q : Nat → Int32} {e e' : Nat → Bool} {i j : Nat} : (zS (pit q e i) &&& zS (pit q e' j)) = 0 ↔ ¬ meet q e e' i j := by
  rw [zS_and2, zS_zero]
  constructor
  · rintro h ⟨k, hk, h1, h2⟩
    have := h k hk
    simp [h1, h2] at this
  · intro h k hk
    cases h1 : pit q e i k
    · rfl
    · cases h2 : pit q e' j k
      · rfl
      · exact absurd ⟨k, hk, h1, h2⟩ h
theorem c_kin1 (R : RC 27 (f 437) f) (W : WQ nr (f 437)) {e e' : Nat → Bool} {y : Int32} {k : Int32 → Option Int32} {i : Nat} (hi : i < 8) : ∀ m n j c, j + m = 8 → isMin (fun i' j' => j' < 8 ∧ (i' < i ∨ (i' = i ∧ j' < j))) (meet (f 437) e e') c → ∃ c', lp_X6_steps_25 27 y (zS (pit (f 437) e i)) (Int32.ofNat i) (f, g) k (n + m + 1) c (zS (pit (f 437) e' j)) (Int32.ofNat j) = k c' ∧ isMin (fun i' j' => j' < 8 ∧ i' < i + 1) (meet (f 437) e e') c' := by
  intro m
  induction m with
  | zero =>
    intro n j c hj hc
    obtain rfl : j = 8 := by omega
    rw [lp_X6_steps_25, if_neg (by decide)]
    refine ⟨c, rfl, ?_⟩
    rcases hc with ⟨h1, h2⟩ | ⟨a, d, h1, h2, h3, h4, h5⟩
    · exact Or.inl ⟨h1, fun i' j' hd => h2 i' j' ⟨hd.1, by omega⟩⟩
    · exact Or.inr ⟨a, d, h1, h2, h3, h4, fun i' j' hd => h5 i' j' ⟨hd.1, by omega⟩⟩
  | succ m ih =>
    intro n j c hj hc
    have h8 : j < 8 := by omega
    rw [lp_X6_steps_25, if_pos (i8_lt j h8), X7_parentsOf R W, cal_some, i8_succ j h8]
    unfold jn_X6_steps_54
    rw [X7_parentsOf R W, cal_some, i8_succ j h8]
    have step := fun (z : Prop) (dz : Decidable z) (hz : z ↔ (meet (f 437) e e' i j ∧ (c = -1 ∨ Int32.ofNat i + Int32.ofNat j < c))) => @isMin_step _ (fun i' j' => j' < 8 ∧ (i' < i ∨ (i' = i ∧ j' < j + 1))) _ i j c hi h8 (fun i' j' hd => by
      rcases hd with ⟨d1, d2⟩
      by_cases e1 : i' = i ∧ j' = j
      · exact Or.inr e1
      · exact Or.inl ⟨d1, by omega⟩) hc z dz hz
    by_cases c1 : (zS (pit (f 437) e i) &&& zS (pit (f 437) e' j)) = 0
    · rw [if_pos c1]
      have s := step False inferInstance ⟨fun z => z.elim, fun z => meet_iff.mp c1 z.1⟩
      rw [if_neg (fun z => z)] at s
      exact ih n (j + 1) c (by omega) s
    · rw [if_neg c1]
      have hm : meet (f 437) e e' i j := Classical.byContradiction (fun z => c1 (meet_iff.mpr z))
      by_cases c2 : c = -1
      · rw [if_pos c2]
        have s := step True inferInstance ⟨fun _ => ⟨hm, Or.inl c2⟩, fun _ => trivial⟩
        rw [if_pos trivial] at s
        exact ih n (j + 1) _ (by omega) s
      · rw [if_neg c2]
        by_cases c3 : Int32.ofNat i + Int32.ofNat j < c
        · rw [if_pos c3]
          have s := step True inferInstance ⟨fun _ => ⟨hm, Or.inr c3⟩, fun _ => trivial⟩
          rw [if_pos trivial] at s
          exact ih n (j + 1) _ (by omega) s
        · rw [if_neg c3]
          have s := step False inferInstance ⟨fun z => z.elim, fun z => z.2.elim c2 c3⟩
          rw [if_neg (fun z => z)] at s
          exact ih n (j + 1) c (by omega) s
theorem c_kin (R : RC 27 (f 437) f) (W : WQ nr (f 437)) {e : Nat → Bool} {o : Nat} (ho : o < 8) : ∀ m n i c, i + m = 8 → isMin (fun i' j' => j' < 8 ∧ i' < i) (meet (f 437) e (fun k => decide (k = o))) c → ∃ c', lp_X6_steps_10 27 (Int32.ofNat o) (f, g) (n + m + 1) c (zS (pit (f 437) e i)) (Int32.ofNat i) = some c' ∧ isMin (fun i' j' => j' < 8 ∧ i' < 8) (meet (f 437) e (fun k => decide (k = o))) c' := by
  intro m
  induction m with
  | zero =>
    intro n i c hi hc
    obtain rfl : i = 8 := by omega
    rw [lp_X6_steps_10, if_neg (by decide)]
    exact ⟨c, rfl, hc⟩
  | succ m ih =>
    intro n i c hi hc
    have h8 : i < 8 := by omega
    rw [lp_X6_steps_10, if_pos (i8_lt i h8), zS_one ho, i8_succ i h8]
    have hc0 : isMin (fun i' j' => j' < 8 ∧ (i' < i ∨ (i' = i ∧ j' < 0))) (meet (f 437) e (fun k => decide (k = o))) c := by
      rcases hc with ⟨h1, h2⟩ | ⟨a, d, h1, h2, h3, h4, h5⟩
      · exact Or.inl ⟨h1, fun i' j' hd => h2 i' j' ⟨hd.1, by omega⟩⟩
      · exact Or.inr ⟨a, d, h1, h2, h3, h4, fun i' j' hd => h5 i' j' ⟨hd.1, by omega⟩⟩
    obtain ⟨c', k1, k2⟩ := c_kin1 (g := g) R W (e := e) (e' := fun k => decide (k = o)) (y := Int32.ofNat o) (k := fun z10 => cal (f_X7_parentsOf 27 (zS (pit (f 437) e i)) (f, g)) fun v12 => lp_X6_steps_10 27 (Int32.ofNat o) (f, g) (n + (m + 1)) z10 v12 (Int32.ofNat (i + 1))) h8 8 3991 0 c rfl hc0
    rw [X7_parentsOf R W] at k1
    obtain ⟨c'', j1, j2⟩ := ih n (i + 1) c' (by omega) k2
    refine ⟨c'', ?_, j2⟩
    rw [← j1]
    rw [X7_parentsOf R W]
    exact k1
/-- by how few steps up one comes to another -/
theorem m_up {e : Nat → Bool} (W : WQ nr (f 437)) {k : Nat} (hk : k < 8) : ∀ m n i, i + m = 9 → (∀ i', i' < i → pit (f 437) e i' k = false) → ∃ c, lp_X12_stepsUp_7 (Int32.ofNat k) (f, g) (n + m + 1) (zS (pit (f 437) e i)) (Int32.ofNat i) = some c ∧ ((c = 1000 ∧ ∀ i', i' ≤ 8 → pit (f 437) e i' k = false) ∨ ∃ i, i ≤ 8 ∧ c = Int32.ofNat i ∧ pit (f 437) e i k = true ∧ ∀ i', i' < i → pit (f 437) e i' k = false) := by
  intro m
  induction m with
  | zero =>
    intro n i hi hb
    obtain rfl : i = 9 := by omega
    rw [lp_X12_stepsUp_7, if_pos (by decide)]
    exact ⟨1000, rfl, Or.inl ⟨rfl, fun i' h => hb i' (by omega)⟩⟩
  | succ m ih =>
    intro n i hi hb
    have h9 : i < 9 := by omega
    have h8 : ¬ (8 : Int32) < Int32.ofNat i := by
      rw [show (8 : Int32) = Int32.ofNat 8 from rfl, on_lt (by omega) (by omega)]
      omega
    rw [lp_X12_stepsUp_7, if_neg h8, X12_bit, cal_some, tb_zS _ hk]
    by_cases c : pit (f 437) e i k = true
    · rw [if_pos c, if_neg (show ¬ (1 : Int32) = 0 by decide)]
      exact ⟨_, rfl, Or.inr ⟨i, by omega, rfl, c, hb⟩⟩
    · rw [if_neg c, if_pos rfl, X12_parentsOf W, cal_some, on_succ]
      have := ih n (i + 1) (by omega) (fun i' h => by
        by_cases e1 : i' = i
        · subst e1; simpa using c
        · exact hb i' (by omega))
      exact this
theorem X12_up (W : WQ nr (f 437)) {t k : Nat} (ht : t < 8) (hk : k < 8) : ∃ c, f_X12_stepsUp (Int32.ofNat t) (Int32.ofNat k) (f, g) = some c ∧ ((c = 1000 ∧ ∀ i', i' ≤ 8 → pit (f 437) (fun k => decide (k = t)) i' k = false) ∨ ∃ i, i ≤ 8 ∧ c = Int32.ofNat i ∧ pit (f 437) (fun k => decide (k = t)) i k = true ∧ ∀ i', i' < i → pit (f 437) (fun k => decide (k = t)) i' k = false) := by
  have h := m_up (g := g) (e := fun k => decide (k = t)) W hk 9 3990 0 rfl (fun i' h => by omega)
  obtain ⟨c, h1, h2⟩ := h
  refine ⟨c, ?_, h2⟩
  unfold f_X12_stepsUp
  rw [zS_one ht]
  exact h1
theorem zC_1 {t : Nat} (ht : t < 8) : zC (fun k => decide (k = t)) = 1 := by
  have h : ∀ t : Fin 8, zC (fun k => decide (k = t.val)) = 1 := by decide +kernel
  exact h ⟨t, ht⟩
/-- the model's least so far -/
def isMn (V : Nat → Nat → Prop) (B : Nat → Nat → Nat → Prop) (n : Nat) (c : Int32) : Prop := (c = 1000 ∧ ∀ k, k < n → ∀ i j, ¬ B k i j) ∨ ∃ i j, i < 8 ∧ j < 8 ∧ V i j ∧ c = Int32.ofNat (i + j) ∧ ∀ k, k < n → ∀ i' j', B k i' j' → i + j ≤ i' + j'
theorem m_kin (W : WQ nr (f 437)) {t o : Nat} (ht : t < 8) (ho : o < 8) {kk : Int32 → Option Int32} : ∀ m n k c, k + m = 8 → isMn (meet (f 437) (fun k => decide (k = t)) (fun k => decide (k = o))) (fun k i j => i < 8 ∧ j < 8 ∧ pit (f 437) (fun k => decide (k = t)) i k = true ∧ pit (f 437) (fun k => decide (k = o)) j k = true) k c → ∃ c', lp_X12_kin_25 (Int32.ofNat t) (Int32.ofNat o) (f, g) kk (n + m + 1) c (Int32.ofNat k) = kk c' ∧ isMn (meet (f 437) (fun k => decide (k = t)) (fun k => decide (k = o))) (fun k i j => i < 8 ∧ j < 8 ∧ pit (f 437) (fun k => decide (k = t)) i k = true ∧ pit (f 437) (fun k => decide (k = o)) j k = true) 8 c' := by
  intro m
  induction m with
  | zero =>
    intro n k c hk hc
    obtain rfl : k = 8 := by omega
    rw [lp_X12_kin_25, if_neg (by decide)]
    exact ⟨c, rfl, hc⟩
  | succ m ih =>
    intro n k c hk hc
    have h8 : k < 8 := by omega
    obtain ⟨u, u1, u2⟩ := X12_up (g := g) W ht h8
    obtain ⟨w, w1, w2⟩ := X12_up (g := g) W ho h8
    rw [lp_X12_kin_25, if_pos (i8_lt k h8), u1, cal_some, w1, cal_some, i8_succ k h8]
    have hb : c = 1000 ∨ ∃ d, d < 15 ∧ c = Int32.ofNat d := by
      rcases hc with ⟨h1, -⟩ | ⟨i, j, hi, hj, -, h1, -⟩
      · exact Or.inl h1
      · exact Or.inr ⟨i + j, by omega, h1⟩
    have far : ∀ v : Int32, 1000 ≤ v.toInt → v.toInt < 3000 → ¬ v < c := by
      intro v hv _ h
      rw [Int32.lt_iff_toInt_lt] at h
      rcases hb with rfl | ⟨d, hd, rfl⟩
      · have : (1000 : Int32).toInt = 1000 := rfl
        omega
      · rw [on_toInt (by omega)] at h
        omega
    have e1000 : (1000 : Int32).toInt = 1000 := rfl
    have none1 : (∀ i j, ¬ (i < 8 ∧ j < 8 ∧ pit (f 437) (fun k => decide (k = t)) i k = true ∧ pit (f 437) (fun k => decide (k = o)) j k = true)) → ¬ (u + w < c) → ∃ c', (if u + w < c then lp_X12_kin_25 (Int32.ofNat t) (Int32.ofNat o) (f, g) kk (n + (m + 1)) (u + w) (Int32.ofNat (k + 1)) else lp_X12_kin_25 (Int32.ofNat t) (Int32.ofNat o) (f, g) kk (n + (m + 1)) c (Int32.ofNat (k + 1))) = kk c' ∧ isMn (meet (f 437) (fun k => decide (k = t)) (fun k => decide (k = o))) (fun k i j => i < 8 ∧ j < 8 ∧ pit (f 437) (fun k => decide (k = t)) i k = true ∧ pit (f 437) (fun k => decide (k = o)) j k = true) 8 c' := by
      intro hno hlt
      rw [if_neg hlt]
      refine ih n (k + 1) c (by omega) ?_
      rcases hc with ⟨h1, h2⟩ | ⟨i, j, hi, hj, h0, h1, h2⟩
      · refine Or.inl ⟨h1, fun k' hk' => ?_⟩
        by_cases e1 : k' = k
        · subst e1; exact hno
        · exact h2 k' (by omega)
      · refine Or.inr ⟨i, j, hi, hj, h0, h1, fun k' hk' i' j' hB => ?_⟩
        by_cases e1 : k' = k
        · subst e1; exact absurd hB (hno i' j')
        · exact h2 k' (by omega) i' j' hB
    rcases u2 with ⟨rfl, u3⟩ | ⟨i, hi, rfl, ui, um⟩
    · refine none1 (fun i j h => ?_) ?_
      · rw [u3 i (by omega)] at h
        cases h.2.2.1
      · rcases w2 with ⟨rfl, -⟩ | ⟨j, hj, rfl, -, -⟩
        · exact far _ (by decide) (by decide)
        · have := ti_add (x := 1000) (y := Int32.ofNat j) (by rw [e1000, on_toInt (by omega)]; omega) (by rw [e1000, on_toInt (by omega)]; omega)
          rw [e1000, on_toInt (by omega)] at this
          exact far _ (by omega) (by omega)
    · rcases w2 with ⟨rfl, w3⟩ | ⟨j, hj, rfl, wj, wm⟩
      · refine none1 (fun i j h => ?_) ?_
        · rw [w3 j (by omega)] at h
          cases h.2.2.2
        · have := ti_add (x := Int32.ofNat i) (y := 1000) (by rw [e1000, on_toInt (by omega)]; omega) (by rw [e1000, on_toInt (by omega)]; omega)
          rw [e1000, on_toInt (by omega)] at this
          exact far _ (by omega) (by omega)
      · have i7 : i ≤ 7 := by
          obtain ⟨i', a1, a2, a3⟩ := pit_7 (by rw [zC_1 ht]; exact Nat.le_refl _) hi h8 ui
          by_cases e1 : i' < i
          · rw [um i' e1] at a3; cases a3
          · omega
        have j7 : j ≤ 7 := by
          obtain ⟨j', a1, a2, a3⟩ := pit_7 (by rw [zC_1 ho]; exact Nat.le_refl _) hj h8 wj
          by_cases e1 : j' < j
          · rw [wm j' e1] at a3; cases a3
          · omega
        have least : ∀ i' j', (i' < 8 ∧ j' < 8 ∧ pit (f 437) (fun k => decide (k = t)) i' k = true ∧ pit (f 437) (fun k => decide (k = o)) j' k = true) → i + j ≤ i' + j' := by
          rintro i' j' ⟨_, _, h1, h2⟩
          have l1 : ¬ i' < i := fun z => by rw [um i' z] at h1; cases h1
          have l2 : ¬ j' < j := fun z => by rw [wm j' z] at h2; cases h2
          omega
        rw [on_add]
        by_cases hlt : Int32.ofNat (i + j) < c
        · rw [if_pos hlt]
          refine ih n (k + 1) _ (by omega) (Or.inr ⟨i, j, by omega, by omega, ⟨k, h8, ui, wj⟩, rfl, fun k' hk' i' j' hB => ?_⟩)
          by_cases e1 : k' = k
          · subst e1; exact least i' j' hB
          · rcases hc with ⟨-, h2⟩ | ⟨i0, j0, hi0, hj0, -, rfl, h2⟩
            · exact absurd hB (h2 k' (by omega) i' j')
            · have := h2 k' (by omega) i' j' hB
              rw [on_lt (by omega) (by omega)] at hlt
              omega
        · rw [if_neg hlt]
          refine ih n (k + 1) c (by omega) ?_
          rcases hc with ⟨rfl, h2⟩ | ⟨i0, j0, hi0, hj0, h0, rfl, h2⟩
          · exfalso
            apply hlt
            rw [show (1000 : Int32) = Int32.ofNat 1000 from rfl, on_lt (by omega) (by omega)]
            omega
          · refine Or.inr ⟨i0, j0, hi0, hj0, h0, rfl, fun k' hk' i' j' hB => ?_⟩
            by_cases e1 : k' = k
            · subst e1
              have := least i' j' hB
              rw [on_lt (by omega) (by omega)] at hlt
              omega
            · exact h2 k' (by omega) i' j' hB
theorem q_kin (R : RC 27 (f 437) f) (W : WQ nr (f 437)) (x y : Int32) : AG (f_X11_kin x y (f, g)) (f_X12_kin x y (f, g)) := by
  have R' : RC 27 (f 437) (f, g).1 := R
  have one : ¬ (1 : Int32) = 0 := by decide
  unfold f_X11_kin f_X12_kin
  rw [X7_hasBoth R', X12_isThere, cal_some, cal_some]
  simp only
  by_cases h1 : hs (f 437) x = true
  · obtain ⟨t, ht, rfl, t0⟩ := hs_ex h1
    rw [if_pos h1, if_neg one, X12_isThere, cal_some]
    simp only
    by_cases h2 : hs (f 437) y = true
    · obtain ⟨o, ho, rfl, o0⟩ := hs_ex h2
      rw [if_pos (show (hs (f 437) (Int32.ofNat t) && hs (f 437) (Int32.ofNat o)) = true by rw [h1, h2]; rfl), if_neg one, if_pos h2, if_neg one]
      obtain ⟨c, k1, k2⟩ := c_kin (g := g) R W (e := fun k => decide (k = t)) ho 8 3991 0 (-1) rfl (Or.inl ⟨rfl, fun i j h => by omega⟩)
      have k1' : f_X6_steps 27 (Int32.ofNat t) (Int32.ofNat o) (f, g) = some c := by
        unfold f_X6_steps
        rw [zS_one ht]
        exact k1
      obtain ⟨d, m1, m2⟩ := m_kin (g := g) (kk := fun z13 => if z13 < 1000 then some z13 else some (-1)) W ht ho 8 3991 0 1000 rfl (Or.inl ⟨rfl, fun k hk => by omega⟩)
      have m1' : lp_X12_kin_25 (Int32.ofNat t) (Int32.ofNat o) (f, g) (fun z13 => if z13 < 1000 then some z13 else some (-1)) 4000 1000 0 = (if d < 1000 then some d else some (-1)) := m1
      rw [k1', cal_some, m1']
      rcases k2 with ⟨rfl, k3⟩ | ⟨i, j, hi, hj, hv, rfl, k3⟩
      · have hd : d = 1000 := by
          rcases m2 with ⟨h, -⟩ | ⟨i, j, hi, hj, hv, -, -⟩
          · exact h
          · exact absurd hv (k3 i j ⟨hj, hi⟩)
        rw [hd, if_neg (by decide)]
        exact AG.of rfl rfl
      · rcases m2 with ⟨-, m3⟩ | ⟨i', j', hi', hj', hv', rfl, m3⟩
        · obtain ⟨k, hk, p1, p2⟩ := hv
          exact absurd ⟨hi, hj, p1, p2⟩ (m3 k hk i j)
        · have l1 := k3 i' j' ⟨hj', hi'⟩ hv'
          obtain ⟨k, hk, p1, p2⟩ := hv
          have l2 := m3 k hk i j ⟨hi, hj, p1, p2⟩
          have hs : i + j = i' + j' := by omega
          rw [← hs, if_pos (by rw [show (1000 : Int32) = Int32.ofNat 1000 from rfl, on_lt (by omega) (by omega)]; omega)]
          exact AG.of rfl rfl
    · rw [if_neg (show ¬ (hs (f 437) (Int32.ofNat t) && hs (f 437) y) = true by simp [h2]), if_pos rfl, if_neg h2, if_pos rfl]
      exact AG.of rfl rfl
  · rw [if_neg (show ¬ (hs (f 437) x && hs (f 437) y) = true by simp [h1]), if_pos rfl, if_neg h1, if_pos rfl]
    exact AG.of rfl rfl
end QG
