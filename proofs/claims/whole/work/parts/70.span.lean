/-! Span, on both sides -/
def dd (q : Nat → Int32) (a c : Nat) : Nat := bc (mk q a ^^^ mk q c)
theorem dd_symm (q : Nat → Int32) (a c : Nat) : dd q a c = dd q c a := by
  unfold dd
  rw [Nat.xor_comm]
theorem dd_le {q : Nat → Int32} (W : WM q) {a c : Nat} (ha : a < 8) (hc : c < 8) : dd q a c ≤ 6 := by
  have h : ∀ n : Fin 64, bc n.val ≤ 6 := by decide +kernel
  exact h ⟨_, Nat.xor_lt_two_pow (n := 6) (W a ha).1 (W c hc).1⟩
theorem six_sub {d : Nat} (hd : d ≤ 8) : (6 : Int32) - (6 - Int32.ofNat d) = Int32.ofNat d := by
  have h : ∀ d : Fin 9, (6 : Int32) - (6 - Int32.ofNat d.val) = Int32.ofNat d.val := by decide +kernel
  exact h ⟨d, by omega⟩
def dsS (q : Nat → Int32) (J : Nat → Bool) (t o : Nat) (a : Nat) : Nat := if J o = true then (if dd q t o < a then dd q t o else a) else a
section QH
variable {f : Nat → Nat → Int32} {g : (Nat → Nat → Int64) × (Nat → Nat → Option Nat)} {b nr : Nat} {hold : Nat → Int32}
theorem c_dist (R : RC 27 (f 437) f) (W : WQ nr (f 437)) {J : Nat → Bool} (JV : ∀ k, k < 8 → J k = true → qT (f 437) k = true) {t : Nat} (ht : t < 8) (vt : qT (f 437) t = true) : ∀ m n o a, o + m = 8 → a ≤ 6 → lp_X6_distanceTo_6 27 (Int32.ofNat t) (zS J) (f, g) (n + m + 1) (Int32.ofNat a) (Int32.ofNat o) = some (Int32.ofNat (fo (dsS (f 437) J t) m o a)) := by
  have R' : RC 27 (f 437) (f, g).1 := R
  intro m
  induction m with
  | zero =>
    intro n o a ho _
    obtain rfl : o = 8 := by omega
    rw [lp_X6_distanceTo_6, if_neg (by decide)]
    rfl
  | succ m ih =>
    intro n o a ho ha
    have h8 : o < 8 := by omega
    have hd := dd_le W.wm ht h8
    rw [lp_X6_distanceTo_6, if_pos (i8_lt o h8), i8_succ o h8, fo]
    by_cases c : J o = true
    · have cn : ¬ ((zS J >>> (Int32.ofNat o &&& 31)) &&& 1) = 0 := fun z => by
        have z2 := tb_0.mp z
        rw [tb_zS J h8, c] at z2
        cases z2
      rw [if_neg cn, X7_shared R' W.wm ht h8, if_pos (show (qT (f 437) t && qT (f 437) o) = true by rw [vt, JV o h8 c]; rfl), cal_some]
      have e6 : (6 : Int32) - zSh (f 437) t o = Int32.ofNat (dd (f 437) t o) := six_sub (d := dd (f 437) t o) (by omega)
      rw [e6]
      have es : dsS (f 437) J t o a = if dd (f 437) t o < a then dd (f 437) t o else a := if_pos c
      rw [es]
      by_cases hl : dd (f 437) t o < a
      · rw [if_pos ((on_lt (by omega) (by omega)).mpr hl), if_pos hl]
        exact ih n (o + 1) _ (by omega) (by omega)
      · rw [if_neg (fun z => hl ((on_lt (by omega) (by omega)).mp z)), if_neg hl]
        exact ih n (o + 1) _ (by omega) ha
    · have c' : J o = false := by simpa using c
      have es : dsS (f 437) J t o a = a := if_neg c
      rw [if_pos (tb_0.mpr (by rw [tb_zS J h8]; exact c')), es]
      exact ih n (o + 1) a (by omega) ha
theorem dist_at {q : Nat → Int32} (W : WM q) {J : Nat → Bool} {t : Nat} (ht : t < 8) (hJ : ∃ j, j < 8 ∧ J j = true) : ∃ j, j < 8 ∧ J j = true ∧ fo (dsS q J t) 8 0 6 = dd q j t ∧ ∀ j', j' < 8 → J j' = true → dd q j t ≤ dd q j' t := by
  have h := fo_ind (f := dsS q J t) (P := fun n a => a ≤ 6 ∧ (∀ o, o < n → J o = true → a ≤ dd q o t) ∧ (a = 6 ∨ ∃ o, o < 8 ∧ J o = true ∧ a = dd q o t)) (fun o a ho hp => by
    obtain ⟨h1, h2, h3⟩ := hp
    unfold dsS
    by_cases c : J o = true
    · rw [if_pos c]
      by_cases hl : dd q t o < a
      · rw [if_pos hl]
        rw [dd_symm q t o] at hl ⊢
        refine ⟨by omega, fun o' ho' jo' => ?_, Or.inr ⟨o, ho, c, rfl⟩⟩
        by_cases e : o' = o
        · subst e; exact Nat.le_refl _
        · have := h2 o' (by omega) jo'; omega
      · rw [if_neg hl]
        rw [dd_symm q t o] at hl
        refine ⟨h1, fun o' ho' jo' => ?_, h3⟩
        by_cases e : o' = o
        · subst e; omega
        · exact h2 o' (by omega) jo'
    · rw [if_neg c]
      refine ⟨h1, fun o' ho' jo' => ?_, h3⟩
      by_cases e : o' = o
      · subst e; exact absurd jo' c
      · exact h2 o' (by omega) jo') (a := 6) ⟨Nat.le_refl _, fun o ho => by omega, Or.inl rfl⟩
  obtain ⟨h1, h2, h3⟩ := h
  rcases h3 with h3 | ⟨j, hj, jj, h3⟩
  · obtain ⟨j, hj, jj⟩ := hJ
    have l := h2 j hj jj
    have u := dd_le W hj ht
    refine ⟨j, hj, jj, by omega, fun j' hj' jj' => ?_⟩
    have := h2 j' hj' jj'
    omega
  · refine ⟨j, hj, jj, h3, fun j' hj' jj' => ?_⟩
    have := h2 j' hj' jj'
    omega
def bstC (q : Nat → Int32) (O J : Nat → Bool) (n : Nat) (x y : Int32) : Prop := (x = -1 ∧ y = 7 ∧ ∀ t, t < n → t < 8 → O t = false) ∨ ∃ t j, t < 8 ∧ j < 8 ∧ O t = true ∧ J j = true ∧ x = Int32.ofNat t ∧ y = Int32.ofNat (dd q j t) ∧ ∀ t' j', t' < n → t' < 8 → j' < 8 → O t' = true → J j' = true → dd q j t ≤ dd q j' t'
theorem c_near (R : RC 27 (f 437) f) (W : WQ nr (f 437)) {O J : Nat → Bool} (JV : ∀ k, k < 8 → J k = true → qT (f 437) k = true) (OV : ∀ k, k < 8 → O k = true → qT (f 437) k = true) (hJ : ∃ j, j < 8 ∧ J j = true) {p3 p4 : Int32} {k : Int32 → Int32 → Option Int32} : ∀ m n t x y, t + m = 8 → bstC (f 437) O J t x y → ∃ x' y', lp_X6_leastTree_42 27 (zS O) (zS J) p3 p4 (f, g) k (n + m + 1) x y (Int32.ofNat t) = k x' y' ∧ bstC (f 437) O J 8 x' y' := by
  intro m
  induction m with
  | zero =>
    intro n t x y ht h
    obtain rfl : t = 8 := by omega
    rw [lp_X6_leastTree_42, if_neg (by decide)]
    exact ⟨x, y, rfl, h⟩
  | succ m ih =>
    intro n t x y ht h
    have h8 : t < 8 := by omega
    rw [lp_X6_leastTree_42, if_pos (i8_lt t h8)]
    unfold jn_X6_leastTree_70
    rw [i8_succ t h8]
    by_cases c : O t = true
    · have cn : ¬ ((zS O >>> (Int32.ofNat t &&& 31)) &&& 1) = 0 := fun z => by
        have z2 := tb_0.mp z
        rw [tb_zS O h8, c] at z2
        cases z2
      have hd := c_dist (g := g) R W JV h8 (OV t h8 c) 8 3991 0 6 rfl (Nat.le_refl _)
      have hd' : f_X6_distanceTo 27 (Int32.ofNat t) (zS J) (f, g) = some (Int32.ofNat (fo (dsS (f 437) J t) 8 0 6)) := hd
      obtain ⟨j, hj, jj, e1, e2⟩ := dist_at W.wm h8 hJ
      rw [if_neg cn, hd', cal_some, e1]
      have u := dd_le W.wm hj h8
      rcases h with ⟨rfl, rfl, h3⟩ | ⟨t0, j0, ht0, hj0, o0, jj0, rfl, rfl, h3⟩
      · rw [if_pos (by rw [show (7 : Int32) = Int32.ofNat 7 from rfl, on_lt (by omega) (by omega)]; omega)]
        refine ih n (t + 1) _ _ (by omega) (Or.inr ⟨t, j, h8, hj, c, jj, rfl, rfl, fun t' j' a1 a2 a3 a4 a5 => ?_⟩)
        by_cases e : t' = t
        · subst e; exact e2 j' a3 a5
        · rw [h3 t' (by omega) a2] at a4; cases a4
      · have u0 := dd_le W.wm hj0 ht0
        by_cases hl : dd (f 437) j t < dd (f 437) j0 t0
        · rw [if_pos ((on_lt (by omega) (by omega)).mpr hl)]
          refine ih n (t + 1) _ _ (by omega) (Or.inr ⟨t, j, h8, hj, c, jj, rfl, rfl, fun t' j' a1 a2 a3 a4 a5 => ?_⟩)
          by_cases e : t' = t
          · subst e; exact e2 j' a3 a5
          · have := h3 t' j' (by omega) a2 a3 a4 a5
            omega
        · rw [if_neg (fun z => hl ((on_lt (by omega) (by omega)).mp z))]
          refine ih n (t + 1) _ _ (by omega) (Or.inr ⟨t0, j0, ht0, hj0, o0, jj0, rfl, rfl, fun t' j' a1 a2 a3 a4 a5 => ?_⟩)
          by_cases e : t' = t
          · subst e
            have := e2 j' a3 a5
            omega
          · exact h3 t' j' (by omega) a2 a3 a4 a5
    · have c' : O t = false := by simpa using c
      rw [if_pos (tb_0.mpr (by rw [tb_zS O h8]; exact c'))]
      have keep : bstC (f 437) O J (t + 1) x y := by
        rcases h with ⟨h1, h2, h3⟩ | ⟨t0, j0, ht0, hj0, o0, jj0, h1, h2, h3⟩
        · refine Or.inl ⟨h1, h2, fun t' a1 a2 => ?_⟩
          by_cases e : t' = t
          · subst e; exact c'
          · exact h3 t' (by omega) a2
        · refine Or.inr ⟨t0, j0, ht0, hj0, o0, jj0, h1, h2, fun t' j' a1 a2 a3 a4 a5 => ?_⟩
          by_cases e : t' = t
          · subst e; rw [c'] at a4; cases a4
          · exact h3 t' j' (by omega) a2 a3 a4 a5
      have far : ¬ (7 : Int32) < y := by
        rcases h with ⟨h1, rfl, h3⟩ | ⟨t0, j0, ht0, hj0, o0, jj0, h1, rfl, h3⟩
        · decide
        · have u0 := dd_le W.wm hj0 ht0
          rw [show (7 : Int32) = Int32.ofNat 7 from rfl, on_lt (by omega) (by omega)]
          omega
      rw [if_neg far]
      exact ih n (t + 1) x y (by omega) keep
theorem grow_sets {O J V : Nat → Bool} (hO : ∀ k, k < 8 → O k = (V k && !J k)) {t : Nat} : ∀ k, k < 8 → (O k && !(J k || decide (k = t))) = (V k && !(J k || decide (k = t))) := by
  intro k hk
  rw [hO k hk]
  cases V k <;> cases J k <;> simp
theorem zC_zero {e : Nat → Bool} (h : zC e = 0) : ∀ k, k < 8 → e k = false := by
  have := all8 (P := fun e => zC e = 0 → ∀ k : Fin 8, e k.val = false) (fun e e' h hp h0 k => by
    rw [h k.val k.isLt]
    exact hp (by rw [← zC_cong h]; exact h0) k) (by decide +kernel) e
  exact fun k hk => this h ⟨k, hk⟩
theorem zC_pos {e : Nat → Bool} {c : Nat} (h : zC e = c + 1) : ∃ k, k < 8 ∧ e k = true := by
  refine Classical.byContradiction (fun z => ?_)
  have h0 : ∀ k, k < 8 → e k = (fun _ => false) k := fun k hk => by
    cases he : e k
    · rfl
    · exact absurd ⟨k, hk, he⟩ z
  rw [zC_cong h0] at h
  have : zC (fun _ => false) = 0 := by decide +kernel
  omega
theorem c_tree (R : RC 27 (f 437) f) (W : WQ nr (f 437)) : ∀ c n i (O J : Nat → Bool) s, zC O = c → c + i ≤ 8 → (∀ k, k < 8 → O k = (qT (f 437) k && !J k)) → (∀ k, k < 8 → J k = true → qT (f 437) k = true) → (∃ j, j < 8 ∧ J j = true) → lp_X6_leastTree_21 27 (f, g) (n + c + 1) (zS O) (zS J) (Int32.ofNat s) (Int32.ofNat i) = some (Int32.ofNat (s + tot6 (qT (f 437)) (dd (f 437)) J)) := by
  intro c
  induction c with
  | zero =>
    intro n i O J s hc hi hO JV hJ
    have h0 := zC_zero hc
    have ht : tot6 (qT (f 437)) (dd (f 437)) J = 0 := tot_end (fun k hk vk => by
      have := h0 k hk
      rw [hO k hk, vk] at this
      simpa using this)
    rw [lp_X6_leastTree_21, if_pos ((zS_zero O).mpr h0), ht]
    split <;> rfl
  | succ c ih =>
    intro n i O J s hc hi hO JV hJ
    obtain ⟨k0, hk0, ok0⟩ := zC_pos hc
    have hne : ¬ zS O = 0 := fun z => by
      have := (zS_zero O).mp z k0 hk0
      rw [this] at ok0; cases ok0
    have OV : ∀ k, k < 8 → O k = true → qT (f 437) k = true := fun k hk h => by
      rw [hO k hk, Bool.and_eq_true] at h
      exact h.1
    rw [lp_X6_leastTree_21, if_pos (i8_lt i (by omega)), if_neg hne]
    obtain ⟨x', y', e1, e2⟩ := c_near (g := g) R W JV OV hJ (p3 := Int32.ofNat s) (p4 := Int32.ofNat i) (k := (fun z7 z8 => if z7 = (-1) then lp_X6_leastTree_21 27 (f, g) (n + (c + 1)) (zS O) (zS J) (Int32.ofNat s) (Int32.ofNat i + 1) else lp_X6_leastTree_21 27 (f, g) (n + (c + 1)) (zS O &&& ((zS J ||| ((1 : Int32) <<< (z7 &&& 31))) ^^^ ((-1) : Int32))) (zS J ||| ((1 : Int32) <<< (z7 &&& 31))) (Int32.ofNat s + z8) (Int32.ofNat i + 1))) 8 3991 0 (-1) 7 rfl (Or.inl ⟨rfl, rfl, fun t h => by omega⟩)
    refine Eq.trans e1 ?_
    rcases e2 with ⟨-, -, h3⟩ | ⟨t, j, ht, hj, ot, jj, rfl, rfl, h3⟩
    · have := h3 k0 hk0 hk0
      rw [this] at ok0; cases ok0
    · rw [if_neg (i8_ne ht), zS_one ht, zS_or2, zS_diff, on_add, on_succ]
      have jt : J t = false := by
        have := ot
        rw [hO t ht, Bool.and_eq_true] at this
        simpa using this.2
      have hz : zC O = zC (fun k => O k && !(J k || decide (k = t))) + 1 := zC_one ht (fun k hk hkt => by
        have e0 := hO k hk
        have d0 : decide (k = t) = false := by simp [hkt]
        simp only [d0, Bool.or_false]
        cases ok : O k
        · rfl
        · rw [ok] at e0
          have := e0.symm
          rw [Bool.and_eq_true] at this
          rw [this.2]; rfl) ot (by simp)
      have st := tot_step (V := qT (f 437)) (D := dd (f 437)) (dd_symm (f 437)) (J := J) (o := t) (j := j) (dd_le W.wm hj ht) hj ht (OV t ht ot) JV jj jt (fun j' k a1 a2 a3 a4 a5 => h3 k j' a2 a2 a1 (by rw [hO k a2, a4, a5]; rfl) a3)
      have := ih n (i + 1) (fun k => O k && !(J k || decide (k = t))) (fun k => J k || decide (k = t)) (s + dd (f 437) j t) (by omega) (by omega) (grow_sets hO) (fun k hk h => by
        rw [Bool.or_eq_true, decide_eq_true_eq] at h
        rcases h with h | rfl
        · exact JV k hk h
        · exact OV k hk ot) ⟨t, ht, by simp⟩
      rw [st, ← Nat.add_assoc s]
      exact this
def bstM (q : Nat → Int32) (O J : Nat → Bool) (n : Nat) (x y : Int32) : Prop := (x = -1 ∧ y = 1000 ∧ ∀ v, v < n → J (v / 8) = true → O (v % 8) = false) ∨ ∃ t j, t < 8 ∧ j < 8 ∧ O t = true ∧ J j = true ∧ x = Int32.ofNat t ∧ y = Int32.ofNat (dd q j t) ∧ ∀ v, v < n → J (v / 8) = true → O (v % 8) = true → dd q j t ≤ dd q (v / 8) (v % 8)
theorem m_near (W : WQ nr (f 437)) {O J : Nat → Bool} (JV : ∀ k, k < 8 → J k = true → qT (f 437) k = true) (OV : ∀ k, k < 8 → O k = true → qT (f 437) k = true) {p3 : Int32} {k : Int32 → Int32 → Option Int32} : ∀ m n v x y, v + m = 64 → bstM (f 437) O J v x y → ∃ x' y', lp_X12_span_39 (zS O) (zS J) p3 (f, g) k (n + m + 1) x y (Int32.ofNat v) = k x' y' ∧ bstM (f 437) O J 64 x' y' := by
  intro m
  induction m with
  | zero =>
    intro n v x y hv h
    obtain rfl : v = 64 := by omega
    rw [lp_X12_span_39, if_neg (by decide)]
    exact ⟨x, y, rfl, h⟩
  | succ m ih =>
    intro n v x y hv h
    have h64 : v < 64 := by omega
    have ha : v / 8 < 8 := by omega
    have hc : v % 8 < 8 := by omega
    have hvv : 8 * (v / 8) + v % 8 = v := by omega
    have d1 : Int32.ofNat v / 8 = Int32.ofNat (v / 8) := by
      have := cp_div ha hc
      rw [hvv] at this
      exact this
    have d2 : Int32.ofNat v - Int32.ofNat v / 8 * 8 = Int32.ofNat (v % 8) := by
      have := cp_mod ha hc
      rw [hvv] at this
      exact this
    have hl : Int32.ofNat v < 64 := by
      rw [show (64 : Int32) = Int32.ofNat 64 from rfl, on_lt (by omega) (by omega)]
      exact h64
    have keep : ¬ (J (v / 8) = true ∧ O (v % 8) = true) → bstM (f 437) O J (v + 1) x y := by
      intro hn
      rcases h with ⟨h1, h2, h3⟩ | ⟨t0, j0, ht0, hj0, o0, jj0, h1, h2, h3⟩
      · refine Or.inl ⟨h1, h2, fun v' a1 a2 => ?_⟩
        by_cases e : v' = v
        · subst e
          cases ho : O (v' % 8)
          · rfl
          · exact absurd ⟨a2, ho⟩ hn
        · exact h3 v' (by omega) a2
      · refine Or.inr ⟨t0, j0, ht0, hj0, o0, jj0, h1, h2, fun v' a1 a2 a3 => ?_⟩
        by_cases e : v' = v
        · subst e; exact absurd ⟨a2, a3⟩ hn
        · exact h3 v' (by omega) a2 a3
    rw [lp_X12_span_39, if_pos hl, d2, d1, on_succ, X12_bit, cal_some, X12_bit, cal_some, tb_zS J ha, tb_zS O hc]
    by_cases cj : J (v / 8) = true
    · rw [if_pos cj, if_neg (show ¬ (1 : Int32) = 0 by decide)]
      by_cases co : O (v % 8) = true
      · have vj : 0 < f 437 (v / 8) := by simpa [qT] using JV _ ha cj
        have vo : 0 < f 437 (v % 8) := by simpa [qT] using OV _ hc co
        have hd := dd_le W.wm ha hc
        have e6 : (6 : Int32) - zSh (f 437) (v / 8) (v % 8) = Int32.ofNat (dd (f 437) (v / 8) (v % 8)) := six_sub (d := dd (f 437) (v / 8) (v % 8)) (by omega)
        rw [if_pos co, if_neg (show ¬ (1 : Int32) = 0 by decide), X12_alikeT W ha hc vj vo, cal_some, cal_some, e6]
        rcases h with ⟨rfl, rfl, h3⟩ | ⟨t0, j0, ht0, hj0, o0, jj0, rfl, rfl, h3⟩
        · rw [if_pos (by rw [show (1000 : Int32) = Int32.ofNat 1000 from rfl, on_lt (by omega) (by omega)]; omega)]
          refine ih n (v + 1) _ _ (by omega) (Or.inr ⟨v % 8, v / 8, hc, ha, co, cj, rfl, rfl, fun v' a1 a2 a3 => ?_⟩)
          by_cases e : v' = v
          · subst e; exact Nat.le_refl _
          · rw [h3 v' (by omega) a2] at a3; cases a3
        · have u0 := dd_le W.wm hj0 ht0
          by_cases hlt : dd (f 437) (v / 8) (v % 8) < dd (f 437) j0 t0
          · rw [if_pos ((on_lt (by omega) (by omega)).mpr hlt)]
            refine ih n (v + 1) _ _ (by omega) (Or.inr ⟨v % 8, v / 8, hc, ha, co, cj, rfl, rfl, fun v' a1 a2 a3 => ?_⟩)
            by_cases e : v' = v
            · subst e; exact Nat.le_refl _
            · have := h3 v' (by omega) a2 a3
              omega
          · rw [if_neg (fun z => hlt ((on_lt (by omega) (by omega)).mp z))]
            refine ih n (v + 1) _ _ (by omega) (Or.inr ⟨t0, j0, ht0, hj0, o0, jj0, rfl, rfl, fun v' a1 a2 a3 => ?_⟩)
            by_cases e : v' = v
            · subst e; omega
            · exact h3 v' (by omega) a2 a3
      · rw [if_neg co, if_pos rfl]
        exact ih n (v + 1) x y (by omega) (keep (fun z => co z.2))
    · rw [if_neg cj, if_pos rfl]
      exact ih n (v + 1) x y (by omega) (keep (fun z => cj z.1))
theorem m_tree (W : WQ nr (f 437)) : ∀ c n (O J : Nat → Bool) s, zC O = c → (∀ k, k < 8 → O k = (qT (f 437) k && !J k)) → (∀ k, k < 8 → J k = true → qT (f 437) k = true) → (∃ j, j < 8 ∧ J j = true) → lp_X12_span_24 (f, g) (n + c + 1) (zS O) (zS J) (Int32.ofNat s) = some (Int32.ofNat (s + tot6 (qT (f 437)) (dd (f 437)) J)) := by
  intro c
  induction c with
  | zero =>
    intro n O J s hc hO JV hJ
    have h0 := zC_zero hc
    have ht : tot6 (qT (f 437)) (dd (f 437)) J = 0 := tot_end (fun k hk vk => by
      have := h0 k hk
      rw [hO k hk, vk] at this
      simpa using this)
    rw [lp_X12_span_24, if_pos ((zS_zero O).mpr h0), ht]
    rfl
  | succ c ih =>
    intro n O J s hc hO JV hJ
    obtain ⟨k0, hk0, ok0⟩ := zC_pos hc
    have hne : ¬ zS O = 0 := fun z => by
      have := (zS_zero O).mp z k0 hk0
      rw [this] at ok0; cases ok0
    have OV : ∀ k, k < 8 → O k = true → qT (f 437) k = true := fun k hk h => by
      rw [hO k hk, Bool.and_eq_true] at h
      exact h.1
    rw [lp_X12_span_24, if_neg hne]
    obtain ⟨x', y', e1, e2⟩ := m_near (g := g) W JV OV (p3 := Int32.ofNat s) (k := (fun z16 z17 => lp_X12_span_24 (f, g) (n + (c + 1)) (zS O &&& (((1 : Int32) <<< (z16 &&& 31)) ^^^ ((-1) : Int32))) (zS J ||| ((1 : Int32) <<< (z16 &&& 31))) (Int32.ofNat s + z17))) 64 3935 0 (-1) 1000 rfl (Or.inl ⟨rfl, rfl, fun t h => by omega⟩)
    refine Eq.trans e1 ?_
    obtain ⟨j1, hj1, jj1⟩ := hJ
    rcases e2 with ⟨-, -, h3⟩ | ⟨t, j, ht, hj, ot, jj, rfl, rfl, h3⟩
    · have d := dm8 (a := j1) hk0
      have := h3 (8 * j1 + k0) (by omega) (by rw [d.1]; exact jj1)
      rw [d.2] at this
      rw [this] at ok0; cases ok0
    · rw [zS_one ht, zS_or2, zS_diff, on_add]
      have jt : J t = false := by
        have := ot
        rw [hO t ht, Bool.and_eq_true] at this
        simpa using this.2
      have hz : zC O = zC (fun k => O k && !decide (k = t)) + 1 := zC_one ht (fun k hk hkt => by simp [hkt]) ot (by simp)
      have st := tot_step (V := qT (f 437)) (D := dd (f 437)) (dd_symm (f 437)) (J := J) (o := t) (j := j) (dd_le W.wm hj ht) hj ht (OV t ht ot) JV jj jt (fun j' k a1 a2 a3 a4 a5 => by
        have d := dm8 (a := j') a2
        have := h3 (8 * j' + k) (by omega) (by rw [d.1]; exact a3) (by rw [d.2, hO k a2, a4, a5]; rfl)
        rw [d.1, d.2] at this
        exact this)
      have := ih n (fun k => O k && !decide (k = t)) (fun k => J k || decide (k = t)) (s + dd (f 437) j t) (by omega) (fun k hk => by
        rw [hO k hk]
        cases qT (f 437) k <;> cases J k <;> simp) (fun k hk h => by
        rw [Bool.or_eq_true, decide_eq_true_eq] at h
        rcases h with h | rfl
        · exact JV k hk h
        · exact OV k hk ot) ⟨t, ht, by simp⟩
      rw [st, ← Nat.add_assoc s]
      exact this
theorem q_span (R : RC 27 (f 437) f) (W : WQ nr (f 437)) : AG (f_X11_span (f, g)) (f_X12_span (f, g)) := by
  have R' : RC 27 (f 437) (f, g).1 := R
  unfold f_X11_span f_X12_span f_X6_leastTree
  rw [X7_bits R', cal_some, X12_those, cal_some]
  simp only
  rw [zS_low, zS_diff]
  by_cases h0 : zS (qT (f 437)) = 0
  · have hz := (zS_zero _).mp h0
    have e0 : zS (fun k => qT (f 437) k && !low (qT (f 437)) k) = 0 := (zS_zero _).mpr (fun k hk => by rw [hz k hk]; rfl)
    rw [if_pos h0, e0]
    have : lp_X6_leastTree_21 27 (f, g) 4000 0 (zS (low (qT (f 437)))) 0 0 = some 0 := by
      rw [lp_X6_leastTree_21, if_pos (by decide), if_pos rfl]
    rw [this, cal_some]
    exact AG.of rfl rfl
  · have hne : ∃ k, k < 8 ∧ qT (f 437) k = true := Classical.byContradiction (fun z => h0 ((zS_zero _).mpr (fun k hk => by
      cases hq : qT (f 437) k
      · rfl
      · exact absurd ⟨k, hk, hq⟩ z)))
    obtain ⟨k, hk, hq⟩ := hne
    have hJ := low_ex hk hq
    have hcz : zC (fun k => qT (f 437) k && !low (qT (f 437)) k) ≤ 8 := zC_le8 _
    have c1 := c_tree (g := g) R W (zC (fun k => qT (f 437) k && !low (qT (f 437)) k)) (3999 - zC (fun k => qT (f 437) k && !low (qT (f 437)) k)) 0 (fun k => qT (f 437) k && !low (qT (f 437)) k) (low (qT (f 437))) 0 rfl (by omega) (fun k hk => rfl) (fun k hk h => low_sub h) hJ
    have m1 := m_tree (g := g) W (zC (fun k => qT (f 437) k && !low (qT (f 437)) k)) (3999 - zC (fun k => qT (f 437) k && !low (qT (f 437)) k)) (fun k => qT (f 437) k && !low (qT (f 437)) k) (low (qT (f 437))) 0 rfl (fun k hk => rfl) (fun k hk h => low_sub h) hJ
    rw [show 3999 - zC (fun k => qT (f 437) k && !low (qT (f 437)) k) + zC (fun k => qT (f 437) k && !low (qT (f 437)) k) + 1 = 4000 by omega] at c1 m1
    have c1' : lp_X6_leastTree_21 27 (f, g) 4000 (zS (fun k => qT (f 437) k && !low (qT (f 437)) k)) (zS (low (qT (f 437)))) 0 0 = _ := c1
    have m1' : lp_X12_span_24 (f, g) 4000 (zS (fun k => qT (f 437) k && !low (qT (f 437)) k)) (zS (low (qT (f 437)))) 0 = _ := m1
    rw [if_neg h0, c1', cal_some, m1']
    exact AG.of rfl rfl
end QH
