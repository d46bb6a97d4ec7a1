/-! Pack: what the search finds, and what the model looks through -/
def dg (v k : Nat) : Nat := v / 4 ^ (7 - k) % 4
noncomputable def usd (q : Nat → Int32) (v t r : Nat) : Bool := cb (∃ k, t ≤ k ∧ k < 8 ∧ ¬ q k = 0 ∧ dg v k = r)
def smr (q : Nat → Int32) (v t r : Nat) : Int := sum8 (fun k => if t ≤ k ∧ ¬ q k = 0 ∧ dg v k = r then (q k).toInt else 0)
theorem zC_mono {e e' : Nat → Bool} (h : ∀ k, k < 8 → e k = true → e' k = true) : zC e ≤ zC e' := by
  have a := zC_sum e
  have c := zC_sum e'
  have m := sum8_le (g := fun j => if e' j = true then (1 : Int) else 0) (g' := fun j => if e j = true then (1 : Int) else 0) (fun j hj => by
    by_cases e2 : e j = true
    · rw [if_pos e2, if_pos (h j hj e2)]; exact Int.le_refl _
    · rw [if_neg e2]
      split
      · exact Int.le_of_lt Int.zero_lt_one
      · exact Int.le_refl _)
  omega
theorem dg_rest {v m t k : Nat} (ht : t + (m + 1) = 8) (hk : t + 1 ≤ k) (hk8 : k < 8) : dg (v % 4 ^ m) k = dg v k := by
  have hp : 0 < 4 ^ m := Nat.pow_pos (by decide)
  unfold dg
  conv => rhs; rw [← Nat.div_add_mod' v (4 ^ m)]
  have e : v / 4 ^ m * 4 ^ m = v / 4 ^ m * 4 ^ (m - (7 - k) - 1) * 4 * 4 ^ (7 - k) := by
    rw [Nat.mul_assoc, Nat.mul_assoc]
    congr 1
    rw [show 4 * 4 ^ (7 - k) = 4 ^ (7 - k + 1) by rw [Nat.pow_succ]; omega, ← Nat.pow_add]
    congr 1
    omega
  rw [e, Nat.add_comm, Nat.add_mul_div_right _ _ (Nat.pow_pos (by decide)), Nat.add_mul_mod_self_right]
theorem dg_top {v m t : Nat} (ht : t + (m + 1) = 8) (hv : v < 4 ^ (m + 1)) : dg v t = v / 4 ^ m := by
  unfold dg
  rw [show 7 - t = m by omega]
  refine Nat.mod_eq_of_lt ((Nat.div_lt_iff_lt_mul (Nat.pow_pos (by decide))).mpr ?_)
  rw [Nat.pow_succ] at hv
  omega
theorem Fe_iff {q : Nat → Int32} {nr most : Nat} (h4 : nr ≤ 4) (W : ∀ k, k < 8 → 0 ≤ (q k).toInt ∧ (q k).toInt ≤ 20) : ∀ m t u (S : Nat → Int32) v, t + m = 8 → v < 4 ^ m → zC u ≤ most → (∀ r, r < nr → 0 ≤ (S r).toInt ∧ (S r).toInt ≤ 200) → (Fe q nr most m t u S v ↔ ((∀ k, t ≤ k → k < 8 → (q k = 0 → dg v k = 0) ∧ (¬ q k = 0 → dg v k < nr)) ∧ zC (fun r => u r || usd q v t r) ≤ most ∧ ∀ r, r < nr → smr q v t r ≤ (S r).toInt)) := by
  intro m
  induction m with
  | zero =>
    intro t u S v ht hv hu hS
    obtain rfl : t = 8 := by omega
    rw [Fe]
    refine ⟨fun _ => ⟨fun k h1 h2 => by omega, ?_, fun r hr => ?_⟩, fun _ => trivial⟩
    · rw [zC_cong (e' := u) (fun k hk => ?_)]
      · exact hu
      · cases hc : usd q v 8 k
        · simp
        · obtain ⟨k', h1, h2, -⟩ := cb_t.mp hc
          omega
    · have : smr q v 8 r = 0 := by
        unfold smr
        rw [show sum8 (fun k => if 8 ≤ k ∧ ¬ q k = 0 ∧ dg v k = r then (q k).toInt else 0) = sum8 (fun _ => 0) from sum8_eq (fun k hk => by rw [if_neg (fun z => by omega)])]
        rfl
      rw [this]
      exact (hS r hr).1
  | succ m ih =>
    intro t u S v ht hv hu hS
    have h8 : t < 8 := by omega
    have hp : 0 < 4 ^ m := Nat.pow_pos (by decide)
    have hm := Nat.mod_lt v hp
    have hd := dg_top ht hv
    have hb := W t h8
    rw [Fe, ← hd]
    by_cases c : q t = 0
    · rw [if_pos c, ih (t + 1) u S (v % 4 ^ m) (by omega) hm hu hS]
      have eu : ∀ r, usd q (v % 4 ^ m) (t + 1) r = usd q v t r := fun r => cb_cong (by
        constructor
        · rintro ⟨k, h1, h2, h3, h5⟩
          exact ⟨k, by omega, h2, h3, by rw [← dg_rest ht h1 h2]; exact h5⟩
        · rintro ⟨k, h1, h2, h3, h5⟩
          by_cases e : k = t
          · subst e; exact absurd c h3
          · exact ⟨k, by omega, h2, h3, by rw [dg_rest ht (by omega) h2]; exact h5⟩)
      have es : ∀ r, smr q (v % 4 ^ m) (t + 1) r = smr q v t r := fun r => sum8_eq (fun k hk => by
        by_cases e : k = t
        · subst e; rw [if_neg (fun z => by omega), if_neg (fun z => z.2.1 c)]
        · by_cases l : t + 1 ≤ k
          · have l2 : t ≤ k := by omega
            simp only [dg_rest ht l hk, l, l2, true_and]
          · have l2 : ¬ t ≤ k := by omega
            simp only [l, l2, false_and])
      constructor
      · rintro ⟨h1, h2, h3, h5⟩
        refine ⟨fun k k1 k2 => ?_, ?_, fun r hr => by rw [← es r]; exact h5 r hr⟩
        · by_cases e : k = t
          · subst e; exact ⟨fun _ => h1, fun z => absurd c z⟩
          · have := h2 k (by omega) k2
            rw [dg_rest ht (by omega) k2] at this
            exact this
        · rw [zC_cong (e' := fun r => u r || usd q (v % 4 ^ m) (t + 1) r) (fun k hk => by rw [eu])]
          exact h3
      · rintro ⟨h1, h2, h3⟩
        refine ⟨(h1 t (Nat.le_refl _) h8).1 c, fun k k1 k2 => ?_, ?_, fun r hr => by rw [es r]; exact h3 r hr⟩
        · rw [dg_rest ht (by omega) k2]
          exact h1 k (by omega) k2
        · rw [zC_cong (e' := fun r => u r || usd q v t r) (fun k hk => by rw [eu])]
          exact h2
    · rw [if_neg c]
      have eu : ∀ r, (decide (r = dg v t) || usd q (v % 4 ^ m) (t + 1) r) = usd q v t r := fun r => bool_ext (by
        rw [Bool.or_eq_true, decide_eq_true_eq]
        unfold usd
        rw [cb_t, cb_t]
        constructor
        · rintro (rfl | ⟨k, h1, h2, h3, h5⟩)
          · exact ⟨t, Nat.le_refl _, h8, c, rfl⟩
          · exact ⟨k, by omega, h2, h3, by rw [← dg_rest ht h1 h2]; exact h5⟩
        · rintro ⟨k, h1, h2, h3, h5⟩
          by_cases e : k = t
          · subst e; exact Or.inl h5.symm
          · exact Or.inr ⟨k, by omega, h2, h3, by rw [dg_rest ht (by omega) h2]; exact h5⟩)
      have es : ∀ r, smr q v t r = smr q (v % 4 ^ m) (t + 1) r + (if dg v t = r then (q t).toInt else 0) := fun r => by
        have := sum8_one (g := fun k => if t + 1 ≤ k ∧ ¬ q k = 0 ∧ dg (v % 4 ^ m) k = r then (q k).toInt else 0) (g' := fun k => if t ≤ k ∧ ¬ q k = 0 ∧ dg v k = r then (q k).toInt else 0) h8 (fun k hk hkt => by
          by_cases l : t + 1 ≤ k
          · have l2 : t ≤ k := by omega
            simp only [dg_rest ht l hk, l, l2, true_and]
          · have l2 : ¬ t ≤ k := by omega
            simp only [l, l2, false_and])
        have n1 : ¬ t + 1 ≤ t := by omega
        simp only [n1, false_and, if_false, Nat.le_refl, true_and, c, not_false_eq_true] at this
        unfold smr
        rw [this]
        omega
      have mono0 : ∀ r, 0 ≤ smr q (v % 4 ^ m) (t + 1) r := fun r => (sum8_b (n := 20) (fun k hk => by
        have := W k hk
        split <;> omega)).1
      have zu : zC (fun r => (u r || decide (r = dg v t)) || usd q (v % 4 ^ m) (t + 1) r) = zC (fun r => u r || usd q v t r) := zC_cong (fun r hr => by rw [Bool.or_assoc, eu])
      have z1 : zC (fun r => u r || decide (r = dg v t)) ≤ zC (fun r => u r || usd q v t r) := zC_mono (fun k hk h => by
        rw [← eu]
        rw [Bool.or_eq_true] at h ⊢
        rcases h with h | h
        · exact Or.inl h
        · exact Or.inr (by rw [h]; rfl))
      constructor
      · rintro ⟨h1, h2, h3, h5⟩
        have hS' : ∀ r, r < nr → 0 ≤ (st S (dg v t) (S (dg v t) - q t) r).toInt ∧ (st S (dg v t) (S (dg v t) - q t) r).toInt ≤ 200 := fun r hr => by
          by_cases e : r = dg v t
          · subst e
            have s0 := hS _ hr
            rw [Int32.lt_iff_toInt_lt] at h3
            rw [st_same, ti_sub (by omega) (by omega)]
            omega
          · rw [st_ne e]; exact hS r hr
        rw [ih (t + 1) _ _ (v % 4 ^ m) (by omega) hm h2 hS'] at h5
        obtain ⟨a1, a2, a3⟩ := h5
        refine ⟨fun k k1 k2 => ?_, by rw [← zu]; exact a2, fun r hr => ?_⟩
        · by_cases e : k = t
          · subst e; exact ⟨fun z => absurd z c, fun _ => h1⟩
          · have := a1 k (by omega) k2
            rw [dg_rest ht (by omega) k2] at this
            exact this
        · have := a3 r hr
          rw [es r]
          by_cases e : r = dg v t
          · subst e
            have s0 := hS _ hr
            rw [Int32.lt_iff_toInt_lt] at h3
            rw [st_same, ti_sub (by omega) (by omega)] at this
            rw [if_pos rfl]
            omega
          · rw [st_ne e] at this
            rw [if_neg (fun z => e z.symm)]
            omega
      · rintro ⟨h1, h2, h3⟩
        have d0 := (h1 t (Nat.le_refl _) h8).2 c
        have s3 := h3 _ d0
        rw [es, if_pos rfl] at s3
        have m0 := mono0 (dg v t)
        have s0 := hS _ d0
        have n3 : ¬ S (dg v t) < q t := by rw [Int32.lt_iff_toInt_lt]; omega
        have hS' : ∀ r, r < nr → 0 ≤ (st S (dg v t) (S (dg v t) - q t) r).toInt ∧ (st S (dg v t) (S (dg v t) - q t) r).toInt ≤ 200 := fun r hr => by
          by_cases e : r = dg v t
          · subst e
            rw [st_same, ti_sub (by omega) (by omega)]
            omega
          · rw [st_ne e]; exact hS r hr
        refine ⟨d0, by omega, n3, ?_⟩
        rw [ih (t + 1) _ _ (v % 4 ^ m) (by omega) hm (by omega) hS']
        refine ⟨fun k k1 k2 => ?_, by rw [zu]; exact h2, fun r hr => ?_⟩
        · rw [dg_rest ht (by omega) k2]
          exact h1 k (by omega) k2
        · have := h3 r hr
          rw [es r] at this
          by_cases e : r = dg v t
          · subst e
            rw [if_pos rfl] at this
            rw [st_same, ti_sub (by omega) (by omega)]
            omega
          · rw [if_neg (fun z => e z.symm)] at this
            rw [st_ne e]
            omega
/-- a row of rooms that can be; how many rooms it takes -/
noncomputable def pU (q : Nat → Int32) (v : Nat) : Nat → Bool := usd q v 0
def pOk (q hold : Nat → Int32) (nr v : Nat) : Prop := (∀ k, k < 8 → (q k = 0 → dg v k = 0) ∧ (¬ q k = 0 → dg v k < nr)) ∧ ∀ r, r < nr → smr q v 0 r ≤ (hold r).toInt
theorem Fe_ok {q hold : Nat → Int32} {nr most : Nat} (h4 : nr ≤ 4) (H : HO nr hold) (W : WQ nr q) {v : Nat} (hv : v < 65536) : Fe q nr most 8 0 (fun _ => false) hold v ↔ (pOk q hold nr v ∧ zC (pU q v) ≤ most) := by
  have h0 : zC (fun _ => false) = 0 := by decide +kernel
  rw [Fe_iff h4 (fun k hk => W.le hk) 8 0 _ hold v rfl hv (by omega) (fun r hr => by have := H r hr; omega)]
  have e : zC (fun r => false || usd q v 0 r) = zC (pU q v) := zC_cong (fun k hk => by rw [Bool.false_or]; rfl)
  rw [e]
  unfold pOk
  constructor
  · rintro ⟨h1, h2, h3⟩
    exact ⟨⟨fun k hk => h1 k (Nat.zero_le _) hk, h3⟩, h2⟩
  · rintro ⟨⟨h1, h3⟩, h2⟩
    exact ⟨fun k _ hk => h1 k hk, h2, h3⟩
theorem pU_lt {q hold : Nat → Int32} {nr v : Nat} (h4 : nr ≤ 4) (h : pOk q hold nr v) : zC (pU q v) ≤ nr := by
  have h1 : zC (pU q v) ≤ zC (fun k => decide (k < nr)) := zC_mono (fun r hr hu => by
    obtain ⟨k, _, k2, k3, k5⟩ := cb_t.mp hu
    have := (h.1 k k2).2 k3
    rw [k5] at this
    simpa using this)
  have h2 : ∀ n : Fin 5, zC (fun k => decide (k < n.val)) = n.val := by decide +kernel
  have := h2 ⟨nr, by omega⟩
  simp only at this
  omega
/-- what pack should find: the fewest rooms, and of those the first row -/
def isBest (q hold : Nat → Int32) (nr : Nat) (d : Option Nat) : Prop := (d = none ∧ ∀ v, v < 65536 → ¬ pOk q hold nr v) ∨ ∃ v, d = some v ∧ v < 65536 ∧ pOk q hold nr v ∧ (∀ v', v' < 65536 → pOk q hold nr v' → zC (pU q v) ≤ zC (pU q v')) ∧ ∀ v', v' < v → pOk q hold nr v' → zC (pU q v) < zC (pU q v')
theorem best_one {q hold : Nat → Int32} {nr : Nat} {d d' : Option Nat} (h : isBest q hold nr d) (h' : isBest q hold nr d') : d = d' := by
  rcases h with ⟨rfl, h2⟩ | ⟨v, rfl, v1, v2, v3, v4⟩
  · rcases h' with ⟨rfl, -⟩ | ⟨w, -, w1, w2, -, -⟩
    · rfl
    · exact absurd w2 (h2 w w1)
  · rcases h' with ⟨-, h2⟩ | ⟨w, rfl, w1, w2, w3, w4⟩
    · exact absurd v2 (h2 v v1)
    · congr 1
      rcases Nat.lt_trichotomy v w with l | l | l
      · have a := w4 v l v2
        have c := v3 w w1 w2
        omega
      · exact l
      · have a := v4 w l w2
        have c := w3 v v1 v2
        omega
theorem dfs_cong2 {q : Nat → Int32} {nr most : Nat} (h4 : nr ≤ 4) : ∀ m t u (S S' : Nat → Int32), (∀ r, r < nr → S r = S' r) → dfs q nr most m t u S = dfs q nr most m t u S'
  | 0, _, _, _, _, _ => rfl
  | m + 1, t, u, S, S', h => by
    rw [dfs, dfs]
    by_cases c : q t = 0
    · rw [if_pos c, if_pos c]
      exact dfs_cong2 h4 m (t + 1) u S S' h
    · rw [if_neg c, if_neg c]
      have : ∀ j r, r + j = nr → ∀ p p' : Nat → Option Nat, (∀ k, k < nr → p k = p' k) → fr p j r = fr p' j r := by
        intro j
        induction j with
        | zero => intro r _ p p' _; rfl
        | succ j ih =>
          intro r hr p p' hp
          rw [fr, fr, hp r (by omega)]
          cases p' r with
          | some v => rfl
          | none => exact ih (r + 1) (by omega) p p' hp
      refine this nr 0 (by omega) _ _ (fun k hk => ?_)
      rw [h k hk, dfs_cong2 h4 m (t + 1) (fun j => u j || decide (j = k)) (st S k (S' k - q t)) (st S' k (S' k - q t)) (fun r hr => by
        by_cases e : r = k
        · subst e; rw [st_same, st_same]
        · rw [st_ne e, st_ne e]; exact h r hr)]
section QM
variable {nr b : Nat} {hold q : Nat → Int32} {g : (Nat → Nat → Int64) × (Nat → Nat → Option Nat)}
theorem c_packAll (H : HO nr hold) (W : WQ nr q) : ∀ m n t (f : Nat → Nat → Int32), t + m = nr + 1 → RC 27 q f → PC (f, g) nr hold → (∀ v, v < 65536 → pOk q hold nr v → t ≤ zC (pU q v)) → ∃ d f', isBest q hold nr d ∧ FRp f f' ∧ ((d = none ∧ lp_X8_packAll_2 27 (n + m + 1) (Int32.ofNat t) (f, g) = some (-1, (f', g))) ∨ ∃ v, d = some v ∧ lp_X8_packAll_2 27 (n + m + 1) (Int32.ofNat t) (f, g) = some (Int32.ofNat (zC (pU q v)), (f', g)) ∧ ∀ k, k < 8 → f' 403 k = chv q v k) := by
  intro m
  induction m with
  | zero =>
    intro n t f ht R P hlow
    have h4 := P.2.1
    obtain rfl : t = nr + 1 := by omega
    rw [lp_X8_packAll_2, bnd_eq, P.1, if_pos (by rw [on_lt (by omega) (by omega)]; omega)]
    refine ⟨none, f, Or.inl ⟨rfl, fun v hv hok => ?_⟩, fun _ _ _ => rfl, Or.inl ⟨rfl, rfl⟩⟩
    have h1 := hlow v hv hok
    have h2 := pU_lt h4 hok
    omega
  | succ m ih =>
    intro n t f ht R P hlow
    have h4 := P.2.1
    have ht4 : t ≤ 4 := by omega
    have n4 : ¬ (4 : Int32) < Int32.ofNat t := by
      rw [show (4 : Int32) = Int32.ofNat 4 from rfl, on_lt (by omega) (by omega)]; omega
    rw [lp_X8_packAll_2, bnd_eq, P.1, if_neg (by rw [on_lt (by omega) (by omega)]; omega), if_neg n4]
    have ecp : ∀ F : am_H → Option (Int32 × am_H), ∃ w, (∀ r, r < 4 → w r = f 5 r) ∧ cpI (f, g) 5 4 0 402 4 0 4 F = F (up f 402 w, g) := by
      intro F
      refine ⟨va_cpy (f 5) (f 402) 0 0 4, fun r hr => ?_, ?_⟩
      · unfold va_cpy
        have : 0 ≤ r ∧ r < 0 + 4 := by omega
        simp [this]
      · unfold cpI
        rw [if_pos (by decide)]
        congr 2
    obtain ⟨w, w1, w2⟩ := ecp (fun h2 => cal2 (f_X8_stowFrom 12 27 0 0 (Int32.ofNat t) h2) fun v6 h8 => if v6 = 0 then lp_X8_packAll_2 27 (n + (m + 1)) (Int32.ofNat t + 1) h8 else some (Int32.ofNat t, h8))
    rw [w2]
    have K0 : FRp f (up f 402 w) := fun a h1 _ => up_ne h1
    have R0 : RC 27 q (up f 402 w) := RC_frame (fun a h1 h2 => up_ne (by omega)) R
    have hs := c_stow (g := g) (q := q) h4 (show t ≤ 8 by omega) 8 11 3991 0 (fun _ => false) (up f 402 w) (by decide) (by decide) rfl R0 (by rw [up_ne (by decide)]; exact P.1)
    rw [zS_empty] at hs
    have ecall : f_X8_stowFrom 12 27 0 0 (Int32.ofNat t) (up f 402 w, g) = lp_X8_stowFrom_b_7 (f_X8_stowFrom 11) 27 0 (Int32.ofNat t) (fun z5 h6 => jn_X8_stowFrom_b_38 (f_X8_stowFrom 11) 27 0 (Int32.ofNat t) z5 h6) (3991 + 8 + 1) (Int32.ofNat 0) (up f 402 w, g) := rfl
    rw [ecall]
    have ed : dfs q nr t 8 0 (fun _ => false) (up f 402 w 402) = dfs q nr t 8 0 (fun _ => false) hold := by
      rw [up_same]
      exact dfs_cong2 h4 8 0 _ _ _ (fun r hr => by rw [w1 r (by omega)]; exact P.2.2 r hr)
    rw [ed] at hs
    have dl := dfs_least (q := q) (nr := nr) (most := t) h4 8 0 (fun _ => false) hold
    rcases hs with ⟨v, d1, f', d2, d3, d4, d5⟩ | ⟨d1, f', d2, d3, d4, d5⟩
    · rw [d2, cal2_some, if_neg (show ¬ (1 : Int32) = 0 by decide)]
      obtain ⟨v1, v2, v3⟩ := dl.1 v d1
      have hv : v < 65536 := v1
      rw [Fe_ok h4 H W hv] at v2
      have hz : zC (pU q v) = t := by
        have := hlow v hv v2.1
        omega
      refine ⟨some v, f', Or.inr ⟨v, rfl, hv, v2.1, fun v' hv' hok => ?_, fun v' hv' hok => ?_⟩, K0.trans d3, Or.inr ⟨v, rfl, by rw [hz], fun k hk => d4 k (Nat.zero_le _) hk⟩⟩
      · rw [hz]; exact hlow v' hv' hok
      · have hv'' : v' < 65536 := by omega
        have h1 := hlow v' hv'' hok
        have h2 := v3 v' hv'
        rw [Fe_ok h4 H W hv''] at h2
        by_cases e : zC (pU q v') = t
        · exact absurd ⟨hok, by omega⟩ h2
        · omega
    · rw [d2, cal2_some, if_pos rfl, on_succ]
      have K1 := K0.trans d3
      obtain ⟨d, f'', a1, a2, a3⟩ := ih n (t + 1) f' (by omega) (RC_frame (fun a h1 h2 => K1 a (by omega) (by omega)) R) (PC_frame (K1 4 (by decide) (by decide)) (K1 5 (by decide) (by decide)) P) (fun v hv hok => by
        have h1 := hlow v hv hok
        have h2 := dl.2 d1 v hv
        rw [Fe_ok h4 H W hv] at h2
        by_cases e : zC (pU q v) = t
        · exact absurd ⟨hok, by omega⟩ h2
        · omega)
      exact ⟨d, f'', a1, K1.trans a2, a3⟩
end QM
