/-! Pack: the class's search -/
/-- the first of j places from r on that has an answer -/
def fr (p : Nat → Option Nat) : Nat → Nat → Option Nat
  | 0, _ => none
  | j + 1, r => match p r with
    | some v => some v
    | none => fr p j (r + 1)
def dfs (q : Nat → Int32) (nr most : Nat) : Nat → Nat → (Nat → Bool) → (Nat → Int32) → Option Nat
  | 0, _, _, _ => some 0
  | m + 1, t, u, S => if q t = 0 then dfs q nr most m (t + 1) u S else fr (fun r => if zC (fun k => u k || decide (k = r)) ≤ most ∧ ¬ S r < q t then (dfs q nr most m (t + 1) (fun k => u k || decide (k = r)) (st S r (S r - q t))).map (fun v => r * 4 ^ m + v) else none) nr 0
/-- what can be, by its digits -/
def Fe (q : Nat → Int32) (nr most : Nat) : Nat → Nat → (Nat → Bool) → (Nat → Int32) → Nat → Prop
  | 0, _, _, _, _ => True
  | m + 1, t, u, S, v => if q t = 0 then v / 4 ^ m = 0 ∧ Fe q nr most m (t + 1) u S (v % 4 ^ m) else v / 4 ^ m < nr ∧ zC (fun k => u k || decide (k = v / 4 ^ m)) ≤ most ∧ ¬ S (v / 4 ^ m) < q t ∧ Fe q nr most m (t + 1) (fun k => u k || decide (k = v / 4 ^ m)) (st S (v / 4 ^ m) (S (v / 4 ^ m) - q t)) (v % 4 ^ m)
theorem fr_some {p : Nat → Option Nat} : ∀ j r v, fr p j r = some v → ∃ r', r ≤ r' ∧ r' < r + j ∧ p r' = some v ∧ ∀ r'', r ≤ r'' → r'' < r' → p r'' = none := by
  intro j
  induction j with
  | zero => intro r v h; cases h
  | succ j ih =>
    intro r v h
    rw [fr] at h
    cases hp : p r with
    | some w =>
      rw [hp] at h
      simp only at h
      exact ⟨r, Nat.le_refl _, by omega, by rw [hp]; exact h, fun r'' h1 h2 => by omega⟩
    | none =>
      rw [hp] at h
      simp only at h
      obtain ⟨r', h1, h2, h3, h4⟩ := ih (r + 1) v h
      refine ⟨r', by omega, by omega, h3, fun r'' a1 a2 => ?_⟩
      by_cases e : r'' = r
      · subst e; exact hp
      · exact h4 r'' (by omega) a2
theorem fr_none {p : Nat → Option Nat} : ∀ j r, fr p j r = none → ∀ r', r ≤ r' → r' < r + j → p r' = none := by
  intro j
  induction j with
  | zero => intro r _ r' h1 h2; omega
  | succ j ih =>
    intro r h r' h1 h2
    rw [fr] at h
    cases hp : p r with
    | some w => rw [hp] at h; cases h
    | none =>
      rw [hp] at h
      simp only at h
      by_cases e : r' = r
      · subst e; exact hp
      · exact ih (r + 1) h r' (by omega) (by omega)
theorem dfs_least {q : Nat → Int32} {nr most : Nat} (h4 : nr ≤ 4) : ∀ m t u S, (∀ v, dfs q nr most m t u S = some v → v < 4 ^ m ∧ Fe q nr most m t u S v ∧ ∀ v', v' < v → ¬ Fe q nr most m t u S v') ∧ (dfs q nr most m t u S = none → ∀ v, v < 4 ^ m → ¬ Fe q nr most m t u S v) := by
  intro m
  induction m with
  | zero =>
    intro t u S
    refine ⟨fun v h => ?_, fun h => by cases h⟩
    cases h
    exact ⟨by decide, trivial, fun v' h => by omega⟩
  | succ m ih =>
    intro t u S
    have hp : 0 < 4 ^ m := Nat.pow_pos (by decide)
    have hs : 4 ^ (m + 1) = 4 * 4 ^ m := by rw [Nat.pow_succ]; omega
    by_cases c : q t = 0
    · obtain ⟨a1, a2⟩ := ih (t + 1) u S
      refine ⟨fun v h => ?_, fun h v hv => ?_⟩
      · rw [dfs, if_pos c] at h
        obtain ⟨b1, b2, b3⟩ := a1 v h
        refine ⟨by omega, ?_, fun v' hv' hf => ?_⟩
        · rw [Fe, if_pos c]
          exact ⟨Nat.div_eq_of_lt b1, by rw [Nat.mod_eq_of_lt b1]; exact b2⟩
        · rw [Fe, if_pos c] at hf
          rw [Nat.mod_eq_of_lt (by omega)] at hf
          exact b3 v' hv' hf.2
      · rw [dfs, if_pos c] at h
        intro hf
        rw [Fe, if_pos c] at hf
        exact a2 h (v % 4 ^ m) (Nat.mod_lt _ hp) hf.2
    · have key : ∀ r rest, rest < 4 ^ m → (Fe q nr most (m + 1) t u S (r * 4 ^ m + rest) ↔ (r < nr ∧ zC (fun k => u k || decide (k = r)) ≤ most ∧ ¬ S r < q t ∧ Fe q nr most m (t + 1) (fun k => u k || decide (k = r)) (st S r (S r - q t)) rest)) := by
        intro r rest hr
        have d1 : (r * 4 ^ m + rest) / 4 ^ m = r := by
          rw [Nat.add_comm, Nat.add_mul_div_right _ _ hp, Nat.div_eq_of_lt hr, Nat.zero_add]
        have d2 : (r * 4 ^ m + rest) % 4 ^ m = rest := by
          rw [Nat.add_comm, Nat.add_mul_mod_self_right, Nat.mod_eq_of_lt hr]
        rw [Fe, if_neg c, d1, d2]
      have split : ∀ v, v = v / 4 ^ m * 4 ^ m + v % 4 ^ m := fun v => (Nat.div_add_mod' v (4 ^ m)).symm
      refine ⟨fun v h => ?_, fun h v hv hf => ?_⟩
      · rw [dfs, if_neg c] at h
        obtain ⟨r, r1, r2, r3, r4⟩ := fr_some nr 0 v h
        by_cases cc : zC (fun k => u k || decide (k = r)) ≤ most ∧ ¬ S r < q t
        · rw [if_pos cc, Option.map_eq_some_iff] at r3
          obtain ⟨w, w1, w2⟩ := r3
          obtain ⟨b1, b2, b3⟩ := (ih (t + 1) _ _).1 w w1
          subst w2
          refine ⟨?_, (key r w b1).mpr ⟨by omega, cc.1, cc.2, b2⟩, fun v' hv' hf => ?_⟩
          · have : r * 4 ^ m + w < (r + 1) * 4 ^ m := by rw [Nat.add_mul]; omega
            have h5 : (r + 1) * 4 ^ m ≤ 4 * 4 ^ m := Nat.mul_le_mul_right _ (by omega)
            omega
          · rw [split v'] at hf hv'
            have hm := Nat.mod_lt v' hp
            rw [key _ _ hm] at hf
            by_cases l : v' / 4 ^ m < r
            · have := r4 (v' / 4 ^ m) (Nat.zero_le _) l
              rw [if_pos ⟨hf.2.1, hf.2.2.1⟩, Option.map_eq_none_iff] at this
              exact (ih (t + 1) _ _).2 this _ hm hf.2.2.2
            · by_cases l2 : v' / 4 ^ m = r
              · rw [l2] at hf hv'
                exact b3 _ (by omega) hf.2.2.2
              · have : (r + 1) * 4 ^ m ≤ v' / 4 ^ m * 4 ^ m := Nat.mul_le_mul_right _ (by omega)
                rw [Nat.add_mul] at this
                omega
        · rw [if_neg cc] at r3; cases r3
      · rw [dfs, if_neg c] at h
        rw [split v] at hf
        have hm := Nat.mod_lt v hp
        rw [key _ _ hm] at hf
        have := fr_none nr 0 h (v / 4 ^ m) (Nat.zero_le _) (by omega)
        rw [if_pos ⟨hf.2.1, hf.2.2.1⟩, Option.map_eq_none_iff] at this
        exact (ih (t + 1) _ _).2 this _ hm hf.2.2.2
def chv (q : Nat → Int32) (v k : Nat) : Int32 := if q k = 0 then -1 else Int32.ofNat (v / 4 ^ (7 - k) % 4)
/-- what stowing leaves alone -/
def FRp (f f' : Nat → Nat → Int32) : Prop := ∀ a, a ≠ 402 → a ≠ 403 → f' a = f a
theorem FRp.trans {f f' f'' : Nat → Nat → Int32} (h : FRp f f') (h' : FRp f' f'') : FRp f f'' := fun a h1 h2 => (h' a h1 h2).trans (h a h1 h2)
def Res (q : Nat → Int32) (g : (Nat → Nat → Int64) × (Nat → Nat → Option Nat)) (t : Nat) (f : Nat → Nat → Int32) (d : Option Nat) (res : Option (Int32 × am_H)) : Prop :=
  (∃ v, d = some v ∧ ∃ f', res = some (1, (f', g)) ∧ FRp f f' ∧ (∀ k, t ≤ k → k < 8 → f' 403 k = chv q v k) ∧ ∀ k, k < t → f' 403 k = f 403 k) ∨ (d = none ∧ ∃ f', res = some (0, (f', g)) ∧ FRp f f' ∧ (∀ r, r < 4 → f' 402 r = f 402 r) ∧ ∀ k, k < t → f' 403 k = f 403 k)
theorem sub_add_32 (x y : Int32) : x - y + y = x := by
  apply Int32.toBitVec_inj.mp
  rw [Int32.toBitVec_add, Int32.toBitVec_sub]
  exact BitVec.sub_add_cancel _ _
theorem dfs_lt {q : Nat → Int32} {nr most : Nat} (h4 : nr ≤ 4) {m t v : Nat} {u : Nat → Bool} {S : Nat → Int32} (h : dfs q nr most m t u S = some v) : v < 4 ^ m := ((dfs_least h4 m t u S).1 v h).1
theorem dfs_cong {q : Nat → Int32} {nr most : Nat} (h4 : nr ≤ 4) : ∀ m t u (S S' : Nat → Int32), (∀ r, r < 4 → S r = S' r) → dfs q nr most m t u S = dfs q nr most m t u S'
  | 0, _, _, _, _, _ => rfl
  | m + 1, t, u, S, S', h => by
    rw [dfs, dfs]
    by_cases c : q t = 0
    · rw [if_pos c, if_pos c]
      exact dfs_cong h4 m (t + 1) u S S' h
    · rw [if_neg c, if_neg c]
      have : ∀ j r, r + j ≤ 4 → ∀ p p' : Nat → Option Nat, (∀ k, k < 4 → p k = p' k) → fr p j r = fr p' j r := by
        intro j
        induction j with
        | zero => intro r _ p p' _; rfl
        | succ j ih =>
          intro r hr p p' hp
          rw [fr, fr, hp r (by omega)]
          cases p' r with
          | some v => rfl
          | none => exact ih (r + 1) (by omega) p p' hp
      refine this nr 0 (by omega) _ _ (fun k hk => ?_)
      rw [h k hk, dfs_cong h4 m (t + 1) (fun j => u j || decide (j = k)) (st S k (S' k - q t)) (st S' k (S' k - q t)) (fun r hr => by
        by_cases e : r = k
        · subst e; rw [st_same, st_same]
        · rw [st_ne e, st_ne e]; exact h r hr)]
section QL
variable {nr most : Nat} {hold q : Nat → Int32} {g : (Nat → Nat → Int64) × (Nat → Nat → Option Nat)}
theorem chv_top {v r m t : Nat} (ht : t + (m + 1) = 8) (hr : r < 4) (hv : v < 4 ^ m) (h0 : ¬ q t = 0) : chv q (r * 4 ^ m + v) t = Int32.ofNat r := by
  unfold chv
  have hp : 0 < 4 ^ m := Nat.pow_pos (by decide)
  rw [if_neg h0, show 7 - t = m by omega, Nat.add_comm, Nat.add_mul_div_right _ _ hp, Nat.div_eq_of_lt hv, Nat.zero_add, Nat.mod_eq_of_lt hr]
theorem chv_rest {v r m t k : Nat} (ht : t + (m + 1) = 8) (hk : t + 1 ≤ k) (hk8 : k < 8) : chv q (r * 4 ^ m + v) k = chv q v k := by
  unfold chv
  have e : r * 4 ^ m = r * 4 ^ (m - (7 - k) - 1) * 4 * 4 ^ (7 - k) := by
    rw [Nat.mul_assoc, Nat.mul_assoc]
    congr 1
    rw [show 4 * 4 ^ (7 - k) = 4 ^ (7 - k + 1) by rw [Nat.pow_succ]; omega, ← Nat.pow_add]
    congr 1
    omega
  rw [e, Nat.add_comm, Nat.add_mul_div_right _ _ (Nat.pow_pos (by decide)), Nat.add_mul_mod_self_right]
theorem chv_free {v m t : Nat} (h0 : q t = 0) : chv q v t = -1 := by
  unfold chv
  rw [if_pos h0]
theorem c_stow (h4 : nr ≤ 4) (hm4 : most ≤ 8) : ∀ m nf nl t (u : Nat → Bool) (f : Nat → Nat → Int32), m ≤ nf → nl + m + 1 ≤ 4000 → t + m = 8 → RC 27 q f → f 4 6 = Int32.ofNat nr → Res q g t f (dfs q nr most m t u (f 402)) (lp_X8_stowFrom_b_7 (f_X8_stowFrom nf) 27 (zS u) (Int32.ofNat most) (fun z5 h6 => jn_X8_stowFrom_b_38 (f_X8_stowFrom nf) 27 (zS u) (Int32.ofNat most) z5 h6) (nl + m + 1) (Int32.ofNat t) (f, g)) := by
  intro m
  induction m with
  | zero =>
    intro nf nl t u f hnf hnl ht R h46
    obtain rfl : t = 8 := by omega
    rw [lp_X8_stowFrom_b_7, if_neg (by decide)]
    unfold jn_X8_stowFrom_b_38
    rw [if_neg (by decide)]
    exact Or.inl ⟨0, rfl, f, rfl, fun _ _ _ => rfl, fun k h1 h2 => by omega, fun _ _ => rfl⟩
  | succ m ih =>
    intro nf nl t u f hnf hnl ht R h46
    have h8 : t < 8 := by omega
    have R' : RC 27 q (f, g).1 := R
    rw [lp_X8_stowFrom_b_7, if_pos (i8_lt t h8), rdS1 R' h8, dfs]
    by_cases c : q t = 0
    · rw [if_pos c, if_pos c, wrI_i8 h8, i8_succ t h8]
      have K : FRp f (am_u2 f 403 t (-1)) := fun a _ h2 => u2_ne h2
      have hi := ih nf nl (t + 1) u (am_u2 f 403 t (-1)) (by omega) (by omega) (by omega) (RC_frame (fun a h1 h2 => u2_ne (by omega)) R) (by rw [au_ne (by decide)]; exact h46)
      rw [u2_ne (show (402 : Nat) ≠ 403 by decide)] at hi
      rcases hi with ⟨v, d1, f', d2, d3, d4, d5⟩ | ⟨d1, f', d2, d3, d4, d5⟩
      · refine Or.inl ⟨v, d1, f', d2, K.trans d3, fun k h1 h2 => ?_, fun k hk => ?_⟩
        · by_cases e : k = t
          · subst e
            rw [d5 k (by omega), au_same, chv_free (m := m) c]
          · exact d4 k (by omega) h2
        · rw [d5 k (by omega), au_nk (by omega)]
      · refine Or.inr ⟨d1, f', d2, K.trans d3, fun r hr => ?_, fun k hk => ?_⟩
        · rw [d4 r hr, au_ne (by decide)]
        · rw [d5 k (by omega), au_nk (by omega)]
    · rw [if_neg c, if_neg c]
      unfold jn_X8_stowFrom_b_38
      rw [if_pos (i8_lt t h8)]
      obtain ⟨nf, rfl⟩ : ∃ k, nf = k + 1 := ⟨nf - 1, by omega⟩
      have loop : ∀ j nl' r (f1 : Nat → Nat → Int32), r + j = nr → FRp f f1 → (∀ r, r < 4 → f1 402 r = f 402 r) → (∀ k, k < t → f1 403 k = f 403 k) → Res q g t f (fr (fun r => if zC (fun k => u k || decide (k = r)) ≤ most ∧ ¬ f 402 r < q t then (dfs q nr most m (t + 1) (fun k => u k || decide (k = r)) (st (f 402) r (f 402 r - q t))).map (fun v => r * 4 ^ m + v) else none) j r) (lp_X8_stowFrom_b_50 (f_X8_stowFrom (nf + 1)) 27 (zS u) (Int32.ofNat most) (Int32.ofNat t) (nl' + j + 1) (Int32.ofNat r) (f1, g)) := by
        intro j
        induction j with
        | zero =>
          intro nl' r f1 hr K1 e402 e403
          have e46 : f1 4 6 = Int32.ofNat nr := by rw [K1 4 (by decide) (by decide)]; exact h46
          rw [lp_X8_stowFrom_b_50, bnd_eq]
          simp only [e46]
          rw [if_neg (by rw [on_lt (by omega) (by omega)]; omega)]
          exact Or.inr ⟨rfl, f1, rfl, K1, e402, e403⟩
        | succ j ihj =>
          intro nl' r f1 hr K1 e402 e403
          have hr' : r < nr := by omega
          have e46 : f1 4 6 = Int32.ofNat nr := by rw [K1 4 (by decide) (by decide)]; exact h46
          have R1 : RC 27 q (f1, g).1 := RC_frame (fun a h1 h2 => K1 a (by omega) (by omega)) R
          have hz : zC (fun k => u k || decide (k = r)) ≤ 8 := zC_le8 _
          rw [lp_X8_stowFrom_b_50, bnd_eq]
          simp only [e46]
          rw [if_pos ((on_lt (by omega) (by omega)).mpr hr'), if_pos (lt4 (by omega)), zS_one (show r < 8 by omega), zS_or2, J6_zS, cal_some, rdI_n (by omega) (by decide), rdS1 R1 h8, on_succ, fr]
          simp only [e402 r (by omega)]
          have next : ∀ f2 : Nat → Nat → Int32, FRp f f2 → (∀ r, r < 4 → f2 402 r = f 402 r) → (∀ k, k < t → f2 403 k = f 403 k) → Res q g t f _ (lp_X8_stowFrom_b_50 (f_X8_stowFrom (nf + 1)) 27 (zS u) (Int32.ofNat most) (Int32.ofNat t) (nl' + (j + 1)) (Int32.ofNat (r + 1)) (f2, g)) := fun f2 a1 a2 a3 => ihj nl' (r + 1) f2 (by omega) a1 a2 a3
          by_cases c1 : zC (fun k => u k || decide (k = r)) ≤ most
          · rw [if_neg (show ¬ Int32.ofNat most < Int32.ofNat (zC (fun k => u k || decide (k = r))) by rw [on_lt (by omega) (by omega)]; omega)]
            by_cases c2 : f 402 r < q t
            · rw [if_pos c2, if_neg (show ¬ (zC (fun k => u k || decide (k = r)) ≤ most ∧ ¬ f 402 r < q t) from fun z => z.2 c2)]
              exact next f1 K1 e402 e403
            · rw [if_neg c2, if_pos ⟨c1, c2⟩, wrI_i8 h8]
              unfold f_X8_stowBehind
              rw [rdI_i8 h8]
              have e1 : am_u2 f1 403 t (Int32.ofNat r) 403 t = Int32.ofNat r := au_same
              simp only [e1]
              have R2 : RC 27 q (am_u2 f1 403 t (Int32.ofNat r), g).1 := RC_frame (fun a h1 h2 => u2_ne (by omega)) R1
              rw [if_neg (i8_ge r (by omega)), if_pos (lt4 (by omega)), rdI_n (by omega) (by decide), rdS1 R2 h8, wrI_n (by omega) (by decide), i8_succ t h8]
              have e2 : am_u2 f1 403 t (Int32.ofNat r) 402 r = f 402 r := by rw [au_ne (by decide)]; exact e402 r (by omega)
              simp only [e2]
              -- the call
              have K3 : FRp f (am_u2 (am_u2 f1 403 t (Int32.ofNat r)) 402 r (f 402 r - q t)) := K1.trans (fun a h1 h2 => by rw [u2_ne h1, u2_ne h2])
              have R3 : RC 27 q (am_u2 (am_u2 f1 403 t (Int32.ofNat r)) 402 r (f 402 r - q t)) := RC_frame (fun a h1 h2 => K3 a (by omega) (by omega)) R
              have hcall := ih nf (3999 - m) (t + 1) (fun k => u k || decide (k = r)) (am_u2 (am_u2 f1 403 t (Int32.ofNat r)) 402 r (f 402 r - q t)) (by omega) (by omega) (by omega) R3 (by rw [K3 4 (by decide) (by decide)]; exact h46)
              rw [show 3999 - m + m + 1 = 4000 by omega] at hcall
              have ecall : f_X8_stowFrom (nf + 1) 27 (Int32.ofNat (t + 1)) (zS (fun k => u k || decide (k = r))) (Int32.ofNat most) (am_u2 (am_u2 f1 403 t (Int32.ofNat r)) 402 r (f 402 r - q t), g) = lp_X8_stowFrom_b_7 (f_X8_stowFrom nf) 27 (zS (fun k => u k || decide (k = r))) (Int32.ofNat most) (fun z5 h6 => jn_X8_stowFrom_b_38 (f_X8_stowFrom nf) 27 (zS (fun k => u k || decide (k = r))) (Int32.ofNat most) z5 h6) 4000 (Int32.ofNat (t + 1)) (am_u2 (am_u2 f1 403 t (Int32.ofNat r)) 402 r (f 402 r - q t), g) := by
                rw [f_X8_stowFrom]
                unfold f_X8_stowFrom_b
                rw [if_neg (i8_ge (t + 1) (by omega))]
              rw [ecall]
              have ed : dfs q nr most m (t + 1) (fun k => u k || decide (k = r)) (am_u2 (am_u2 f1 403 t (Int32.ofNat r)) 402 r (f 402 r - q t) 402) = dfs q nr most m (t + 1) (fun k => u k || decide (k = r)) (st (f 402) r (f 402 r - q t)) := by
                refine dfs_cong h4 m (t + 1) _ _ _ (fun r' hr'' => ?_)
                by_cases e : r' = r
                · subst e; rw [au_same, st_same]
                · rw [au_nk e, st_ne e, au_ne (by decide)]; exact e402 r' hr''
              rw [ed] at hcall
              rcases hcall with ⟨v, d1, f', d2, d3, d4, d5⟩ | ⟨d1, f', d2, d3, d4, d5⟩
              · rw [d1, d2, cal2_some, if_neg (show ¬ (1 : Int32) = 0 by decide), zrt_1, cal2_some, if_neg (show ¬ (1 : Int32) = 0 by decide)]
                simp only [Option.map_some]
                have hv := dfs_lt h4 d1
                refine Or.inl ⟨r * 4 ^ m + v, rfl, f', rfl, K3.trans d3, fun k h1 h2 => ?_, fun k hk => ?_⟩
                · by_cases e : k = t
                  · subst e
                    rw [d5 k (by omega), au_ne (by decide), au_same, chv_top ht (by omega) hv c]
                  · rw [d4 k (by omega) h2, chv_rest ht (by omega) h2]
                · rw [d5 k (by omega), au_ne (by decide), au_nk (by omega)]
                  exact e403 k hk
              · rw [d1, d2, cal2_some, if_pos rfl, rdI_n (by omega) (by decide)]
                have R4 : RC 27 q (f', g).1 := RC_frame (fun a h1 h2 => d3 a (by omega) (by omega)) R3
                rw [rdS1 R4 h8, wrI_n (by omega) (by decide), zrt_0, cal2_some, if_pos rfl]
                simp only [Option.map_none]
                have e5 : f' 402 r + q t = f 402 r := by
                  rw [d4 r (by omega), au_same, sub_add_32]
                simp only [e5]
                refine next (am_u2 f' 402 r (f 402 r)) ((K3.trans d3).trans (fun a h1 h2 => u2_ne h1)) (fun r' hr'' => ?_) (fun k hk => ?_)
                · by_cases e : r' = r
                  · subst e; rw [au_same]
                  · rw [au_nk e, d4 r' hr'', au_nk e, au_ne (by decide)]; exact e402 r' hr''
                · rw [au_ne (by decide), d5 k (by omega), au_ne (by decide), au_nk (by omega)]
                  exact e403 k hk
          · rw [if_pos (show Int32.ofNat most < Int32.ofNat (zC (fun k => u k || decide (k = r))) by rw [on_lt (by omega) (by omega)]; omega), if_neg (show ¬ (zC (fun k => u k || decide (k = r)) ≤ most ∧ ¬ f 402 r < q t) from fun z => c1 z.1)]
            exact next f1 K1 e402 e403
      have := loop nr (3999 - nr) 0 f (by omega) (fun _ _ _ => rfl) (fun _ _ => rfl) (fun _ _ => rfl)
      rw [show 3999 - nr + nr + 1 = 4000 by omega] at this
      exact this
end QL
