/-! the class's house -/
theorem cp4 {ρ : Type} {f : Nat → Nat → Int32} {g : (Nat → Nat → Int64) × (Nat → Nat → Option Nat)} {x y : Nat} {F : am_H → Option ρ} (h : x ≠ y) : cpI (f, g) x 4 0 y 4 0 4 F = F (up f y (fun k => if k < 4 then f x k else f y k), g) := by
  unfold cpI
  rw [if_pos ⟨by decide, by decide, by decide, by decide, by decide, h⟩]
  congr 2
  funext a
  unfold up
  by_cases e : a = y
  · subst e
    rw [if_pos rfl, if_pos rfl]
    funext k
    show va_cpy (f x) (f a) 0 0 4 k = _
    unfold va_cpy
    by_cases hk : k < 4
    · simp [hk]
    · simp [hk]
  · rw [if_neg e, if_neg e]
theorem cp6 {ρ : Type} {f : Nat → Nat → Int32} {g : (Nat → Nat → Int64) × (Nat → Nat → Option Nat)} {x y : Nat} {F : am_H → Option ρ} (h : x ≠ y) : cpI (f, g) x 6 0 y 6 0 6 F = F (up f y (fun k => if k < 6 then f x k else f y k), g) := by
  unfold cpI
  rw [if_pos ⟨by decide, by decide, by decide, by decide, by decide, h⟩]
  congr 2
  funext a
  unfold up
  by_cases e : a = y
  · subst e
    rw [if_pos rfl, if_pos rfl]
    funext k
    show va_cpy (f x) (f a) 0 0 6 k = _
    unfold va_cpy
    by_cases hk : k < 6
    · simp [hk]
    · simp [hk]
  · rw [if_neg e, if_neg e]
/-- a row that is as told -/
def wq (D : DR) : Nat → Int32 := fun k => if k < 8 then (if k < D.1 1 then Int32.ofNat (D.2.1 3 k) else 0) else if k < 16 then (if k - 8 < D.1 1 then Int32.ofNat (D.2.1 4 (k - 8)) else 0) else if k < 24 then (if k - 16 < D.1 1 then Int32.ofNat (D.2.1 5 (k - 16)) else 0) else if k < 32 then (if k - 24 < D.1 1 then Int32.ofNat (D.2.1 6 (k - 24)) else 0) else if k < 40 then 0 else if k < 56 then -1 else if k = 56 then Int32.ofNat (D.1 3) else if k = 58 then Int32.ofNat (D.1 4) else 0
theorem wq_QP (D : DR) : QP D (D.1 1) (Int32.ofNat (D.1 3)) (Int32.ofNat (D.1 4)) (wq D) := by
  refine ⟨fun t ht => ⟨?_, ?_, ?_, ?_, ?_, ?_, ?_⟩, ?_, ?_, ?_⟩
  · unfold wq; rw [if_pos ht]
  · unfold wq; rw [if_neg (by omega), if_pos (by omega), Nat.add_sub_cancel_left]
  · unfold wq; rw [if_neg (by omega), if_neg (by omega), if_pos (by omega), Nat.add_sub_cancel_left]
  · unfold wq; rw [if_neg (by omega), if_neg (by omega), if_neg (by omega), if_pos (by omega), Nat.add_sub_cancel_left]
  · unfold wq; rw [if_neg (by omega), if_neg (by omega), if_neg (by omega), if_neg (by omega), if_pos (by omega)]
  · unfold wq; rw [if_neg (by omega), if_neg (by omega), if_neg (by omega), if_neg (by omega), if_neg (by omega), if_pos (by omega)]
  · unfold wq; rw [if_neg (by omega), if_neg (by omega), if_neg (by omega), if_neg (by omega), if_neg (by omega), if_pos (by omega)]
  · rfl
  · rfl
  · rfl
theorem QP_eq {D : DR} {n : Nat} {a c : Int32} {w w' : Nat → Int32} (h : QP D n a c w) (h' : QP D n a c w') : ∀ k, k < 59 → w' k = w k := by
  intro k hk
  have z : ∀ t, t < 8 → _ := fun t ht => (h.1 t ht)
  have z' := fun t ht => (h'.1 t ht)
  by_cases c1 : k < 8
  · rw [(z' k c1).1, (z k c1).1]
  by_cases c2 : k < 16
  · obtain ⟨t, rfl⟩ : ∃ t, k = 8 + t := ⟨k - 8, by omega⟩
    rw [(z' t (by omega)).2.1, (z t (by omega)).2.1]
  by_cases c3 : k < 24
  · obtain ⟨t, rfl⟩ : ∃ t, k = 16 + t := ⟨k - 16, by omega⟩
    rw [(z' t (by omega)).2.2.1, (z t (by omega)).2.2.1]
  by_cases c4 : k < 32
  · obtain ⟨t, rfl⟩ : ∃ t, k = 24 + t := ⟨k - 24, by omega⟩
    rw [(z' t (by omega)).2.2.2.1, (z t (by omega)).2.2.2.1]
  by_cases c5 : k < 40
  · obtain ⟨t, rfl⟩ : ∃ t, k = 32 + t := ⟨k - 32, by omega⟩
    rw [(z' t (by omega)).2.2.2.2.1, (z t (by omega)).2.2.2.2.1]
  by_cases c6 : k < 48
  · obtain ⟨t, rfl⟩ : ∃ t, k = 40 + t := ⟨k - 40, by omega⟩
    rw [(z' t (by omega)).2.2.2.2.2.1, (z t (by omega)).2.2.2.2.2.1]
  by_cases c7 : k < 56
  · obtain ⟨t, rfl⟩ : ∃ t, k = 48 + t := ⟨k - 48, by omega⟩
    rw [(z' t (by omega)).2.2.2.2.2.2, (z t (by omega)).2.2.2.2.2.2]
  by_cases c8 : k = 56
  · rw [c8, h'.2.1, h.2.1]
  by_cases c9 : k = 57
  · rw [c9, h'.2.2.1, h.2.2.1]
  · rw [show k = 58 by omega, h'.2.2.2, h.2.2.2]
section CH
variable {f : Nat → Nat → Int32} {g : (Nat → Nat → Int64) × (Nat → Nat → Option Nat)} {B : Nat → Nat} {L : Nat} {D : DR} {t : TK}
theorem add_10 {n : Nat} (hn : n < 300) (h3 : f 10 3 = Int32.ofNat n) (k v : Int32) : f_X2_addStep_10 k v (f, g) = some (am_u2 (am_u2 (am_u2 f 11 n k) 12 n v) 10 3 (Int32.ofNat (n + 1)), g) := by
  have hl3 : Int32.ofNat n < 300 := by
    rw [show (300 : Int32) = Int32.ofNat 300 from rfl, on_lt (by omega) (by omega)]; exact hn
  unfold f_X2_addStep_10
  rw [bndv h3, if_neg (nneg (by omega)), bndv h3, if_pos hl3, bndv h3, wrIp hn (by decide), bndv (show am_u2 f 11 n k 10 3 = Int32.ofNat n by rw [u2_ne (by decide)]; exact h3), wrIp hn (by decide), bndv (show am_u2 (am_u2 f 11 n k) 12 n v 10 3 = Int32.ofNat n by rw [u2_ne (by decide), u2_ne (by decide)]; exact h3), ptIp, on_succ]
theorem c_steps {len : Nat} (hlen : len < 300) {K : am_H → Option am_H} : ∀ m n i (f : Nat → Nat → Int32), i + m = len → f 23 3 = Int32.ofNat len → f 10 3 = Int32.ofNat i → (∀ j, j < i → f 11 j = f 24 j ∧ f 12 j = f 25 j) → ∃ f', lp_X2_copyFrom_10_23_6 K (n + m + 1) (Int32.ofNat i) (f, g) = K (f', g) ∧ f' 10 3 = Int32.ofNat len ∧ (∀ j, j < len → f' 11 j = f 24 j ∧ f' 12 j = f 25 j) ∧ (∀ a, a ≠ 10 → a ≠ 11 → a ≠ 12 → f' a = f a) ∧ ∀ k, k ≠ 3 → f' 10 k = f 10 k := by
  intro m
  induction m with
  | zero =>
    intro n i f hi h23 h10 ha
    obtain rfl : i = len := by omega
    rw [lp_X2_copyFrom_10_23_6, bndv h23, if_neg (by rw [on_lt (by omega) (by omega)]; omega)]
    exact ⟨f, rfl, h10, ha, fun _ _ _ _ => rfl, fun _ _ => rfl⟩
  | succ m ih =>
    intro n i f hi h23 h10 ha
    have l3 : Int32.ofNat i < 300 := by rw [show (300 : Int32) = Int32.ofNat 300 from rfl, on_lt (by omega) (by omega)]; omega
    rw [show n + (m + 1) + 1 = (n + m + 1) + 1 by omega, lp_X2_copyFrom_10_23_6, bndv h23, if_pos (by rw [on_lt (by omega) (by omega)]; omega), if_pos l3, rdIv (by omega) (by decide) rfl, rdIv (by omega) (by decide) rfl, add_10 (by omega) h10, cal_some, on_succ]
    let f1 := am_u2 (am_u2 (am_u2 f 11 i (f 24 i)) 12 i (f 25 i)) 10 3 (Int32.ofNat (i + 1))
    have f1a : ∀ a, a ≠ 10 → a ≠ 11 → a ≠ 12 → f1 a = f a := fun a z1 z2 z3 => by show am_u2 (am_u2 (am_u2 _ _ _ _) _ _ _) _ _ _ a = _; rw [u2_ne z1, u2_ne z3, u2_ne z2]
    obtain ⟨f', a1, a2, a3, a4, a5⟩ := ih n (i + 1) f1 (by omega) (by rw [f1a 23 (by decide) (by decide) (by decide)]; exact h23) au_same (fun j hj => by
      rw [f1a 24 (by decide) (by decide) (by decide), f1a 25 (by decide) (by decide) (by decide)]
      show am_u2 (am_u2 (am_u2 _ _ _ _) _ _ _) _ _ _ 11 j = _ ∧ am_u2 (am_u2 (am_u2 _ _ _ _) _ _ _) _ _ _ 12 j = _
      rw [u2_ne (show (11 : Nat) ≠ 10 by decide), u2_ne (show (11 : Nat) ≠ 12 by decide), u2_ne (show (12 : Nat) ≠ 10 by decide)]
      by_cases e : j = i
      · rw [e, au_same, au_same]; exact ⟨rfl, rfl⟩
      · rw [au_nk e, au_nk e, u2_ne (show (12 : Nat) ≠ 11 by decide)]; exact ha j (by omega))
    refine ⟨f', a1, a2, fun j hj => ?_, fun a z1 z2 z3 => by rw [a4 a z1 z2 z3, f1a a z1 z2 z3], fun k z => ?_⟩
    · have := a3 j hj
      rw [f1a 24 (by decide) (by decide) (by decide), f1a 25 (by decide) (by decide) (by decide)] at this
      exact this
    · rw [a5 k z]
      show am_u2 (am_u2 (am_u2 _ _ _ _) _ _ _) _ _ _ 10 k = _
      rw [au_nk z, u2_ne (by decide), u2_ne (by decide)]
theorem X2_copyFrom {len : Nat} (hlen : len < 300) (h23 : f 23 3 = Int32.ofNat len) : ∃ f', f_X2_copyFrom_10_23 (f, g) = some (f', g) ∧ f' 10 3 = Int32.ofNat len ∧ f' 10 4 = f 23 4 ∧ (∀ j, j < len → f' 11 j = f 24 j ∧ f' 12 j = f 25 j) ∧ ∀ a, a ≠ 10 → a ≠ 11 → a ≠ 12 → f' a = f a := by
  let f1 := am_u2 (am_u2 f 10 3 0) 10 4 0
  have f1a : ∀ a, a ≠ 10 → f1 a = f a := fun a z => by show am_u2 (am_u2 _ _ _ _) _ _ _ a = _; rw [u2_ne z, u2_ne z]
  obtain ⟨f2, a1, a2, a3, a4, a5⟩ := c_steps (g := g) hlen (K := fun h12 => bnd (h12.1 23 4) fun v14 => ptI h12 10 4 v14 fun h15 => some h15) len (3999 - len) 0 f1 (by omega) (by rw [f1a 23 (by decide)]; exact h23) (by show am_u2 (am_u2 _ _ _ _) _ _ _ 10 3 = _; rw [au_nk (by decide), au_same]; rfl) (fun j hj => absurd hj (by omega))
  rw [show 3999 - len + len + 1 = 4000 by omega] at a1
  refine ⟨am_u2 f2 10 4 (f 23 4), ?_, by rw [au_nk (by decide)]; exact a2, au_same, fun j hj => ?_, fun a z1 z2 z3 => by rw [u2_ne z1, a4 a z1 z2 z3, f1a a z1]⟩
  · unfold f_X2_copyFrom_10_23 f_X2_clear_10
    rw [ptIp, ptIp, cal_some]
    refine Eq.trans a1 ?_
    show bnd ((f2, g).1 23 4) _ = _
    rw [bndv (show f2 23 4 = f 23 4 by rw [a4 23 (by decide) (by decide) (by decide), f1a 23 (by decide)]), ptIp]
  · rw [u2_ne (by decide), u2_ne (by decide)]
    have := a3 j hj
    rw [f1a 24 (by decide), f1a 25 (by decide)] at this
    exact this
/-- the plan, as it is told -/
def PT (f : Nat → Nat → Int32) (D : DR) : Prop := (f 4 6 = Int32.ofNat (D.1 0) ∧ f 4 7 = Int32.ofNat (D.1 1) ∧ f 4 8 = Int32.ofNat (D.1 2) ∧ f 4 9 = Int32.ofNat (D.1 3) ∧ f 4 10 = Int32.ofNat (D.1 4)) ∧ (∀ r, r < D.1 0 → f 5 r = Int32.ofNat (D.2.1 1 r)) ∧ (∀ k, k < D.1 1 → f 6 k = Int32.ofNat (D.2.1 3 k) ∧ f 7 k = Int32.ofNat (D.2.1 4 k) ∧ f 8 k = Int32.ofNat (D.2.1 5 k) ∧ f 9 k = Int32.ofNat (D.2.1 6 k)) ∧ f 10 3 = Int32.ofNat D.2.2.length ∧ f 10 4 = Int32.ofNat (D.1 9) ∧ CLg (f 11) (f 12) (fun k => Int32.ofNat k) 0 D.2.2
theorem PT_fr {f' : Nat → Nat → Int32} (h : ∀ a, 4 ≤ a ∧ a ≤ 12 → f' a = f a) (p : PT f D) : PT f' D := by
  unfold PT
  rw [h 4 (by decide), h 5 (by decide), h 6 (by decide), h 7 (by decide), h 8 (by decide), h 9 (by decide), h 10 (by decide), h 11 (by decide), h 12 (by decide)]
  exact p
theorem X4_copyFrom (hD : DV D) (h : CD f g D) : ∃ f', f_X4_copyFrom_4_17 (f, g) = some (f', g) ∧ PT f' D ∧ ∀ a, ¬ (4 ≤ a ∧ a ≤ 12) → f' a = f a := by
  obtain ⟨⟨q6, q7, q8, q9, q10⟩, -, qr, qt, q3, q4, qc⟩ := h
  have d0 := hD.1
  have d1 := hD.2.1
  have dl := hD.2.2.2.2.2.2.2.2.2.1
  let f1 := up f 5 (fun k => if k < 4 then f 18 k else f 5 k)
  let f2 := up f1 6 (fun k => if k < 6 then f1 19 k else f1 6 k)
  let f3 := up f2 7 (fun k => if k < 6 then f2 20 k else f2 7 k)
  let f4 := up f3 8 (fun k => if k < 6 then f3 21 k else f3 8 k)
  let f5 := up f4 9 (fun k => if k < 6 then f4 22 k else f4 9 k)
  have e1 : ∀ a, a ≠ 5 → f1 a = f a := fun a z => up_ne z
  have e2 : ∀ a, a ≠ 6 → f2 a = f1 a := fun a z => up_ne z
  have e3 : ∀ a, a ≠ 7 → f3 a = f2 a := fun a z => up_ne z
  have e4 : ∀ a, a ≠ 8 → f4 a = f3 a := fun a z => up_ne z
  have e5 : ∀ a, a ≠ 9 → f5 a = f4 a := fun a z => up_ne z
  have ea : ∀ a, ¬ (5 ≤ a ∧ a ≤ 9) → f5 a = f a := fun a z => by rw [e5 a (by omega), e4 a (by omega), e3 a (by omega), e2 a (by omega), e1 a (by omega)]
  obtain ⟨f6, a1, a2, a3, a4, a5⟩ := X2_copyFrom (f := f5) (g := g) dl (by rw [ea 23 (by decide)]; exact q3)
  let f7 := am_u2 (am_u2 (am_u2 (am_u2 (am_u2 f6 4 6 (Int32.ofNat (D.1 0))) 4 7 (Int32.ofNat (D.1 1))) 4 8 (Int32.ofNat (D.1 2))) 4 9 (Int32.ofNat (D.1 3))) 4 10 (Int32.ofNat (D.1 4))
  have f7a : ∀ a, a ≠ 4 → f7 a = f6 a := fun a z => by show am_u2 (am_u2 (am_u2 (am_u2 (am_u2 _ _ _ _) _ _ _) _ _ _) _ _ _) _ _ _ a = _; rw [u2_ne z, u2_ne z, u2_ne z, u2_ne z, u2_ne z]
  have e17 : f6 17 = f 17 := by rw [a5 17 (by decide) (by decide) (by decide), ea 17 (by decide)]
  refine ⟨f7, ?_, ⟨⟨?_, ?_, ?_, ?_, au_same⟩, fun r hr => ?_, fun k hk => ⟨?_, ?_, ?_, ?_⟩, ?_, ?_, ?_⟩, fun a z => by rw [f7a a (by omega), a5 a (by omega) (by omega) (by omega), ea a (by omega)]⟩
  · unfold f_X4_copyFrom_4_17
    rw [cp4 (by decide), cp6 (by decide), cp6 (by decide), cp6 (by decide), cp6 (by decide)]
    have a1' : f_X2_copyFrom_10_23 (up (up (up (up (up f 5 (fun k => if k < 4 then f 18 k else f 5 k)) 6 (fun k => if k < 6 then f1 19 k else f1 6 k)) 7 (fun k => if k < 6 then f2 20 k else f2 7 k)) 8 (fun k => if k < 6 then f3 21 k else f3 8 k)) 9 (fun k => if k < 6 then f4 22 k else f4 9 k), g) = some (f6, g) := a1
    refine Eq.trans (congrArg (fun x => cal x _) a1') ?_
    rw [cal_some, bndv (show f6 17 6 = Int32.ofNat (D.1 0) by rw [e17]; exact q6), ptIp]
    rw [bndv (show am_u2 f6 4 6 (Int32.ofNat (D.1 0)) 17 7 = Int32.ofNat (D.1 1) by rw [u2_ne (by decide), e17]; exact q7), ptIp]
    rw [bndv (show am_u2 (am_u2 f6 4 6 (Int32.ofNat (D.1 0))) 4 7 (Int32.ofNat (D.1 1)) 17 8 = Int32.ofNat (D.1 2) by rw [u2_ne (by decide), u2_ne (by decide), e17]; exact q8), ptIp]
    rw [bndv (show am_u2 (am_u2 (am_u2 f6 4 6 (Int32.ofNat (D.1 0))) 4 7 (Int32.ofNat (D.1 1))) 4 8 (Int32.ofNat (D.1 2)) 17 9 = Int32.ofNat (D.1 3) by rw [u2_ne (by decide), u2_ne (by decide), u2_ne (by decide), e17]; exact q9), ptIp]
    rw [bndv (show am_u2 (am_u2 (am_u2 (am_u2 f6 4 6 (Int32.ofNat (D.1 0))) 4 7 (Int32.ofNat (D.1 1))) 4 8 (Int32.ofNat (D.1 2))) 4 9 (Int32.ofNat (D.1 3)) 17 10 = Int32.ofNat (D.1 4) by rw [u2_ne (by decide), u2_ne (by decide), u2_ne (by decide), u2_ne (by decide), e17]; exact q10), ptIp]
  · show am_u2 (am_u2 (am_u2 (am_u2 (am_u2 _ _ _ _) _ _ _) _ _ _) _ _ _) _ _ _ 4 6 = _; rw [au_nk (by decide), au_nk (by decide), au_nk (by decide), au_nk (by decide), au_same]
  · show am_u2 (am_u2 (am_u2 (am_u2 (am_u2 _ _ _ _) _ _ _) _ _ _) _ _ _) _ _ _ 4 7 = _; rw [au_nk (by decide), au_nk (by decide), au_nk (by decide), au_same]
  · show am_u2 (am_u2 (am_u2 (am_u2 (am_u2 _ _ _ _) _ _ _) _ _ _) _ _ _) _ _ _ 4 8 = _; rw [au_nk (by decide), au_nk (by decide), au_same]
  · show am_u2 (am_u2 (am_u2 (am_u2 (am_u2 _ _ _ _) _ _ _) _ _ _) _ _ _) _ _ _ 4 9 = _; rw [au_nk (by decide), au_same]
  · rw [f7a 5 (by decide), a5 5 (by decide) (by decide) (by decide), e5 5 (by decide), e4 5 (by decide), e3 5 (by decide), e2 5 (by decide)]
    show up f 5 _ 5 r = _
    rw [up_same, if_pos (by omega)]
    exact (qr r hr).2.2
  · rw [f7a 6 (by decide), a5 6 (by decide) (by decide) (by decide), e5 6 (by decide), e4 6 (by decide), e3 6 (by decide)]
    show up f1 6 _ 6 k = _
    rw [up_same, if_pos (by omega), e1 19 (by decide)]
    exact (qt k hk).2.2.1
  · rw [f7a 7 (by decide), a5 7 (by decide) (by decide) (by decide), e5 7 (by decide), e4 7 (by decide)]
    show up f2 7 _ 7 k = _
    rw [up_same, if_pos (by omega), e2 20 (by decide), e1 20 (by decide)]
    exact (qt k hk).2.2.2.1
  · rw [f7a 8 (by decide), a5 8 (by decide) (by decide) (by decide), e5 8 (by decide)]
    show up f3 8 _ 8 k = _
    rw [up_same, if_pos (by omega), e3 21 (by decide), e2 21 (by decide), e1 21 (by decide)]
    exact (qt k hk).2.2.2.2.1
  · rw [f7a 9 (by decide), a5 9 (by decide) (by decide) (by decide)]
    show up f4 9 _ 9 k = _
    rw [up_same, if_pos (by omega), e4 22 (by decide), e3 22 (by decide), e2 22 (by decide), e1 22 (by decide)]
    exact (qt k hk).2.2.2.2.2
  · rw [f7a 10 (by decide)]; exact a2
  · rw [f7a 10 (by decide), a3, ea 23 (by decide)]; exact q4
  · rw [f7a 11 (by decide), f7a 12 (by decide)]
    refine CLg_cong (fun i hi => ?_) (fun i hi => ?_) (CLg_c qc)
    · rw [Nat.zero_add, (a4 i hi).1, ea 24 (by decide)]
    · rw [Nat.zero_add, (a4 i hi).2, ea 25 (by decide)]
theorem c_boxes : ∀ m n i (f : Nat → Nat → Int32), i + m = 3 → ∃ w, lp_X1_clear_2 (n + m + 1) (Int32.ofNat i) (f, g) = some (up f 376 w, g) ∧ (∀ j, j < i → w j = f 376 j) ∧ ∀ j, i ≤ j → j < 3 → w j = 0 := by
  intro m
  induction m with
  | zero =>
    intro n i f hi
    obtain rfl : i = 3 := by omega
    rw [lp_X1_clear_2, if_neg (by decide)]
    exact ⟨f 376, by rw [up_self], fun _ _ => rfl, fun j h1 h2 => absurd h2 (by omega)⟩
  | succ m ih =>
    intro n i f hi
    have h3 : Int32.ofNat i < 3 := by rw [show (3 : Int32) = Int32.ofNat 3 from rfl, on_lt (by omega) (by omega)]; omega
    rw [show n + (m + 1) + 1 = (n + m + 1) + 1 by omega, lp_X1_clear_2, if_pos h3, wrIp (by omega) (by decide), vn0, u2_up, on_succ]
    obtain ⟨w, a1, a2, a3⟩ := ih n (i + 1) (up f 376 (st (f 376) i 0)) (by omega)
    rw [up_up] at a1
    rw [up_same] at a2
    refine ⟨w, a1, fun j hj => by rw [a2 j (by omega), st_ne (by omega)], fun j h1 h2 => ?_⟩
    by_cases c : j = i
    · rw [c, a2 i (by omega), st_same]
    · exact a3 j (by omega) h2
/-- a text with a fault -/
theorem X11_bad {e : Nat × Nat} (T : TPc f g B L) (h : pAll (tk B L) 1600 (tk B L 0) D0 = .inl e) : ∃ f' g', f_X11_house (f, g) = some (-1, (f', g')) ∧ f' 14 6 = Int32.ofNat e.1 ∧ f' 14 7 = Int32.ofNat e.2 ∧ f' 1 3 = 0 ∧ (∀ a, a ≠ 1 → ¬ (14 ≤ a ∧ a ≤ 26) → f' a = f a) ∧ g'.2 = g.2 ∧ ∀ a, a ≠ 1 → a ≠ 15 → a ≠ 16 → g'.1 a = g.1 a := by
  have s := X5_readAll T
  rw [h] at s
  obtain ⟨f1, g1, a1, a2, a3, a4, a5, a6⟩ := s
  refine ⟨am_u2 f1 1 3 0, g1, ?_, by rw [u2_ne (by decide)]; exact a2, by rw [u2_ne (by decide)]; exact a3, au_same, fun a z1 z2 => by rw [u2_ne z1, a4 a z1 z2], a5, a6⟩
  unfold f_X11_house
  rw [a1, cal2_some, ptIp, if_pos rfl]
/-- a text without -/
theorem X11_good {t' : TK} {D' : DR} {pi : Nat → Nat} (T : TPc f g B L) (G : GR g pi) (h : pAll (tk B L) 1600 (tk B L 0) D0 = .inr (t', D')) (hD : DV D') : ∃ f' g', f_X11_house (f, g) = some (Int32.ofNat (D'.1 1), (f', g')) ∧ PT f' D' ∧ RC 27 (wq D') f' ∧ RC (46 + 8 * pi 0) (wq D') f' ∧ f' 44 1 = 0 ∧ f' 44 2 = 0 ∧ (∀ i, i < 3 → f' 376 i = 0) ∧ f' 404 8 = 0 ∧ f' 0 10 = 0 ∧ f' 14 6 = 0 ∧ f' 14 7 = -1 ∧ f' 1 3 = 0 ∧ (∀ k, k ≠ 8 → f' 404 k = f 404 k) ∧ (∀ a, ¬ (a ≤ 1) → ¬ (4 ≤ a ∧ a ≤ 12) → ¬ (14 ≤ a ∧ a < 35) → a ≠ 44 → ¬ (46 ≤ a ∧ a < 374) → a ≠ 376 → a ≠ 404 → f' a = f a) ∧ g'.2 = g.2 ∧ ∀ a, a ≠ 1 → a ≠ 15 → a ≠ 16 → g'.1 a = g.1 a := by
  have s := X5_readAll T
  rw [h] at s
  obtain ⟨f1, g1, a1, ⟨c1, c2, c3, c4⟩, a3, a4, a5⟩ := s
  let f2 := am_u2 f1 1 3 0
  have f2a : ∀ a, a ≠ 1 → f2 a = f1 a := fun a z => u2_ne z
  have cd : CD f2 g1 D' := by
    unfold CD
    rw [f2a 17 (by decide), f2a 14 (by decide), f2a 18 (by decide), f2a 19 (by decide), f2a 20 (by decide), f2a 21 (by decide), f2a 22 (by decide), f2a 23 (by decide)]
    obtain ⟨q1, q2, q3, q4, q5, q6, q7⟩ := c4
    exact ⟨q1, q2, q3, q4, q5, q6, CLc_cong (fun i _ => by rw [f2a 24 (by decide)]) (fun i _ => by rw [f2a 25 (by decide)]) q7⟩
  obtain ⟨f3, b1, b2, b3⟩ := X4_copyFrom hD cd
  obtain ⟨⟨p6, p7, p8, p9, p10⟩, pr, pt, -⟩ := id b2
  obtain ⟨f4, d1, d2, d3, d4, d5, d6⟩ := X7_standAsTold (f := f3) (g := g1) hD.2.1 p7 p9 p10 pt
  have R4 : RC 27 (wq D') f4 := RC_told hD (wq_QP D') d2 d3 d4 d5
  have G1 : GR g1 pi := by
    unfold GR
    rw [a3.2.1]
    exact G
  obtain ⟨f5, e1, e2, e3, e4, e5⟩ := X0_begin (f := f4) (g := g1) G1 R4
  have hp := (G.1 0 (by decide)).2
  obtain ⟨w, k1, -, k2⟩ := c_boxes (g := g1) 3 3996 0 f5 (by decide)
  have f7a : ∀ a, a ≠ 404 → a ≠ 0 → a ≠ 376 → am_u2 (am_u2 (up f5 376 w) 404 8 0) 0 10 0 a = f5 a := fun a z1 z2 z3 => by rw [u2_ne z2, u2_ne z1, up_ne z3]
  have fa : ∀ a, ¬ (a ≤ 1) → ¬ (4 ≤ a ∧ a ≤ 12) → ¬ (14 ≤ a ∧ a < 35) → a ≠ 44 → ¬ (46 ≤ a ∧ a < 374) → f5 a = f a := fun a z1 z2 z3 z4 z5 => by rw [e5 a z4 z5, d6 a (by omega), b3 a z2, f2a a (by omega), a3.1 a (by omega) (by omega)]
  have e14 : f5 14 = f1 14 := by rw [e5 14 (by decide) (by decide), d6 14 (by decide), b3 14 (by decide), f2a 14 (by decide)]
  refine ⟨am_u2 (am_u2 (up f5 376 w) 404 8 0) 0 10 0, g1, ?_, ?_, ?_, ?_, ?_, ?_, fun i hi => ?_, ?_, au_same, ?_, ?_, ?_, fun k hk => ?_, fun a z1 z2 z3 z4 z5 z6 z7 => ?_, a3.2.1, a3.2.2⟩
  · unfold f_X11_house
    rw [a1, cal2_some, ptIp, if_neg (show ¬ (1 : Int32) = 0 by decide)]
    have b1' : f_X4_copyFrom_4_17 (am_u2 f1 1 3 0, g1) = some (f3, g1) := b1
    have k1' : f_X1_clear (f5, g1) = some (up f5 376 w, g1) := k1
    rw [b1', cal_some, d1, cal_some, e1, cal_some, k1', cal_some, ptIp, ptIp, bndv (show am_u2 (am_u2 (up f5 376 w) 404 8 0) 0 10 0 4 7 = Int32.ofNat (D'.1 1) by rw [f7a 4 (by decide) (by decide) (by decide), e5 4 (by decide) (by decide), d6 4 (by decide)]; exact p7)]
  · exact PT_fr (fun a z => by rw [f7a a (by omega) (by omega) (by omega), e5 a (by omega) (by omega), d6 a (by omega)]) b2
  · exact RC_frame (fun a z1 z2 => by rw [f7a a (by omega) (by omega) (by omega), e5 a (by omega) (by omega)]) R4
  · exact RC_frame (fun a z1 z2 => by rw [f7a a (by omega) (by omega) (by omega)]) e4
  · rw [f7a 44 (by decide) (by decide) (by decide)]; exact e2
  · rw [f7a 44 (by decide) (by decide) (by decide)]; exact e3
  · rw [u2_ne (by decide), u2_ne (by decide), up_same]; exact k2 i (Nat.zero_le _) hi
  · rw [u2_ne (by decide), au_same]
  · rw [f7a 14 (by decide) (by decide) (by decide), e14]; exact a4
  · rw [f7a 14 (by decide) (by decide) (by decide), e14]; exact a5
  · rw [f7a 1 (by decide) (by decide) (by decide), e5 1 (by decide) (by decide), d6 1 (by decide), b3 1 (by decide)]; exact au_same
  · rw [u2_ne (by decide), au_nk hk, up_ne (by decide), fa 404 (by decide) (by decide) (by decide) (by decide) (by decide)]
  · rw [f7a a z7 (by omega) z6, fa a z1 z2 z3 z4 z5]
end CH
