/-! The least tree: however it grows, it weighs the same -/
section TREE
variable (V : Nat → Bool) (D : Nat → Nat → Nat)
/-- joined by steps of at most th -/
def rch (th a c : Nat) : Prop := ∀ S : Nat → Prop, S a → (∀ x y, S x → x < 8 → y < 8 → V x = true → V y = true → D x y ≤ th → S y) → S c
variable {V D}
theorem rch_refl {th a : Nat} : rch V D th a a := fun S h _ => h
theorem rch_trans {th a c d : Nat} (h : rch V D th a c) (h' : rch V D th c d) : rch V D th a d := fun S s0 cl => h' S (h S s0 cl) cl
theorem rch_edge {th a c : Nat} (ha : a < 8) (hc : c < 8) (va : V a = true) (vc : V c = true) (h : D a c ≤ th) : rch V D th a c := fun S s0 cl => cl a c s0 ha hc va vc h
theorem rch_symm (hD : ∀ a c, D a c = D c a) {th a c : Nat} (h : rch V D th a c) : rch V D th c a := h (fun z => rch V D th z a) rch_refl (fun x y hx x8 y8 vx vy hxy => rch_trans (rch_edge y8 x8 vy vx (by rw [hD]; exact hxy)) hx)
/-- v is the least of its own -/
def lst (V : Nat → Bool) (D : Nat → Nat → Nat) (th v : Nat) : Prop := V v = true ∧ ∀ u, u < v → V u = true → ¬ rch V D th u v
def tch (V : Nat → Bool) (D : Nat → Nat → Nat) (th : Nat) (J : Nat → Bool) (v : Nat) : Prop := ∃ j, j < 8 ∧ J j = true ∧ rch V D th j v
noncomputable def cb (p : Prop) : Bool := @decide p (Classical.propDecidable p)
theorem cb_t {p : Prop} : cb p = true ↔ p := by
  unfold cb
  exact @decide_eq_true_iff p (Classical.propDecidable p)
theorem cb_cong {p r : Prop} (h : p ↔ r) : cb p = cb r := bool_ext (by rw [cb_t, cb_t, h])
/-- how many are wholly outside -/
noncomputable def cnt (V : Nat → Bool) (D : Nat → Nat → Nat) (th : Nat) (J : Nat → Bool) : Nat := zC (fun v => cb (lst V D th v ∧ ¬ tch V D th J v))
theorem least_ex {P : Nat → Prop} : ∀ n, (∃ v, v < n ∧ P v) → ∃ v, v < n ∧ P v ∧ ∀ u, u < v → ¬ P u
  | 0, ⟨v, hv, _⟩ => by omega
  | n + 1, ⟨v, hv, pv⟩ => by
    by_cases h : ∃ v, v < n ∧ P v
    · obtain ⟨w, h1, h2, h3⟩ := least_ex n h
      exact ⟨w, by omega, h2, h3⟩
    · refine ⟨v, hv, pv, fun u hu pu => h ⟨u, by omega, pu⟩⟩
theorem zC_one {e e' : Nat → Bool} {t : Nat} (ht : t < 8) (h : ∀ k, k < 8 → k ≠ t → e' k = e k) (h1 : e t = true) (h2 : e' t = false) : zC e = zC e' + 1 := by
  have a := zC_sum e
  have c := zC_sum e'
  have d := sum8_one (g := fun k => if e k = true then (1 : Int) else 0) (g' := fun k => if e' k = true then (1 : Int) else 0) ht (fun k hk hkt => by simp only [h k hk hkt])
  simp only [h1, h2, Bool.false_eq_true, if_false, if_true] at d
  omega
theorem cnt_in {th : Nat} {J : Nat → Bool} {o j : Nat} (hj : j < 8) (ho : o < 8) (vj : V j = true) (vo : V o = true) (Jj : J j = true) (h : D j o ≤ th) : cnt V D th (fun k => J k || decide (k = o)) = cnt V D th J := by
  refine zC_cong (fun v hv => cb_cong ?_)
  have : tch V D th (fun k => J k || decide (k = o)) v ↔ tch V D th J v := by
    constructor
    · rintro ⟨k, hk, h1, h2⟩
      rw [Bool.or_eq_true, decide_eq_true_eq] at h1
      rcases h1 with h1 | rfl
      · exact ⟨k, hk, h1, h2⟩
      · exact ⟨j, hj, Jj, rch_trans (rch_edge hj hk vj vo h) h2⟩
    · rintro ⟨k, hk, h1, h2⟩
      exact ⟨k, hk, by simp [h1], h2⟩
  rw [this]
theorem cnt_out (hD : ∀ a c, D a c = D c a) {th : Nat} {J : Nat → Bool} {o : Nat} (ho : o < 8) (vo : V o = true) (JV : ∀ k, k < 8 → J k = true → V k = true) (Jo : J o = false) (h : ∀ j k, j < 8 → k < 8 → J j = true → V k = true → J k = false → th < D j k) : cnt V D th J = cnt V D th (fun k => J k || decide (k = o)) + 1 := by
  have closed : ∀ j x, j < 8 → J j = true → rch V D th j x → J x = true ∧ x < 8 := by
    intro j x hj Jj hr
    refine hr (fun z => J z = true ∧ z < 8) ⟨Jj, hj⟩ (fun x y hx x8 y8 vx vy hxy => ?_)
    refine ⟨?_, y8⟩
    cases hy : J y
    · have := h x y x8 y8 hx.1 vy hy
      omega
    · rfl
  obtain ⟨v0, v08, ⟨vv0, r0⟩, m0⟩ := least_ex (P := fun v => V v = true ∧ rch V D th v o) 8 ⟨o, ho, vo, rch_refl⟩
  have hl : lst V D th v0 := ⟨vv0, fun u hu vu hr => m0 u hu ⟨vu, rch_trans hr r0⟩⟩
  have ht : ¬ tch V D th J v0 := by
    rintro ⟨j, hj, Jj, hr⟩
    have := (closed j o hj Jj (rch_trans hr r0)).1
    rw [Jo] at this
    cases this
  refine zC_one v08 (fun k hk hkt => cb_cong ?_) (cb_t.mpr ⟨hl, ht⟩) ?_
  · constructor
    · rintro ⟨h1, h2⟩
      refine ⟨h1, fun ⟨j, hj, Jj, hr⟩ => h2 ⟨j, hj, by simp [Jj], hr⟩⟩
    · rintro ⟨h1, h2⟩
      refine ⟨h1, ?_⟩
      rintro ⟨j, hj, Jj, hr⟩
      rw [Bool.or_eq_true, decide_eq_true_eq] at Jj
      rcases Jj with Jj | rfl
      · exact h2 ⟨j, hj, Jj, hr⟩
      · have h3 : rch V D th v0 k := rch_trans r0 hr
        have h4 : rch V D th k v0 := rch_symm hD h3
        rcases Nat.lt_trichotomy k v0 with h5 | h5 | h5
        · exact hl.2 k h5 h1.1 h4
        · exact hkt h5
        · exact h1.2 v0 h5 vv0 h3
  · cases hc : cb (lst V D th v0 ∧ ¬ tch V D th (fun k => J k || decide (k = o)) v0)
    · rfl
    · exact absurd ⟨o, ho, by simp, rch_symm hD r0⟩ (cb_t.mp hc).2
/-- what is still to be paid -/
noncomputable def tot6 (V : Nat → Bool) (D : Nat → Nat → Nat) (J : Nat → Bool) : Nat := cnt V D 0 J + cnt V D 1 J + cnt V D 2 J + cnt V D 3 J + cnt V D 4 J + cnt V D 5 J
theorem tot_step (hD : ∀ a c, D a c = D c a) {J : Nat → Bool} {o j : Nat} (h6 : D j o ≤ 6) (hj : j < 8) (ho : o < 8) (vo : V o = true) (JV : ∀ k, k < 8 → J k = true → V k = true) (Jj : J j = true) (Jo : J o = false) (h : ∀ j' k, j' < 8 → k < 8 → J j' = true → V k = true → J k = false → D j o ≤ D j' k) : tot6 V D J = D j o + tot6 V D (fun k => J k || decide (k = o)) := by
  have one : ∀ th, cnt V D th J = cnt V D th (fun k => J k || decide (k = o)) + (if th < D j o then 1 else 0) := by
    intro th
    by_cases c : th < D j o
    · rw [if_pos c]
      exact cnt_out hD ho vo JV Jo (fun j' k a1 a2 a3 a4 a5 => Nat.lt_of_lt_of_le c (h j' k a1 a2 a3 a4 a5))
    · rw [if_neg c]
      rw [cnt_in hj ho (JV j hj Jj) vo Jj (by omega)]
      rfl
  unfold tot6
  rw [one 0, one 1, one 2, one 3, one 4, one 5]
  have hc : D j o = 0 ∨ D j o = 1 ∨ D j o = 2 ∨ D j o = 3 ∨ D j o = 4 ∨ D j o = 5 ∨ D j o = 6 := by omega
  rcases hc with e | e | e | e | e | e | e <;> rw [e] <;> simp <;> omega
theorem tot_end {J : Nat → Bool} (h : ∀ k, k < 8 → V k = true → J k = true) : tot6 V D J = 0 := by
  have one : ∀ th, cnt V D th J = 0 := by
    intro th
    have h0 : zC (fun _ => false) = 0 := by decide +kernel
    unfold cnt
    rw [← h0]
    refine zC_cong (fun v hv => ?_)
    cases hc : cb (lst V D th v ∧ ¬ tch V D th J v)
    · rfl
    · have := cb_t.mp hc
      exact absurd ⟨v, hv, h v hv this.1.1, rch_refl⟩ this.2
  unfold tot6
  rw [one, one, one, one, one, one]
theorem cnt_le {th : Nat} {J : Nat → Bool} : cnt V D th J ≤ 8 := zC_le8 _
end TREE
theorem zS_diff (a c : Nat → Bool) : zS a &&& (zS c ^^^ ((-1) : Int32)) = zS (fun k => a k && !c k) := by
  rw [zS_on, zS_on, show ((-1) : Int32) = Int32.ofNat 4294967295 from by decide, xor_on, and_on, ← zS_test (Nat.lt_of_le_of_lt Nat.and_le_left (zN_lt a))]
  refine zS_cong (fun k hk => ?_)
  rw [Nat.testBit_and, Nat.testBit_xor, zN_bit a hk, zN_bit c hk, show (4294967295 : Nat) = 2 ^ 32 - 1 from rfl, Nat.testBit_two_pow_sub_one]
  have : k < 32 := by omega
  simp [this]
/-- the first of a set -/
def low (e : Nat → Bool) (k : Nat) : Bool := e k && (List.range k).all (fun j => !e j)
theorem zS_low (e : Nat → Bool) : zS e &&& (-zS e) = zS (low e) := all8 (P := fun e => zS e &&& (-zS e) = zS (low e)) (fun e e' h hp => by
  rw [zS_cong h, hp]
  refine zS_cong (fun k hk => ?_)
  unfold low
  rw [h k hk]
  congr 1
  apply bool_ext
  rw [List.all_eq_true, List.all_eq_true]
  constructor
  · intro z x hx
    have := List.mem_range.mp hx
    rw [h x (by omega)]
    exact z x hx
  · intro z x hx
    have := List.mem_range.mp hx
    rw [← h x (by omega)]
    exact z x hx) (by decide +kernel) e
theorem low_sub {e : Nat → Bool} {k : Nat} (h : low e k = true) : e k = true := by
  unfold low at h
  rw [Bool.and_eq_true] at h
  exact h.1
theorem low_ex {e : Nat → Bool} {k : Nat} (hk : k < 8) (h : e k = true) : ∃ j, j < 8 ∧ low e j = true := by
  obtain ⟨j, h1, h2, h3⟩ := least_ex (P := fun k => e k = true) 8 ⟨k, hk, h⟩
  refine ⟨j, h1, ?_⟩
  unfold low
  rw [Bool.and_eq_true, List.all_eq_true]
  refine ⟨h2, fun x hx => ?_⟩
  have := h3 x (List.mem_range.mp hx)
  simpa using this
