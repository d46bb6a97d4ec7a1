/-! fits, sure, ask -/
def cn (F : Nat → Bool) : Nat → Nat → Nat
  | 0, _ => 0
  | m + 1, i => (if F i = true then 1 else 0) + cn F m (i + 1)
theorem cn_le {F : Nat → Bool} : ∀ m i, cn F m i ≤ m
  | 0, _ => Nat.le_refl _
  | m + 1, i => by
    have := cn_le (F := F) m (i + 1)
    rw [cn]; split <;> omega
theorem cn_split {F B : Nat → Bool} : ∀ m i, cn F m i = cn (fun x => F x && B x) m i + cn (fun x => F x && !B x) m i
  | 0, _ => rfl
  | m + 1, i => by
    rw [cn, cn, cn, cn_split (F := F) (B := B) m (i + 1)]
    cases F i <;> cases B i <;> simp <;> omega
theorem cn_none {F : Nat → Bool} : ∀ m i, cn F m i = 0 → ∀ j, i ≤ j → j < i + m → F j = false
  | 0, _, _, j, h1, h2 => by omega
  | m + 1, i, h, j, h1, h2 => by
    rw [cn] at h
    by_cases e : j = i
    · subst e
      cases hF : F j
      · rfl
      · rw [hF, if_pos rfl] at h; omega
    · exact cn_none m (i + 1) (by omega) j (by omega) (by omega)
theorem cn_some {F : Nat → Bool} : ∀ m i, ¬ cn F m i = 0 → ∃ j, i ≤ j ∧ j < i + m ∧ F j = true
  | 0, _, h => absurd rfl h
  | m + 1, i, h => by
    rw [cn] at h
    cases hF : F i
    · rw [hF, if_neg (by decide)] at h
      obtain ⟨j, h1, h2, h3⟩ := cn_some (F := F) m (i + 1) (by omega)
      exact ⟨j, by omega, by omega, h3⟩
    · exact ⟨i, Nat.le_refl _, by omega, hF⟩
def FF (f : Nat → Nat → Int32) (tm : Nat → Nat) (nt c : Nat) (k : Int32) (x : Nat) : Bool := decide (0 < nt) && FT f tm c k x
theorem fitL_cong {P Q : Nat → Bool} (h : ∀ i, P i = Q i) : ∀ m i, fitL P m i = fitL Q m i
  | 0, _ => rfl
  | m + 1, i => by rw [fitL, fitL, h i, fitL_cong h m]
theorem FT_cong {f f' : Nat → Nat → Int32} {tm : Nat → Nat} {c : Nat} {k : Int32} {x : Nat} (h : ∀ a, 441 ≤ a → a < 446 → f' a = f a) : FT f' tm c k x = FT f tm c k x := fitL_cong (fun i => by
  unfold okH
  rw [h 441 (by decide) (by decide), h 442 (by decide) (by decide), h 443 (by decide) (by decide), h 444 (by decide) (by decide), h 445 (by decide) (by decide)]) _ _
theorem lt64 {t : Nat} (h : t < 64) : Int32.ofNat t < 64 := by
  rw [show (64 : Int32) = Int32.ofNat 64 from rfl, on_lt (by omega) (by omega)]; exact h
theorem IMc_frame {f f' : Nat → Nat → Int32} {nt b c : Nat} {tm : Nat → Nat} (hf : ∀ a, a < 411 ∨ 413 < a ∧ a < 446 → f' a = f a) (h32 : f' 413 32 = f 413 32) (h55 : f' 413 55 = f 413 55) (h56 : f' 413 56 = f 413 56) (h : IMc f nt b tm c) : IMc f' nt b tm c := by
  obtain ⟨k1, k2, k3, k4, k5, k6, k7, k8, k9, k10, k11, k12⟩ := h
  refine ⟨by rw [hf 4 (by decide)]; exact k1, k2, k3, by rw [h32]; exact k4, by rw [hf 417 (by decide)]; exact k5, by rw [hf 8 (by decide), hf 426 (by decide)]; exact k6, k7, by rw [hf 404 (by decide)]; exact k8, by rw [h55]; exact k9, by rw [hf 404 (by decide), h56]; exact k10, by rw [h56]; exact k11, fun i hi => ?_⟩
  have := k12 i hi
  unfold HR at this ⊢
  rw [hf 405 (by decide), hf 406 (by decide), hf 407 (by decide), hf 408 (by decide), hf 409 (by decide), hf 410 (by decide), hf 441 (by decide), hf 442 (by decide), hf 443 (by decide), hf 444 (by decide), hf 445 (by decide)]
  exact this
section MF
variable {f : Nat → Nat → Int32} {g : (Nat → Nat → Int64) × (Nat → Nat → Option Nat)} {nt b c : Nat} {tm : Nat → Nat} {k : Int32}
theorem c_count (I : IMc f nt b tm c) : ∀ m n i a, i + m = 64 → lp_X3_countFitting_4 k (f, g) (n + m + 1) (Int32.ofNat a) (Int32.ofNat i) = some (Int32.ofNat (a + cn (FF f tm nt c k) m i)) := by
  intro m
  induction m with
  | zero =>
    intro n i a hi
    obtain rfl : i = 64 := by omega
    rw [lp_X3_countFitting_4, if_neg (by decide)]
    rfl
  | succ m ih =>
    intro n i a hi
    rw [lp_X3_countFitting_4, if_pos (lt64 (by omega)), X3_isFitting I (by omega), cal_some, cn]
    by_cases e : FF f tm nt c k i = true
    · have e' : (decide (0 < nt) && FT f tm c k i) = true := e
      rw [if_pos e', if_neg (by decide), on_succ, on_succ, ← Nat.add_assoc, ih n (i + 1) (a + 1) (by omega), if_pos e, Nat.add_assoc]
    · have e' : ¬ (decide (0 < nt) && FT f tm c k i) = true := e
      rw [if_neg e', if_pos rfl, on_succ, ← Nat.add_assoc, ih n (i + 1) a (by omega), if_neg e, Nat.zero_add]
theorem X3_countFitting (I : IMc f nt b tm c) : f_X3_countFitting k (f, g) = some (Int32.ofNat (cn (FF f tm nt c k) 64 0)) := by
  have := c_count (k := k) I (g := g) 64 3935 0 0 rfl
  rw [Nat.zero_add] at this
  exact this
theorem m_fits {f0 : Nat → Nat → Int32} (hn : 0 < nt) {K : am_H → Option (Int32 × am_H)} : ∀ m n i a (f : Nat → Nat → Int32), i + m = 64 → IMc f nt b tm c → (∀ a, 441 ≤ a → a < 446 → f a = f0 a) → f 413 57 = Int32.ofNat a → ∃ f', lp_X12_fits_7 k K (n + m + 1) (Int32.ofNat i) (f, g) = K (f', g) ∧ (∀ a, a ≠ 447 → a ≠ 413 → f' a = f a) ∧ (∀ k, k ≠ 57 → f' 413 k = f 413 k) ∧ f' 413 57 = Int32.ofNat (a + cn (FF f0 tm nt c k) m i) ∧ (∀ j, j < i → f' 447 j = f 447 j) ∧ ∀ j, i ≤ j → j < 64 → f' 447 j = if FF f0 tm nt c k j = true then 1 else 0 := by
  intro m
  induction m with
  | zero =>
    intro n i a f hi I h0 h57
    obtain rfl : i = 64 := by omega
    rw [lp_X12_fits_7, if_neg (by decide)]
    exact ⟨f, rfl, fun _ _ _ => rfl, fun _ _ => rfl, h57, fun _ _ => rfl, fun j h1 h2 => by omega⟩
  | succ m ih =>
    intro n i a f hi I h0 h57
    obtain ⟨k1, k2, k3, k4, k5, k6, k7, k8, k9, k10, k11, k12⟩ := id I
    have h1 : 0 < Int32.ofNat nt := by
      rw [show (0 : Int32) = Int32.ofNat 0 from rfl, on_lt (by omega) (by omega)]; exact hn
    have eF : FF f0 tm nt c k i = FT f tm c k i := by
      unfold FF
      rw [decide_eq_true hn, Bool.true_and, FT_cong h0]
    rw [lp_X12_fits_7, if_pos (lt64 (by omega)), bnd_eq]
    simp only [k4]
    rw [rdI_n (by omega) (by decide)]
    simp only [k5]
    rw [if_pos h1, X12_doesFit I (by omega), cal_some, wrI_n (by omega) (by decide), bnd_eq, rdI_n (by omega) (by decide)]
    simp only [au_same]
    have e57 : ∀ v, am_u2 f 447 i v 413 57 = Int32.ofNat a := fun v => by rw [u2_ne (by decide)]; exact h57
    have step : ∀ (v : Int32) (d : Nat), (v = if FF f0 tm nt c k i = true then 1 else 0) → d = (if FF f0 tm nt c k i = true then 1 else 0) → ∃ f', lp_X12_fits_7 k K (n + m + 1) (Int32.ofNat (i + 1)) (am_u2 (am_u2 f 447 i v) 413 57 (Int32.ofNat (a + d)), g) = K (f', g) ∧ (∀ a, a ≠ 447 → a ≠ 413 → f' a = f a) ∧ (∀ k, k ≠ 57 → f' 413 k = f 413 k) ∧ f' 413 57 = Int32.ofNat (a + (d + cn (FF f0 tm nt c k) m (i + 1))) ∧ (∀ j, j < i → f' 447 j = f 447 j) ∧ ∀ j, i ≤ j → j < 64 → f' 447 j = if FF f0 tm nt c k j = true then 1 else 0 := fun v d hv hd => by
      have fr : ∀ a', a' ≠ 447 → a' ≠ 413 → am_u2 (am_u2 f 447 i v) 413 57 (Int32.ofNat (a + d)) a' = f a' := fun a' z1 z2 => by rw [u2_ne z2, u2_ne z1]
      have fk : ∀ k, k ≠ 57 → am_u2 (am_u2 f 447 i v) 413 57 (Int32.ofNat (a + d)) 413 k = f 413 k := fun k z => by rw [au_nk z, u2_ne (by decide)]
      obtain ⟨f', a1, a2, a3, a4, a5, a6⟩ := ih n (i + 1) (a + d) (am_u2 (am_u2 f 447 i v) 413 57 (Int32.ofNat (a + d))) (by omega) (IMc_frame (fun a' z => fr a' (by omega) (by omega)) (fk 32 (by decide)) (fk 55 (by decide)) (fk 56 (by decide)) I) (fun a' z1 z2 => by rw [fr a' (by omega) (by omega)]; exact h0 a' z1 z2) au_same
      refine ⟨f', a1, fun a' z1 z2 => by rw [a2 a' z1 z2, fr a' z1 z2], fun k z => by rw [a3 k z, fk k z], by rw [a4, Nat.add_assoc], fun j hj => by rw [a5 j (by omega), u2_ne (by decide), au_nk (by omega)], fun j z1 z2 => ?_⟩
      by_cases e : j = i
      · subst e
        rw [a5 j (by omega), u2_ne (by decide), au_same, hv]
      · exact a6 j (by omega) z2
    rw [cn]
    by_cases e : FT f tm c k i = true
    · rw [if_pos e]
      have : ¬ vp_nar .boolean 1 = 0 := by decide
      rw [if_neg this, ptI_eq]
      simp only [e57, on_succ]
      have := step (vp_nar .boolean 1) 1 (by rw [eF, if_pos e]; decide) (by rw [eF, if_pos e])
      rw [eF, if_pos e]
      exact this
    · rw [if_neg e]
      rw [if_pos (show vp_nar .boolean 0 = 0 by decide), ptI_eq]
      simp only [e57, on_succ]
      have := step (vp_nar .boolean 0) 0 (by rw [eF, if_neg e]; decide) (by rw [eF, if_neg e])
      rw [eF, if_neg e]
      simp only [Nat.add_zero] at this
      rw [show Int32.ofNat a + 0 = Int32.ofNat a from Int32.add_zero _]
      exact this
/-- the model's fits: how many, and which -/
theorem X12_fits (I : IMc f nt b tm c) : ∃ f', f_X12_fits k (f, g) = some (Int32.ofNat (cn (FF f tm nt c k) 64 0), (f', g)) ∧ IMc f' nt b tm c ∧ (∀ a, a ≠ 447 → a ≠ 413 → f' a = f a) ∧ (∀ k, k ≠ 57 → f' 413 k = f 413 k) ∧ (0 < nt → ∀ j, j < 64 → f' 447 j = if FF f tm nt c k j = true then 1 else 0) := by
  obtain ⟨k1, k2, k3, k4, k5, k6, k7, k8, k9, k10, k11, k12⟩ := id I
  have fk : ∀ k, k ≠ 57 → am_u2 f 413 57 0 413 k = f 413 k := fun k z => au_nk z
  have fr : ∀ a, a ≠ 413 → am_u2 f 413 57 0 a = f a := fun a z => u2_ne z
  unfold f_X12_fits
  rw [ptI_eq]
  by_cases hn : 0 < nt
  · obtain ⟨f', a1, a2, a3, a4, a5, a6⟩ := m_fits (f0 := f) (g := g) (k := k) hn (K := fun h20 => bnd (h20.1 413 57) fun v22 => some (v22, h20)) 64 3935 0 0 (am_u2 f 413 57 0) rfl (IMc_frame (fun a z => fr a (by omega)) (fk 32 (by decide)) (fk 55 (by decide)) (fk 56 (by decide)) I) (fun a z1 z2 => fr a (by omega)) au_same
    have a1' : lp_X12_fits_7 k (fun h20 => bnd (h20.1 413 57) fun v22 => some (v22, h20)) 4000 0 (am_u2 f 413 57 0, g) = _ := a1
    refine ⟨f', ?_, IMc_frame (fun a z => by rw [a2 a (by omega) (by omega), fr a (by omega)]) (by rw [a3 32 (by decide), fk 32 (by decide)]) (by rw [a3 55 (by decide), fk 55 (by decide)]) (by rw [a3 56 (by decide), fk 56 (by decide)]) I, fun a z1 z2 => by rw [a2 a z1 z2, fr a z2], fun k z => by rw [a3 k z, fk k z], fun _ j hj => a6 j (Nat.zero_le _) hj⟩
    simp only
    rw [a1', bnd_eq]
    simp only [a4, Nat.zero_add]
  · have z : nt = 0 := by omega
    have c0 : cn (FF f tm nt c k) 64 0 = 0 := by
      have : ∀ m i, cn (FF f tm nt c k) m i = 0 := fun m => by
        induction m with
        | zero => intro i; rfl
        | succ m ih => intro i; rw [cn, ih, FF, decide_eq_false hn, Bool.false_and]; rfl
      exact this 64 0
    refine ⟨am_u2 f 413 57 0, ?_, IMc_frame (fun a z => fr a (by omega)) (fk 32 (by decide)) (fk 55 (by decide)) (fk 56 (by decide)) I, fun a z1 z2 => fr a z2, fk, fun h => absurd h hn⟩
    have e32 : am_u2 f 413 57 0 413 32 = Int32.ofNat b := by rw [fk 32 (by decide)]; exact k4
    have e417 : am_u2 f 413 57 0 417 b = Int32.ofNat nt := by rw [fr 417 (by decide)]; exact k5
    rw [lp_X12_fits_7, if_pos (by decide), bnd_eq]
    simp only [e32]
    rw [rdI_n (by omega) (by decide)]
    simp only [e417]
    rw [if_neg (show ¬ 0 < Int32.ofNat nt by rw [z]; decide), bnd_eq]
    simp only [au_same, c0]
    rfl
end MF
