/-! ask, held, untell, later -/
def MQ2 (f : Nat → Nat → Int32) (g : (Nat → Nat → Int64) × (Nat → Nat → Option Nat)) (C M : am_H → Option (Int32 × am_H)) : Prop := ∃ v f1 f2, C (f, g) = some (v, (f1, g)) ∧ M (f1, g) = some (v, (f2, g)) ∧ (∀ a, a ≠ 411 → f1 a = f a) ∧ (∀ a, a ≠ 446 → a ≠ 447 → a ≠ 413 → f2 a = f1 a) ∧ ∀ k, k ≠ 57 → f2 413 k = f1 413 k
def MU (f : Nat → Nat → Int32) (g : (Nat → Nat → Int64) × (Nat → Nat → Option Nat)) (nt b : Nat) (tm : Nat → Nat) (C M : am_H → Option (Int32 × am_H)) : Prop := ∃ v f1 f2, C (f, g) = some (v, (f1, g)) ∧ M (f1, g) = some (v, (f2, g)) ∧ (∀ a, ¬ (404 ≤ a ∧ a < 411) → f1 a = f a) ∧ (∀ a, a ≠ 413 → ¬ (441 ≤ a ∧ a < 446) → f2 a = f1 a) ∧ (∀ k, k ≠ 55 → k ≠ 56 → f2 413 k = f1 413 k) ∧ IM f2 nt b tm
theorem MU.same {f : Nat → Nat → Int32} {g : (Nat → Nat → Int64) × (Nat → Nat → Option Nat)} {nt b : Nat} {tm : Nat → Nat} {C M : am_H → Option (Int32 × am_H)} {v : Int32} (I : IM f nt b tm) (h1 : C (f, g) = some (v, (f, g))) (h2 : M (f, g) = some (v, (f, g))) : MU f g nt b tm C M := ⟨v, f, f, h1, h2, fun _ _ => rfl, fun _ _ _ => rfl, fun _ _ _ => rfl, I⟩
theorem i_cases (x : Int32) (n : Nat) (hn : n ≤ 1000000) : (∃ i, i < n ∧ x = Int32.ofNat i ∧ ¬ x < 0 ∧ x < Int32.ofNat n ∧ ¬ (x < 0 ∨ Int32.ofNat n - 1 < x)) ∨ ((x < 0 ∨ ¬ x < Int32.ofNat n) ∧ (x < 0 ∨ Int32.ofNat n - 1 < x)) := by
  have e : (Int32.ofNat n - 1).toInt = n - 1 := by
    rw [ti_sub (by rw [on_toInt (by omega), ti_1]; omega) (by rw [on_toInt (by omega), ti_1]; omega), on_toInt (by omega), ti_1]
  have en : (Int32.ofNat n).toInt = n := on_toInt (by omega)
  by_cases h : 0 ≤ x.toInt ∧ x.toInt < n
  · refine Or.inl ⟨x.toInt.toNat, by omega, ?_, ?_, ?_, ?_⟩
    · rw [← Int32.toInt_inj, on_toInt (by omega)]; omega
    · rw [Int32.lt_iff_toInt_lt, ti_0]; omega
    · rw [Int32.lt_iff_toInt_lt, en]; omega
    · rw [Int32.lt_iff_toInt_lt, Int32.lt_iff_toInt_lt, e, ti_0]; omega
  · refine Or.inr ⟨?_, ?_⟩
    · rw [Int32.lt_iff_toInt_lt, Int32.lt_iff_toInt_lt, en, ti_0]; omega
    · rw [Int32.lt_iff_toInt_lt, Int32.lt_iff_toInt_lt, e, ti_0]; omega
section MI
variable {f : Nat → Nat → Int32} {g : (Nat → Nat → Int64) × (Nat → Nat → Option Nat)} {nt b c : Nat} {tm : Nat → Nat} {k : Int32}
theorem q_ask (I : IMc f nt b tm c) (x k : Int32) : MQ2 f g (f_X11_ask x k) (f_X12_ask x k) := by
  have one : ¬ (1 : Int32) = 0 := by decide
  have h6 := I.2.1
  by_cases hx : x < 0 ∨ (1 : Int32) < x
  · obtain ⟨f', a1, a2, a3, a4, a5⟩ := X12_fits (g := g) (k := k) I
    refine ⟨-1, f, f', ?_, ?_, fun _ _ => rfl, fun a z1 z2 z3 => a3 a z2 z3, a4⟩
    · unfold f_X11_ask
      by_cases e : x < 0
      · rw [if_pos e]
      · rw [if_neg e, if_pos (hx.elim (fun z => absurd z e) id)]
    · unfold f_X12_ask
      rw [a1, cal2_some, X12_isIn, cal_some, if_pos hx, if_pos rfl]
  · have x0 : ¬ x < 0 := fun z => hx (Or.inl z)
    have x1 : ¬ (1 : Int32) < x := fun z => hx (Or.inr z)
    have P : ∀ t, mlP (FF f tm nt c k) 64 (fo (mlS (FF f tm nt c k) (shN tm t)) 64 0 (fun _ => 0, 0)) := fun t => ML_P
    by_cases c0 : cn (FF f tm nt c k) 64 0 = 0
    · have G0 : ∀ t, ML (FF f tm nt c k) (shN tm t) = 0 := fun t => (P t).2.2.2 fun j hj => cn_none 64 0 c0 j (Nat.zero_le _) (by omega)
      have hc : ∃ f1, f_X3_bestToAsk k (f, g) = some (-1, (f1, g)) ∧ ∀ a, a ≠ 411 → f1 a = f a := by
        by_cases hn : nt = 0
        · refine ⟨f, ?_, fun _ _ => rfl⟩
          unfold f_X3_bestToAsk
          rw [lp_X3_bestToAsk_8, bnd_eq]
          simp only [I.1, hn]
          rw [if_neg (by decide)]
        · obtain ⟨f1, a1, a2⟩ := c_asks (g := g) (k := k) (f0 := f) (N := nt - 1) (nt := nt) (by omega) (nt - 1) (3999 - (nt - 1)) 0 (-1, 65) f (by omega) I (fun _ _ _ => rfl)
          rw [ak_none G0, show 3999 - (nt - 1) + (nt - 1) + 1 = 4000 by omega] at a1
          exact ⟨f1, a1, a2⟩
      obtain ⟨f1, a1, a2⟩ := hc
      have I1 : IMc f1 nt b tm c := IMc_frame (fun a z => a2 a (by omega)) (by rw [a2 413 (by decide)]) (by rw [a2 413 (by decide)]) (by rw [a2 413 (by decide)]) I
      have eF : FF f1 tm nt c k = FF f tm nt c k := funext fun x => FF_cong fun a z1 z2 => a2 a (by omega)
      obtain ⟨f', b1, b2, b3, b4, b5⟩ := X12_fits (g := g) (k := k) I1
      rw [eF, c0] at b1
      refine ⟨-1, f1, f', ?_, ?_, a2, fun a z1 z2 z3 => b3 a z2 z3, b4⟩
      · unfold f_X11_ask
        rw [if_neg x0, if_neg x1, a1, cal2_some]
        by_cases e : x = 0
        · rw [if_pos e]
        · rw [if_neg e, if_pos rfl]
      · unfold f_X12_ask
        rw [b1, cal2_some, X12_isIn, cal_some, if_neg hx, if_neg one, if_pos (by rfl)]
    · obtain ⟨j, -, hj, hF⟩ := cn_some 64 0 c0
      have hn : 0 < nt := by
        rw [FF, Bool.and_eq_true] at hF
        exact of_decide_eq_true hF.1
      have cl := cn_le (F := FF f tm nt c k) 64 0
      have G1 : ∀ t, 0 < ML (FF f tm nt c k) (shN tm t) := fun t => ti_pos.mpr ((P t).2.2.1 ⟨j, by omega, hF⟩)
      have G2 : ∀ t, ML (FF f tm nt c k) (shN tm t) < 65 := fun t => by
        rw [Int32.lt_iff_toInt_lt]
        have h1 : (65 : Int32).toInt = 65 := rfl
        have h2 : (ML (FF f tm nt c k) (shN tm t)).toInt ≤ 64 := (P t).2.1.2
        omega
      obtain ⟨f1, a1, a2⟩ := c_asks (g := g) (k := k) (f0 := f) (N := nt - 1) (nt := nt) (by omega) (nt - 1) (3999 - (nt - 1)) 0 (-1, 65) f (by omega) I (fun _ _ _ => rfl)
      rw [show 3999 - (nt - 1) + (nt - 1) + 1 = 4000 by omega] at a1
      have a1' : f_X3_bestToAsk k (f, g) = _ := a1
      have I1 : IMc f1 nt b tm c := IMc_frame (fun a z => a2 a (by omega)) (by rw [a2 413 (by decide)]) (by rw [a2 413 (by decide)]) (by rw [a2 413 (by decide)]) I
      have eF1 : FF f1 tm nt c k = FF f tm nt c k := funext fun x => FF_cong fun a z1 z2 => a2 a (by omega)
      by_cases hn1 : nt = 1
      · obtain ⟨f', b1, b2, b3, b4, b5⟩ := X12_fits (g := g) (k := k) I1
        rw [eF1] at b1
        refine ⟨-1, f1, f', ?_, ?_, a2, fun a z1 z2 z3 => b3 a z2 z3, b4⟩
        · unfold f_X11_ask
          have e0 : nt - 1 = 0 := by omega
          rw [e0] at a1'
          rw [if_neg x0, if_neg x1, a1', cal2_some]
          by_cases e : x = 0
          · rw [if_pos e]; rfl
          · rw [if_neg e, if_pos (by rfl)]; rfl
        · unfold f_X12_ask
          rw [b1, cal2_some, X12_isIn, cal_some, if_neg hx, if_neg one, if_neg (fun z => c0 ((on_zero (by omega)).mp z)), bnd_eq]
          simp only [b2.2.2.2.1]
          rw [rdI_n b2.2.2.1 (by decide)]
          simp only [b2.2.2.2.2.1]
          rw [if_pos (by rw [hn1]; decide)]
      · obtain ⟨M, hM⟩ : ∃ M, nt - 1 = M + 1 := ⟨nt - 2, by omega⟩
        have eb : fo (akS fun t => ML (FF f tm nt c k) (shN tm t)) (nt - 1) 0 (-1, 65) = (Int32.ofNat (fo (msS fun t => ML (FF f tm nt c k) (shN tm t)) M 1 0), ML (FF f tm nt c k) (shN tm (fo (msS fun t => ML (FF f tm nt c k) (shN tm t)) M 1 0))) := by
          rw [hM, fo, akS, if_pos ⟨G1 0, G2 0⟩]
          exact ak_ms (G := fun t => ML (FF f tm nt c k) (shN tm t)) G1 M 1 0
        have hB : fo (msS fun t => ML (FF f tm nt c k) (shN tm t)) M 1 0 < nt := ms_lt M 1 0 (by omega) (by omega)
        rw [eb] at a1'
        have nz : ¬ Int32.ofNat (fo (msS fun t => ML (FF f tm nt c k) (shN tm t)) M 1 0) = -1 := fun z => nneg (i := fo (msS fun t => ML (FF f tm nt c k) (shN tm t)) M 1 0) (by omega) (by rw [z]; decide)
        -- the class's last look
        have hcl : ∃ f2, f_X11_ask x k (f, g) = some (if x = 0 then Int32.ofNat (fo (msS fun t => ML (FF f tm nt c k) (shN tm t)) M 1 0) else ML (FF f tm nt c k) (shN tm (fo (msS fun t => ML (FF f tm nt c k) (shN tm t)) M 1 0)), (f2, g)) ∧ ∀ a, a ≠ 411 → f2 a = f a := by
          unfold f_X11_ask
          rw [if_neg x0, if_neg x1, a1', cal2_some]
          by_cases e : x = 0
          · rw [if_pos e]
            exact ⟨f1, by rw [if_pos e], a2⟩
          · rw [if_neg e, if_neg nz]
            obtain ⟨f2, d1, d2⟩ := X3_mostLeftBy (g := g) (k := k) I1 hB
            rw [eF1] at d1
            refine ⟨f2, by rw [d1, cal2_some, if_neg e], fun a z => by rw [d2 a z, a2 a z]⟩
        obtain ⟨f2, c1, c2⟩ := hcl
        have I2 : IMc f2 nt b tm c := IMc_frame (fun a z => c2 a (by omega)) (by rw [c2 413 (by decide)]) (by rw [c2 413 (by decide)]) (by rw [c2 413 (by decide)]) I
        have eF2 : FF f2 tm nt c k = FF f tm nt c k := funext fun x => FF_cong fun a z1 z2 => c2 a (by omega)
        obtain ⟨f', b1, b2, b3, b4, b5⟩ := X12_fits (g := g) (k := k) I2
        rw [eF2] at b1 b5
        obtain ⟨f3, d1, d2⟩ := m_asks (g := g) (F := FF f tm nt c k) (N := nt - 1) (nt := nt) (by omega) (x := x) (K := fun z26 h27 => if x = 0 then some (z26, h27) else cal2 (f_X12_mostBy z26 h27) fun v30 h32 => some (v30, h32)) M (3999 - M) 1 0 f' (by omega) (by omega) b2 (b5 hn)
        rw [show 3999 - M + M + 1 = 4000 by omega] at d1
        have d1' : lp_X12_ask_40 x (fun z26 h27 => if x = 0 then some (z26, h27) else cal2 (f_X12_mostBy z26 h27) fun v30 h32 => some (v30, h32)) 4000 0 1 (f', g) = _ := d1
        have hml : f_X12_ask x k (f2, g) = (if x = 0 then some (Int32.ofNat (fo (msS fun t => ML (FF f tm nt c k) (shN tm t)) M 1 0), (f3, g)) else cal2 (f_X12_mostBy (Int32.ofNat (fo (msS fun t => ML (FF f tm nt c k) (shN tm t)) M 1 0)) (f3, g)) fun v30 h32 => some (v30, h32)) := by
          unfold f_X12_ask
          rw [b1, cal2_some, X12_isIn, cal_some, if_neg hx, if_neg one, if_neg (fun z => c0 ((on_zero (by omega)).mp z)), bnd_eq]
          simp only [b2.2.2.2.1]
          rw [rdI_n b2.2.2.1 (by decide)]
          simp only [b2.2.2.2.2.1]
          rw [if_neg (by rw [show (2 : Int32) = Int32.ofNat 2 from rfl, on_lt (by omega) (by omega)]; omega), d1']
        by_cases e : x = 0
        · rw [if_pos e] at hml c1
          refine ⟨_, f2, f3, c1, hml, c2, fun a z1 z2 z3 => by rw [d2 a z1, b3 a z2 z3], fun k z => by rw [d2 413 (by decide), b4 k z]⟩
        · rw [if_neg e] at hml c1
          obtain ⟨f4, e1, e2⟩ := X12_mostBy (g := g) (f := f3) (F := FF f tm nt c k) (IMc_frame (fun a z => d2 a (by omega)) (by rw [d2 413 (by decide)]) (by rw [d2 413 (by decide)]) (by rw [d2 413 (by decide)]) b2) (fun j hj => by rw [d2 447 (by decide)]; exact b5 hn j hj) hB
          rw [e1, cal2_some] at hml
          refine ⟨_, f2, f4, c1, hml, c2, fun a z1 z2 z3 => by rw [e2 a z1, d2 a z1, b3 a z2 z3], fun k z => by rw [e2 413 (by decide), d2 413 (by decide), b4 k z]⟩
end MI
