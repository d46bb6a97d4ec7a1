/-! Both keep what was, and go on -/
section KB
variable {f : Nat → Nat → Int32} {g : (Nat → Nat → Int64) × (Nat → Nat → Option Nat)} {nr : Nat} {hold : Nat → Int32}
/-- what an act may change besides the row and the States -/
theorem keep_both {f1 : Nat → Nat → Int32} {r' : Nat → Int32} (A : IA f g nr hold) (W : WR nr hold (f 437)) (K : CK 27 f f1) (R : RC 27 r' f1) : ∃ f2 g2 f3, f_X0_keep 27 (f1, g) = some (f2, g2) ∧ f_X12_keepAct (f2, g2) = some (f3, g2) ∧ f3 437 = f 437 ∧ (∀ a, a ≠ 44 → ¬ (46 ≤ a ∧ a < 374) → f2 a = f1 a) ∧ (∀ a, a ≠ 413 → a ≠ 439 → f3 a = f2 a) ∧ (∀ k, k ≠ 44 → k ≠ 45 → f3 413 k = f 413 k) ∧ g2.1 = g.1 ∧ (∀ a, a ≠ 45 → g2.2 a = g.2 a) ∧ ∀ f4 : Nat → Nat → Int32, (∀ a, a ≠ 437 → a ≠ 436 → a ≠ 413 → f4 a = f3 a) → (∀ k, k ≠ 38 → k ≠ 39 → f4 413 k = f3 413 k) → (∀ k, k < 59 → f4 437 k = r' k) → IA f4 g2 nr hold := by
  obtain ⟨pi, d, a, G, hda, ha, h1, h2, h3, h4, h5, h6⟩ := A
  have e44 : f1 44 = f 44 := K 44 (by decide) (by decide) (by decide)
  obtain ⟨f2, g2, pi', e, k1, G', ke, k2, k3, k4, k5, k6, k7⟩ := X0_keep (f := f1) G (d := d) (by omega) (by rw [e44]; exact h1) R
  have he : e < 41 := by omega
  have hpe := (G'.1 e he).2
  have f2m : ∀ a, 374 ≤ a → f2 a = f a := fun a ha => by rw [k5 a (by omega) (by omega)]; exact K a (by omega) (by omega) (by omega)
  obtain ⟨f3, e', m1, m2, m3, m4, m5, m6, m7⟩ := X12_keepAct (g := g2) (f := f2) (d := d) (by omega) (by rw [f2m 413 (by decide)]; exact h3)
  have ee : e' = e := by omega
  subst ee
  refine ⟨f2, g2, f3, k1, m1, by rw [m6 437 (by decide) (by decide), f2m 437 (by decide)], fun a ha hs => k5 a ha (by omega), fun a h1 h2 => m6 a h2 h1, fun k z1 z2 => by rw [m7 k z1 z2, f2m 413 (by decide)], k6, k7, fun f4 q1 q2 q3 => ?_⟩
  have f4s : ∀ a, a < 413 → f4 a = f2 a := fun a ha => by rw [q1 a (by omega) (by omega) (by omega), m6 a (by omega) (by omega)]
  have r4 : ∀ i k, rw59 f4 i k = rw59 f3 i k := fun i k => by unfold rw59; rw [q1 439 (by decide) (by decide) (by decide)]
  have r2 : ∀ i k, rw59 f2 i k = rw59 f i k := fun i k => by unfold rw59; rw [f2m 439 (by decide)]
  have old : ∀ k, k < 59 → rw59 f4 (e' - 1) k = f 437 k := fun k hk => by rw [r4, m3 k hk, f2m 437 (by decide)]
  refine ⟨pi', e', e', G', Nat.le_refl _, by omega, by rw [f4s 44 (by decide)]; exact k2, by rw [f4s 44 (by decide)]; exact k3, by rw [q2 44 (by decide) (by decide)]; exact m4, by rw [q2 45 (by decide) (by decide), m5, Nat.sub_self]; rfl, fun i hi => ?_, fun i hi => ?_⟩
  · by_cases ie : i = e'
    · subst ie
      have : rowAt f4 i i = f4 437 := by unfold rowAt; rw [if_neg (Nat.lt_irrefl _), if_pos rfl]
      rw [this]
      exact RC_59 q3 (RC_frame (fun a h1 h2 => f4s a (by omega)) k4)
    · have il : i < e' := by omega
      have er : rowAt f4 e' i = rw59 f4 i := by unfold rowAt; rw [if_pos il]
      rw [er]
      have dis : pi' i ≠ pi' e' := fun z => ie (G'.2 i e' (by omega) he z)
      have hpi := (G'.1 i (by omega)).2
      have fr : ∀ a, 46 + 8 * pi' i ≤ a → a < 46 + 8 * pi' i + 8 → f4 a = f a := fun a a1 a2 => by
        rw [f4s a (by omega), k5 a (by omega) (by omega)]
        exact K a (by omega) (by omega) (by omega)
      rcases ke with ⟨c1, c2, rfl⟩ | ⟨c1, c2, rfl⟩
      · have base := h5 i (by omega)
        refine RC_59 (fun k hk => ?_) (RC_frame fr base)
        unfold rowAt
        by_cases l : i < d
        · rw [if_pos l, r4]
          rcases m2 with ⟨_, _, z⟩ | ⟨z, _, _⟩
          · rw [z i l k hk, r2]
          · omega
        · have : i = d := by omega
          subst this
          rw [if_neg l, if_pos rfl, show i = e' - 1 by omega]
          exact old k hk
      · have i40 : i < 40 := by omega
        simp only [if_pos i40] at fr ⊢
        have base := h5 (i + 1) (by omega)
        refine RC_59 (fun k hk => ?_) (RC_frame fr base)
        unfold rowAt
        by_cases l : i + 1 < d
        · rw [if_pos l, r4]
          rcases m2 with ⟨z, _, _⟩ | ⟨_, _, z⟩
          · omega
          · rw [z i (by omega) k hk, r2]
        · have : i + 1 = d := by omega
          rw [if_neg l, if_pos this, show i = e' - 1 by omega]
          exact old k hk
  · by_cases ie : i = e' - 1
    · subst ie
      exact WR_59 old W
    · rcases m2 with ⟨c1, c2, z⟩ | ⟨c1, c2, z⟩
      · exact WR_59 (fun k hk => by rw [r4, z i (by omega) k hk, r2]) (h6 i (by omega))
      · exact WR_59 (fun k hk => by rw [r4, z i (by omega) k hk, r2]) (h6 (i + 1) (by omega))
end KB
/-- an act of both: answers alike, the house stands, what was is kept -/
def AK (f : Nat → Nat → Int32) (g : (Nat → Nat → Int64) × (Nat → Nat → Option Nat)) (b nr : Nat) (hold : Nat → Int32) (E : EV) (lim : Int32) (C M : am_H → Option (Int32 × am_H)) : Prop := ∃ v f1 g1 f2, C (f, g) = some (v, (f1, g1)) ∧ M (f1, g1) = some (v, (f2, g1)) ∧ (∀ a, ¬ (27 ≤ a ∧ a < 36) → a ≠ 13 → a ≠ 44 → ¬ (46 ≤ a ∧ a < 374) → f1 a = f a) ∧ (∀ a, a ≠ 413 → a ≠ 436 → a ≠ 437 → a ≠ 439 → f2 a = f1 a) ∧ (∀ k, k ≠ 38 → k ≠ 39 → k ≠ 44 → k ≠ 45 → f2 413 k = f1 413 k) ∧ g1.1 = g.1 ∧ (∀ a, a ≠ 45 → g1.2 a = g.2 a) ∧ HI f2 g1 b nr hold E lim ∧ WR nr hold (f2 437) ∧ IA f2 g1 nr hold
theorem AK.same {f : Nat → Nat → Int32} {g : (Nat → Nat → Int64) × (Nat → Nat → Option Nat)} {b nr : Nat} {hold : Nat → Int32} {E : EV} {lim : Int32} {C M : am_H → Option (Int32 × am_H)} {v : Int32} (h : HI f g b nr hold E lim) (W : WR nr hold (f 437)) (A : IA f g nr hold) (h1 : C (f, g) = some (v, (f, g))) (h2 : M (f, g) = some (v, (f, g))) : AK f g b nr hold E lim C M := ⟨v, f, g, f, h1, h2, fun _ _ _ _ _ => rfl, fun _ _ _ _ _ => rfl, fun _ _ _ _ _ => rfl, rfl, fun _ _ => rfl, h, W, A⟩
section AO
variable {f : Nat → Nat → Int32} {g : (Nat → Nat → Int64) × (Nat → Nat → Option Nat)} {b nr : Nat} {hold : Nat → Int32} {E : EV} {lim : Int32}
/-- the general act: the class's row becomes r', then the model's -/
theorem act_of {C M : am_H → Option (Int32 × am_H)} {f1 : Nat → Nat → Int32} {r' : Nat → Int32} {v : Int32} (h : HI f g b nr hold E lim) (W : WR nr hold (f 437)) (A : IA f g nr hold) (K : CK 27 f f1) (R : RC 27 r' f1) (W' : WR nr hold r') (hC : ∀ f2 g2, f_X0_keep 27 (f1, g) = some (f2, g2) → (∀ a, a ≠ 44 → ¬ (46 ≤ a ∧ a < 374) → f2 a = f1 a) → C (f, g) = some (v, (f2, g2))) (hM : ∀ f2 g2 f3, f_X12_keepAct (f2, g2) = some (f3, g2) → (∀ a, 413 ≤ a → f2 a = f a) → f3 437 = f 437 → HI f3 g2 b nr hold E lim ∨ True → (∀ a, 413 < a → a ≠ 439 → f3 a = f a) → (∀ k, k ≠ 44 → k ≠ 45 → f3 413 k = f 413 k) → ∃ f4, M (f2, g2) = some (v, (f4, g2)) ∧ (∀ a, a ≠ 437 → a ≠ 436 → a ≠ 413 → f4 a = f3 a) ∧ (∀ k, k ≠ 38 → k ≠ 39 → f4 413 k = f3 413 k) ∧ ∀ k, k < 59 → f4 437 k = r' k) : AK f g b nr hold E lim C M := by
  obtain ⟨f2, g2, f3, k1, k2, k3, k4, k5, k6, k7, k8, k9⟩ := keep_both A W K R
  have f2m : ∀ a, 374 ≤ a → f2 a = f a := fun a ha => by rw [k4 a (by omega) (by omega)]; exact K a (by omega) (by omega) (by omega)
  obtain ⟨f4, m1, m2, m3, m4⟩ := hM f2 g2 f3 k2 (fun a ha => f2m a (by omega)) k3 (Or.inr trivial) (fun a h1 h2 => by rw [k5 a (by omega) h2, f2m a (by omega)]) k6
  have f4c : ∀ a, a < 413 → f4 a = f2 a := fun a ha => by rw [m2 a (by omega) (by omega) (by omega), k5 a (by omega) (by omega)]
  have f4m : ∀ a, 413 < a → a ≠ 436 → a ≠ 437 → a ≠ 439 → f4 a = f a := fun a h1 h2 h3 h4 => by rw [m2 a h3 h2 (by omega), k5 a (by omega) h4, f2m a (by omega)]
  have f4n : ∀ a, a < 27 → a ≠ 13 → f4 a = f a := fun a h1 h2 => by rw [f4c a (by omega), k4 a (by omega) (by omega)]; exact K a (by omega) (by omega) (by omega)
  have hk : ∀ k, k ≠ 38 → k ≠ 39 → k ≠ 44 → k ≠ 45 → f4 413 k = f 413 k := fun k z1 z2 z3 z4 => by rw [m3 k z1 z2, k6 k z3 z4]
  obtain ⟨hR, hW, hL, hH, hP, hMP, he, hem, h8, l1, l9, h19, h42⟩ := h
  refine ⟨v, f2, g2, f4, hC f2 g2 k1 k4, m1, fun a z1 z2 z3 z4 => ?_, fun a z1 z2 z3 z4 => ?_, fun k z1 z2 z3 z4 => ?_, k7, k8, ⟨?_, ?_, ?_, hH, ?_, ?_, ?_, ?_, ?_, l1, l9, ?_, ?_⟩, WR_59 m4 W', k9 f4 m2 m3 m4⟩
  · rw [k4 a z3 z4]; exact K a (by omega) (by omega) z2
  · rw [m2 a z3 z2 z1, k5 a z1 z4]
  · rw [hk k z1 z2 z3 z4, f2m 413 (by decide)]
  · exact RC_59 m4 (RC_frame (fun a z1 z2 => by rw [f4c a (by omega), k4 a (by omega) (by omega)]) R)
  · exact WQ_59 m4 W'.1
  · exact WL_59 m4 W'.2.1
  · exact PC_frame (f4n 4 (by decide) (by decide)) (f4n 5 (by decide) (by decide)) hP
  · unfold MP at hMP ⊢
    simp only at hMP ⊢
    rw [hk 32 (by decide) (by decide) (by decide) (by decide), f4m 416 (by decide) (by decide) (by decide) (by decide), f4m 423 (by decide) (by decide) (by decide) (by decide)]
    exact hMP
  · exact EC_frame (f4n 10 (by decide) (by decide)) (f4n 11 (by decide) (by decide)) (f4n 12 (by decide) (by decide)) he
  · exact fun f'' g i j a1 a2 a3 a4 a5 => hem f'' g i j (a1.trans (f4m 422 (by decide) (by decide) (by decide) (by decide))) (a2.trans (f4m 428 (by decide) (by decide) (by decide) (by decide))) (a3.trans (f4m 429 (by decide) (by decide) (by decide) (by decide))) (a4.trans (f4m 432 (by decide) (by decide) (by decide) (by decide))) (a5.trans (f4m 433 (by decide) (by decide) (by decide) (by decide)))
  · rw [f4n 4 (by decide) (by decide)]; exact h8
  · rw [f4m 419 (by decide) (by decide) (by decide) (by decide)]; exact h19
  · rw [hk 42 (by decide) (by decide) (by decide) (by decide)]; exact h42
theorem q_lose (h : HI f g b nr hold E lim) (W : WR nr hold (f 437)) (A : IA f g nr hold) (x : Int32) : AK f g b nr hold E lim (f_X11_lose x) (f_X12_lose x) := by
  have R := h.1
  have one : ¬ (1 : Int32) = 0 := by decide
  by_cases h1 : hs (f 437) x = true
  · obtain ⟨t, ht, rfl, t0⟩ := hs_ex h1
    have W' : WR nr hold (zLose t (f 437)) := ⟨WQ_lose W.1 ht, fun r hr => Int.le_trans (sum_lose W.1 r ht) (W.2.1 r hr), by rw [zLose_o (by omega) (by omega) (by omega)]; exact W.2.2.1, by rw [zLose_o (by omega) (by omega) (by omega)]; exact W.2.2.2⟩
    refine act_of (v := f 437 t) h W A CK.rm (RC_lose R ht) W' (fun f2 g2 hk hf => ?_) (fun f2 g2 f3 hk hf2 q3 _ h3 h413 => ?_)
    · unfold f_X11_lose
      rw [X7_has (h := (f, g)) R, cal_some, if_pos h1, if_neg one, rdS1 (h := (f, g)) R ht, fX7_remove ht, cal_some, hk, cal_some]
    · have q2 : f2 437 = f 437 := hf2 437 (by decide)
      have el := X12_loseOne (f := f3) (g := g2) (q := f3 437) ht
      rw [up_self] at el
      refine ⟨up f3 437 (zLose t (f 437)), ?_, fun a z1 z2 z3 => up_ne z1, fun k z1 z2 => by rw [up_ne (by decide)], fun k hk => by rw [up_same]⟩
      unfold f_X12_lose
      rw [X12_isThere, cal_some]
      simp only [q2]
      rw [if_pos h1, if_neg one, hk, cal_some, rdA0 ht, el, cal_some]
      simp only [q3]
  · refine AK.same (v := -1) h W A ?_ ?_
    · unfold f_X11_lose
      rw [X7_has (h := (f, g)) R, cal_some, if_neg h1, if_pos rfl]
    · unfold f_X12_lose
      rw [X12_isThere, cal_some]
      simp only
      rw [if_neg h1, if_pos rfl]
theorem q_carry (h : HI f g b nr hold E lim) (W : WR nr hold (f 437)) (A : IA f g nr hold) (x y : Int32) : AK f g b nr hold E lim (f_X11_carry x y) (f_X12_carry x y) := by
  have R := h.1
  have P := h.2.2.2.2.1
  have M := h.2.2.2.2.2.1
  have H := h.2.2.2.1
  have h4 := P.2.1
  have one : ¬ (1 : Int32) = 0 := by decide
  by_cases h1 : hs (f 437) x = true
  · rcases rm_cases y h4 with ⟨r, hr, rfl⟩ | hy
    · obtain ⟨t, ht, rfl, t0⟩ := hs_ex h1
      have hcc := X12_canCarry (g := g) M rfl ht t0 hr
      by_cases c1 : f 437 (8 + t) = Int32.ofNat r
      · refine AK.same (v := -1) h W A ?_ ?_
        · unfold f_X11_carry
          rw [X7_has (h := (f, g)) R, cal_some, if_pos h1, if_neg one, X4_hasRoom P hr, cal_some, if_neg one, rdS2 (h := (f, g)) R ht, if_neg (pos_ne t0), if_pos c1]
        · unfold f_X12_carry
          rw [hcc, cal_some, if_pos (Or.inl c1), if_pos rfl]
      · by_cases c2 : zLeft hold (f 437) r < f 437 t
        · refine AK.same (v := -1) h W A ?_ ?_
          · unfold f_X11_carry
            rw [X7_has (h := (f, g)) R, cal_some, if_pos h1, if_neg one, X4_hasRoom P hr, cal_some, if_neg one, rdS2 (h := (f, g)) R ht, if_neg (pos_ne t0), if_neg c1, X7_leftIn P (h := (f, g)) R hr, cal_some, rdS1 (h := (f, g)) R ht, if_pos c2]
          · unfold f_X12_carry
            rw [hcc, cal_some, if_pos (Or.inr c2), if_pos rfl]
        · have W' : WR nr hold (st (f 437) (8 + t) (Int32.ofNat r)) := ⟨WQ_w2 W.1 ht t0 hr, WL_carry h4 H W.1 W.2.1 ht t0 hr (Or.inr c2), by rw [st_ne (by omega)]; exact W.2.2.1, by rw [st_ne (by omega)]; exact W.2.2.2⟩
          refine act_of (v := f 437 (8 + t)) h W A (CK.au (a := 27 + 2) (k := t) (v := Int32.ofNat r) (Or.inl ⟨by decide, by decide⟩)) (RC_w2 R ht (pos_ne t0)) W' (fun f2 g2 hk hf => ?_) (fun f2 g2 f3 hk hf2 q3 _ h3 h413 => ?_)
          · unfold f_X11_carry
            rw [X7_has (h := (f, g)) R, cal_some, if_pos h1, if_neg one, X4_hasRoom P hr, cal_some, if_neg one, rdS2 (h := (f, g)) R ht, if_neg (pos_ne t0), if_neg c1, X7_leftIn P (h := (f, g)) R hr, cal_some, rdS1 (h := (f, g)) R ht, if_neg c2, wrI_i8 ht]
            have hk' : f_X0_keep 27 (am_u2 (f, g).1 (27 + 2) t (Int32.ofNat r), (f, g).2) = some (f2, g2) := hk
            rw [hk', cal_some]
          · have M2 : MP (f2, g2) b nr hold := by
              unfold MP at M ⊢
              simp only at M ⊢
              rw [hf2 413 (by decide), hf2 416 (by decide), hf2 423 (by decide)]
              exact M
            refine ⟨up f3 437 (st (f 437) (8 + t) (Int32.ofNat r)), ?_, fun a z1 z2 z3 => up_ne z1, fun k z1 z2 => by rw [up_ne (by decide)], fun k hk => by rw [up_same]⟩
            have nn : ¬ (f 437 (8 + t) = Int32.ofNat r ∨ zLeft hold (f 437) r < f 437 t) := fun z => z.elim c1 c2
            unfold f_X12_carry
            rw [X12_canCarry M2 (hf2 437 (by decide)) ht t0 hr, cal_some, if_neg nn, if_neg one, hk, cal_some, rdA8 ht, wrA8 ht]
            simp only [u2_up, q3]
    · refine AK.same (v := -1) h W A ?_ ?_
      · unfold f_X11_carry
        rw [X7_has (h := (f, g)) R, cal_some, if_pos h1, if_neg one, X4_noRoom P hy, cal_some, if_pos rfl]
      · unfold f_X12_carry f_X12_canCarry
        rw [X12_isThere, cal_some, X12_noRoom M hy, cal_some]
        simp only
        rw [if_pos h1, if_neg one]
        simp only [if_true, cal_some]
  · refine AK.same (v := -1) h W A ?_ ?_
    · unfold f_X11_carry
      rw [X7_has (h := (f, g)) R, cal_some, if_neg h1, if_pos rfl]
    · unfold f_X12_carry f_X12_canCarry
      rw [X12_isThere, cal_some]
      simp only
      rw [if_neg h1, if_pos rfl, cal_some, if_pos rfl]
end AO
