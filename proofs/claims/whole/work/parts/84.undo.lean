/-! undo, redo, image, back -/
section AU
variable {f f' : Nat → Nat → Int32} {g g' : (Nat → Nat → Int64) × (Nat → Nat → Option Nat)} {b nr : Nat} {hold : Nat → Int32} {E : EV} {lim : Int32}
/-- the house stands where its own cells stand -/
theorem HI_of (h : HI f g b nr hold E lim) (c : ∀ a, a = 4 ∨ a = 5 ∨ a = 10 ∨ a = 11 ∨ a = 12 ∨ a = 416 ∨ a = 419 ∨ a = 422 ∨ a = 423 ∨ a = 428 ∨ a = 429 ∨ a = 432 ∨ a = 433 → f' a = f a) (k32 : f' 413 32 = f 413 32) (k42 : f' 413 42 = f 413 42) (R : RC 27 (f' 437) f') (W : WQ nr (f' 437)) (L : WL nr hold (f' 437)) : HI f' g' b nr hold E lim := by
  obtain ⟨-, -, -, hH, hP, hMP, he, hem, h8, l1, l9, h19, h42⟩ := h
  refine ⟨R, W, L, hH, ?_, ?_, ?_, ?_, ?_, l1, l9, ?_, ?_⟩
  · exact PC_frame (c 4 (by decide)) (c 5 (by decide)) hP
  · unfold MP at hMP ⊢
    simp only at hMP ⊢
    rw [k32, c 416 (by decide), c 423 (by decide)]
    exact hMP
  · exact EC_frame (c 10 (by decide)) (c 11 (by decide)) (c 12 (by decide)) he
  · exact fun f'' g i j a1 a2 a3 a4 a5 => hem f'' g i j (a1.trans (c 422 (by decide))) (a2.trans (c 428 (by decide))) (a3.trans (c 429 (by decide))) (a4.trans (c 432 (by decide))) (a5.trans (c 433 (by decide)))
  · rw [c 4 (by decide)]; exact h8
  · rw [c 419 (by decide)]; exact h19
  · rw [k42]; exact h42
theorem on_pred {d : Nat} (h : 0 < d) : Int32.ofNat d - 1 = Int32.ofNat (d - 1) := by
  obtain ⟨e, rfl⟩ : ∃ e, d = e + 1 := ⟨d - 1, by omega⟩
  rw [← on_succ, Int32.add_sub_cancel, Nat.add_sub_cancel]
theorem on_zero {d : Nat} (h : d < 2147483648) : Int32.ofNat d = 0 ↔ d = 0 := by
  rw [show (0 : Int32) = Int32.ofNat 0 from rfl, on_inj h (by decide)]
theorem q_undo (h : HI f g b nr hold E lim) (W : WR nr hold (f 437)) (A : IA f g nr hold) : AK f g b nr hold E lim f_X11_undo f_X12_undo := by
  have A0 := A
  obtain ⟨pi, d, a, G, hda, ha, h1, h2, h3, h4, h5, h6⟩ := A
  by_cases c : d = 0
  · subst c
    refine AK.same (v := 0) h W A0 ?_ ?_
    · unfold f_X11_undo f_X0_stepBack
      rw [bnd_eq]
      simp only [h1]
      rw [if_pos (by decide), cal2_some, zrt_0]
    · unfold f_X12_undo
      rw [bnd_eq]
      simp only [h3]
      rw [if_pos (by decide)]
  · have hd1 : ¬ Int32.ofNat d < 1 := by
      rw [show (1 : Int32) = Int32.ofNat 1 from rfl, on_lt (by omega) (by omega)]; omega
    have hr : RC (46 + 8 * pi (d - 1)) (rw59 f (d - 1)) f := by
      have := h5 (d - 1) (by omega)
      unfold rowAt at this
      rw [if_pos (by omega)] at this
      exact this
    obtain ⟨f1, a1, a2, a3⟩ := X0_read (f := am_u2 f 44 1 (Int32.ofNat (d - 1))) (g := g) G (i := d - 1) (by omega) (RC_frame (fun a h1 h2 => by rw [u2_ne (by omega)]) hr)
    have f1m : ∀ a, a ≠ 44 → ¬ (27 ≤ a ∧ a < 27 + 8) → f1 a = f a := fun a z1 z2 => by rw [a3 a z2, u2_ne z1]
    have f144 : f1 44 1 = Int32.ofNat (d - 1) := by rw [a3 44 (by decide), au_same]
    have f145 : f1 44 2 = Int32.ofNat a := by rw [a3 44 (by decide), au_nk (by decide)]; exact h2
    let f2 := am_u2 (am_u2 f1 413 44 (Int32.ofNat (d - 1))) 413 45 (Int32.ofNat (a - d + 1))
    have f2m : ∀ a, a ≠ 413 → f2 a = f1 a := fun a z => by show am_u2 (am_u2 _ _ _ _) _ _ _ a = _; rw [u2_ne z, u2_ne z]
    obtain ⟨f3, b1, b2, b3, b4⟩ := X12_swapAll (f := f2) (g := g) (d := d - 1) (by omega) (by show am_u2 (am_u2 _ _ _ _) _ _ _ 413 44 = _; rw [au_nk (by decide), au_same])
    have f3m : ∀ a, a ≠ 413 → a ≠ 437 → a ≠ 439 → f3 a = f1 a := fun a z1 z2 z3 => by rw [b4 a z2 z3, f2m a z1]
    have e437 : f2 437 = f 437 := by rw [f2m 437 (by decide), f1m 437 (by decide) (by decide)]
    have e59 : ∀ i k, rw59 f2 i k = rw59 f i k := fun i k => by unfold rw59; rw [f2m 439 (by decide), f1m 439 (by decide) (by decide)]
    have r437 : ∀ k, k < 59 → f3 437 k = rw59 f (d - 1) k := fun k hk => by rw [(b3 k hk).2, e59]
    have W3 : WR nr hold (f3 437) := WR_59 r437 (h6 (d - 1) (by omega))
    refine ⟨1, f1, g, f3, ?_, ?_, fun a z1 z2 z3 z4 => f1m a z3 (by omega), fun a z1 z2 z3 z4 => f3m a z1 z3 z4, fun k z1 z2 z3 z4 => ?_, rfl, fun _ _ => rfl, HI_of h (fun a z => ?_) ?_ ?_ ?_ W3.1 W3.2.1, W3, ⟨pi, d - 1, a, G, by omega, ha, ?_, ?_, ?_, ?_, fun i hi => ?_, fun i hi => ?_⟩⟩
    · unfold f_X11_undo f_X0_stepBack
      rw [bnd_eq]
      simp only [h1]
      rw [if_neg hd1, bnd_eq, ptI_eq, bnd_eq]
      simp only [h1, on_pred (show 0 < d by omega), au_same]
      rw [a1, cal_some, cal2_some, zrt_1]
    · unfold f_X12_undo
      have e3 : f1 413 44 = Int32.ofNat d := by rw [f1m 413 (by decide) (by decide)]; exact h3
      have e4 : f1 413 45 = Int32.ofNat (a - d) := by rw [f1m 413 (by decide) (by decide)]; exact h4
      have e5 : am_u2 f1 413 44 (Int32.ofNat (d - 1)) 413 45 = Int32.ofNat (a - d) := by rw [au_nk (by decide)]; exact e4
      rw [bnd_eq, bnd_eq, ptI_eq, bnd_eq, ptI_eq]
      simp only [e3, on_pred (show 0 < d by omega), e5, on_succ]
      rw [if_neg (by rw [on_zero (by omega)]; exact c)]
      have b1' : f_X12_swapAll (am_u2 (am_u2 f1 413 44 (Int32.ofNat (d - 1))) 413 45 (Int32.ofNat (a - d + 1)), g) = some (f3, g) := b1
      rw [b1', cal_some]
    · rw [b4 413 (by decide) (by decide)]
      show am_u2 (am_u2 _ _ _ _) _ _ _ 413 k = _
      rw [au_nk z4, au_nk z3]
    · rw [f3m a (by omega) (by omega) (by omega), f1m a (by omega) (by omega)]
    · rw [b4 413 (by decide) (by decide)]
      show am_u2 (am_u2 _ _ _ _) _ _ _ 413 32 = _
      rw [au_nk (by decide), au_nk (by decide), f1m 413 (by decide) (by decide)]
    · rw [b4 413 (by decide) (by decide)]
      show am_u2 (am_u2 _ _ _ _) _ _ _ 413 42 = _
      rw [au_nk (by decide), au_nk (by decide), f1m 413 (by decide) (by decide)]
    · exact RC_59 r437 (RC_frame (fun a z1 z2 => f3m a (by omega) (by omega) (by omega)) a2)
    · rw [f3m 44 (by decide) (by decide) (by decide)]; exact f144
    · rw [f3m 44 (by decide) (by decide) (by decide)]; exact f145
    · rw [b4 413 (by decide) (by decide)]
      show am_u2 (am_u2 _ _ _ _) _ _ _ 413 44 = _
      rw [au_nk (by decide), au_same]
    · rw [b4 413 (by decide) (by decide)]
      show am_u2 (am_u2 _ _ _ _) _ _ _ 413 45 = _
      rw [au_same]
      congr 1
      omega
    · have hp := (G.1 i (by omega)).2
      refine RC_59 (fun k hk => ?_) (RC_frame (fun a z1 z2 => by rw [f3m a (by omega) (by omega) (by omega), f1m a (by omega) (by omega)]) (h5 i hi))
      unfold rowAt
      by_cases c1 : i < d - 1
      · rw [if_pos c1, if_pos (by omega), b2 i (by omega) k hk, e59]
      · by_cases c2 : i = d - 1
        · rw [if_neg c1, if_pos c2, if_pos (by omega), r437 k hk, c2]
        · rw [if_neg c1, if_neg c2, if_neg (by omega)]
          by_cases c3 : i = d
          · rw [if_pos c3, c3, (b3 k hk).1, e437]
          · rw [if_neg c3, b2 (i - 1) (by omega) k hk, e59]
    · by_cases c1 : i = d - 1
      · subst c1
        exact WR_59 (fun k hk => by rw [(b3 k hk).1, e437]) W
      · exact WR_59 (fun k hk => by rw [b2 i c1 k hk, e59]) (h6 i hi)
theorem q_redo (h : HI f g b nr hold E lim) (W : WR nr hold (f 437)) (A : IA f g nr hold) : AK f g b nr hold E lim f_X11_redo f_X12_redo := by
  have A0 := A
  obtain ⟨pi, d, a, G, hda, ha, h1, h2, h3, h4, h5, h6⟩ := A
  by_cases c : d = a
  · subst c
    refine AK.same (v := 0) h W A0 ?_ ?_
    · unfold f_X11_redo f_X0_stepOn
      rw [bnd_eq, bnd_eq]
      simp only [h1, h2]
      rw [if_neg (by rw [on_lt (by omega) (by omega)]; omega), cal2_some, zrt_0]
    · unfold f_X12_redo
      rw [bnd_eq]
      simp only [h4, Nat.sub_self]
      rw [if_pos (by decide)]
  · have hd1 : Int32.ofNat d < Int32.ofNat a := by rw [on_lt (by omega) (by omega)]; omega
    have hr : RC (46 + 8 * pi (d + 1)) (rw59 f d) f := by
      have := h5 (d + 1) (by omega)
      unfold rowAt at this
      rw [if_neg (by omega), if_neg (by omega), Nat.add_sub_cancel] at this
      exact this
    obtain ⟨f1, a1, a2, a3⟩ := X0_read (f := am_u2 f 44 1 (Int32.ofNat (d + 1))) (g := g) G (i := d + 1) (by omega) (RC_frame (fun a h1 h2 => by rw [u2_ne (by omega)]) hr)
    have f1m : ∀ a, a ≠ 44 → ¬ (27 ≤ a ∧ a < 27 + 8) → f1 a = f a := fun a z1 z2 => by rw [a3 a z2, u2_ne z1]
    have f144 : f1 44 1 = Int32.ofNat (d + 1) := by rw [a3 44 (by decide), au_same]
    have f145 : f1 44 2 = Int32.ofNat a := by rw [a3 44 (by decide), au_nk (by decide)]; exact h2
    obtain ⟨f2, b1, b2, b3, b4⟩ := X12_swapAll (f := f1) (g := g) (d := d) (by omega) (by rw [f1m 413 (by decide) (by decide)]; exact h3)
    let f3 := am_u2 (am_u2 f2 413 44 (Int32.ofNat (d + 1))) 413 45 (Int32.ofNat (a - d - 1))
    have f32 : ∀ a, a ≠ 413 → f3 a = f2 a := fun a z => by show am_u2 (am_u2 _ _ _ _) _ _ _ a = _; rw [u2_ne z, u2_ne z]
    have f3m : ∀ a, a ≠ 413 → a ≠ 437 → a ≠ 439 → f3 a = f1 a := fun a z1 z2 z3 => by rw [f32 a z1, b4 a z2 z3]
    have e437 : f1 437 = f 437 := f1m 437 (by decide) (by decide)
    have e59 : ∀ i k, rw59 f1 i k = rw59 f i k := fun i k => by unfold rw59; rw [f1m 439 (by decide) (by decide)]
    have e3 : ∀ i k, rw59 f3 i k = rw59 f2 i k := fun i k => by unfold rw59; rw [f32 439 (by decide)]
    have r437 : ∀ k, k < 59 → f3 437 k = rw59 f d k := fun k hk => by rw [f32 437 (by decide), (b3 k hk).2, e59]
    have W3 : WR nr hold (f3 437) := WR_59 r437 (h6 d (by omega))
    have f2k : ∀ k, f2 413 k = f 413 k := fun k => by rw [b4 413 (by decide) (by decide), f1m 413 (by decide) (by decide)]
    refine ⟨1, f1, g, f3, ?_, ?_, fun a z1 z2 z3 z4 => f1m a z3 (by omega), fun a z1 z2 z3 z4 => f3m a z1 z3 z4, fun k z1 z2 z3 z4 => ?_, rfl, fun _ _ => rfl, HI_of h (fun a z => ?_) ?_ ?_ ?_ W3.1 W3.2.1, W3, ⟨pi, d + 1, a, G, by omega, ha, ?_, ?_, ?_, ?_, fun i hi => ?_, fun i hi => ?_⟩⟩
    · unfold f_X11_redo f_X0_stepOn
      rw [bnd_eq, bnd_eq]
      simp only [h1, h2]
      rw [if_pos hd1, bnd_eq, ptI_eq, bnd_eq]
      simp only [h1, on_succ, au_same]
      rw [a1, cal_some, cal2_some, zrt_1]
    · unfold f_X12_redo
      have e3' : f2 413 44 = Int32.ofNat d := by rw [f2k]; exact h3
      have e4 : f1 413 45 = Int32.ofNat (a - d) := by rw [f1m 413 (by decide) (by decide)]; exact h4
      have e5 : am_u2 f2 413 44 (Int32.ofNat (d + 1)) 413 45 = Int32.ofNat (a - d) := by rw [au_nk (by decide), f2k]; exact h4
      rw [bnd_eq]
      simp only [e4]
      rw [if_neg (by rw [on_zero (by omega)]; omega), b1, cal_some, bnd_eq, ptI_eq, bnd_eq, ptI_eq]
      simp only [e3', on_succ, e5, on_pred (show 0 < a - d by omega)]
      rfl
    · show am_u2 (am_u2 _ _ _ _) _ _ _ 413 k = _
      rw [au_nk z4, au_nk z3, b4 413 (by decide) (by decide)]
    · rw [f3m a (by omega) (by omega) (by omega), f1m a (by omega) (by omega)]
    · show am_u2 (am_u2 _ _ _ _) _ _ _ 413 32 = _
      rw [au_nk (by decide), au_nk (by decide), f2k]
    · show am_u2 (am_u2 _ _ _ _) _ _ _ 413 42 = _
      rw [au_nk (by decide), au_nk (by decide), f2k]
    · exact RC_59 r437 (RC_frame (fun a z1 z2 => f3m a (by omega) (by omega) (by omega)) a2)
    · rw [f3m 44 (by decide) (by decide) (by decide)]; exact f144
    · rw [f3m 44 (by decide) (by decide) (by decide)]; exact f145
    · show am_u2 (am_u2 _ _ _ _) _ _ _ 413 44 = _
      rw [au_nk (by decide), au_same]
    · show am_u2 (am_u2 _ _ _ _) _ _ _ 413 45 = _
      rw [au_same]
      congr 1
    · have hp := (G.1 i (by omega)).2
      refine RC_59 (fun k hk => ?_) (RC_frame (fun a z1 z2 => by rw [f3m a (by omega) (by omega) (by omega), f1m a (by omega) (by omega)]) (h5 i hi))
      unfold rowAt
      by_cases c1 : i < d
      · rw [if_pos (by omega), if_pos c1, e3, b2 i (by omega) k hk, e59]
      · by_cases c2 : i = d
        · rw [if_pos (by omega), if_neg c1, if_pos c2, c2, e3, (b3 k hk).1, e437]
        · rw [if_neg (by omega), if_neg c1, if_neg c2]
          by_cases c3 : i = d + 1
          · rw [if_pos c3, r437 k hk, c3, Nat.add_sub_cancel]
          · rw [if_neg c3, e3, b2 (i - 1) (by omega) k hk, e59]
    · by_cases c1 : i = d
      · subst c1
        exact WR_59 (fun k hk => by rw [e3, (b3 k hk).1, e437]) W
      · exact WR_59 (fun k hk => by rw [e3, b2 i c1 k hk, e59]) (h6 i hi)
end AU
