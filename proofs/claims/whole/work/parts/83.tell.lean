/-! tell, year -/
theorem WL_16 {nr : Nat} {hold q q' : Nat → Int32} (h : ∀ k, k < 16 → q' k = q k) (L : WL nr hold q) : WL nr hold q' := fun r hr => by
  have : sum8 (vol q' r) = sum8 (vol q r) := sum8_eq fun k hk => by
    unfold vol qIn
    rw [h k (by omega), h (8 + k) (by omega)]
  rw [this]; exact L r hr
theorem lt1_iff {x : Int32} (h : 0 ≤ x.toInt) : x < 1 ↔ x = 0 := by
  rw [Int32.lt_iff_toInt_lt, ti_zero, ti_1]; omega
theorem lt9_iff {x : Int32} (h : x.toInt ≤ 9) : x < 9 ↔ ¬ x = 9 := by
  rw [Int32.lt_iff_toInt_lt, ← Int32.toInt_inj, show (9 : Int32).toInt = 9 from rfl]; omega
theorem lt999_iff {x : Int32} (h : x.toInt ≤ 999) : x < 999 ↔ ¬ x = 999 := by
  rw [Int32.lt_iff_toInt_lt, ← Int32.toInt_inj, show (999 : Int32).toInt = 999 from rfl]; omega
section AP
variable {f : Nat → Nat → Int32} {g : (Nat → Nat → Int64) × (Nat → Nat → Option Nat)} {b nr : Nat} {hold : Nat → Int32} {E : EV} {lim : Int32}
theorem q_tell (h : HI f g b nr hold E lim) (W : WR nr hold (f 437)) (A : IA f g nr hold) (x : Int32) : AK f g b nr hold E lim (f_X11_tell x) (f_X12_tell x) := by
  have R := h.1
  have one : ¬ (1 : Int32) = 0 := by decide
  by_cases h1 : hs (f 437) x = true
  · obtain ⟨t, ht, rfl, t0⟩ := hs_ex h1
    have b56 := W.2.2.1
    have b24 := (W.1 t ht).2.2.1
    by_cases c1 : f 437 56 = 0
    · refine AK.same (v := -1) h W A ?_ ?_
      · unfold f_X11_tell
        rw [X7_has (h := (f, g)) R, cal_some, if_pos h1, if_neg one, bnd_eq]
        simp only
        rw [R.2.1, if_pos ((lt1_iff b56.1).mpr c1)]
      · unfold f_X12_tell
        rw [X12_isThere, cal_some, show (56 : Int32) = Int32.ofNat 56 from rfl, rdAk (by decide)]
        simp only
        rw [if_pos h1, if_neg one, if_pos c1]
    · by_cases c2 : f 437 (24 + t) = 9
      · refine AK.same (v := -1) h W A ?_ ?_
        · unfold f_X11_tell
          rw [X7_has (h := (f, g)) R, cal_some, if_pos h1, if_neg one, bnd_eq]
          simp only
          rw [R.2.1, if_neg (fun z => c1 ((lt1_iff b56.1).mp z)), rdS4 (h := (f, g)) R ht, if_neg (fun z => (lt9_iff b24.2).mp z c2)]
        · unfold f_X12_tell
          rw [X12_isThere, cal_some, show (56 : Int32) = Int32.ofNat 56 from rfl, rdAk (by decide), rdA24 ht]
          simp only
          rw [if_pos h1, if_neg one, if_neg c1, if_pos c2]
      · have e56 : (f 437 56 - 1).toInt = (f 437 56).toInt - 1 := ti_sub (by rw [ti_1]; omega) (by rw [ti_1]; omega)
        have e24 : (f 437 (24 + t) + 1).toInt = (f 437 (24 + t)).toInt + 1 := ti_add (by rw [ti_1]; omega) (by rw [ti_1]; omega)
        have p56 : 1 ≤ (f 437 56).toInt := by
          have : ¬ (f 437 56).toInt = 0 := fun z => c1 (ti_zero.mpr z)
          omega
        have p24 : (f 437 (24 + t)).toInt ≤ 8 := by
          have : ¬ (f 437 (24 + t)).toInt = 9 := fun z => c2 (by rw [← Int32.toInt_inj]; exact z)
          omega
        have k24 : st (f 437) 56 (f 437 56 - 1) (24 + t) = f 437 (24 + t) := st_ne (by omega)
        have k0 : st (f 437) 56 (f 437 56 - 1) t = f 437 t := st_ne (by omega)
        have R1 : RC 27 (st (f 437) 56 (f 437 56 - 1)) (am_u2 f 27 8 (f 437 56 - 1)) := RC_n R (j := 0) (by decide)
        have R2 := RC_w4 (v := f 437 (24 + t) + 1) R1 ht
        have W' : WR nr hold (st (st (f 437) 56 (f 437 56 - 1)) (24 + t) (f 437 (24 + t) + 1)) := by
          refine ⟨WQ_w4 (WQ_n W.1 (by decide)) ht (by rw [k0]; exact t0) (by rw [e24]; omega), WL_16 (fun k hk => by rw [st_ne (by omega), st_ne (by omega)]) W.2.1, ?_, ?_⟩
          · rw [st_ne (by omega), st_same, e56]; omega
          · rw [st_ne (by omega), st_ne (by omega)]; exact W.2.2.2
        refine act_of (v := f 437 (24 + t) + 1) h W A ((CK.au (a := 27) (k := 8) (v := f 437 56 - 1) (Or.inl ⟨by decide, by decide⟩)).trans (CK.au (a := 27 + 4) (k := t) (Or.inl ⟨by decide, by decide⟩))) R2 W' (fun f2 g2 hk hf => ?_) (fun f2 g2 f3 hk hf2 q3 _ h3 h413 => ?_)
        · unfold f_X11_tell
          rw [X7_has (h := (f, g)) R, cal_some, if_pos h1, if_neg one, bnd_eq]
          simp only
          rw [R.2.1, if_neg (fun z => c1 ((lt1_iff b56.1).mp z)), rdS4 (h := (f, g)) R ht, if_pos ((lt9_iff b24.2).mpr c2), bnd_eq, ptI_eq, rdS4 (h := (am_u2 f 27 8 (f 437 56 - 1), g)) R1 ht, k24, wrI_i8 ht]
          have hk' : f_X0_keep 27 (am_u2 (am_u2 f 27 8 (f 437 56 - 1), g).1 (27 + 4) t (f 437 (24 + t) + 1), (am_u2 f 27 8 (f 437 56 - 1), g).2) = some (f2, g2) := hk
          rw [hk', cal_some]
          have R3 : RC 27 _ (f2, g2).1 := RC_frame (fun a z1 z2 => hf a (by omega) (by omega)) R2
          rw [rdS4 R3 ht, st_same]
        · have q2 : f2 437 = f 437 := hf2 437 (by decide)
          refine ⟨up f3 437 (st (st (f 437) 56 (f 437 56 - 1)) (24 + t) (f 437 (24 + t) + 1)), ?_, fun a z1 z2 z3 => up_ne z1, fun k z1 z2 => by rw [up_ne (by decide)], fun k hk => by rw [up_same]⟩
          unfold f_X12_tell
          rw [X12_isThere, cal_some, show (56 : Int32) = Int32.ofNat 56 from rfl, rdAk (by decide), rdA24 ht]
          simp only [q2]
          rw [if_pos h1, if_neg one, if_neg c1, if_neg c2, hk, cal_some, rdAk (by decide), wrAk (by decide), rdA24 ht, wrA24 ht, rdA24 ht]
          simp only [u2_up, q3, au_same]
          simp only [up_same, k24, up_up]
  · refine AK.same (v := -1) h W A ?_ ?_
    · unfold f_X11_tell
      rw [X7_has (h := (f, g)) R, cal_some, if_neg h1, if_pos rfl]
    · unfold f_X12_tell
      rw [X12_isThere, cal_some]
      simp only
      rw [if_neg h1, if_pos rfl]
theorem q_year (h : HI f g b nr hold E lim) (W : WR nr hold (f 437)) (A : IA f g nr hold) : AK f g b nr hold E lim f_X11_year f_X12_year := by
  have R := h.1
  have H := h.2.2.2.1
  have P := h.2.2.2.2.1
  have e := h.2.2.2.2.2.2.1
  have l9 := h.2.2.2.2.2.2.2.2.2.2.1
  have h8 := h.2.2.2.2.2.2.2.2.1
  have Li := h.lm
  have em := h.2.2.2.2.2.2.2.1
  have M := h.2.2.2.2.2.1
  have b57 := W.2.2.2
  by_cases c1 : f 437 57 = 999
  · refine AK.same (v := -1) h W A ?_ ?_
    · unfold f_X11_year
      rw [bnd_eq]
      simp only
      rw [R.2.2.1, if_neg (fun z => (lt999_iff b57.2).mp z c1)]
    · unfold f_X12_year
      rw [show (57 : Int32) = Int32.ofNat 57 from rfl, rdAk (by decide)]
      simp only
      rw [if_pos c1]
  · obtain ⟨f1, a1, a2, a3, a4, a5⟩ := X10_pass (g := g) (Or.inl rfl) H l9 R W.1 W.2.1 P e
    obtain ⟨W1, L1⟩ := W_pass (E := E) P.2.1 H l9 W.1 W.2.1
    have p57 : (f 437 57).toInt ≤ 998 := by
      have : ¬ (f 437 57).toInt = 999 := fun z => c1 (by rw [← Int32.toInt_inj]; exact z)
      omega
    have e57 : (f 437 57 + 1).toInt = (f 437 57).toInt + 1 := ti_add (by rw [ti_1]; omega) (by rw [ti_1]; omega)
    have W' : WR nr hold (zPass E hold nr lim (f 437)).1 := by
      refine ⟨W1, L1, ?_, ?_⟩
      · rw [pass_k ⟨by decide, by decide⟩, if_neg (by decide)]; exact W.2.2.1
      · rw [pass_k ⟨by decide, by decide⟩, if_pos rfl, e57]; omega
    refine act_of (v := (zPass E hold nr lim (f 437)).2.1) h W A a5 a2 W' (fun f2 g2 hk hf => ?_) (fun f2 g2 f3 hk hf2 q3 _ h3 h413 => ?_)
    · unfold f_X11_year
      rw [bnd_eq]
      simp only
      rw [R.2.2.1, if_pos ((lt999_iff b57.2).mpr c1), bnd_eq]
      simp only [h8]
      rw [a1, cal_some, hk, cal_some, bnd_eq]
      simp only [hf 35 (by decide) (by decide), a3]
    · have q2 : f2 437 = f 437 := hf2 437 (by decide)
      have M3 : MP (f3, g2) b nr hold := by
        unfold MP at M ⊢
        simp only at M ⊢
        rw [h413 32 (by decide) (by decide), h3 416 (by decide) (by decide), h3 423 (by decide) (by decide)]
        exact M
      have Li3 : LM f3 b lim := by
        unfold LM at Li ⊢
        rw [h413 32 (by decide) (by decide), h413 42 (by decide) (by decide), h3 419 (by decide) (by decide)]
        exact Li
      have em3 : EM f3 b nr hold E := fun f'' g i j a1 a2 a3 a4 a5 => em f'' g i j (a1.trans (h3 422 (by decide) (by decide))) (a2.trans (h3 428 (by decide) (by decide))) (a3.trans (h3 429 (by decide) (by decide))) (a4.trans (h3 432 (by decide) (by decide))) (a5.trans (h3 433 (by decide) (by decide)))
      obtain ⟨f4, b1, b2, b3⟩ := X12_goYear (g := g2) H l9 M3 Li3 (by rw [q3]; exact W.1) (by rw [q3]; exact W.2.1) em3
      rw [q3] at b1 b2
      refine ⟨f4, ?_, fun a z1 z2 z3 => b3.1 a z3 z2 z1, b3.2, fun k hk => by rw [b2]⟩
      unfold f_X12_year
      rw [show (57 : Int32) = Int32.ofNat 57 from rfl, rdAk (by decide)]
      simp only [q2]
      rw [if_neg c1, hk, cal_some, b1, cal2_some]
end AP
