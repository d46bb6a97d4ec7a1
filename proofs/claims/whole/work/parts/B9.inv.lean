/-! what holds between two calls; a house is told -/
def KW (g : (Nat → Nat → Int64) × (Nat → Nat → Option Nat)) : Prop := ∀ i, i < 18 → g.1 3 i = Int64.ofNat (kwN.getD i 0)
def holdD (D : DR) : Nat → Int32 := fun r => Int32.ofNat (D.2.1 1 r)
def INV (f : Nat → Nat → Int32) (g : (Nat → Nat → Int64) × (Nat → Nat → Option Nat)) : Prop := ∃ (b : Nat) (D : DR), DV D ∧ okD D ∧ HM f b D ∧ HI f g b (D.1 0) (holdD D) (valE D.2.2) (Int32.ofNat (D.1 2)) ∧ WR (D.1 0) (holdD D) (f 437) ∧ IA f g (D.1 0) (holdD D) ∧ IB f g (D.1 0) (holdD D) ∧ IM f (D.1 1) b (D.2.1 5) ∧ IT f ∧ IL f ∧ (f 14 6 = f 413 4 ∧ f 14 7 = f 413 5) ∧ f 10 4 = f 418 b ∧ KW g
theorem GR_fr {g g' : (Nat → Nat → Int64) × (Nat → Nat → Option Nat)} {pi : Nat → Nat} (h : g'.2 = g.2) (G : GR g pi) : GR g' pi := by
  unfold GR
  rw [h]
  exact G
theorem IA_fr {f f' : Nat → Nat → Int32} {g g' : (Nat → Nat → Int64) × (Nat → Nat → Option Nat)} {nr : Nat} {hold : Nat → Int32} (h44 : f' 44 = f 44) (k44 : f' 413 44 = f 413 44) (k45 : f' 413 45 = f 413 45) (hS : ∀ a, 46 ≤ a → a < 374 → f' a = f a) (h437 : f' 437 = f 437) (h439 : f' 439 = f 439) (hg : g'.2 = g.2) (A : IA f g nr hold) : IA f' g' nr hold := by
  obtain ⟨pi, d, a, G, hda, ha, a1, a2, a3, a4, a5, a6⟩ := A
  have hr : ∀ i, rw59 f' i = rw59 f i := fun i => by unfold rw59; rw [h439]
  have hra : ∀ i, rowAt f' d i = rowAt f d i := fun i => by unfold rowAt; rw [hr, hr, h437]
  refine ⟨pi, d, a, GR_fr hg G, hda, ha, by rw [h44]; exact a1, by rw [h44]; exact a2, by rw [k44]; exact a3, by rw [k45]; exact a4, fun i hi => ?_, fun i hi => by rw [hr]; exact a6 i hi⟩
  have hp := (G.1 i (by omega)).2
  rw [hra]
  exact RC_frame (fun x z1 z2 => hS x (by omega) (by omega)) (a5 i hi)
theorem IM_fr {f f' : Nat → Nat → Int32} {nt b : Nat} {tm : Nat → Nat} (h4 : f' 4 7 = f 4 7) (h8 : f' 8 = f 8) (hc : ∀ a, 404 ≤ a → a < 411 → f' a = f a) (h32 : f' 413 32 = f 413 32) (h55 : f' 413 55 = f 413 55) (h56 : f' 413 56 = f 413 56) (h417 : f' 417 b = f 417 b) (h426 : ∀ t, t < nt → f' 426 (6 * b + t) = f 426 (6 * b + t)) (hm : ∀ a, 441 ≤ a → a < 446 → f' a = f a) (h : IM f nt b tm) : IM f' nt b tm := by
  obtain ⟨c, k1, k2, k3, k4, k5, k6, k7, k8, k9, k10, k11, k12⟩ := h
  refine ⟨c, by rw [h4]; exact k1, k2, k3, by rw [h32]; exact k4, by rw [h417]; exact k5, fun t ht => by rw [h8, h426 t ht]; exact k6 t ht, k7, by rw [hc 404 (by decide) (by decide)]; exact k8, by rw [h55]; exact k9, by rw [hc 404 (by decide) (by decide), h56]; exact k10, by rw [h56]; exact k11, fun i hi => ?_⟩
  have := k12 i hi
  unfold HR at this ⊢
  rw [hc 405 (by decide) (by decide), hc 406 (by decide) (by decide), hc 407 (by decide) (by decide), hc 408 (by decide) (by decide), hc 409 (by decide) (by decide), hc 410 (by decide) (by decide), hm 441 (by decide) (by decide), hm 442 (by decide) (by decide), hm 443 (by decide) (by decide), hm 444 (by decide) (by decide), hm 445 (by decide) (by decide)]
  exact this
theorem IL_fr {f f' : Nat → Nat → Int32} (h0 : f' 0 10 = f 0 10) (h47 : f' 413 47 = f 413 47) (h412 : f' 412 = f 412) (h440 : f' 440 = f 440) (I : IL f) : IL f' := by
  unfold IL
  rw [h0, h47, h412, h440]
  exact I
theorem IT_0 {f : Nat → Nat → Int32} (h1 : f 1 3 = 0) (h2 : f 413 2 = 0) : IT f := ⟨0, by decide, h1, h2, fun i hi => absurd hi (by omega)⟩
section QH
variable {f : Nat → Nat → Int32} {g : (Nat → Nat → Int64) × (Nat → Nat → Option Nat)}
theorem house_bad {B : Nat → Nat} {L : Nat} {e : Nat × Nat} (I : INV f g) (T : TPc f g B L) (h2 : f 413 2 = Int32.ofNat L) (hB : ∀ i, i < L → B i < 256 ∧ f 414 i = if B i < 128 then Int32.ofNat (B i) else Int32.ofNat (B i) - 256) (h : pAll (tk B L) 1600 (tk B L 0) D0 = .inl e) : ∃ v f1 g1 f2 g2, f_X11_house (f, g) = some (v, (f1, g1)) ∧ f_X12_house (f1, g1) = some (v, (f2, g2)) ∧ INV f2 g2 := by
  obtain ⟨b, D, hD, hok, hHM, hHI, hW, hA, hBx, hM, -, hIL, -, hu, hK⟩ := I
  obtain ⟨R, W, WL', H, P, M, EC', -, h48, l1, l9, h419, h42⟩ := hHI
  have hb := M.2.1
  have h32 : f 413 32 = Int32.ofNat b := M.1
  have n4 := hD.1
  have n6 := hD.2.1
  obtain ⟨f1, g1, a1, a2, a3, a4, a5, a6, a7⟩ := X11_bad T h
  have e1 : ∀ a, ¬ (a = 1 ∨ 14 ≤ a ∧ a ≤ 26) → f1 a = f a := fun a z => a5 a (by omega) (by omega)
  have s := X12_house (f := f1) (g := g1) (B := B) (L := L) hb (by rw [e1 413 (by decide)]; exact h32) T.2.1 (by rw [e1 413 (by decide)]; exact h2) (fun i hi => by rw [e1 414 (by decide)]; exact hB i hi)
  rw [h] at s
  obtain ⟨f2, g2, b1, b2, b3, b4, b5, b6, b7, b8, b9, b10, b11, b12⟩ := s
  have hrb : ∀ i, i = b → i ≠ 1 - b := fun i z => by omega
  have e2 : ∀ a, ¬ (a = 1 ∨ 14 ≤ a ∧ a ≤ 26) → ¬ (a = 413 ∨ a = 415 ∨ 416 ≤ a ∧ a ≤ 429 ∨ 432 ≤ a ∧ a ≤ 435) → f2 a = f a := fun a z1 z2 => by rw [b5 a (by omega) (by omega) (by omega) (by omega), e1 a z1]
  have ek : ∀ k, ¬ (2 ≤ k ∧ k ≤ 9) → ¬ (33 ≤ k ∧ k ≤ 37) → f2 413 k = f 413 k := fun k z1 z2 => by rw [b6 k z1 z2, e1 413 (by decide)]
  have er : ∀ a, 416 ≤ a ∧ a ≤ 422 ∨ a = 428 ∨ a = 429 → f2 a b = f a b := fun a z => by rw [b7 a z b (hrb b rfl), e1 a (by omega)]
  have hHM2 : HM f2 b D := by
    obtain ⟨m1, m2⟩ := hHM
    refine ⟨by rw [er 422 (by decide)]; exact m1, fun z => ?_⟩
    obtain ⟨z1, z2, z3⟩ := m2 z
    have hl := hD.2.2.2.2.2.2.2.2.2.1
    exact ⟨by rw [er 428 (by decide)]; exact z1, by rw [er 429 (by decide)]; exact z2, CLm_cong (fun i hi => by rw [(b10 (560 * b + i) (by omega)).1, e1 432 (by decide)]) (fun i hi => by rw [(b10 (560 * b + i) (by omega)).2, e1 433 (by decide)]) z3⟩
  have h437 : f2 437 = f 437 := e2 437 (by decide) (by decide)
  have hg2 : g2.2 = g.2 := b11.trans a6
  refine ⟨-1, f1, g1, f2, g2, a1, b1, b, D, hD, hok, hHM2, ⟨?_, ?_, ?_, H, ?_, ?_, ?_, EM_of hD hok hHM2, ?_, l1, l9, ?_, ?_⟩, ?_, ?_, ?_, ?_, ?_, ?_, ⟨?_, ?_⟩, ?_, ?_⟩
  · rw [h437]; exact RC_frame (fun a z1 z2 => e2 a (by omega) (by omega)) R
  · rw [h437]; exact W
  · rw [h437]; exact WL'
  · exact PC_frame (e2 4 (by decide) (by decide)) (e2 5 (by decide) (by decide)) P
  · obtain ⟨m1, m2, m3, m4, m5⟩ := M
    exact ⟨by show f2 413 32 = _; rw [ek 32 (by decide) (by decide)]; exact m1, m2, by show f2 416 b = _; rw [er 416 (by decide)]; exact m3, m4, fun r hr => by show f2 423 (4 * b + r) = _; rw [b8 (4 * b + r) (by omega), e1 423 (by decide)]; exact m5 r hr⟩
  · exact EC_frame (e2 10 (by decide) (by decide)) (e2 11 (by decide) (by decide)) (e2 12 (by decide) (by decide)) EC'
  · rw [e2 4 (by decide) (by decide)]; exact h48
  · rw [er 419 (by decide)]; exact h419
  · rw [ek 42 (by decide) (by decide)]; exact h42
  · rw [h437]; exact hW
  · exact IA_fr (e2 44 (by decide) (by decide)) (ek 44 (by decide) (by decide)) (ek 45 (by decide) (by decide)) (fun a z1 z2 => e2 a (by omega) (by omega)) h437 (e2 439 (by decide) (by decide)) hg2 hA
  · exact IB_frame (fun a z1 z2 => e2 a (by omega) (by omega)) (e2 448 (by decide) (by decide)) (e2 449 (by decide) (by decide)) (fun i _ => by rw [hg2]) hBx
  · exact IM_fr (by rw [e2 4 (by decide) (by decide)]) (e2 8 (by decide) (by decide)) (fun a z1 z2 => e2 a (by omega) (by omega)) (ek 32 (by decide) (by decide)) (ek 55 (by decide) (by decide)) (ek 56 (by decide) (by decide)) (er 417 (by decide)) (fun t ht => by rw [b9 426 (by decide) (6 * b + t) (by omega), e1 426 (by decide)]) (fun a z1 z2 => e2 a (by omega) (by omega)) hM
  · exact IT_0 (by rw [b5 1 (by decide) (by decide) (by decide) (by decide)]; exact a4) b4
  · exact IL_fr (by rw [e2 0 (by decide) (by decide)]) (ek 47 (by decide) (by decide)) (e2 412 (by decide) (by decide)) (e2 440 (by decide) (by decide)) hIL
  · rw [b5 14 (by decide) (by decide) (by decide) (by decide), a2, b2]
  · rw [b5 14 (by decide) (by decide) (by decide) (by decide), a3, b3]
  · rw [e2 10 (by decide) (by decide), er 418 (by decide)]; exact hu
  · intro i hi
    rw [b12 3 (by decide) (by decide) (by decide), a7 3 (by decide) (by decide) (by decide)]
    exact hK i hi
theorem house_good {B : Nat → Nat} {L : Nat} {t' : TK} {D' : DR} (I : INV f g) (T : TPc f g B L) (h2 : f 413 2 = Int32.ofNat L) (hB : ∀ i, i < L → B i < 256 ∧ f 414 i = if B i < 128 then Int32.ofNat (B i) else Int32.ofNat (B i) - 256) (h : pAll (tk B L) 1600 (tk B L 0) D0 = .inr (t', D')) : ∃ v f1 g1 f2 g2, f_X11_house (f, g) = some (v, (f1, g1)) ∧ f_X12_house (f1, g1) = some (v, (f2, g2)) ∧ INV f2 g2 := by
  obtain ⟨b, D, -, -, -, hHI, -, hA, hBx, hM, -, -, -, -, hK⟩ := I
  have M := hHI.2.2.2.2.2.1
  have h42 := hHI.2.2.2.2.2.2.2.2.2.2.2.2
  have hb := M.2.1
  have h32 : f 413 32 = Int32.ofNat b := M.1
  obtain ⟨pi, -, -, G, -⟩ := hA
  obtain ⟨c0, -, -, -, -, -, -, -, -, -, k10, k11, -⟩ := hM
  have hok' : okD D' := okD_all 1600 (tk B L 0) D0 t' D' DV_0 ⟨0, Nat.zero_le _, rfl⟩ okD_0 h
  have hD' : DV D' := (pAll_ok 1600 (tk B L 0) D0 t' D' DV_0 ⟨0, Nat.zero_le _, rfl⟩ (by have := T.2.1; omega) h).1
  obtain ⟨f1, g1, a1, a2, a3, a4, a5, a6, a7, a8, a9, a10, a11, a12, a13, a14, a15, a16⟩ := X11_good T G h hD'
  have s := X12_house (f := f1) (g := g1) (B := B) (L := L) hb (by rw [a14 413 (by decide) (by decide) (by decide) (by decide) (by decide) (by decide) (by decide)]; exact h32) T.2.1 (by rw [a14 413 (by decide) (by decide) (by decide) (by decide) (by decide) (by decide) (by decide)]; exact h2) (fun i hi => by rw [a14 414 (by decide) (by decide) (by decide) (by decide) (by decide) (by decide) (by decide)]; exact hB i hi)
  rw [h] at s
  obtain ⟨f2, g2, b1, ⟨b2, b3⟩, -, b4, b5, b6, b7, b8, b9, b10, b11, b12⟩ := s
  obtain ⟨c1, c2, c3, c4⟩ := b3
  have hrb : 1 - b < 2 := by omega
  obtain ⟨f3, d1, d2, d3, d4, d5, d6, d7, d8, d9⟩ := X12_startAnew (f := am_u2 f2 413 32 (Int32.ofNat (1 - b))) (g := g2) (D := D') hrb au_same hD'.2.1 (by rw [u2_ne (by decide)]; exact c1.2.1) (by rw [u2_ne (by decide)]; exact c1.2.2.2.1) (by rw [u2_ne (by decide)]; exact c1.2.2.2.2.1) (fun i hi => by rw [u2_ne (by decide), u2_ne (by decide), u2_ne (by decide), u2_ne (by decide)]; exact (c3 i hi).2)
  have r1 : ∀ a, a ≠ 413 → a ≠ 437 → a ≠ 449 → f3 a = f2 a := fun a z1 z2 z3 => by rw [d8 a z1 z2 z3, u2_ne z1]
  have r2 : ∀ a, a ≠ 437 → a ≠ 449 → ¬ (a = 413 ∨ a = 415 ∨ 416 ≤ a ∧ a ≤ 429 ∨ 432 ≤ a ∧ a ≤ 435) → f3 a = f1 a := fun a z1 z2 z3 => by rw [r1 a (by omega) z1 z2, b5 a (by omega) (by omega) (by omega) (by omega)]
  have rk : ∀ k, k ≠ 44 → k ≠ 45 → k ≠ 55 → k ≠ 47 → k ≠ 32 → f3 413 k = f2 413 k := fun k z1 z2 z3 z4 z5 => by rw [d9 k z1 z2 z3 z4, au_nk z5]
  have rk1 : ∀ k, k ≠ 44 → k ≠ 45 → k ≠ 55 → k ≠ 47 → k ≠ 32 → ¬ (2 ≤ k ∧ k ≤ 9) → ¬ (33 ≤ k ∧ k ≤ 37) → f3 413 k = f 413 k := fun k z1 z2 z3 z4 z5 z6 z7 => by rw [rk k z1 z2 z3 z4 z5, b6 k z6 z7, a14 413 (by decide) (by decide) (by decide) (by decide) (by decide) (by decide) (by decide)]
  have k32 : f3 413 32 = Int32.ofNat (1 - b) := by rw [d9 32 (by decide) (by decide) (by decide) (by decide), au_same]
  have w59 := QP_eq (wq_QP D') d2
  obtain ⟨⟨p6, p7, p8, p9, p10⟩, pr, pt, pl, pu, pc⟩ := a2
  have hHM2 : HM f3 (1 - b) D' := by
    refine ⟨by rw [r1 422 (by decide) (by decide) (by decide)]; exact c1.2.2.2.2.2, fun z => ?_⟩
    unfold MDr at c4
    rw [if_pos z] at c4
    exact ⟨by rw [r1 428 (by decide) (by decide) (by decide)]; exact c4.1, by rw [r1 429 (by decide) (by decide) (by decide)]; exact c4.2.1, CLm_cong (fun i hi => by rw [r1 432 (by decide) (by decide) (by decide)]) (fun i hi => by rw [r1 433 (by decide) (by decide) (by decide)]) c4.2.2.1⟩
  have hg2 : g2.2 = g.2 := b11.trans a15
  have W3 := WQ_told hD' d2
  have L3 := WL_told (hold := holdD D') hD' d2 (fun _ _ => rfl)
  have i9 := hD'.2.2.1
  have hv : f_X12_house (f1, g1) = some (Int32.ofNat (D'.1 1), (f3, g2)) := by
    rw [b1, d1, cal_some, bndv k32, rdIv hrb (by decide) (show f3 417 (1 - b) = Int32.ofNat (D'.1 1) by rw [r1 417 (by decide) (by decide) (by decide)]; exact c1.2.1)]
  refine ⟨Int32.ofNat (D'.1 1), f1, g1, f3, g2, a1, hv, 1 - b, D', hD', hok', hHM2, ⟨?_, W3, L3, HO_told hD' (fun _ _ => rfl), ?_, ?_, ?_, EM_of hD' hok' hHM2, ?_, ?_, ?_, ?_, ?_⟩, ?_, ?_, ?_, ?_, ?_, ?_, ⟨?_, ?_⟩, ?_, ?_⟩
  · exact RC_59 w59 (RC_frame (fun a z1 z2 => r2 a (by omega) (by omega) (by omega)) a3)
  · exact ⟨by show f3 4 6 = _; rw [r2 4 (by decide) (by decide) (by decide)]; exact p6, hD'.1, fun r hr => by show f3 5 r = _; rw [r2 5 (by decide) (by decide) (by decide)]; exact pr r hr⟩
  · exact ⟨k32, hrb, by show f3 416 _ = _; rw [r1 416 (by decide) (by decide) (by decide)]; exact c1.1, hD'.1, fun r hr => by show f3 423 _ = _; rw [r1 423 (by decide) (by decide) (by decide)]; exact (c2 r hr).2⟩
  · exact EC_of hD'.2.2.2.2.2.2.2.2.2.1 (by rw [r2 10 (by decide) (by decide) (by decide)]; exact pl) (by rw [r2 11 (by decide) (by decide) (by decide), r2 12 (by decide) (by decide) (by decide)]; exact pc) hok'.1 hok'.2
  · rw [r2 4 (by decide) (by decide) (by decide)]; exact p8
  · rw [on_toInt (by omega)]; omega
  · rw [on_toInt (by omega)]; omega
  · rw [r1 419 (by decide) (by decide) (by decide)]; exact c1.2.2.1
  · rw [rk1 42 (by decide) (by decide) (by decide) (by decide) (by decide) (by decide) (by decide)]; exact h42
  · have h99 := hD'.2.2.2.1
    refine ⟨W3, L3, ?_, ?_⟩
    · rw [d2.2.1, on_toInt (by omega)]; omega
    · rw [d2.2.2.1]; decide
  · exact IA_begin (GR_fr hg2 G) (by rw [r2 44 (by decide) (by decide) (by decide)]; exact a5) (by rw [r2 44 (by decide) (by decide) (by decide)]; exact a6) d3 d4 (RC_59 w59 (RC_frame (fun a z1 z2 => r2 a (by have := (G.1 0 (by decide)).2; omega) (by have := (G.1 0 (by decide)).2; omega) (by have := (G.1 0 (by decide)).2; omega)) a4))
  · intro i hi
    refine ⟨by rw [hg2]; exact (hBx i hi).1, ?_, Or.inl (d7 i hi)⟩
    rw [r2 376 (by decide) (by decide) (by decide), a7 i hi, d7 i hi]
  · refine ⟨0, by rw [r2 4 (by decide) (by decide) (by decide)]; exact p7, hD'.2.1, hrb, k32, by rw [r1 417 (by decide) (by decide) (by decide)]; exact c1.2.1, fun t ht => ⟨(hD'.2.2.2.2.2.2.2.1 t ht).2.2.2.1, by rw [r2 8 (by decide) (by decide) (by decide)]; exact (pt t ht).2.2.1, by rw [r1 426 (by decide) (by decide) (by decide)]; exact (c3 t ht).2.2.2.1⟩, by decide, by rw [r2 404 (by decide) (by decide) (by decide)]; exact a8, d5, ?_, ?_, fun i hi => absurd hi (by omega)⟩
    · rw [r2 404 (by decide) (by decide) (by decide), a13 9 (by decide), rk1 56 (by decide) (by decide) (by decide) (by decide) (by decide) (by decide) (by decide)]; exact k10
    · rw [rk1 56 (by decide) (by decide) (by decide) (by decide) (by decide) (by decide) (by decide)]; exact k11
  · exact IT_0 (by rw [r2 1 (by decide) (by decide) (by decide)]; exact a12) (by rw [rk 2 (by decide) (by decide) (by decide) (by decide) (by decide)]; exact b4)
  · exact ⟨0, by decide, by rw [r2 0 (by decide) (by decide) (by decide)]; exact a9, d6, fun i hi => absurd hi (by omega)⟩
  · rw [r2 14 (by decide) (by decide) (by decide), a10, rk 4 (by decide) (by decide) (by decide) (by decide) (by decide)]; exact b2.2.2.2.2.1.1.symm
  · rw [r2 14 (by decide) (by decide) (by decide), a11, rk 5 (by decide) (by decide) (by decide) (by decide) (by decide)]; exact b2.2.2.2.2.1.2.symm
  · rw [r2 10 (by decide) (by decide) (by decide), pu, r1 418 (by decide) (by decide) (by decide)]
    unfold MDr at c4
    by_cases z : D'.1 5 = 1
    · rw [if_pos z] at c4; exact c4.2.2.2.1.symm
    · rw [if_neg z] at c4
      have z0 : D'.1 5 = 0 := by have := hD'.2.2.2.2.2.1.1; omega
      rw [(hD'.2.2.2.2.2.2.2.2.2.2 z0).1, c4.1]
      rfl
  · intro i hi
    rw [b12 3 (by decide) (by decide) (by decide), a16 3 (by decide) (by decide) (by decide)]
    exact hK i hi
theorem q_house (I : INV f g) : ∃ v f1 g1 f2 g2, f_X11_house (f, g) = some (v, (f1, g1)) ∧ f_X12_house (f1, g1) = some (v, (f2, g2)) ∧ INV f2 g2 := by
  have I' := I
  obtain ⟨b, D, -, -, -, -, -, -, -, -, ⟨L, hL, t1, t2, t3⟩, -, -, -, hK⟩ := I'
  have hB : ∀ i, i < L → (f 2 i).toNatClampNeg < 256 ∧ f 2 i = Int32.ofNat (f 2 i).toNatClampNeg ∧ f 414 i = if (f 2 i).toNatClampNeg < 128 then Int32.ofNat (f 2 i).toNatClampNeg else Int32.ofNat (f 2 i).toNatClampNeg - 256 := fun i hi => by
    obtain ⟨v, hv, e1, e2⟩ := t3 i hi
    have : (f 2 i).toNatClampNeg = v := by rw [e1, on_nat (by omega)]
    rw [this]
    exact ⟨hv, e1, e2⟩
  have T : TPc f g (fun i => (f 2 i).toNatClampNeg) L := ⟨t1, hL, fun i hi => (hB i hi).2.1, fun i hi => (hB i hi).1, hK⟩
  rcases h : pAll (tk (fun i => (f 2 i).toNatClampNeg) L) 1600 (tk (fun i => (f 2 i).toNatClampNeg) L 0) D0 with e | ⟨t', D'⟩
  · exact house_bad I T t2 (fun i hi => ⟨(hB i hi).1, (hB i hi).2.2⟩) h
  · exact house_good I T t2 (fun i hi => ⟨(hB i hi).1, (hB i hi).2.2⟩) h
end QH
