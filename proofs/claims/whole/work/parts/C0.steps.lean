/-! every call keeps what holds -/
def INVc (f : Nat → Nat → Int32) (g : (Nat → Nat → Int64) × (Nat → Nat → Option Nat)) (b : Nat) (D : DR) : Prop := DV D ∧ okD D ∧ HM f b D ∧ HI f g b (D.1 0) (holdD D) (valE D.2.2) (Int32.ofNat (D.1 2)) ∧ WR (D.1 0) (holdD D) (f 437) ∧ IA f g (D.1 0) (holdD D) ∧ IB f g (D.1 0) (holdD D) ∧ IM f (D.1 1) b (D.2.1 5) ∧ IT f ∧ IL f ∧ (f 14 6 = f 413 4 ∧ f 14 7 = f 413 5) ∧ f 10 4 = f 418 b ∧ KW g
def ST2 (f : Nat → Nat → Int32) (g : (Nat → Nat → Int64) × (Nat → Nat → Option Nat)) (C M : am_H → Option (Int32 × am_H)) : Prop := ∃ v f1 g1 f2 g2, C (f, g) = some (v, (f1, g1)) ∧ M (f1, g1) = some (v, (f2, g2)) ∧ INV f2 g2
section INS
variable {f : Nat → Nat → Int32} {g : (Nat → Nat → Int64) × (Nat → Nat → Option Nat)} {b : Nat} {D : DR}
theorem HM_fr {f' : Nat → Nat → Int32} (h : ∀ a, a = 422 ∨ a = 428 ∨ a = 429 ∨ a = 432 ∨ a = 433 → f' a = f a) (m : HM f b D) : HM f' b D := by
  obtain ⟨m1, m2⟩ := m
  refine ⟨by rw [h 422 (by decide)]; exact m1, fun z => ?_⟩
  obtain ⟨z1, z2, z3⟩ := m2 z
  exact ⟨by rw [h 428 (by decide)]; exact z1, by rw [h 429 (by decide)]; exact z2, CLm_cong (fun i hi => by rw [h 432 (by decide)]) (fun i hi => by rw [h 433 (by decide)]) z3⟩
theorem IT_fr {f' : Nat → Nat → Int32} (h1 : f' 1 = f 1) (h2 : f' 2 = f 2) (k2 : f' 413 2 = f 413 2) (h414 : f' 414 = f 414) (I : IT f) : IT f' := by
  unfold IT
  rw [h1, h2, k2, h414]
  exact I
theorem INVc_fr {f' : Nat → Nat → Int32} (I : INVc f g b D) (hc : ∀ a, (a = 4 ∨ a = 5 ∨ 10 ≤ a ∧ a ≤ 12 ∨ a = 14 ∨ 27 ≤ a ∧ a < 35 ∨ a = 44 ∨ 46 ≤ a ∧ a < 374 ∨ a = 416 ∨ a = 418 ∨ a = 419 ∨ a = 422 ∨ a = 423 ∨ a = 428 ∨ a = 429 ∨ a = 432 ∨ a = 433 ∨ a = 437 ∨ a = 439) → f' a = f a) (hk : ∀ k, (k = 4 ∨ k = 5 ∨ k = 32 ∨ k = 42 ∨ k = 44 ∨ k = 45) → f' 413 k = f 413 k) (B : IB f' g (D.1 0) (holdD D)) (M : IM f' (D.1 1) b (D.2.1 5)) (T : IT f') (L : IL f') : INVc f' g b D := by
  obtain ⟨hD, hok, hHM, hHI, hW, hA, -, -, -, -, ⟨h6, h7⟩, hu, hK⟩ := I
  exact ⟨hD, hok, HM_fr (fun a z => hc a (by omega)) hHM, HI_frame (fun a z => hc a (by omega)) (hk 32 (by decide)) (hk 42 (by decide)) hHI, by rw [hc 437 (by decide)]; exact hW, IA_fr (hc 44 (by decide)) (hk 44 (by decide)) (hk 45 (by decide)) (fun a z1 z2 => hc a (by omega)) (hc 437 (by decide)) (hc 439 (by decide)) rfl hA, B, M, T, L, ⟨by rw [hc 14 (by decide), hk 4 (by decide)]; exact h6, by rw [hc 14 (by decide), hk 5 (by decide)]; exact h7⟩, by rw [hc 10 (by decide), hc 418 (by decide)]; exact hu, hK⟩
/-- what is only looked at -/
theorem INVc_q {f' : Nat → Nat → Int32} (I : INVc f g b D) (hf : ∀ a, ¬ (a = 13 ∨ 35 ≤ a ∧ a < 44 ∨ a = 411 ∨ a = 413 ∨ a = 436 ∨ a = 438 ∨ a = 446 ∨ a = 447) → f' a = f a) (hk : ∀ k, k ≠ 38 → k ≠ 39 → k ≠ 57 → f' 413 k = f 413 k) : INVc f' g b D := by
  have I' := I
  obtain ⟨-, -, -, -, -, -, hB, hM, hT, hL, -, -, -⟩ := I'
  exact INVc_fr I (fun a z => hf a (by omega)) (fun k z => hk k (by omega) (by omega) (by omega)) (IB_frame (fun a z1 z2 => hf a (by omega)) (hf 448 (by decide)) (hf 449 (by decide)) (fun _ _ => rfl) hB) (IM_fr (by rw [hf 4 (by decide)]) (hf 8 (by decide)) (fun a z1 z2 => hf a (by omega)) (hk 32 (by decide) (by decide) (by decide)) (hk 55 (by decide) (by decide) (by decide)) (hk 56 (by decide) (by decide) (by decide)) (by rw [hf 417 (by decide)]) (fun t _ => by rw [hf 426 (by decide)]) (fun a z1 z2 => hf a (by omega)) hM) (IT_fr (hf 1 (by decide)) (hf 2 (by decide)) (hk 2 (by decide) (by decide) (by decide)) (hf 414 (by decide)) hT) (IL_fr (by rw [hf 0 (by decide)]) (hk 47 (by decide) (by decide) (by decide)) (hf 412 (by decide)) (hf 440 (by decide)) hL)
theorem ST_b {f1 f2 : Nat → Nat → Int32} {v : Int32} {C M : am_H → Option (Int32 × am_H)} (I : INVc f g b D) (h1 : C (f, g) = some (v, (f1, g))) (h2 : M (f1, g) = some (v, (f2, g))) (k1 : ∀ a, a ≠ 13 → f1 a = f a) (k2 : MN f1 f2) : ST2 f g C M := ⟨v, f1, g, f2, g, h1, h2, b, D, INVc_q I (fun a z => by rw [k2.1 a (by omega) (by omega), k1 a (by omega)]) (fun k z1 z2 _ => by rw [k2.2 k z1 z2, k1 413 (by decide)])⟩
theorem ST_ah {C M : am_H → Option (Int32 × am_H)} (I : INVc f g b D) (h : AH f g C M) : ST2 f g C M := by
  obtain ⟨v, f1, f2, h1, h2, k1, k2⟩ := h
  exact ⟨v, f1, g, f2, g, h1, h2, b, D, INVc_q I (fun a z => by rw [k2.1 a (by omega) (by omega) (by omega), k1 a (by omega) (by omega) (by omega)]) (fun k z1 z2 _ => by rw [k2.2 k z1 z2, k1 413 (by decide) (by decide) (by decide)])⟩
theorem ST_mq {C M : am_H → Option (Int32 × am_H)} (I : INVc f g b D) (h : MQ2 f g C M) : ST2 f g C M := by
  obtain ⟨v, f1, f2, h1, h2, k1, k2, k3⟩ := h
  exact ⟨v, f1, g, f2, g, h1, h2, b, D, INVc_q I (fun a z => by rw [k2 a (by omega) (by omega) (by omega), k1 a (by omega)]) (fun k _ _ z => by rw [k3 k z, k1 413 (by decide)])⟩
theorem ST_m1 {C : am_H → Option Int32} {M : am_H → Option (Int32 × am_H)} (I : INVc f g b D) (h : MQ1 f g C M) : ∃ v f2 g2, C (f, g) = some v ∧ M (f, g) = some (v, (f2, g2)) ∧ INV f2 g2 := by
  obtain ⟨v, f2, h1, h2, k2, k3⟩ := h
  exact ⟨v, f2, g, h1, h2, b, D, INVc_q I (fun a z => k2 a (by omega) (by omega) (by omega)) (fun k _ _ z => k3 k z)⟩
theorem ST_lie {f1 f2 : Nat → Nat → Int32} {v : Int32} {C M : am_H → Option (Int32 × am_H)} (I : INVc f g b D) (h1 : C (f, g) = some (v, (f1, g))) (h2 : M (f1, g) = some (v, (f2, g))) (k1 : ∀ a, ¬ (a = 0 ∨ 401 ≤ a ∧ a ≤ 403 ∨ a = 412) → f1 a = f a) (k2 : MR f1 f2) (L : IL f2) : ST2 f g C M := by
  have I' := I
  obtain ⟨-, -, -, -, -, -, hB, hM, hT, -, -, -, -⟩ := I'
  have hf : ∀ a, ¬ (a = 0 ∨ 401 ≤ a ∧ a ≤ 403 ∨ a = 412 ∨ a = 413 ∨ a = 440) → f2 a = f a := fun a z => by rw [k2.1 a (by omega) (by omega), k1 a (by omega)]
  have hk : ∀ k, k ≠ 47 → f2 413 k = f 413 k := fun k z => by rw [k2.2 k z, k1 413 (by decide)]
  exact ⟨v, f1, g, f2, g, h1, h2, b, D, INVc_fr I (fun a z => hf a (by omega)) (fun k z => hk k (by omega)) (IB_frame (fun a z1 z2 => hf a (by omega)) (hf 448 (by decide)) (hf 449 (by decide)) (fun _ _ => rfl) hB) (IM_fr (by rw [hf 4 (by decide)]) (hf 8 (by decide)) (fun a z1 z2 => hf a (by omega)) (hk 32 (by decide)) (hk 55 (by decide)) (hk 56 (by decide)) (by rw [hf 417 (by decide)]) (fun t _ => by rw [hf 426 (by decide)]) (fun a z1 z2 => hf a (by omega)) hM) (IT_fr (hf 1 (by decide)) (hf 2 (by decide)) (hk 2 (by decide)) (hf 414 (by decide)) hT) L⟩
theorem ST_mu {C M : am_H → Option (Int32 × am_H)} (I : INVc f g b D) (h : MU f g (D.1 1) b (D.2.1 5) C M) : ST2 f g C M := by
  have I' := I
  obtain ⟨-, -, -, -, -, -, hB, -, hT, hL, -, -, -⟩ := I'
  obtain ⟨v, f1, f2, h1, h2, k1, k2, k3, M2⟩ := h
  have hf : ∀ a, ¬ (404 ≤ a ∧ a < 411 ∨ a = 413 ∨ 441 ≤ a ∧ a < 446) → f2 a = f a := fun a z => by rw [k2 a (by omega) (by omega), k1 a (by omega)]
  have hk : ∀ k, k ≠ 55 → k ≠ 56 → f2 413 k = f 413 k := fun k z1 z2 => by rw [k3 k z1 z2, k1 413 (by decide)]
  exact ⟨v, f1, g, f2, g, h1, h2, b, D, INVc_fr I (fun a z => hf a (by omega)) (fun k z => hk k (by omega) (by omega)) (IB_frame (fun a z1 z2 => hf a (by omega)) (hf 448 (by decide)) (hf 449 (by decide)) (fun _ _ => rfl) hB) M2 (IT_fr (hf 1 (by decide)) (hf 2 (by decide)) (hk 2 (by decide) (by decide)) (hf 414 (by decide)) hT) (IL_fr (by rw [hf 0 (by decide)]) (hk 47 (by decide) (by decide)) (hf 412 (by decide)) (hf 440 (by decide)) hL)⟩
theorem ST_th {C M : am_H → Option (Int32 × am_H)} (I : INVc f g b D) (h : TH f g C M) : ST2 f g C M := by
  have I' := I
  obtain ⟨-, -, -, -, -, -, hB, hM, -, hL, -, -, -⟩ := I'
  obtain ⟨v, f1, f2, h1, h2, k1, k2, k3, -, T2⟩ := h
  have hf : ∀ a, ¬ (a = 1 ∨ a = 2 ∨ a = 413 ∨ a = 414) → f2 a = f a := fun a z => by rw [k2 a (by omega) (by omega), k1 a (by omega) (by omega)]
  have hk : ∀ k, k ≠ 2 → f2 413 k = f 413 k := fun k z => by rw [k3 k z, k1 413 (by decide) (by decide)]
  exact ⟨v, f1, g, f2, g, h1, h2, b, D, INVc_fr I (fun a z => hf a (by omega)) (fun k z => hk k (by omega)) (IB_frame (fun a z1 z2 => hf a (by omega)) (hf 448 (by decide)) (hf 449 (by decide)) (fun _ _ => rfl) hB) (IM_fr (by rw [hf 4 (by decide)]) (hf 8 (by decide)) (fun a z1 z2 => hf a (by omega)) (hk 32 (by decide)) (hk 55 (by decide)) (hk 56 (by decide)) (by rw [hf 417 (by decide)]) (fun t _ => by rw [hf 426 (by decide)]) (fun a z1 z2 => hf a (by omega)) hM) T2 (IL_fr (by rw [hf 0 (by decide)]) (hk 47 (by decide)) (hf 412 (by decide)) (hf 440 (by decide)) hL)⟩
theorem ST_im {f1 f2 : Nat → Nat → Int32} {v : Int32} {C M : am_H → Option (Int32 × am_H)} (I : INVc f g b D) (h1 : C (f, g) = some (v, (f1, g))) (h2 : M (f1, g) = some (v, (f2, g))) (k1 : ∀ a, ¬ (376 ≤ a ∧ a < 401) → f1 a = f a) (k2 : ∀ a, a ≠ 448 → a ≠ 449 → f2 a = f1 a) (B : IB f2 g (D.1 0) (holdD D)) : ST2 f g C M := by
  have I' := I
  obtain ⟨-, -, -, -, -, -, -, hM, hT, hL, -, -, -⟩ := I'
  have hf : ∀ a, ¬ (376 ≤ a ∧ a < 401 ∨ a = 448 ∨ a = 449) → f2 a = f a := fun a z => by rw [k2 a (by omega) (by omega), k1 a (by omega)]
  have e413 := hf 413 (by decide)
  exact ⟨v, f1, g, f2, g, h1, h2, b, D, INVc_fr I (fun a z => hf a (by omega)) (fun k z => by rw [e413]) B (IM_fr (by rw [hf 4 (by decide)]) (hf 8 (by decide)) (fun a z1 z2 => hf a (by omega)) (by rw [e413]) (by rw [e413]) (by rw [e413]) (by rw [hf 417 (by decide)]) (fun t _ => by rw [hf 426 (by decide)]) (fun a z1 z2 => hf a (by omega)) hM) (IT_fr (hf 1 (by decide)) (hf 2 (by decide)) (by rw [e413]) (hf 414 (by decide)) hT) (IL_fr (by rw [hf 0 (by decide)]) (by rw [e413]) (hf 412 (by decide)) (hf 440 (by decide)) hL)⟩
theorem ST_ak {C M : am_H → Option (Int32 × am_H)} (I : INVc f g b D) (h : AK f g b (D.1 0) (holdD D) (valE D.2.2) (Int32.ofNat (D.1 2)) C M) : ST2 f g C M := by
  obtain ⟨hD, hok, hHM, -, -, -, hB, hM, hT, hL, ⟨h6, h7⟩, hu, hK⟩ := I
  obtain ⟨v, f1, g1, f2, h1, h2, k1, k2, k3, kg1, kg2, hHI, hW, hA⟩ := h
  have hf : ∀ a, ¬ (27 ≤ a ∧ a < 36 ∨ a = 13 ∨ a = 44 ∨ 46 ≤ a ∧ a < 374 ∨ a = 413 ∨ a = 436 ∨ a = 437 ∨ a = 439) → f2 a = f a := fun a z => by rw [k2 a (by omega) (by omega) (by omega) (by omega), k1 a (by omega) (by omega) (by omega) (by omega)]
  have hk : ∀ k, k ≠ 38 → k ≠ 39 → k ≠ 44 → k ≠ 45 → f2 413 k = f 413 k := fun k z1 z2 z3 z4 => by rw [k3 k z1 z2 z3 z4, k1 413 (by decide) (by decide) (by decide) (by decide)]
  refine ⟨v, f1, g1, f2, g1, h1, h2, b, D, hD, hok, HM_fr (fun a z => hf a (by omega)) hHM, hHI, hW, hA, IB_frame (fun a z1 z2 => hf a (by omega)) (hf 448 (by decide)) (hf 449 (by decide)) (fun i _ => by rw [kg2 375 (by decide)]) hB, IM_fr (by rw [hf 4 (by decide)]) (hf 8 (by decide)) (fun a z1 z2 => hf a (by omega)) (hk 32 (by decide) (by decide) (by decide) (by decide)) (hk 55 (by decide) (by decide) (by decide) (by decide)) (hk 56 (by decide) (by decide) (by decide) (by decide)) (by rw [hf 417 (by decide)]) (fun t _ => by rw [hf 426 (by decide)]) (fun a z1 z2 => hf a (by omega)) hM, IT_fr (hf 1 (by decide)) (hf 2 (by decide)) (hk 2 (by decide) (by decide) (by decide) (by decide)) (hf 414 (by decide)) hT, IL_fr (by rw [hf 0 (by decide)]) (hk 47 (by decide) (by decide) (by decide) (by decide)) (hf 412 (by decide)) (hf 440 (by decide)) hL, ⟨by rw [hf 14 (by decide), hk 4 (by decide) (by decide) (by decide) (by decide)]; exact h6, by rw [hf 14 (by decide), hk 5 (by decide) (by decide) (by decide) (by decide)]; exact h7⟩, by rw [hf 10 (by decide), hf 418 (by decide)]; exact hu, fun i hi => ?_⟩
  rw [kg1]
  exact hK i hi
/-! each call -/
theorem i_feed (I : INV f g) (p1 p2 p3 p4 p5 : Int32) : ST2 f g (f_X11_feed p1 p2 p3 p4 p5) (f_X12_feed p1 p2 p3 p4 p5) := by
  obtain ⟨b, D, I⟩ := I
  exact ST_th I (q_feed I.2.2.2.2.2.2.2.2.1 p1 p2 p3 p4 p5)
theorem i_end (I : INV f g) (x : Int32) : ST2 f g (f_X11_end x) (f_X12_end x) := by
  obtain ⟨b, D, I⟩ := I
  exact ST_th I (q_end I.2.2.2.2.2.2.2.2.1 x)
theorem i_house (I : INV f g) : ST2 f g f_X11_house f_X12_house := q_house I
theorem i_brood (I : INV f g) (x y : Int32) : ST2 f g (f_X11_brood x y) (f_X12_brood x y) := by
  obtain ⟨b, D, I⟩ := I
  obtain ⟨R, W, WLh, H, P, M, e, em, -⟩ := I.2.2.2.1
  obtain ⟨v, f1, f2, h1, h2, k1, k2⟩ := q_brood R W P e M em x y
  exact ST_b I h1 h2 k1 k2
theorem i_ripe (I : INV f g) : ST2 f g f_X11_ripe f_X12_ripe := by
  obtain ⟨b, D, I⟩ := I
  obtain ⟨R, W, WLh, H, P, M, e, em, -⟩ := I.2.2.2.1
  obtain ⟨v, f1, f2, h1, h2, k1, k2⟩ := q_ripe R W P e M em
  exact ST_b I h1 h2 k1 k2
theorem i_year (I : INV f g) : ST2 f g f_X11_year f_X12_year := by
  obtain ⟨b, D, I⟩ := I
  exact ST_ak I (q_year I.2.2.2.1 I.2.2.2.2.1 I.2.2.2.2.2.1)
theorem i_carry (I : INV f g) (x y : Int32) : ST2 f g (f_X11_carry x y) (f_X12_carry x y) := by
  obtain ⟨b, D, I⟩ := I
  exact ST_ak I (q_carry I.2.2.2.1 I.2.2.2.2.1 I.2.2.2.2.2.1 x y)
theorem i_tell (I : INV f g) (x : Int32) : ST2 f g (f_X11_tell x) (f_X12_tell x) := by
  obtain ⟨b, D, I⟩ := I
  exact ST_ak I (q_tell I.2.2.2.1 I.2.2.2.2.1 I.2.2.2.2.2.1 x)
theorem i_lose (I : INV f g) (x : Int32) : ST2 f g (f_X11_lose x) (f_X12_lose x) := by
  obtain ⟨b, D, I⟩ := I
  exact ST_ak I (q_lose I.2.2.2.1 I.2.2.2.2.1 I.2.2.2.2.2.1 x)
theorem i_undo (I : INV f g) : ST2 f g f_X11_undo f_X12_undo := by
  obtain ⟨b, D, I⟩ := I
  exact ST_ak I (q_undo I.2.2.2.1 I.2.2.2.2.1 I.2.2.2.2.2.1)
theorem i_redo (I : INV f g) : ST2 f g f_X11_redo f_X12_redo := by
  obtain ⟨b, D, I⟩ := I
  exact ST_ak I (q_redo I.2.2.2.1 I.2.2.2.2.1 I.2.2.2.2.2.1)
theorem i_back (I : INV f g) (x : Int32) : ST2 f g (f_X11_back x) (f_X12_back x) := by
  obtain ⟨b, D, I⟩ := I
  exact ST_ak I (q_back I.2.2.2.1 I.2.2.2.2.1 I.2.2.2.2.2.1 I.2.2.2.2.2.2.1 x)
theorem i_image (I : INV f g) (x : Int32) : ST2 f g (f_X11_image x) (f_X12_image x) := by
  obtain ⟨b, D, I⟩ := I
  obtain ⟨v, f1, f2, h1, h2, k1, k2, B⟩ := q_image I.2.2.2.1 I.2.2.2.2.1 I.2.2.2.2.2.2.1 x
  exact ST_im I h1 h2 k1 k2 B
theorem i_will (I : INV f g) (x y z : Int32) : ST2 f g (f_X11_will x y z) (f_X12_will x y z) := by
  obtain ⟨b, D, I⟩ := I
  exact ST_ah I (q_will I.2.2.2.1 x y z)
theorem i_alive (I : INV f g) (x : Int32) : ST2 f g (f_X11_alive x) (f_X12_alive x) := by
  obtain ⟨b, D, I⟩ := I
  exact ST_ah I (q_alive I.2.2.2.1 x)
theorem i_fading (I : INV f g) (x : Int32) : ST2 f g (f_X11_fading x) (f_X12_fading x) := by
  obtain ⟨b, D, I⟩ := I
  exact ST_ah I (q_fading I.2.2.2.1 x)
theorem i_law (I : INV f g) (x y : Int32) : ST2 f g (f_X11_law x y) (f_X12_law x y) := by
  obtain ⟨b, D, I⟩ := I
  exact ST_ah I (q_law I.2.2.2.1 x y)
theorem i_gone (I : INV f g) (x : Int32) : ST2 f g (f_X11_gone x) (f_X12_gone x) := by
  obtain ⟨b, D, I⟩ := I
  exact ST_ah I (q_gone I.2.2.2.1 x)
theorem i_best (I : INV f g) (x y : Int32) : ST2 f g (f_X11_best x y) (f_X12_best x y) := by
  obtain ⟨b, D, I⟩ := I
  exact ST_ah I (q_best I.2.2.2.1 x y)
theorem i_pack (I : INV f g) : ST2 f g f_X11_pack f_X12_pack := by
  obtain ⟨b, D, I⟩ := I
  obtain ⟨R, W, WLh, H, P, M, -⟩ := I.2.2.2.1
  obtain ⟨v, f1, f2, h1, h2, k1, k2, L⟩ := q_pack H R W P M
  exact ST_lie I h1 h2 (fun a z => k1 a (by omega) (by omega) (by omega) (by omega)) k2 L
theorem i_rivals (I : INV f g) (x y : Int32) : ST2 f g (f_X11_rivals x y) (f_X12_rivals x y) := by
  obtain ⟨b, D, I⟩ := I
  obtain ⟨R, W, WLh, H, P, M, -⟩ := I.2.2.2.1
  obtain ⟨v, f1, f2, h1, h2, k1, k2, L⟩ := q_rivals H R W WLh P M x y
  exact ST_lie I h1 h2 (fun a z => k1 a (by omega) (by omega) (by omega) (by omega)) k2 L
theorem i_held (I : INV f g) (x y z : Int32) (hz : z = 0 ∨ z = 1) : ST2 f g (f_X11_held x y z) (f_X12_held x y z) := by
  obtain ⟨b, D, I⟩ := I
  exact ST_mu I (q_held I.2.2.2.2.2.2.2.1 x y z hz)
theorem i_untell (I : INV f g) (x : Int32) : ST2 f g (f_X11_untell x) (f_X12_untell x) := by
  obtain ⟨b, D, I⟩ := I
  exact ST_mu I (q_untell I.2.2.2.2.2.2.2.1 x)
theorem i_later (I : INV f g) (x : Int32) : ST2 f g (f_X11_later x) (f_X12_later x) := by
  obtain ⟨b, D, I⟩ := I
  exact ST_mu I (q_later I.2.2.2.2.2.2.2.1 x)
theorem i_ask (I : INV f g) (x y : Int32) : ST2 f g (f_X11_ask x y) (f_X12_ask x y) := by
  obtain ⟨b, D, I⟩ := I
  obtain ⟨c, hM⟩ := I.2.2.2.2.2.2.2.1
  exact ST_mq I (q_ask hM x y)
theorem i_fits (I : INV f g) (x : Int32) : ∃ v f2 g2, f_X11_fits x (f, g) = some v ∧ f_X12_fits x (f, g) = some (v, (f2, g2)) ∧ INV f2 g2 := by
  obtain ⟨b, D, I⟩ := I
  obtain ⟨c, hM⟩ := I.2.2.2.2.2.2.2.1
  exact ST_m1 I (q_fits hM x)
theorem i_sure (I : INV f g) (x y : Int32) : ∃ v f2 g2, f_X11_sure x y (f, g) = some v ∧ f_X12_sure x y (f, g) = some (v, (f2, g2)) ∧ INV f2 g2 := by
  obtain ⟨b, D, I⟩ := I
  obtain ⟨c, hM⟩ := I.2.2.2.2.2.2.2.1
  exact ST_m1 I (q_sure hM x y)
end INS
