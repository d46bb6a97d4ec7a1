/-! the model's house -/
theorem upw {f : Nat → Nat → Int32} {a k : Nat} {q : Nat → Int32} {v : Int32} : am_u2 (up f a q) a k v = up f a (st q k v) := by
  rw [u2_up, up_same, up_up]
theorem by_v (v : Nat) (hv : v < 256) : vp_nar .byte (if v < 128 then Int32.ofNat v else Int32.ofNat v - 256) &&& 255 = Int32.ofNat v := by
  have z : ∀ v : Fin 256, (if v.val < 128 then Int32.ofNat v.val else Int32.ofNat v.val - 256).toInt8.toInt32 &&& 255 = Int32.ofNat v.val := by decide +kernel
  rw [vp_nar_byte]
  exact z ⟨v, hv⟩
theorem one_sub {b : Nat} (hb : b < 2) : (1 : Int32) - Int32.ofNat b = Int32.ofNat (1 - b) := by
  match b, hb with
  | 0, _ => rfl
  | 1, _ => rfl
section LH
variable {f : Nat → Nat → Int32} {g : (Nat → Nat → Int64) × (Nat → Nat → Option Nat)} {B : Nat → Nat} {L rb : Nat} {D : DR} {t : TK} {e : Nat × Nat}
theorem mh_text {Lt : Nat} (hL : Lt ≤ 1600) (h3 : f 413 3 = Int32.ofNat Lt) {K : am_H → Option (Int32 × am_H)} : ∀ m n i (w : Nat → Int32), i + m = Lt → ∃ w', lp_X12_house_20 K (n + m + 1) (Int32.ofNat i) (up f 415 w, g) = K (up f 415 w', g) ∧ (∀ j, j < i → w' j = w j) ∧ ∀ j, i ≤ j → j < Lt → w' j = vp_nar .byte (f 414 j) := by
  have u3 : ∀ w : Nat → Int32, up f 415 w 413 3 = Int32.ofNat Lt := fun w => by rw [up_ne (by decide)]; exact h3
  intro m
  induction m with
  | zero =>
    intro n i w hi
    rw [lp_X12_house_20, bndv (u3 w), if_neg (by rw [on_lt (by omega) (by omega)]; omega)]
    exact ⟨w, rfl, fun _ _ => rfl, fun j h1 h2 => absurd h2 (by omega)⟩
  | succ m ih =>
    intro n i w hi
    rw [show n + (m + 1) + 1 = (n + m + 1) + 1 by omega, lp_X12_house_20, bndv (u3 w), if_pos (by rw [on_lt (by omega) (by omega)]; omega), rdIv (v := f 414 i) (by omega) (by decide) (by rw [up_ne (by decide)]), wrIp (by omega) (by decide), upw, on_succ]
    obtain ⟨w', a1, a2, a3⟩ := ih n (i + 1) (st w i (vp_nar .byte (f 414 i))) (by omega)
    refine ⟨w', a1, fun j hj => by rw [a2 j (by omega), st_ne (by omega)], fun j h1 h2 => ?_⟩
    by_cases c : j = i
    · rw [c, a2 i (by omega), st_same]
    · exact a3 j (by omega) h2
/-- the other bank, clean -/
def cbF (f : Nat → Nat → Int32) (rb : Nat) : Nat → Nat → Int32 := am_u2 (am_u2 (am_u2 (am_u2 (am_u2 (am_u2 (am_u2 (am_u2 f 416 rb 0) 417 rb 0) 418 rb 0) 419 rb 3) 420 rb 0) 421 rb 0) 422 rb 0) 413 34 (Int32.ofNat (560 * rb))
theorem X12_clearBank (hrb : rb < 2) (h33 : f 413 33 = Int32.ofNat rb) : f_X12_clearBank (f, g) = some (cbF f rb, g) := by
  have s : ∀ (F : Nat → Nat → Int32) (a : Nat) (v : Int32), a ≠ 413 → F 413 33 = Int32.ofNat rb → am_u2 F a rb v 413 33 = Int32.ofNat rb := fun F a v ha h => by rw [u2_ne (Ne.symm ha)]; exact h
  have z1 := s f 416 0 (by decide) h33
  have z2 := s _ 417 0 (by decide) z1
  have z3 := s _ 418 0 (by decide) z2
  have z4 := s _ 419 3 (by decide) z3
  have z5 := s _ 420 0 (by decide) z4
  have z6 := s _ 421 0 (by decide) z5
  have z7 := s _ 422 0 (by decide) z6
  have hm : (560 : Int32) * Int32.ofNat rb = Int32.ofNat (560 * rb) := (Int32.ofNat_mul 560 rb).symm
  unfold f_X12_clearBank
  rw [bndv h33, wrIp hrb (by decide), bndv z1, wrIp hrb (by decide), bndv z2, wrIp hrb (by decide), bndv z3, wrIp hrb (by decide), bndv z4, wrIp hrb (by decide), bndv z5, wrIp hrb (by decide), bndv z6, wrIp hrb (by decide), bndv z7, ptIp, hm]
  rfl
/-- what a house that is told leaves of the model -/
def HFm (rb : Nat) (f f' : Nat → Nat → Int32) (g g' : (Nat → Nat → Int64) × (Nat → Nat → Option Nat)) : Prop := (∀ a, a ≠ 413 → a ≠ 415 → ¬ (416 ≤ a ∧ a ≤ 429) → ¬ (432 ≤ a ∧ a ≤ 435) → f' a = f a) ∧ (∀ k, ¬ (2 ≤ k ∧ k ≤ 9) → ¬ (33 ≤ k ∧ k ≤ 37) → f' 413 k = f 413 k) ∧ (∀ a, 416 ≤ a ∧ a ≤ 422 ∨ a = 428 ∨ a = 429 → ∀ i, i ≠ rb → f' a i = f a i) ∧ (∀ i, ¬ (4 * rb ≤ i ∧ i < 4 * rb + 4) → f' 423 i = f 423 i) ∧ (∀ a, 424 ≤ a ∧ a ≤ 427 → ∀ i, ¬ (6 * rb ≤ i ∧ i < 6 * rb + 6) → f' a i = f a i) ∧ (∀ i, ¬ (560 * rb ≤ i ∧ i < 560 * rb + 560) → f' 432 i = f 432 i ∧ f' 433 i = f 433 i) ∧ g'.2 = g.2 ∧ ∀ a, a ≠ 413 → a ≠ 430 → a ≠ 431 → g'.1 a = g.1 a
theorem HFm_of {f1 f2 : Nat → Nat → Int32} {g1 g2 : (Nat → Nat → Int64) × (Nat → Nat → Option Nat)} (h1 : ∀ a, a ≠ 413 → a ≠ 415 → f1 a = f a) (hk : ∀ k, ¬ (2 ≤ k ∧ k ≤ 9) → ¬ (33 ≤ k ∧ k ≤ 37) → f1 413 k = f 413 k) (hg2 : g1.2 = g.2) (hg : ∀ a, a ≠ 413 → g1.1 a = g.1 a) (h : FRm rb f1 f2 g1 g2) : HFm rb f f2 g g2 := by
  obtain ⟨a1, a2, a3, a4, a5, a6, a7, a8⟩ := h
  refine ⟨fun a z1 z2 z3 z4 => (a1 a z1 z3 z4).trans (h1 a z1 z2), fun k z1 z2 => (a2 k (by omega) (by omega)).trans (hk k z1 z2), fun a z i y => (a3 a z i y).trans (by rw [h1 a (by omega) (by omega)]), fun i z => (a4 i z).trans (by rw [h1 423 (by decide) (by decide)]), fun a z i y => (a5 a z i y).trans (by rw [h1 a (by omega) (by omega)]), fun i z => ⟨(a6 i z).1.trans (by rw [h1 432 (by decide) (by decide)]), (a6 i z).2.trans (by rw [h1 433 (by decide) (by decide)])⟩, a7.trans hg2, fun a z1 z2 z3 => (a8 a z1 z2 z3).trans (hg a z1)⟩
theorem FRm_cb : FRm rb f (cbF f rb) g g := by
  have e : ∀ a, a ≠ 413 → ¬ (416 ≤ a ∧ a ≤ 422) → cbF f rb a = f a := fun a z1 z2 => by
    unfold cbF
    rw [u2_ne (by omega), u2_ne (by omega), u2_ne (by omega), u2_ne (by omega), u2_ne (by omega), u2_ne (by omega), u2_ne (by omega), u2_ne (by omega)]
  have k : ∀ k, k ≠ 34 → cbF f rb 413 k = f 413 k := fun k z => by
    unfold cbF
    rw [au_nk z, u2_ne (by decide), u2_ne (by decide), u2_ne (by decide), u2_ne (by decide), u2_ne (by decide), u2_ne (by decide), u2_ne (by decide)]
  have o : ∀ a i, a ≠ 413 → i ≠ rb → cbF f rb a i = f a i := fun a i z1 z2 => by
    unfold cbF
    rw [u2_ne z1, au_nk z2, au_nk z2, au_nk z2, au_nk z2, au_nk z2, au_nk z2, au_nk z2]
  exact ⟨fun a z1 z2 z3 => e a z1 (by omega), fun j z1 z2 => k j (by omega), fun a z i y => o a i (by omega) y, fun i _ => by rw [e 423 (by decide) (by decide)], fun a z i _ => by rw [e a (by omega) (by omega)], fun i _ => by rw [e 432 (by decide) (by decide), e 433 (by decide) (by decide)]; exact ⟨rfl, rfl⟩, rfl, fun _ _ _ _ => rfl⟩
/-- the model reads the text; what it does then -/
theorem X12_house {b : Nat} (hb : b < 2) (h32 : f 413 32 = Int32.ofNat b) (hL : L ≤ 1600) (h2 : f 413 2 = Int32.ofNat L) (hB : ∀ i, i < L → B i < 256 ∧ f 414 i = if B i < 128 then Int32.ofNat (B i) else Int32.ofNat (B i) - 256) : match pAll (tk B L) 1600 (tk B L 0) D0 with
    | .inl e => ∃ f' g', f_X12_house (f, g) = some (-1, (f', g')) ∧ f' 413 4 = Int32.ofNat e.1 ∧ f' 413 5 = Int32.ofNat e.2 ∧ f' 413 2 = 0 ∧ HFm (1 - b) f f' g g'
    | .inr (t', D') => ∃ f' g', f_X12_house (f, g) = (cal (f_X12_startAnew (am_u2 f' 413 32 (Int32.ofNat (1 - b)), g')) fun h54 => bnd (h54.1 413 32) fun v57 => rdI h54 417 2 v57 fun v58 => some (v58, h54)) ∧ MDT f' g' B L (1 - b) D' t' ∧ DV D' ∧ f' 413 2 = 0 ∧ HFm (1 - b) f f' g g' := by
  have hrb : 1 - b < 2 := by omega
  let F1 := am_u2 (am_u2 (am_u2 f 413 4 0) 413 5 (-1)) 413 3 (Int32.ofNat L)
  have F1a : ∀ a, a ≠ 413 → F1 a = f a := fun a z => by show am_u2 (am_u2 (am_u2 _ _ _ _) _ _ _) _ _ _ a = _; rw [u2_ne z, u2_ne z, u2_ne z]
  have F1k : ∀ k, k ≠ 3 → k ≠ 4 → k ≠ 5 → F1 413 k = f 413 k := fun k z1 z2 z3 => by show am_u2 (am_u2 (am_u2 _ _ _ _) _ _ _) _ _ _ 413 k = _; rw [au_nk z1, au_nk z3, au_nk z2]
  obtain ⟨w, w1, -, w2⟩ := mh_text (f := F1) (g := g) hL au_same (K := fun h16 => ptI h16 413 2 0 fun h18 => ptI h18 413 7 0 fun h21 => bnd (h21.1 413 32) fun v24 => ptI h21 413 33 ((1 : Int32) - v24) fun h25 => cal (f_X12_clearBank h25) fun h29 => cal (f_X12_goOn h29) fun h33 => lp_X12_house_74 (fun h44 => jn_X12_house_95 h44) 4000 h33) L (3999 - L) 0 (F1 415) (by omega)
  rw [up_self, show 3999 - L + L + 1 = 4000 by omega] at w1
  let F2 := am_u2 (am_u2 (am_u2 (up F1 415 w) 413 2 0) 413 7 0) 413 33 (Int32.ofNat (1 - b))
  have F2a : ∀ a, a ≠ 413 → a ≠ 415 → F2 a = f a := fun a z1 z2 => by show am_u2 (am_u2 (am_u2 _ _ _ _) _ _ _) _ _ _ a = _; rw [u2_ne z1, u2_ne z1, u2_ne z1, up_ne z2, F1a a z1]
  have F2k : ∀ k, k ≠ 2 → k ≠ 7 → k ≠ 33 → F2 413 k = F1 413 k := fun k z1 z2 z3 => by show am_u2 (am_u2 (am_u2 _ _ _ _) _ _ _) _ _ _ 413 k = _; rw [au_nk z3, au_nk z2, au_nk z1, up_ne (by decide)]
  have F233 : F2 413 33 = Int32.ofNat (1 - b) := au_same
  have F22 : F2 413 2 = 0 := by show am_u2 (am_u2 (am_u2 _ _ _ _) _ _ _) _ _ _ 413 2 = _; rw [au_nk (by decide), au_nk (by decide), au_same]
  have F27 : F2 413 7 = Int32.ofNat 0 := by show am_u2 (am_u2 (am_u2 _ _ _ _) _ _ _) _ _ _ 413 7 = _; rw [au_nk (by decide), au_same]; rfl
  have F2t : F2 415 = w := by show am_u2 (am_u2 (am_u2 _ _ _ _) _ _ _) _ _ _ 415 = _; rw [u2_ne (by decide), u2_ne (by decide), u2_ne (by decide), up_same]
  have cb := FRm_cb (f := F2) (rb := 1 - b) (g := g)
  have T3 : TPm (cbF F2 (1 - b)) B L := by
    refine ⟨?_, hL, fun i hi => ?_, fun i hi => (hB i hi).1⟩
    · unfold cbF
      rw [au_nk (by decide), u2_ne (by decide), u2_ne (by decide), u2_ne (by decide), u2_ne (by decide), u2_ne (by decide), u2_ne (by decide), u2_ne (by decide), F2k 3 (by decide) (by decide) (by decide)]
      exact au_same
    · rw [cb.1 415 (by decide) (by decide) (by decide), F2t, w2 i (Nat.zero_le _) hi, F1a 414 (by decide), (hB i hi).2]
      exact by_v (B i) (hB i hi).1
  have k3 : ∀ k, k ≠ 34 → cbF F2 (1 - b) 413 k = F2 413 k := fun k z => by
    unfold cbF
    rw [au_nk z, u2_ne (by decide), u2_ne (by decide), u2_ne (by decide), u2_ne (by decide), u2_ne (by decide), u2_ne (by decide), u2_ne (by decide)]
  obtain ⟨f4, g4, d1, d2, d3, d4, d5, d6, d7⟩ := X12_goOn (f := cbF F2 (1 - b)) (g := g) T3 (by rw [k3 7 (by decide)]; exact F27) (Nat.zero_le _)
  have tv : TV B L (tk B L 0) := ⟨0, Nat.zero_le _, rfl⟩
  have k4 : ∀ k, k ≠ 6 → k ≠ 7 → k ≠ 8 → k ≠ 9 → k ≠ 34 → f4 413 k = F2 413 k := fun k z1 z2 z3 z4 z5 => by rw [d5 k z1 z2 z3 z4, k3 k z5]
  have o4 : OK4 f4 := ⟨by rw [k4 4 (by decide) (by decide) (by decide) (by decide) (by decide), F2k 4 (by decide) (by decide) (by decide)]; show am_u2 (am_u2 (am_u2 _ _ _ _) _ _ _) _ _ _ 413 4 = _; rw [au_nk (by decide), au_nk (by decide), au_same], by rw [k4 5 (by decide) (by decide) (by decide) (by decide) (by decide), F2k 5 (by decide) (by decide) (by decide)]; show am_u2 (am_u2 (am_u2 _ _ _ _) _ _ _) _ _ _ 413 5 = _; rw [au_nk (by decide), au_same]⟩
  have G4 : MG f4 g4 B L (1 - b) (tk B L 0) := ⟨d2, d3, hrb, by rw [k4 33 (by decide) (by decide) (by decide) (by decide) (by decide)]; exact F233, o4, tv⟩
  have cbv : ∀ a v, (a = 416 ∧ v = 0 ∨ a = 417 ∧ v = 0 ∨ a = 418 ∧ v = 0 ∨ a = 419 ∧ v = 3 ∨ a = 420 ∧ v = 0 ∨ a = 421 ∧ v = 0 ∨ a = 422 ∧ v = (0 : Int32)) → f4 a (1 - b) = v := fun a v z => by
    rw [d4 a (by omega)]
    unfold cbF
    rcases z with ⟨rfl, rfl⟩ | ⟨rfl, rfl⟩ | ⟨rfl, rfl⟩ | ⟨rfl, rfl⟩ | ⟨rfl, rfl⟩ | ⟨rfl, rfl⟩ | ⟨rfl, rfl⟩ <;> simp [am_u2]
  have h5 : MDT f4 g4 B L (1 - b) D0 (tk B L 0) := by
    refine ⟨G4, ⟨cbv 416 0 (by decide), cbv 417 0 (by decide), cbv 419 3 (by decide), cbv 420 0 (by decide), cbv 421 0 (by decide), cbv 422 0 (by decide)⟩, fun i hi => absurd hi (by simp [D0]), fun i hi => absurd hi (by simp [D0]), ?_⟩
    unfold MDr
    rw [if_neg (by decide)]
    refine ⟨cbv 418 0 (by decide), ?_⟩
    rw [d5 34 (by decide) (by decide) (by decide) (by decide)]
    exact au_same
  have e1b := one_sub hb
  have hh : f_X12_house (f, g) = lp_X12_house_74 (fun h44 => jn_X12_house_95 h44) 4000 (f4, g4) := by
    unfold f_X12_house
    rw [ptIp, ptIp, bndv (show am_u2 (am_u2 f 413 4 0) 413 5 (-1) 413 2 = Int32.ofNat L by rw [au_nk (by decide), au_nk (by decide)]; exact h2), ptIp]
    have w1' := w1
    have e0 : Int32.ofNat 0 = 0 := rfl
    rw [e0] at w1'
    refine Eq.trans w1' ?_
    rw [ptIp, ptIp, bndv (show am_u2 (am_u2 (up F1 415 w) 413 2 0) 413 7 0 413 32 = Int32.ofNat b by rw [au_nk (by decide), au_nk (by decide), up_ne (by decide), F1k 32 (by decide) (by decide) (by decide)]; exact h32), ptIp, e1b]
    have cbe : f_X12_clearBank (am_u2 (am_u2 (am_u2 (up F1 415 w) 413 2 0) 413 7 0) 413 33 (Int32.ofNat (1 - b)), g) = some (cbF F2 (1 - b), g) := X12_clearBank hrb F233
    rw [cbe, cal_some, d1, cal_some]
  have frm : FRm (1 - b) (cbF F2 (1 - b)) f4 g g4 := ⟨fun a z1 _ _ => d4 a z1, fun k z1 _ => d5 k (by omega) (by omega) (by omega) (by omega), fun a z i _ => by rw [d4 a (by omega)], fun i _ => by rw [d4 423 (by decide)], fun a z i _ => by rw [d4 a (by omega)], fun i _ => by rw [d4 432 (by decide), d4 433 (by decide)]; exact ⟨rfl, rfl⟩, d6, fun a z _ _ => d7 a z⟩
  have hf : ∀ {f' : Nat → Nat → Int32} {g' : (Nat → Nat → Int64) × (Nat → Nat → Option Nat)}, FRm (1 - b) f4 f' g4 g' → HFm (1 - b) f f' g g' ∧ f' 413 2 = 0 := fun {f' g'} h => ⟨HFm_of (f1 := F2) (g1 := g) F2a (fun k z1 z2 => by rw [F2k k (by omega) (by omega) (by omega), F1k k (by omega) (by omega) (by omega)]) rfl (fun _ _ => rfl) (cb.trans (frm.trans h)), by rw [h.2.1 2 (by decide) (by decide), k4 2 (by decide) (by decide) (by decide) (by decide) (by decide)]; exact F22⟩
  have s := mh_all (B := B) (L := L) (rb := 1 - b) (K := fun h44 => jn_X12_house_95 h44) 1600 2398 (tk B L 0) D0 f4 g4 (by omega) DV_0 h5
  rw [show 2398 + 1600 + 2 = 4000 from rfl] at s
  rw [hh]
  revert s
  generalize pAll (tk B L) 1600 (tk B L 0) D0 = r
  intro s
  rcases r with e | ⟨t', D'⟩
  · obtain ⟨f', g', a1, a2, a3⟩ := s
    refine ⟨f', g', ?_, a2.2.2.2.2.1, a2.2.2.2.2.2.2, (hf a3).2, (hf a3).1⟩
    rw [a1]
    unfold jn_X12_house_95
    rw [isGood_n a2.2.2.2.2.2.1 a2.2.2.2.2.1, cal_some, if_pos rfl]
  · obtain ⟨f', g', a1, a2, a3, a4⟩ := s
    refine ⟨f', g', ?_, a2, a4, (hf a3).2, (hf a3).1⟩
    rw [a1]
    unfold jn_X12_house_95
    rw [isGood_0 a2.1.2.2.2.2.1, cal_some, if_neg (show ¬ (1 : Int32) = 0 by decide), bndv a2.1.2.2.2.1, ptIp]
end LH
