/-! ask -/
def shN (tm : Nat → Nat) (t x : Nat) : Nat := 6 - bc (tm t ^^^ x)
def mlS (F : Nat → Bool) (sh : Nat → Nat) (x : Nat) (p : (Nat → Int32) × Int32) : (Nat → Int32) × Int32 := if F x = true then (st p.1 (sh x) (p.1 (sh x) + 1), if p.2 < p.1 (sh x) + 1 then p.1 (sh x) + 1 else p.2) else p
def ML (F : Nat → Bool) (sh : Nat → Nat) : Int32 := (fo (mlS F sh) 64 0 (fun _ => 0, 0)).2
def mlP (F : Nat → Bool) (t : Nat) (p : (Nat → Int32) × Int32) : Prop := (∀ s, 0 ≤ (p.1 s).toInt ∧ (p.1 s).toInt ≤ t) ∧ (0 ≤ p.2.toInt ∧ p.2.toInt ≤ t) ∧ ((∃ j, j < t ∧ F j = true) → 1 ≤ p.2.toInt) ∧ ((∀ j, j < t → F j = false) → p.2 = 0)
theorem mlP_step {F : Nat → Bool} {sh : Nat → Nat} (t : Nat) (p : (Nat → Int32) × Int32) (ht : t < 64) (h : mlP F t p) : mlP F (t + 1) (mlS F sh t p) := by
  obtain ⟨h1, h2, h3, h4⟩ := h
  unfold mlS
  by_cases e : F t = true
  · rw [if_pos e]
    have b := h1 (sh t)
    have e1 : (p.1 (sh t) + 1).toInt = (p.1 (sh t)).toInt + 1 := ti_add (by rw [ti_1]; omega) (by rw [ti_1]; omega)
    have hm : 1 ≤ (if p.2 < p.1 (sh t) + 1 then p.1 (sh t) + 1 else p.2).toInt ∧ (if p.2 < p.1 (sh t) + 1 then p.1 (sh t) + 1 else p.2).toInt ≤ t + 1 := by
      by_cases c : p.2 < p.1 (sh t) + 1
      · rw [if_pos c, e1]; omega
      · rw [if_neg c]
        rw [Int32.lt_iff_toInt_lt, e1] at c
        omega
    refine ⟨fun s => ?_, ⟨by simp only; omega, by simp only; exact hm.2⟩, fun _ => hm.1, fun z => ?_⟩
    · by_cases es : s = sh t
      · subst es
        simp only [st_same, e1]; omega
      · have := h1 s
        simp only [st_ne es]; omega
    · have := z t (by omega)
      rw [e] at this
      exact absurd this (by decide)
  · rw [if_neg e]
    refine ⟨fun s => by have := h1 s; omega, by omega, fun ⟨j, hj, hF⟩ => ?_, fun z => h4 fun j hj => z j (by omega)⟩
    by_cases ej : j = t
    · subst ej; exact absurd hF e
    · exact h3 ⟨j, by omega, hF⟩
theorem ML_P {F : Nat → Bool} {sh : Nat → Nat} : mlP F 64 (fo (mlS F sh) 64 0 (fun _ => 0, 0)) := fo_indn (N := 64) (P := mlP F) (f := mlS F sh) (fun t p ht h => mlP_step t p ht h) 64 0 (fun _ => 0, 0) rfl ⟨fun s => ⟨Int.le_refl 0, Int.le_refl 0⟩, ⟨Int.le_refl 0, Int.le_refl 0⟩, fun ⟨j, hj, _⟩ => absurd hj (by omega), fun _ => rfl⟩
section MH
variable {f : Nat → Nat → Int32} {g : (Nat → Nat → Int64) × (Nat → Nat → Option Nat)} {nt b c : Nat} {tm : Nat → Nat} {k : Int32}
theorem shT_on {t x : Nat} (h1 : tm t < 64) (hx : x < 64) : shT tm t x = Int32.ofNat (shN tm t x) ∧ shN tm t x < 7 := by
  have hb : tm t ^^^ x < 64 := Nat.xor_lt_two_pow (n := 6) h1 hx
  have h6 := bc6 hb
  refine ⟨?_, by unfold shN; omega⟩
  have k : ∀ n : Fin 7, (6 : Int32) - Int32.ofNat n.val = Int32.ofNat (6 - n.val) := by decide
  exact k ⟨bc (tm t ^^^ x), by omega⟩
theorem lt7_i {i : Nat} (h : i < 7) : ¬ (6 : Int32) < Int32.ofNat i := by
  rw [show (6 : Int32) = Int32.ofNat 6 from rfl, on_lt (by omega) (by omega)]; omega
theorem c_zero {a b' : Int32} {K : am_H → Option (Int32 × am_H)} : ∀ m n i (f : Nat → Nat → Int32), i + m = 7 → (∀ j, j < i → f 411 j = 0) → ∃ f', lp_X3_mostLeftBy_2 a b' K (n + m + 1) (Int32.ofNat i) (f, g) = K (f', g) ∧ (∀ a, a ≠ 411 → f' a = f a) ∧ ∀ j, j < 7 → f' 411 j = 0 := by
  intro m
  induction m with
  | zero =>
    intro n i f hi h0
    obtain rfl : i = 7 := by omega
    rw [lp_X3_mostLeftBy_2, if_pos (by decide)]
    exact ⟨f, rfl, fun _ _ => rfl, h0⟩
  | succ m ih =>
    intro n i f hi h0
    rw [lp_X3_mostLeftBy_2, if_neg (lt7_i (by omega)), wrI_n (by omega) (by decide), on_succ]
    obtain ⟨f', a1, a2, a3⟩ := ih n (i + 1) (am_u2 f 411 i 0) (by omega) (fun j hj => by
      by_cases e : j = i
      · subst e; exact au_same
      · rw [au_nk e]; exact h0 j (by omega))
    exact ⟨f', a1, fun a z => by rw [a2 a z, u2_ne z], a3⟩
theorem m_zero {a : Int32} {K : am_H → Option (Int32 × am_H)} : ∀ m n i (f : Nat → Nat → Int32), i + m = 7 → (∀ j, j < i → f 446 j = 0) → ∃ f', lp_X12_mostBy_2 a K (n + m + 1) (Int32.ofNat i) (f, g) = K (f', g) ∧ (∀ a, a ≠ 446 → f' a = f a) ∧ ∀ j, j < 7 → f' 446 j = 0 := by
  intro m
  induction m with
  | zero =>
    intro n i f hi h0
    obtain rfl : i = 7 := by omega
    rw [lp_X12_mostBy_2, if_pos (by decide)]
    exact ⟨f, rfl, fun _ _ => rfl, h0⟩
  | succ m ih =>
    intro n i f hi h0
    rw [lp_X12_mostBy_2, if_neg (lt7_i (by omega)), wrI_n (by omega) (by decide), on_succ]
    obtain ⟨f', a1, a2, a3⟩ := ih n (i + 1) (am_u2 f 446 i 0) (by omega) (fun j hj => by
      by_cases e : j = i
      · subst e; exact au_same
      · rw [au_nk e]; exact h0 j (by omega))
    exact ⟨f', a1, fun a z => by rw [a2 a z, u2_ne z], a3⟩
theorem FF_cong {f f' : Nat → Nat → Int32} {x : Nat} (h : ∀ a, 441 ≤ a → a < 446 → f' a = f a) : FF f' tm nt c k x = FF f tm nt c k x := by
  unfold FF
  rw [FT_cong h]
theorem c_most {f0 : Nat → Nat → Int32} {t : Nat} (ht : t < nt) : ∀ m n i (p : (Nat → Int32) × Int32) (f : Nat → Nat → Int32), i + m = 64 → IMc f nt b tm c → (∀ a, 441 ≤ a → a < 446 → f a = f0 a) → (∀ s, s < 7 → f 411 s = p.1 s) → ∃ f', lp_X3_mostLeftBy_26 (Int32.ofNat t) k (n + m + 1) p.2 (Int32.ofNat i) (f, g) = some ((fo (mlS (FF f0 tm nt c k) (shN tm t)) m i p).2, (f', g)) ∧ ∀ a, a ≠ 411 → f' a = f a := by
  intro m
  induction m with
  | zero =>
    intro n i p f hi I h0 h411
    obtain rfl : i = 64 := by omega
    rw [lp_X3_mostLeftBy_26, if_neg (by decide)]
    exact ⟨f, rfl, fun _ _ => rfl⟩
  | succ m ih =>
    intro n i p f hi I h0 h411
    have hi64 : i < 64 := by omega
    have htm := (I.2.2.2.2.2.1 t ht).1
    obtain ⟨s1, s2⟩ := shT_on (tm := tm) htm hi64
    rw [lp_X3_mostLeftBy_26, if_pos (lt64 hi64), X3_isFitting I hi64, cal_some, fo, mlS]
    have eF : (decide (0 < nt) && FT f tm c k i) = FF f0 tm nt c k i := FF_cong h0
    rw [eF, on_succ]
    by_cases e : FF f0 tm nt c k i = true
    · rw [if_pos e, if_neg (by decide), if_pos e, X3_sharedWith I ht hi64, cal_some, s1, if_neg (nneg (by omega)), if_neg (lt7_i s2), rdI_n s2 (by decide), wrI_n s2 (by decide), rdI_n s2 (by decide)]
      simp only [h411 _ s2, au_same]
      obtain ⟨f', a1, a2⟩ := ih n (i + 1) (st p.1 (shN tm t i) (p.1 (shN tm t i) + 1), if p.2 < p.1 (shN tm t i) + 1 then p.1 (shN tm t i) + 1 else p.2) (am_u2 f 411 (shN tm t i) (p.1 (shN tm t i) + 1)) (by omega) (IMc_frame (fun a z => u2_ne (by omega)) (by rw [u2_ne (by decide)]) (by rw [u2_ne (by decide)]) (by rw [u2_ne (by decide)]) I) (fun a z1 z2 => by rw [u2_ne (by omega)]; exact h0 a z1 z2) (fun s hs => by
        by_cases es : s = shN tm t i
        · subst es; rw [au_same]; exact st_same.symm
        · rw [au_nk es, h411 s hs]; exact (st_ne es).symm)
      exact ⟨f', a1, fun a z => by rw [a2 a z, u2_ne z]⟩
    · rw [if_neg e, if_pos rfl, if_neg e]
      exact ih n (i + 1) p f (by omega) I h0 h411
theorem m_most {F : Nat → Bool} {t : Nat} (ht : t < nt) : ∀ m n i (p : (Nat → Int32) × Int32) (f : Nat → Nat → Int32), i + m = 64 → IMc f nt b tm c → (∀ j, j < 64 → f 447 j = if F j = true then 1 else 0) → (∀ s, s < 7 → f 446 s = p.1 s) → ∃ f', lp_X12_mostBy_25 (Int32.ofNat t) (n + m + 1) p.2 (Int32.ofNat i) (f, g) = some ((fo (mlS F (shN tm t)) m i p).2, (f', g)) ∧ ∀ a, a ≠ 446 → f' a = f a := by
  intro m
  induction m with
  | zero =>
    intro n i p f hi I h0 h446
    obtain rfl : i = 64 := by omega
    rw [lp_X12_mostBy_25, if_neg (by decide)]
    exact ⟨f, rfl, fun _ _ => rfl⟩
  | succ m ih =>
    intro n i p f hi I h0 h446
    have hi64 : i < 64 := by omega
    have htm := (I.2.2.2.2.2.1 t ht).1
    obtain ⟨s1, s2⟩ := shT_on (tm := tm) htm hi64
    rw [lp_X12_mostBy_25, if_pos (lt64 hi64), rdI_n hi64 (by decide), fo, mlS]
    simp only [h0 i hi64, on_succ]
    by_cases e : F i = true
    · rw [if_pos e, if_neg (by decide), if_pos e, X12_sharedIf I ht hi64, cal_some, s1, rdI_n s2 (by decide), wrI_n s2 (by decide), rdI_n s2 (by decide), rdI_n s2 (by decide)]
      simp only [h446 _ s2, au_same]
      obtain ⟨f', a1, a2⟩ := ih n (i + 1) (st p.1 (shN tm t i) (p.1 (shN tm t i) + 1), if p.2 < p.1 (shN tm t i) + 1 then p.1 (shN tm t i) + 1 else p.2) (am_u2 f 446 (shN tm t i) (p.1 (shN tm t i) + 1)) (by omega) (IMc_frame (fun a z => u2_ne (by omega)) (by rw [u2_ne (by decide)]) (by rw [u2_ne (by decide)]) (by rw [u2_ne (by decide)]) I) (fun j hj => by rw [u2_ne (by decide)]; exact h0 j hj) (fun s hs => by
        by_cases es : s = shN tm t i
        · subst es; rw [au_same]; exact st_same.symm
        · rw [au_nk es, h446 s hs]; exact (st_ne es).symm)
      refine ⟨f', ?_, fun a z => by rw [a2 a z, u2_ne z]⟩
      simp only at a1
      rw [← a1]
      by_cases e2 : p.2 < p.1 (shN tm t i) + 1
      · rw [if_pos e2, if_pos e2]; rfl
      · rw [if_neg e2, if_neg e2]; rfl
    · rw [if_neg e, if_pos rfl, if_neg e]
      exact ih n (i + 1) p f (by omega) I h0 h446
theorem X3_mostLeftBy (I : IMc f nt b tm c) {t : Nat} (ht : t < nt) : ∃ f', f_X3_mostLeftBy (Int32.ofNat t) k (f, g) = some (ML (FF f tm nt c k) (shN tm t), (f', g)) ∧ ∀ a, a ≠ 411 → f' a = f a := by
  obtain ⟨f1, a1, a2, a3⟩ := c_zero (g := g) (a := Int32.ofNat t) (b' := k) (K := fun h4 => lp_X3_mostLeftBy_26 (Int32.ofNat t) k 4000 0 0 h4) 7 3992 0 f rfl (fun j hj => absurd hj (by omega))
  obtain ⟨f2, b1, b2⟩ := c_most (g := g) (k := k) (f0 := f) ht 64 3935 0 (fun _ => 0, 0) f1 rfl (IMc_frame (fun a z => a2 a (by omega)) (by rw [a2 413 (by decide)]) (by rw [a2 413 (by decide)]) (by rw [a2 413 (by decide)]) I) (fun a z1 z2 => a2 a (by omega)) a3
  refine ⟨f2, ?_, fun a z => by rw [b2 a z, a2 a z]⟩
  unfold f_X3_mostLeftBy
  exact a1.trans b1
theorem X12_mostBy {F : Nat → Bool} (I : IMc f nt b tm c) (h0 : ∀ j, j < 64 → f 447 j = if F j = true then 1 else 0) {t : Nat} (ht : t < nt) : ∃ f', f_X12_mostBy (Int32.ofNat t) (f, g) = some (ML F (shN tm t), (f', g)) ∧ ∀ a, a ≠ 446 → f' a = f a := by
  obtain ⟨f1, a1, a2, a3⟩ := m_zero (g := g) (a := Int32.ofNat t) (K := fun h4 => lp_X12_mostBy_25 (Int32.ofNat t) 4000 0 0 h4) 7 3992 0 f rfl (fun j hj => absurd hj (by omega))
  obtain ⟨f2, b1, b2⟩ := m_most (g := g) (F := F) ht 64 3935 0 (fun _ => 0, 0) f1 rfl (IMc_frame (fun a z => a2 a (by omega)) (by rw [a2 413 (by decide)]) (by rw [a2 413 (by decide)]) (by rw [a2 413 (by decide)]) I) (fun j hj => by rw [a2 447 (by decide)]; exact h0 j hj) a3
  refine ⟨f2, ?_, fun a z => by rw [b2 a z, a2 a z]⟩
  unfold f_X12_mostBy
  exact a1.trans b1
def akS (G : Nat → Int32) (t : Nat) (p : Int32 × Int32) : Int32 × Int32 := if 0 < G t ∧ G t < p.2 then (Int32.ofNat t, G t) else p
def msS (G : Nat → Int32) (t b : Nat) : Nat := if G t < G b then t else b
theorem c_asks {f0 : Nat → Nat → Int32} {N : Nat} (hN : N + 1 = nt) : ∀ m n i (p : Int32 × Int32) (f : Nat → Nat → Int32), i + m = N → IMc f nt b tm c → (∀ a, 441 ≤ a → a < 446 → f a = f0 a) → ∃ f', lp_X3_bestToAsk_8 k (n + m + 1) p.1 p.2 (Int32.ofNat i) (f, g) = some ((fo (akS fun t => ML (FF f0 tm nt c k) (shN tm t)) m i p).1, (f', g)) ∧ ∀ a, a ≠ 411 → f' a = f a := by
  intro m
  induction m with
  | zero =>
    intro n i p f hi I h0
    have h6 := I.2.1
    rw [lp_X3_bestToAsk_8, bnd_eq]
    simp only [I.1]
    rw [on_pred (by omega), if_neg (by rw [on_lt (by omega) (by omega)]; omega)]
    exact ⟨f, rfl, fun _ _ => rfl⟩
  | succ m ih =>
    intro n i p f hi I h0
    have h6 := I.2.1
    obtain ⟨f1, a1, a2⟩ := X3_mostLeftBy (g := g) (k := k) I (t := i) (by omega)
    have eF : FF f tm nt c k = FF f0 tm nt c k := funext fun x => FF_cong h0
    rw [eF] at a1
    have ihh := fun p => ih n (i + 1) p f1 (by omega) (IMc_frame (fun a z => a2 a (by omega)) (by rw [a2 413 (by decide)]) (by rw [a2 413 (by decide)]) (by rw [a2 413 (by decide)]) I) (fun a z1 z2 => by rw [a2 a (by omega)]; exact h0 a z1 z2)
    rw [lp_X3_bestToAsk_8, bnd_eq]
    simp only [I.1]
    rw [on_pred (by omega), if_pos (by rw [on_lt (by omega) (by omega)]; omega), a1, cal2_some, on_succ, fo, akS]
    by_cases c1 : 0 < ML (FF f0 tm nt c k) (shN tm i)
    · by_cases c2 : ML (FF f0 tm nt c k) (shN tm i) < p.2
      · rw [if_pos c1, if_pos c2, if_pos ⟨c1, c2⟩]
        obtain ⟨f', b1, b2⟩ := ihh (Int32.ofNat i, ML (FF f0 tm nt c k) (shN tm i))
        exact ⟨f', b1, fun a z => by rw [b2 a z, a2 a z]⟩
      · rw [if_pos c1, if_neg c2, if_neg (fun z => c2 z.2)]
        obtain ⟨f', b1, b2⟩ := ihh p
        exact ⟨f', b1, fun a z => by rw [b2 a z, a2 a z]⟩
    · rw [if_neg c1, if_neg (fun z => c1 z.1)]
      obtain ⟨f', b1, b2⟩ := ihh p
      exact ⟨f', b1, fun a z => by rw [b2 a z, a2 a z]⟩
theorem m_asks {F : Nat → Bool} {N : Nat} (hN : N + 1 = nt) {x : Int32} {K : Int32 → am_H → Option (Int32 × am_H)} : ∀ m n i d (f : Nat → Nat → Int32), i + m = N → d < nt → IMc f nt b tm c → (∀ j, j < 64 → f 447 j = if F j = true then 1 else 0) → ∃ f', lp_X12_ask_40 x K (n + m + 1) (Int32.ofNat d) (Int32.ofNat i) (f, g) = K (Int32.ofNat (fo (msS fun t => ML F (shN tm t)) m i d)) (f', g) ∧ ∀ a, a ≠ 446 → f' a = f a := by
  intro m
  induction m with
  | zero =>
    intro n i d f hi hd I h0
    have h6 := I.2.1
    rw [lp_X12_ask_40, bnd_eq]
    simp only [I.2.2.2.1]
    rw [rdI_n I.2.2.1 (by decide)]
    simp only [I.2.2.2.2.1]
    rw [on_pred (by omega), if_neg (by rw [on_lt (by omega) (by omega)]; omega)]
    exact ⟨f, rfl, fun _ _ => rfl⟩
  | succ m ih =>
    intro n i d f hi hd I h0
    have h6 := I.2.1
    obtain ⟨f1, a1, a2⟩ := X12_mostBy (g := g) I h0 (t := i) (by omega)
    have I1 := IMc_frame (fun a z => a2 a (by omega)) (by rw [a2 413 (by decide)]) (by rw [a2 413 (by decide)]) (by rw [a2 413 (by decide)]) I
    have h1 : ∀ j, j < 64 → f1 447 j = if F j = true then 1 else 0 := fun j hj => by rw [a2 447 (by decide)]; exact h0 j hj
    obtain ⟨f2, b1, b2⟩ := X12_mostBy (g := g) I1 h1 (t := d) hd
    have ihh := fun d hd => ih n (i + 1) d f2 (by omega) hd (IMc_frame (fun a z => b2 a (by omega)) (by rw [b2 413 (by decide)]) (by rw [b2 413 (by decide)]) (by rw [b2 413 (by decide)]) I1) (fun j hj => by rw [b2 447 (by decide)]; exact h1 j hj)
    rw [lp_X12_ask_40, bnd_eq]
    simp only [I.2.2.2.1]
    rw [rdI_n I.2.2.1 (by decide)]
    simp only [I.2.2.2.2.1]
    rw [on_pred (by omega), if_pos (by rw [on_lt (by omega) (by omega)]; omega), a1, cal2_some, b1, cal2_some, on_succ, fo, msS]
    by_cases c1 : ML F (shN tm i) < ML F (shN tm d)
    · rw [if_pos c1, if_pos c1]
      obtain ⟨f', d1, d2⟩ := ihh i (by omega)
      exact ⟨f', d1, fun a z => by rw [d2 a z, b2 a z, a2 a z]⟩
    · rw [if_neg c1, if_neg c1]
      obtain ⟨f', d1, d2⟩ := ihh d hd
      exact ⟨f', d1, fun a z => by rw [d2 a z, b2 a z, a2 a z]⟩
theorem ak_none {G : Nat → Int32} (h : ∀ t, G t = 0) : ∀ m i p, fo (akS G) m i p = p
  | 0, _, _ => rfl
  | m + 1, i, p => by
    rw [fo, akS, h i, if_neg (fun z => absurd z.1 (by decide))]
    exact ak_none h m (i + 1) p
theorem ak_ms {G : Nat → Int32} (h : ∀ t, 0 < G t) : ∀ m i d, fo (akS G) m i (Int32.ofNat d, G d) = (Int32.ofNat (fo (msS G) m i d), G (fo (msS G) m i d))
  | 0, _, _ => rfl
  | m + 1, i, d => by
    rw [fo, akS, fo, msS]
    by_cases c : G i < G d
    · rw [if_pos ⟨h i, c⟩, if_pos c]
      exact ak_ms h m (i + 1) i
    · rw [if_neg (fun z => c z.2), if_neg c]
      exact ak_ms h m (i + 1) d
theorem ms_lt {G : Nat → Int32} {N : Nat} : ∀ m i d, i + m ≤ N → d < N → fo (msS G) m i d < N
  | 0, _, _, _, h => h
  | m + 1, i, d, hi, h => by
    rw [fo, msS]
    split
    · exact ms_lt m (i + 1) i (by omega) (by omega)
    · exact ms_lt m (i + 1) d (by omega) h
end MH
