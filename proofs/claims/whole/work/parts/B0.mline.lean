/-! the model reads lines, as on paper -/
def mbits (D : DR) : Nat := D.1 5 + D.1 6 * 2 + D.1 7 * 4 + D.1 8 * 8
def MDr (f : Nat → Nat → Int32) (rb : Nat) (D : DR) : Prop := if D.1 5 = 1 then f 428 rb = Int32.ofNat (560 * rb) ∧ f 429 rb = Int32.ofNat (560 * rb + D.2.2.length) ∧ CLm f (560 * rb) D.2.2 ∧ f 418 rb = Int32.ofNat (D.1 9) ∧ f 413 34 = Int32.ofNat (560 * rb + D.2.2.length) else f 418 rb = 0 ∧ f 413 34 = Int32.ofNat (560 * rb)
def MD (f : Nat → Nat → Int32) (g : (Nat → Nat → Int64) × (Nat → Nat → Option Nat)) (rb : Nat) (D : DR) : Prop := (f 416 rb = Int32.ofNat (D.1 0) ∧ f 417 rb = Int32.ofNat (D.1 1) ∧ f 419 rb = Int32.ofNat (D.1 2) ∧ f 420 rb = Int32.ofNat (D.1 3) ∧ f 421 rb = Int32.ofNat (D.1 4) ∧ f 422 rb = Int32.ofNat (mbits D)) ∧ (∀ i, i < D.1 0 → (∃ M, g.1 430 (4 * rb + i) = Int64.ofNat M ∧ WMr (D.2.1 0 i) M) ∧ f 423 (4 * rb + i) = Int32.ofNat (D.2.1 1 i)) ∧ (∀ i, i < D.1 1 → (∃ M, g.1 431 (6 * rb + i) = Int64.ofNat M ∧ WMr (D.2.1 2 i) M) ∧ f 424 (6 * rb + i) = Int32.ofNat (D.2.1 3 i) ∧ f 425 (6 * rb + i) = Int32.ofNat (D.2.1 4 i) ∧ f 426 (6 * rb + i) = Int32.ofNat (D.2.1 5 i) ∧ f 427 (6 * rb + i) = Int32.ofNat (D.2.1 6 i)) ∧ MDr f rb D
def FRm (rb : Nat) (f f' : Nat → Nat → Int32) (g g' : (Nat → Nat → Int64) × (Nat → Nat → Option Nat)) : Prop := (∀ a, a ≠ 413 → ¬ (416 ≤ a ∧ a ≤ 429) → ¬ (432 ≤ a ∧ a ≤ 435) → f' a = f a) ∧ (∀ k, ¬ (4 ≤ k ∧ k ≤ 9) → ¬ (34 ≤ k ∧ k ≤ 37) → f' 413 k = f 413 k) ∧ (∀ a, 416 ≤ a ∧ a ≤ 422 ∨ a = 428 ∨ a = 429 → ∀ i, i ≠ rb → f' a i = f a i) ∧ (∀ i, ¬ (4 * rb ≤ i ∧ i < 4 * rb + 4) → f' 423 i = f 423 i) ∧ (∀ a, 424 ≤ a ∧ a ≤ 427 → ∀ i, ¬ (6 * rb ≤ i ∧ i < 6 * rb + 6) → f' a i = f a i) ∧ (∀ i, ¬ (560 * rb ≤ i ∧ i < 560 * rb + 560) → f' 432 i = f 432 i ∧ f' 433 i = f 433 i) ∧ g'.2 = g.2 ∧ ∀ a, a ≠ 413 → a ≠ 430 → a ≠ 431 → g'.1 a = g.1 a
theorem FRm.refl {rb : Nat} {f : Nat → Nat → Int32} {g : (Nat → Nat → Int64) × (Nat → Nat → Option Nat)} : FRm rb f f g g := ⟨fun _ _ _ _ => rfl, fun _ _ _ => rfl, fun _ _ _ _ => rfl, fun _ _ => rfl, fun _ _ _ _ => rfl, fun _ _ => ⟨rfl, rfl⟩, rfl, fun _ _ _ _ => rfl⟩
theorem FRm.trans {rb : Nat} {f f' f'' : Nat → Nat → Int32} {g g' g'' : (Nat → Nat → Int64) × (Nat → Nat → Option Nat)} (h : FRm rb f f' g g') (h' : FRm rb f' f'' g' g'') : FRm rb f f'' g g'' := ⟨fun a z1 z2 z3 => (h'.1 a z1 z2 z3).trans (h.1 a z1 z2 z3), fun k z1 z2 => (h'.2.1 k z1 z2).trans (h.2.1 k z1 z2), fun a z i y => (h'.2.2.1 a z i y).trans (h.2.2.1 a z i y), fun i z => (h'.2.2.2.1 i z).trans (h.2.2.2.1 i z), fun a z i y => (h'.2.2.2.2.1 a z i y).trans (h.2.2.2.2.1 a z i y), fun i z => ⟨(h'.2.2.2.2.2.1 i z).1.trans (h.2.2.2.2.2.1 i z).1, (h'.2.2.2.2.2.1 i z).2.trans (h.2.2.2.2.2.1 i z).2⟩, h'.2.2.2.2.2.2.1.trans h.2.2.2.2.2.2.1, fun a z1 z2 z3 => (h'.2.2.2.2.2.2.2 a z1 z2 z3).trans (h.2.2.2.2.2.2.2 a z1 z2 z3)⟩
theorem MFr.m {rb : Nat} {f f' : Nat → Nat → Int32} {g g' : (Nat → Nat → Int64) × (Nat → Nat → Option Nat)} (h : MFr rb f f' g g') : FRm rb f f' g g' := ⟨fun a z1 z2 z3 => h.1 a z1 (by omega) (by omega) (by omega) (by omega) (by omega), h.2.1, fun a z i y => by
    by_cases e : a = 418
    · rw [e]; exact h.2.2.1 i y
    · rw [h.1 a (by omega) e (by omega) (by omega) (by omega) (by omega)], fun i z => by rw [h.1 423 (by decide) (by decide) (by decide) (by decide) (by decide) (by decide)], fun a z i y => by rw [h.1 a (by omega) (by omega) (by omega) (by omega) (by omega) (by omega)], h.2.2.2.1, h.2.2.2.2.1, fun a z1 _ _ => h.2.2.2.2.2 a z1⟩
/-- what goes on keeps -/
def GF (f f' : Nat → Nat → Int32) (g g' : (Nat → Nat → Int64) × (Nat → Nat → Option Nat)) : Prop := (∀ a, a ≠ 413 → f' a = f a) ∧ (∀ k, ¬ (4 ≤ k ∧ k ≤ 9) → f' 413 k = f 413 k) ∧ g'.2 = g.2 ∧ ∀ a, a ≠ 413 → g'.1 a = g.1 a
theorem GF.refl {f : Nat → Nat → Int32} {g : (Nat → Nat → Int64) × (Nat → Nat → Option Nat)} : GF f f g g := ⟨fun _ _ => rfl, fun _ _ => rfl, rfl, fun _ _ => rfl⟩
theorem GF.trans {f f' f'' : Nat → Nat → Int32} {g g' g'' : (Nat → Nat → Int64) × (Nat → Nat → Option Nat)} (h : GF f f' g g') (h' : GF f' f'' g' g'') : GF f f'' g g'' := ⟨fun a z => (h'.1 a z).trans (h.1 a z), fun k z => (h'.2.1 k z).trans (h.2.1 k z), h'.2.2.1.trans h.2.2.1, fun a z => (h'.2.2.2 a z).trans (h.2.2.2 a z)⟩
theorem GF.m {rb : Nat} {f f' : Nat → Nat → Int32} {g g' : (Nat → Nat → Int64) × (Nat → Nat → Option Nat)} (h : GF f f' g g') : FRm rb f f' g g' := ⟨fun a z _ _ => h.1 a z, fun k z1 _ => h.2.1 k z1, fun a z i _ => by rw [h.1 a (by omega)], fun i _ => by rw [h.1 423 (by decide)], fun a z i _ => by rw [h.1 a (by omega)], fun i _ => by rw [h.1 432 (by decide), h.1 433 (by decide)]; exact ⟨rfl, rfl⟩, h.2.2.1, fun a z _ _ => h.2.2.2 a z⟩
theorem MDr_cong {f f' : Nat → Nat → Int32} {rb : Nat} {D : DR} (h : ∀ a, a = 418 ∨ a = 428 ∨ a = 429 ∨ a = 432 ∨ a = 433 → f' a = f a) (h34 : f' 413 34 = f 413 34) (m : MDr f rb D) : MDr f' rb D := by
  unfold MDr at m ⊢
  rw [h 418 (by decide), h 428 (by decide), h 429 (by decide), h34]
  by_cases c : D.1 5 = 1
  · rw [if_pos c] at m ⊢
    exact ⟨m.1, m.2.1, CLm_cong (fun i _ => by rw [h 432 (by decide)]) (fun i _ => by rw [h 433 (by decide)]) m.2.2.1, m.2.2.2⟩
  · rw [if_neg c] at m ⊢
    exact m
theorem MD_gf {f f' : Nat → Nat → Int32} {g g' : (Nat → Nat → Int64) × (Nat → Nat → Option Nat)} {rb : Nat} {D : DR} (h : GF f f' g g') (m : MD f g rb D) : MD f' g' rb D := by
  obtain ⟨m1, m2, m3, m4⟩ := m
  refine ⟨by rw [h.1 416 (by decide), h.1 417 (by decide), h.1 419 (by decide), h.1 420 (by decide), h.1 421 (by decide), h.1 422 (by decide)]; exact m1, fun i hi => by rw [h.2.2.2 430 (by decide), h.1 423 (by decide)]; exact m2 i hi, fun i hi => by rw [h.2.2.2 431 (by decide), h.1 424 (by decide), h.1 425 (by decide), h.1 426 (by decide), h.1 427 (by decide)]; exact m3 i hi, MDr_cong (fun a z => h.1 a (by omega)) (h.2.1 34 (by decide)) m4⟩
def MDT (f : Nat → Nat → Int32) (g : (Nat → Nat → Int64) × (Nat → Nat → Option Nat)) (B : Nat → Nat) (L rb : Nat) (D : DR) (t : TK) : Prop := MG f g B L rb t ∧ MD f g rb D
/-- a fault was found -/
def BDm (f : Nat → Nat → Int32) (g : (Nat → Nat → Int64) × (Nat → Nat → Option Nat)) (B : Nat → Nat) (L rb : Nat) (e : Nat × Nat) : Prop := (∃ t, MT f g B L t ∧ TV B L t) ∧ TPm f B L ∧ rb < 2 ∧ f 413 33 = Int32.ofNat rb ∧ f 413 4 = Int32.ofNat e.1 ∧ (0 < e.1 ∧ e.1 < 10) ∧ f 413 5 = Int32.ofNat e.2
def KM (f : Nat → Nat → Int32) (g : (Nat → Nat → Int64) × (Nat → Nat → Option Nat)) (B : Nat → Nat) (L rb : Nat) (out : Option am_H) : LR → Prop
  | .inl e => ∃ f' g', out = some (f', g') ∧ BDm f' g' B L rb e ∧ FRm rb f f' g g'
  | .inr (t', D') => ∃ f' g', out = some (f', g') ∧ MDT f' g' B L rb D' t' ∧ FRm rb f f' g g'
section LA
variable {f : Nat → Nat → Int32} {g : (Nat → Nat → Int64) × (Nat → Nat → Option Nat)} {B : Nat → Nat} {L rb : Nat} {D : DR} {t : TK} {e : Nat × Nat}
theorem MDT.k (h : MDT f g B L rb D t) : t.1 ≤ 32 := h.1.k
theorem failM_gf {c p : Nat} : GF f (failM f c p) g g := ⟨fun a z => by unfold failM; rw [u2_ne z, u2_ne z], fun k z => by unfold failM; rw [au_nk (by omega), au_nk (by omega)], rfl, fun _ _ => rfl⟩
theorem BD_fail (h : MG f g B L rb t) {c p : Nat} (hc : 0 < c ∧ c < 10) : BDm (failM f c p) g B L rb (c, p) := by
  obtain ⟨⟨a1, a2, a3, a4, a5, a6, a7⟩, T, hb, h33, h4, tv⟩ := h
  have fk : ∀ k, k ≠ 4 → k ≠ 5 → failM f c p 413 k = f 413 k := fun k z1 z2 => by unfold failM; rw [au_nk z2, au_nk z1]
  exact ⟨⟨t, ⟨by rw [fk 6 (by decide) (by decide)]; exact a1, by rw [fk 7 (by decide) (by decide)]; exact a2, by rw [fk 8 (by decide) (by decide)]; exact a3, fun z => by rw [fk 9 (by decide) (by decide)]; exact a4 z, a5, a6, a7⟩, tv⟩, TPm_fr (fk 3 (by decide) (by decide)) (by unfold failM; rw [u2_ne (by decide), u2_ne (by decide)]) T, hb, by rw [fk 33 (by decide) (by decide)]; exact h33, failM_4.1, hc, failM_4.2⟩
theorem BD_fr {f' : Nat → Nat → Int32} {g' : (Nat → Nat → Int64) × (Nat → Nat → Option Nat)} (hk : ∀ k, f' 413 k = f 413 k) (h415 : f' 415 = f 415) (hg : g'.1 413 = g.1 413) (h : BDm f g B L rb e) : BDm f' g' B L rb e := by
  obtain ⟨⟨t, ⟨a1, a2, a3, a4, a5, a6, a7⟩, tv⟩, T, hb, h33, h4, hc, h5⟩ := h
  exact ⟨⟨t, ⟨by rw [hk 6]; exact a1, by rw [hk 7]; exact a2, by rw [hk 8]; exact a3, fun z => by rw [hk 9]; exact a4 z, by rw [hg]; exact a5, a6, a7⟩, tv⟩, TPm_fr (hk 3) h415 T, hb, by rw [hk 33]; exact h33, by rw [hk 4]; exact h4, hc, by rw [hk 5]; exact h5⟩
theorem bad_must (h : BDm f g B L rb e) (v : Int32) : f_X12_must v (f, g) = some (f, g) := by
  unfold f_X12_must
  rw [isGood_n h.2.2.2.2.2.1 h.2.2.2.2.1, cal_some, if_pos rfl]
theorem bad_num (h : BDm f g B L rb e) (lo hi : Int32) : f_X12_numeral lo hi (f, g) = some (lo, (f, g)) := by
  unfold f_X12_numeral
  rw [isGood_n h.2.2.2.2.2.1 h.2.2.2.2.1, cal_some, if_pos rfl]
theorem bad_word (w : Int64) : ∃ v, f_X12_isWord w (f, g) = some v := by
  unfold f_X12_isWord
  rw [bnd_eq]
  split
  · rw [bnd_eq]; split
    · exact ⟨_, rfl⟩
    · exact ⟨_, rfl⟩
  · exact ⟨_, rfl⟩
theorem bad_sign (h : BDm f g B L rb e) : ∃ v, f_X12_isSignHere 59 (f, g) = some v := by
  obtain ⟨⟨t, m, tv⟩, T, -⟩ := h
  exact ⟨_, X12_isSignHere (s := 18) (c := 59) m T tv.go.2.2.2 (by decide) rfl (by decide)⟩
theorem bad_after (h : BDm f g B L rb e) (w : Int64) (lo hi : Int32) : f_X12_after w lo hi (f, g) = some (lo, (f, g)) := by
  obtain ⟨v, hv⟩ := bad_word (f := f) (g := g) w
  unfold f_X12_after
  rw [hv, cal_some, bad_must h, cal_some, bad_num h, cal2_some]
theorem bad_fresh (h : BDm f g B L rb e) (x : Int32) : f_X12_fresh x (f, g) = some (0, (f, g)) := by
  unfold f_X12_fresh
  rw [isGood_n h.2.2.2.2.2.1 h.2.2.2.2.1, cal_some, if_pos rfl]
theorem m_adv (h : MDT f g B L rb D t) : ∃ f' g', f_X12_goOn (f, g) = some (f', g') ∧ MDT f' g' B L rb D (tk B L t.2.2.1) ∧ GF f f' g g' := by
  obtain ⟨f', g', a1, a2, a3, a4, a5, a6, a7⟩ := mgo h.1
  have q : GF f f' g g' := ⟨a3, fun k z => a4 k (by omega) (by omega) (by omega) (by omega), a5, a6⟩
  exact ⟨f', g', a1, ⟨a2, MD_gf q h.2⟩, q⟩
/-- what must come -/
theorem m_must {k : Nat} (h : MDT f g B L rb D t) {v : Int32} (hv : v = if t.1 = k then 1 else 0) : match pTk (tk B L) k t with
    | .inl e => ∃ f', f_X12_must v (f, g) = some (f', g) ∧ BDm f' g B L rb e ∧ GF f f' g g
    | .inr t' => ∃ f' g', f_X12_must v (f, g) = some (f', g') ∧ MDT f' g' B L rb D t' ∧ GF f f' g g' := by
  unfold f_X12_must pTk
  rw [isGood_0 h.1.2.2.2.2.1, cal_some, if_neg (show ¬ (1 : Int32) = 0 by decide), hv]
  by_cases c : t.1 = k
  · rw [if_pos c, if_pos c, if_neg (show ¬ (1 : Int32) = 0 by decide)]
    obtain ⟨f', g', a1, a2, a3⟩ := m_adv h
    exact ⟨f', g', by rw [a1, cal_some], a2, a3⟩
  · rw [if_neg c, if_neg c, if_pos rfl, X12_misplaced h.1, cal_some]
    exact ⟨_, rfl, BD_fail h.1 cs12, failM_gf⟩
theorem m_num (h : MDT f g B L rb D t) {lo hi : Nat} (hlo : lo ≤ 10) (hhi : hi ≤ 1000) : match pNu (tk B L) lo hi t with
    | .inl e => ∃ f', f_X12_numeral (Int32.ofNat lo) (Int32.ofNat hi) (f, g) = some (Int32.ofNat lo, (f', g)) ∧ BDm f' g B L rb e ∧ GF f f' g g
    | .inr x => ∃ f' g', f_X12_numeral (Int32.ofNat lo) (Int32.ofNat hi) (f, g) = some (Int32.ofNat x.1, (f', g')) ∧ MDT f' g' B L rb D x.2 ∧ GF f f' g g' := by
  have hk := h.k
  have gd := isGood_0 (g := g) h.1.2.2.2.2.1
  have bad : ∀ c p (hc : 0 < c ∧ c < 10), jn_X12_numeral_53 (Int32.ofNat lo) (failM f c p, g) = some (Int32.ofNat lo, (failM f c p, g)) := fun c p hc => by
    unfold jn_X12_numeral_53 jn_X12_numeral_69
    rw [bnd_eq, isGood_n hc failM_4.1, cal_some, if_pos rfl, cal_some, if_pos rfl]
  unfold f_X12_numeral pNu
  rw [gd, cal_some, if_neg (show ¬ (1 : Int32) = 0 by decide), bnd_eq]
  simp only [h.1.1.2.2.1, (mtk_n hk).2.2.1]
  by_cases c : t.1 = 29
  · have hnu := tk_nu h.1.2.2.2.2.2 c
    have e9 := h.1.1.2.2.2.1 c
    rw [if_pos c, if_pos c]
    unfold jn_X12_numeral_21
    rw [gd, cal_some, if_neg (show ¬ (1 : Int32) = 0 by decide), bnd_eq]
    simp only [e9]
    have l1 : Int32.ofNat t.2.2.2.1 < Int32.ofNat lo ↔ t.2.2.2.1 < lo := on_lt (by omega) (by omega)
    have l2 : Int32.ofNat hi < Int32.ofNat t.2.2.2.1 ↔ hi < t.2.2.2.1 := on_lt (by omega) (by omega)
    have j44 : jn_X12_numeral_44 (Int32.ofNat lo) (f, g) = some (Int32.ofNat lo, (failM f 4 t.2.1, g)) := by
      unfold jn_X12_numeral_44
      rw [bnd_eq]
      simp only [h.1.1.1]
      have := X12_fails (g := g) h.1.2.2.2.2.1 4 t.2.1
      have e4 : Int32.ofNat 4 = 4 := rfl
      rw [e4] at this
      rw [this, cal_some, bad 4 _ (by decide)]
    simp only [l1]
    by_cases c1 : t.2.2.2.1 < lo
    · rw [if_pos c1, if_pos (Or.inl c1)]
      exact ⟨_, j44, BD_fail h.1 (by decide), failM_gf⟩
    · rw [if_neg c1, bnd_eq]
      simp only [l2]
      by_cases c2 : hi < t.2.2.2.1
      · rw [if_pos c2, if_pos (Or.inr c2)]
        exact ⟨_, j44, BD_fail h.1 (by decide), failM_gf⟩
      · rw [if_neg c2, if_neg (fun z => z.elim c1 c2)]
        obtain ⟨f', g', a1, a2, a3⟩ := m_adv h
        unfold jn_X12_numeral_53
        rw [bnd_eq, gd, cal_some, if_neg (show ¬ (1 : Int32) = 0 by decide), a1, cal_some]
        simp only [e9]
        unfold jn_X12_numeral_69
        rw [isGood_0 a2.1.2.2.2.2.1, cal_some, if_neg (show ¬ (1 : Int32) = 0 by decide)]
        exact ⟨f', g', rfl, a2, a3⟩
  · rw [if_neg c, if_neg c, X12_misplaced h.1, cal_some]
    unfold jn_X12_numeral_21
    rw [isGood_n cs12 failM_4.1, cal_some, if_pos rfl, bad _ _ cs12]
    exact ⟨_, rfl, BD_fail h.1 cs12, failM_gf⟩
/-- a word, then a number -/
theorem m_after {k : Nat} (hk : k < 18) {w : Int64} (hw : w = Int64.ofNat (kwM.getD k 0)) (h : MDT f g B L rb D t) {lo hi : Nat} (hlo : lo ≤ 10) (hhi : hi ≤ 1000) : match bR (pTk (tk B L) k t) (pNu (tk B L) lo hi) with
    | .inl e => ∃ f' g', f_X12_after w (Int32.ofNat lo) (Int32.ofNat hi) (f, g) = some (Int32.ofNat lo, (f', g')) ∧ BDm f' g' B L rb e ∧ GF f f' g g'
    | .inr x => ∃ f' g', f_X12_after w (Int32.ofNat lo) (Int32.ofNat hi) (f, g) = some (Int32.ofNat x.1, (f', g')) ∧ MDT f' g' B L rb D x.2 ∧ GF f f' g g' := by
  have s := m_must (k := k) h (v := if t.1 = k then 1 else 0) rfl
  unfold f_X12_after
  rw [X12_isWord h.1.1 h.k hk hw, cal_some]
  rcases hx : pTk (tk B L) k t with e | t'
  · rw [hx] at s
    obtain ⟨f1, a1, a2, a3⟩ := s
    rw [a1, cal_some, bad_num a2, cal2_some]
    exact ⟨f1, g, rfl, a2, a3⟩
  · rw [hx] at s
    obtain ⟨f1, g1, a1, a2, a3⟩ := s
    have s2 := m_num a2 hlo hhi
    rw [a1, cal_some, bR_r]
    rcases hy : pNu (tk B L) lo hi t' with e | x
    · rw [hy] at s2
      obtain ⟨f2, b1, b2, b3⟩ := s2
      rw [b1, cal2_some]
      exact ⟨f2, g1, rfl, b2, a3.trans b3⟩
    · rw [hy] at s2
      obtain ⟨f2, g2, b1, b2, b3⟩ := s2
      rw [b1, cal2_some]
      exact ⟨f2, g2, rfl, b2, a3.trans b3⟩
theorem here_430 (h : MDT f g B L rb D t) (hn : D.1 0 ≤ 4) : ∀ m k i, i + m = D.1 0 → lp_X12_here_413_430_3 (Int32.ofNat (4 * rb)) (Int32.ofNat (D.1 0)) (f, g) (k + m + 1) (Int32.ofNat i) = some (if t.1 = 30 then (if fndN (D.2.1 0) t.2.2.2.2 m i = 99 then -1 else Int32.ofNat (fndN (D.2.1 0) t.2.2.2.2 m i)) else -1) := by
  have hrb := h.1.2.2.1
  intro m
  induction m with
  | zero =>
    intro k i hi
    rw [lp_X12_here_413_430_3, if_neg (by rw [on_lt (by omega) (by omega)]; omega)]
    rw [fndN]
    simp
  | succ m ih =>
    intro k i hi
    rw [lp_X12_here_413_430_3, if_pos (by rw [on_lt (by omega) (by omega)]; omega), bnd_eq]
    simp only [h.1.1.2.2.1, (mtk_n h.k).2.1]
    by_cases c : t.1 = 30
    · obtain ⟨⟨M, g1, g2⟩, -⟩ := h.2.2.1 i (by omega)
      obtain ⟨M', m1, m2, -⟩ := h.1.1.2.2.2.2.1 (Or.inr c)
      rw [if_pos c, if_pos c, on_add]
      unfold rdL
      rw [if_pos (on_in (by omega) (by decide)), on_nat (by omega)]
      simp only
      rw [bnd_eq]
      simp only [g1, m1]
      rw [fndN]
      have e : D.2.1 0 i = t.2.2.2.2 ↔ Int64.ofNat M = Int64.ofNat M' := by rw [on64 (WMr_lt g2).2 (WMr_lt m2).2]; exact WMr_eq g2 m2
      by_cases c2 : D.2.1 0 i = t.2.2.2.2
      · rw [if_pos (lgc.mpr (e.mp c2)), if_pos c2, if_neg (by omega)]
      · rw [if_neg (fun z => c2 (e.mpr (lgc.mp z))), if_neg c2, on_succ]
        have := ih k (i + 1) (by omega)
        rw [if_pos c] at this
        exact this
    · rw [if_neg c, if_neg c, on_succ]
      have := ih k (i + 1) (by omega)
      rw [if_neg c] at this
      exact this
theorem here_431 (h : MDT f g B L rb D t) (hn : D.1 1 ≤ 6) : ∀ m k i, i + m = D.1 1 → lp_X12_here_413_431_3 (Int32.ofNat (6 * rb)) (Int32.ofNat (D.1 1)) (f, g) (k + m + 1) (Int32.ofNat i) = some (if t.1 = 30 then (if fndN (D.2.1 2) t.2.2.2.2 m i = 99 then -1 else Int32.ofNat (fndN (D.2.1 2) t.2.2.2.2 m i)) else -1) := by
  have hrb := h.1.2.2.1
  intro m
  induction m with
  | zero =>
    intro k i hi
    rw [lp_X12_here_413_431_3, if_neg (by rw [on_lt (by omega) (by omega)]; omega)]
    rw [fndN]
    simp
  | succ m ih =>
    intro k i hi
    rw [lp_X12_here_413_431_3, if_pos (by rw [on_lt (by omega) (by omega)]; omega), bnd_eq]
    simp only [h.1.1.2.2.1, (mtk_n h.k).2.1]
    by_cases c : t.1 = 30
    · obtain ⟨⟨M, g1, g2⟩, -⟩ := h.2.2.2.1 i (by omega)
      obtain ⟨M', m1, m2, -⟩ := h.1.1.2.2.2.2.1 (Or.inr c)
      rw [if_pos c, if_pos c, on_add]
      unfold rdL
      rw [if_pos (on_in (by omega) (by decide)), on_nat (by omega)]
      simp only
      rw [bnd_eq]
      simp only [g1, m1]
      rw [fndN]
      have e : D.2.1 2 i = t.2.2.2.2 ↔ Int64.ofNat M = Int64.ofNat M' := by rw [on64 (WMr_lt g2).2 (WMr_lt m2).2]; exact WMr_eq g2 m2
      by_cases c2 : D.2.1 2 i = t.2.2.2.2
      · rw [if_pos (lgc.mpr (e.mp c2)), if_pos c2, if_neg (by omega)]
      · rw [if_neg (fun z => c2 (e.mpr (lgc.mp z))), if_neg c2, on_succ]
        have := ih k (i + 1) (by omega)
        rw [if_pos c] at this
        exact this
    · rw [if_neg c, if_neg c, on_succ]
      have := ih k (i + 1) (by omega)
      rw [if_neg c] at this
      exact this
theorem bx4 {b t : Nat} : (4 : Int32) * Int32.ofNat b = Int32.ofNat (4 * b) := (Int32.ofNat_mul 4 b).symm
theorem bx6 {b t : Nat} : (6 : Int32) * Int32.ofNat b = Int32.ofNat (6 * b) := (Int32.ofNat_mul 6 b).symm
theorem X12_roomHere (h : MDT f g B L rb D t) (hn : D.1 0 ≤ 4) : f_X12_roomHere (f, g) = some (if t.1 = 30 then (if fndN (D.2.1 0) t.2.2.2.2 (D.1 0) 0 = 99 then -1 else Int32.ofNat (fndN (D.2.1 0) t.2.2.2.2 (D.1 0) 0)) else -1) := by
  have hh := here_430 h hn (D.1 0) (3999 - D.1 0) 0 (by omega)
  rw [show 3999 - D.1 0 + D.1 0 + 1 = 4000 by omega] at hh
  have hh' : f_X12_here_413_430 (Int32.ofNat (4 * rb)) (Int32.ofNat (D.1 0)) (f, g) = _ := hh
  unfold f_X12_roomHere
  rw [bnd_eq, bnd_eq]
  simp only [h.1.2.2.2.1]
  rw [rdI_n h.1.2.2.1 (by decide)]
  simp only [h.2.1.1]
  rw [bx4 (t := 0), hh', cal_some]
/-- a new name -/
theorem m_fresh {names : Nat → Nat} {n : Nat} (hn : n ≤ 6) (h : MDT f g B L rb D t) {x : Int32} (hx : x = if t.1 = 30 then (if fndN names t.2.2.2.2 n 0 = 99 then -1 else Int32.ofNat (fndN names t.2.2.2.2 n 0)) else -1) : match pNm (tk B L) names n t with
    | .inl e => ∃ v f', f_X12_fresh x (f, g) = some (v, (f', g)) ∧ BDm f' g B L rb e ∧ GF f f' g g
    | .inr y => ∃ M f' g', f_X12_fresh x (f, g) = some (Int64.ofNat M, (f', g')) ∧ WMr y.1 M ∧ MDT f' g' B L rb D y.2 ∧ GF f f' g g' := by
  have hk := h.k
  unfold f_X12_fresh pNm
  rw [isGood_0 h.1.2.2.2.2.1, cal_some, if_neg (show ¬ (1 : Int32) = 0 by decide), bnd_eq]
  simp only [h.1.1.2.2.1, (mtk_n hk).2.1]
  have f99 := fnd_99 (names := names) (w := t.2.2.2.2) (m := n) (i := 0) (by omega)
  by_cases c : t.1 = 30
  · obtain ⟨M, m1, m2, -⟩ := h.1.1.2.2.2.2.1 (Or.inr c)
    rw [if_pos c, if_pos c]
    rw [if_pos c] at hx
    by_cases c9 : fndN names t.2.2.2.2 n 0 = 99
    · rw [if_pos c9] at hx ⊢
      rw [hx, if_pos (by decide)]
      unfold jn_X12_fresh_37
      obtain ⟨f', g', a1, a2, a3⟩ := m_adv h
      rw [bnd_eq, isGood_0 h.1.2.2.2.2.1, cal_some, if_neg (show ¬ (1 : Int32) = 0 by decide), a1, cal_some]
      simp only [m1]
      exact ⟨M, f', g', rfl, m2, a2, a3⟩
    · rw [if_neg c9] at hx ⊢
      rw [hx, if_neg (nneg (by omega)), bnd_eq]
      simp only [h.1.1.1]
      have := X12_fails (g := g) h.1.2.2.2.2.1 3 t.2.1
      have e3 : Int32.ofNat 3 = 3 := rfl
      rw [e3] at this
      rw [this, cal_some]
      unfold jn_X12_fresh_37
      rw [bnd_eq, isGood_n (c := 3) (by decide) failM_4.1, cal_some, if_pos rfl]
      exact ⟨_, _, rfl, BD_fail h.1 (by decide), failM_gf⟩
  · rw [if_neg c, if_neg c, X12_misplaced h.1, cal_some]
    unfold jn_X12_fresh_37
    rw [bnd_eq, isGood_n cs12 failM_4.1, cal_some, if_pos rfl]
    exact ⟨_, _, rfl, BD_fail h.1 cs12, failM_gf⟩
end LA
