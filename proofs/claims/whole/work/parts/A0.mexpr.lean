/-! the model's stack and what it asks of a token -/
def mch (k : Nat) : Nat := if k = 29 then 110 else if k = 3 then 98 else if k = 14 then 97 else if k = 15 then 108 else if k = 16 then 109 else if k = 17 then 121 else if k = 11 then 124 else if k = 12 then 38 else if k = 13 then 126 else if k = 21 then 60 else if k = 22 then 62 else if k = 23 then 61 else if k = 24 then 43 else if k = 25 then 45 else if k = 26 then 42 else if k = 27 then 47 else if k = 28 then 37 else 0
def rkO (k : Nat) : Nat := if k = 12 then 2 else if k = 11 then 1 else if k = 21 then 4 else if k = 22 then 4 else if k = 23 then 4 else if k = 24 then 5 else if k = 25 then 5 else if k = 26 then 6 else if k = 27 then 6 else if k = 28 then 6 else 0
def STm (f : Nat → Nat → Int32) : List (Nat × Nat) → Prop
  | [] => True
  | (a, k) :: S => f 434 S.length = Int32.ofNat a ∧ (a ≤ 6 → f 435 S.length = Int32.ofNat (mch k)) ∧ a ≤ 8 ∧ STm f S
def CLm (f : Nat → Nat → Int32) (b : Nat) : List (Nat × Nat) → Prop
  | [] => True
  | (k, n) :: C => f 432 (b + C.length) = Int32.ofNat (mch k) ∧ (k = 29 → f 433 (b + C.length) = Int32.ofNat n) ∧ CLm f b C
/-- no fault so far -/
def OK4 (f : Nat → Nat → Int32) : Prop := f 413 4 = 0 ∧ f 413 5 = -1
/-- fit to go on -/
def MG (f : Nat → Nat → Int32) (g : (Nat → Nat → Int64) × (Nat → Nat → Option Nat)) (B : Nat → Nat) (L rb : Nat) (t : TK) : Prop := MT f g B L t ∧ TPm f B L ∧ rb < 2 ∧ f 413 33 = Int32.ofNat rb ∧ OK4 f ∧ TV B L t
def ME (f : Nat → Nat → Int32) (g : (Nat → Nat → Int64) × (Nat → Nat → Option Nat)) (B : Nat → Nat) (L rb : Nat) (t : TK) (S : List (Nat × Nat)) (w u : Nat) (C : List (Nat × Nat)) : Prop := MG f g B L rb t ∧ f 413 36 = Int32.ofNat S.length ∧ f 413 35 = Int32.ofNat w ∧ f 418 rb = Int32.ofNat u ∧ f 413 37 = Int32.ofNat u ∧ f 413 34 = Int32.ofNat (560 * rb + C.length) ∧ STm f S ∧ CLm f (560 * rb) C
def MFr (rb : Nat) (f f' : Nat → Nat → Int32) (g g' : (Nat → Nat → Int64) × (Nat → Nat → Option Nat)) : Prop := (∀ a, a ≠ 413 → a ≠ 418 → a ≠ 432 → a ≠ 433 → a ≠ 434 → a ≠ 435 → f' a = f a) ∧ (∀ k, ¬ (4 ≤ k ∧ k ≤ 9) → ¬ (34 ≤ k ∧ k ≤ 37) → f' 413 k = f 413 k) ∧ (∀ i, i ≠ rb → f' 418 i = f 418 i) ∧ (∀ i, ¬ (560 * rb ≤ i ∧ i < 560 * rb + 560) → f' 432 i = f 432 i ∧ f' 433 i = f 433 i) ∧ g'.2 = g.2 ∧ ∀ a, a ≠ 413 → g'.1 a = g.1 a
theorem MFr.refl {rb : Nat} {f : Nat → Nat → Int32} {g : (Nat → Nat → Int64) × (Nat → Nat → Option Nat)} : MFr rb f f g g := ⟨fun _ _ _ _ _ _ _ => rfl, fun _ _ _ => rfl, fun _ _ => rfl, fun _ _ => ⟨rfl, rfl⟩, rfl, fun _ _ => rfl⟩
theorem MFr.trans {rb : Nat} {f f' f'' : Nat → Nat → Int32} {g g' g'' : (Nat → Nat → Int64) × (Nat → Nat → Option Nat)} (h : MFr rb f f' g g') (h' : MFr rb f' f'' g' g'') : MFr rb f f'' g g'' := ⟨fun a z1 z2 z3 z4 z5 z6 => (h'.1 a z1 z2 z3 z4 z5 z6).trans (h.1 a z1 z2 z3 z4 z5 z6), fun k z1 z2 => (h'.2.1 k z1 z2).trans (h.2.1 k z1 z2), fun i z => (h'.2.2.1 i z).trans (h.2.2.1 i z), fun i z => ⟨(h'.2.2.2.1 i z).1.trans (h.2.2.2.1 i z).1, (h'.2.2.2.1 i z).2.trans (h.2.2.2.1 i z).2⟩, h'.2.2.2.2.1.trans h.2.2.2.2.1, fun a z => (h'.2.2.2.2.2 a z).trans (h.2.2.2.2.2 a z)⟩
theorem STm_cong {f f' : Nat → Nat → Int32} : ∀ {S : List (Nat × Nat)}, (∀ i, i < S.length → f' 434 i = f 434 i) → (∀ i, i < S.length → f' 435 i = f 435 i) → STm f S → STm f' S
  | [], _, _, _ => trivial
  | (a, k) :: S, h1, h2, h => ⟨by rw [h1 _ (by simp)]; exact h.1, fun z => by rw [h2 _ (by simp)]; exact h.2.1 z, h.2.2.1, STm_cong (fun i hi => h1 i (by simp only [List.length_cons]; omega)) (fun i hi => h2 i (by simp only [List.length_cons]; omega)) h.2.2.2⟩
theorem CLm_cong {f f' : Nat → Nat → Int32} {b : Nat} : ∀ {C : List (Nat × Nat)}, (∀ i, i < C.length → f' 432 (b + i) = f 432 (b + i)) → (∀ i, i < C.length → f' 433 (b + i) = f 433 (b + i)) → CLm f b C → CLm f' b C
  | [], _, _, _ => trivial
  | (k, n) :: C, h1, h2, h => ⟨by rw [h1 _ (by simp)]; exact h.1, fun z => by rw [h2 _ (by simp)]; exact h.2.1 z, CLm_cong (fun i hi => h1 i (by simp only [List.length_cons]; omega)) (fun i hi => h2 i (by simp only [List.length_cons]; omega)) h.2.2⟩
section MX
variable {f : Nat → Nat → Int32} {g : (Nat → Nat → Int64) × (Nat → Nat → Option Nat)} {B : Nat → Nat} {L rb : Nat} {t : TK} {S : List (Nat × Nat)} {w u : Nat} {C : List (Nat × Nat)}
theorem mtk_3 {k : Nat} (hk : k ≤ 32) : Int32.ofNat (mtk k) = 3 ↔ k < 18 := by
  have z : ∀ k : Fin 33, Int32.ofNat (mtk k.val) = 3 ↔ k.val < 18 := by decide
  exact z ⟨k, by omega⟩
theorem mtk_n {k : Nat} (hk : k ≤ 32) : (Int32.ofNat (mtk k) = 1 ↔ k = 32) ∧ (Int32.ofNat (mtk k) = 2 ↔ k = 30) ∧ (Int32.ofNat (mtk k) = 4 ↔ k = 29) ∧ (Int32.ofNat (mtk k) = 0 ↔ k = 31) ∧ (Int32.ofNat (mtk k) = 5 ↔ 17 < k ∧ k < 29) := by
  have z : ∀ k : Fin 33, (Int32.ofNat (mtk k.val) = 1 ↔ k.val = 32) ∧ (Int32.ofNat (mtk k.val) = 2 ↔ k.val = 30) ∧ (Int32.ofNat (mtk k.val) = 4 ↔ k.val = 29) ∧ (Int32.ofNat (mtk k.val) = 0 ↔ k.val = 31) ∧ (Int32.ofNat (mtk k.val) = 5 ↔ 17 < k.val ∧ k.val < 29) := by decide
  exact z ⟨k, by omega⟩
theorem X12_isWord (h : MT f g B L t) (hk : t.1 ≤ 32) {i : Nat} (hi : i < 18) {c : Int64} (hc : c = Int64.ofNat (kwM.getD i 0)) : f_X12_isWord c (f, g) = some (if t.1 = i then 1 else 0) := by
  obtain ⟨h6, h7, h8, h9, h10, hs, hp⟩ := h
  unfold f_X12_isWord
  rw [bnd_eq]
  simp only [h8, mtk_3 hk]
  by_cases c18 : t.1 < 18
  · obtain ⟨M, m1, m2, m3⟩ := h10 (Or.inl c18)
    rw [if_pos c18, bnd_eq]
    simp only [m1]
    have := kwq m2 hi hc
    by_cases e : t.1 = i
    · rw [if_pos (this.mpr (by rw [← m3]; exact e)), if_pos e]
    · rw [if_neg (fun z => e (by rw [m3]; exact this.mp z)), if_neg e]
  · rw [if_neg c18, if_neg (by omega)]
theorem X12_isSignHere (h : MT f g B L t) (T : TPm f B L) (hk : t.1 ≤ 32) {s c : Nat} (hc : c < 256) (hs : sgK c = s) (h32 : s < 29) : f_X12_isSignHere (Int32.ofNat c) (f, g) = some (if t.1 = s then 1 else 0) := by
  obtain ⟨h6, h7, h8, h9, h10, hsg, hp⟩ := h
  have hs17 : 17 < s := by
    have z : ∀ c, sgK c = 32 ∨ 17 < sgK c := fun c => by unfold sgK; (repeat' split) <;> decide
    have := z c
    omega
  unfold f_X12_isSignHere
  rw [bnd_eq]
  simp only [h8, (mtk_n hk).2.2.2.2]
  by_cases c5 : 17 < t.1 ∧ t.1 < 29
  · rw [if_pos c5, bnd_eq]
    simp only [h6]
    rw [X12_sign T (by omega), cal_some]
    have e := hsg c5.1 c5.2
    have hch := ch_lt (p := t.2.1) T.2.2.2
    have inj : ∀ x, x < 256 → (x = c ↔ sgK x = s) := fun x hx => by
      have z : ∀ c : Fin 256, sgK c.val ≠ 32 → ∀ x : Fin 256, sgK x.val = sgK c.val → x.val = c.val := by decide +kernel
      constructor
      · intro q; rw [q]; exact hs
      · intro q; exact z ⟨c, hc⟩ (by simp only; omega) ⟨x, hx⟩ (q.trans hs.symm)
    by_cases e2 : chA B L t.2.1 = c
    · rw [if_pos (by rw [e2]), if_pos (by rw [e]; exact (inj _ hch).mp e2)]
    · rw [if_neg (fun z => e2 ((on_inj (by omega) (by omega)).mp z)), if_neg (fun z => e2 ((inj _ hch).mpr (by rw [← e]; exact z)))]
  · rw [if_neg c5, if_neg (fun z => c5 (by omega))]
theorem MG.k (h : MG f g B L rb t) : t.1 ≤ 32 := h.2.2.2.2.2.go.2.2.2
theorem X12_wordHere (h : MG f g B L rb t) : f_X12_wordHere (f, g) = some (if isPl t.1 = true ∧ t.1 ≠ 29 then Int32.ofNat (mch t.1) else 0) := by
  have hk := h.k
  have w3 : f_X12_isWord 1651862635 (f, g) = _ := X12_isWord h.1 hk (i := 3) (by decide) rfl
  have w14 : f_X12_isWord 418430675813 (f, g) = _ := X12_isWord h.1 hk (i := 14) (by decide) rfl
  have w15 : f_X12_isWord 1818584692 (f, g) = _ := X12_isWord h.1 hk (i := 15) (by decide) rfl
  have w16 : f_X12_isWord 1835101817 (f, g) = _ := X12_isWord h.1 hk (i := 16) (by decide) rfl
  have w17 : f_X12_isWord 2036687218 (f, g) = _ := X12_isWord h.1 hk (i := 17) (by decide) rfl
  unfold f_X12_wordHere
  rw [w3, w14, w15, w16, w17]
  simp only [cal_some]
  generalize t.1 = k at hk
  have z : ∀ k : Fin 33, (if (if k.val = 3 then (1 : Int32) else 0) = 0 then if (if k.val = 14 then (1 : Int32) else 0) = 0 then if (if k.val = 15 then (1 : Int32) else 0) = 0 then if (if k.val = 16 then (1 : Int32) else 0) = 0 then if (if k.val = 17 then (1 : Int32) else 0) = 0 then some (0 : Int32) else some 121 else some 109 else some 108 else some 97 else some 98) = some (if isPl k.val = true ∧ k.val ≠ 29 then Int32.ofNat (mch k.val) else 0) := by decide
  exact z ⟨k, by omega⟩
theorem X12_rankHere (h : MG f g B L rb t) : f_X12_rankHere (f, g) = some (Int32.ofNat (rkO t.1)) := by
  have hk := h.k
  have sg := fun (s c : Nat) (hc : c < 256) (hs : sgK c = s) (h32 : s < 29) => X12_isSignHere (g := g) h.1 h.2.1 hk hc hs h32
  have s60 : f_X12_isSignHere 60 (f, g) = _ := sg 21 60 (by decide) rfl (by decide)
  have s62 : f_X12_isSignHere 62 (f, g) = _ := sg 22 62 (by decide) rfl (by decide)
  have s61 : f_X12_isSignHere 61 (f, g) = _ := sg 23 61 (by decide) rfl (by decide)
  have s43 : f_X12_isSignHere 43 (f, g) = _ := sg 24 43 (by decide) rfl (by decide)
  have s45 : f_X12_isSignHere 45 (f, g) = _ := sg 25 45 (by decide) rfl (by decide)
  have s42 : f_X12_isSignHere 42 (f, g) = _ := sg 26 42 (by decide) rfl (by decide)
  have s47 : f_X12_isSignHere 47 (f, g) = _ := sg 27 47 (by decide) rfl (by decide)
  have s37 : f_X12_isSignHere 37 (f, g) = _ := sg 28 37 (by decide) rfl (by decide)
  have w12 : f_X12_isWord 6385252 (f, g) = _ := X12_isWord h.1 hk (i := 12) (by decide) rfl
  have w11 : f_X12_isWord 28530 (f, g) = _ := X12_isWord h.1 hk (i := 11) (by decide) rfl
  unfold f_X12_rankHere
  rw [w12, w11, s60, s62, s61, s43, s45, s42, s47, s37]
  simp only [cal_some]
  generalize t.1 = k at hk
  have z : ∀ k : Fin 33, (if (if k.val = 12 then (1 : Int32) else 0) = 0 then if (if k.val = 11 then (1 : Int32) else 0) = 0 then if (if k.val = 21 then (1 : Int32) else 0) = 0 then if (if k.val = 22 then (1 : Int32) else 0) = 0 then if (if k.val = 23 then (1 : Int32) else 0) = 0 then if (if k.val = 24 then (1 : Int32) else 0) = 0 then if (if k.val = 25 then (1 : Int32) else 0) = 0 then if (if k.val = 26 then (1 : Int32) else 0) = 0 then if (if k.val = 27 then (1 : Int32) else 0) = 0 then if (if k.val = 28 then (1 : Int32) else 0) = 0 then some (0 : Int32) else some 6 else some 6 else some 6 else some 5 else some 5 else some 4 else some 4 else some 4 else some 1 else some 2) = some (Int32.ofNat (rkO k.val)) := by decide
  exact z ⟨k, by omega⟩
def failM (f : Nat → Nat → Int32) (c p : Nat) : Nat → Nat → Int32 := am_u2 (am_u2 f 413 4 (Int32.ofNat c)) 413 5 (Int32.ofNat p)
theorem X12_fails (h : OK4 f) (c p : Nat) : f_X12_fails (Int32.ofNat c) (Int32.ofNat p) (f, g) = some (failM f c p, g) := by
  unfold f_X12_fails
  rw [bnd_eq]
  simp only [h.1]
  rw [if_neg (by decide), ptI_eq, ptI_eq]
  rfl
theorem X12_misplaced (h : MG f g B L rb t) : f_X12_misplaced (f, g) = some (failM f (if t.1 = 32 then 1 else 2) t.2.1, g) := by
  have hk := h.k
  have f1 : f_X12_fails 1 (Int32.ofNat t.2.1) (f, g) = _ := X12_fails h.2.2.2.2.1 1 t.2.1
  have f2 : f_X12_fails 2 (Int32.ofNat t.2.1) (f, g) = _ := X12_fails h.2.2.2.2.1 2 t.2.1
  unfold f_X12_misplaced
  rw [bnd_eq]
  simp only [h.1.2.2.1, (mtk_n hk).1]
  by_cases c : t.1 = 32
  · rw [if_pos c, if_pos c, bnd_eq]; simp only [h.1.1]; rw [f1, cal_some]
  · rw [if_neg c, if_neg c, bnd_eq]; simp only [h.1.1]; rw [f2, cal_some]
theorem isGood_0 (h : OK4 f) : f_X12_isGood (f, g) = some 1 := by
  unfold f_X12_isGood
  rw [bnd_eq]
  simp only [h.1, if_true]
theorem isGood_n {c : Nat} (hc : 0 < c ∧ c < 10) (h : f 413 4 = Int32.ofNat c) : f_X12_isGood (f, g) = some 0 := by
  unfold f_X12_isGood
  rw [bnd_eq]
  simp only [h]
  have hn : ¬ Int32.ofNat c = 0 := by rw [on_zero (by omega)]; omega
  rw [if_neg hn]
theorem failM_4 {c p : Nat} : failM f c p 413 4 = Int32.ofNat c ∧ failM f c p 413 5 = Int32.ofNat p := ⟨by unfold failM; rw [au_nk (by decide), au_same], by unfold failM; rw [au_same]⟩
theorem failM_fr {c p : Nat} : MFr rb f (failM f c p) g g := ⟨fun a z _ _ _ _ _ => by unfold failM; rw [u2_ne z, u2_ne z], fun k z1 z2 => by unfold failM; rw [au_nk (by omega), au_nk (by omega)], fun i z => by unfold failM; rw [u2_ne (by decide), u2_ne (by decide)], fun i z => by unfold failM; rw [u2_ne (by decide), u2_ne (by decide), u2_ne (by decide), u2_ne (by decide)]; exact ⟨rfl, rfl⟩, rfl, fun _ _ => rfl⟩
/-- on to the next token -/
theorem MG_fr {f' : Nat → Nat → Int32} (hk : ∀ k, (k = 3 ∨ k = 4 ∨ k = 5 ∨ k = 6 ∨ k = 7 ∨ k = 8 ∨ k = 9 ∨ k = 33) → f' 413 k = f 413 k) (h415 : f' 415 = f 415) (h : MG f g B L rb t) : MG f' g B L rb t := by
  obtain ⟨⟨a1, a2, a3, a4, a5, a6, a7⟩, T, hb, h33, h4, tv⟩ := h
  exact ⟨⟨by rw [hk 6 (by decide)]; exact a1, by rw [hk 7 (by decide)]; exact a2, by rw [hk 8 (by decide)]; exact a3, fun z => by rw [hk 9 (by decide)]; exact a4 z, a5, a6, a7⟩, TPm_fr (hk 3 (by decide)) h415 T, hb, by rw [hk 33 (by decide)]; exact h33, ⟨by rw [hk 4 (by decide)]; exact h4.1, by rw [hk 5 (by decide)]; exact h4.2⟩, tv⟩
theorem mgo (h : MG f g B L rb t) : ∃ f' g', f_X12_goOn (f, g) = some (f', g') ∧ MG f' g' B L rb (tk B L t.2.2.1) ∧ (∀ a, a ≠ 413 → f' a = f a) ∧ (∀ k, k ≠ 6 → k ≠ 7 → k ≠ 8 → k ≠ 9 → f' 413 k = f 413 k) ∧ g'.2 = g.2 ∧ (∀ a, a ≠ 413 → g'.1 a = g.1 a) ∧ MFr rb f f' g g' := by
  obtain ⟨h1, T, hb, h33, h4, tv⟩ := h
  obtain ⟨f', g', a1, a2, a3, a4, a5, a6, a7⟩ := X12_goOn (g := g) T h1.2.1 tv.go.2.1
  exact ⟨f', g', a1, ⟨a2, a3, hb, by rw [a5 33 (by decide) (by decide) (by decide) (by decide)]; exact h33, ⟨by rw [a5 4 (by decide) (by decide) (by decide) (by decide)]; exact h4.1, by rw [a5 5 (by decide) (by decide) (by decide) (by decide)]; exact h4.2⟩, tv.go.1⟩, a4, a5, a6, a7, ⟨fun a z _ _ _ _ _ => a4 a z, fun k z1 z2 => a5 k (by omega) (by omega) (by omega) (by omega), fun i _ => by rw [a4 418 (by decide)], fun i _ => by rw [a4 432 (by decide), a4 433 (by decide)]; exact ⟨rfl, rfl⟩, a6, a7⟩⟩
theorem ME_go (h : ME f g B L rb t S w u C) : ∃ f' g', f_X12_goOn (f, g) = some (f', g') ∧ ME f' g' B L rb (tk B L t.2.2.1) S w u C ∧ MFr rb f f' g g' := by
  obtain ⟨hG, h36, h35, h418, h37, h34, hS, hC⟩ := h
  obtain ⟨f', g', a1, a2, a3, a4, a5, a6, a7⟩ := mgo hG
  exact ⟨f', g', a1, ⟨a2, by rw [a4 36 (by decide) (by decide) (by decide) (by decide)]; exact h36, by rw [a4 35 (by decide) (by decide) (by decide) (by decide)]; exact h35, by rw [a3 418 (by decide)]; exact h418, by rw [a4 37 (by decide) (by decide) (by decide) (by decide)]; exact h37, by rw [a4 34 (by decide) (by decide) (by decide) (by decide)]; exact h34, STm_cong (fun i _ => by rw [a3 434 (by decide)]) (fun i _ => by rw [a3 435 (by decide)]) hS, CLm_cong (fun i _ => by rw [a3 432 (by decide)]) (fun i _ => by rw [a3 433 (by decide)]) hC⟩, a7⟩
theorem ME_push (h : ME f g B L rb t S w u C) (hl : S.length < 90) (a : Nat) (s : Int32) (k : Nat) (ha : a ≤ 8) (hs : a ≤ 6 → s = Int32.ofNat (mch k)) : ∃ f', f_X12_pushE (Int32.ofNat a) s (f, g) = some (f', g) ∧ ME f' g B L rb t ((a, k) :: S) w u C ∧ MFr rb f f' g g := by
  obtain ⟨hG, h36, h35, h418, h37, h34, hS, hC⟩ := h
  let f' := am_u2 (am_u2 (am_u2 f 434 S.length (Int32.ofNat a)) 435 S.length s) 413 36 (Int32.ofNat (S.length + 1))
  have fr : ∀ b, b ≠ 413 → b ≠ 434 → b ≠ 435 → f' b = f b := fun b z1 z2 z3 => by show am_u2 (am_u2 (am_u2 _ _ _ _) _ _ _) _ _ _ b = _; rw [u2_ne z1, u2_ne z3, u2_ne z2]
  have fk : ∀ k, k ≠ 36 → f' 413 k = f 413 k := fun k z => by show am_u2 (am_u2 (am_u2 _ _ _ _) _ _ _) _ _ _ 413 k = _; rw [au_nk z, u2_ne (by decide), u2_ne (by decide)]
  refine ⟨f', ?_, ⟨MG_fr (fun k z => fk k (by omega)) (fr 415 (by decide) (by decide) (by decide)) hG, ?_, by rw [fk 35 (by decide)]; exact h35, by rw [fr 418 (by decide) (by decide) (by decide)]; exact h418, by rw [fk 37 (by decide)]; exact h37, by rw [fk 34 (by decide)]; exact h34, ⟨?_, ?_, ha, STm_cong (f := f) (fun i hi => ?_) (fun i hi => ?_) hS⟩, CLm_cong (fun i _ => by rw [fr 432 (by decide) (by decide) (by decide)]) (fun i _ => by rw [fr 433 (by decide) (by decide) (by decide)]) hC⟩, ⟨fun b z1 z2 z3 z4 z5 z6 => fr b z1 z5 z6, fun k z1 z2 => fk k (by omega), fun i _ => by rw [fr 418 (by decide) (by decide) (by decide)], fun i _ => by rw [fr 432 (by decide) (by decide) (by decide), fr 433 (by decide) (by decide) (by decide)]; exact ⟨rfl, rfl⟩, rfl, fun _ _ => rfl⟩⟩
  · unfold f_X12_pushE
    rw [bnd_eq]
    simp only [h36]
    rw [wrI_n hl (by decide), bnd_eq]
    simp only [u2_ne (show (413 : Nat) ≠ 434 by decide), h36]
    rw [wrI_n hl (by decide), bnd_eq, ptI_eq]
    simp only [u2_ne (show (413 : Nat) ≠ 434 by decide), u2_ne (show (413 : Nat) ≠ 435 by decide), h36, on_succ]
    rfl
  · show am_u2 _ 413 36 _ 413 36 = _
    rw [au_same]; rfl
  · show am_u2 _ 413 36 _ 434 _ = _
    rw [u2_ne (by decide), u2_ne (by decide), au_same]
  · intro z
    show am_u2 _ 413 36 _ 435 _ = _
    rw [u2_ne (by decide), au_same]; exact hs z
  · show am_u2 _ 413 36 _ 434 _ = _
    rw [u2_ne (by decide), u2_ne (by decide), au_nk (by omega)]
  · show am_u2 _ 413 36 _ 435 _ = _
    rw [u2_ne (by decide), au_nk (by omega), u2_ne (by decide)]
theorem ME_emit (h : ME f g B L rb t S w u C) (hl : C.length < 560) (k : Nat) (v : Int32) (n : Nat) (hv : k = 29 → v = Int32.ofNat n) : ∃ f', f_X12_emit (Int32.ofNat (mch k)) v (f, g) = some (f', g) ∧ ME f' g B L rb t S w u ((k, n) :: C) ∧ MFr rb f f' g g := by
  obtain ⟨hG, h36, h35, h418, h37, h34, hS, hC⟩ := h
  have hrb := hG.2.2.1
  let f' := am_u2 (am_u2 (am_u2 f 432 (560 * rb + C.length) (Int32.ofNat (mch k))) 433 (560 * rb + C.length) v) 413 34 (Int32.ofNat (560 * rb + (C.length + 1)))
  have fr : ∀ b, b ≠ 413 → b ≠ 432 → b ≠ 433 → f' b = f b := fun b z1 z2 z3 => by show am_u2 (am_u2 (am_u2 _ _ _ _) _ _ _) _ _ _ b = _; rw [u2_ne z1, u2_ne z3, u2_ne z2]
  have fk : ∀ k, k ≠ 34 → f' 413 k = f 413 k := fun k z => by show am_u2 (am_u2 (am_u2 _ _ _ _) _ _ _) _ _ _ 413 k = _; rw [au_nk z, u2_ne (by decide), u2_ne (by decide)]
  have c1 : ∀ i, i ≠ 560 * rb + C.length → f' 432 i = f 432 i := fun i z => by
    show am_u2 _ 413 34 _ 432 _ = _
    rw [u2_ne (by decide), u2_ne (by decide), au_nk z]
  have c2 : ∀ i, i ≠ 560 * rb + C.length → f' 433 i = f 433 i := fun i z => by
    show am_u2 _ 413 34 _ 433 _ = _
    rw [u2_ne (by decide), au_nk z, u2_ne (by decide)]
  refine ⟨f', ?_, ⟨MG_fr (fun k z => fk k (by omega)) (fr 415 (by decide) (by decide) (by decide)) hG, by rw [fk 36 (by decide)]; exact h36, by rw [fk 35 (by decide)]; exact h35, by rw [fr 418 (by decide) (by decide) (by decide)]; exact h418, by rw [fk 37 (by decide)]; exact h37, ?_, STm_cong (fun i _ => by rw [fr 434 (by decide) (by decide) (by decide)]) (fun i _ => by rw [fr 435 (by decide) (by decide) (by decide)]) hS, ⟨?_, ?_, CLm_cong (f := f) (fun i hi => c1 _ (by omega)) (fun i hi => c2 _ (by omega)) hC⟩⟩, ⟨fun b z1 z2 z3 z4 z5 z6 => fr b z1 z3 z4, fun k z1 z2 => fk k (by omega), fun i _ => by rw [fr 418 (by decide) (by decide) (by decide)], fun i z => ⟨c1 i (by omega), c2 i (by omega)⟩, rfl, fun _ _ => rfl⟩⟩
  · unfold f_X12_emit
    rw [bnd_eq]
    simp only [h34]
    rw [wrI_n (by omega) (by decide), bnd_eq]
    simp only [u2_ne (show (413 : Nat) ≠ 432 by decide), h34]
    rw [wrI_n (by omega) (by decide), bnd_eq, ptI_eq]
    simp only [u2_ne (show (413 : Nat) ≠ 432 by decide), u2_ne (show (413 : Nat) ≠ 433 by decide), h34, on_succ]
    rfl
  · show am_u2 _ 413 34 _ 413 34 = _
    rw [au_same]; rfl
  · show am_u2 _ 413 34 _ 432 _ = _
    rw [u2_ne (by decide), u2_ne (by decide), au_same]
  · intro z
    show am_u2 _ 413 34 _ 433 _ = _
    rw [u2_ne (by decide), au_same]; exact hv z
end MX
