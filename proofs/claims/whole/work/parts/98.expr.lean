/-! what comes of two, read on paper and by the class -/
abbrev PR := (Nat × Nat) ⊕ (TK × Nat × List (Nat × Nat))
def csE (t : TK) : PR := .inl (if t.1 = 32 then 1 else 2, t.2.1)
def lvO (k : Nat) : Nat := if k = 11 then 1 else if k = 12 then 2 else if k = 21 then 3 else if k = 22 then 3 else if k = 23 then 3 else if k = 24 then 4 else if k = 25 then 4 else if k = 26 then 5 else if k = 27 then 5 else if k = 28 then 5 else 6
def isPl (k : Nat) : Bool := k == 29 || k == 3 || k == 14 || k == 15 || k == 16 || k == 17
abbrev RPt := Nat → Nat → TK → Nat → List (Nat × Nat) → PR
def PU (T : Nat → TK) (rp : RPt) (w : Nat) (t : TK) (u : Nat) (C : List (Nat × Nat)) : PR :=
  if isPl t.1 = true then (if 30 ≤ u then csE t else .inr (T t.2.2.1, u + 1, (t.1, t.2.2.2.1) :: C))
  else if t.1 = 19 ∧ w ≤ 6 then (if 30 ≤ u then csE t else match rp 1 (w + 1) (T t.2.2.1) (u + 1) C with
    | .inl (c, p) => .inl (c, p)
    | .inr (t', u', C') => if t'.1 = 20 then .inr (T t'.2.2.1, u', C') else csE t')
  else csE t
def PLp (T : Nat → TK) (rp : RPt) (level w : Nat) : Nat → TK → Nat → List (Nat × Nat) → PR
  | 0, t, u, C => .inr (t, u, C)
  | m + 1, t, u, C => if lvO t.1 = level then (match rp (level + 1) w (T t.2.2.1) u C with
    | .inl (c, p) => .inl (c, p)
    | .inr (t', u', C') => PLp T rp level w m t' u' ((t.1, 0) :: C')) else .inr (t, u, C)
def PJ (T : Nat → TK) (rp : RPt) (level w : Nat) (t : TK) (u : Nat) (C : List (Nat × Nat)) : PR :=
  match rp (level + 1) w t u C with
  | .inl (c, p) => .inl (c, p)
  | .inr (t', u', C') => PLp T rp level w (if level = 3 then 1 else 30) t' u' C'
def PN (T : Nat → TK) (rp : RPt) (w : Nat) (t : TK) (u : Nat) (C : List (Nat × Nat)) : PR :=
  if 6 < w then csE t else match rp 3 (w + 1) (T t.2.2.1) u C with
  | .inl (c, p) => .inl (c, p)
  | .inr (t', u', C') => .inr (t', u', (13, 0) :: C')
def PE (T : Nat → TK) : Nat → RPt
  | 0 => fun _ _ _ _ _ => .inl (0, 0)
  | n + 1 => fun level w t u C => if level < 6 then (if level = 3 ∧ t.1 = 13 then PN T (PE T n) w t u C else PJ T (PE T n) level w t u C) else PU T (PE T n) w t u C
def TV (B : Nat → Nat) (L : Nat) (t : TK) : Prop := ∃ p, p ≤ L ∧ t = tk B L p
theorem TV.go {B : Nat → Nat} {L : Nat} {t : TK} (h : TV B L t) : TV B L (tk B L t.2.2.1) ∧ t.2.2.1 ≤ L ∧ t.2.1 ≤ L ∧ t.1 ≤ 32 := by
  obtain ⟨p, hp, rfl⟩ := h
  obtain ⟨h1, h2, h3, h4, h5, h6⟩ := tk_ok B hp
  exact ⟨⟨_, h3, rfl⟩, h3, h2, h6⟩
/-- what a reading leaves -/
def SZ (B : Nat → Nat) (L w u : Nat) (C : List (Nat × Nat)) : PR → Prop
  | .inl _ => True
  | .inr (t', u', C') => C'.length + 1 + w + 9 * u ≤ C.length + 9 * u' ∧ u < u' ∧ u' ≤ 30 ∧ TV B L t'
def SRP (B : Nat → Nat) (L : Nat) (rp : RPt) : Prop := ∀ level w t u C, w ≤ 7 → TV B L t → SZ B L w u C (rp level w t u C)
section PZ
variable {B : Nat → Nat} {L : Nat}
theorem SZ_cs {w u : Nat} {C : List (Nat × Nat)} {t : TK} : SZ B L w u C (csE t) := trivial
theorem SZ_pl {rp : RPt} (h : SRP B L rp) {level w : Nat} (hw : w ≤ 7) : ∀ m t u C, TV B L t → u ≤ 30 → ∀ u0 (C0 : List (Nat × Nat)), C.length + 1 + w + 9 * u0 ≤ C0.length + 9 * u → u0 < u → SZ B L w u0 C0 (PLp (tk B L) rp level w m t u C)
  | 0, t, u, C, ht, hu, u0, C0, h1, h2 => ⟨h1, h2, hu, ht⟩
  | m + 1, t, u, C, ht, hu, u0, C0, h1, h2 => by
    rw [PLp]
    by_cases c : lvO t.1 = level
    · rw [if_pos c]
      have s := h (level + 1) w (tk B L t.2.2.1) u C hw ht.go.1
      revert s
      generalize rp (level + 1) w (tk B L t.2.2.1) u C = r
      intro s
      rcases r with ⟨c, p⟩ | ⟨t', u', C'⟩
      · trivial
      ·
        obtain ⟨s1, s2, s3, s4⟩ := s
        exact SZ_pl h hw m t' u' _ s4 s3 u0 C0 (by simp only [List.length_cons]; omega) (by omega)
    · rw [if_neg c]; exact ⟨h1, h2, hu, ht⟩
theorem SZ_pe : ∀ n, SRP B L (PE (tk B L) n)
  | 0 => fun _ _ _ _ _ _ _ => trivial
  | n + 1 => fun level w t u C hw ht => by
    have ih := SZ_pe n
    rw [PE]
    simp only
    by_cases c : level < 6
    · rw [if_pos c]
      by_cases c1 : level = 3 ∧ t.1 = 13
      · rw [if_pos c1, PN]
        by_cases c2 : 6 < w
        · rw [if_pos c2]; trivial
        · rw [if_neg c2]
          have s := ih 3 (w + 1) (tk B L t.2.2.1) u C (by omega) ht.go.1
          revert s
          generalize PE (tk B L) n 3 (w + 1) (tk B L t.2.2.1) u C = r
          intro s
          rcases r with ⟨c, p⟩ | ⟨t', u', C'⟩
          · trivial
          ·
            obtain ⟨s1, s2, s3, s4⟩ := s
            exact ⟨by simp only [List.length_cons]; omega, s2, s3, s4⟩
      · rw [if_neg c1, PJ]
        have s := ih (level + 1) w t u C hw ht
        revert s
        generalize PE (tk B L) n (level + 1) w t u C = r
        intro s
        rcases r with ⟨c, p⟩ | ⟨t', u', C'⟩
        · trivial
        ·
          obtain ⟨s1, s2, s3, s4⟩ := s
          exact SZ_pl ih hw _ t' u' C' s4 s3 u C s1 s2
    · rw [if_neg c, PU]
      by_cases c1 : isPl t.1 = true
      · rw [if_pos c1]
        by_cases c2 : 30 ≤ u
        · rw [if_pos c2]; trivial
        · rw [if_neg c2]
          exact ⟨by simp only [List.length_cons]; omega, by omega, by omega, ht.go.1⟩
      · rw [if_neg c1]
        by_cases c3 : t.1 = 19 ∧ w ≤ 6
        · rw [if_pos c3]
          by_cases c2 : 30 ≤ u
          · rw [if_pos c2]; trivial
          · rw [if_neg c2]
            have s := ih 1 (w + 1) (tk B L t.2.2.1) (u + 1) C (by omega) ht.go.1
            revert s
            generalize PE (tk B L) n 1 (w + 1) (tk B L t.2.2.1) (u + 1) C = r
            intro s
            rcases r with ⟨c, p⟩ | ⟨t', u', C'⟩
            · trivial
            ·
              obtain ⟨s1, s2, s3, s4⟩ := s
              simp only
              by_cases c4 : t'.1 = 20
              · rw [if_pos c4]
                exact ⟨by omega, by omega, s3, s4.go.1⟩
              · rw [if_neg c4]; trivial
        · rw [if_neg c3]; trivial
end PZ
/-! the class's reading -/
def CLc (f : Nat → Nat → Int32) : List (Nat × Nat) → Prop
  | [] => True
  | (k, n) :: C => f 24 C.length = Int32.ofNat k ∧ (k = 29 → f 25 C.length = Int32.ofNat n) ∧ CLc f C
def CE (f : Nat → Nat → Int32) (g : (Nat → Nat → Int64) × (Nat → Nat → Option Nat)) (B : Nat → Nat) (L : Nat) (t : TK) (u : Nat) (C : List (Nat × Nat)) : Prop := CT f g t ∧ TPc f g B L ∧ f 23 3 = Int32.ofNat C.length ∧ f 23 4 = Int32.ofNat u ∧ CLc f C
def CFr (f f' : Nat → Nat → Int32) (g g' : (Nat → Nat → Int64) × (Nat → Nat → Option Nat)) : Prop := (∀ a, a ≠ 1 → a ≠ 14 → a ≠ 23 → a ≠ 24 → a ≠ 25 → f' a = f a) ∧ (∀ k, k ≠ 6 → k ≠ 7 → f' 14 k = f 14 k) ∧ g'.2 = g.2 ∧ ∀ a, a ≠ 1 → g'.1 a = g.1 a
def CS (f : Nat → Nat → Int32) (g : (Nat → Nat → Int64) × (Nat → Nat → Option Nat)) (B : Nat → Nat) (L : Nat) (out : Option (Int32 × am_H)) : PR → Prop
  | .inl (c, p) => ∃ f' g', out = some (0, (f', g')) ∧ f' 14 6 = Int32.ofNat c ∧ f' 14 7 = Int32.ofNat p ∧ CFr f f' g g'
  | .inr (t', u', C') => ∃ f' g', out = some (1, (f', g')) ∧ CE f' g' B L t' u' C' ∧ CFr f f' g g' ∧ f' 14 = f 14
theorem CFr.trans {f f' f'' : Nat → Nat → Int32} {g g' g'' : (Nat → Nat → Int64) × (Nat → Nat → Option Nat)} (h : CFr f f' g g') (h' : CFr f' f'' g' g'') : CFr f f'' g g'' := ⟨fun a z1 z2 z3 z4 z5 => (h'.1 a z1 z2 z3 z4 z5).trans (h.1 a z1 z2 z3 z4 z5), fun k z1 z2 => (h'.2.1 k z1 z2).trans (h.2.1 k z1 z2), h'.2.2.1.trans h.2.2.1, fun a z => (h'.2.2.2 a z).trans (h.2.2.2 a z)⟩
theorem CLc_cong {f f' : Nat → Nat → Int32} : ∀ {C : List (Nat × Nat)}, (∀ i, i < C.length → f' 24 i = f 24 i) → (∀ i, i < C.length → f' 25 i = f 25 i) → CLc f C → CLc f' C
  | [], _, _, _ => trivial
  | (k, n) :: C, h1, h2, h => ⟨by rw [h1 _ (by simp)]; exact h.1, fun z => by rw [h2 _ (by simp)]; exact h.2.1 z, CLc_cong (fun i hi => h1 i (by simp only [List.length_cons]; omega)) (fun i hi => h2 i (by simp only [List.length_cons]; omega)) h.2.2⟩
theorem kiff {k : Nat} (hk : k ≤ 32) {n : Nat} {c : Int32} (hc : c = Int32.ofNat n) (hn : n ≤ 200) : Int32.ofNat k = c ↔ k = n := by
  rw [hc]; exact on_inj (by omega) (by omega)
section CX
variable {f : Nat → Nat → Int32} {g : (Nat → Nat → Int64) × (Nat → Nat → Option Nat)} {B : Nat → Nat} {L : Nat} {t : TK} {u : Nat} {C : List (Nat × Nat)}
theorem X5_failAs (h : CT f g t) (c : Int32) : f_X5_failAs c (f, g) = some (0, (am_u2 (am_u2 f 14 6 c) 14 7 (Int32.ofNat t.2.1), g)) := by
  unfold f_X5_failAs
  rw [ptI_eq, bnd_eq, ptI_eq]
  simp only [u2_ne (show (1 : Nat) ≠ 14 by decide), h.2.2.1]
theorem X5_cannotStand (h : CT f g t) (ht : t.1 ≤ 32) : f_X5_cannotStand (f, g) = some (0, (am_u2 (am_u2 f 14 6 (Int32.ofNat (if t.1 = 32 then 1 else 2))) 14 7 (Int32.ofNat t.2.1), g)) := by
  unfold f_X5_cannotStand
  rw [bnd_eq]
  simp only [h.2.1, kiff ht (show (32 : Int32) = Int32.ofNat 32 from rfl) (by decide)]
  by_cases c : t.1 = 32
  · rw [if_pos c, if_pos c, X5_failAs h, cal2_some, zrt_0]; rfl
  · rw [if_neg c, if_neg c, X5_failAs h, cal2_some, zrt_0]; rfl
theorem CFr_fail {c p : Int32} : CFr f (am_u2 (am_u2 f 14 6 c) 14 7 p) g g := ⟨fun a z1 z2 z3 z4 z5 => by rw [u2_ne z2, u2_ne z2], fun k z1 z2 => by rw [au_nk z2, au_nk z1], rfl, fun _ _ => rfl⟩
theorem CS_cs (h : CT f g t) (ht : t.1 ≤ 32) {out : Option (Int32 × am_H)} (ho : out = f_X5_cannotStand (f, g)) : CS f g B L out (csE t) := ⟨_, g, ho.trans (X5_cannotStand h ht), by rw [au_nk (by decide), au_same], by rw [au_same], CFr_fail⟩
theorem adv (h : CE f g B L t u C) (ht : TV B L t) : ∃ f' g', f_X9_advance (f, g) = some (f', g') ∧ CE f' g' B L (tk B L t.2.2.1) u C ∧ CFr f f' g g' ∧ f' 14 = f 14 ∧ (∀ a, a ≠ 1 → f' a = f a) := by
  obtain ⟨h1, h2, h3, h4, h5⟩ := h
  obtain ⟨f', g', a1, a2, a3, a4, a5, a6⟩ := X9_advance h2 h1.1 ht.go.2.1
  exact ⟨f', g', a1, ⟨a2, a3, by rw [a4 23 (by decide)]; exact h3, by rw [a4 23 (by decide)]; exact h4, CLc_cong (fun i _ => by rw [a4 24 (by decide)]) (fun i _ => by rw [a4 25 (by decide)]) h5⟩, ⟨fun a z _ _ _ _ => a4 a z, fun k _ _ => by rw [a4 14 (by decide)], a5, a6⟩, a4 14 (by decide), a4⟩
theorem X2_addStep (h : CE f g B L t u C) (hl : C.length < 300) (k : Nat) (v : Int32) (n : Nat) (hv : k = 29 → v = Int32.ofNat n) : ∃ f', f_X2_addStep_23 (Int32.ofNat k) v (f, g) = some (f', g) ∧ CE f' g B L t u ((k, n) :: C) ∧ CFr f f' g g ∧ f' 14 = f 14 := by
  obtain ⟨h1, h2, h3, h4, h5⟩ := h
  let f' := am_u2 (am_u2 (am_u2 f 24 C.length (Int32.ofNat k)) 25 C.length v) 23 3 (Int32.ofNat (C.length + 1))
  have fr : ∀ a, a ≠ 23 → a ≠ 24 → a ≠ 25 → f' a = f a := fun a z1 z2 z3 => by show am_u2 (am_u2 (am_u2 _ _ _ _) _ _ _) _ _ _ a = _; rw [u2_ne z1, u2_ne z3, u2_ne z2]
  have hl3 : Int32.ofNat C.length < 300 := by
    rw [show (300 : Int32) = Int32.ofNat 300 from rfl, on_lt (by omega) (by omega)]; exact hl
  refine ⟨f', ?_, ⟨⟨by rw [fr 1 (by decide) (by decide) (by decide)]; exact h1.1, by rw [fr 1 (by decide) (by decide) (by decide)]; exact h1.2.1, by rw [fr 1 (by decide) (by decide) (by decide)]; exact h1.2.2.1, by rw [fr 1 (by decide) (by decide) (by decide)]; exact h1.2.2.2.1, h1.2.2.2.2⟩, ⟨by rw [fr 1 (by decide) (by decide) (by decide)]; exact h2.1, h2.2.1, by rw [fr 2 (by decide) (by decide) (by decide)]; exact h2.2.2.1, h2.2.2.2⟩, ?_, ?_, ?_, ?_, ?_⟩, ⟨fun a _ _ z3 z4 z5 => fr a z3 z4 z5, fun k _ _ => by rw [fr 14 (by decide) (by decide) (by decide)], rfl, fun _ _ => rfl⟩, fr 14 (by decide) (by decide) (by decide)⟩
  · unfold f_X2_addStep_23
    rw [bnd_eq]
    simp only [h3]
    rw [if_neg (nneg (by omega)), bnd_eq, if_pos hl3, bnd_eq, wrI_n hl (by decide), bnd_eq]
    simp only [u2_ne (show (23 : Nat) ≠ 24 by decide), h3]
    rw [wrI_n hl (by decide), bnd_eq, ptI_eq]
    simp only [u2_ne (show (23 : Nat) ≠ 24 by decide), u2_ne (show (23 : Nat) ≠ 25 by decide), h3, on_succ]
    rfl
  · show am_u2 _ 23 3 _ 23 3 = _
    rw [au_same]; rfl
  · show am_u2 _ 23 3 _ 23 4 = _
    rw [au_nk (by decide), u2_ne (by decide), u2_ne (by decide)]; exact h4
  · show am_u2 _ 23 3 _ 24 _ = _
    rw [u2_ne (by decide), u2_ne (by decide), au_same]
  · intro hk
    show am_u2 _ 23 3 _ 25 _ = _
    rw [u2_ne (by decide), au_same]; exact hv hk
  · refine CLc_cong (f := f) (fun i hi => ?_) (fun i hi => ?_) h5
    · show am_u2 _ 23 3 _ 24 _ = _
      rw [u2_ne (by decide), u2_ne (by decide), au_nk (by omega)]
    · show am_u2 _ 23 3 _ 25 _ = _
      rw [u2_ne (by decide), au_nk (by omega), u2_ne (by decide)]
theorem X5_levelOf {k : Nat} (hk : k ≤ 32) {h : am_H} : f_X5_levelOf (Int32.ofNat k) h = some (Int32.ofNat (lvO k)) := by
  have z : ∀ k : Fin 33, f_X5_levelOf (Int32.ofNat k.val) am_hE = some (Int32.ofNat (lvO k.val)) := by decide +kernel
  exact z ⟨k, by omega⟩
end CX
