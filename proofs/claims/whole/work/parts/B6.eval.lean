/-! what comes of two, worked out on both sides -/
def isB (k : Nat) : Bool := k == 11 || k == 12 || k == 21 || k == 22 || k == 23 || k == 24 || k == 25 || k == 26 || k == 27 || k == 28
/-- a formula's steps, the latest first: so many are on the stack behind them -/
def okC : List (Nat × Nat) → Nat → Prop
  | [], d => d = 0
  | (k, _) :: C, d => (isPl k = true ∧ ∃ e, d = e + 1 ∧ okC C e) ∨ (k = 13 ∧ 1 ≤ d ∧ okC C d) ∨ (isB k = true ∧ 1 ≤ d ∧ okC C (d + 1))
def pls : List (Nat × Nat) → Nat
  | [] => 0
  | (k, _) :: C => (if isPl k = true then 1 else 0) + pls C
def okW (u : Nat) (C : List (Nat × Nat)) (d : Nat) : Prop := okC C d ∧ pls C ≤ u
def okR (u0 : Nat) (d : Nat) : PR → Prop
  | .inl _ => True
  | .inr (_, u', C') => okW u' C' (d + 1)
def okP (rp : RPt) : Prop := ∀ level w t u C d, 1 ≤ level → okW u C d → okR u d (rp level w t u C)
theorem okW_le {u u' d : Nat} {C : List (Nat × Nat)} (h : okW u C d) (hu : u ≤ u') : okW u' C d := ⟨h.1, by have := h.2; omega⟩
theorem isB_lv {k l : Nat} (hl : lvO k = l) (h5 : l ≤ 5) : isB k = true := by
  have h : ∀ k, k ≤ 32 → lvO k ≤ 5 → isB k = true := by
    have z : ∀ k : Fin 33, lvO k.val ≤ 5 → isB k.val = true := by decide +kernel
    exact fun k hk => z ⟨k, by omega⟩
  by_cases c : k ≤ 32
  · exact h k c (by omega)
  · exfalso
    unfold lvO at hl
    rw [if_neg (by omega), if_neg (by omega), if_neg (by omega), if_neg (by omega), if_neg (by omega), if_neg (by omega), if_neg (by omega), if_neg (by omega), if_neg (by omega), if_neg (by omega)] at hl
    omega
theorem isB_pl {k : Nat} (h : isB k = true) : ¬ isPl k = true := by
  intro z
  unfold isB at h
  unfold isPl at z
  simp only [Bool.or_eq_true, beq_iff_eq] at h z
  omega
theorem okP_pl {T : Nat → TK} {rp : RPt} (h : okP rp) {level w : Nat} (h1 : 1 ≤ level) (h5 : level ≤ 5) : ∀ m t u C d u0, okW u C (d + 1) → okR u0 d (PLp T rp level w m t u C)
  | 0, t, u, C, d, u0, hw => by rw [PLp]; exact hw
  | m + 1, t, u, C, d, u0, hw => by
    rw [PLp]
    by_cases c : lvO t.1 = level
    · rw [if_pos c]
      have s := h (level + 1) w (T t.2.2.1) u C (d + 1) (by omega) hw
      revert s
      generalize rp (level + 1) w (T t.2.2.1) u C = r
      intro s
      rcases r with ⟨c', p'⟩ | ⟨t', u', C'⟩
      · trivial
      · have hb := isB_lv c h5
        have s' : okW u' C' (d + 1 + 1) := s
        refine okP_pl h h1 h5 m t' u' ((t.1, 0) :: C') d u0 ⟨Or.inr (Or.inr ⟨hb, by omega, s'.1⟩), ?_⟩
        have := s'.2
        rw [pls, if_neg (isB_pl hb)]
        omega
    · rw [if_neg c]
      exact hw
theorem okP_pe {T : Nat → TK} : ∀ n, okP (PE T n)
  | 0, level, w, t, u, C, d, h1, hw => by rw [PE]; trivial
  | n + 1, level, w, t, u, C, d, h1, hw => by
    have ih := okP_pe (T := T) n
    show okR u d (if level < 6 then (if level = 3 ∧ t.1 = 13 then PN T (PE T n) w t u C else PJ T (PE T n) level w t u C) else PU T (PE T n) w t u C)
    by_cases c6 : level < 6
    · rw [if_pos c6]
      by_cases c3 : level = 3 ∧ t.1 = 13
      · rw [if_pos c3]
        unfold PN
        by_cases cw : 6 < w
        · rw [if_pos cw]; trivial
        · rw [if_neg cw]
          have s := ih 3 (w + 1) (T t.2.2.1) u C d (by decide) hw
          revert s
          generalize PE T n 3 (w + 1) (T t.2.2.1) u C = r
          intro s
          rcases r with ⟨c', p'⟩ | ⟨t', u', C'⟩
          · trivial
          · have s' : okW u' C' (d + 1) := s
            refine ⟨Or.inr (Or.inl ⟨rfl, by omega, s'.1⟩), ?_⟩
            have := s'.2
            rw [pls, if_neg (by decide)]
            omega
      · rw [if_neg c3]
        unfold PJ
        have s := ih (level + 1) w t u C d (by omega) hw
        revert s
        generalize PE T n (level + 1) w t u C = r
        intro s
        rcases r with ⟨c', p'⟩ | ⟨t', u', C'⟩
        · trivial
        · exact okP_pl ih h1 (by omega) _ t' u' C' d u s
    · rw [if_neg c6]
      unfold PU
      by_cases cp : isPl t.1 = true
      · rw [if_pos cp]
        by_cases cu : 30 ≤ u
        · rw [if_pos cu]; trivial
        · rw [if_neg cu]
          refine ⟨Or.inl ⟨cp, d, rfl, hw.1⟩, ?_⟩
          have := hw.2
          rw [pls, if_pos cp]
          omega
      · rw [if_neg cp]
        by_cases c19 : t.1 = 19 ∧ w ≤ 6
        · rw [if_pos c19]
          by_cases cu : 30 ≤ u
          · rw [if_pos cu]; trivial
          · rw [if_neg cu]
            have s := ih 1 (w + 1) (T t.2.2.1) (u + 1) C d (by decide) (okW_le hw (by omega))
            revert s
            generalize PE T n 1 (w + 1) (T t.2.2.1) (u + 1) C = r
            intro s
            rcases r with ⟨c', p'⟩ | ⟨t', u', C'⟩
            · trivial
            · simp only
              by_cases c20 : t'.1 = 20
              · rw [if_pos c20]; exact s
              · rw [if_neg c20]; trivial
        · rw [if_neg c19]; trivial
/-- a draft's formula -/
def okD (D : DR) : Prop := okC D.2.2 1 ∧ pls D.2.2 ≤ 30
theorem okD_0 : okD D0 := ⟨Or.inr (Or.inr ⟨by decide, by decide, Or.inl ⟨by decide, 1, rfl, Or.inl ⟨by decide, 0, rfl, rfl⟩⟩⟩), by decide⟩
theorem okD_line {B : Nat → Nat} {L : Nat} {t t' : TK} {D D' : DR} (hT : TV B L t) (h : okD D) (e : pLine (tk B L) t D = .inr (t', D')) : okD D' := by
  have same : ∀ D2 : DR, D2.2.2 = D.2.2 → okD D2 := fun D2 z => by unfold okD; rw [z]; exact h
  unfold pLine at e
  by_cases k0 : t.1 = 0
  · rw [if_pos k0] at e
    unfold lRoom at e
    by_cases c : 4 ≤ D.1 0
    · rw [if_pos c] at e; unfold csT at e; cases e
    · rw [if_neg c] at e
      obtain ⟨x, -, e⟩ := bR_ok e
      obtain ⟨t2, -, e⟩ := bR_ok e
      obtain ⟨y, -, e⟩ := bR_ok e
      obtain ⟨t4, -, e⟩ := bR_ok e
      cases e
      exact same _ rfl
  rw [if_neg k0] at e
  by_cases k2 : t.1 = 2
  · rw [if_pos k2] at e
    unfold lTrunk at e
    by_cases c : 6 ≤ D.1 1
    · rw [if_pos c] at e; unfold csT at e; cases e
    · rw [if_neg c] at e
      obtain ⟨_, -, e⟩ := bR_ok e
      obtain ⟨_, -, e⟩ := bR_ok e
      obtain ⟨_, -, e⟩ := bR_ok e
      obtain ⟨_, -, e⟩ := bR_ok e
      obtain ⟨_, -, e⟩ := bR_ok e
      obtain ⟨_, -, e⟩ := bR_ok e
      obtain ⟨_, -, e⟩ := bR_ok e
      obtain ⟨_, -, e⟩ := bR_ok e
      obtain ⟨_, -, e⟩ := bR_ok e
      cases e
      exact same _ rfl
  rw [if_neg k2] at e
  have one : ∀ o v lo hi, lOne (tk B L) o v lo hi t D = .inr (t', D') → okD D' := fun o v lo hi e => by
    unfold lOne at e
    by_cases c : D.1 o = 1
    · rw [if_pos c] at e; unfold csT at e; cases e
    · rw [if_neg c] at e
      obtain ⟨_, -, e⟩ := bR_ok e
      obtain ⟨_, -, e⟩ := bR_ok e
      cases e
      exact same _ rfl
  by_cases k7 : t.1 = 7
  · rw [if_pos k7] at e
    unfold lBrood at e
    by_cases c : D.1 5 = 1
    · rw [if_pos c] at e; unfold csT at e; cases e
    · rw [if_neg c] at e
      obtain ⟨x, ex, e⟩ := bR_ok e
      obtain ⟨_, -, e⟩ := bR_ok e
      cases e
      have s := okP_pe (T := tk B L) 60 1 0 (tk B L t.2.2.1) 0 [] 0 (by decide) ⟨rfl, Nat.zero_le _⟩
      have z := SZ_pe (B := B) (L := L) 60 1 0 (tk B L t.2.2.1) 0 [] (by decide) hT.go.1
      rw [ex] at s z
      obtain ⟨s1, s2⟩ := s
      obtain ⟨-, -, z3, -⟩ := z
      exact ⟨s1, Nat.le_trans s2 z3⟩
  rw [if_neg k7] at e
  by_cases k8 : t.1 = 8
  · rw [if_pos k8] at e; exact one _ _ _ _ e
  rw [if_neg k8] at e
  by_cases k9 : t.1 = 9
  · rw [if_pos k9] at e; exact one _ _ _ _ e
  rw [if_neg k9] at e
  by_cases k10 : t.1 = 10
  · rw [if_pos k10] at e; exact one _ _ _ _ e
  rw [if_neg k10] at e
  unfold csT at e
  cases e
theorem okD_all {B : Nat → Nat} {L : Nat} : ∀ n t D t' D', DV D → TV B L t → okD D → pAll (tk B L) n t D = .inr (t', D') → okD D'
  | 0, t, D, t', D', hD, ht, h, e => by rw [pAll] at e; cases e; exact h
  | n + 1, t, D, t', D', hD, ht, h, e => by
    rw [pAll] at e
    by_cases c : t.1 = 31
    · rw [if_pos c] at e; cases e; exact h
    · rw [if_neg c] at e
      obtain ⟨x, e1, e⟩ := bR_ok e
      obtain ⟨n1, hD'⟩ := pLine_ok hD ht e1
      exact okD_all n x.1 x.2 t' D' hD' n1.1 (okD_line ht h e1) e
/-! on a stack -/
def jn2 (k : Nat) (x y : Int32) : Int32 := if k = 11 then (if x = 0 then (if y = 0 then 0 else 1) else 1) else if k = 12 then (if x = 0 then 0 else if y = 0 then 0 else 1) else if k = 21 then (if x < y then 1 else 0) else if k = 22 then (if y < x then 1 else 0) else if k = 23 then (if x = y then 1 else 0) else if k = 24 then x + y else if k = 25 then x - y else if k = 26 then x * y else if k = 27 then (if y = 0 then 0 else x / y) else (if y = 0 then 0 else x - x / y * y)
abbrev EN : Type := Int32 × Int32 × Int32 × Int32 × Int32
def lfv (v : EN) (k n : Nat) : Int32 := if k = 3 then v.1 else if k = 14 then v.2.1 else if k = 15 then v.2.2.1 else if k = 16 then v.2.2.2.1 else if k = 17 then v.2.2.2.2 else Int32.ofNat n
def stp (v : EN) (k n : Nat) (s : List Int32) : List Int32 := if isPl k = true then lfv v k n :: s else if k = 13 then (match s with
  | x :: s' => (if x = 0 then 1 else 0) :: s'
  | [] => []) else (match s with
  | y :: x :: s' => jn2 k x y :: s'
  | s' => s')
def evF (v : EN) : List (Nat × Nat) → List Int32 → List Int32
  | [], s => s
  | (k, n) :: R, s => evF v R (stp v k n s)
/-- forward: from d on the stack to e, never more than 30 -/
def okF : Nat → List (Nat × Nat) → Nat → Prop
  | d, [], e => d = e
  | d, (k, _) :: R, e => (isPl k = true ∧ d + 1 ≤ 30 ∧ okF (d + 1) R e) ∨ (k = 13 ∧ 1 ≤ d ∧ okF d R e) ∨ (isB k = true ∧ 2 ≤ d ∧ okF (d - 1) R e)
theorem okC_le : ∀ (C : List (Nat × Nat)) d, okC C d → d ≤ pls C
  | [], d, h => by rw [okC] at h; omega
  | (k, n) :: C, d, h => by
    rw [pls]
    rw [okC] at h
    rcases h with ⟨hk, e, rfl, h⟩ | ⟨rfl, h1, h⟩ | ⟨hk, h1, h⟩
    · have := okC_le C e h
      rw [if_pos hk]
      omega
    · have := okC_le C d h
      omega
    · have := okC_le C (d + 1) h
      omega
theorem okF_of : ∀ (C R : List (Nat × Nat)) d e, okC C d → pls C ≤ 30 → okF d R e → okF 0 (C.reverse ++ R) e
  | [], R, d, e, h, hp, hR => by rw [okC] at h; rw [h] at hR; exact hR
  | (k, n) :: C, R, d, e, h, hp, hR => by
    have hle := okC_le ((k, n) :: C) d h
    rw [List.reverse_cons, List.append_assoc]
    rw [okC] at h
    rw [pls] at hp
    rcases h with ⟨hk, e', rfl, h⟩ | ⟨rfl, h1, h⟩ | ⟨hk, h1, h⟩
    · exact okF_of C ((k, n) :: R) e' e h (by omega) (Or.inl ⟨hk, by rw [pls] at hle; omega, hR⟩)
    · exact okF_of C ((13, n) :: R) d e h (by omega) (Or.inr (Or.inl ⟨rfl, h1, hR⟩))
    · exact okF_of C ((k, n) :: R) (d + 1) e h (by omega) (Or.inr (Or.inr ⟨hk, by omega, hR⟩))
/-- the stack's cells -/
def SKw (w : Nat → Int32) : List Int32 → Prop
  | [] => True
  | x :: s => w s.length = x ∧ SKw w s
theorem SKw_cong {w w' : Nat → Int32} : ∀ {s : List Int32}, (∀ i, i < s.length → w' i = w i) → SKw w s → SKw w' s
  | [], _, _ => trivial
  | x :: s, h, k => ⟨by rw [h s.length (by simp)]; exact k.1, SKw_cong (fun i hi => h i (by simp; omega)) k.2⟩
theorem SKw_push {w : Nat → Int32} {s : List Int32} {x : Int32} (h : SKw w s) : SKw (st w s.length x) (x :: s) := ⟨st_same, SKw_cong (fun i hi => st_ne (by omega)) h⟩
def valE (C : List (Nat × Nat)) : EV := fun a b c d e => ((evF (a, b, c, d, e) C.reverse []).headD 0)
theorem evF_len {v : EN} : ∀ (R : List (Nat × Nat)) (s : List Int32) e, okF s.length R e → (evF v R s).length = e
  | [], s, e, h => h
  | (k, n) :: R, s, e, h => by
    rw [evF]
    rw [okF] at h
    rcases h with ⟨hk, -, h⟩ | ⟨rfl, h1, h⟩ | ⟨hk, h2, h⟩
    · exact evF_len R _ e (by unfold stp; rw [if_pos hk]; exact h)
    · refine evF_len R _ e ?_
      unfold stp
      rw [if_neg (by decide), if_pos rfl]
      match s, h1, h with
      | x :: s', _, h => exact h
    · refine evF_len R _ e ?_
      unfold stp
      rw [if_neg (isB_pl hk), if_neg (fun z => by rw [z] at hk; exact absurd hk (by decide))]
      match s, h2, h with
      | y :: x :: s', _, h => exact h
