/-! the model reads what comes of two, as on paper -/
def rrL (l : Nat) : Nat := if l = 1 then 1 else if l = 2 then 2 else if l = 3 then 4 else if l = 4 then 5 else if l = 5 then 6 else 7
def rkL (l : Nat) : Nat := if l = 3 then 3 else rrL l
def topOK (l a : Nat) : Prop := a < rrL l ∨ 7 ≤ a
def exitX (l k : Nat) (P : List (Nat × Nat)) : Prop := lvO k = 6 ∨ lvO k < l ∨ lvO k = 3 ∧ cmpP P = true
/-- the text and a token stand -/
def PTm (f : Nat → Nat → Int32) (g : (Nat → Nat → Int64) × (Nat → Nat → Option Nat)) (B : Nat → Nat) (L : Nat) : Prop := (∃ t, MT f g B L t ∧ TV B L t) ∧ TPm f B L
theorem PT_fail {B : Nat → Nat} {L rb : Nat} {f : Nat → Nat → Int32} {g : (Nat → Nat → Int64) × (Nat → Nat → Option Nat)} {t : TK} (h : MG f g B L rb t) {c p : Nat} : PTm (failM f c p) g B L := by
  obtain ⟨⟨a1, a2, a3, a4, a5, a6, a7⟩, T, hb, h33, h4, tv⟩ := h
  have fk : ∀ k, k ≠ 4 → k ≠ 5 → failM f c p 413 k = f 413 k := fun k z1 z2 => by unfold failM; rw [au_nk z2, au_nk z1]
  exact ⟨⟨t, ⟨by rw [fk 6 (by decide) (by decide)]; exact a1, by rw [fk 7 (by decide) (by decide)]; exact a2, by rw [fk 8 (by decide) (by decide)]; exact a3, fun z => by rw [fk 9 (by decide) (by decide)]; exact a4 z, a5, a6, a7⟩, tv⟩, TPm_fr (fk 3 (by decide) (by decide)) (by unfold failM; rw [u2_ne (by decide), u2_ne (by decide)]) T⟩
def MRs (B : Nat → Nat) (L rb level w a k : Nat) (S : List (Nat × Nat)) (m : Nat) (x : Int32) (f : Nat → Nat → Int32) (g : (Nat → Nat → Int64) × (Nat → Nat → Option Nat)) : PR → Prop
  | .inl (c, p) => ∃ f' g', lp_X12_e_19 m x (f, g) = some (f', g') ∧ f' 413 4 = Int32.ofNat c ∧ f' 413 5 = Int32.ofNat p ∧ (0 < c ∧ c < 10) ∧ MFr rb f f' g g' ∧ PTm f' g' B L
  | .inr (t', u', C') => ∃ f' g' m' P C0, lp_X12_e_19 m x (f, g) = lp_X12_e_19 m' 0 (f', g') ∧ ME f' g' B L rb t' (P ++ (a, k) :: S) (w + nots P) u' C0 ∧ pops P C0 = C' ∧ gesP (rkL level) P ∧ P.length ≤ 6 * (7 - w) + (7 - level) ∧ L + 3 ≤ m' + t'.2.1 ∧ exitX level t'.1 P ∧ MFr rb f f' g g'
def MSIM (B : Nat → Nat) (L rb : Nat) (pp : RPt) (level w : Nat) : Prop := ∀ t u C a k S m f g, C.length ≤ 9 * u → u ≤ 30 → S.length + 1 ≤ 6 * w + level → topOK level a → (4 ≤ level → t.1 = 13 → 4 ≤ a ∧ a ≤ 6) → L + 3 ≤ m + t.2.1 → ME f g B L rb t ((a, k) :: S) w u C → MRs B L rb level w a k S m 1 f g (pp level w t u C)
theorem lv_rk {k l : Nat} (hk : k ≤ 32) (hl : lvO k = l) : (l = 6 → rkO k = 0) ∧ (l ≤ 5 → rkO k = rrL l ∧ k ≠ 29 ∧ k ≠ 31 ∧ k ≠ 13 ∧ k ≠ 32) := by
  have z : ∀ k : Fin 33, (lvO k.val = 6 → rkO k.val = 0) ∧ (lvO k.val ≤ 5 → rkO k.val = rrL (lvO k.val) ∧ k.val ≠ 29 ∧ k.val ≠ 31 ∧ k.val ≠ 13 ∧ k.val ≠ 32) := by decide
  rw [← hl]; exact z ⟨k, by omega⟩
theorem lv_b {k : Nat} : 1 ≤ lvO k ∧ lvO k ≤ 6 := by unfold lvO; (repeat' split) <;> decide
theorem TV.adv {B : Nat → Nat} {L : Nat} {t : TK} (h : TV B L t) (hk : t.1 ≠ 31) : t.2.1 + 1 ≤ (tk B L t.2.2.1).2.1 := by
  obtain ⟨p, hp, rfl⟩ := h
  obtain ⟨h1, h2, h3, h4, h5, h6⟩ := tk_ok B hp
  obtain ⟨k1, -⟩ := tk_ok B h3
  have := h4 hk
  omega
section MZ
variable {B : Nat → Nat} {L rb : Nat}
theorem e_st0 {f : Nat → Nat → Int32} {g : (Nat → Nat → Int64) × (Nat → Nat → Option Nat)} {t : TK} {S : List (Nat × Nat)} {w u : Nat} {C : List (Nat × Nat)} (h : ME f g B L rb t S w u C) (hS : 0 < S.length ∧ S.length ≤ 90) {m : Nat} : lp_X12_e_19 (m + 1) 0 (f, g) = cal2 (f_X12_behindUnit (f, g)) fun v h => lp_X12_e_19 m v h := by
  rw [lp_X12_e_19, isGood_0 h.1.2.2.2.2.1, cal_some, if_neg (by decide), bnd_eq]
  simp only [h.2.1]
  rw [if_pos ((on_pos (by omega)).mpr hS.1), if_pos True.intro]
theorem e_st1 {f : Nat → Nat → Int32} {g : (Nat → Nat → Int64) × (Nat → Nat → Option Nat)} {t : TK} {S : List (Nat × Nat)} {w u : Nat} {C : List (Nat × Nat)} (h : ME f g B L rb t S w u C) (hS : 0 < S.length ∧ S.length ≤ 90) {m : Nat} : lp_X12_e_19 (m + 1) 1 (f, g) = cal2 (f_X12_unit (f, g)) fun v h => lp_X12_e_19 m v h := by
  rw [lp_X12_e_19, isGood_0 h.1.2.2.2.2.1, cal_some, if_neg (by decide), bnd_eq]
  simp only [h.2.1]
  rw [if_pos ((on_pos (by omega)).mpr hS.1), if_neg (by decide)]
theorem e_fail {f : Nat → Nat → Int32} {g : (Nat → Nat → Int64) × (Nat → Nat → Option Nat)} {c p m : Nat} {x : Int32} (hc : 0 < c ∧ c < 10) : lp_X12_e_19 (m + 1) x (failM f c p, g) = some (failM f c p, g) := by
  rw [lp_X12_e_19, isGood_n hc failM_4.1, cal_some, if_pos rfl]
theorem cs12 {t : TK} : 0 < (if t.1 = 32 then 1 else 2) ∧ (if t.1 = 32 then 1 else 2) < 10 := by split <;> decide
theorem MRs_pre {level w a k : Nat} {S : List (Nat × Nat)} {m m1 : Nat} {x x1 : Int32} {f f1 : Nat → Nat → Int32} {g g1 : (Nat → Nat → Int64) × (Nat → Nat → Option Nat)} {r : PR} (he : lp_X12_e_19 m x (f, g) = lp_X12_e_19 m1 x1 (f1, g1)) (hf : MFr rb f f1 g g1) (h : MRs B L rb level w a k S m1 x1 f1 g1 r) : MRs B L rb level w a k S m x f g r := by
  rcases r with ⟨c, p⟩ | ⟨t', u', C'⟩
  · obtain ⟨f', g', a1, a2, a3, a4, a5, a6⟩ := h
    exact ⟨f', g', he.trans a1, a2, a3, a4, hf.trans a5, a6⟩
  · obtain ⟨f', g', m', P, C0, a1, a2, a3, a4, a5, a6, a7, a8⟩ := h
    exact ⟨f', g', m', P, C0, he.trans a1, a2, a3, a4, a5, a6, a7, hf.trans a8⟩
theorem MRs_cs {level w a k : Nat} {S : List (Nat × Nat)} {m : Nat} {x v : Int32} {f f0 : Nat → Nat → Int32} {g g0 : (Nat → Nat → Int64) × (Nat → Nat → Option Nat)} {t : TK} (he : lp_X12_e_19 m x (f, g) = lp_X12_e_19 1 v (failM f0 (if t.1 = 32 then 1 else 2) t.2.1, g0) ∨ ∃ n, lp_X12_e_19 m x (f, g) = lp_X12_e_19 (n + 1) v (failM f0 (if t.1 = 32 then 1 else 2) t.2.1, g0)) (hf : MFr rb f f0 g g0) (hG : MG f0 g0 B L rb t) : MRs B L rb level w a k S m x f g (csE t) := by
  have : lp_X12_e_19 m x (f, g) = some (failM f0 (if t.1 = 32 then 1 else 2) t.2.1, g0) := by
    rcases he with e | ⟨n, e⟩
    · rw [e]; exact e_fail (m := 0) cs12
    · rw [e]; exact e_fail cs12
  exact ⟨_, g0, this, failM_4.1, failM_4.2, cs12, hf.trans failM_fr, PT_fail hG⟩
/-- the signs of one strength -/
theorem m_pl {pp : RPt} {level w : Nat} (h1 : 1 ≤ level) (h6 : level ≤ 5) (hw : w ≤ 7) (hp : SRP B L pp) (hs : MSIM B L rb pp (level + 1) w) {a k : Nat} {S : List (Nat × Nat)} (hl : S.length + 1 ≤ 6 * w + level) (ha : topOK level a) : ∀ cnt t u C0 P m f g, (pops P C0).length ≤ 9 * u → u ≤ 30 → gesP (rrL level) P → P.length ≤ 6 * (7 - w) + (7 - level) → L + 3 ≤ m + t.2.1 → exitX (level + 1) t.1 P → (level ≠ 3 ∧ 31 ≤ u + cnt ∨ level = 3 ∧ (cnt = 1 ∧ gesP 5 P ∨ cnt = 0 ∧ cmpP P = true)) → ME f g B L rb t (P ++ (a, k) :: S) (w + nots P) u C0 → MRs B L rb level w a k S m 0 f g (PLp (tk B L) pp level w cnt t u (pops P C0)) := by
  have hrr : rkL level ≤ rrL level := by
    have z : ∀ l : Fin 6, rkL l.val ≤ rrL l.val := by decide
    exact z ⟨level, by omega⟩
  intro cnt
  induction cnt with
  | zero =>
    intro t u C0 P m f g hC hu hg hP hm hx hcnt h
    rcases hcnt with ⟨c1, c2⟩ | ⟨c1, c2⟩
    · omega
    · rcases c2 with ⟨c2, -⟩ | ⟨-, c2⟩
      · omega
      · rw [PLp]
        refine ⟨f, g, m, P, C0, rfl, h, rfl, gesP_le hrr hg, hP, hm, ?_, MFr.refl⟩
        unfold exitX at hx ⊢
        rcases hx with e | e | e
        · exact Or.inl e
        · by_cases e3 : lvO t.1 = 3
          · exact Or.inr (Or.inr ⟨e3, c2⟩)
          · exact Or.inr (Or.inl (by omega))
        · exact Or.inr (Or.inr e)
  | succ cnt ih =>
    intro t u C0 P m f g hC hu hg hP hm hx hcnt h
    have tv := h.1.2.2.2.2.2
    have hk := tv.go.2.2.2
    have hplL := tv.go.2.2.1
    rw [PLp]
    by_cases c : lvO t.1 = level
    · rw [if_pos c]
      obtain ⟨-, r2⟩ := lv_rk hk c
      obtain ⟨r3, r4, r5, r6, r7⟩ := r2 h6
      have hr0 : 0 < rrL level := by unfold rrL; (repeat' split) <;> decide
      have h3 : level = 3 → cnt = 0 ∧ gesP 5 P := fun z => by
        rcases hcnt with ⟨c1, -⟩ | ⟨-, c2⟩
        · exact absurd z c1
        · rcases c2 with ⟨c2, c3⟩ | ⟨c2, -⟩
          · exact ⟨by omega, c3⟩
          · omega
      have hr4 : rrL level = 4 → level = 3 := fun z => by
        unfold rrL at z
        by_cases e1 : level = 1
        · rw [if_pos e1] at z; omega
        · rw [if_neg e1] at z
          by_cases e2 : level = 2
          · rw [if_pos e2] at z; omega
          · rw [if_neg e2] at z
            by_cases e3 : level = 3
            · exact e3
            · rw [if_neg e3] at z
              split at z
              · omega
              · split at z <;> omega
      have pl := pops_len P C0
      have hlen : (P ++ (a, k) :: S).length ≤ 89 := by simp only [List.length_append, List.length_cons]; omega
      obtain ⟨f1, g1, b1, b2, b3⟩ := m_op r3 hr0 ha hlen (by omega) hg (fun z => (h3 (hr4 z)).2) h
      obtain ⟨m', rfl⟩ : ∃ m', m = m' + 1 := ⟨m - 1, by omega⟩
      have he : lp_X12_e_19 (m' + 1) 0 (f, g) = lp_X12_e_19 m' 1 (f1, g1) := by
        rw [e_st0 h (by simp only [List.length_append, List.length_cons] at hlen ⊢; omega), b1, cal2_some]
      have ta := tv.adv r5
      have s := hs (tk B L t.2.2.1) u (pops P C0) (rrL level) t.1 ((a, k) :: S) m' f1 g1 hC hu (by simp only [List.length_cons]; omega) (by
        unfold topOK
        have z : ∀ l : Fin 6, 1 ≤ l.val → rrL l.val < rrL (l.val + 1) := by decide
        exact Or.inl (z ⟨level, by omega⟩ h1)) (fun z1 z2 => by
        have z : ∀ l : Fin 6, 3 ≤ l.val → 4 ≤ rrL l.val ∧ rrL l.val ≤ 6 := by decide
        exact z ⟨level, by omega⟩ (by simp only; omega)) (by omega) b2
      have z := hp (level + 1) w (tk B L t.2.2.1) u (pops P C0) hw tv.go.1
      refine MRs_pre he b3 ?_
      revert s z
      generalize pp (level + 1) w (tk B L t.2.2.1) u (pops P C0) = r
      intro s z
      rcases r with ⟨c', p'⟩ | ⟨t', u', C'⟩
      · exact s
      · obtain ⟨f2, g2, m2, P2, C2, d1, d2, d3, d4, d5, d6, d7, d8⟩ := s
        obtain ⟨z1, z2, z3, z4⟩ := z
        simp only
        have eP : P2 ++ (rrL level, t.1) :: (a, k) :: S = (P2 ++ [(rrL level, t.1)]) ++ (a, k) :: S := by rw [List.append_assoc]; rfl
        have n3 : ¬ rrL level = 3 := by
          have z : ∀ l : Fin 6, ¬ rrL l.val = 3 := by decide
          exact z ⟨level, by omega⟩
        have eN : nots (P2 ++ [(rrL level, t.1)]) = nots P2 := by rw [nots_app, nots, nots, if_neg n3]; rfl
        have eC : pops (P2 ++ [(rrL level, t.1)]) C2 = (t.1, 0) :: C' := by rw [pops_app, d3]; rfl
        rw [eP] at d2
        rw [← eN] at d2
        have hrl : rrL level ≤ rkL (level + 1) := by
          have z : ∀ l : Fin 6, 1 ≤ l.val → rrL l.val ≤ rkL (l.val + 1) := by decide
          exact z ⟨level, by omega⟩ h1
        have h66 : rrL level ≤ 6 := by
          have z : ∀ l : Fin 6, 1 ≤ l.val → rrL l.val ≤ 6 := by decide
          exact z ⟨level, by omega⟩ h1
        have hg2 : gesP (rrL level) (P2 ++ [(rrL level, t.1)]) := gesP_app (gesP_le hrl d4) ⟨Nat.le_refl _, h66, r4, trivial⟩
        have hcmp : level = 3 → cmpP (P2 ++ [(rrL level, t.1)]) = true := fun e3 => by
          have g5 : gesP 5 P2 := by rw [e3] at d4; exact d4
          have : ∀ P : List (Nat × Nat), gesP 5 P → cmpP (P ++ [(4, t.1)]) = true := fun P => by
            induction P with
            | nil => intro _; rfl
            | cons x P ihP =>
              intro hgx
              obtain ⟨b', j⟩ := x
              rw [List.cons_append, cmpP, if_pos (by have := hgx.1; have := hgx.2.1; omega)]
              exact ihP hgx.2.2.2
          rw [e3]
          exact this P2 g5
        have key := ih t' u' C2 (P2 ++ [(rrL level, t.1)]) m2 f2 g2 (by rw [eC]; simp only [List.length_cons]; omega) z3 hg2 (by simp only [List.length_append, List.length_cons, List.length_nil]; omega) d6 (by
          unfold exitX at d7 ⊢
          rcases d7 with e | e | ⟨e, e'⟩
          · exact Or.inl e
          · exact Or.inr (Or.inl e)
          · exact Or.inr (Or.inr ⟨e, (cmpP_app e').1⟩)) (by
          rcases hcnt with ⟨c1, c2⟩ | ⟨c1, c2⟩
          · exact Or.inl ⟨c1, by omega⟩
          · exact Or.inr ⟨c1, Or.inr ⟨(h3 c1).1, hcmp c1⟩⟩) d2
        rw [eC] at key
        exact MRs_pre d1 d8 key
    · rw [if_neg c]
      refine ⟨f, g, m, P, C0, rfl, h, rfl, gesP_le hrr hg, hP, hm, ?_, MFr.refl⟩
      unfold exitX at hx ⊢
      rcases hx with e | e | e
      · exact Or.inl e
      · exact Or.inr (Or.inl (by omega))
      · exact Or.inr (Or.inr e)
end MZ
