/-! the model reads a whole one -/
section MY
variable {B : Nat → Nat} {L rb : Nat}
theorem m_pj {pp : RPt} {level w : Nat} (h1 : 1 ≤ level) (h6 : level ≤ 5) (hw : w ≤ 7) (hp : SRP B L pp) (hs : MSIM B L rb pp (level + 1) w) {t : TK} {u : Nat} {C : List (Nat × Nat)} {a k : Nat} {S : List (Nat × Nat)} {m : Nat} {f : Nat → Nat → Int32} {g : (Nat → Nat → Int64) × (Nat → Nat → Option Nat)} (hC : C.length ≤ 9 * u) (hu : u ≤ 30) (hl : S.length + 1 ≤ 6 * w + level) (ha : topOK level a) (hn : 4 ≤ level → t.1 = 13 → 4 ≤ a ∧ a ≤ 6) (h3 : level = 3 → t.1 ≠ 13) (hm : L + 3 ≤ m + t.2.1) (h : ME f g B L rb t ((a, k) :: S) w u C) : MRs B L rb level w a k S m 1 f g (PJ (tk B L) pp level w t u C) := by
  have tv := h.1.2.2.2.2.2
  have hrl : rrL level ≤ rkL (level + 1) ∧ rrL level ≤ rrL (level + 1) := by
    have z : ∀ l : Fin 6, 1 ≤ l.val → rrL l.val ≤ rkL (l.val + 1) ∧ rrL l.val ≤ rrL (l.val + 1) := by decide
    exact z ⟨level, by omega⟩ h1
  have s := hs t u C a k S m f g hC hu (by omega) (by unfold topOK at ha ⊢; omega) (fun z1 z2 => by
    by_cases e : level = 3
    · exact absurd z2 (h3 e)
    · exact hn (by omega) z2) hm h
  have z := hp (level + 1) w t u C hw tv
  unfold PJ
  revert s z
  generalize pp (level + 1) w t u C = r
  intro s z
  rcases r with ⟨c', p'⟩ | ⟨t', u', C'⟩
  · exact s
  · obtain ⟨f2, g2, m2, P, C0, d1, d2, d3, d4, d5, d6, d7, d8⟩ := s
    obtain ⟨z1, z2, z3, z4⟩ := z
    refine MRs_pre d1 d8 ?_
    have key := m_pl h1 h6 hw hp hs hl ha (if level = 3 then 1 else 30) t' u' C0 P m2 f2 g2 (by rw [d3]; omega) z3 (gesP_le hrl.1 d4) (by omega) d6 d7 (by
      by_cases e : level = 3
      · rw [if_pos e]
        refine Or.inr ⟨e, Or.inl ⟨rfl, ?_⟩⟩
        rw [e] at d4; exact d4
      · rw [if_neg e]
        exact Or.inl ⟨e, by omega⟩) d2
    rw [d3] at key
    exact key
theorem m_pn {pp : RPt} {w : Nat} (hw : w ≤ 7) (hs : w ≤ 6 → MSIM B L rb pp 3 (w + 1)) {t : TK} {u : Nat} {C : List (Nat × Nat)} {a k : Nat} {S : List (Nat × Nat)} {m : Nat} {f : Nat → Nat → Int32} {g : (Nat → Nat → Int64) × (Nat → Nat → Option Nat)} (hC : C.length ≤ 9 * u) (hu : u ≤ 30) (hl : S.length + 1 ≤ 6 * w + 3) (ha : topOK 3 a) (h13 : t.1 = 13) (hm : L + 3 ≤ m + t.2.1) (h : ME f g B L rb t ((a, k) :: S) w u C) : MRs B L rb 3 w a k S m 1 f g (PN (tk B L) pp w t u C) := by
  have tv := h.1.2.2.2.2.2
  have hpl := tv.go.2.2.1
  have hx : notX a t = true := by
    have ha' : a < 4 ∨ 7 ≤ a := ha
    unfold notX begN
    rw [Bool.and_eq_true, Bool.or_eq_true, beq_iff_eq, decide_eq_true_eq, decide_eq_true_eq]
    exact ⟨by omega, h13⟩
  obtain ⟨u1, -, -, u4⟩ := m_unit h (by omega) (by omega) hu hw
  obtain ⟨m', rfl⟩ : ∃ m', m = m' + 2 := ⟨m - 2, by omega⟩
  have st := e_st1 h (by simp only [List.length_cons]; omega) (m := m' + 1)
  unfold PN
  by_cases c : 6 < w
  · rw [if_pos c]
    refine MRs_cs (f0 := f) (g0 := g) (v := 1) (Or.inr ⟨m', ?_⟩) MFr.refl h.1
    rw [show m' + 2 = m' + 1 + 1 from rfl, st, u4 (Or.inl ⟨hx, by omega⟩), cal2_some]
  · rw [if_neg c]
    obtain ⟨f1, g1, b1, b2, b3⟩ := u1 hx (by omega)
    have ta := tv.adv (by omega)
    have s := hs (by omega) (tk B L t.2.2.1) u C 3 13 ((a, k) :: S) (m' + 1) f1 g1 hC hu (by simp only [List.length_cons]; omega) (Or.inl (by decide)) (fun z => absurd z (by decide)) (by omega) b2
    refine MRs_pre (m1 := m' + 1) (x1 := 1) (by rw [show m' + 2 = m' + 1 + 1 from rfl, st, b1, cal2_some]) b3 ?_
    revert s
    generalize pp 3 (w + 1) (tk B L t.2.2.1) u C = r
    intro s
    rcases r with ⟨c', p'⟩ | ⟨t', u', C'⟩
    · exact s
    · obtain ⟨f2, g2, m2, P, C0, d1, d2, d3, d4, d5, d6, d7, d8⟩ := s
      have eP : P ++ (3, 13) :: (a, k) :: S = (P ++ [(3, 13)]) ++ (a, k) :: S := by rw [List.append_assoc]; rfl
      have eN : w + 1 + nots P = w + nots (P ++ [(3, 13)]) := by rw [nots_app, nots, nots, if_pos rfl]; omega
      rw [eP, eN] at d2
      refine ⟨f2, g2, m2, P ++ [(3, 13)], C0, d1, d2, by rw [pops_app, d3]; rfl, gesP_app d4 ⟨by decide, by decide, by decide, trivial⟩, by simp only [List.length_append, List.length_cons, List.length_nil]; omega, d6, ?_, d8⟩
      unfold exitX at d7 ⊢
      rcases d7 with e | e | ⟨e, e'⟩
      · exact Or.inl e
      · exact Or.inr (Or.inl e)
      · exact Or.inr (Or.inr ⟨e, (cmpP_app e').1⟩)
theorem m_pu {pp : RPt} {w : Nat} (hw : w ≤ 7) (hp : SRP B L pp) (hs : w ≤ 6 → MSIM B L rb pp 1 (w + 1)) {t : TK} {u : Nat} {C : List (Nat × Nat)} {a k : Nat} {S : List (Nat × Nat)} {m : Nat} {f : Nat → Nat → Int32} {g : (Nat → Nat → Int64) × (Nat → Nat → Option Nat)} (hC : C.length ≤ 9 * u) (hu : u ≤ 30) (hl : S.length + 1 ≤ 6 * w + 6) (hn : t.1 = 13 → 4 ≤ a ∧ a ≤ 6) (hm : L + 3 ≤ m + t.2.1) (h : ME f g B L rb t ((a, k) :: S) w u C) : MRs B L rb 6 w a k S m 1 f g (PU (tk B L) pp w t u C) := by
  have tv := h.1.2.2.2.2.2
  have hpl := tv.go.2.2.1
  have hx : notX a t = false := by
    unfold notX begN
    by_cases e : t.1 = 13
    · have := hn e
      rw [decide_eq_false (by omega), decide_eq_false (by omega)]; rfl
    · have : (t.1 == 13) = false := by simp [e]
      rw [this, Bool.and_false]
  obtain ⟨-, u2, u3, u4⟩ := m_unit h (by omega) (by omega) hu hw
  obtain ⟨m', rfl⟩ : ∃ m', m = m' + 2 := ⟨m - 2, by omega⟩
  have st := e_st1 h (by simp only [List.length_cons]; omega) (m := m' + 1)
  have bad : (isPl t.1 = true ∧ u = 30 ∨ t.1 = 19 ∧ (u = 30 ∨ w = 7) ∨ isPl t.1 = false ∧ t.1 ≠ 19) → MRs B L rb 6 w a k S (m' + 2) 1 f g (csE t) := fun hb => by
    refine MRs_cs (f0 := f) (g0 := g) (v := 1) (Or.inr ⟨m', ?_⟩) MFr.refl h.1
    rw [show m' + 2 = m' + 1 + 1 from rfl, st, u4 (Or.inr ⟨hx, hb⟩), cal2_some]
  unfold PU
  by_cases p : isPl t.1 = true
  · rw [if_pos p]
    by_cases c : 30 ≤ u
    · rw [if_pos c]; exact bad (Or.inl ⟨p, by omega⟩)
    · rw [if_neg c]
      obtain ⟨f1, g1, b1, b2, b3⟩ := u2 hx p (by omega)
      have n31 : t.1 ≠ 31 := fun z => by rw [z] at p; exact absurd p (by decide)
      have ta := tv.adv n31
      refine ⟨f1, g1, m' + 1, [], (t.1, t.2.2.2.1) :: C, by rw [show m' + 2 = m' + 1 + 1 from rfl, st, b1, cal2_some], b2, rfl, trivial, by simp, by omega, ?_, b3⟩
      unfold exitX
      have := (lv_b (k := (tk B L t.2.2.1).1)).2
      omega
  · rw [if_neg p]
    have p' : isPl t.1 = false := by simpa using p
    by_cases c19 : t.1 = 19 ∧ w ≤ 6
    · rw [if_pos c19]
      by_cases c : 30 ≤ u
      · rw [if_pos c]; exact bad (Or.inr (Or.inl ⟨c19.1, Or.inl (by omega)⟩))
      · rw [if_neg c]
        obtain ⟨f1, g1, b1, b2, b3⟩ := u3 hx c19.1 (by omega) (by omega)
        have ta := tv.adv (by omega)
        have s := hs c19.2 (tk B L t.2.2.1) (u + 1) C 7 0 ((a, k) :: S) (m' + 1) f1 g1 (by omega) (by omega) (by simp only [List.length_cons]; omega) (Or.inr (by decide)) (fun z => absurd z (by decide)) (by omega) b2
        have z := hp 1 (w + 1) (tk B L t.2.2.1) (u + 1) C (by omega) tv.go.1
        refine MRs_pre (m1 := m' + 1) (x1 := 1) (by rw [show m' + 2 = m' + 1 + 1 from rfl, st, b1, cal2_some]) b3 ?_
        revert s z
        generalize pp 1 (w + 1) (tk B L t.2.2.1) (u + 1) C = r
        intro s z
        rcases r with ⟨c', p'⟩ | ⟨t', u', C'⟩
        · exact s
        · obtain ⟨f2, g2, m2, P, C0, d1, d2, d3, d4, d5, d6, d7, d8⟩ := s
          obtain ⟨z1, z2, z3, z4⟩ := z
          simp only
          refine MRs_pre d1 d8 ?_
          have hk' := z4.go.2.2.2
          have hpl' := z4.go.2.2.1
          obtain ⟨m3, rfl⟩ : ∃ m3, m2 = m3 + 2 := ⟨m2 - 2, by omega⟩
          have hlen : (P ++ (7, 0) :: (a, k) :: S).length ≤ 89 := by simp only [List.length_append, List.length_cons]; omega
          have pl := pops_len P C0
          rw [d3] at pl
          have st2 := e_st0 d2 (by simp only [List.length_append, List.length_cons] at hlen ⊢; omega) (m := m3 + 1)
          have h1 := (lv_b (k := t'.1)).1
          unfold exitX at d7
          have d7' : lvO t'.1 = 6 ∨ lvO t'.1 = 3 ∧ cmpP P = true := by
            rcases d7 with e | e | e
            · exact Or.inl e
            · omega
            · exact Or.inr e
          rcases d7' with e6 | ⟨e3, ec⟩
          · have r0 := (lv_rk hk' e6).1 rfl
            obtain ⟨f3, k1, k2, k3⟩ := m_end r0 (by decide) (by omega) (by omega) (gesP_le (Nat.zero_le _) d4) d2
            rw [d3] at k2
            obtain ⟨k4, k5⟩ := ME_popt k2
            obtain ⟨k6, k7⟩ := ME_w k4 w
            have h434 : f3 434 ((a, k) :: S).length = 7 := k2.2.2.2.2.2.2.1.1
            have s41 : ∀ {f : Nat → Nat → Int32}, MG f g2 B L rb t' → f_X12_isSignHere 41 (f, g2) = some (if t'.1 = 20 then 1 else 0) := fun hG => X12_isSignHere (s := 20) (c := 41) hG.1 hG.2.1 hk' (by decide) rfl (by decide)
            have j104 : jn_X12_behindUnit_104 0 (f3, g2) = cal (f_X12_must (if t'.1 = 20 then 1 else 0) (am_u2 (am_u2 f3 413 36 (Int32.ofNat ((a, k) :: S).length)) 413 35 (Int32.ofNat w), g2)) fun h40 => some (0, h40) := by
              have hp36 : Int32.ofNat ((7, 0) :: (a, k) :: S).length - 1 = Int32.ofNat ((a, k) :: S).length := by rw [on_pred (by simp)]; rfl
              unfold jn_X12_behindUnit_104
              rw [if_neg (by decide), bnd_eq, ptI_eq, bnd_eq]
              simp only [k2.2.1, hp36, au_same]
              simp only [List.length_append, List.length_cons] at hlen
              rw [rdI_n (by simp only [List.length_cons]; omega) (by decide)]
              simp only [u2_ne (show (434 : Nat) ≠ 413 by decide), h434]
              rw [if_pos True.intro, bnd_eq, ptI_eq]
              have e35 : am_u2 f3 413 36 (Int32.ofNat ((a, k) :: S).length) 413 35 = Int32.ofNat (w + 1) := by rw [au_nk (by decide)]; exact k2.2.2.1
              simp only [e35]
              rw [on_pred (by omega), Nat.add_sub_cancel, s41 k6.1, cal_some]
            by_cases c20 : t'.1 = 20
            · rw [if_pos c20]
              obtain ⟨f4, g4, q1, q2, q3⟩ := ME_go k6
              have ta' := z4.adv (by omega)
              have hmust : f_X12_must 1 (am_u2 (am_u2 f3 413 36 (Int32.ofNat ((a, k) :: S).length)) 413 35 (Int32.ofNat w), g2) = some (f4, g4) := by
                unfold f_X12_must
                rw [isGood_0 k6.1.2.2.2.2.1, cal_some, if_neg (by decide), if_neg (by decide), q1, cal_some]
              refine ⟨f4, g4, m3 + 1, [], C', ?_, q2, rfl, trivial, by simp, by omega, ?_, k3.trans (k5.trans (k7.trans q3))⟩
              · rw [show m3 + 2 = m3 + 1 + 1 from rfl, st2, k1, j104, if_pos c20, hmust, cal_some, cal2_some]
              · unfold exitX
                have := (lv_b (k := (tk B L t'.2.2.1).1)).2
                omega
            · rw [if_neg c20]
              have hmust : f_X12_must 0 (am_u2 (am_u2 f3 413 36 (Int32.ofNat ((a, k) :: S).length)) 413 35 (Int32.ofNat w), g2) = some (failM (am_u2 (am_u2 f3 413 36 (Int32.ofNat ((a, k) :: S).length)) 413 35 (Int32.ofNat w)) (if t'.1 = 32 then 1 else 2) t'.2.1, g2) := by
                unfold f_X12_must
                rw [isGood_0 k6.1.2.2.2.2.1, cal_some, if_neg (by decide), if_pos rfl, X12_misplaced k6.1, cal_some]
              refine MRs_cs (v := 0) (Or.inr ⟨m3, ?_⟩) (k3.trans (k5.trans k7)) k6.1
              rw [show m3 + 2 = m3 + 1 + 1 from rfl, st2, k1, j104, if_neg c20, hmust, cal_some, cal2_some]
          · have r4 : rkO t'.1 = 4 := ((lv_rk hk' e3).2 (by decide)).1
            have n20 : ¬ t'.1 = 20 := fun z => by rw [z] at e3; exact absurd e3 (by decide)
            rw [if_neg n20]
            obtain ⟨q1, q2⟩ := cmpP_app (Q := (7, 0) :: (a, k) :: S) ec
            refine MRs_cs (v := 1) (Or.inr ⟨m3, ?_⟩) MFr.refl d2.1
            rw [show m3 + 2 = m3 + 1 + 1 from rfl, st2, m_cmp2 r4 (by omega) q1 q2 d2, cal2_some]
    · rw [if_neg c19]
      by_cases c : t.1 = 19
      · exact bad (Or.inr (Or.inl ⟨c, Or.inr (by omega)⟩))
      · exact bad (Or.inr (Or.inr ⟨p', c⟩))
theorem m_pe : ∀ n level w, 1 ≤ level → level ≤ 6 → w ≤ 7 → 6 * (7 - w) + (7 - level) ≤ n → MSIM B L rb (PE (tk B L) n) level w := by
  intro n
  induction n with
  | zero => intro level w h1 h2 h3 h4; omega
  | succ n ih =>
    intro level w l1 l6 hw hn t u C a k S m f g hC hu hl ha h13 hm h
    rw [PE]
    simp only
    by_cases c : level < 6
    · rw [if_pos c]
      by_cases c3 : level = 3 ∧ t.1 = 13
      · rw [if_pos c3]
        obtain ⟨rfl, c13⟩ := c3
        exact m_pn hw (fun z => ih 3 (w + 1) (by omega) (by omega) (by omega) (by omega)) hC hu hl ha c13 hm h
      · rw [if_neg c3]
        exact m_pj l1 (by omega) hw (SZ_pe n) (ih (level + 1) w (by omega) (by omega) hw (by omega)) hC hu hl ha h13 (fun z y => c3 ⟨z, y⟩) hm h
    · rw [if_neg c]
      obtain rfl : level = 6 := by omega
      exact m_pu hw (SZ_pe n) (fun z => ih 1 (w + 1) (by omega) (by omega) (by omega) (by omega)) hC hu hl (h13 (by decide)) hm h
/-- the model's e -/
theorem m_e {f : Nat → Nat → Int32} {g : (Nat → Nat → Int64) × (Nat → Nat → Option Nat)} {t : TK} (hG : MG f g B L rb t) (h418 : f 418 rb = 0) (h37 : f 413 37 = 0) (h34 : f 413 34 = Int32.ofNat (560 * rb)) : ∃ f' g', f_X12_e (f, g) = some (f', g') ∧ MFr rb f f' g g' ∧ match PE (tk B L) 60 1 0 t 0 [] with
    | .inl (c, p) => f' 413 4 = Int32.ofNat c ∧ f' 413 5 = Int32.ofNat p ∧ (0 < c ∧ c < 10) ∧ PTm f' g' B L
    | .inr (t', u', C') => if lvO t'.1 = 3 then f' 413 4 = 2 ∧ f' 413 5 = Int32.ofNat t'.2.1 ∧ PTm f' g' B L else MG f' g' B L rb t' ∧ f' 418 rb = Int32.ofNat u' ∧ f' 413 34 = Int32.ofNat (560 * rb + C'.length) ∧ CLm f' (560 * rb) C' := by
  have hL := hG.2.1.2.1
  have tv := hG.2.2.2.2.2
  let f1 := am_u2 (am_u2 f 413 36 0) 413 35 0
  have fr : ∀ b, b ≠ 413 → f1 b = f b := fun b z => by show am_u2 (am_u2 _ _ _ _) _ _ _ b = _; rw [u2_ne z, u2_ne z]
  have fk : ∀ k, k ≠ 36 → k ≠ 35 → f1 413 k = f 413 k := fun k z1 z2 => by show am_u2 (am_u2 _ _ _ _) _ _ _ 413 k = _; rw [au_nk z2, au_nk z1]
  have h1 : ME f1 g B L rb t [] 0 0 [] := ⟨MG_fr (fun k z => fk k (by omega) (by omega)) (fr 415 (by decide)) hG, by show am_u2 (am_u2 _ _ _ _) _ _ _ 413 36 = _; rw [au_nk (by decide), au_same]; rfl, au_same, by rw [fr 418 (by decide)]; exact h418, by rw [fk 37 (by decide) (by decide)]; exact h37, by rw [fk 34 (by decide) (by decide)]; exact h34, trivial, trivial⟩
  have mf1 : MFr rb f f1 g g := ⟨fun b z _ _ _ _ _ => fr b z, fun k z1 z2 => fk k (by omega) (by omega), fun i _ => by rw [fr 418 (by decide)], fun i _ => by rw [fr 432 (by decide), fr 433 (by decide)]; exact ⟨rfl, rfl⟩, rfl, fun _ _ => rfl⟩
  obtain ⟨f2, b1, b2, b3⟩ := ME_push h1 (by decide) 8 0 0 (by decide) (fun z => absurd z (by decide))
  have b1' : f_X12_pushE 8 0 (f1, g) = some (f2, g) := b1
  have he : f_X12_e (f, g) = lp_X12_e_19 4000 1 (f2, g) := by
    unfold f_X12_e
    rw [ptI_eq, ptI_eq]
    have b1'' : f_X12_pushE 8 0 (am_u2 (am_u2 (f, g).1 413 36 0, (f, g).2).1 413 35 0, (am_u2 (f, g).1 413 36 0, (f, g).2).2) = some (f2, g) := b1'
    rw [b1'', cal_some]
  have hpl := tv.go.2.2.1
  have s := m_pe (rb := rb) 60 1 0 (by decide) (by decide) (by decide) (by decide) t 0 [] 8 0 [] 4000 f2 g (by simp) (by decide) (by simp) (Or.inr (by decide)) (fun z => absurd z (by decide)) (by omega) b2
  have z := SZ_pe (B := B) (L := L) 60 1 0 t 0 [] (by decide) tv
  rw [he]
  revert s z
  generalize PE (tk B L) 60 1 0 t 0 [] = r
  intro s z
  rcases r with ⟨c', p'⟩ | ⟨t', u', C'⟩
  · obtain ⟨f', g', a1, a2, a3, a4, a5, a6⟩ := s
    exact ⟨f', g', a1, mf1.trans (b3.trans a5), a2, a3, a4, a6⟩
  · obtain ⟨f3, g3, m2, P, C0, d1, d2, d3, d4, d5, d6, d7, d8⟩ := s
    obtain ⟨z1, z2, z3, z4⟩ := z
    have hk' := z4.go.2.2.2
    have hpl' := z4.go.2.2.1
    obtain ⟨m3, rfl⟩ : ∃ m3, m2 = m3 + 2 := ⟨m2 - 2, by omega⟩
    simp only [List.length_nil] at z1
    have hlen : (P ++ [(8, 0)]).length ≤ 89 := by simp only [List.length_append, List.length_cons, List.length_nil]; omega
    have pl := pops_len P C0
    rw [d3] at pl
    have st2 := e_st0 d2 (by simp only [List.length_append, List.length_cons, List.length_nil] at hlen ⊢; omega) (m := m3 + 1)
    have h1 := (lv_b (k := t'.1)).1
    rw [d1, show m3 + 2 = m3 + 1 + 1 from rfl, st2]
    have fr0 := mf1.trans (b3.trans d8)
    unfold exitX at d7
    have d7' : lvO t'.1 = 6 ∨ lvO t'.1 = 3 ∧ cmpP P = true := by
      rcases d7 with e | e | e
      · exact Or.inl e
      · omega
      · exact Or.inr e
    rcases d7' with e6 | ⟨e3, ec⟩
    · have r0 := (lv_rk hk' e6).1 rfl
      obtain ⟨f4, k1, k2, k3⟩ := m_end r0 (by decide) (by omega) (by omega) (gesP_le (Nat.zero_le _) d4) d2
      rw [d3] at k2
      obtain ⟨k4, k5⟩ := ME_popt k2
      have h434 : f4 434 0 = 8 := k2.2.2.2.2.2.2.1.1
      have e36 : f4 413 36 = 1 := k2.2.1
      have n83 : ¬ (8 : Int32) = 7 := by decide
      have j104 : jn_X12_behindUnit_104 0 (f4, g3) = some (0, (am_u2 f4 413 36 0, g3)) := by
        unfold jn_X12_behindUnit_104
        rw [if_neg (by decide), bnd_eq, ptI_eq, bnd_eq]
        simp only [e36, au_same, show (1 : Int32) - 1 = Int32.ofNat 0 from rfl]
        rw [rdI_n (by decide) (by decide)]
        simp only [u2_ne (show (434 : Nat) ≠ 413 by decide), h434]
        rw [if_neg n83]
        rfl
      have k4' : ME (am_u2 f4 413 36 0) g3 B L rb t' [] 0 u' C' := k4
      have k5' : MFr rb f4 (am_u2 f4 413 36 0) g3 g3 := k5
      refine ⟨am_u2 f4 413 36 0, g3, ?_, fr0.trans (k3.trans k5'), ?_⟩
      · rw [k1, j104, cal2_some, lp_X12_e_19, isGood_0 k4'.1.2.2.2.2.1, cal_some, if_neg (by decide), bnd_eq]
        simp only [au_same]
        rw [if_neg (by decide)]
      · simp only
        rw [if_neg (by omega)]
        exact ⟨k4'.1, k4'.2.2.2.1, k4'.2.2.2.2.2.1, k4'.2.2.2.2.2.2.2⟩
    · have r4 : rkO t'.1 = 4 := ((lv_rk hk' e3).2 (by decide)).1
      have n32 : ¬ t'.1 = 32 := ((lv_rk hk' e3).2 (by decide)).2.2.2.2
      obtain ⟨q1, q2⟩ := cmpP_app (Q := [(8, 0)]) ec
      refine ⟨failM f3 (if t'.1 = 32 then 1 else 2) t'.2.1, g3, ?_, fr0.trans failM_fr, ?_⟩
      · rw [m_cmp2 r4 (by omega) q1 q2 d2, cal2_some]
        exact e_fail cs12
      · simp only
        rw [if_pos e3, if_neg n32]
        exact ⟨failM_4.1, failM_4.2, PT_fail d2.1⟩
end MY
