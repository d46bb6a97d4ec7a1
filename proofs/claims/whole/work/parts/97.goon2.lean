/-! the model goes on to the next token -/
section GP
variable {f : Nat → Nat → Int32} {g : (Nat → Nat → Int64) × (Nat → Nat → Option Nat)} {B : Nat → Nat} {L p : Nat}
theorem X12_goOn (T : TPm f B L) (h7 : f 413 7 = Int32.ofNat p) (hp : p ≤ L) : ∃ f' g', f_X12_goOn (f, g) = some (f', g') ∧ MT f' g' B L (tk B L p) ∧ TPm f' B L ∧ (∀ a, a ≠ 413 → f' a = f a) ∧ (∀ k, k ≠ 6 → k ≠ 7 → k ≠ 8 → k ≠ 9 → f' 413 k = f 413 k) ∧ g'.2 = g.2 ∧ ∀ a, a ≠ 413 → g'.1 a = g.1 a := by
  have hL := T.2.1
  obtain ⟨hq1, hq2⟩ := tkQ_le (B := B) hp
  have hb := g_blank (g := g) (B := B) (L := L) (k := fun h19 => jn_X12_goOn_58 h19) 1600 2399 p (am_u2 f 413 6 (Int32.ofNat p)) (by omega) hp au_same (TPm_at (by decide) T)
  rw [au_au] at hb
  have hb' : f_X12_goOn (f, g) = jn_X12_goOn_58 (am_u2 f 413 6 (Int32.ofNat (tkQ B L p)), g) := by
    unfold f_X12_goOn
    rw [bnd_eq, ptI_eq]
    simp only [h7]
    exact hb
  rw [hb']
  clear hb hb'
  unfold tk
  generalize tkQ B L p = q at hq1 hq2
  let f1 := am_u2 (am_u2 f 413 6 (Int32.ofNat q)) 413 7 (Int32.ofNat (q + 1))
  have T0 : TPm (am_u2 f 413 6 (Int32.ofNat q)) B L := TPm_at (by decide) T
  have T1 : TPm f1 B L := TPm_at (by decide) T0
  have p6 : f1 413 6 = Int32.ofNat q := by show am_u2 _ 413 7 _ 413 6 = _; rw [au_nk (by decide), au_same]
  have p7 : f1 413 7 = Int32.ofNat (q + 1) := au_same
  have p3 : f1 413 3 = Int32.ofNat L := T1.1
  have fr1 : ∀ a, a ≠ 413 → f1 a = f a := fun a ha => by show am_u2 (am_u2 _ _ _ _) _ _ _ a = _; rw [u2_ne ha, u2_ne ha]
  have frk : ∀ k, k ≠ 6 → k ≠ 7 → f1 413 k = f 413 k := fun k z1 z2 => by show am_u2 (am_u2 _ _ _ _) _ _ _ 413 k = _; rw [au_nk z2, au_nk z1]
  have hcb := ch_lt (p := q) T.2.2.2
  have e6 : am_u2 f 413 6 (Int32.ofNat q) 413 6 = Int32.ofNat q := au_same
  unfold jn_X12_goOn_58
  rw [bnd_eq]
  simp only [e6]
  rw [X12_sign T0 (by omega), cal_some, bnd_eq, ptI_eq, bnd_eq, bnd_eq]
  simp only [e6, on_succ]
  have q6 : am_u2 (am_u2 f 413 6 (Int32.ofNat q)) 413 7 (Int32.ofNat (q + 1)) 413 6 = Int32.ofNat q := p6
  have q3 : am_u2 (am_u2 f 413 6 (Int32.ofNat q)) 413 7 (Int32.ofNat (q + 1)) 413 3 = Int32.ofNat L := p3
  simp only [q6, q3]
  unfold tkAt
  by_cases c : q < L
  · rw [if_pos ((on_lt (by omega) (by omega)).mpr c), X12_isLetter hcb, cal_some, if_pos c]
    by_cases c1 : isLt (chA B L q) = true
    · rw [if_pos c1, if_neg (by decide), if_pos c1]
      have htw : tkW B L q = rl (fun i => isLt (chA B L i)) 1599 (q + 1) + 1 := by unfold tkW; rw [rl, if_pos c1]
      have hrun : q + tkW B L q ≤ L := run_le (P := isLt) (B := B) (by decide) hq2
      have hlet : ∀ i, i < tkW B L q → 97 ≤ chA B L (q + i) ∧ chA B L (q + i) ≤ 122 := fun i hi => by
        have := (rl_spec (P := fun i => isLt (chA B L i)) 1600 q).1 i hi
        simp only [isLt, Bool.and_eq_true] at this
        exact ⟨of_decide_eq_true this.1, of_decide_eq_true this.2⟩
      have a1 := g_let (g := g) (B := B) (L := L) (k := fun h105 => ptL h105 413 10 0 fun h107 => bnd (h107.1 413 6) fun v110 => lp_X12_goOn_156 (fun h120 => jn_X12_goOn_199 h120) 4000 v110 h107) 1599 2400 (q + 1) f1 (by omega) (by omega) p7 T1
      rw [show q + 1 + rl (fun i => isLt (chA B L i)) 1599 (q + 1) = q + tkW B L q by omega] at a1
      have a1' : lp_X12_goOn_119 (fun h105 => ptL h105 413 10 0 fun h107 => bnd (h107.1 413 6) fun v110 => lp_X12_goOn_156 (fun h120 => jn_X12_goOn_199 h120) 4000 v110 h107) 4000 (am_u2 (am_u2 f 413 6 (Int32.ofNat q)) 413 7 (Int32.ofNat (q + 1)), g) = _ := a1
      rw [a1']
      let f2 := am_u2 f1 413 7 (Int32.ofNat (q + tkW B L q))
      have T2 : TPm f2 B L := TPm_at (by decide) T1
      have r6 : f2 413 6 = Int32.ofNat q := by show am_u2 _ 413 7 _ 413 6 = _; rw [au_nk (by decide)]; exact p6
      have r7 : f2 413 7 = Int32.ofNat (q + tkW B L q) := au_same
      obtain ⟨g', b1, b2, b3, b4⟩ := g_name (f := f2) (B := B) (L := L) (q := q) (l := tkW B L q) (k := fun h120 => jn_X12_goOn_199 h120) (by omega) hlet 8 3991 0 (am_u2 g.1 413 10 0, g.2) rfl (Nat.zero_le _) r6 r7 T2 (by simp [am_u2, wM])
      have b1' : lp_X12_goOn_156 (fun h120 => jn_X12_goOn_199 h120) 4000 (Int32.ofNat q) (f2, am_u2 g.1 413 10 0, g.2) = jn_X12_goOn_199 (f2, g') := b1
      unfold ptL
      simp only
      rw [bnd_eq]
      have r6' : am_u2 f1 413 7 (Int32.ofNat (q + tkW B L q)) 413 6 = Int32.ofNat q := r6
      rw [r6']
      have b1'' : lp_X12_goOn_156 (fun h120 => jn_X12_goOn_199 h120) 4000 (Int32.ofNat q) (am_u2 f1 413 7 (Int32.ofNat (q + tkW B L q)), am_u2 g.1 413 10 0, g.2) = jn_X12_goOn_199 (f2, g') := b1'
      rw [b1'']
      unfold jn_X12_goOn_199
      rw [bnd_eq, bnd_eq]
      simp only [r6, r7]
      have hsub : Int32.ofNat (q + tkW B L q) - Int32.ofNat q = Int32.ofNat (tkW B L q) := by
        rw [← on_add, Int32.add_comm, Int32.add_sub_cancel]
      rw [hsub]
      have hle : tkW B L q ≤ 1600 := (rl_spec (P := fun i => isLt (chA B L i)) 1600 q).2.2
      have fin : ∀ (kd : Nat) (v : Int32), v = Int32.ofNat (mtk kd) → (kd < 18 ∨ kd = 30 → ∃ M, g'.1 413 10 = Int64.ofNat M ∧ WMr (wN (fun i => chA B L (q + i)) (tkW B L q)) M ∧ kd = wk (wN (fun i => chA B L (q + i)) (tkW B L q))) → kd ≠ 29 → (kd < 18 ∨ 28 < kd) → ∃ f'' g'', (ptI (f2, g') 413 8 v fun h34 => some h34) = some (f'', g'') ∧ MT f'' g'' B L ⟨kd, q, q + tkW B L q, 0, wN (fun i => chA B L (q + i)) (tkW B L q)⟩ ∧ TPm f'' B L ∧ (∀ a, a ≠ 413 → f'' a = f a) ∧ (∀ k, k ≠ 6 → k ≠ 7 → k ≠ 8 → k ≠ 9 → f'' 413 k = f 413 k) ∧ g''.2 = g.2 ∧ ∀ a, a ≠ 413 → g''.1 a = g.1 a := fun kd v hv hk hk2 hk3 => by
        rw [ptI_eq]
        refine ⟨am_u2 f2 413 8 v, g', rfl, ⟨by rw [au_nk (by decide)]; exact r6, by rw [au_nk (by decide)]; exact r7, by rw [au_same]; exact hv, fun h => absurd h hk2, hk, fun z1 z2 => by simp only at z1 z2; omega, by simp only; omega⟩, TPm_at (by decide) T2, fun a ha => by rw [u2_ne ha]; show am_u2 f1 _ _ _ a = _; rw [u2_ne ha, fr1 a ha], fun k z1 z2 z3 z4 => by rw [au_nk z3]; show am_u2 f1 _ _ _ 413 k = _; rw [au_nk z2, frk k z1 z2], b3, fun a ha => by rw [b4 a ha]; funext b; simp [am_u2, ha]⟩
      by_cases c8 : 8 < tkW B L q
      · rw [if_pos (by rw [show (8 : Int32) = Int32.ofNat 8 from rfl, on_lt (by omega) (by omega)]; exact c8), if_pos c8]
        exact fin 32 1 rfl (fun h => absurd h (by decide)) (by decide) (by decide)
      · have hw := wtok (B := B) (L := L) (q := q) (by omega)
        rw [if_neg (by rw [show (8 : Int32) = Int32.ofNat 8 from rfl, on_lt (by omega) (by omega)]; exact c8), if_neg c8, bnd_eq]
        simp only [b2 (by omega)]
        rw [X12_isKept hw, cal_some]
        rcases wk_spec (wN (fun i => chA B L (q + i)) (tkW B L q)) with ⟨z, -⟩ | ⟨z, -⟩
        · rw [if_pos z, if_neg (by decide)]
          exact fin _ 3 (by unfold mtk; rw [if_pos z]; rfl) (fun _ => ⟨_, b2 (by omega), hw, rfl⟩) (by omega) (Or.inl z)
        · rw [if_neg (show ¬ wk (wN (fun i => chA B L (q + i)) (tkW B L q)) < 18 by omega), if_pos rfl]
          exact fin _ 2 (by rw [z]; rfl) (fun _ => ⟨_, b2 (by omega), hw, rfl⟩) (by omega) (Or.inr (by omega))
    · rw [if_neg c1, if_pos rfl, X12_isDigit hcb, cal_some, if_neg c1]
      by_cases c2 : isDg (chA B L q) = true
      · rw [if_pos c2, if_neg (by decide), if_pos c2, ptI_eq, bnd_eq, ptI_eq]
        have hrun : q + tkD B L q ≤ L := run_le (P := isDg) (B := B) (by decide) hq2
        have hle : tkD B L q ≤ 1600 := (rl_spec (P := fun i => isDg (chA B L i)) 1600 q).2.2
        let f2 := am_u2 (am_u2 f1 413 9 0) 413 7 (Int32.ofNat q)
        have T2 : TPm f2 B L := TPm_at (by decide) (TPm_at (by decide) T1)
        have r6 : f2 413 6 = Int32.ofNat q := by show am_u2 (am_u2 _ _ _ _) _ _ _ 413 6 = _; rw [au_nk (by decide), au_nk (by decide)]; exact p6
        have fr2 : ∀ a, a ≠ 413 → f2 a = f a := fun a ha => by show am_u2 (am_u2 _ _ _ _) _ _ _ a = _; rw [u2_ne ha, u2_ne ha, fr1 a ha]
        have fk2 : ∀ k, k ≠ 6 → k ≠ 7 → k ≠ 9 → f2 413 k = f 413 k := fun k z1 z2 z3 => by show am_u2 (am_u2 _ _ _ _) _ _ _ 413 k = _; rw [au_nk z2, au_nk z3, frk k z1 z2]
        obtain ⟨f', a1, a2, a3, a4, a5⟩ := g_dig (g := g) (B := B) (L := L) (q := q) (k := fun h74 => bnd (h74.1 413 7) fun v76 => bnd (h74.1 413 6) fun v77 => if 4 < (v76 - v77) then ptI h74 413 8 1 fun h78 => some h78 else bnd (h74.1 413 7) fun v81 => cal (f_X12_sign v81 h74) fun v83 => cal (f_X12_isLetter v83 h74) fun v86 => if v86 = 0 then ptI h74 413 8 4 fun h88 => some h88 else ptI h74 413 8 1 fun h91 => some h91) 1600 2399 0 f2 (by omega) hq2 r6 au_same (fun _ => by show am_u2 (am_u2 _ _ _ _) _ _ _ 413 9 = _; rw [au_nk (by decide), au_same]; rfl) T2
        have e96 : am_u2 (am_u2 (am_u2 f 413 6 (Int32.ofNat q)) 413 7 (Int32.ofNat (q + 1))) 413 9 0 413 6 = Int32.ofNat q := by rw [au_nk (by decide)]; exact p6
        simp only [e96]
        have a1' : lp_X12_goOn_259 (fun h74 => bnd (h74.1 413 7) fun v76 => bnd (h74.1 413 6) fun v77 => if 4 < (v76 - v77) then ptI h74 413 8 1 fun h78 => some h78 else bnd (h74.1 413 7) fun v81 => cal (f_X12_sign v81 h74) fun v83 => cal (f_X12_isLetter v83 h74) fun v86 => if v86 = 0 then ptI h74 413 8 4 fun h88 => some h88 else ptI h74 413 8 1 fun h91 => some h91) 4000 (am_u2 (am_u2 (am_u2 (am_u2 f 413 6 (Int32.ofNat q)) 413 7 (Int32.ofNat (q + 1))) 413 9 0) 413 7 (Int32.ofNat q), g) = _ := a1
        rw [a1']
        have td : 0 + rl (fun i => isDg (chA B L i)) 1600 (q + 0) = tkD B L q := Nat.zero_add _
        rw [td] at a2 a3
        have a36 : f' 413 6 = Int32.ofNat q := by rw [a5 6 (by decide) (by decide)]; exact r6
        have T3 : TPm f' B L := TPm_fr (a5 3 (by decide) (by decide)) (a4 415 (by decide)) T2
        have hsub : Int32.ofNat (q + tkD B L q) - Int32.ofNat q = Int32.ofNat (tkD B L q) := by
          rw [← on_add, Int32.add_comm, Int32.add_sub_cancel]
        rw [bnd_eq, bnd_eq]
        simp only [a2, a36, hsub]
        have fin : ∀ (kd : Nat) (v : Int32), v = Int32.ofNat (mtk kd) → (kd = 29 → f' 413 9 = Int32.ofNat (nuN (fun j => chA B L (q + j)) (tkD B L q))) → (28 < kd ∧ kd ≠ 30) → ∃ f'' g'', (ptI (f', g) 413 8 v fun h34 => some h34) = some (f'', g'') ∧ MT f'' g'' B L ⟨kd, q, q + tkD B L q, nuN (fun i => chA B L (q + i)) (tkD B L q), 0⟩ ∧ TPm f'' B L ∧ (∀ a, a ≠ 413 → f'' a = f a) ∧ (∀ k, k ≠ 6 → k ≠ 7 → k ≠ 8 → k ≠ 9 → f'' 413 k = f 413 k) ∧ g''.2 = g.2 ∧ ∀ a, a ≠ 413 → g''.1 a = g.1 a := fun kd v hv hk hk2 => by
          rw [ptI_eq]
          refine ⟨am_u2 f' 413 8 v, g, rfl, ⟨by rw [au_nk (by decide)]; exact a36, by rw [au_nk (by decide)]; exact a2, by rw [au_same]; exact hv, fun h => by rw [au_nk (by decide)]; exact hk h, fun h => by simp only at h; omega, fun z1 z2 => by simp only at z1 z2; omega, by simp only; omega⟩, TPm_at (by decide) T3, fun a ha => by rw [u2_ne ha, a4 a ha, fr2 a ha], fun k z1 z2 z3 z4 => by rw [au_nk z3, a5 k z2 z4, fk2 k z1 z2 z4], rfl, fun a ha => rfl⟩
        by_cases c4 : 4 < tkD B L q
        · rw [if_pos (by rw [show (4 : Int32) = Int32.ofNat 4 from rfl, on_lt (by omega) (by omega)]; exact c4), if_pos (Or.inl c4)]
          exact fin 32 1 rfl (fun h => absurd h (by decide)) (by decide)
        · rw [if_neg (by rw [show (4 : Int32) = Int32.ofNat 4 from rfl, on_lt (by omega) (by omega)]; exact c4), bnd_eq, X12_sign T3 (by omega), cal_some, X12_isLetter (ch_lt T.2.2.2), cal_some]
          by_cases c5 : isLt (chA B L (q + tkD B L q)) = true
          · rw [if_pos c5, if_neg (by decide), if_pos (Or.inr c5)]
            exact fin 32 1 rfl (fun h => absurd h (by decide)) (by decide)
          · rw [if_neg c5, if_pos rfl, if_neg (fun z => z.elim c4 c5)]
            exact fin 29 4 rfl (fun _ => a3 (by omega)) (by decide)
      · rw [if_neg c2, if_pos rfl, X12_isSign hcb, cal_some, if_neg c2]
        have hsg : sgK (chA B L q) = 32 ∨ 17 < sgK (chA B L q) ∧ sgK (chA B L q) < 29 := by unfold sgK; (repeat' split) <;> decide
        have fin : ∀ v : Int32, v = Int32.ofNat (mtk (sgK (chA B L q))) → ∃ f'' g'', (ptI (f1, g) 413 8 v fun h34 => some h34) = some (f'', g'') ∧ MT f'' g'' B L ⟨sgK (chA B L q), q, q + 1, 0, 0⟩ ∧ TPm f'' B L ∧ (∀ a, a ≠ 413 → f'' a = f a) ∧ (∀ k, k ≠ 6 → k ≠ 7 → k ≠ 8 → k ≠ 9 → f'' 413 k = f 413 k) ∧ g''.2 = g.2 ∧ ∀ a, a ≠ 413 → g''.1 a = g.1 a := fun v hv => by
          rw [ptI_eq]
          refine ⟨am_u2 f1 413 8 v, g, rfl, ⟨by rw [au_nk (by decide)]; exact p6, by rw [au_nk (by decide)]; exact p7, by rw [au_same]; exact hv, fun h => by simp only at h; omega, fun h => by simp only at h; omega, fun z1 z2 => rfl, by simp only; omega⟩, TPm_at (by decide) T1, fun a ha => by rw [u2_ne ha, fr1 a ha], fun k z1 z2 z3 z4 => by rw [au_nk z3, frk k z1 z2], rfl, fun a ha => rfl⟩
        rcases hsg with h32 | ⟨z1, z2⟩
        · rw [if_pos h32, if_pos rfl]
          exact fin 1 (by rw [h32]; rfl)
        · rw [if_neg (show ¬ sgK (chA B L q) = 32 by omega), if_neg (by decide)]
          refine fin 5 ?_
          unfold mtk
          rw [if_neg (by omega), if_neg (by omega), if_neg (by omega), if_neg (by omega), if_neg (by omega)]
          rfl
  · have hqL : q = L := by omega
    rw [if_neg (fun z => c ((on_lt (by omega) (by omega)).mp z)), if_neg c, ptI_eq, bnd_eq, ptI_eq, bnd_eq, ptI_eq]
    refine ⟨am_u2 (am_u2 (am_u2 f1 413 8 0) 413 6 (Int32.ofNat L)) 413 7 (Int32.ofNat L), g, ?_, ⟨by rw [au_nk (by decide), au_same, hqL], by rw [au_same, hqL], by rw [au_nk (by decide), au_nk (by decide), au_same]; rfl, fun h => absurd h (by simp), fun h => absurd h (by simp), fun z1 z2 => absurd z2 (by simp), by simp only; omega⟩, TPm_at (by decide) (TPm_at (by decide) (TPm_at (by decide) T1)), fun a ha => by rw [u2_ne ha, u2_ne ha, u2_ne ha, fr1 a ha], fun k z1 z2 z3 z4 => by rw [au_nk z2, au_nk z1, au_nk z3, frk k z1 z2], rfl, fun a ha => rfl⟩
    have e83 : am_u2 (am_u2 (am_u2 f 413 6 (Int32.ofNat q)) 413 7 (Int32.ofNat (q + 1))) 413 8 0 413 3 = Int32.ofNat L := by rw [au_nk (by decide)]; exact p3
    have e83' : ∀ v : Int32, am_u2 (am_u2 (am_u2 (am_u2 f 413 6 (Int32.ofNat q)) 413 7 (Int32.ofNat (q + 1))) 413 8 0) 413 6 v 413 3 = Int32.ofNat L := fun v => by rw [au_nk (by decide)]; exact e83
    simp only [e83, e83']
    rfl
end GP
