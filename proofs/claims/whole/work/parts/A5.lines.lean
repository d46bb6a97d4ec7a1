/-! lines, on paper -/
abbrev DR := (Nat → Nat) × (Nat → Nat → Nat) × List (Nat × Nat)
def sN (s : Nat → Nat) (k v : Nat) : Nat → Nat := fun j => if j = k then v else s j
def aN (a : Nat → Nat → Nat) (i k v : Nat) : Nat → Nat → Nat := fun x y => if x = i ∧ y = k then v else a x y
def bR {α β : Type} (x : (Nat × Nat) ⊕ α) (k : α → (Nat × Nat) ⊕ β) : (Nat × Nat) ⊕ β := match x with
  | .inl e => .inl e
  | .inr a => k a
def csT {α : Type} (t : TK) : (Nat × Nat) ⊕ α := .inl (if t.1 = 32 then 1 else 2, t.2.1)
def fndN (names : Nat → Nat) (w : Nat) : Nat → Nat → Nat
  | 0, _ => 99
  | m + 1, i => if names i = w then i else fndN names w m (i + 1)
def smB (bu ro : Nat → Nat) (r : Nat) : Nat → Nat
  | 0 => 0
  | n + 1 => smB bu ro r n + (if ro n = r then bu n else 0)
def pTk (T : Nat → TK) (k : Nat) (t : TK) : (Nat × Nat) ⊕ TK := if t.1 = k then .inr (T t.2.2.1) else csT t
def pNu (T : Nat → TK) (lo hi : Nat) (t : TK) : (Nat × Nat) ⊕ (Nat × TK) := if t.1 = 29 then (if t.2.2.2.1 < lo ∨ hi < t.2.2.2.1 then .inl (4, t.2.1) else .inr (t.2.2.2.1, T t.2.2.1)) else csT t
def pNm (T : Nat → TK) (names : Nat → Nat) (n : Nat) (t : TK) : (Nat × Nat) ⊕ (Nat × TK) := if t.1 = 30 then (if fndN names t.2.2.2.2 n 0 = 99 then .inr (t.2.2.2.2, T t.2.2.1) else .inl (3, t.2.1)) else csT t
def pRm (T : Nat → TK) (D : DR) (bk : Nat) (t : TK) : (Nat × Nat) ⊕ (Nat × TK) := if t.1 = 30 then (if fndN (D.2.1 0) t.2.2.2.2 (D.1 0) 0 = 99 then .inl (5, t.2.1) else if D.2.1 1 (fndN (D.2.1 0) t.2.2.2.2 (D.1 0) 0) - smB (D.2.1 3) (D.2.1 4) (fndN (D.2.1 0) t.2.2.2.2 (D.1 0) 0) (D.1 1) < bk then .inl (3, t.2.1) else .inr (fndN (D.2.1 0) t.2.2.2.2 (D.1 0) 0, T t.2.2.1)) else csT t
abbrev LR := (Nat × Nat) ⊕ (TK × DR)
def lRoom (T : Nat → TK) (t : TK) (D : DR) : LR := if 4 ≤ D.1 0 then csT t else
  bR (pNm T (D.2.1 0) (D.1 0) (T t.2.2.1)) fun x => bR (pTk T 1 x.2) fun t2 => bR (pNu T 0 99 t2) fun y => bR (pTk T 18 y.2) fun t4 =>
    .inr (t4, sN D.1 0 (D.1 0 + 1), aN (aN D.2.1 0 (D.1 0) x.1) 1 (D.1 0) y.1, D.2.2)
def dTk (D : DR) (n bk r mk to : Nat) : DR := (sN D.1 1 (D.1 1 + 1), aN (aN (aN (aN (aN D.2.1 2 (D.1 1) n) 3 (D.1 1) bk) 4 (D.1 1) r) 5 (D.1 1) mk) 6 (D.1 1) to, D.2.2)
def pTo (T : Nat → TK) (t : TK) : (Nat × Nat) ⊕ (Nat × TK) := if t.1 = 6 then pNu T 0 9 (T t.2.2.1) else .inr (0, t)
def lTrunk (T : Nat → TK) (t : TK) (D : DR) : LR := if 6 ≤ D.1 1 then csT t else
  bR (pNm T (D.2.1 2) (D.1 1) (T t.2.2.1)) fun x => bR (pTk T 3 x.2) fun t2 => bR (pNu T 1 20 t2) fun y => bR (pTk T 4 y.2) fun t4 => bR (pRm T D y.1 t4) fun z =>
    bR (pTk T 5 z.2) fun t6 => bR (pNu T 0 63 t6) fun q => bR (pTo T q.2) fun o => bR (pTk T 18 o.2) fun t9 => .inr (t9, dTk D x.1 y.1 z.1 q.1 o.1)
def lBrood (T : Nat → TK) (t : TK) (D : DR) : LR := if D.1 5 = 1 then csT t else
  bR (PE T 60 1 0 (T t.2.2.1) 0 []) fun x => bR (pTk T 18 x.1) fun t2 => .inr (t2, sN (sN D.1 5 1) 9 x.2.1, D.2.1, x.2.2)
def lOne (T : Nat → TK) (o v lo hi : Nat) (t : TK) (D : DR) : LR := if D.1 o = 1 then csT t else
  bR (pNu T lo hi (T t.2.2.1)) fun y => bR (pTk T 18 y.2) fun t2 => .inr (t2, sN (sN D.1 o 1) v y.1, D.2)
def pLine (T : Nat → TK) (t : TK) (D : DR) : LR := if t.1 = 0 then lRoom T t D else if t.1 = 2 then lTrunk T t D else if t.1 = 7 then lBrood T t D else if t.1 = 8 then lOne T 6 2 1 9 t D else if t.1 = 9 then lOne T 7 3 0 99 t D else if t.1 = 10 then lOne T 8 4 0 999 t D else csT t
def pAll (T : Nat → TK) : Nat → TK → DR → LR
  | 0, t, D => .inr (t, D)
  | n + 1, t, D => if t.1 = 31 then .inr (t, D) else bR (pLine T t D) fun x => pAll T n x.1 x.2
def D0 : DR := (fun k => if k = 2 then 3 else 0, fun _ _ => 0, [(25, 0), (16, 0), (14, 0)])
/-- a draft that can be -/
def DV (D : DR) : Prop := D.1 0 ≤ 4 ∧ D.1 1 ≤ 6 ∧ (1 ≤ D.1 2 ∧ D.1 2 ≤ 9) ∧ D.1 3 ≤ 99 ∧ D.1 4 ≤ 999 ∧ (D.1 5 ≤ 1 ∧ D.1 6 ≤ 1 ∧ D.1 7 ≤ 1 ∧ D.1 8 ≤ 1) ∧ (∀ r, r < D.1 0 → D.2.1 1 r ≤ 99 ∧ smB (D.2.1 3) (D.2.1 4) r (D.1 1) ≤ D.2.1 1 r) ∧ (∀ t, t < D.1 1 → 1 ≤ D.2.1 3 t ∧ D.2.1 3 t ≤ 20 ∧ D.2.1 4 t < D.1 0 ∧ D.2.1 5 t < 64 ∧ D.2.1 6 t ≤ 9) ∧ D.1 9 ≤ 30 ∧ D.2.2.length < 300 ∧ (D.1 5 = 0 → D.1 9 = 0 ∧ D.2.2 = [(25, 0), (16, 0), (14, 0)])
section PL
variable {B : Nat → Nat} {L : Nat}
theorem fnd_spec {names : Nat → Nat} {w : Nat} : ∀ m i, i + m ≤ 90 → (fndN names w m i = 99 ∧ ∀ j, i ≤ j → j < i + m → names j ≠ w) ∨ (i ≤ fndN names w m i ∧ fndN names w m i < i + m ∧ names (fndN names w m i) = w)
  | 0, i, _ => Or.inl ⟨rfl, fun j h1 h2 => by omega⟩
  | m + 1, i, hi => by
    rw [fndN]
    by_cases c : names i = w
    · rw [if_pos c]; exact Or.inr ⟨Nat.le_refl _, by omega, c⟩
    · rw [if_neg c]
      rcases fnd_spec (names := names) (w := w) m (i + 1) (by omega) with ⟨h1, h2⟩ | ⟨h1, h2, h3⟩
      · refine Or.inl ⟨h1, fun j z1 z2 => ?_⟩
        by_cases e : j = i
        · subst e; exact c
        · exact h2 j (by omega) (by omega)
      · exact Or.inr ⟨by omega, by omega, h3⟩
theorem smB_cong {bu bu' ro ro' : Nat → Nat} {r : Nat} : ∀ n, (∀ i, i < n → bu i = bu' i) → (∀ i, i < n → ro i = ro' i) → smB bu ro r n = smB bu' ro' r n
  | 0, _, _ => rfl
  | n + 1, h1, h2 => by rw [smB, smB, smB_cong n (fun i hi => h1 i (by omega)) (fun i hi => h2 i (by omega)), h1 n (by omega), h2 n (by omega)]
theorem smB_out {bu ro : Nat → Nat} {r : Nat} : ∀ n, (∀ i, i < n → ro i ≠ r) → smB bu ro r n = 0
  | 0, _ => rfl
  | n + 1, h => by rw [smB, smB_out n (fun i hi => h i (by omega)), if_neg (h n (by omega))]
/-- goes on, at a token that is one -/
def NXT (B : Nat → Nat) (L : Nat) (t t' : TK) : Prop := TV B L t' ∧ t.2.1 < t'.2.1
theorem NXT.trans {t t' t'' : TK} (h : NXT B L t t') (h' : NXT B L t' t'') : NXT B L t t'' := ⟨h'.1, by have := h.2; have := h'.2; omega⟩
theorem TV.nxt {t : TK} (h : TV B L t) (hk : t.1 ≠ 31) : NXT B L t (tk B L t.2.2.1) := ⟨h.go.1, by have := h.adv hk; omega⟩
theorem pTk_ok {k : Nat} (hk : k ≠ 31) {t t' : TK} (h : TV B L t) (e : pTk (tk B L) k t = .inr t') : NXT B L t t' := by
  unfold pTk at e
  by_cases c : t.1 = k
  · rw [if_pos c] at e
    cases e
    exact h.nxt (by omega)
  · rw [if_neg c] at e
    cases e
theorem pNu_ok {lo hi : Nat} {t : TK} {x : Nat × TK} (h : TV B L t) (e : pNu (tk B L) lo hi t = .inr x) : NXT B L t x.2 ∧ lo ≤ x.1 ∧ x.1 ≤ hi := by
  unfold pNu at e
  by_cases c : t.1 = 29
  · rw [if_pos c] at e
    by_cases c2 : t.2.2.2.1 < lo ∨ hi < t.2.2.2.1
    · rw [if_pos c2] at e; cases e
    · rw [if_neg c2] at e; cases e
      exact ⟨h.nxt (by omega), by simp only; omega, by simp only; omega⟩
  · rw [if_neg c] at e; cases e
theorem pNm_ok {names : Nat → Nat} {n : Nat} {t : TK} {x : Nat × TK} (h : TV B L t) (e : pNm (tk B L) names n t = .inr x) : NXT B L t x.2 := by
  unfold pNm at e
  by_cases c : t.1 = 30
  · rw [if_pos c] at e
    by_cases c2 : fndN names t.2.2.2.2 n 0 = 99
    · rw [if_pos c2] at e; cases e
      exact h.nxt (by omega)
    · rw [if_neg c2] at e; cases e
  · rw [if_neg c] at e; cases e
theorem pRm_ok {D : DR} {bk : Nat} {t : TK} {x : Nat × TK} (hD : DV D) (h : TV B L t) (e : pRm (tk B L) D bk t = .inr x) : NXT B L t x.2 ∧ x.1 < D.1 0 ∧ (1 ≤ bk → smB (D.2.1 3) (D.2.1 4) x.1 (D.1 1) + bk ≤ D.2.1 1 x.1) := by
  unfold pRm at e
  by_cases c : t.1 = 30
  · rw [if_pos c] at e
    by_cases c2 : fndN (D.2.1 0) t.2.2.2.2 (D.1 0) 0 = 99
    · rw [if_pos c2] at e; cases e
    · rw [if_neg c2] at e
      have h4 := hD.1
      rcases fnd_spec (names := D.2.1 0) (w := t.2.2.2.2) (D.1 0) 0 (by omega) with ⟨z1, -⟩ | ⟨z1, z2, z3⟩
      · exact absurd z1 c2
      · by_cases c3 : D.2.1 1 (fndN (D.2.1 0) t.2.2.2.2 (D.1 0) 0) - smB (D.2.1 3) (D.2.1 4) (fndN (D.2.1 0) t.2.2.2.2 (D.1 0) 0) (D.1 1) < bk
        · rw [if_pos c3] at e; cases e
        · rw [if_neg c3] at e; cases e
          exact ⟨h.nxt (by omega), by simp only; omega, fun z => by simp only; omega⟩
  · rw [if_neg c] at e; cases e
theorem bR_ok {α β : Type} {x : (Nat × Nat) ⊕ α} {k : α → (Nat × Nat) ⊕ β} {y : β} (h : bR x k = .inr y) : ∃ a, x = .inr a ∧ k a = .inr y := by
  rcases x with e | a
  · cases h
  · exact ⟨a, rfl, h⟩
/-- places go on in a formula -/
def MOV (t : TK) : PR → Prop
  | .inl _ => True
  | .inr (t', _, _) => t.2.1 ≤ t'.2.1
def MOVP (B : Nat → Nat) (L : Nat) (rp : RPt) : Prop := ∀ level w t u C, w ≤ 7 → TV B L t → MOV t (rp level w t u C)
theorem TV.adv0 {t : TK} (h : TV B L t) : t.2.1 ≤ (tk B L t.2.2.1).2.1 := by
  by_cases c : t.1 = 31
  · obtain ⟨p, hp, rfl⟩ := h
    obtain ⟨h1, h2, h3, h4, h5, h6⟩ := tk_ok B hp
    obtain ⟨k1, -⟩ := tk_ok B h3
    have := h5 c
    omega
  · have := h.adv c; omega
theorem MOV_pl {rp : RPt} (h : MOVP B L rp) (hp : SRP B L rp) {level w : Nat} (hw : w ≤ 7) : ∀ m t u C t0, TV B L t → t0 ≤ t.2.1 → MOV (0, t0, 0, 0, 0) (PLp (tk B L) rp level w m t u C)
  | 0, t, u, C, t0, ht, h0 => h0
  | m + 1, t, u, C, t0, ht, h0 => by
    rw [PLp]
    by_cases c : lvO t.1 = level
    · rw [if_pos c]
      have s := h (level + 1) w (tk B L t.2.2.1) u C hw ht.go.1
      have z := hp (level + 1) w (tk B L t.2.2.1) u C hw ht.go.1
      have ta := ht.adv0
      revert s z
      generalize rp (level + 1) w (tk B L t.2.2.1) u C = r
      intro s z
      rcases r with ⟨c, p⟩ | ⟨t', u', C'⟩
      · trivial
      · have s' : (tk B L t.2.2.1).2.1 ≤ t'.2.1 := s
        exact MOV_pl h hp hw m t' u' _ t0 z.2.2.2 (by omega)
    · rw [if_neg c]; exact h0
theorem MOV_pe : ∀ n, MOVP B L (PE (tk B L) n)
  | 0 => fun _ _ _ _ _ _ _ => trivial
  | n + 1 => fun level w t u C hw ht => by
    have ih := MOV_pe n
    have sz := SZ_pe (B := B) (L := L) n
    have ta := ht.adv0
    rw [PE]
    simp only
    by_cases c : level < 6
    · rw [if_pos c]
      by_cases c1 : level = 3 ∧ t.1 = 13
      · rw [if_pos c1, PN]
        by_cases c2 : 6 < w
        · rw [if_pos c2]; trivial
        · rw [if_neg c2]
          have s := ih 3 (w + 1) (tk B L t.2.2.1) u C (by omega) ht.go.1
          revert s
          generalize PE (tk B L) n 3 (w + 1) (tk B L t.2.2.1) u C = r
          intro s
          rcases r with ⟨c, p⟩ | ⟨t', u', C'⟩
          · trivial
          · have s' : (tk B L t.2.2.1).2.1 ≤ t'.2.1 := s
            show t.2.1 ≤ t'.2.1
            omega
      · rw [if_neg c1, PJ]
        have s := ih (level + 1) w t u C hw ht
        have z := sz (level + 1) w t u C hw ht
        revert s z
        generalize PE (tk B L) n (level + 1) w t u C = r
        intro s z
        rcases r with ⟨c, p⟩ | ⟨t', u', C'⟩
        · trivial
        · have s' : t.2.1 ≤ t'.2.1 := s
          exact MOV_pl ih sz hw _ t' u' C' t.2.1 z.2.2.2 s'
    · rw [if_neg c, PU]
      by_cases c1 : isPl t.1 = true
      · rw [if_pos c1]
        by_cases c2 : 30 ≤ u
        · rw [if_pos c2]; trivial
        · rw [if_neg c2]; exact ta
      · rw [if_neg c1]
        by_cases c3 : t.1 = 19 ∧ w ≤ 6
        · rw [if_pos c3]
          by_cases c2 : 30 ≤ u
          · rw [if_pos c2]; trivial
          · rw [if_neg c2]
            have s := ih 1 (w + 1) (tk B L t.2.2.1) (u + 1) C (by omega) ht.go.1
            have z := sz 1 (w + 1) (tk B L t.2.2.1) (u + 1) C (by omega) ht.go.1
            revert s z
            generalize PE (tk B L) n 1 (w + 1) (tk B L t.2.2.1) (u + 1) C = r
            intro s z
            rcases r with ⟨c, p⟩ | ⟨t', u', C'⟩
            · trivial
            · have s' : (tk B L t.2.2.1).2.1 ≤ t'.2.1 := s
              have z4 := z.2.2.2
              simp only
              by_cases c4 : t'.1 = 20
              · rw [if_pos c4]
                have tb := z4.adv0
                show t.2.1 ≤ (tk B L t'.2.2.1).2.1
                omega
              · rw [if_neg c4]; trivial
        · rw [if_neg c3]; trivial
theorem sN_same {s : Nat → Nat} {k v : Nat} : sN s k v k = v := by simp [sN]
theorem sN_ne {s : Nat → Nat} {k j v : Nat} (h : j ≠ k) : sN s k v j = s j := by simp [sN, h]
theorem aN_same {a : Nat → Nat → Nat} {i k v : Nat} : aN a i k v i k = v := by simp [aN]
theorem aN_ne {a : Nat → Nat → Nat} {i j k v : Nat} (h : j ≠ i) : aN a i k v j = a j := by funext y; simp [aN, h]
theorem aN_nk {a : Nat → Nat → Nat} {i j k l v : Nat} (h : l ≠ k) : aN a i k v j l = a j l := by simp [aN, h]
theorem pLine_ok {t t' : TK} {D D' : DR} (hD : DV D) (h : TV B L t) (e : pLine (tk B L) t D = .inr (t', D')) : NXT B L t t' ∧ DV D' := by
  obtain ⟨d0, d1, d2, d3, d4, d5, d6, d7, d8, d9, d10⟩ := id hD
  unfold pLine at e
  by_cases k0 : t.1 = 0
  · rw [if_pos k0] at e
    unfold lRoom at e
    by_cases c : 4 ≤ D.1 0
    · rw [if_pos c] at e; cases e
    · rw [if_neg c] at e
      have n0 := h.nxt (by omega)
      obtain ⟨x, e1, e⟩ := bR_ok e
      have n1 := n0.trans (pNm_ok n0.1 e1)
      obtain ⟨t2, e2, e⟩ := bR_ok e
      have n2 := n1.trans (pTk_ok (by decide) n1.1 e2)
      obtain ⟨y, e3, e⟩ := bR_ok e
      obtain ⟨m3, y1, y2⟩ := pNu_ok n2.1 e3
      have n3 := n2.trans m3
      obtain ⟨t4, e4, e⟩ := bR_ok e
      have n4 := n3.trans (pTk_ok (by decide) n3.1 e4)
      cases e
      have a3 : aN (aN D.2.1 0 (D.1 0) x.1) 1 (D.1 0) y.1 3 = D.2.1 3 := by rw [aN_ne (by decide), aN_ne (by decide)]
      have a4 : aN (aN D.2.1 0 (D.1 0) x.1) 1 (D.1 0) y.1 4 = D.2.1 4 := by rw [aN_ne (by decide), aN_ne (by decide)]
      have a5 : aN (aN D.2.1 0 (D.1 0) x.1) 1 (D.1 0) y.1 5 = D.2.1 5 := by rw [aN_ne (by decide), aN_ne (by decide)]
      have a6 : aN (aN D.2.1 0 (D.1 0) x.1) 1 (D.1 0) y.1 6 = D.2.1 6 := by rw [aN_ne (by decide), aN_ne (by decide)]
      have s : ∀ k, k ≠ 0 → sN D.1 0 (D.1 0 + 1) k = D.1 k := fun k hk => sN_ne hk
      refine ⟨n4, ?_⟩
      unfold DV
      simp only
      rw [a3, a4, a5, a6, s 1 (by decide), s 2 (by decide), s 3 (by decide), s 4 (by decide), s 5 (by decide), s 6 (by decide), s 7 (by decide), s 8 (by decide), s 9 (by decide), sN_same]
      refine ⟨by omega, d1, d2, d3, d4, d5, fun r hr => ?_, fun i hi => ?_, d8, d9, d10⟩
      · by_cases er : r = D.1 0
        · subst er
          rw [aN_same, smB_out _ (fun i hi => by have := (d7 i hi).2.2.1; omega)]
          omega
        · rw [aN_nk er, aN_ne (by decide)]
          exact d6 r (by omega)
      · have := d7 i hi
        omega
  rw [if_neg k0] at e
  by_cases k2 : t.1 = 2
  · rw [if_pos k2] at e
    unfold lTrunk at e
    by_cases c : 6 ≤ D.1 1
    · rw [if_pos c] at e; cases e
    · rw [if_neg c] at e
      have n0 := h.nxt (by omega)
      obtain ⟨x, e1, e⟩ := bR_ok e
      have n1 := n0.trans (pNm_ok n0.1 e1)
      obtain ⟨t2, e2, e⟩ := bR_ok e
      have n2 := n1.trans (pTk_ok (by decide) n1.1 e2)
      obtain ⟨y, e3, e⟩ := bR_ok e
      obtain ⟨m3, y1, y2⟩ := pNu_ok n2.1 e3
      have n3 := n2.trans m3
      obtain ⟨t4, e4, e⟩ := bR_ok e
      have n4 := n3.trans (pTk_ok (by decide) n3.1 e4)
      obtain ⟨z, e5, e⟩ := bR_ok e
      obtain ⟨m5, z1, z2⟩ := pRm_ok hD n4.1 e5
      have n5 := n4.trans m5
      obtain ⟨t6, e6, e⟩ := bR_ok e
      have n6 := n5.trans (pTk_ok (by decide) n5.1 e6)
      obtain ⟨q, e7, e⟩ := bR_ok e
      obtain ⟨m7, q1, q2⟩ := pNu_ok n6.1 e7
      have n7 := n6.trans m7
      obtain ⟨o, e8, e⟩ := bR_ok e
      have n8 : NXT B L t o.2 ∧ o.1 ≤ 9 := by
        unfold pTo at e8
        by_cases c6 : q.2.1 = 6
        · rw [if_pos c6] at e8
          have n7' := n7.trans (n7.1.nxt (by omega))
          obtain ⟨m8, o1, o2⟩ := pNu_ok n7'.1 e8
          exact ⟨n7'.trans m8, o2⟩
        · rw [if_neg c6] at e8
          cases e8
          exact ⟨n7, Nat.zero_le _⟩
      obtain ⟨t9, e9, e⟩ := bR_ok e
      have n9 := n8.1.trans (pTk_ok (by decide) n8.1.1 e9)
      cases e
      refine ⟨n9, ?_⟩
      unfold DV dTk
      simp only
      have s : ∀ k, k ≠ 1 → sN D.1 1 (D.1 1 + 1) k = D.1 k := fun k hk => sN_ne hk
      rw [s 0 (by decide), s 2 (by decide), s 3 (by decide), s 4 (by decide), s 5 (by decide), s 6 (by decide), s 7 (by decide), s 8 (by decide), s 9 (by decide), sN_same]
      have A : ∀ (i l : Nat), l ≠ D.1 1 → aN (aN (aN (aN (aN D.2.1 2 (D.1 1) x.1) 3 (D.1 1) y.1) 4 (D.1 1) z.1) 5 (D.1 1) q.1) 6 (D.1 1) o.1 i l = D.2.1 i l := fun i l hl => by rw [aN_nk hl, aN_nk hl, aN_nk hl, aN_nk hl, aN_nk hl]
      have A1 : aN (aN (aN (aN (aN D.2.1 2 (D.1 1) x.1) 3 (D.1 1) y.1) 4 (D.1 1) z.1) 5 (D.1 1) q.1) 6 (D.1 1) o.1 1 = D.2.1 1 := by rw [aN_ne (by decide), aN_ne (by decide), aN_ne (by decide), aN_ne (by decide), aN_ne (by decide)]
      have v3 : aN (aN (aN (aN (aN D.2.1 2 (D.1 1) x.1) 3 (D.1 1) y.1) 4 (D.1 1) z.1) 5 (D.1 1) q.1) 6 (D.1 1) o.1 3 (D.1 1) = y.1 := by rw [aN_ne (by decide), aN_ne (by decide), aN_ne (by decide), aN_same]
      have v4 : aN (aN (aN (aN (aN D.2.1 2 (D.1 1) x.1) 3 (D.1 1) y.1) 4 (D.1 1) z.1) 5 (D.1 1) q.1) 6 (D.1 1) o.1 4 (D.1 1) = z.1 := by rw [aN_ne (by decide), aN_ne (by decide), aN_same]
      have v5 : aN (aN (aN (aN (aN D.2.1 2 (D.1 1) x.1) 3 (D.1 1) y.1) 4 (D.1 1) z.1) 5 (D.1 1) q.1) 6 (D.1 1) o.1 5 (D.1 1) = q.1 := by rw [aN_ne (by decide), aN_same]
      have v6 : aN (aN (aN (aN (aN D.2.1 2 (D.1 1) x.1) 3 (D.1 1) y.1) 4 (D.1 1) z.1) 5 (D.1 1) q.1) 6 (D.1 1) o.1 6 (D.1 1) = o.1 := by rw [aN_same]
      refine ⟨d0, by omega, d2, d3, d4, d5, fun r hr => ?_, fun i hi => ?_, d8, d9, d10⟩
      · rw [A1, smB, v3, v4, smB_cong (bu' := D.2.1 3) (ro' := D.2.1 4) (D.1 1) (fun i hi => A 3 i (by omega)) (fun i hi => A 4 i (by omega))]
        have := d6 r hr
        refine ⟨this.1, ?_⟩
        by_cases er : z.1 = r
        · rw [if_pos er]; subst er; exact z2 y1
        · rw [if_neg er]; exact this.2
      · by_cases ei : i = D.1 1
        · subst ei
          rw [v3, v4, v5, v6]
          exact ⟨y1, y2, z1, by omega, n8.2⟩
        · rw [A 3 i ei, A 4 i ei, A 5 i ei, A 6 i ei]
          exact d7 i (by omega)
  rw [if_neg k2] at e
  by_cases k7 : t.1 = 7
  · rw [if_pos k7] at e
    unfold lBrood at e
    by_cases c : D.1 5 = 1
    · rw [if_pos c] at e; cases e
    · rw [if_neg c] at e
      have n0 := h.nxt (by omega)
      obtain ⟨x, e1, e⟩ := bR_ok e
      have z := SZ_pe (B := B) (L := L) 60 1 0 (tk B L t.2.2.1) 0 [] (by decide) n0.1
      have mv := MOV_pe (B := B) (L := L) 60 1 0 (tk B L t.2.2.1) 0 [] (by decide) n0.1
      rw [e1] at z mv
      obtain ⟨x1, xu, xC⟩ := x
      obtain ⟨z1, z2, z3, z4⟩ := z
      have mv' : (tk B L t.2.2.1).2.1 ≤ x1.2.1 := mv
      obtain ⟨t2, e2, e⟩ := bR_ok e
      have n2 := pTk_ok (by decide) z4 e2
      cases e
      refine ⟨⟨n2.1, by have := n2.2; have := n0.2; omega⟩, ?_⟩
      unfold DV
      simp only
      simp only [List.length_nil] at z1
      have s : ∀ k, k ≠ 5 → k ≠ 9 → sN (sN D.1 5 1) 9 xu k = D.1 k := fun k h1 h2 => by rw [sN_ne h2, sN_ne h1]
      rw [s 0 (by decide) (by decide), s 1 (by decide) (by decide), s 2 (by decide) (by decide), s 3 (by decide) (by decide), s 4 (by decide) (by decide), s 6 (by decide) (by decide), s 7 (by decide) (by decide), s 8 (by decide) (by decide), sN_same, sN_ne (show 5 ≠ 9 by decide), sN_same]
      exact ⟨d0, d1, d2, d3, d4, ⟨by decide, d5.2⟩, d6, d7, z3, by omega, fun z => absurd z (by decide)⟩
  rw [if_neg k7] at e
  have one : ∀ o v lo hi, t.1 ≠ 31 → lOne (tk B L) o v lo hi t D = .inr (t', D') → NXT B L t t' ∧ ∃ y, lo ≤ y ∧ y ≤ hi ∧ D' = (sN (sN D.1 o 1) v y, D.2) := fun o v lo hi h31 e => by
    unfold lOne at e
    by_cases c : D.1 o = 1
    · rw [if_pos c] at e; cases e
    · rw [if_neg c] at e
      have n0 := h.nxt h31
      obtain ⟨y, e1, e⟩ := bR_ok e
      obtain ⟨m1, y1, y2⟩ := pNu_ok n0.1 e1
      obtain ⟨t2, e2, e⟩ := bR_ok e
      have n2 := (n0.trans m1).trans (pTk_ok (by decide) m1.1 e2)
      cases e
      exact ⟨n2, y.1, y1, y2, rfl⟩
  by_cases k8 : t.1 = 8
  · rw [if_pos k8] at e
    obtain ⟨n, y, y1, y2, rfl⟩ := one 6 2 1 9 (by omega) e
    refine ⟨n, ?_⟩
    unfold DV
    simp only
    have s : ∀ k, k ≠ 6 → k ≠ 2 → sN (sN D.1 6 1) 2 y k = D.1 k := fun k h1 h2 => by rw [sN_ne h2, sN_ne h1]
    rw [s 0 (by decide) (by decide), s 1 (by decide) (by decide), s 3 (by decide) (by decide), s 4 (by decide) (by decide), s 5 (by decide) (by decide), s 7 (by decide) (by decide), s 8 (by decide) (by decide), s 9 (by decide) (by decide), sN_same, sN_ne (show 6 ≠ 2 by decide), sN_same]
    exact ⟨d0, d1, ⟨y1, y2⟩, d3, d4, ⟨d5.1, by decide, d5.2.2⟩, d6, d7, d8, d9, d10⟩
  rw [if_neg k8] at e
  by_cases k9 : t.1 = 9
  · rw [if_pos k9] at e
    obtain ⟨n, y, y1, y2, rfl⟩ := one 7 3 0 99 (by omega) e
    refine ⟨n, ?_⟩
    unfold DV
    simp only
    have s : ∀ k, k ≠ 7 → k ≠ 3 → sN (sN D.1 7 1) 3 y k = D.1 k := fun k h1 h2 => by rw [sN_ne h2, sN_ne h1]
    rw [s 0 (by decide) (by decide), s 1 (by decide) (by decide), s 2 (by decide) (by decide), s 4 (by decide) (by decide), s 5 (by decide) (by decide), s 6 (by decide) (by decide), s 8 (by decide) (by decide), s 9 (by decide) (by decide), sN_same, sN_ne (show 7 ≠ 3 by decide), sN_same]
    exact ⟨d0, d1, d2, y2, d4, ⟨d5.1, d5.2.1, by decide, d5.2.2.2⟩, d6, d7, d8, d9, d10⟩
  rw [if_neg k9] at e
  by_cases k10 : t.1 = 10
  · rw [if_pos k10] at e
    obtain ⟨n, y, y1, y2, rfl⟩ := one 8 4 0 999 (by omega) e
    refine ⟨n, ?_⟩
    unfold DV
    simp only
    have s : ∀ k, k ≠ 8 → k ≠ 4 → sN (sN D.1 8 1) 4 y k = D.1 k := fun k h1 h2 => by rw [sN_ne h2, sN_ne h1]
    rw [s 0 (by decide) (by decide), s 1 (by decide) (by decide), s 2 (by decide) (by decide), s 3 (by decide) (by decide), s 5 (by decide) (by decide), s 6 (by decide) (by decide), s 7 (by decide) (by decide), s 9 (by decide) (by decide), sN_same, sN_ne (show 8 ≠ 4 by decide), sN_same]
    exact ⟨d0, d1, d2, d3, y2, ⟨d5.1, d5.2.1, d5.2.2.1, by decide⟩, d6, d7, d8, d9, d10⟩
  rw [if_neg k10] at e
  cases e
end PL
