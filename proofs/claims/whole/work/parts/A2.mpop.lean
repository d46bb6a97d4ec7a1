/-! behind a unit -/
def pops : List (Nat × Nat) → List (Nat × Nat) → List (Nat × Nat)
  | [], C => C
  | (_, k) :: P, C => pops P ((k, 0) :: C)
def nots : List (Nat × Nat) → Nat
  | [] => 0
  | (a, _) :: P => (if a = 3 then 1 else 0) + nots P
def cmpP : List (Nat × Nat) → Bool
  | [] => false
  | (a, _) :: P => if a = 5 ∨ a = 6 then cmpP P else a == 4
def gesP (r : Nat) : List (Nat × Nat) → Prop
  | [] => True
  | (a, k) :: P => r ≤ a ∧ a ≤ 6 ∧ k ≠ 29 ∧ gesP r P
/-- some entry ends the search -/
def endsP : List (Nat × Nat) → Prop
  | [] => False
  | (a, _) :: P => (a = 5 ∨ a = 6) → endsP P
theorem pops_app : ∀ (P Q C : List (Nat × Nat)), pops (P ++ Q) C = pops Q (pops P C)
  | [], _, _ => rfl
  | (_, k) :: P, Q, C => by rw [List.cons_append, pops, pops, pops_app P Q]
theorem pops_len : ∀ (P C : List (Nat × Nat)), (pops P C).length = P.length + C.length
  | [], C => by simp [pops]
  | (_, k) :: P, C => by rw [pops, pops_len P]; simp only [List.length_cons]; omega
theorem nots_app : ∀ (P Q : List (Nat × Nat)), nots (P ++ Q) = nots P + nots Q
  | [], _ => by simp [nots]
  | (a, _) :: P, Q => by rw [List.cons_append, nots, nots, nots_app P Q]; omega
theorem gesP_app {r : Nat} : ∀ {P Q : List (Nat × Nat)}, gesP r P → gesP r Q → gesP r (P ++ Q)
  | [], _, _, h => h
  | (a, k) :: P, Q, h, h' => ⟨h.1, h.2.1, h.2.2.1, gesP_app h.2.2.2 h'⟩
theorem gesP_le {r r' : Nat} (hr : r' ≤ r) : ∀ {P : List (Nat × Nat)}, gesP r P → gesP r' P
  | [], _ => trivial
  | (a, k) :: P, h => ⟨by have := h.1; omega, h.2.1, h.2.2.1, gesP_le hr h.2.2.2⟩
theorem cmpP_app {Q : List (Nat × Nat)} : ∀ {P : List (Nat × Nat)}, cmpP P = true → cmpP (P ++ Q) = true ∧ endsP (P ++ Q)
  | [], h => absurd h (by decide)
  | (a, k) :: P, h => by
    rw [cmpP] at h
    by_cases c : a = 5 ∨ a = 6
    · rw [if_pos c] at h
      obtain ⟨h1, h2⟩ := cmpP_app (Q := Q) h
      exact ⟨by rw [List.cons_append, cmpP, if_pos c]; exact h1, fun _ => h2⟩
    · rw [if_neg c] at h
      exact ⟨by rw [List.cons_append, cmpP, if_neg c]; exact h, fun z => absurd z c⟩
theorem cmpP_no {a k : Nat} {S : List (Nat × Nat)} (ha : a < 4 ∨ 7 ≤ a) : ∀ {P : List (Nat × Nat)}, gesP 5 P → cmpP (P ++ (a, k) :: S) = false ∧ endsP (P ++ (a, k) :: S)
  | [], _ => ⟨by rw [List.nil_append, cmpP, if_neg (by omega)]; simp; omega, fun z => by omega⟩
  | (b, j) :: P, h => by
    obtain ⟨h1, h2⟩ := cmpP_no (k := k) (S := S) ha h.2.2.2
    have h3 : b = 5 ∨ b = 6 := by have := h.1; have := h.2.1; omega
    exact ⟨by rw [List.cons_append, cmpP, if_pos h3]; exact h1, fun _ => h2⟩
section MV
variable {f : Nat → Nat → Int32} {g : (Nat → Nat → Int64) × (Nat → Nat → Option Nat)} {B : Nat → Nat} {L rb : Nat} {t : TK} {w u : Nat}
theorem m_cmp {kk : Int32 → Option Int32} (hk : ∀ i a : Nat, f 434 i = Int32.ofNat a → a ≤ 8 → i < 90 → kk (Int32.ofNat i) = some (if a = 4 then 1 else 0)) : ∀ S n, S.length ≤ 90 → S.length ≤ n → STm f S → endsP S → lp_X12_isCompared_7 (f, g) kk (n + 1) (Int32.ofNat S.length - 1) = some (if cmpP S = true then 1 else 0)
  | [], n, _, _, _, he => absurd he (fun z => z)
  | (a, k) :: S, n, hl, hn, h, he => by
    have hp : Int32.ofNat ((a, k) :: S).length - 1 = Int32.ofNat S.length := by rw [on_pred (by simp)]; rfl
    have h8 := h.2.2.1
    have e5 : Int32.ofNat a = 5 ↔ a = 5 := by rw [show (5 : Int32) = Int32.ofNat 5 from rfl, on_inj (by omega) (by omega)]
    have e6 : Int32.ofNat a = 6 ↔ a = 6 := by rw [show (6 : Int32) = Int32.ofNat 6 from rfl, on_inj (by omega) (by omega)]
    simp only [List.length_cons] at hl hn
    have hm1 : Int32.ofNat S.length + (-1) = Int32.ofNat S.length - 1 := (Int32.sub_eq_add_neg _ _).symm
    rw [hp, lp_X12_isCompared_7, rdI_n (by omega) (by decide)]
    simp only [h.1, e5]
    rw [rdI_n (by omega) (by decide)]
    simp only [h.1, e6]
    rw [cmpP]
    obtain ⟨n', rfl⟩ : ∃ n', n = n' + 1 := ⟨n - 1, by omega⟩
    by_cases c5 : a = 5
    · rw [if_pos c5, if_pos (Or.inl c5), hm1]
      exact m_cmp hk S n' (by omega) (by omega) h.2.2.2 (he (Or.inl c5))
    · rw [if_neg c5]
      by_cases c6 : a = 6
      · rw [if_pos c6, if_pos (Or.inr c6), hm1]
        exact m_cmp hk S n' (by omega) (by omega) h.2.2.2 (he (Or.inr c6))
      · rw [if_neg c6, if_neg (show ¬ (a = 5 ∨ a = 6) from fun z => z.elim c5 c6), hk S.length a h.1 h8 (by omega)]
        by_cases c4 : a = 4 <;> simp [c4]
theorem X12_isCompared {S : List (Nat × Nat)} {C : List (Nat × Nat)} (h : ME f g B L rb t S w u C) (hl : S.length ≤ 90) (he : endsP S) : f_X12_isCompared (f, g) = some (if cmpP S = true then 1 else 0) := by
  obtain ⟨hG, h36, h35, h418, h37, h34, hS, hC⟩ := h
  unfold f_X12_isCompared
  rw [bnd_eq]
  simp only [h36]
  have hkk : ∀ i a : Nat, f 434 i = Int32.ofNat a → a ≤ 8 → i < 90 → (rdI (f, g) 434 90 (Int32.ofNat i) fun v5 => if v5 = 4 then some (1 : Int32) else some 0) = some (if a = 4 then 1 else 0) := fun i a hi h8 h90 => by
    rw [rdI_n h90 (by decide)]
    simp only [hi]
    have e4 : Int32.ofNat a = 4 ↔ a = 4 := by rw [show (4 : Int32) = Int32.ofNat 4 from rfl, on_inj (by omega) (by omega)]
    simp only [e4]
    by_cases c : a = 4
    · rw [if_pos c, if_pos c]
    · rw [if_neg c, if_neg c]
  have fin := m_cmp (g := g) (kk := fun z4 => rdI (f, g) 434 90 z4 fun v5 => if v5 = 4 then some (1 : Int32) else some 0) hkk S 3999 hl (Nat.le_trans hl (by decide)) hS he
  exact fin
theorem ME_popt {a k : Nat} {S C : List (Nat × Nat)} (h : ME f g B L rb t ((a, k) :: S) w u C) : ME (am_u2 f 413 36 (Int32.ofNat S.length)) g B L rb t S w u C ∧ MFr rb f (am_u2 f 413 36 (Int32.ofNat S.length)) g g := by
  obtain ⟨hG, h36, h35, h418, h37, h34, hS, hC⟩ := h
  have fr : ∀ b, b ≠ 413 → am_u2 f 413 36 (Int32.ofNat S.length) b = f b := fun b z1 => u2_ne z1
  have fk : ∀ k, k ≠ 36 → am_u2 f 413 36 (Int32.ofNat S.length) 413 k = f 413 k := fun k z => au_nk z
  exact ⟨⟨MG_fr (fun k z => fk k (by omega)) (fr 415 (by decide)) hG, au_same, by rw [fk 35 (by decide)]; exact h35, by rw [fr 418 (by decide)]; exact h418, by rw [fk 37 (by decide)]; exact h37, by rw [fk 34 (by decide)]; exact h34, STm_cong (fun i _ => by rw [fr 434 (by decide)]) (fun i _ => by rw [fr 435 (by decide)]) hS.2.2.2, CLm_cong (fun i _ => by rw [fr 432 (by decide)]) (fun i _ => by rw [fr 433 (by decide)]) hC⟩, ⟨fun b z1 _ _ _ _ _ => fr b z1, fun k z1 z2 => fk k (by omega), fun i z => by rw [fr 418 (by decide)], fun i _ => by rw [fr 432 (by decide), fr 433 (by decide)]; exact ⟨rfl, rfl⟩, rfl, fun _ _ => rfl⟩⟩
theorem m_pops {r : Nat} (hr : r ≤ 6) {kk : am_H → Option (Int32 × am_H)} {a0 k0 : Nat} {S : List (Nat × Nat)} (ha0 : a0 < r ∨ 7 ≤ a0) : ∀ P n w C (f : Nat → Nat → Int32), P.length ≤ n → (P ++ (a0, k0) :: S).length ≤ 90 → P.length + C.length ≤ 560 → gesP r P → ME f g B L rb t (P ++ (a0, k0) :: S) (w + nots P) u C → ∃ f', lp_X12_behindUnit_23 (Int32.ofNat r) kk (n + 1) (f, g) = kk (f', g) ∧ ME f' g B L rb t ((a0, k0) :: S) w u (pops P C) ∧ MFr rb f f' g g
  | [], n, w, C, f, hn, hl, hc, hg, h => by
    have h0 := h
    obtain ⟨hG, h36, h35, h418, h37, h34, hS, hC⟩ := h
    simp only [List.nil_append, List.length_cons] at hl h36 hS
    have hp : Int32.ofNat (S.length + 1) - 1 = Int32.ofNat S.length := by rw [on_pred (by omega)]; rfl
    have h8 := hS.2.2.1
    refine ⟨f, ?_, h0, MFr.refl⟩
    rw [lp_X12_behindUnit_23, bnd_eq]
    simp only [h36, hp]
    rw [rdI_n (by omega) (by decide)]
    simp only [hS.1]
    by_cases c : 7 ≤ a0
    · rw [if_pos (by rw [show (6 : Int32) = Int32.ofNat 6 from rfl, on_lt (by omega) (by omega)]; omega)]
    · rw [if_neg (by rw [show (6 : Int32) = Int32.ofNat 6 from rfl, on_lt (by omega) (by omega)]; omega), bnd_eq]
      simp only [h36, hp]
      rw [rdI_n (by omega) (by decide)]
      simp only [hS.1]
      rw [if_pos (by rw [on_lt (by omega) (by omega)]; omega)]
  | (a, k) :: P, n, w, C, f, hn, hl, hc, hg, h => by
    obtain ⟨n', rfl⟩ : ∃ n', n = n' + 1 := ⟨n - 1, by simp only [List.length_cons] at hn; omega⟩
    simp only [List.cons_append, List.length_cons] at hl hn hc
    obtain ⟨g1, g2, g3, g4⟩ := hg
    rw [List.cons_append] at h
    have hp : Int32.ofNat (List.length ((a, k) :: (P ++ (a0, k0) :: S))) - 1 = Int32.ofNat (P ++ (a0, k0) :: S).length := by rw [on_pred (by simp)]; rfl
    have hrd : f 434 (P ++ (a0, k0) :: S).length = Int32.ofNat a ∧ f 435 (P ++ (a0, k0) :: S).length = Int32.ofNat (mch k) := ⟨h.2.2.2.2.2.2.1.1, h.2.2.2.2.2.2.1.2.1 g2⟩
    have h36 := h.2.1
    have h35 := h.2.2.1
    obtain ⟨h1, fr1⟩ := ME_popt h
    have l434 : ∀ v b i, b ≠ 413 → am_u2 f 413 36 v b i = f b i := fun v b i z => by rw [u2_ne z]
    rw [lp_X12_behindUnit_23, bnd_eq]
    simp only [h36, hp]
    rw [rdI_n (by omega) (by decide)]
    simp only [hrd.1]
    rw [if_neg (by rw [show (6 : Int32) = Int32.ofNat 6 from rfl, on_lt (by omega) (by omega)]; omega), bnd_eq]
    simp only [h36, hp]
    rw [rdI_n (by omega) (by decide)]
    simp only [hrd.1]
    rw [if_neg (by rw [on_lt (by omega) (by omega)]; omega), bnd_eq, ptI_eq, bnd_eq]
    simp only [h36, hp, au_same]
    rw [rdI_n (by omega) (by decide)]
    simp only [l434 _ 434 _ (show (434 : Nat) ≠ 413 by decide), hrd.1]
    have e3 : Int32.ofNat a = 3 ↔ a = 3 := by rw [show (3 : Int32) = Int32.ofNat 3 from rfl, on_inj (by omega) (by omega)]
    simp only [e3]
    have j87 : ∀ (fa : Nat → Nat → Int32) (wa : Nat), ME fa g B L rb t (P ++ (a0, k0) :: S) (wa + nots P) u C → fa 435 (P ++ (a0, k0) :: S).length = Int32.ofNat (mch k) → ∃ f', jn_X12_behindUnit_87 (lp_X12_behindUnit_23 (Int32.ofNat r) kk (n' + 1)) (Int32.ofNat r) (fa, g) = kk (f', g) ∧ ME f' g B L rb t ((a0, k0) :: S) wa u (pops ((a, k) :: P) C) ∧ MFr rb fa f' g g := fun fa wa ha h435 => by
      obtain ⟨fb, b1, b2, b3⟩ := ME_emit ha (by omega) k 0 0 (fun z => absurd z g3)
      obtain ⟨f', d1, d2, d3⟩ := m_pops hr ha0 P n' wa ((k, 0) :: C) fb (by omega) (by omega) (by simp only [List.length_cons]; omega) g4 b2
      refine ⟨f', ?_, d2, b3.trans d3⟩
      unfold jn_X12_behindUnit_87
      rw [bnd_eq]
      simp only [ha.2.1]
      rw [rdI_n (by omega) (by decide)]
      simp only [h435]
      rw [b1, cal_some]
      exact d1
    by_cases c3 : a = 3
    · rw [if_pos c3, bnd_eq, ptI_eq]
      have hw : w + nots ((a, k) :: P) = (w + nots P) + 1 := by rw [nots, if_pos c3]; omega
      have e35 : am_u2 f 413 36 (Int32.ofNat (P ++ (a0, k0) :: S).length) 413 35 = Int32.ofNat (w + nots P + 1) := by rw [au_nk (by decide), h35, hw]
      simp only [e35]
      rw [on_pred (by omega), Nat.add_sub_cancel]
      obtain ⟨h2, fr2⟩ := ME_w h1 (w + nots P)
      obtain ⟨f', d1, d2, d3⟩ := j87 _ w h2 (by rw [u2_ne (by decide), u2_ne (by decide)]; exact hrd.2)
      exact ⟨f', d1, d2, fr1.trans (fr2.trans d3)⟩
    · rw [if_neg c3]
      have hw : w + nots ((a, k) :: P) = w + nots P := by rw [nots, if_neg c3]; omega
      rw [hw] at h1
      obtain ⟨f', d1, d2, d3⟩ := j87 _ w h1 (by rw [u2_ne (by decide)]; exact hrd.2)
      exact ⟨f', d1, d2, fr1.trans d3⟩
/-- a sign comes: what is stronger is done, it waits -/
theorem m_op {P S C : List (Nat × Nat)} {a0 k0 r : Nat} (hr : rkO t.1 = r) (h0 : 0 < r) (ha0 : a0 < r ∨ 7 ≤ a0) (hl : (P ++ (a0, k0) :: S).length ≤ 89) (hc : P.length + C.length ≤ 560) (hg : gesP r P) (h4 : r = 4 → gesP 5 P) (h : ME f g B L rb t (P ++ (a0, k0) :: S) (w + nots P) u C) : ∃ f' g', f_X12_behindUnit (f, g) = some (1, (f', g')) ∧ ME f' g' B L rb (tk B L t.2.2.1) ((r, t.1) :: (a0, k0) :: S) w u (pops P C) ∧ MFr rb f f' g g' := by
  have hk := h.1.k
  have hr6 : r ≤ 6 ∧ (r = 4 → t.1 ≠ 29) := by
    have z : ∀ k : Fin 33, rkO k.val ≤ 6 ∧ (rkO k.val = 4 → k.val ≠ 29) := by decide
    rw [← hr]; exact z ⟨t.1, by omega⟩
  obtain ⟨f1, a1, a2, a3⟩ := m_pops (kk := fun h24 => jn_X12_behindUnit_104 (Int32.ofNat r) h24) hr6.1 ha0 P 3999 w C f (by simp only [List.length_append] at hl; omega) (by omega) hc hg h
  have h104 : ∃ f' g', jn_X12_behindUnit_104 (Int32.ofNat r) (f1, g) = some (1, (f', g')) ∧ ME f' g' B L rb (tk B L t.2.2.1) ((r, t.1) :: (a0, k0) :: S) w u (pops P C) ∧ MFr rb f1 f' g g' := by
    have sg : ∃ s : Int32, s = Int32.ofNat (mch t.1) ∧ jn_X12_behindUnit_104 (Int32.ofNat r) (f1, g) = cal (f_X12_pushE (Int32.ofNat r) s (f1, g)) fun h64 => cal (f_X12_goOn h64) fun h68 => some (1, h68) := by
      have hk2 := a2.1.k
      unfold jn_X12_behindUnit_104
      rw [if_pos ((on_pos (by omega)).mpr h0)]
      by_cases c2 : r = 2
      · refine ⟨38, ?_, by rw [if_pos (by rw [c2]; rfl)]⟩
        have z : ∀ k : Fin 33, rkO k.val = 2 → (38 : Int32) = Int32.ofNat (mch k.val) := by decide
        exact z ⟨t.1, by omega⟩ (hr.trans c2)
      · have n2 : ¬ Int32.ofNat r = 2 := by rw [show (2 : Int32) = Int32.ofNat 2 from rfl, on_inj (by omega) (by omega)]; exact c2
        by_cases c1 : r = 1
        · refine ⟨124, ?_, by rw [if_neg n2, if_pos (by rw [c1]; rfl)]⟩
          have z : ∀ k : Fin 33, rkO k.val = 1 → (124 : Int32) = Int32.ofNat (mch k.val) := by decide
          exact z ⟨t.1, by omega⟩ (hr.trans c1)
        · have n1 : ¬ Int32.ofNat r = 1 := by rw [show (1 : Int32) = Int32.ofNat 1 from rfl, on_inj (by omega) (by omega)]; exact c1
          have hsk : 17 < t.1 ∧ t.1 < 29 := by
            have z : ∀ k : Fin 33, 2 < rkO k.val → 17 < k.val ∧ k.val < 29 := by decide
            exact z ⟨t.1, by omega⟩ (by simp only; omega)
          have hch := ch_lt (p := t.2.1) a2.1.2.1.2.2.2
          have hs := a2.1.1.2.2.2.2.2.1 hsk.1 hsk.2
          refine ⟨Int32.ofNat (chA B L t.2.1), ?_, ?_⟩
          · have z : ∀ c : Fin 256, 2 < rkO (sgK c.val) → Int32.ofNat c.val = Int32.ofNat (mch (sgK c.val)) := by decide +kernel
            rw [hs]
            exact z ⟨_, hch⟩ (by simp only; rw [← hs]; omega)
          · have hpl := a2.1.1.2.2.2.2.2.2
            rw [if_neg n2, if_neg n1, bnd_eq]
            simp only [a2.1.1.1]
            rw [X12_sign a2.1.2.1 (by omega), cal_some]
    obtain ⟨s, s1, s2⟩ := sg
    simp only [List.length_append, List.length_cons] at hl
    obtain ⟨f2, b1, b2, b3⟩ := ME_push a2 (by simp only [List.length_cons]; omega) r s t.1 (by omega) (fun _ => s1)
    obtain ⟨f3, g3, d1, d2, d3⟩ := ME_go b2
    rw [s2, b1, cal_some, d1, cal_some]
    exact ⟨f3, g3, rfl, d2, b3.trans d3⟩
  obtain ⟨f2, g2, b1, b2, b3⟩ := h104
  unfold f_X12_behindUnit
  rw [X12_rankHere h.1, cal_some, hr]
  have a1' : lp_X12_behindUnit_23 (Int32.ofNat r) (fun h24 => jn_X12_behindUnit_104 (Int32.ofNat r) h24) 4000 (f, g) = jn_X12_behindUnit_104 (Int32.ofNat r) (f1, g) := a1
  refine ⟨f2, g2, ?_, b2, a3.trans b3⟩
  by_cases c4 : r = 4
  · obtain ⟨n1, n2⟩ := cmpP_no (a := a0) (k := k0) (S := S) (by omega) (h4 c4)
    rw [if_pos (by rw [c4]; rfl), X12_isCompared h (by omega) n2, cal_some, n1, if_neg (show ¬ (false = true) by decide), if_pos rfl, a1', b1]
  · rw [if_neg (by rw [show (4 : Int32) = Int32.ofNat 4 from rfl, on_inj (by omega) (by omega)]; exact c4), a1', b1]
/-- a second comparison -/
theorem m_cmp2 {S C : List (Nat × Nat)} (hr : rkO t.1 = 4) (hl : S.length ≤ 90) (hc : cmpP S = true) (he : endsP S) (h : ME f g B L rb t S w u C) : f_X12_behindUnit (f, g) = some (1, (failM f (if t.1 = 32 then 1 else 2) t.2.1, g)) := by
  unfold f_X12_behindUnit
  rw [X12_rankHere h.1, cal_some, hr, if_pos (show Int32.ofNat 4 = 4 from rfl), X12_isCompared h hl he, cal_some, if_pos hc, if_neg (by decide), X12_misplaced h.1, cal_some]
/-- no sign: all is done down to the bracket, or to the bottom -/
theorem m_end {P S C : List (Nat × Nat)} {a0 k0 : Nat} (hr : rkO t.1 = 0) (ha0 : 7 ≤ a0) (hl : (P ++ (a0, k0) :: S).length ≤ 90) (hc : P.length + C.length ≤ 560) (hg : gesP 0 P) (h : ME f g B L rb t (P ++ (a0, k0) :: S) (w + nots P) u C) : ∃ f1, f_X12_behindUnit (f, g) = jn_X12_behindUnit_104 0 (f1, g) ∧ ME f1 g B L rb t ((a0, k0) :: S) w u (pops P C) ∧ MFr rb f f1 g g := by
  obtain ⟨f1, a1, a2, a3⟩ := m_pops (kk := fun h24 => jn_X12_behindUnit_104 0 h24) (r := 0) (by decide) (Or.inr ha0) P 3999 w C f (by simp only [List.length_append, List.length_cons] at hl; omega) hl hc hg h
  refine ⟨f1, ?_, a2, a3⟩
  unfold f_X12_behindUnit
  rw [X12_rankHere h.1, cal_some, hr, if_neg (by decide)]
  exact a1
end MV
