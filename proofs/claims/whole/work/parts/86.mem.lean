/-! What is held of the last one's marks -/
def HR (f : Nat → Nat → Int32) (nt i : Nat) : Prop := (∃ t, t < nt ∧ f 405 i = Int32.ofNat t ∧ f 441 i = Int32.ofNat t) ∧ f 406 i = f 442 i ∧ f 407 i = f 443 i ∧ f 408 i = f 444 i ∧ (f 443 i = 0 ∨ f 443 i = 1) ∧ (f 410 i = 0 ∧ f 445 i < 0 ∨ f 410 i = 1 ∧ ¬ f 445 i < 0 ∧ f 409 i = f 445 i)
def IMc (f : Nat → Nat → Int32) (nt b : Nat) (tm : Nat → Nat) (c : Nat) : Prop := f 4 7 = Int32.ofNat nt ∧ nt ≤ 6 ∧ b < 2 ∧ f 413 32 = Int32.ofNat b ∧ f 417 b = Int32.ofNat nt ∧ (∀ t, t < nt → tm t < 64 ∧ f 8 t = Int32.ofNat (tm t) ∧ f 426 (6 * b + t) = Int32.ofNat (tm t)) ∧ c ≤ 30 ∧ f 404 8 = Int32.ofNat c ∧ f 413 55 = Int32.ofNat c ∧ f 404 9 = f 413 56 ∧ (0 ≤ (f 413 56).toInt ∧ (f 413 56).toInt ≤ 100000) ∧ ∀ i, i < c → HR f nt i
def IM (f : Nat → Nat → Int32) (nt b : Nat) (tm : Nat → Nat) : Prop := ∃ c, IMc f nt b tm c
def shT (tm : Nat → Nat) (t x : Nat) : Int32 := 6 - Int32.ofNat (bc (tm t ^^^ x))
def okH (f : Nat → Nat → Int32) (tm : Nat → Nat) (k : Int32) (x i : Nat) : Bool := if k < f 444 i then true else if (!decide (f 445 i < 0) && !decide (k < f 445 i)) = true then true else decide (f 443 i = 1) == !decide (shT tm (f 441 i).toNatClampNeg x < f 442 i)
def fitL (P : Nat → Bool) : Nat → Nat → Bool
  | 0, _ => true
  | m + 1, i => P i && fitL P m (i + 1)
theorem IM_frame {f f' : Nat → Nat → Int32} {nt b : Nat} {tm : Nat → Nat} (h4 : f' 4 = f 4) (h8 : f' 8 = f 8) (hc : ∀ a, 404 ≤ a → a < 411 → f' a = f a) (h32 : f' 413 32 = f 413 32) (h55 : f' 413 55 = f 413 55) (h56 : f' 413 56 = f 413 56) (h417 : f' 417 = f 417) (h426 : f' 426 = f 426) (hm : ∀ a, 441 ≤ a → a < 446 → f' a = f a) (h : IM f nt b tm) : IM f' nt b tm := by
  obtain ⟨c, k1, k2, k3, k4, k5, k6, k7, k8, k9, k10, k11, k12⟩ := h
  refine ⟨c, by rw [h4]; exact k1, k2, k3, by rw [h32]; exact k4, by rw [h417]; exact k5, by rw [h8, h426]; exact k6, k7, by rw [hc 404 (by decide) (by decide)]; exact k8, by rw [h55]; exact k9, by rw [hc 404 (by decide) (by decide), h56]; exact k10, by rw [h56]; exact k11, fun i hi => ?_⟩
  have := k12 i hi
  unfold HR at this ⊢
  rw [hc 405 (by decide) (by decide), hc 406 (by decide) (by decide), hc 407 (by decide) (by decide), hc 408 (by decide) (by decide), hc 409 (by decide) (by decide), hc 410 (by decide) (by decide), hm 441 (by decide) (by decide), hm 442 (by decide) (by decide), hm 443 (by decide) (by decide), hm 444 (by decide) (by decide), hm 445 (by decide) (by decide)]
  exact this
theorem bc6 {n : Nat} (h : n < 64) : bc n ≤ 6 := by
  have k : ∀ n : Fin 64, bc n.val ≤ 6 := by decide +kernel
  exact k ⟨n, h⟩
section ME
variable {f : Nat → Nat → Int32} {g : (Nat → Nat → Int64) × (Nat → Nat → Option Nat)} {nt b c : Nat} {tm : Nat → Nat}
theorem X3_sharedWith (I : IMc f nt b tm c) {t x : Nat} (ht : t < nt) (hx : x < 64) : f_X3_sharedWith (Int32.ofNat t) (Int32.ofNat x) (f, g) = some (shT tm t x) := by
  obtain ⟨k1, k2, k3, k4, k5, k6, k7, k8, k9, k10, k11, k12⟩ := I
  obtain ⟨m1, m2, m3⟩ := k6 t ht
  have hl : Int32.ofNat t < 6 := by
    rw [show (6 : Int32) = Int32.ofNat 6 from rfl, on_lt (by omega) (by omega)]; omega
  have hb : tm t ^^^ x < 64 := Nat.xor_lt_two_pow (n := 6) m1 hx
  unfold f_X3_sharedWith
  rw [if_neg (nneg (by omega)), if_pos hl, rdI_n (by omega) (by decide)]
  simp only [m2]
  rw [xor_on, J6_on (by omega), cal_some]
  rfl
theorem bx12 {b t : Nat} : (6 : Int32) * Int32.ofNat b + Int32.ofNat t = Int32.ofNat (6 * b + t) := by
  rw [← on_add]
  congr 1
  exact (Int32.ofNat_mul 6 b).symm
theorem X12_sharedIf (I : IMc f nt b tm c) {t x : Nat} (ht : t < nt) (hx : x < 64) : f_X12_sharedIf (Int32.ofNat x) (Int32.ofNat t) (f, g) = some (shT tm t x) := by
  obtain ⟨k1, k2, k3, k4, k5, k6, k7, k8, k9, k10, k11, k12⟩ := I
  obtain ⟨m1, m2, m3⟩ := k6 t ht
  unfold f_X12_sharedIf
  rw [bnd_eq]
  simp only [k4]
  rw [bx12, rdI_n (by omega) (by decide)]
  simp only [m3]
  rw [X12_sharedBy hx m1, cal_some, Nat.xor_comm]
  rfl
theorem c_fit (I : IMc f nt b tm c) {x : Nat} (hx : x < 64) (k : Int32) : ∀ m n i, i + m = c → lp_X3_isFitting_15 (Int32.ofNat x) k (f, g) (n + m + 1) (Int32.ofNat i) = some (if fitL (okH f tm k x) m i = true then 1 else 0) := by
  intro m
  have I0 := I
  obtain ⟨k1, k2, k3, k4, k5, k6, k7, k8, k9, k10, k11, k12⟩ := I
  induction m with
  | zero =>
    intro n i hi
    rw [lp_X3_isFitting_15, bnd_eq]
    simp only [k8]
    rw [if_neg (by rw [on_lt (by omega) (by omega)]; omega)]
    rfl
  | succ m ih =>
    intro n i hi
    have hl : Int32.ofNat i < Int32.ofNat c := by rw [on_lt (by omega) (by omega)]; omega
    have h30 : Int32.ofNat i < 30 := by
      rw [show (30 : Int32) = Int32.ofNat 30 from rfl, on_lt (by omega) (by omega)]; omega
    obtain ⟨⟨t, ht, e1, e2⟩, e3, e4, e5, e6, e7⟩ := k12 i (by omega)
    have ihh := ih n (i + 1) (by omega)
    have j95 : ∀ y0 : Int32, (y0 = 0 ∨ y0 = 1) → jn_X3_isFitting_95 (lp_X3_isFitting_15 (Int32.ofNat x) k (f, g) (n + m + 1)) (Int32.ofNat x) k (Int32.ofNat i) y0 (f, g) = some (if (decide (f 443 i = y0) && fitL (okH f tm k x) m (i + 1)) = true then 1 else 0) := fun y0 _ => by
      unfold jn_X3_isFitting_95
      rw [rdI_n (by omega) (by decide)]
      simp only [e4]
      by_cases c : y0 = f 443 i
      · rw [if_pos c, on_succ, ihh, decide_eq_true c.symm, Bool.true_and]
      · rw [if_neg c, decide_eq_false (fun z => c z.symm), Bool.false_and, if_neg (by decide)]
    have j63 : jn_X3_isFitting_63 (lp_X3_isFitting_15 (Int32.ofNat x) k (f, g) (n + m + 1)) (Int32.ofNat x) k (Int32.ofNat i) 1 (f, g) = some (if ((decide (f 443 i = 1) == !decide (shT tm t x < f 442 i)) && fitL (okH f tm k x) m (i + 1)) = true then 1 else 0) := by
      unfold jn_X3_isFitting_63
      rw [if_neg (by decide), rdI_n (by omega) (by decide)]
      simp only [e1]
      rw [X3_sharedWith I0 ht hx, cal_some, rdI_n (by omega) (by decide)]
      simp only [e3]
      by_cases c : shT tm t x < f 442 i
      · rw [if_pos c, j95 0 (Or.inl rfl), decide_eq_true c]
        rcases e6 with e6 | e6 <;> rw [e6] <;> rfl
      · rw [if_neg c, j95 1 (Or.inr rfl), decide_eq_false c]
        rcases e6 with e6 | e6 <;> rw [e6] <;> rfl
    have j62 : jn_X3_isFitting_62 (lp_X3_isFitting_15 (Int32.ofNat x) k (f, g) (n + m + 1)) (Int32.ofNat x) k (Int32.ofNat i) (f, g) = some (if fitL (okH f tm k x) m (i + 1) = true then 1 else 0) := by
      unfold jn_X3_isFitting_62 jn_X3_isFitting_63
      rw [if_pos rfl, on_succ, ihh]
    rw [show n + (m + 1) + 1 = (n + m + 1) + 1 from rfl, lp_X3_isFitting_15, bnd_eq]
    simp only [k8]
    rw [if_pos hl, if_pos h30, rdI_n (by omega) (by decide)]
    simp only [e5]
    rw [fitL]
    unfold okH
    by_cases c1 : k < f 444 i
    · rw [if_pos c1, j62, if_pos c1, Bool.true_and]; rfl
    · rw [if_neg c1, if_neg c1, rdI_n (by omega) (by decide)]
      simp only
      rcases e7 with ⟨z1, z2⟩ | ⟨z1, z2, z3⟩
      · rw [if_pos z1]
        unfold jn_X3_isFitting_58
        rw [j63, decide_eq_true z2, if_neg (show ¬ (!true && !decide (k < f 445 i)) = true by simp), e2, on_nat (by omega)]
        rfl
      · rw [if_neg (by rw [z1]; decide), rdI_n (by omega) (by decide)]
        simp only [z3]
        rw [decide_eq_false z2]
        by_cases c2 : k < f 445 i
        · rw [if_pos c2]
          unfold jn_X3_isFitting_58
          rw [j63, decide_eq_true c2, if_neg (show ¬ (!false && !true) = true by simp), e2, on_nat (by omega)]
          rfl
        · rw [if_neg c2, j62, decide_eq_false c2, if_pos (show (!false && !false) = true by simp), Bool.true_and]
          rfl
theorem m_fit (I : IMc f nt b tm c) {x : Nat} (hx : x < 64) (k : Int32) : ∀ m n i, i + m = c → lp_X12_doesFit_2 (Int32.ofNat x) k (f, g) (n + m + 1) (Int32.ofNat i) = some (if fitL (okH f tm k x) m i = true then 1 else 0) := by
  intro m
  have I0 := I
  obtain ⟨k1, k2, k3, k4, k5, k6, k7, k8, k9, k10, k11, k12⟩ := I
  induction m with
  | zero =>
    intro n i hi
    rw [lp_X12_doesFit_2, bnd_eq]
    simp only [k9]
    rw [if_neg (by rw [on_lt (by omega) (by omega)]; omega)]
    rfl
  | succ m ih =>
    intro n i hi
    have hl : Int32.ofNat i < Int32.ofNat c := by rw [on_lt (by omega) (by omega)]; omega
    obtain ⟨⟨t, ht, e1, e2⟩, e3, e4, e5, e6, e7⟩ := k12 i (by omega)
    have ihh := ih n (i + 1) (by omega)
    have j67 : ∀ y0 : Int32, (y0 = 0 ∨ y0 = 1) → jn_X12_doesFit_67 (lp_X12_doesFit_2 (Int32.ofNat x) k (f, g) (n + m + 1)) (Int32.ofNat x) k (Int32.ofNat i) y0 (f, g) = some (if (decide (f 443 i = y0) && fitL (okH f tm k x) m (i + 1)) = true then 1 else 0) := fun y0 _ => by
      unfold jn_X12_doesFit_67
      rw [rdI_n (by omega) (by decide)]
      simp only
      by_cases c : y0 = f 443 i
      · rw [if_pos c, on_succ, ihh, decide_eq_true c.symm, Bool.true_and]
      · rw [if_neg c, decide_eq_false (fun z => c z.symm), Bool.false_and, if_neg (by decide)]
    have j42 : jn_X12_doesFit_42 (lp_X12_doesFit_2 (Int32.ofNat x) k (f, g) (n + m + 1)) (Int32.ofNat x) k (Int32.ofNat i) (f, g) = some (if ((decide (f 443 i = 1) == !decide (shT tm t x < f 442 i)) && fitL (okH f tm k x) m (i + 1)) = true then 1 else 0) := by
      unfold jn_X12_doesFit_42
      rw [rdI_n (by omega) (by decide)]
      simp only [e2]
      rw [X12_sharedIf I0 ht hx, cal_some, rdI_n (by omega) (by decide)]
      simp only
      by_cases c : shT tm t x < f 442 i
      · rw [if_pos c, j67 0 (Or.inl rfl), decide_eq_true c]
        rcases e6 with e6 | e6 <;> rw [e6] <;> rfl
      · rw [if_neg c, j67 1 (Or.inr rfl), decide_eq_false c]
        rcases e6 with e6 | e6 <;> rw [e6] <;> rfl
    rw [show n + (m + 1) + 1 = (n + m + 1) + 1 from rfl, lp_X12_doesFit_2, bnd_eq]
    simp only [k9]
    rw [if_pos hl, rdI_n (by omega) (by decide)]
    simp only
    rw [fitL]
    unfold okH
    by_cases c1 : k < f 444 i
    · rw [if_pos c1, on_succ, ihh, if_pos c1, Bool.true_and]; rfl
    · rw [if_neg c1, if_neg c1, rdI_n (by omega) (by decide)]
      simp only
      by_cases z2 : f 445 i < 0
      · rw [if_pos z2, j42, decide_eq_true z2, if_neg (show ¬ (!true && !decide (k < f 445 i)) = true by simp), e2, on_nat (by omega)]
        rfl
      · rw [if_neg z2, rdI_n (by omega) (by decide)]
        simp only
        rw [decide_eq_false z2]
        by_cases c2 : k < f 445 i
        · rw [if_pos c2, j42, decide_eq_true c2, if_neg (show ¬ (!false && !true) = true by simp), e2, on_nat (by omega)]
          rfl
        · rw [if_neg c2, on_succ, ihh, decide_eq_false c2, if_pos (show (!false && !false) = true by simp), Bool.true_and]
          rfl
def FT (f : Nat → Nat → Int32) (tm : Nat → Nat) (c : Nat) (k : Int32) (x : Nat) : Bool := fitL (okH f tm k x) c 0
theorem X3_isFitting (I : IMc f nt b tm c) {x : Nat} (hx : x < 64) (k : Int32) : f_X3_isFitting (Int32.ofNat x) k (f, g) = some (if (decide (0 < nt) && FT f tm c k x) = true then 1 else 0) := by
  have I0 := I
  obtain ⟨k1, k2, k3, k4, k5, k6, k7, k8, k9, k10, k11, k12⟩ := I
  unfold f_X3_isFitting
  rw [bnd_eq]
  simp only [k1]
  by_cases z : 0 < nt
  · have h1 : ¬ Int32.ofNat nt < 1 := by
      rw [show (1 : Int32) = Int32.ofNat 1 from rfl, on_lt (by omega) (by omega)]; omega
    rw [if_neg h1, decide_eq_true z, Bool.true_and]
    have := c_fit I0 (g := g) hx k c (3999 - c) 0 (by omega)
    rw [show 3999 - c + c + 1 = 4000 by omega] at this
    exact this
  · have h1 : Int32.ofNat nt < 1 := by
      rw [show (1 : Int32) = Int32.ofNat 1 from rfl, on_lt (by omega) (by omega)]; omega
    rw [if_pos h1, decide_eq_false z, Bool.false_and, if_neg (by decide)]
theorem X12_doesFit (I : IMc f nt b tm c) {x : Nat} (hx : x < 64) (k : Int32) : f_X12_doesFit (Int32.ofNat x) k (f, g) = some (if FT f tm c k x = true then 1 else 0) := by
  have h30 := I.2.2.2.2.2.2.1
  have := m_fit I (g := g) hx k c (3999 - c) 0 (by omega)
  rw [show 3999 - c + c + 1 = 4000 by omega] at this
  exact this
end ME
