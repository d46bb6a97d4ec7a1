/-! Sets of places -/
def zS (e : Nat → Bool) : Int32 := fo (fun t a => if e t = true then a ||| sB t else a) 8 0 0
def zN (e : Nat → Bool) : Nat := fo (fun t a => if e t = true then a + 2 ^ t else a) 8 0 0
def zC (e : Nat → Bool) : Nat := fo (fun t a => if e t = true then a + 1 else a) 8 0 0
def zV (b : Bool × Bool × Bool × Bool × Bool × Bool × Bool × Bool) (t : Nat) : Bool := match t with
  | 0 => b.1
  | 1 => b.2.1
  | 2 => b.2.2.1
  | 3 => b.2.2.2.1
  | 4 => b.2.2.2.2.1
  | 5 => b.2.2.2.2.2.1
  | 6 => b.2.2.2.2.2.2.1
  | 7 => b.2.2.2.2.2.2.2
  | _ => false
def zB (e : Nat → Bool) : Bool × Bool × Bool × Bool × Bool × Bool × Bool × Bool := (e 0, e 1, e 2, e 3, e 4, e 5, e 6, e 7)
theorem zV_at {e : Nat → Bool} {t : Nat} (ht : t < 8) : zV (zB e) t = e t := by
  match t, ht with
  | 0, _ => rfl
  | 1, _ => rfl
  | 2, _ => rfl
  | 3, _ => rfl
  | 4, _ => rfl
  | 5, _ => rfl
  | 6, _ => rfl
  | 7, _ => rfl
theorem fo_cong {α : Type} {f g : Nat → α → α} : ∀ (m t : Nat) (a : α), (∀ k, t ≤ k → k < t + m → ∀ x, f k x = g k x) → fo f m t a = fo g m t a
  | 0, _, _, _ => rfl
  | m + 1, t, a, h => by
    rw [fo, fo, h t (Nat.le_refl _) (by omega)]
    exact fo_cong m (t + 1) _ (fun k h1 h2 => h k (by omega) (by omega))
theorem fo8 {α : Type} {f g : Nat → α → α} {a : α} (h : ∀ k, k < 8 → ∀ x, f k x = g k x) : fo f 8 0 a = fo g 8 0 a := fo_cong 8 0 a (fun k _ h2 => h k (by omega))
theorem zS_cong {e e' : Nat → Bool} (h : ∀ t, t < 8 → e t = e' t) : zS e = zS e' := fo8 (fun k hk x => by rw [h k hk])
theorem zN_cong {e e' : Nat → Bool} (h : ∀ t, t < 8 → e t = e' t) : zN e = zN e' := fo8 (fun k hk x => by rw [h k hk])
theorem zC_cong {e e' : Nat → Bool} (h : ∀ t, t < 8 → e t = e' t) : zC e = zC e' := fo8 (fun k hk x => by rw [h k hk])
theorem zS_V (e : Nat → Bool) : zS e = zS (zV (zB e)) := zS_cong (fun t ht => (zV_at ht).symm)
theorem zN_V (e : Nat → Bool) : zN e = zN (zV (zB e)) := zN_cong (fun t ht => (zV_at ht).symm)
theorem zC_V (e : Nat → Bool) : zC e = zC (zV (zB e)) := zC_cong (fun t ht => (zV_at ht).symm)
/-- all sets at once -/
theorem all8 {P : (Nat → Bool) → Prop} (hP : ∀ e e' : Nat → Bool, (∀ t, t < 8 → e t = e' t) → P e' → P e) (h : ∀ b0 b1 b2 b3 b4 b5 b6 b7 : Bool, P (zV (b0, b1, b2, b3, b4, b5, b6, b7))) (e : Nat → Bool) : P e := hP e (zV (zB e)) (fun t ht => (zV_at ht).symm) (h _ _ _ _ _ _ _ _)
theorem zS_on (e : Nat → Bool) : zS e = Int32.ofNat (zN e) := all8 (P := fun e => zS e = Int32.ofNat (zN e)) (fun e e' h hp => by rw [zS_cong h, zN_cong h]; exact hp) (by decide +kernel) e
theorem zN_lt (e : Nat → Bool) : zN e < 256 := all8 (P := fun e => zN e < 256) (fun e e' h hp => by rw [zN_cong h]; exact hp) (by decide +kernel) e
theorem tb_zS (e : Nat → Bool) {t : Nat} (ht : t < 8) : tb (zS e) t = e t := by
  have h := all8 (P := fun e => ∀ t : Fin 8, tb (zS e) t.val = e t.val) (fun e e' h hp t => by rw [zS_cong h, hp t, h t.val t.isLt]) (by decide +kernel) e
  exact h ⟨t, ht⟩
theorem zS_or (e : Nat → Bool) {t : Nat} (ht : t < 8) : zS e ||| sB t = zS (fun k => e k || decide (k = t)) := by
  have h := all8 (P := fun e => ∀ t : Fin 8, zS e ||| sB t.val = zS (fun k => e k || decide (k = t.val))) (fun e e' h hp t => by rw [zS_cong h, hp t]; exact zS_cong (fun k hk => by rw [h k hk])) (by decide +kernel) e
  exact h ⟨t, ht⟩
theorem zS_minus (e : Nat → Bool) {t : Nat} (ht : t < 8) : zS e &&& (sB t ^^^ ((-1) : Int32)) = zS (fun k => e k && !decide (k = t)) := by
  have h := all8 (P := fun e => ∀ t : Fin 8, zS e &&& (sB t.val ^^^ ((-1) : Int32)) = zS (fun k => e k && !decide (k = t.val))) (fun e e' h hp t => by rw [zS_cong h, hp t]; exact zS_cong (fun k hk => by rw [h k hk])) (by decide +kernel) e
  exact h ⟨t, ht⟩
/-- bits of a small number -/
def bc (n : Nat) : Nat := fo (fun t a => if n.testBit t = true then a + 1 else a) 8 0 0
theorem bc_zN (e : Nat → Bool) : bc (zN e) = zC e := all8 (P := fun e => bc (zN e) = zC e) (fun e e' h hp => by rw [zN_cong h, zC_cong h]; exact hp) (by decide +kernel) e
theorem zN_bit (e : Nat → Bool) {t : Nat} (ht : t < 8) : (zN e).testBit t = e t := by
  have h := all8 (P := fun e => ∀ t : Fin 8, (zN e).testBit t.val = e t.val) (fun e e' h hp t => by rw [zN_cong h, hp t, h t.val t.isLt]) (by decide +kernel) e
  exact h ⟨t, ht⟩
theorem zN_test {n : Nat} (hn : n < 256) : zN (fun t => n.testBit t) = n := by
  have h : ∀ n : Fin 256, zN (fun t => n.val.testBit t) = n.val := by decide +kernel
  exact h ⟨n, hn⟩
theorem zS_test {n : Nat} (hn : n < 256) : zS (fun t => n.testBit t) = Int32.ofNat n := by rw [zS_on, zN_test hn]
theorem J6_on {n : Nat} (hn : n < 256) {h : am_H} : f_J6_bitCount_0f7a4 (Int32.ofNat n) h = some (Int32.ofNat (bc n)) := by
  have k : ∀ n : Fin 256, f_J6_bitCount_0f7a4 (Int32.ofNat n.val) am_hE = some (Int32.ofNat (bc n.val)) := by decide +kernel
  exact k ⟨n, hn⟩
theorem J6_zS (e : Nat → Bool) {h : am_H} : f_J6_bitCount_0f7a4 (zS e) h = some (Int32.ofNat (zC e)) := by
  rw [zS_on, J6_on (zN_lt e), bc_zN]
theorem lp_bitsOf_h {h : am_H} : ∀ (n : Nat) (x y : Int32), lp_X12_bitsOf_4 h n x y = lp_X12_bitsOf_4 am_hE n x y
  | 0, _, _ => rfl
  | n + 1, x, y => by
    rw [lp_X12_bitsOf_4, lp_X12_bitsOf_4, lp_bitsOf_h n]
theorem X12_bitsOf {n : Nat} (hn : n < 256) {h : am_H} : f_X12_bitsOf (Int32.ofNat n) h = some (Int32.ofNat (bc n)) := by
  have k : ∀ n : Fin 256, lp_X12_bitsOf_4 am_hE 20 0 (Int32.ofNat n.val) = some (Int32.ofNat (bc n.val)) := by decide +kernel
  have mono : ∀ (n d : Nat) (x y r : Int32), lp_X12_bitsOf_4 am_hE n x y = some r → lp_X12_bitsOf_4 am_hE (n + d) x y = some r := by
    intro n
    induction n with
    | zero => intro d x y r e; cases e
    | succ n ih =>
      intro d x y r e
      rw [show n + 1 + d = n + d + 1 by omega]
      rw [lp_X12_bitsOf_4] at e ⊢
      split
      · rename_i hc; rw [if_pos hc] at e; exact e
      · rename_i hc; rw [if_neg hc] at e; exact ih d _ _ _ e
  unfold f_X12_bitsOf
  rw [lp_bitsOf_h]
  exact mono 20 3980 0 _ _ (k ⟨n, hn⟩)
theorem X12_bitsOf_zS (e : Nat → Bool) {h : am_H} : f_X12_bitsOf (zS e) h = some (Int32.ofNat (zC e)) := by
  rw [zS_on, X12_bitsOf (zN_lt e), bc_zN]
theorem bc_le {n : Nat} : bc n ≤ 8 := by
  have h : ∀ m t a, fo (fun t a => if n.testBit t = true then a + 1 else a) m t a ≤ a + m := by
    intro m
    induction m with
    | zero => intro t a; exact Nat.le_refl _
    | succ m ih =>
      intro t a
      rw [fo]
      split
      · have := ih (t + 1) (a + 1); omega
      · have := ih (t + 1) a; omega
  have := h 8 0 0
  unfold bc
  omega
theorem xor_on {a b : Nat} : Int32.ofNat a ^^^ Int32.ofNat b = Int32.ofNat (a ^^^ b) := by
  apply Int32.toBitVec_inj.mp
  rw [Int32.toBitVec_xor]
  show BitVec.ofNat 32 a ^^^ BitVec.ofNat 32 b = BitVec.ofNat 32 (a ^^^ b)
  apply BitVec.eq_of_toNat_eq
  simp [Nat.xor_mod_two_pow]
theorem and_on {a b : Nat} : Int32.ofNat a &&& Int32.ofNat b = Int32.ofNat (a &&& b) := by
  apply Int32.toBitVec_inj.mp
  rw [Int32.toBitVec_and]
  show BitVec.ofNat 32 a &&& BitVec.ofNat 32 b = BitVec.ofNat 32 (a &&& b)
  apply BitVec.eq_of_toNat_eq
  simp [Nat.and_mod_two_pow]
theorem or_on {a b : Nat} : Int32.ofNat a ||| Int32.ofNat b = Int32.ofNat (a ||| b) := by
  apply Int32.toBitVec_inj.mp
  rw [Int32.toBitVec_or]
  show BitVec.ofNat 32 a ||| BitVec.ofNat 32 b = BitVec.ofNat 32 (a ||| b)
  apply BitVec.eq_of_toNat_eq
  simp [Nat.or_mod_two_pow]
