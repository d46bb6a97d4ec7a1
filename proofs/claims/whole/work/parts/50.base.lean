/-! THE MATHEMATICS: places and loops -/
theorem cal_some {α ρ : Type} {v : α} {F : α → Option ρ} : cal (some v) F = F v := rfl
theorem cal2_some {α ρ : Type} {v : α} {h : am_H} {F : α → am_H → Option ρ} : cal2 (some (v, h)) F = F v h := rfl
theorem bnd_eq {α ρ : Type} {x : α} {F : α → Option ρ} : bnd x F = F x := rfl
theorem ptI_eq {ρ : Type} {h : am_H} {a k : Nat} {v : Int32} {F : am_H → Option ρ} : ptI h a k v F = F (am_u2 h.1 a k v, h.2) := rfl
theorem on_toInt {j : Nat} (hj : j < 2147483648) : (Int32.ofNat j).toInt = (j : Int) := by
  rw [Int32.toInt_ofNat']
  simp [Int.bmod]
  omega
theorem on_in {j n : Nat} (h : j < n) (hn : n ≤ 2147483648) : am_in (Int32.ofNat j) n := by
  have := on_toInt (j := j) (by omega)
  constructor
  · rw [this]; omega
  · rw [this]; omega
theorem on_nat {j : Nat} (hj : j < 2147483648) : (Int32.ofNat j).toNatClampNeg = j := by
  show (Int32.ofNat j).toInt.toNat = j
  rw [on_toInt hj]
  rfl
theorem on_add (a b : Nat) : Int32.ofNat a + Int32.ofNat b = Int32.ofNat (a + b) := (Int32.ofNat_add a b).symm
theorem on_succ (t : Nat) : Int32.ofNat t + 1 = Int32.ofNat (t + 1) := on_add t 1
theorem on_lt {a b : Nat} (ha : a < 2147483648) (hb : b < 2147483648) : (Int32.ofNat a < Int32.ofNat b) ↔ a < b := by
  rw [Int32.lt_iff_toInt_lt, on_toInt ha, on_toInt hb]
  omega
theorem on_inj {a b : Nat} (ha : a < 2147483648) (hb : b < 2147483648) : (Int32.ofNat a = Int32.ofNat b) ↔ a = b := by
  constructor
  · intro h
    have := congrArg Int32.toInt h
    rw [on_toInt ha, on_toInt hb] at this
    omega
  · intro h; rw [h]
theorem rdI_n {ρ : Type} {h : am_H} {a n j : Nat} {F : Int32 → Option ρ} (hj : j < n) (hn : n ≤ 2147483648) : rdI h a n (Int32.ofNat j) F = F (h.1 a j) := by
  unfold rdI
  rw [if_pos (on_in hj hn), on_nat (by omega)]
theorem wrI_n {ρ : Type} {h : am_H} {a n j : Nat} {v : Int32} {F : am_H → Option ρ} (hj : j < n) (hn : n ≤ 2147483648) : wrI h a n (Int32.ofNat j) v F = F (am_u2 h.1 a j v, h.2) := by
  unfold wrI
  rw [if_pos (on_in hj hn), on_nat (by omega)]
/-- the row of the model: the cell c + t -/
theorem rdA {ρ : Type} {h : am_H} {t : Nat} {F : Int32 → Option ρ} (c : Nat) (hj : c + t < 59) : rdI h 437 59 (Int32.ofNat c + Int32.ofNat t) F = F (h.1 437 (c + t)) := by
  rw [on_add]
  exact rdI_n hj (by decide)
theorem wrA {ρ : Type} {h : am_H} {t : Nat} {v : Int32} {F : am_H → Option ρ} (c : Nat) (hj : c + t < 59) : wrI h 437 59 (Int32.ofNat c + Int32.ofNat t) v F = F (am_u2 h.1 437 (c + t) v, h.2) := by
  rw [on_add]
  exact wrI_n hj (by decide)
theorem rdA0 {ρ : Type} {h : am_H} {t : Nat} {F : Int32 → Option ρ} (ht : t < 8) : rdI h 437 59 ((0 : Int32) + Int32.ofNat t) F = F (h.1 437 t) := by
  have := rdA (h := h) (F := F) (t := t) 0 (by omega)
  rw [Nat.zero_add] at this
  exact this
theorem rdA8 {ρ : Type} {h : am_H} {t : Nat} {F : Int32 → Option ρ} (ht : t < 8) : rdI h 437 59 ((8 : Int32) + Int32.ofNat t) F = F (h.1 437 (8 + t)) := rdA 8 (by omega)
theorem rdA16 {ρ : Type} {h : am_H} {t : Nat} {F : Int32 → Option ρ} (ht : t < 8) : rdI h 437 59 ((16 : Int32) + Int32.ofNat t) F = F (h.1 437 (16 + t)) := rdA 16 (by omega)
theorem rdA24 {ρ : Type} {h : am_H} {t : Nat} {F : Int32 → Option ρ} (ht : t < 8) : rdI h 437 59 ((24 : Int32) + Int32.ofNat t) F = F (h.1 437 (24 + t)) := rdA 24 (by omega)
theorem rdA32 {ρ : Type} {h : am_H} {t : Nat} {F : Int32 → Option ρ} (ht : t < 8) : rdI h 437 59 ((32 : Int32) + Int32.ofNat t) F = F (h.1 437 (32 + t)) := rdA 32 (by omega)
theorem rdA40 {ρ : Type} {h : am_H} {t : Nat} {F : Int32 → Option ρ} (ht : t < 8) : rdI h 437 59 ((40 : Int32) + Int32.ofNat t) F = F (h.1 437 (40 + t)) := rdA 40 (by omega)
theorem rdA48 {ρ : Type} {h : am_H} {t : Nat} {F : Int32 → Option ρ} (ht : t < 8) : rdI h 437 59 ((48 : Int32) + Int32.ofNat t) F = F (h.1 437 (48 + t)) := rdA 48 (by omega)
theorem rdAk {ρ : Type} {h : am_H} {k : Nat} {F : Int32 → Option ρ} (hk : k < 59) : rdI h 437 59 (Int32.ofNat k) F = F (h.1 437 k) := rdI_n hk (by decide)
theorem wrA0 {ρ : Type} {h : am_H} {t : Nat} {v : Int32} {F : am_H → Option ρ} (ht : t < 8) : wrI h 437 59 ((0 : Int32) + Int32.ofNat t) v F = F (am_u2 h.1 437 t v, h.2) := by
  have := wrA (h := h) (F := F) (t := t) (v := v) 0 (by omega)
  rw [Nat.zero_add] at this
  exact this
theorem wrA8 {ρ : Type} {h : am_H} {t : Nat} {v : Int32} {F : am_H → Option ρ} (ht : t < 8) : wrI h 437 59 ((8 : Int32) + Int32.ofNat t) v F = F (am_u2 h.1 437 (8 + t) v, h.2) := wrA 8 (by omega)
theorem wrA16 {ρ : Type} {h : am_H} {t : Nat} {v : Int32} {F : am_H → Option ρ} (ht : t < 8) : wrI h 437 59 ((16 : Int32) + Int32.ofNat t) v F = F (am_u2 h.1 437 (16 + t) v, h.2) := wrA 16 (by omega)
theorem wrA24 {ρ : Type} {h : am_H} {t : Nat} {v : Int32} {F : am_H → Option ρ} (ht : t < 8) : wrI h 437 59 ((24 : Int32) + Int32.ofNat t) v F = F (am_u2 h.1 437 (24 + t) v, h.2) := wrA 24 (by omega)
theorem wrA32 {ρ : Type} {h : am_H} {t : Nat} {v : Int32} {F : am_H → Option ρ} (ht : t < 8) : wrI h 437 59 ((32 : Int32) + Int32.ofNat t) v F = F (am_u2 h.1 437 (32 + t) v, h.2) := wrA 32 (by omega)
theorem wrA40 {ρ : Type} {h : am_H} {t : Nat} {v : Int32} {F : am_H → Option ρ} (ht : t < 8) : wrI h 437 59 ((40 : Int32) + Int32.ofNat t) v F = F (am_u2 h.1 437 (40 + t) v, h.2) := wrA 40 (by omega)
theorem wrA48 {ρ : Type} {h : am_H} {t : Nat} {v : Int32} {F : am_H → Option ρ} (ht : t < 8) : wrI h 437 59 ((48 : Int32) + Int32.ofNat t) v F = F (am_u2 h.1 437 (48 + t) v, h.2) := wrA 48 (by omega)
theorem wrAk {ρ : Type} {h : am_H} {k : Nat} {v : Int32} {F : am_H → Option ρ} (hk : k < 59) : wrI h 437 59 (Int32.ofNat k) v F = F (am_u2 h.1 437 k v, h.2) := wrI_n hk (by decide)
/-- a loop's sum -/
def fo {α : Type} (f : Nat → α → α) : Nat → Nat → α → α
  | 0, _, a => a
  | m + 1, t, a => fo f m (t + 1) (f t a)
/-- the first place -/
def fi (p : Nat → Bool) : Nat → Nat → Int32
  | 0, _ => -1
  | m + 1, t => if p t = true then Int32.ofNat t else fi p m (t + 1)
/-- the bit of a place -/
def sB (t : Nat) : Int32 := (1 : Int32) <<< (Int32.ofNat t &&& 31)
/-- whether the place is in the set -/
def tb (s : Int32) (t : Nat) : Bool := !(((s >>> (Int32.ofNat t &&& 31)) &&& 1) == 0)
theorem tb_0 {s : Int32} {t : Nat} : (((s >>> (Int32.ofNat t &&& 31)) &&& 1) = 0) ↔ tb s t = false := by
  simp [tb]
theorem and_one (x : Int32) : x &&& 1 = 0 ∨ x &&& 1 = 1 := by
  have h : ∀ b : BitVec 32, b &&& 1#32 = 0#32 ∨ b &&& 1#32 = 1#32 := by
    intro b
    have : (b &&& 1#32).toNat = b.toNat % 2 := by
      rw [BitVec.toNat_and]
      show b.toNat &&& 1 = _
      rw [Nat.and_one_is_mod]
    rcases Nat.mod_two_eq_zero_or_one b.toNat with h0 | h0
    · left; apply BitVec.eq_of_toNat_eq; rw [this, h0]; rfl
    · right; apply BitVec.eq_of_toNat_eq; rw [this, h0]; rfl
  rcases h x.toBitVec with h | h
  · left; apply Int32.toBitVec_inj.mp; exact h
  · right; apply Int32.toBitVec_inj.mp; exact h
theorem tb_1 {s : Int32} {t : Nat} : (((s >>> (Int32.ofNat t &&& 31)) &&& 1) = 1) ↔ tb s t = true := by
  rcases and_one (s >>> (Int32.ofNat t &&& 31)) with h | h <;> simp [tb, h]
theorem X12_bit {s : Int32} {t : Nat} {h : am_H} : f_X12_bit s (Int32.ofNat t) h = some (if tb s t = true then 1 else 0) := by
  unfold f_X12_bit
  by_cases hc : tb s t = true
  · rw [if_pos (tb_1.mpr hc), if_pos hc]
  · rw [if_neg (fun h => hc (tb_1.mp h)), if_neg hc]
/-- one and the same object's cells -/
def st (q : Nat → Int32) (k : Nat) (v : Int32) : Nat → Int32 := fun j => if j = k then v else q j
theorem u2_row {f : Nat → Nat → Int32} {a k : Nat} {v : Int32} : am_u2 f a k v a = st (f a) k v := by
  funext j
  simp [am_u2, st]
theorem u2_ne {f : Nat → Nat → Int32} {a b k : Nat} {v : Int32} (h : b ≠ a) : am_u2 f a k v b = f b := by
  funext j
  simp [am_u2, h]
/-- an object's cells are others -/
def up (f : Nat → Nat → Int32) (a : Nat) (q : Nat → Int32) : Nat → Nat → Int32 := fun x => if x = a then q else f x
theorem u2_up {f : Nat → Nat → Int32} {a k : Nat} {v : Int32} : am_u2 f a k v = up f a (st (f a) k v) := by
  funext x j
  unfold am_u2 up st
  by_cases h : x = a <;> simp [h]
theorem up_same {f : Nat → Nat → Int32} {a : Nat} {q : Nat → Int32} : up f a q a = q := by simp [up]
theorem up_ne {f : Nat → Nat → Int32} {a b : Nat} {q : Nat → Int32} (h : b ≠ a) : up f a q b = f b := by simp [up, h]
theorem up_up {f : Nat → Nat → Int32} {a : Nat} {q r : Nat → Int32} : up (up f a q) a r = up f a r := by
  funext x
  by_cases h : x = a <;> simp [up, h]
theorem up_self {f : Nat → Nat → Int32} {a : Nat} : up f a (f a) = f := by
  funext x
  by_cases h : x = a <;> simp [up, h]
