/-! Marks of a young one: bit by bit, and at once -/
theorem tb_lsb {s : Int32} {k : Nat} (hk : k < 8) : tb s k = s.toBitVec.getLsbD k := by
  have hc : ((s >>> (Int32.ofNat k &&& 31)) &&& 1) = 0 ↔ s.toBitVec.getLsbD k = false := by
    have h1 : (s >>> (Int32.ofNat k &&& 31)).toBitVec = s.toBitVec.sshiftRight k := by
      rw [Int32.toBitVec_shiftRight]
      have h2 : ∀ k : Fin 8, ((Int32.ofNat k.val &&& 31).toBitVec.smod 32).toNat = k.val := by decide +kernel
      show s.toBitVec.sshiftRight ((Int32.ofNat k &&& 31).toBitVec.smod 32).toNat = _
      rw [h2 ⟨k, hk⟩]
    rw [← Int32.toBitVec_inj, Int32.toBitVec_and, h1]
    constructor
    · intro h
      have := congrArg (fun b : BitVec 32 => b.getLsbD 0) h
      simp only [BitVec.getLsbD_and, BitVec.getLsbD_sshiftRight] at this
      have e1 : (1 : Int32).toBitVec.getLsbD 0 = true := by decide
      have e0 : (0 : Int32).toBitVec.getLsbD 0 = false := by decide
      rw [e1, e0] at this
      have : k < 32 := by omega
      simp_all
    · intro h
      apply BitVec.eq_of_getLsbD_eq
      intro i hi
      rw [BitVec.getLsbD_and]
      have e0 : (0 : Int32).toBitVec.getLsbD i = false := by
        show (0#32).getLsbD i = false
        simp
      have e1 : (1 : Int32).toBitVec.getLsbD i = decide (i = 0) := by
        show (1#32).getLsbD i = decide (i = 0)
        rw [BitVec.getLsbD_one]
        simp
      rw [e0, e1, BitVec.getLsbD_sshiftRight]
      by_cases h0 : i = 0
      · subst h0
        have : k < 32 := by omega
        simp [this]
        rw [← BitVec.getLsbD_eq_getElem]
        exact h
      · simp [h0]
  cases hb : s.toBitVec.getLsbD k
  · rw [tb_0.mp (hc.mpr hb)]
  · cases ht : tb s k
    · rw [hc.mp (tb_0.mpr ht)] at hb; cases hb
    · rfl
theorem ofNat_lsb {m i : Nat} (hm : m < 64) (hi : 6 ≤ i) : (Int32.ofNat m).toBitVec.getLsbD i = false := by
  show (BitVec.ofNat 32 m).getLsbD i = false
  rw [BitVec.getLsbD_ofNat]
  have : m.testBit i = false := Nat.testBit_lt_two_pow (Nat.lt_of_lt_of_le hm (Nat.pow_le_pow_right (n := 2) (i := 6) (by decide) hi))
  rw [this]
  simp
theorem sB_lsb {k i : Nat} (hk : k < 8) : (sB k).toBitVec.getLsbD i = decide (i = k) := by
  have h : ∀ k : Fin 8, (sB k.val).toBitVec = BitVec.ofNat 32 (2 ^ k.val) := by decide +kernel
  rw [h ⟨k, hk⟩, BitVec.getLsbD_ofNat, Nat.testBit_two_pow]
  by_cases hik : i = k
  · subst hik
    have : i < 32 := by omega
    simp [this]
  · have h1 : ¬ k = i := fun e => hik e.symm
    simp [h1, hik]
theorem marks_fold {S : Int32} {m n : Nat} (hm : m < 64) (hn : n < 64) : fo (fun k x => x ||| ((if tb S k = true then Int32.ofNat m else Int32.ofNat n) &&& sB k)) 6 0 0 = (S &&& Int32.ofNat m) ||| ((S ^^^ ((-1) : Int32)) &&& Int32.ofNat n) := by
  apply Int32.toBitVec_inj.mp
  apply BitVec.eq_of_getLsbD_eq
  intro i hi
  have step : ∀ (c t : Nat) (x : Int32), t + c = 6 → (fo (fun k x => x ||| ((if tb S k = true then Int32.ofNat m else Int32.ofNat n) &&& sB k)) c t x).toBitVec.getLsbD i = (x.toBitVec.getLsbD i || (decide (t ≤ i) && decide (i < 6) && (if S.toBitVec.getLsbD i = true then (Int32.ofNat m).toBitVec.getLsbD i else (Int32.ofNat n).toBitVec.getLsbD i))) := by
    intro c
    induction c with
    | zero =>
      intro t x ht
      rw [fo]
      by_cases h1 : t ≤ i
      · have : ¬ i < 6 := by omega
        simp [this]
      · simp [h1]
    | succ c ih =>
      intro t x ht
      rw [fo, ih (t + 1) _ (by omega), Int32.toBitVec_or, BitVec.getLsbD_or, Int32.toBitVec_and, BitVec.getLsbD_and, sB_lsb (by omega), tb_lsb (by omega)]
      by_cases h1 : i = t
      · subst h1
        have h2 : ¬ i + 1 ≤ i := by omega
        have h3 : i < 6 := by omega
        simp only [h2, h3, decide_false, decide_true, Bool.false_and, Bool.or_false, Bool.true_and, Bool.and_true, Nat.le_refl]
        split <;> rfl
      · have h2 : decide (t + 1 ≤ i) = decide (t ≤ i) := by
          by_cases h : t ≤ i
          · have : t + 1 ≤ i := by omega
            simp [h, this]
          · have : ¬ t + 1 ≤ i := by omega
            simp [h, this]
        rw [h2]
        simp [h1]
  rw [step 6 0 0 rfl, Int32.toBitVec_or, BitVec.getLsbD_or, Int32.toBitVec_and, Int32.toBitVec_and, BitVec.getLsbD_and, BitVec.getLsbD_and, Int32.toBitVec_xor, BitVec.getLsbD_xor]
  have e0 : (0 : Int32).toBitVec.getLsbD i = false := by
    show (0#32).getLsbD i = false
    simp
  have e1 : ((-1 : Int32)).toBitVec.getLsbD i = true := by
    show (BitVec.allOnes 32).getLsbD i = true
    rw [BitVec.getLsbD_allOnes]
    simp [hi]
  rw [e0, e1]
  by_cases h6 : i < 6
  · cases S.toBitVec.getLsbD i <;> simp [h6]
  · rw [ofNat_lsb hm (by omega), ofNat_lsb hn (by omega)]
    simp [h6]
