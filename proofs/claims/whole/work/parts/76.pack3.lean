/-! Pack: the model, and both -/
theorem shr_on {v s : Nat} (hv : v < 65536) (hs : s < 8) : Int32.ofNat v >>> (((2 : Int32) * ((7 : Int32) - Int32.ofNat s)) &&& 31) = Int32.ofNat (v / 4 ^ (7 - s)) := by
  apply Int32.toBitVec_inj.mp
  rw [Int32.toBitVec_shiftRight]
  have h2 : ∀ s : Fin 8, ((((2 : Int32) * ((7 : Int32) - Int32.ofNat s.val)) &&& 31).toBitVec.smod 32).toNat = 2 * (7 - s.val) := by decide +kernel
  have h3 := h2 ⟨s, hs⟩
  simp only at h3
  show (Int32.ofNat v).toBitVec.sshiftRight ((((2 : Int32) * ((7 : Int32) - Int32.ofNat s)) &&& 31).toBitVec.smod 32).toNat = _
  rw [h3]
  show (BitVec.ofNat 32 v).sshiftRight (2 * (7 - s)) = BitVec.ofNat 32 (v / 4 ^ (7 - s))
  have hm : (BitVec.ofNat 32 v).msb = false := by
    rw [BitVec.msb_eq_decide, BitVec.toNat_ofNat]
    simp
    omega
  rw [BitVec.sshiftRight_eq_of_msb_false hm]
  apply BitVec.eq_of_toNat_eq
  rw [BitVec.toNat_ushiftRight, BitVec.toNat_ofNat, BitVec.toNat_ofNat, Nat.mod_eq_of_lt (by omega), Nat.mod_eq_of_lt (Nat.lt_of_le_of_lt (Nat.div_le_self _ _) (by omega)), Nat.shiftRight_eq_div_pow, Nat.pow_mul]
theorem X12_twoBits {v k : Nat} {h : am_H} (hv : v < 65536) (hk : k < 8) : f_X12_twoBits (Int32.ofNat v) (Int32.ofNat k) h = some (Int32.ofNat (dg v k)) := by
  unfold f_X12_twoBits dg
  rw [shr_on hv hk, show (3 : Int32) = Int32.ofNat 3 from rfl, and_on]
  congr 2
  exact Nat.and_two_pow_sub_one_eq_mod _ 2
theorem dg_lt {v k : Nat} : dg v k < 4 := Nat.mod_lt _ (by decide)
def inR (q : Nat → Int32) (v r k : Nat) : Bool := !decide (q k = 0) && decide (dg v k = r)
section QN
variable {nr b : Nat} {hold : Nat → Int32} {g : (Nat → Nat → Int64) × (Nat → Nat → Option Nat)} {f : Nat → Nat → Int32}
theorem m_roomSum {v r : Nat} (hv : v < 65536) (hr : r < 4) {p2 : Int32} {k : Int32 → Int32 → Option Int32} : ∀ m n t (a : Int32) c, t + m = 8 → lp_X12_roomsIn_18 (Int32.ofNat v) p2 (Int32.ofNat r) (f, g) k (n + m + 1) a (Int32.ofNat c) (Int32.ofNat t) = k (fo (fun t a => if inR (f 437) v r t = true then a + f 437 t else a) m t a) (Int32.ofNat (fo (fun t c => if inR (f 437) v r t = true then c + 1 else c) m t c)) := by
  intro m
  induction m with
  | zero =>
    intro n t a c ht
    obtain rfl : t = 8 := by omega
    rw [lp_X12_roomsIn_18, if_neg (by decide)]
    rfl
  | succ m ih =>
    intro n t a c ht
    have h8 : t < 8 := by omega
    have e : ∀ a c, lp_X12_roomsIn_18 (Int32.ofNat v) p2 (Int32.ofNat r) (f, g) k (n + (m + 1)) a (Int32.ofNat c) (Int32.ofNat (t + 1)) = _ := fun a c => ih n (t + 1) a c (by omega)
    have ed : (Int32.ofNat (dg v t) = Int32.ofNat r) ↔ dg v t = r := on_inj (by have := dg_lt (v := v) (k := t); omega) (by omega)
    rw [lp_X12_roomsIn_18, if_pos (i8_lt t h8), X12_twoBits hv h8, cal_some, rdA0 h8, rdA0 h8, on_succ, on_succ, e, e, fo, fo]
    simp only
    by_cases c1 : dg v t = r
    · rw [if_pos (ed.mpr c1)]
      by_cases c2 : f 437 t = 0
      · rw [if_pos c2]
        simp [inR, c2]
      · rw [if_neg c2]
        simp [inR, c1, c2]
    · rw [if_neg (fun z => c1 (ed.mp z))]
      simp [inR, c1]
theorem zC_fo {e : Nat → Bool} : fo (fun t c => if e t = true then c + 1 else c) 8 0 0 = zC e := rfl
theorem inR_usd {q : Nat → Int32} {v r : Nat} : (∃ k, k < 8 ∧ inR q v r k = true) ↔ pU q v r = true := by
  unfold pU usd
  rw [cb_t]
  unfold inR
  simp only [Bool.and_eq_true, Bool.not_eq_true', decide_eq_false_iff_not, decide_eq_true_eq]
  constructor
  · rintro ⟨k, h1, h2, h3⟩; exact ⟨k, Nat.zero_le _, h1, h2, h3⟩
  · rintro ⟨k, _, h1, h2, h3⟩; exact ⟨k, h1, h2, h3⟩
theorem sum_smr {q : Nat → Int32} (W : WQ nr q) {v r : Nat} : (fo (fun t a => if inR q v r t = true then a + q t else a) 8 0 0).toInt = smr q v 0 r := by
  rw [fo_sum (e := inR q v r) (fun t ht => W.le ht)]
  refine sum8_eq (fun k hk => ?_)
  unfold inR
  simp only [Bool.and_eq_true, Bool.not_eq_true', decide_eq_false_iff_not, decide_eq_true_eq, Nat.zero_le, true_and]
theorem m_roomsIn (H : HO nr hold) (W : WQ nr (f 437)) (M : MP (f, g) b nr hold) {v : Nat} (hv : v < 65536) : ∀ m n r (a : Nat → Bool), r + m = 4 → (∃ r', r ≤ r' ∧ r' < 4 ∧ pU (f 437) v r' = true ∧ (¬ r' < nr ∨ (hold r').toInt < smr (f 437) v 0 r')) ∧ lp_X12_roomsIn_4 (Int32.ofNat v) (f, g) (n + m + 1) (zS a) (Int32.ofNat r) = some (-1) ∨ (∀ r', r ≤ r' → r' < 4 → pU (f 437) v r' = true → r' < nr ∧ smr (f 437) v 0 r' ≤ (hold r').toInt) ∧ lp_X12_roomsIn_4 (Int32.ofNat v) (f, g) (n + m + 1) (zS a) (Int32.ofNat r) = some (zS (fun k => a k || (decide (r ≤ k) && decide (k < 4) && pU (f 437) v k))) := by
  have h4 := M.2.2.2.1
  intro m
  induction m with
  | zero =>
    intro n r a hr
    obtain rfl : r = 4 := by omega
    rw [lp_X12_roomsIn_4, if_neg (by decide)]
    refine Or.inr ⟨fun r' h1 h2 => by omega, ?_⟩
    congr 1
    exact zS_cong (fun k hk => by
      by_cases e : 4 ≤ k
      · have : ¬ k < 4 := by omega
        simp [this]
      · simp [e])
  | succ m ih =>
    intro n r a hr
    have hr4 : r < 4 := by omega
    have e := ih n (r + 1)
    rw [lp_X12_roomsIn_4, if_pos (lt4 hr4)]
    have hs := m_roomSum (f := f) (g := g) (p2 := zS a) hv hr4 (k := (fun z6 z7 => if z7 = 0 then lp_X12_roomsIn_4 (Int32.ofNat v) (f, g) (n + (m + 1)) (zS a) (Int32.ofNat r + 1) else cal (f_X12_chambers (f, g)) fun v9 => if Int32.ofNat r < v9 then cal (f_X12_holdsOf (Int32.ofNat r) (f, g)) fun v12 => if v12 < z6 then some (-1) else lp_X12_roomsIn_4 (Int32.ofNat v) (f, g) (n + (m + 1)) (zS a ||| ((1 : Int32) <<< (Int32.ofNat r &&& 31))) (Int32.ofNat r + 1) else some (-1))) 8 3991 0 0 0 rfl
    have hs' : lp_X12_roomsIn_18 (Int32.ofNat v) (zS a) (Int32.ofNat r) (f, g) (fun z6 z7 => if z7 = 0 then lp_X12_roomsIn_4 (Int32.ofNat v) (f, g) (n + (m + 1)) (zS a) (Int32.ofNat r + 1) else cal (f_X12_chambers (f, g)) fun v9 => if Int32.ofNat r < v9 then cal (f_X12_holdsOf (Int32.ofNat r) (f, g)) fun v12 => if v12 < z6 then some (-1) else lp_X12_roomsIn_4 (Int32.ofNat v) (f, g) (n + (m + 1)) (zS a ||| ((1 : Int32) <<< (Int32.ofNat r &&& 31))) (Int32.ofNat r + 1) else some (-1)) 4000 0 0 0 = _ := hs
    rw [hs', zC_fo, on_succ]
    have hz : (Int32.ofNat (zC (inR (f 437) v r)) = 0) ↔ ¬ pU (f 437) v r = true := by
      have z8 := zC_le8 (inR (f 437) v r)
      rw [show (0 : Int32) = Int32.ofNat 0 from rfl, on_inj (by omega) (by decide), ← inR_usd]
      constructor
      · rintro h ⟨k, hk, hk2⟩
        rw [zC_zero h k hk] at hk2; cases hk2
      · intro h
        cases hc : zC (inR (f 437) v r) with
        | zero => rfl
        | succ c => exact absurd (zC_pos hc) h
    have skipSet : ¬ pU (f 437) v r = true → zS (fun k => a k || (decide (r + 1 ≤ k) && decide (k < 4) && pU (f 437) v k)) = zS (fun k => a k || (decide (r ≤ k) && decide (k < 4) && pU (f 437) v k)) := fun hn => zS_cong (fun k hk => by
      by_cases ek : k = r
      · subst ek
        have : pU (f 437) v k = false := by simpa using hn
        simp [this]
      · by_cases l : r ≤ k
        · have l2 : r + 1 ≤ k := by omega
          simp [l, l2]
        · have l2 : ¬ r + 1 ≤ k := by omega
          simp [l, l2])
    by_cases c1 : pU (f 437) v r = true
    · rw [if_neg (fun z => hz.mp z c1), X12_chambers M, cal_some]
      by_cases c2 : r < nr
      · rw [if_pos ((on_lt (by omega) (by omega)).mpr c2), X12_holdsOf M c2, cal_some]
        by_cases c3 : (hold r).toInt < smr (f 437) v 0 r
        · rw [if_pos (by rw [Int32.lt_iff_toInt_lt, sum_smr W]; exact c3)]
          exact Or.inl ⟨⟨r, Nat.le_refl _, hr4, c1, Or.inr c3⟩, rfl⟩
        · rw [if_neg (by rw [Int32.lt_iff_toInt_lt, sum_smr W]; exact c3), zS_one (show r < 8 by omega), zS_or2]
          rcases e (fun k => a k || decide (k = r)) (by omega) with ⟨⟨r', k1, k2, k3, k5⟩, k6⟩ | ⟨k1, k2⟩
          · exact Or.inl ⟨⟨r', by omega, k2, k3, k5⟩, k6⟩
          · refine Or.inr ⟨fun r' h1 h2 h3 => ?_, ?_⟩
            · by_cases er : r' = r
              · subst er; exact ⟨c2, by omega⟩
              · exact k1 r' (by omega) h2 h3
            · refine Eq.trans k2 (congrArg some (zS_cong (fun k hk => ?_)))
              by_cases ek : k = r
              · subst ek
                simp [c1, hr4]
              · by_cases l : r ≤ k
                · have l2 : r + 1 ≤ k := by omega
                  simp [l, l2, ek]
                · have l2 : ¬ r + 1 ≤ k := by omega
                  simp [l, l2, ek]
      · rw [if_neg (fun z => c2 ((on_lt (by omega) (by omega)).mp z))]
        exact Or.inl ⟨⟨r, Nat.le_refl _, hr4, c1, Or.inl c2⟩, rfl⟩
    · rw [if_pos (hz.mpr c1)]
      rcases e a (by omega) with ⟨⟨r', k1, k2, k3, k5⟩, k6⟩ | ⟨k1, k2⟩
      · exact Or.inl ⟨⟨r', by omega, k2, k3, k5⟩, k6⟩
      · refine Or.inr ⟨fun r' h1 h2 h3 => ?_, by rw [← skipSet c1]; exact k2⟩
        by_cases er : r' = r
        · subst er; exact absurd h3 c1
        · exact k1 r' (by omega) h2 h3
theorem pU_hi {q : Nat → Int32} {v r : Nat} (h : pU q v r = true) : r < 4 := by
  obtain ⟨k, _, _, _, h5⟩ := cb_t.mp h
  rw [← h5]
  exact dg_lt
theorem X12_roomsIn (H : HO nr hold) (W : WQ nr (f 437)) (M : MP (f, g) b nr hold) {v : Nat} (hv : v < 65536) (hz : ∀ k, k < 8 → f 437 k = 0 → dg v k = 0) : (¬ pOk (f 437) hold nr v ∧ f_X12_roomsIn (Int32.ofNat v) (f, g) = some (-1)) ∨ (pOk (f 437) hold nr v ∧ f_X12_roomsIn (Int32.ofNat v) (f, g) = some (zS (pU (f 437) v))) := by
  have h4 := M.2.2.2.1
  have h := m_roomsIn (g := g) H W M hv 4 3995 0 (fun _ => false) rfl
  rw [zS_empty] at h
  rcases h with ⟨⟨r', k1, k2, k3, k5⟩, k6⟩ | ⟨k1, k2⟩
  · refine Or.inl ⟨fun hok => ?_, k6⟩
    have hlt : r' < nr := by
      obtain ⟨k, _, a2, a3, a5⟩ := cb_t.mp k3
      have := (hok.1 k a2).2 a3
      rw [a5] at this
      exact this
    have := hok.2 r' hlt
    rcases k5 with k5 | k5
    · exact k5 hlt
    · omega
  · refine Or.inr ⟨⟨fun k hk => ⟨hz k hk, fun h0 => ?_⟩, fun r hr => ?_⟩, ?_⟩
    · exact (k1 (dg v k) (Nat.zero_le _) dg_lt (cb_t.mpr ⟨k, Nat.zero_le _, hk, h0, rfl⟩)).1
    · by_cases c : pU (f 437) v r = true
      · exact (k1 r (Nat.zero_le _) (by omega) c).2
      · have : smr (f 437) v 0 r = 0 := by
          unfold smr
          rw [show sum8 (fun k => if 0 ≤ k ∧ ¬ f 437 k = 0 ∧ dg v k = r then (f 437 k).toInt else 0) = sum8 (fun _ => 0) from sum8_eq (fun k hk => by
            rw [if_neg (fun z => c (cb_t.mpr ⟨k, z.1, hk, z.2.1, z.2.2⟩))])]
          rfl
        rw [this]
        exact (H r hr).1
    · refine Eq.trans k2 (congrArg some (zS_cong (fun k hk => ?_)))
      cases hp : pU (f 437) v k
      · simp
      · have := pU_hi hp
        simp [this]
/-- the places without a trunk -/
def emp (q : Nat → Int32) (t : Nat) (a : Nat) : Nat := if q t = 0 then a ||| 3 <<< (2 * (7 - t)) else a
theorem m_empty {p1 p2 : Int32} {k : Int32 → am_H → Option (Int32 × am_H)} : ∀ m n t a, t + m = 8 → lp_X12_pack_16 p1 p2 k (n + m + 1) (Int32.ofNat a) (Int32.ofNat t) (f, g) = k (Int32.ofNat (fo (emp (f 437)) m t a)) (f, g) := by
  intro m
  induction m with
  | zero =>
    intro n t a ht
    obtain rfl : t = 8 := by omega
    rw [lp_X12_pack_16, if_neg (by decide)]
    rfl
  | succ m ih =>
    intro n t a ht
    have h8 : t < 8 := by omega
    have e : ∀ a, lp_X12_pack_16 p1 p2 k (n + (m + 1)) (Int32.ofNat a) (Int32.ofNat (t + 1)) (f, g) = _ := fun a => ih n (t + 1) a (by omega)
    have h3 : ∀ t : Fin 8, (3 : Int32) <<< (((2 : Int32) * ((7 : Int32) - Int32.ofNat t.val)) &&& 31) = Int32.ofNat (3 <<< (2 * (7 - t.val))) := by decide +kernel
    have h3' := h3 ⟨t, h8⟩
    simp only at h3'
    rw [lp_X12_pack_16, if_pos (i8_lt t h8), rdA0 h8, h3', or_on, on_succ, e, e, fo]
    simp only
    unfold emp
    by_cases c : f 437 t = 0
    · rw [if_pos c, if_pos c]
    · rw [if_neg c, if_neg c]
theorem and_shl {v s : Nat} : v &&& 3 <<< s = (v / 2 ^ s % 4) <<< s := by
  apply Nat.eq_of_testBit_eq
  intro i
  rw [Nat.testBit_and, Nat.testBit_shiftLeft, Nat.testBit_shiftLeft]
  by_cases h : s ≤ i
  · have e3 : ∀ x j : Nat, (x % 4).testBit j = (x.testBit j && (3 : Nat).testBit j) := fun x j => by
      rw [← Nat.testBit_and]
      congr 1
      exact (Nat.and_two_pow_sub_one_eq_mod x 2).symm
    rw [e3, Nat.testBit_div_two_pow, show i - s + s = i by omega]
    simp [h]
  · simp [h]
theorem emp_iff {q : Nat → Int32} {v : Nat} : ∀ m t a, t + m ≤ 8 → ((v &&& fo (emp q) m t a) = 0 ↔ ((v &&& a) = 0 ∧ ∀ k, t ≤ k → k < t + m → q k = 0 → dg v k = 0)) := by
  intro m
  induction m with
  | zero => intro t a ht; rw [fo]; exact ⟨fun h => ⟨h, fun k h1 h2 => by omega⟩, fun h => h.1⟩
  | succ m ih =>
    intro t a ht
    rw [fo, ih (t + 1) _ (by omega)]
    unfold emp
    by_cases c : q t = 0
    · rw [if_pos c, Nat.and_or_distrib_left, Nat.or_eq_zero_iff, and_shl, show v / 2 ^ (2 * (7 - t)) % 4 = dg v t by unfold dg; rw [Nat.pow_mul], Nat.shiftLeft_eq_zero_iff]
      constructor
      · rintro ⟨⟨h1, h2⟩, h3⟩
        refine ⟨h1, fun k k1 k2 k3 => ?_⟩
        by_cases e : k = t
        · subst e; exact h2
        · exact h3 k (by omega) (by omega) k3
      · rintro ⟨h1, h2⟩
        exact ⟨⟨h1, h2 t (Nat.le_refl _) (by omega) c⟩, fun k k1 k2 k3 => h2 k (by omega) (by omega) k3⟩
    · rw [if_neg c]
      constructor
      · rintro ⟨h1, h3⟩
        refine ⟨h1, fun k k1 k2 k3 => ?_⟩
        by_cases e : k = t
        · subst e; exact absurd k3 c
        · exact h3 k (by omega) (by omega) k3
      · rintro ⟨h1, h2⟩
        exact ⟨h1, fun k k1 k2 k3 => h2 k (by omega) (by omega) k3⟩
def isBm (q hold : Nat → Int32) (nr n : Nat) (x y : Int32) : Prop := (x = -1 ∧ y = 1000 ∧ ∀ v, v < n → ¬ pOk q hold nr v) ∨ ∃ v, v < n ∧ x = Int32.ofNat v ∧ y = Int32.ofNat (zC (pU q v)) ∧ pOk q hold nr v ∧ (∀ v', v' < n → pOk q hold nr v' → zC (pU q v) ≤ zC (pU q v')) ∧ ∀ v', v' < v → pOk q hold nr v' → zC (pU q v) < zC (pU q v')
theorem m_packLoop (H : HO nr hold) (W : WQ nr (f 437)) (M : MP (f, g) b nr hold) {k : Int32 → Int32 → am_H → Option (Int32 × am_H)} : ∀ m n v x y, v + m = 65536 → isBm (f 437) hold nr v x y → ∃ x' y', lp_X12_pack_56 (Int32.ofNat (fo (emp (f 437)) 8 0 0)) k (n + m + 1) x y (Int32.ofNat v) (f, g) = k x' y' (f, g) ∧ isBm (f 437) hold nr 65536 x' y' := by
  intro m
  induction m with
  | zero =>
    intro n v x y hv h
    obtain rfl : v = 65536 := by omega
    rw [lp_X12_pack_56, if_neg (by decide)]
    exact ⟨x, y, rfl, h⟩
  | succ m ih =>
    intro n v x y hv h
    have h6 : v < 65536 := by omega
    have hl : Int32.ofNat v < 65536 := by
      rw [show (65536 : Int32) = Int32.ofNat 65536 from rfl, on_lt (by omega) (by omega)]
      exact h6
    have hem : (v &&& fo (emp (f 437)) 8 0 0) = 0 ↔ ∀ k, k < 8 → f 437 k = 0 → dg v k = 0 := by
      rw [emp_iff 8 0 0 (by decide)]
      constructor
      · rintro ⟨-, h2⟩ k hk; exact h2 k (Nat.zero_le _) (by omega)
      · intro h2; exact ⟨Nat.and_zero _, fun k _ hk => h2 k (by omega)⟩
    have keep : ¬ pOk (f 437) hold nr v → isBm (f 437) hold nr (v + 1) x y := by
      intro hn
      rcases h with ⟨h1, h2, h3⟩ | ⟨w, w0, w1, w2, w3, w4, w5⟩
      · refine Or.inl ⟨h1, h2, fun v' hv' => ?_⟩
        by_cases e : v' = v
        · subst e; exact hn
        · exact h3 v' (by omega)
      · refine Or.inr ⟨w, by omega, w1, w2, w3, fun v' hv' hok => ?_, w5⟩
        by_cases e : v' = v
        · subst e; exact absurd hok hn
        · exact w4 v' (by omega) hok
    have el : v &&& fo (emp (f 437)) 8 0 0 < 65536 := Nat.lt_of_le_of_lt Nat.and_le_left h6
    rw [lp_X12_pack_56, if_pos hl, and_on, on_succ]
    by_cases c0 : (v &&& fo (emp (f 437)) 8 0 0) = 0
    · rw [c0, if_pos (show Int32.ofNat 0 = 0 from rfl)]
      rcases X12_roomsIn (g := g) H W M h6 (hem.mp c0) with ⟨hn, e1⟩ | ⟨hok, e1⟩
      · rw [e1, cal_some, if_pos (by decide)]
        exact ih n (v + 1) x y (by omega) (keep hn)
      · have hz8 := zC_le8 (pU (f 437) v)
        have hneg : ¬ zS (pU (f 437) v) < 0 := by
          rw [zS_on, Int32.lt_iff_toInt_lt, on_toInt (by have := zN_lt (pU (f 437) v); omega), ti_0]
          omega
        rw [e1, cal_some, if_neg hneg, X12_bitsOf_zS, cal_some, cal_some]
        rcases h with ⟨rfl, rfl, h3⟩ | ⟨w, w0, rfl, rfl, w3, w4, w5⟩
        · rw [if_pos (by rw [show (1000 : Int32) = Int32.ofNat 1000 from rfl, on_lt (by omega) (by omega)]; omega)]
          refine ih n (v + 1) _ _ (by omega) (Or.inr ⟨v, by omega, rfl, rfl, hok, fun v' hv' hok' => ?_, fun v' hv' hok' => absurd hok' (h3 v' hv')⟩)
          by_cases e : v' = v
          · subst e; exact Nat.le_refl _
          · exact absurd hok' (h3 v' (by omega))
        · have w8 := zC_le8 (pU (f 437) w)
          by_cases c1 : zC (pU (f 437) v) < zC (pU (f 437) w)
          · rw [if_pos ((on_lt (by omega) (by omega)).mpr c1)]
            refine ih n (v + 1) _ _ (by omega) (Or.inr ⟨v, by omega, rfl, rfl, hok, fun v' hv' hok' => ?_, fun v' hv' hok' => ?_⟩)
            · by_cases e : v' = v
              · subst e; exact Nat.le_refl _
              · have := w4 v' (by omega) hok'
                omega
            · have := w4 v' hv' hok'
              omega
          · rw [if_neg (fun z => c1 ((on_lt (by omega) (by omega)).mp z))]
            refine ih n (v + 1) _ _ (by omega) (Or.inr ⟨w, by omega, rfl, rfl, w3, fun v' hv' hok' => ?_, w5⟩)
            by_cases e : v' = v
            · subst e; omega
            · exact w4 v' (by omega) hok'
    · have n0 : ¬ Int32.ofNat (v &&& fo (emp (f 437)) 8 0 0) = 0 := fun z => c0 ((on_inj (b := 0) (by omega) (by decide)).mp z)
      rw [if_neg n0]
      exact ih n (v + 1) x y (by omega) (keep (fun hok => c0 (hem.mpr (fun k hk => (hok.1 k hk).1))))
theorem m_lay {v : Nat} {p2 : Int32} (hv : v < 65536) (q : Nat → Int32) {k : am_H → Option (Int32 × am_H)} : ∀ m n t (f : Nat → Nat → Int32), t + m = 8 → f 437 = q → ∃ w, lp_X12_pack_123 (Int32.ofNat v) p2 k (n + m + 1) (Int32.ofNat t) (f, g) = k (up f 440 w, g) ∧ (∀ i, i < t → w i = f 440 i) ∧ ∀ i, t ≤ i → i < 8 → w i = chv q v i := by
  intro m
  induction m with
  | zero =>
    intro n t f ht hq
    obtain rfl : t = 8 := by omega
    rw [lp_X12_pack_123, if_neg (by decide)]
    exact ⟨f 440, by rw [up_self], fun i _ => rfl, fun i h1 h2 => by omega⟩
  | succ m ih =>
    intro n t f ht hq
    have h8 : t < 8 := by omega
    have step : ∀ x, x = chv q v t → ∃ w, lp_X12_pack_123 (Int32.ofNat v) p2 k (n + (m + 1)) (Int32.ofNat (t + 1)) (am_u2 f 440 t x, g) = k (up f 440 w, g) ∧ (∀ i, i < t → w i = f 440 i) ∧ ∀ i, t ≤ i → i < 8 → w i = chv q v i := by
      rintro x rfl
      obtain ⟨w, a1, a2, a3⟩ := ih n (t + 1) (am_u2 f 440 t (chv q v t)) (by omega) (by rw [u2_ne (by decide)]; exact hq)
      have e : up (am_u2 f 440 t (chv q v t)) 440 w = up f 440 w := by rw [u2_up, up_up]
      rw [e] at a1
      refine ⟨w, a1, fun i hi => ?_, fun i h1 h2 => ?_⟩
      · rw [a2 i (by omega), au_nk (by omega)]
      · by_cases ei : i = t
        · subst ei; rw [a2 i (by omega), au_same]
        · exact a3 i (by omega) h2
    rw [lp_X12_pack_123, if_pos (i8_lt t h8), rdA0 h8, X12_twoBits hv h8, cal_some, wrI_i8 h8, wrI_i8 h8, on_succ]
    simp only [hq]
    by_cases c : q t = 0
    · rw [if_pos c]
      exact step (-1) (by unfold chv; rw [if_pos c])
    · rw [if_neg c]
      exact step _ (by unfold chv dg; rw [if_neg c])
end QN
theorem c_lay {p1 : Int32} {g : (Nat → Nat → Int64) × (Nat → Nat → Option Nat)} : ∀ m n t (f : Nat → Nat → Int32), t + m = 8 → f 0 10 = Int32.ofNat t → ∃ f', lp_X11_pack_24 p1 (n + m + 1) (Int32.ofNat t) (f, g) = some (p1, (f', g)) ∧ (∀ a, a ≠ 0 → a ≠ 412 → f' a = f a) ∧ f' 0 10 = 8 ∧ (∀ i, i < t → f' 412 i = f 412 i) ∧ ∀ i, t ≤ i → i < 8 → f' 412 i = f 403 i := by
  intro m
  induction m with
  | zero =>
    intro n t f ht h0
    obtain rfl : t = 8 := by omega
    rw [lp_X11_pack_24, if_neg (by decide)]
    exact ⟨f, rfl, fun _ _ _ => rfl, h0, fun _ _ => rfl, fun i h1 h2 => by omega⟩
  | succ m ih =>
    intro n t f ht h0
    have h8 : t < 8 := by omega
    rw [lp_X11_pack_24, if_pos (i8_lt t h8), rdI_i8 h8, X11_layDown h8 h0, cal_some, on_succ]
    obtain ⟨f', a1, a2, a3, a4, a5⟩ := ih n (t + 1) (am_u2 (am_u2 f 412 t (f 403 t)) 0 10 (Int32.ofNat (t + 1))) (by omega) au_same
    refine ⟨f', a1, fun a h1 h2 => ?_, a3, fun i hi => ?_, fun i h1 h2 => ?_⟩
    · rw [a2 a h1 h2, u2_ne h1, u2_ne h2]
    · rw [a4 i (by omega), au_ne (by decide), au_nk (by omega)]
    · by_cases e : i = t
      · subst e; rw [a4 i (by omega), au_ne (by decide), au_same]
      · rw [a5 i (by omega) h2, au_ne (by decide), au_ne (by decide)]
theorem q_pack {f : Nat → Nat → Int32} {g : (Nat → Nat → Int64) × (Nat → Nat → Option Nat)} {b nr : Nat} {hold : Nat → Int32} (H : HO nr hold) (R : RC 27 (f 437) f) (W : WQ nr (f 437)) (P : PC (f, g) nr hold) (M : MP (f, g) b nr hold) : ∃ v f1 f2, f_X11_pack (f, g) = some (v, (f1, g)) ∧ f_X12_pack (f1, g) = some (v, (f2, g)) ∧ (∀ a, a ≠ 0 → a ≠ 402 → a ≠ 403 → a ≠ 412 → f1 a = f a) ∧ MR f1 f2 ∧ IL f2 := by
  have h4 := P.2.1
  obtain ⟨d, f', hb, hK, hc⟩ := c_packAll (g := g) H W (nr + 1) (3998 - nr) 0 f (by omega) R P (fun _ _ _ => Nat.zero_le _)
  rw [show 3998 - nr + (nr + 1) + 1 = 4000 by omega] at hc
  -- the model
  have model : ∀ f1 : Nat → Nat → Int32, f1 437 = f 437 → MP (f1, g) b nr hold → ∃ d' f2, isBest (f 437) hold nr d' ∧ MR f1 f2 ∧ ((d' = none ∧ f_X12_pack (f1, g) = some (-1, (f2, g)) ∧ f2 413 47 = 0) ∨ ∃ v, d' = some v ∧ f_X12_pack (f1, g) = some (Int32.ofNat (zC (pU (f 437) v)), (f2, g)) ∧ f2 413 47 = 8 ∧ ∀ i, i < 8 → f2 440 i = chv (f 437) v i) := by
    intro f1 q1 M1
    have K0 : MR f1 (am_u2 f1 413 47 0) := ⟨fun a h1 _ => u2_ne h1, fun k hk => au_nk hk⟩
    have q2 : am_u2 f1 413 47 0 437 = f 437 := by rw [u2_ne (by decide), q1]
    have M2 := MP_mr K0 M1
    unfold f_X12_pack
    rw [ptI_eq]
    have he := m_empty (f := am_u2 f1 413 47 0) (g := g) (p1 := -1) (p2 := 1000) (k := fun z5 h6 => lp_X12_pack_56 z5 (fun z17 z18 h19 => if z17 < 0 then some ((-1), h19) else lp_X12_pack_123 z17 z18 (fun h31 => ptI h31 413 47 8 fun h33 => some (z18, h33)) 70000 0 h19) 70000 (-1) 1000 0 h6) 8 69991 0 0 rfl
    have he' : lp_X12_pack_16 (-1) 1000 (fun z5 h6 => lp_X12_pack_56 z5 (fun z17 z18 h19 => if z17 < 0 then some ((-1), h19) else lp_X12_pack_123 z17 z18 (fun h31 => ptI h31 413 47 8 fun h33 => some (z18, h33)) 70000 0 h19) 70000 (-1) 1000 0 h6) 70000 0 0 (am_u2 f1 413 47 0, g) = _ := he
    obtain ⟨x', y', l1, l2⟩ := m_packLoop (f := am_u2 f1 413 47 0) (g := g) (k := fun z17 z18 h19 => if z17 < 0 then some ((-1), h19) else lp_X12_pack_123 z17 z18 (fun h31 => ptI h31 413 47 8 fun h33 => some (z18, h33)) 70000 0 h19) H (by rw [q2]; exact W) M2 65536 4463 0 (-1) 1000 rfl (Or.inl ⟨rfl, rfl, fun v h => by omega⟩)
    have l1' : lp_X12_pack_56 (Int32.ofNat (fo (emp (am_u2 f1 413 47 0 437)) 8 0 0)) (fun z17 z18 h19 => if z17 < 0 then some ((-1), h19) else lp_X12_pack_123 z17 z18 (fun h31 => ptI h31 413 47 8 fun h33 => some (z18, h33)) 70000 0 h19) 70000 (-1) 1000 0 (am_u2 f1 413 47 0, g) = _ := l1
    rw [he', l1']
    rw [q2] at l2
    rcases l2 with ⟨rfl, rfl, h3⟩ | ⟨v, v0, rfl, rfl, v3, v4, v5⟩
    · refine ⟨none, am_u2 f1 413 47 0, Or.inl ⟨rfl, h3⟩, K0, Or.inl ⟨rfl, ?_, au_same⟩⟩
      rw [if_pos (by decide)]
    · have ng : ¬ Int32.ofNat v < 0 := by
        rw [Int32.lt_iff_toInt_lt, on_toInt (by omega), ti_0]; omega
      obtain ⟨w, a1, a2, a3⟩ := m_lay (g := g) (p2 := Int32.ofNat (zC (pU (f 437) v))) v0 (f 437) (k := fun h31 => ptI h31 413 47 8 fun h33 => some (Int32.ofNat (zC (pU (f 437) v)), h33)) 8 69991 0 (am_u2 f1 413 47 0) rfl q2
      have a1' : lp_X12_pack_123 (Int32.ofNat v) (Int32.ofNat (zC (pU (f 437) v))) (fun h31 => ptI h31 413 47 8 fun h33 => some (Int32.ofNat (zC (pU (f 437) v)), h33)) 70000 0 (am_u2 f1 413 47 0, g) = _ := a1
      refine ⟨some v, am_u2 (up (am_u2 f1 413 47 0) 440 w) 413 47 8, Or.inr ⟨v, rfl, v0, v3, v4, v5⟩, K0.trans ⟨fun a h1 h2 => by rw [u2_ne h1, up_ne h2], fun k hk => by rw [au_nk hk, up_ne (by decide)]⟩, Or.inr ⟨v, rfl, ?_, au_same, fun i hi => ?_⟩⟩
      · rw [if_neg ng, a1', ptI_eq]
      · rw [au_ne (by decide), up_same]
        exact a3 i (Nat.zero_le _) hi
  unfold f_X11_pack f_X8_packAll
  rcases hc with ⟨rfl, hc⟩ | ⟨v, rfl, hc, hch⟩
  · have hc' : lp_X8_packAll_2 27 4000 0 (f, g) = _ := hc
    rw [hc', cal2_some, ptI_eq, if_pos rfl]
    have hF : ∀ a, a ≠ 0 → a ≠ 402 → a ≠ 403 → a ≠ 412 → am_u2 f' 0 10 0 a = f a := fun a h1 h2 h3 _ => by rw [u2_ne h1]; exact hK a h2 h3
    obtain ⟨d', f2, b1, b2, b3⟩ := model (am_u2 f' 0 10 0) (hF 437 (by decide) (by decide) (by decide) (by decide)) (by
      unfold MP at M ⊢
      simp only at M ⊢
      rw [hF 413 (by decide) (by decide) (by decide) (by decide), hF 416 (by decide) (by decide) (by decide) (by decide), hF 423 (by decide) (by decide) (by decide) (by decide)]
      exact M)
    have := best_one hb b1
    subst this
    rcases b3 with ⟨-, b3, b4⟩ | ⟨v, hv, -⟩
    · refine ⟨-1, am_u2 f' 0 10 0, f2, rfl, b3, hF, b2, 0, by decide, ?_, by rw [b4]; rfl, fun i hi => by omega⟩
      rw [b2.1 0 (by decide) (by decide), au_same]
      rfl
    · cases hv
  · have hc' : lp_X8_packAll_2 27 4000 0 (f, g) = _ := hc
    have z8 := zC_le8 (pU (f 437) v)
    have n1 : ¬ Int32.ofNat (zC (pU (f 437) v)) = -1 := by
      have h : ∀ n : Fin 9, ¬ Int32.ofNat n.val = -1 := by decide +kernel
      exact h ⟨zC (pU (f 437) v), by omega⟩
    rw [hc', cal2_some, ptI_eq, if_neg n1]
    obtain ⟨f1, a1, a2, a3, a4, a5⟩ := c_lay (g := g) (p1 := Int32.ofNat (zC (pU (f 437) v))) 8 3991 0 (am_u2 f' 0 10 0) rfl au_same
    have a1' : lp_X11_pack_24 (Int32.ofNat (zC (pU (f 437) v))) 4000 0 (am_u2 f' 0 10 0, g) = _ := a1
    have hF : ∀ a, a ≠ 0 → a ≠ 402 → a ≠ 403 → a ≠ 412 → f1 a = f a := fun a h1 h2 h3 h5 => by rw [a2 a h1 h5, u2_ne h1]; exact hK a h2 h3
    obtain ⟨d', f2, b1, b2, b3⟩ := model f1 (hF 437 (by decide) (by decide) (by decide) (by decide)) (by
      unfold MP at M ⊢
      simp only at M ⊢
      rw [hF 413 (by decide) (by decide) (by decide) (by decide), hF 416 (by decide) (by decide) (by decide) (by decide), hF 423 (by decide) (by decide) (by decide) (by decide)]
      exact M)
    have := best_one hb b1
    subst this
    rcases b3 with ⟨hv, -⟩ | ⟨w, hw, b3, b4, b5⟩
    · cases hv
    · cases hw
      refine ⟨Int32.ofNat (zC (pU (f 437) v)), f1, f2, a1', b3, hF, b2, 8, by decide, ?_, by rw [b4]; rfl, fun i hi => ?_⟩
      · rw [b2.1 0 (by decide) (by decide), a3]
        rfl
      · rw [b2.1 412 (by decide) (by decide), a5 i (Nat.zero_le _) hi, b5 i hi, u2_ne (by decide), hch i hi]
