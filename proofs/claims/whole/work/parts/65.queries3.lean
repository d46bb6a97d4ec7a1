/-! Ripe, quartet, sires -/
section QC
variable {f : Nat → Nat → Int32} {g : (Nat → Nat → Int64) × (Nat → Nat → Option Nat)} {b nr : Nat} {hold : Nat → Int32}
theorem c_ripe {E : EV} : ∀ m n r a (f : Nat → Nat → Int32) (q : Nat → Int32), r + m = nr → RC 27 q f → WQ nr q → PC (f, g) nr hold → EC f E → ∃ f', lp_X11_ripe_4 (n + m + 1) a (Int32.ofNat r) (f, g) = some (fo (fun r a => if zRp E hold q r = true then a ||| sB r else a) m r a, (f', g)) ∧ ∀ a, a ≠ 13 → f' a = f a := by
  intro m
  induction m with
  | zero =>
    intro n r a f q hr R W P e
    have hp := P.2.1
    rw [lp_X11_ripe_4, bnd_eq, P.1, if_neg (by rw [on_lt (by omega) (by omega)]; omega)]
    exact ⟨f, rfl, fun _ _ => rfl⟩
  | succ m ih =>
    intro n r a f q hr R W P e
    have hp := P.2.1
    have hr' : r < nr := by omega
    obtain ⟨f1, k1, k2⟩ := X10_isRipe R W P e hr'
    have R1 : RC 27 q f1 := RC_frame (fun a h1 h2 => k2 a (by omega)) R
    have P1 : PC (f1, g) nr hold := PC_frame (k2 4 (by decide)) (k2 5 (by decide)) P
    have e1 : EC f1 E := EC_frame (k2 10 (by decide)) (k2 11 (by decide)) (k2 12 (by decide)) e
    have ih' : ∀ a, ∃ f', lp_X11_ripe_4 (n + (m + 1)) a (Int32.ofNat (r + 1)) (f1, g) = some (fo (fun r a => if zRp E hold q r = true then a ||| sB r else a) m (r + 1) a, (f', g)) ∧ ∀ a, a ≠ 13 → f' a = f1 a := fun a => ih n (r + 1) a f1 q (by omega) R1 W P1 e1
    rw [lp_X11_ripe_4, bnd_eq, P.1, if_pos ((on_lt (by omega) (by omega)).mpr hr'), k1, cal2_some, on_succ, fo]
    by_cases h : zRp E hold q r = true
    · rw [if_pos h, if_neg (show ¬ (1 : Int32) = 0 by decide), if_pos h]
      obtain ⟨f', a1, a2⟩ := ih' (a ||| sB r)
      exact ⟨f', a1, fun x hx => (a2 x hx).trans (k2 x hx)⟩
    · rw [if_neg h, if_pos (show (0 : Int32) = 0 from rfl), if_neg h]
      obtain ⟨f', a1, a2⟩ := ih' a
      exact ⟨f', a1, fun x hx => (a2 x hx).trans (k2 x hx)⟩
theorem m_ripe {E : EV} : ∀ m n r a (f : Nat → Nat → Int32), r + m = nr → MP (f, g) b nr hold → WQ nr (f 437) → EM f b nr hold E → ∃ f', lp_X12_ripe_4 (n + m + 1) a (Int32.ofNat r) (f, g) = some (fo (fun r a => if zRp E hold (f 437) r = true then a ||| sB r else a) m r a, (f', g)) ∧ MN f f' := by
  intro m
  induction m with
  | zero =>
    intro n r a f hr M W e
    have hp := M.2.2.2.1
    rw [lp_X12_ripe_4, X12_chambers M, cal_some, if_neg (by rw [on_lt (by omega) (by omega)]; omega)]
    exact ⟨f, rfl, MN.refl⟩
  | succ m ih =>
    intro n r a f hr M W e
    have hp := M.2.2.2.1
    have hr' : r < nr := by omega
    obtain ⟨f1, k1, k2⟩ := X12_isRipe M W e hr'
    have q1 : f1 437 = f 437 := k2.1 437 (by decide) (by decide)
    have K1 := MK.mn k2
    have ih' : ∀ a, ∃ f', lp_X12_ripe_4 (n + (m + 1)) a (Int32.ofNat (r + 1)) (f1, g) = some (fo (fun r a => if zRp E hold (f 437) r = true then a ||| sB r else a) m (r + 1) a, (f', g)) ∧ MN f1 f' := fun a => by
      have := ih n (r + 1) a f1 (by omega) (MP_mk K1 M) (by rw [q1]; exact W) (EM_mk K1 e)
      rw [q1] at this
      exact this
    rw [lp_X12_ripe_4, X12_chambers M, cal_some, if_pos ((on_lt (by omega) (by omega)).mpr hr'), k1, cal2_some, on_succ, fo]
    by_cases h : zRp E hold (f 437) r = true
    · rw [if_pos h, if_neg (show ¬ (1 : Int32) = 0 by decide), if_pos h]
      obtain ⟨f', a1, a2⟩ := ih' (a ||| sB r)
      exact ⟨f', a1, k2.trans a2⟩
    · rw [if_neg h, if_pos (show (0 : Int32) = 0 from rfl), if_neg h]
      obtain ⟨f', a1, a2⟩ := ih' a
      exact ⟨f', a1, k2.trans a2⟩
theorem q_ripe {E : EV} (R : RC 27 (f 437) f) (W : WQ nr (f 437)) (P : PC (f, g) nr hold) (e : EC f E) (M : MP (f, g) b nr hold) (em : EM f b nr hold E) : ∃ v f1 f2, f_X11_ripe (f, g) = some (v, (f1, g)) ∧ f_X12_ripe (f1, g) = some (v, (f2, g)) ∧ (∀ a, a ≠ 13 → f1 a = f a) ∧ MN f1 f2 := by
  have h4 := P.2.1
  obtain ⟨f1, a1, a2⟩ := c_ripe (g := g) nr (3999 - nr) 0 0 f (f 437) (by omega) R W P e
  have q1 : f1 437 = f 437 := a2 437 (by decide)
  have M1 : MP (f1, g) b nr hold := by
    unfold MP at M ⊢
    simp only at M ⊢
    rw [a2 413 (by decide), a2 416 (by decide), a2 423 (by decide)]
    exact M
  have em1 : EM f1 b nr hold E := fun f'' g i j k1 k2 k3 k4 k5 => em f'' g i j (k1.trans (a2 422 (by decide))) (k2.trans (a2 428 (by decide))) (k3.trans (a2 429 (by decide))) (k4.trans (a2 432 (by decide))) (k5.trans (a2 433 (by decide)))
  obtain ⟨f2, b1, b2⟩ := m_ripe (g := g) nr (3999 - nr) 0 0 f1 (by omega) M1 (by rw [q1]; exact W) em1
  rw [show 3999 - nr + nr + 1 = 4000 by omega] at a1 b1
  rw [q1] at b1
  exact ⟨_, f1, f2, a1, b1, a2, b2⟩
theorem chg_eq {x y z w : Int32} {A B C : Option Int32} : (if ((((x &&& 1) + (y &&& 1)) + (z &&& 1)) + (w &&& 1)) = 2 then if (x &&& 1) = (y &&& 1) then A else B else if ((((x &&& 1) + (y &&& 1)) + (z &&& 1)) + (w &&& 1)) = 1 then A else if ((((x &&& 1) + (y &&& 1)) + (z &&& 1)) + (w &&& 1)) = 3 then A else C) = (if ((((x &&& 1) + (y &&& 1)) + (z &&& 1)) + (w &&& 1)) = 0 then C else if ((((x &&& 1) + (y &&& 1)) + (z &&& 1)) + (w &&& 1)) = 4 then C else if ((((x &&& 1) + (y &&& 1)) + (z &&& 1)) + (w &&& 1)) = 2 then if (x &&& 1) = (y &&& 1) then A else B else A) := by
  rcases and_one x with h1 | h1 <;> rcases and_one y with h2 | h2 <;> rcases and_one z with h3 | h3 <;> rcases and_one w with h4 | h4 <;> rw [h1, h2, h3, h4] <;> rfl
theorem cm_changes (R : RC 27 (f 437) f) {i j k l : Nat} (hi : i < 8) (hj : j < 8) (hk : k < 8) (hl : l < 8) : ∀ m n t a, t + m = 6 → AG (lp_X6_changes_27 27 (Int32.ofNat i) (Int32.ofNat j) (Int32.ofNat k) (Int32.ofNat l) (f, g) (n + m + 1) a (Int32.ofNat t)) (lp_X12_changesOf_6 (Int32.ofNat i) (Int32.ofNat j) (Int32.ofNat k) (Int32.ofNat l) (f, g) (n + m + 1) a (Int32.ofNat t)) := by
  have R' : RC 27 (f 437) (f, g).1 := R
  intro m
  induction m with
  | zero =>
    intro n t a ht
    obtain rfl : t = 6 := by omega
    rw [lp_X6_changes_27, lp_X12_changesOf_6, if_neg (by decide), if_neg (by decide)]
    exact AG.of rfl rfl
  | succ m ih =>
    intro n t a ht
    have h6 : t < 6 := by omega
    have hl6 : Int32.ofNat t < 6 := by
      rw [show (6 : Int32) = Int32.ofNat 6 from rfl, on_lt (by omega) (by omega)]
      exact h6
    have e : ∀ a, AG (lp_X6_changes_27 27 (Int32.ofNat i) (Int32.ofNat j) (Int32.ofNat k) (Int32.ofNat l) (f, g) (n + (m + 1)) a (Int32.ofNat (t + 1))) (lp_X12_changesOf_6 (Int32.ofNat i) (Int32.ofNat j) (Int32.ofNat k) (Int32.ofNat l) (f, g) (n + (m + 1)) a (Int32.ofNat (t + 1))) := fun a => ih n (t + 1) a (by omega)
    rw [lp_X6_changes_27, lp_X12_changesOf_6, if_pos hl6, if_pos hl6, rdS3 R' hi, rdS3 R' hj, rdS3 R' hk, rdS3 R' hl, rdA16 hi, rdA16 hj, rdA16 hk, rdA16 hl, on_succ, chg_eq, Int32.add_zero]
    exact AG.ite (e _) (AG.ite (e _) (AG.ite (AG.ite (e _) (e _)) (e _)))
def zChg (f : Nat → Nat → Int32) (g : (Nat → Nat → Int64) × (Nat → Nat → Option Nat)) (i j k l : Nat) : Int32 := (lp_X12_changesOf_6 (Int32.ofNat i) (Int32.ofNat j) (Int32.ofNat k) (Int32.ofNat l) (f, g) 4000 0 0).getD 0
theorem cm_changes2 (R : RC 27 (f 437) f) {i j k l : Nat} (hi : i < 8) (hj : j < 8) (hk : k < 8) (hl : l < 8) (i0 : 0 < f 437 i) (j0 : 0 < f 437 j) (k0 : 0 < f 437 k) (l0 : 0 < f 437 l) : f_X6_changes 27 (Int32.ofNat i) (Int32.ofNat j) (Int32.ofNat k) (Int32.ofNat l) (f, g) = some (zChg f g i j k l) ∧ f_X12_changesOf (Int32.ofNat i) (Int32.ofNat j) (Int32.ofNat k) (Int32.ofNat l) (f, g) = some (zChg f g i j k l) := by
  have R' : RC 27 (f 437) (f, g).1 := R
  obtain ⟨v, k1, k2⟩ := cm_changes (g := g) R hi hj hk hl 6 3993 0 0 rfl
  have k1' : lp_X6_changes_27 27 (Int32.ofNat i) (Int32.ofNat j) (Int32.ofNat k) (Int32.ofNat l) (f, g) 4000 0 0 = some v := k1
  have k2' : lp_X12_changesOf_6 (Int32.ofNat i) (Int32.ofNat j) (Int32.ofNat k) (Int32.ofNat l) (f, g) 4000 0 0 = some v := k2
  unfold f_X6_changes f_X12_changesOf zChg
  rw [X7_hasBoth R', cal_some, X7_hasBoth R', cal_some, hs_on hi, hs_on hj, hs_on hk, hs_on hl, k1', k2']
  rw [if_pos (show (decide (0 < f 437 i) && decide (0 < f 437 j)) = true by simp [i0, j0]), if_neg (show ¬ (1 : Int32) = 0 by decide), if_pos (show (decide (0 < f 437 k) && decide (0 < f 437 l)) = true by simp [k0, l0]), if_neg (show ¬ (1 : Int32) = 0 by decide)]
  exact ⟨rfl, rfl⟩
theorem two_lt {y : Int32} : (1 : Int32) < y ↔ ¬ (y < 2) := by
  rw [Int32.lt_iff_toInt_lt, Int32.lt_iff_toInt_lt]
  have e1 : (1 : Int32).toInt = 1 := rfl
  have e2 : (2 : Int32).toInt = 2 := rfl
  omega
/-- four places, all other -/
def four (i j k l : Nat) : Bool := !(decide (i = j) || decide (i = k) || decide (i = l) || decide (j = k) || decide (j = l) || decide (k = l))
theorem four_bits {i j k l : Nat} (hi : i < 8) (hj : j < 8) (hk : k < 8) (hl : l < 8) : ∃ n, f_X12_bitsOf (((((1 : Int32) <<< (Int32.ofNat i &&& 31)) ||| ((1 : Int32) <<< (Int32.ofNat j &&& 31))) ||| ((1 : Int32) <<< (Int32.ofNat k &&& 31))) ||| ((1 : Int32) <<< (Int32.ofNat l &&& 31))) (f, g) = some n ∧ (n < 4 ↔ four i j k l = false) := by
  have h : ∀ i j k l : Fin 8, ((((((1 : Int32) <<< (Int32.ofNat i.val &&& 31)) ||| ((1 : Int32) <<< (Int32.ofNat j.val &&& 31))) ||| ((1 : Int32) <<< (Int32.ofNat k.val &&& 31))) ||| ((1 : Int32) <<< (Int32.ofNat l.val &&& 31))) = Int32.ofNat (2 ^ i.val ||| 2 ^ j.val ||| 2 ^ k.val ||| 2 ^ l.val)) ∧ (2 ^ i.val ||| 2 ^ j.val ||| 2 ^ k.val ||| 2 ^ l.val) < 256 ∧ (bc (2 ^ i.val ||| 2 ^ j.val ||| 2 ^ k.val ||| 2 ^ l.val) < 4 ↔ four i.val j.val k.val l.val = false) := by decide +kernel
  obtain ⟨h1, h2, h3⟩ := h ⟨i, hi⟩ ⟨j, hj⟩ ⟨k, hk⟩ ⟨l, hl⟩
  refine ⟨Int32.ofNat (bc (2 ^ i ||| 2 ^ j ||| 2 ^ k ||| 2 ^ l)), ?_, ?_⟩
  · rw [h1]
    exact X12_bitsOf h2
  · have hb := bc_le (n := 2 ^ i ||| 2 ^ j ||| 2 ^ k ||| 2 ^ l)
    rw [show (4 : Int32) = Int32.ofNat 4 from rfl, on_lt (by omega) (by decide)]
    exact h3
end QC
