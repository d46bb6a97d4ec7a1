/-! Lifted methods, by program (wip/whole/lift.py, run1.py) -/
def lp_X12_sharesAll_4 (p1 : Int32) (h : am_H) : Nat → Int32 → Int32 → Option (Int32)
  | 0, _, _ => none
  | n + 1, x2, x3 => if x3 < 8 then if x3 = p1 then lp_X12_sharesAll_4 p1 h n (x2 + 0) (x3 + 1) else cal (f_X12_isThere x3 h) fun v2 => if v2 = 0 then lp_X12_sharesAll_4 p1 h n (x2 + 0) (x3 + 1) else cal (f_X12_alike p1 x3 h) fun v5 => lp_X12_sharesAll_4 p1 h n (x2 + v5) (x3 + 1) else some x2
def f_X12_sharesAll (x1 : Int32) (h : am_H) : Option (Int32) := lp_X12_sharesAll_4 x1 h  4000 0 0
theorem rl_X12_sharesAll_4 {X : am_X} {d : Nat} (hd : 3 ≤ d) (p1 : Int32) {h : am_H} (T : am_TP h.2.2) {r : Int32} : ∀ (n : Nat) (x2 : Int32) (x3 : Int32) , lp_X12_sharesAll_4 p1 h n x2 x3 = some r → am_G X d 12 false cX12_sharesAll (some .int) 4 [some (.ref 413), some (.int p1), some (.int x2), some (.int x3)] [] (am_SH, h) (some (.int r), (am_SH, h)) := by
  obtain ⟨d, rfl⟩ : ∃ e, d = e + 1 := ⟨d - 1, by omega⟩
  intro n
  induction n with
  | zero => intro x2 x3 hf; cases hf
  | succ n ih =>
    intro x2 x3 hf
    rw [lp_X12_sharesAll_4] at hf
    refine r_loc dX12_sharesAll_4 rfl ?_
    refine r_bipush (v := 8) dX12_sharesAll_5 rfl ?_
    refine r_ge (q := 42) dX12_sharesAll_7 rfl hf (fun hf => ?_) (fun hf => ?_)
    · refine r_loc dX12_sharesAll_42 rfl ?_
      cases hf
      exact r_ri T dX12_sharesAll_43
    · refine r_loc dX12_sharesAll_10 rfl ?_
      refine r_loc dX12_sharesAll_11 rfl ?_
      refine r_loc dX12_sharesAll_12 rfl ?_
      refine r_eq (q := 33) dX12_sharesAll_13 rfl hf (fun hf => ?_) (fun hf => ?_)
      · refine r_iconst (v := 0) dX12_sharesAll_33 rfl ?_
        refine r_alu dX12_sharesAll_34 rfl ?_
        refine r_loc (L' := [some (.ref 413), some (.int p1), some (.int (x2 + 0)), some (.int x3)]) dX12_sharesAll_35 rfl ?_
        refine r_loc (L' := [some (.ref 413), some (.int p1), some (.int (x2 + 0)), some (.int (x3 + 1))]) dX12_sharesAll_36 rfl ?_
        refine r_goto (q := 4) dX12_sharesAll_39 rfl ?_
        exact ih (x2 + 0) (x3 + 1) hf
      · refine r_loc dX12_sharesAll_16 rfl ?_
        refine r_loc dX12_sharesAll_17 rfl ?_
        obtain ⟨v2, c1, hf⟩ := cal_inv hf
        have g3 := rf_X12_isThere (X := X) (d := d) (by omega) x3 T c1
        refine r_virt (pre := [.int x3]) (rest := [.int x2]) dX12_sharesAll_18 ct_12_411 rfl (sh_413) (Nat.le_of_ble_eq_true rfl) (Nat.le_of_ble_eq_true rfl) g3 ?_
        refine r_eq0 (q := 33) dX12_sharesAll_21 rfl hf (fun hf => ?_) (fun hf => ?_)
        · refine r_iconst (v := 0) dX12_sharesAll_33 rfl ?_
          refine r_alu dX12_sharesAll_34 rfl ?_
          refine r_loc (L' := [some (.ref 413), some (.int p1), some (.int (x2 + 0)), some (.int x3)]) dX12_sharesAll_35 rfl ?_
          refine r_loc (L' := [some (.ref 413), some (.int p1), some (.int (x2 + 0)), some (.int (x3 + 1))]) dX12_sharesAll_36 rfl ?_
          refine r_goto (q := 4) dX12_sharesAll_39 rfl ?_
          exact ih (x2 + 0) (x3 + 1) hf
        · refine r_loc dX12_sharesAll_24 rfl ?_
          refine r_loc dX12_sharesAll_25 rfl ?_
          refine r_loc dX12_sharesAll_26 rfl ?_
          obtain ⟨v5, c4, hf⟩ := cal_inv hf
          have g6 := rf_X12_alike (X := X) (d := d) (by omega) p1 x3 T c4
          refine r_virt (pre := [.int x3, .int p1]) (rest := [.int x2]) dX12_sharesAll_27 ct_12_415 rfl (sh_413) (Nat.le_of_ble_eq_true rfl) (Nat.le_of_ble_eq_true rfl) g6 ?_
          refine r_goto (q := 34) dX12_sharesAll_30 rfl ?_
          refine r_alu dX12_sharesAll_34 rfl ?_
          refine r_loc (L' := [some (.ref 413), some (.int p1), some (.int (x2 + v5)), some (.int x3)]) dX12_sharesAll_35 rfl ?_
          refine r_loc (L' := [some (.ref 413), some (.int p1), some (.int (x2 + v5)), some (.int (x3 + 1))]) dX12_sharesAll_36 rfl ?_
          refine r_goto (q := 4) dX12_sharesAll_39 rfl ?_
          exact ih (x2 + v5) (x3 + 1) hf
theorem rf_X12_sharesAll {X : am_X} {d : Nat} (hd : 3 ≤ d) (x1 : Int32) {h : am_H} (T : am_TP h.2.2) {r : Int32} (hf : f_X12_sharesAll x1 h = some r) : am_G X d 12 false cX12_sharesAll (some .int) 0 [some (.ref 413), some (.int x1), none, none] [] (am_SH, h) (some (.int r), (am_SH, h)) := by
  unfold f_X12_sharesAll at hf
  obtain ⟨d, rfl⟩ : ∃ e, d = e + 1 := ⟨d - 1, by omega⟩
  refine r_iconst (v := 0) dX12_sharesAll_0 rfl ?_
  refine r_loc (L' := [some (.ref 413), some (.int x1), some (.int 0), none]) dX12_sharesAll_1 rfl ?_
  refine r_iconst (v := 0) dX12_sharesAll_2 rfl ?_
  refine r_loc (L' := [some (.ref 413), some (.int x1), some (.int 0), some (.int 0)]) dX12_sharesAll_3 rfl ?_
  refine rl_X12_sharesAll_4 (by omega) x1 T  4000 0 0  hf
def lp_X12_odd_4 (h : am_H) : Nat → Int32 → Int32 → Option (Int32)
  | 0, _, _ => none
  | n + 1, x1, x2 => if x2 < 8 then cal (f_X12_isThere x2 h) fun v2 => if v2 = 0 then lp_X12_odd_4 h n x1 (x2 + 1) else if x1 < 0 then lp_X12_odd_4 h n x2 (x2 + 1) else cal (f_X12_sharesAll x2 h) fun v5 => cal (f_X12_sharesAll x1 h) fun v8 => if v5 < v8 then lp_X12_odd_4 h n x2 (x2 + 1) else lp_X12_odd_4 h n x1 (x2 + 1) else some x1
def f_X12_odd  (h : am_H) : Option (Int32) := lp_X12_odd_4 h  4000 (-1) 0
theorem rl_X12_odd_4 {X : am_X} {d : Nat} (hd : 4 ≤ d) {h : am_H} (T : am_TP h.2.2) {r : Int32} : ∀ (n : Nat) (x1 : Int32) (x2 : Int32) , lp_X12_odd_4 h n x1 x2 = some r → am_G X d 12 false cX12_odd (some .int) 4 [some (.ref 413), some (.int x1), some (.int x2)] [] (am_SH, h) (some (.int r), (am_SH, h)) := by
  obtain ⟨d, rfl⟩ : ∃ e, d = e + 1 := ⟨d - 1, by omega⟩
  intro n
  induction n with
  | zero => intro x1 x2 hf; cases hf
  | succ n ih =>
    intro x1 x2 hf
    rw [lp_X12_odd_4] at hf
    refine r_loc dX12_odd_4 rfl ?_
    refine r_bipush (v := 8) dX12_odd_5 rfl ?_
    refine r_ge (q := 43) dX12_odd_7 rfl hf (fun hf => ?_) (fun hf => ?_)
    · refine r_loc dX12_odd_43 rfl ?_
      cases hf
      exact r_ri T dX12_odd_44
    · refine r_loc dX12_odd_10 rfl ?_
      refine r_loc dX12_odd_11 rfl ?_
      obtain ⟨v2, c1, hf⟩ := cal_inv hf
      have g3 := rf_X12_isThere (X := X) (d := d) (by omega) x2 T c1
      refine r_virt (pre := [.int x2]) (rest := []) dX12_odd_12 ct_12_411 rfl (sh_413) (Nat.le_of_ble_eq_true rfl) (Nat.le_of_ble_eq_true rfl) g3 ?_
      refine r_eq0 (q := 37) dX12_odd_15 rfl hf (fun hf => ?_) (fun hf => ?_)
      · refine r_loc (L' := [some (.ref 413), some (.int x1), some (.int (x2 + 1))]) dX12_odd_37 rfl ?_
        refine r_goto (q := 4) dX12_odd_40 rfl ?_
        exact ih x1 (x2 + 1) hf
      · refine r_loc dX12_odd_18 rfl ?_
        refine r_lt0 (q := 35) dX12_odd_19 rfl hf (fun hf => ?_) (fun hf => ?_)
        · refine r_loc dX12_odd_35 rfl ?_
          refine r_loc (L' := [some (.ref 413), some (.int x2), some (.int x2)]) dX12_odd_36 rfl ?_
          refine r_loc (L' := [some (.ref 413), some (.int x2), some (.int (x2 + 1))]) dX12_odd_37 rfl ?_
          refine r_goto (q := 4) dX12_odd_40 rfl ?_
          exact ih x2 (x2 + 1) hf
        · refine r_loc dX12_odd_22 rfl ?_
          refine r_loc dX12_odd_23 rfl ?_
          obtain ⟨v5, c4, hf⟩ := cal_inv hf
          have g6 := rf_X12_sharesAll (X := X) (d := d) (by omega) x2 T c4
          refine r_virt (pre := [.int x2]) (rest := []) dX12_odd_24 ct_12_418 rfl (sh_413) (Nat.le_of_ble_eq_true rfl) (Nat.le_of_ble_eq_true rfl) g6 ?_
          refine r_loc dX12_odd_27 rfl ?_
          refine r_loc dX12_odd_28 rfl ?_
          obtain ⟨v8, c7, hf⟩ := cal_inv hf
          have g9 := rf_X12_sharesAll (X := X) (d := d) (by omega) x1 T c7
          refine r_virt (pre := [.int x1]) (rest := [.int v5]) dX12_odd_29 ct_12_418 rfl (sh_413) (Nat.le_of_ble_eq_true rfl) (Nat.le_of_ble_eq_true rfl) g9 ?_
          refine r_ge (q := 37) dX12_odd_32 rfl hf (fun hf => ?_) (fun hf => ?_)
          · refine r_loc (L' := [some (.ref 413), some (.int x1), some (.int (x2 + 1))]) dX12_odd_37 rfl ?_
            refine r_goto (q := 4) dX12_odd_40 rfl ?_
            exact ih x1 (x2 + 1) hf
          · refine r_loc dX12_odd_35 rfl ?_
            refine r_loc (L' := [some (.ref 413), some (.int x2), some (.int x2)]) dX12_odd_36 rfl ?_
            refine r_loc (L' := [some (.ref 413), some (.int x2), some (.int (x2 + 1))]) dX12_odd_37 rfl ?_
            refine r_goto (q := 4) dX12_odd_40 rfl ?_
            exact ih x2 (x2 + 1) hf
theorem rf_X12_odd {X : am_X} {d : Nat} (hd : 4 ≤ d)  {h : am_H} (T : am_TP h.2.2) {r : Int32} (hf : f_X12_odd  h = some r) : am_G X d 12 false cX12_odd (some .int) 0 [some (.ref 413), none, none] [] (am_SH, h) (some (.int r), (am_SH, h)) := by
  unfold f_X12_odd at hf
  obtain ⟨d, rfl⟩ : ∃ e, d = e + 1 := ⟨d - 1, by omega⟩
  refine r_iconst (v := (-1)) dX12_odd_0 rfl ?_
  refine r_loc (L' := [some (.ref 413), some (.int (-1)), none]) dX12_odd_1 rfl ?_
  refine r_iconst (v := 0) dX12_odd_2 rfl ?_
  refine r_loc (L' := [some (.ref 413), some (.int (-1)), some (.int 0)]) dX12_odd_3 rfl ?_
  refine rl_X12_odd_4 (by omega) T  4000 (-1) 0  hf
def lp_X12_bearers_15 (p1 : Int32) (h : am_H) : Nat → Int32 → Int32 → Option (Int32)
  | 0, _, _ => none
  | n + 1, x2, x3 => if x3 < 8 then cal (f_X12_isThere x3 h) fun v5 => if v5 = 0 then lp_X12_bearers_15 p1 h n (x2 + 0) (x3 + 1) else rdI h 437 59 ((16 : Int32) + x3) fun v7 => lp_X12_bearers_15 p1 h n (x2 + ((v7 >>> (p1 &&& 31)) &&& 1)) (x3 + 1) else some x2
def f_X12_bearers (x1 : Int32) (h : am_H) : Option (Int32) := cal (f_X12_isIn x1 0 5 h) fun v2 => if v2 = 0 then some (-1) else lp_X12_bearers_15 x1 h  4000 0 0
theorem rl_X12_bearers_15 {X : am_X} {d : Nat} (hd : 2 ≤ d) (p1 : Int32) {h : am_H} (T : am_TP h.2.2) {r : Int32} : ∀ (n : Nat) (x2 : Int32) (x3 : Int32) , lp_X12_bearers_15 p1 h n x2 x3 = some r → am_G X d 12 false cX12_bearers (some .int) 15 [some (.ref 413), some (.int p1), some (.int x2), some (.int x3)] [] (am_SH, h) (some (.int r), (am_SH, h)) := by
  obtain ⟨d, rfl⟩ : ∃ e, d = e + 1 := ⟨d - 1, by omega⟩
  intro n
  induction n with
  | zero => intro x2 x3 hf; cases hf
  | succ n ih =>
    intro x2 x3 hf
    rw [lp_X12_bearers_15] at hf
    refine r_loc dX12_bearers_15 rfl ?_
    refine r_bipush (v := 8) dX12_bearers_16 rfl ?_
    refine r_ge (q := 55) dX12_bearers_18 rfl hf (fun hf => ?_) (fun hf => ?_)
    · refine r_loc dX12_bearers_55 rfl ?_
      cases hf
      exact r_ri T dX12_bearers_56
    · refine r_loc dX12_bearers_21 rfl ?_
      refine r_loc dX12_bearers_22 rfl ?_
      refine r_loc dX12_bearers_23 rfl ?_
      obtain ⟨v5, c4, hf⟩ := cal_inv hf
      have g6 := rf_X12_isThere (X := X) (d := d) (by omega) x3 T c4
      refine r_virt (pre := [.int x3]) (rest := [.int x2]) dX12_bearers_24 ct_12_411 rfl (sh_413) (Nat.le_of_ble_eq_true rfl) (Nat.le_of_ble_eq_true rfl) g6 ?_
      refine r_eq0 (q := 46) dX12_bearers_27 rfl hf (fun hf => ?_) (fun hf => ?_)
      · refine r_iconst (v := 0) dX12_bearers_46 rfl ?_
        refine r_alu dX12_bearers_47 rfl ?_
        refine r_loc (L' := [some (.ref 413), some (.int p1), some (.int (x2 + 0)), some (.int x3)]) dX12_bearers_48 rfl ?_
        refine r_loc (L' := [some (.ref 413), some (.int p1), some (.int (x2 + 0)), some (.int (x3 + 1))]) dX12_bearers_49 rfl ?_
        refine r_goto (q := 15) dX12_bearers_52 rfl ?_
        exact ih (x2 + 0) (x3 + 1) hf
      · refine r_loc dX12_bearers_30 rfl ?_
        refine r_getR dX12_bearers_31 fl_12_85 sh_413 (Or.inr ⟨_, rfl⟩) (tp_413_40 T) ?_
        refine r_bipush (v := 16) dX12_bearers_34 rfl ?_
        refine r_loc dX12_bearers_36 rfl ?_
        refine r_alu dX12_bearers_37 rfl ?_
        refine r_iald dX12_bearers_38 sh_437 hf (fun v7 hf => ?_)
        refine r_loc dX12_bearers_39 rfl ?_
        refine r_alu dX12_bearers_40 rfl ?_
        refine r_iconst (v := 1) dX12_bearers_41 rfl ?_
        refine r_alu dX12_bearers_42 rfl ?_
        refine r_goto (q := 47) dX12_bearers_43 rfl ?_
        refine r_alu dX12_bearers_47 rfl ?_
        refine r_loc (L' := [some (.ref 413), some (.int p1), some (.int (x2 + ((v7 >>> (p1 &&& 31)) &&& 1))), some (.int x3)]) dX12_bearers_48 rfl ?_
        refine r_loc (L' := [some (.ref 413), some (.int p1), some (.int (x2 + ((v7 >>> (p1 &&& 31)) &&& 1))), some (.int (x3 + 1))]) dX12_bearers_49 rfl ?_
        refine r_goto (q := 15) dX12_bearers_52 rfl ?_
        exact ih (x2 + ((v7 >>> (p1 &&& 31)) &&& 1)) (x3 + 1) hf
theorem rf_X12_bearers {X : am_X} {d : Nat} (hd : 2 ≤ d) (x1 : Int32) {h : am_H} (T : am_TP h.2.2) {r : Int32} (hf : f_X12_bearers x1 h = some r) : am_G X d 12 false cX12_bearers (some .int) 0 [some (.ref 413), some (.int x1), none, none] [] (am_SH, h) (some (.int r), (am_SH, h)) := by
  unfold f_X12_bearers at hf
  obtain ⟨d, rfl⟩ : ∃ e, d = e + 1 := ⟨d - 1, by omega⟩
  refine r_loc dX12_bearers_0 rfl ?_
  refine r_iconst (v := 0) dX12_bearers_1 rfl ?_
  refine r_iconst (v := 5) dX12_bearers_2 rfl ?_
  obtain ⟨v2, c1, hf⟩ := cal_inv hf
  have g3 := rf_X12_isIn (X := X) (d := d) (by omega) x1 0 5 T c1
  refine r_stat (pre := [.int 5, .int 0, .int x1]) (rest := []) dX12_bearers_3 ct_12_346 rfl (Nat.le_of_ble_eq_true rfl) (Nat.le_of_ble_eq_true rfl) g3 ?_
  refine r_ne0 (q := 11) dX12_bearers_6 rfl hf (fun hf => ?_) (fun hf => ?_)
  · refine r_iconst (v := 0) dX12_bearers_11 rfl ?_
    refine r_loc (L' := [some (.ref 413), some (.int x1), some (.int 0), none]) dX12_bearers_12 rfl ?_
    refine r_iconst (v := 0) dX12_bearers_13 rfl ?_
    refine r_loc (L' := [some (.ref 413), some (.int x1), some (.int 0), some (.int 0)]) dX12_bearers_14 rfl ?_
    refine rl_X12_bearers_15 (by omega) x1 T  4000 0 0  hf
  · refine r_iconst (v := (-1)) dX12_bearers_9 rfl ?_
    cases hf
    exact r_ri T dX12_bearers_10
def lp_X12_roomiest_4 (h : am_H) : Nat → Int32 → Int32 → Option (Int32)
  | 0, _, _ => none
  | n + 1, x1, x2 => cal (f_X12_chambers h) fun v2 => if x2 < v2 then if x1 < 0 then lp_X12_roomiest_4 h n x2 (x2 + 1) else cal (f_X12_leftIn x2 h) fun v5 => cal (f_X12_leftIn x1 h) fun v8 => if v8 < v5 then lp_X12_roomiest_4 h n x2 (x2 + 1) else lp_X12_roomiest_4 h n x1 (x2 + 1) else some x1
def f_X12_roomiest  (h : am_H) : Option (Int32) := lp_X12_roomiest_4 h  4000 (-1) 0
theorem rl_X12_roomiest_4 {X : am_X} {d : Nat} (hd : 3 ≤ d) {h : am_H} (T : am_TP h.2.2) {r : Int32} : ∀ (n : Nat) (x1 : Int32) (x2 : Int32) , lp_X12_roomiest_4 h n x1 x2 = some r → am_G X d 12 false cX12_roomiest (some .int) 4 [some (.ref 413), some (.int x1), some (.int x2)] [] (am_SH, h) (some (.int r), (am_SH, h)) := by
  obtain ⟨d, rfl⟩ : ∃ e, d = e + 1 := ⟨d - 1, by omega⟩
  intro n
  induction n with
  | zero => intro x1 x2 hf; cases hf
  | succ n ih =>
    intro x1 x2 hf
    rw [lp_X12_roomiest_4] at hf
    refine r_loc dX12_roomiest_4 rfl ?_
    refine r_loc dX12_roomiest_5 rfl ?_
    obtain ⟨v2, c1, hf⟩ := cal_inv hf
    have g3 := rf_X12_chambers (X := X) (d := d) (by omega) T c1
    refine r_virt (pre := []) (rest := [.int x2]) dX12_roomiest_6 ct_12_343 rfl (sh_413) (Nat.le_of_ble_eq_true rfl) (Nat.le_of_ble_eq_true rfl) g3 ?_
    refine r_ge (q := 37) dX12_roomiest_9 rfl hf (fun hf => ?_) (fun hf => ?_)
    · refine r_loc dX12_roomiest_37 rfl ?_
      cases hf
      exact r_ri T dX12_roomiest_38
    · refine r_loc dX12_roomiest_12 rfl ?_
      refine r_lt0 (q := 29) dX12_roomiest_13 rfl hf (fun hf => ?_) (fun hf => ?_)
      · refine r_loc dX12_roomiest_29 rfl ?_
        refine r_loc (L' := [some (.ref 413), some (.int x2), some (.int x2)]) dX12_roomiest_30 rfl ?_
        refine r_loc (L' := [some (.ref 413), some (.int x2), some (.int (x2 + 1))]) dX12_roomiest_31 rfl ?_
        refine r_goto (q := 4) dX12_roomiest_34 rfl ?_
        exact ih x2 (x2 + 1) hf
      · refine r_loc dX12_roomiest_16 rfl ?_
        refine r_loc dX12_roomiest_17 rfl ?_
        obtain ⟨v5, c4, hf⟩ := cal_inv hf
        have g6 := rf_X12_leftIn (X := X) (d := d) (by omega) x2 T c4
        refine r_virt (pre := [.int x2]) (rest := []) dX12_roomiest_18 ct_12_328 rfl (sh_413) (Nat.le_of_ble_eq_true rfl) (Nat.le_of_ble_eq_true rfl) g6 ?_
        refine r_loc dX12_roomiest_21 rfl ?_
        refine r_loc dX12_roomiest_22 rfl ?_
        obtain ⟨v8, c7, hf⟩ := cal_inv hf
        have g9 := rf_X12_leftIn (X := X) (d := d) (by omega) x1 T c7
        refine r_virt (pre := [.int x1]) (rest := [.int v5]) dX12_roomiest_23 ct_12_328 rfl (sh_413) (Nat.le_of_ble_eq_true rfl) (Nat.le_of_ble_eq_true rfl) g9 ?_
        refine r_le (q := 31) dX12_roomiest_26 rfl hf (fun hf => ?_) (fun hf => ?_)
        · refine r_loc (L' := [some (.ref 413), some (.int x1), some (.int (x2 + 1))]) dX12_roomiest_31 rfl ?_
          refine r_goto (q := 4) dX12_roomiest_34 rfl ?_
          exact ih x1 (x2 + 1) hf
        · refine r_loc dX12_roomiest_29 rfl ?_
          refine r_loc (L' := [some (.ref 413), some (.int x2), some (.int x2)]) dX12_roomiest_30 rfl ?_
          refine r_loc (L' := [some (.ref 413), some (.int x2), some (.int (x2 + 1))]) dX12_roomiest_31 rfl ?_
          refine r_goto (q := 4) dX12_roomiest_34 rfl ?_
          exact ih x2 (x2 + 1) hf
theorem rf_X12_roomiest {X : am_X} {d : Nat} (hd : 3 ≤ d)  {h : am_H} (T : am_TP h.2.2) {r : Int32} (hf : f_X12_roomiest  h = some r) : am_G X d 12 false cX12_roomiest (some .int) 0 [some (.ref 413), none, none] [] (am_SH, h) (some (.int r), (am_SH, h)) := by
  unfold f_X12_roomiest at hf
  obtain ⟨d, rfl⟩ : ∃ e, d = e + 1 := ⟨d - 1, by omega⟩
  refine r_iconst (v := (-1)) dX12_roomiest_0 rfl ?_
  refine r_loc (L' := [some (.ref 413), some (.int (-1)), none]) dX12_roomiest_1 rfl ?_
  refine r_iconst (v := 0) dX12_roomiest_2 rfl ?_
  refine r_loc (L' := [some (.ref 413), some (.int (-1)), some (.int 0)]) dX12_roomiest_3 rfl ?_
  refine rl_X12_roomiest_4 (by omega) T  4000 (-1) 0  hf
def lp_X12_keepAct_51 (k_83 : am_H → Option (am_H)) : Nat → Int32 → am_H → Option (am_H)
  | 0, _, _ => none
  | n + 1, x1, h => if x1 < 59 then bnd (h.1 413 44) fun v2 => rdI h 437 59 x1 fun v3 => wrI h 439 2419 (((59 : Int32) * v2) + x1) v3 fun h4 => lp_X12_keepAct_51 k_83 n (x1 + 1) h4 else k_83  h
def lp_X12_keepAct_11 (k_39 : am_H → Option (am_H)) : Nat → Int32 → am_H → Option (am_H)
  | 0, _, _ => none
  | n + 1, x1, h => if x1 < 2360 then rdI h 439 2419 (x1 + 59) fun v16 => wrI h 439 2419 x1 v16 fun h17 => lp_X12_keepAct_11 k_39 n (x1 + 1) h17 else k_39  h
def f_X12_keepAct  (h : am_H) : Option (am_H) := bnd (h.1 413 44) fun v1 => if v1 = 40 then lp_X12_keepAct_11 (fun h20 => bnd (h20.1 413 44) fun v22 => ptI h20 413 44 (v22 - 1) fun h23 => lp_X12_keepAct_51 (fun h26 => bnd (h26.1 413 44) fun v28 => ptI h26 413 44 (v28 + 1) fun h29 => ptI h29 413 45 0 fun h32 => some h32) 4000 0 h23) 4000 0 h else lp_X12_keepAct_51 (fun h7 => bnd (h7.1 413 44) fun v9 => ptI h7 413 44 (v9 + 1) fun h10 => ptI h10 413 45 0 fun h13 => some h13) 4000 0 h
theorem rl_X12_keepAct_51 {X : am_X} {d : Nat} (hd : 0 ≤ d) (k_83 : am_H → Option (am_H)) {r : am_H} (hk_83 : ∀ (h : am_H), am_TP h.2.2 → k_83  h = some r → am_G X d 12 false cX12_keepAct none 83 [some (.ref 413), none] [] (am_SH, h) (none, (am_SH, r))) : ∀ (n : Nat) (x1 : Int32) (h : am_H), am_TP h.2.2 → lp_X12_keepAct_51 k_83 n x1 h = some r → am_G X d 12 false cX12_keepAct none 51 [some (.ref 413), some (.int x1)] [] (am_SH, h) (none, (am_SH, r)) := by
  intro n
  induction n with
  | zero => intro x1 h T hf; cases hf
  | succ n ih =>
    intro x1 h T hf
    rw [lp_X12_keepAct_51] at hf
    refine r_loc dX12_keepAct_51 rfl ?_
    refine r_bipush (v := 59) dX12_keepAct_52 rfl ?_
    refine r_ge (q := 83) dX12_keepAct_54 rfl hf (fun hf => ?_) (fun hf => ?_)
    · refine r_weak (L := [some (.ref 413), none]) (am_le_s (am_le_n am_le_0)) ?_
      exact hk_83  h T hf
    · refine r_loc dX12_keepAct_57 rfl ?_
      refine r_getR dX12_keepAct_58 fl_12_94 sh_413 (Or.inr ⟨_, rfl⟩) (tp_413_43 T) ?_
      refine r_bipush (v := 59) dX12_keepAct_61 rfl ?_
      refine r_loc dX12_keepAct_63 rfl ?_
      refine r_getI dX12_keepAct_64 fl_12_363 sh_413 rfl hf (fun v2 hf => ?_)
      refine r_alu dX12_keepAct_67 rfl ?_
      refine r_loc dX12_keepAct_68 rfl ?_
      refine r_alu dX12_keepAct_69 rfl ?_
      refine r_loc dX12_keepAct_70 rfl ?_
      refine r_getR dX12_keepAct_71 fl_12_85 sh_413 (Or.inr ⟨_, rfl⟩) (tp_413_40 T) ?_
      refine r_loc dX12_keepAct_74 rfl ?_
      refine r_iald dX12_keepAct_75 sh_437 hf (fun v3 hf => ?_)
      refine r_iast dX12_keepAct_76 sh_439 hf (fun h4 e6 hf => ?_)
      have T5 := tp_eq e6 T
      refine r_loc (L' := [some (.ref 413), some (.int (x1 + 1))]) dX12_keepAct_77 rfl ?_
      refine r_goto (q := 51) dX12_keepAct_80 rfl ?_
      exact ih (x1 + 1) h4 T5 hf
theorem rl_X12_keepAct_11 {X : am_X} {d : Nat} (hd : 0 ≤ d) (k_39 : am_H → Option (am_H)) {r : am_H} (hk_39 : ∀ (h : am_H), am_TP h.2.2 → k_39  h = some r → am_G X d 12 false cX12_keepAct none 39 [some (.ref 413), none] [] (am_SH, h) (none, (am_SH, r))) : ∀ (n : Nat) (x1 : Int32) (h : am_H), am_TP h.2.2 → lp_X12_keepAct_11 k_39 n x1 h = some r → am_G X d 12 false cX12_keepAct none 11 [some (.ref 413), some (.int x1)] [] (am_SH, h) (none, (am_SH, r)) := by
  intro n
  induction n with
  | zero => intro x1 h T hf; cases hf
  | succ n ih =>
    intro x1 h T hf
    rw [lp_X12_keepAct_11] at hf
    refine r_loc dX12_keepAct_11 rfl ?_
    refine r_sipush (v := 2360) dX12_keepAct_12 rfl ?_
    refine r_ge (q := 39) dX12_keepAct_15 rfl hf (fun hf => ?_) (fun hf => ?_)
    · refine r_weak (L := [some (.ref 413), none]) (am_le_s (am_le_n am_le_0)) ?_
      exact hk_39  h T hf
    · refine r_loc dX12_keepAct_18 rfl ?_
      refine r_getR dX12_keepAct_19 fl_12_94 sh_413 (Or.inr ⟨_, rfl⟩) (tp_413_43 T) ?_
      refine r_loc dX12_keepAct_22 rfl ?_
      refine r_loc dX12_keepAct_23 rfl ?_
      refine r_getR dX12_keepAct_24 fl_12_94 sh_413 (Or.inr ⟨_, rfl⟩) (tp_413_43 T) ?_
      refine r_loc dX12_keepAct_27 rfl ?_
      refine r_bipush (v := 59) dX12_keepAct_28 rfl ?_
      refine r_alu dX12_keepAct_30 rfl ?_
      refine r_iald dX12_keepAct_31 sh_439 hf (fun v16 hf => ?_)
      refine r_iast dX12_keepAct_32 sh_439 hf (fun h17 e19 hf => ?_)
      have T18 := tp_eq e19 T
      refine r_loc (L' := [some (.ref 413), some (.int (x1 + 1))]) dX12_keepAct_33 rfl ?_
      refine r_goto (q := 11) dX12_keepAct_36 rfl ?_
      exact ih (x1 + 1) h17 T18 hf
theorem rf_X12_keepAct {X : am_X} {d : Nat} (hd : 0 ≤ d)  {h : am_H} (T : am_TP h.2.2) {r : am_H} (hf : f_X12_keepAct  h = some r) : am_G X d 12 false cX12_keepAct none 0 [some (.ref 413), none] [] (am_SH, h) (none, (am_SH, r)) := by
  unfold f_X12_keepAct at hf
  refine r_loc dX12_keepAct_0 rfl ?_
  refine r_getI dX12_keepAct_1 fl_12_363 sh_413 rfl hf (fun v1 hf => ?_)
  refine r_bipush (v := 40) dX12_keepAct_4 rfl ?_
  refine r_ne (q := 49) dX12_keepAct_6 rfl hf (fun hf => ?_) (fun hf => ?_)
  · refine r_iconst (v := 0) dX12_keepAct_49 rfl ?_
    refine r_loc (L' := [some (.ref 413), some (.int 0)]) dX12_keepAct_50 rfl ?_
    refine rl_X12_keepAct_51 (by omega) _ ?_ 4000 0 h T hf
    · intro h7 T8 hf
      refine r_loc dX12_keepAct_83 rfl ?_
      refine r_alu dX12_keepAct_84 rfl ?_
      refine r_getI dX12_keepAct_85 fl_12_363 sh_413 rfl hf (fun v9 hf => ?_)
      refine r_iconst (v := 1) dX12_keepAct_88 rfl ?_
      refine r_alu dX12_keepAct_89 rfl ?_
      refine r_putI dX12_keepAct_90 fl_12_363 sh_413 ⟨rfl, rfl⟩ hf (fun h10 e12 hf => ?_)
      have T11 := tp_eq e12 T8
      refine r_loc dX12_keepAct_93 rfl ?_
      refine r_iconst (v := 0) dX12_keepAct_94 rfl ?_
      refine r_putI dX12_keepAct_95 fl_12_366 sh_413 ⟨rfl, rfl⟩ hf (fun h13 e15 hf => ?_)
      have T14 := tp_eq e15 T11
      cases hf
      exact r_ret T14 dX12_keepAct_98 rfl
  · refine r_iconst (v := 0) dX12_keepAct_9 rfl ?_
    refine r_loc (L' := [some (.ref 413), some (.int 0)]) dX12_keepAct_10 rfl ?_
    refine rl_X12_keepAct_11 (by omega) _ ?_ 4000 0 h T hf
    · intro h20 T21 hf
      refine r_loc dX12_keepAct_39 rfl ?_
      refine r_alu dX12_keepAct_40 rfl ?_
      refine r_getI dX12_keepAct_41 fl_12_363 sh_413 rfl hf (fun v22 hf => ?_)
      refine r_iconst (v := 1) dX12_keepAct_44 rfl ?_
      refine r_alu dX12_keepAct_45 rfl ?_
      refine r_putI dX12_keepAct_46 fl_12_363 sh_413 ⟨rfl, rfl⟩ hf (fun h23 e25 hf => ?_)
      have T24 := tp_eq e25 T21
      refine r_iconst (v := 0) dX12_keepAct_49 rfl ?_
      refine r_loc (L' := [some (.ref 413), some (.int 0)]) dX12_keepAct_50 rfl ?_
      refine rl_X12_keepAct_51 (by omega) _ ?_ 4000 0 h23 T24 hf
      · intro h26 T27 hf
        refine r_loc dX12_keepAct_83 rfl ?_
        refine r_alu dX12_keepAct_84 rfl ?_
        refine r_getI dX12_keepAct_85 fl_12_363 sh_413 rfl hf (fun v28 hf => ?_)
        refine r_iconst (v := 1) dX12_keepAct_88 rfl ?_
        refine r_alu dX12_keepAct_89 rfl ?_
        refine r_putI dX12_keepAct_90 fl_12_363 sh_413 ⟨rfl, rfl⟩ hf (fun h29 e31 hf => ?_)
        have T30 := tp_eq e31 T27
        refine r_loc dX12_keepAct_93 rfl ?_
        refine r_iconst (v := 0) dX12_keepAct_94 rfl ?_
        refine r_putI dX12_keepAct_95 fl_12_366 sh_413 ⟨rfl, rfl⟩ hf (fun h32 e34 hf => ?_)
        have T33 := tp_eq e34 T30
        cases hf
        exact r_ret T33 dX12_keepAct_98 rfl
def jn_X12_loseOne_36 (k_7 : Int32 → am_H → Option (am_H)) (x1 : Int32) (x2 : Int32) (h : am_H) : Option (am_H) := rdI h 437 59 ((48 : Int32) + x2) fun v6 => if v6 = x1 then wrI h 437 59 ((48 : Int32) + x2) (-1) fun h7 => k_7 (x2 + 1) h7 else k_7 (x2 + 1) h
def lp_X12_loseOne_7 (p1 : Int32) : Nat → Int32 → am_H → Option (am_H)
  | 0, _, _ => none
  | n + 1, x2, h => if x2 < 8 then rdI h 437 59 ((40 : Int32) + x2) fun v5 => if v5 = p1 then wrI h 437 59 ((40 : Int32) + x2) (-1) fun h10 => jn_X12_loseOne_36 (lp_X12_loseOne_7 p1 n) p1 x2 h10 else jn_X12_loseOne_36 (lp_X12_loseOne_7 p1 n) p1 x2 h else some h
def f_X12_loseOne (x1 : Int32) (h : am_H) : Option (am_H) := cal (f_X12_clearPlace x1 h) fun h2 => lp_X12_loseOne_7 x1  4000 0 h2
theorem rj_X12_loseOne_36 {X : am_X} {d : Nat} (hd : 1 ≤ d) (k_7 : Int32 → am_H → Option (am_H)) (x1 : Int32) (x2 : Int32) {h : am_H} (T : am_TP h.2.2) {r : am_H} (hk_7 : ∀ (x2 : Int32) (h : am_H), am_TP h.2.2 → k_7 x2 h = some r → am_G X d 12 false cX12_loseOne none 7 [some (.ref 413), some (.int x1), some (.int x2)] [] (am_SH, h) (none, (am_SH, r))) (hf : jn_X12_loseOne_36 k_7 x1 x2 h = some r) : am_G X d 12 false cX12_loseOne none 36 [some (.ref 413), some (.int x1), some (.int x2)] [] (am_SH, h) (none, (am_SH, r)) := by
  obtain ⟨d, rfl⟩ : ∃ e, d = e + 1 := ⟨d - 1, by omega⟩
  unfold jn_X12_loseOne_36 at hf
  refine r_loc dX12_loseOne_36 rfl ?_
  refine r_getR dX12_loseOne_37 fl_12_85 sh_413 (Or.inr ⟨_, rfl⟩) (tp_413_40 T) ?_
  refine r_bipush (v := 48) dX12_loseOne_40 rfl ?_
  refine r_loc dX12_loseOne_42 rfl ?_
  refine r_alu dX12_loseOne_43 rfl ?_
  refine r_iald dX12_loseOne_44 sh_437 hf (fun v6 hf => ?_)
  refine r_loc dX12_loseOne_45 rfl ?_
  refine r_ne (q := 59) dX12_loseOne_46 rfl hf (fun hf => ?_) (fun hf => ?_)
  · refine r_loc (L' := [some (.ref 413), some (.int x1), some (.int (x2 + 1))]) dX12_loseOne_59 rfl ?_
    refine r_goto (q := 7) dX12_loseOne_62 rfl ?_
    exact hk_7 (x2 + 1) h T hf
  · refine r_loc dX12_loseOne_49 rfl ?_
    refine r_getR dX12_loseOne_50 fl_12_85 sh_413 (Or.inr ⟨_, rfl⟩) (tp_413_40 T) ?_
    refine r_bipush (v := 48) dX12_loseOne_53 rfl ?_
    refine r_loc dX12_loseOne_55 rfl ?_
    refine r_alu dX12_loseOne_56 rfl ?_
    refine r_iconst (v := (-1)) dX12_loseOne_57 rfl ?_
    refine r_iast dX12_loseOne_58 sh_437 hf (fun h7 e9 hf => ?_)
    have T8 := tp_eq e9 T
    refine r_loc (L' := [some (.ref 413), some (.int x1), some (.int (x2 + 1))]) dX12_loseOne_59 rfl ?_
    refine r_goto (q := 7) dX12_loseOne_62 rfl ?_
    exact hk_7 (x2 + 1) h7 T8 hf
theorem rl_X12_loseOne_7 {X : am_X} {d : Nat} (hd : 1 ≤ d) (p1 : Int32) {r : am_H} : ∀ (n : Nat) (x2 : Int32) (h : am_H), am_TP h.2.2 → lp_X12_loseOne_7 p1 n x2 h = some r → am_G X d 12 false cX12_loseOne none 7 [some (.ref 413), some (.int p1), some (.int x2)] [] (am_SH, h) (none, (am_SH, r)) := by
  obtain ⟨d, rfl⟩ : ∃ e, d = e + 1 := ⟨d - 1, by omega⟩
  intro n
  induction n with
  | zero => intro x2 h T hf; cases hf
  | succ n ih =>
    intro x2 h T hf
    rw [lp_X12_loseOne_7] at hf
    refine r_loc dX12_loseOne_7 rfl ?_
    refine r_bipush (v := 8) dX12_loseOne_8 rfl ?_
    refine r_ge (q := 65) dX12_loseOne_10 rfl hf (fun hf => ?_) (fun hf => ?_)
    · cases hf
      exact r_ret T dX12_loseOne_65 rfl
    · refine r_loc dX12_loseOne_13 rfl ?_
      refine r_getR dX12_loseOne_14 fl_12_85 sh_413 (Or.inr ⟨_, rfl⟩) (tp_413_40 T) ?_
      refine r_bipush (v := 40) dX12_loseOne_17 rfl ?_
      refine r_loc dX12_loseOne_19 rfl ?_
      refine r_alu dX12_loseOne_20 rfl ?_
      refine r_iald dX12_loseOne_21 sh_437 hf (fun v5 hf => ?_)
      refine r_loc dX12_loseOne_22 rfl ?_
      refine r_ne (q := 36) dX12_loseOne_23 rfl hf (fun hf => ?_) (fun hf => ?_)
      · exact rj_X12_loseOne_36 (by omega) (lp_X12_loseOne_7 p1 n) p1 x2 T (ih) hf
      · refine r_loc dX12_loseOne_26 rfl ?_
        refine r_getR dX12_loseOne_27 fl_12_85 sh_413 (Or.inr ⟨_, rfl⟩) (tp_413_40 T) ?_
        refine r_bipush (v := 40) dX12_loseOne_30 rfl ?_
        refine r_loc dX12_loseOne_32 rfl ?_
        refine r_alu dX12_loseOne_33 rfl ?_
        refine r_iconst (v := (-1)) dX12_loseOne_34 rfl ?_
        refine r_iast dX12_loseOne_35 sh_437 hf (fun h10 e12 hf => ?_)
        have T11 := tp_eq e12 T
        exact rj_X12_loseOne_36 (by omega) (lp_X12_loseOne_7 p1 n) p1 x2 T11 (ih) hf
theorem rf_X12_loseOne {X : am_X} {d : Nat} (hd : 1 ≤ d) (x1 : Int32) {h : am_H} (T : am_TP h.2.2) {r : am_H} (hf : f_X12_loseOne x1 h = some r) : am_G X d 12 false cX12_loseOne none 0 [some (.ref 413), some (.int x1), none] [] (am_SH, h) (none, (am_SH, r)) := by
  unfold f_X12_loseOne at hf
  obtain ⟨d, rfl⟩ : ∃ e, d = e + 1 := ⟨d - 1, by omega⟩
  refine r_loc dX12_loseOne_0 rfl ?_
  refine r_loc dX12_loseOne_1 rfl ?_
  obtain ⟨h2, c1, hf⟩ := cal_inv hf
  have g4 := rf_X12_clearPlace (X := X) (d := d) (by omega) x1 T c1
  have T3 : am_TP h2.2.2 := g4.2
  refine r_virt (pre := [.int x1]) (rest := []) dX12_loseOne_2 ct_12_359 rfl (sh_413) (Nat.le_of_ble_eq_true rfl) (Nat.le_of_ble_eq_true rfl) g4 ?_
  refine r_iconst (v := 0) dX12_loseOne_5 rfl ?_
  refine r_loc (L' := [some (.ref 413), some (.int x1), some (.int 0)]) dX12_loseOne_6 rfl ?_
  refine rl_X12_loseOne_7 (by omega) x1  4000 0 h2 T3 hf
def f_X12_listen (x1 : Int32) (h : am_H) : Option (am_H) := rdI h 437 59 ((24 : Int32) + x1) fun v1 => if 0 < v1 then rdI h 437 59 ((24 : Int32) + x1) fun v19 => wrI h 437 59 ((24 : Int32) + x1) (v19 - 1) fun h20 => wrI h20 437 59 ((32 : Int32) + x1) 0 fun h23 => some h23 else rdI h 437 59 ((32 : Int32) + x1) fun v2 => wrI h 437 59 ((32 : Int32) + x1) (v2 + 1) fun h3 => rdI h3 437 59 ((32 : Int32) + x1) fun v6 => bnd (h3.1 413 42) fun v7 => if v7 < 0 then bnd (h3.1 413 32) fun v8 => rdI h3 419 2 v8 fun v9 => if v6 < v9 then some h3 else cal (f_X12_loseOne x1 h3) fun h11 => some h11 else bnd (h3.1 413 42) fun v14 => if v6 < v14 then some h3 else cal (f_X12_loseOne x1 h3) fun h16 => some h16
theorem rf_X12_listen {X : am_X} {d : Nat} (hd : 2 ≤ d) (x1 : Int32) {h : am_H} (T : am_TP h.2.2) {r : am_H} (hf : f_X12_listen x1 h = some r) : am_G X d 12 false cX12_listen none 0 [some (.ref 413), some (.int x1)] [] (am_SH, h) (none, (am_SH, r)) := by
  unfold f_X12_listen at hf
  obtain ⟨d, rfl⟩ : ∃ e, d = e + 1 := ⟨d - 1, by omega⟩
  refine r_loc dX12_listen_0 rfl ?_
  refine r_getR dX12_listen_1 fl_12_85 sh_413 (Or.inr ⟨_, rfl⟩) (tp_413_40 T) ?_
  refine r_bipush (v := 24) dX12_listen_4 rfl ?_
  refine r_loc dX12_listen_6 rfl ?_
  refine r_alu dX12_listen_7 rfl ?_
  refine r_iald dX12_listen_8 sh_437 hf (fun v1 hf => ?_)
  refine r_le0 (q := 36) dX12_listen_9 rfl hf (fun hf => ?_) (fun hf => ?_)
  · refine r_loc dX12_listen_36 rfl ?_
    refine r_getR dX12_listen_37 fl_12_85 sh_413 (Or.inr ⟨_, rfl⟩) (tp_413_40 T) ?_
    refine r_bipush (v := 32) dX12_listen_40 rfl ?_
    refine r_loc dX12_listen_42 rfl ?_
    refine r_alu dX12_listen_43 rfl ?_
    refine r_alu dX12_listen_44 rfl ?_
    refine r_iald dX12_listen_45 sh_437 hf (fun v2 hf => ?_)
    refine r_iconst (v := 1) dX12_listen_46 rfl ?_
    refine r_alu dX12_listen_47 rfl ?_
    refine r_iast dX12_listen_48 sh_437 hf (fun h3 e5 hf => ?_)
    have T4 := tp_eq e5 T
    refine r_loc dX12_listen_49 rfl ?_
    refine r_getR dX12_listen_50 fl_12_85 sh_413 (Or.inr ⟨_, rfl⟩) (tp_413_40 T4) ?_
    refine r_bipush (v := 32) dX12_listen_53 rfl ?_
    refine r_loc dX12_listen_55 rfl ?_
    refine r_alu dX12_listen_56 rfl ?_
    refine r_iald dX12_listen_57 sh_437 hf (fun v6 hf => ?_)
    refine r_loc dX12_listen_58 rfl ?_
    refine r_getI dX12_listen_59 fl_12_91 sh_413 rfl hf (fun v7 hf => ?_)
    refine r_lt0 (q := 72) dX12_listen_62 rfl hf (fun hf => ?_) (fun hf => ?_)
    · refine r_loc dX12_listen_72 rfl ?_
      refine r_getR dX12_listen_73 fl_12_30 sh_413 (Or.inr ⟨_, rfl⟩) (tp_413_14 T4) ?_
      refine r_loc dX12_listen_76 rfl ?_
      refine r_getI dX12_listen_77 fl_12_244 sh_413 rfl hf (fun v8 hf => ?_)
      refine r_iald dX12_listen_80 sh_419 hf (fun v9 hf => ?_)
      refine r_lt (q := 89) dX12_listen_81 rfl hf (fun hf => ?_) (fun hf => ?_)
      · cases hf
        exact r_ret T4 dX12_listen_89 rfl
      · refine r_loc dX12_listen_84 rfl ?_
        refine r_loc dX12_listen_85 rfl ?_
        obtain ⟨h11, c10, hf⟩ := cal_inv hf
        have g13 := rf_X12_loseOne (X := X) (d := d) (by omega) x1 T4 c10
        have T12 : am_TP h11.2.2 := g13.2
        refine r_virt (pre := [.int x1]) (rest := []) dX12_listen_86 ct_12_393 rfl (sh_413) (Nat.le_of_ble_eq_true rfl) (Nat.le_of_ble_eq_true rfl) g13 ?_
        cases hf
        exact r_ret T12 dX12_listen_89 rfl
    · refine r_loc dX12_listen_65 rfl ?_
      refine r_getI dX12_listen_66 fl_12_91 sh_413 rfl hf (fun v14 hf => ?_)
      refine r_goto (q := 81) dX12_listen_69 rfl ?_
      refine r_lt (q := 89) dX12_listen_81 rfl hf (fun hf => ?_) (fun hf => ?_)
      · cases hf
        exact r_ret T4 dX12_listen_89 rfl
      · refine r_loc dX12_listen_84 rfl ?_
        refine r_loc dX12_listen_85 rfl ?_
        obtain ⟨h16, c15, hf⟩ := cal_inv hf
        have g18 := rf_X12_loseOne (X := X) (d := d) (by omega) x1 T4 c15
        have T17 : am_TP h16.2.2 := g18.2
        refine r_virt (pre := [.int x1]) (rest := []) dX12_listen_86 ct_12_393 rfl (sh_413) (Nat.le_of_ble_eq_true rfl) (Nat.le_of_ble_eq_true rfl) g18 ?_
        cases hf
        exact r_ret T17 dX12_listen_89 rfl
  · refine r_loc dX12_listen_12 rfl ?_
    refine r_getR dX12_listen_13 fl_12_85 sh_413 (Or.inr ⟨_, rfl⟩) (tp_413_40 T) ?_
    refine r_bipush (v := 24) dX12_listen_16 rfl ?_
    refine r_loc dX12_listen_18 rfl ?_
    refine r_alu dX12_listen_19 rfl ?_
    refine r_alu dX12_listen_20 rfl ?_
    refine r_iald dX12_listen_21 sh_437 hf (fun v19 hf => ?_)
    refine r_iconst (v := 1) dX12_listen_22 rfl ?_
    refine r_alu dX12_listen_23 rfl ?_
    refine r_iast dX12_listen_24 sh_437 hf (fun h20 e22 hf => ?_)
    have T21 := tp_eq e22 T
    refine r_loc dX12_listen_25 rfl ?_
    refine r_getR dX12_listen_26 fl_12_85 sh_413 (Or.inr ⟨_, rfl⟩) (tp_413_40 T21) ?_
    refine r_bipush (v := 32) dX12_listen_29 rfl ?_
    refine r_loc dX12_listen_31 rfl ?_
    refine r_alu dX12_listen_32 rfl ?_
    refine r_iconst (v := 0) dX12_listen_33 rfl ?_
    refine r_iast dX12_listen_34 sh_437 hf (fun h23 e25 hf => ?_)
    have T24 := tp_eq e25 T21
    cases hf
    exact r_ret T24 dX12_listen_35 rfl
def lp_X12_bringForth_54 (p1 : Int32) (p2 : Int32) (p3 : Int32) (p4 : Int32) (p5 : Int32) (k_106 : Int32 → am_H → Option (am_H)) : Nat → Int32 → Int32 → am_H → Option (am_H)
  | 0, _, _, _ => none
  | n + 1, x6, x7, h => if x7 < 6 then rdI h 437 59 58 fun v11 => cal (f_X12_bit v11 x7 h) fun v13 => if v13 = 0 then rdI h 437 59 ((16 : Int32) + p4) fun v15 => lp_X12_bringForth_54 p1 p2 p3 p4 p5 k_106 n (x6 ||| (v15 &&& ((1 : Int32) <<< (x7 &&& 31)))) (x7 + 1) h else rdI h 437 59 ((16 : Int32) + p3) fun v16 => lp_X12_bringForth_54 p1 p2 p3 p4 p5 k_106 n (x6 ||| (v16 &&& ((1 : Int32) <<< (x7 &&& 31)))) (x7 + 1) h else k_106 x6 h
def f_X12_bringForth (x1 : Int32) (h : am_H) : Option (am_H) := cal (f_X12_coupleOf x1 h) fun v2 => cal (f_X12_freePlace h) fun v5 => rdI h 437 59 58 fun v7 => wrI h 437 59 58 ((((137 : Int32) * v7) + 71) - (((137 : Int32) * v7) + 71) / 1000 * 1000) fun h8 => lp_X12_bringForth_54 x1 v2 (v2 / 8) (v2 - v2 / 8 * 8) v5 (fun z17 h18 => cal (f_X12_youngOf v2 h18) fun v21 => wrI h18 437 59 ((0 : Int32) + v5) v21 fun h23 => wrI h23 437 59 ((8 : Int32) + v5) x1 fun h26 => wrI h26 437 59 ((16 : Int32) + v5) z17 fun h29 => wrI h29 437 59 ((24 : Int32) + v5) 0 fun h32 => wrI h32 437 59 ((32 : Int32) + v5) 0 fun h35 => wrI h35 437 59 ((40 : Int32) + v5) (v2 / 8) fun h38 => wrI h38 437 59 ((48 : Int32) + v5) (v2 - v2 / 8 * 8) fun h41 => some h41) 4000 0 0 h8
theorem rl_X12_bringForth_54 {X : am_X} {d : Nat} (hd : 3 ≤ d) (p1 : Int32) (p2 : Int32) (p3 : Int32) (p4 : Int32) (p5 : Int32) (k_106 : Int32 → am_H → Option (am_H)) {r : am_H} (hk_106 : ∀ (z6 : Int32) (h : am_H), am_TP h.2.2 → k_106 z6 h = some r → am_G X d 12 false cX12_bringForth none 106 [some (.ref 413), some (.int p1), some (.int p2), some (.int p3), some (.int p4), some (.int p5), some (.int z6), none] [] (am_SH, h) (none, (am_SH, r))) : ∀ (n : Nat) (x6 : Int32) (x7 : Int32) (h : am_H), am_TP h.2.2 → lp_X12_bringForth_54 p1 p2 p3 p4 p5 k_106 n x6 x7 h = some r → am_G X d 12 false cX12_bringForth none 54 [some (.ref 413), some (.int p1), some (.int p2), some (.int p3), some (.int p4), some (.int p5), some (.int x6), some (.int x7)] [] (am_SH, h) (none, (am_SH, r)) := by
  obtain ⟨d, rfl⟩ : ∃ e, d = e + 1 := ⟨d - 1, by omega⟩
  intro n
  induction n with
  | zero => intro x6 x7 h T hf; cases hf
  | succ n ih =>
    intro x6 x7 h T hf
    rw [lp_X12_bringForth_54] at hf
    refine r_loc dX12_bringForth_54 rfl ?_
    refine r_bipush (v := 6) dX12_bringForth_56 rfl ?_
    refine r_ge (q := 106) dX12_bringForth_58 rfl hf (fun hf => ?_) (fun hf => ?_)
    · refine r_weak (L := [some (.ref 413), some (.int p1), some (.int p2), some (.int p3), some (.int p4), some (.int p5), some (.int x6), none]) (am_le_s (am_le_s (am_le_s (am_le_s (am_le_s (am_le_s (am_le_s (am_le_n am_le_0)))))))) ?_
      exact hk_106 x6 h T hf
    · refine r_loc dX12_bringForth_61 rfl ?_
      refine r_loc dX12_bringForth_63 rfl ?_
      refine r_getR dX12_bringForth_64 fl_12_85 sh_413 (Or.inr ⟨_, rfl⟩) (tp_413_40 T) ?_
      refine r_bipush (v := 16) dX12_bringForth_67 rfl ?_
      refine r_loc dX12_bringForth_69 rfl ?_
      refine r_getR dX12_bringForth_70 fl_12_85 sh_413 (Or.inr ⟨_, rfl⟩) (tp_413_40 T) ?_
      refine r_bipush (v := 58) dX12_bringForth_73 rfl ?_
      refine r_iald dX12_bringForth_75 sh_437 hf (fun v11 hf => ?_)
      refine r_loc dX12_bringForth_76 rfl ?_
      obtain ⟨v13, c12, hf⟩ := cal_inv hf
      have g14 := rf_X12_bit (X := X) (d := d) (by omega) v11 x7 T c12
      refine r_stat (pre := [.int x7, .int v11]) (rest := [.int 16, .ref 437, .int x6]) dX12_bringForth_78 ct_12_250 rfl (Nat.le_of_ble_eq_true rfl) (Nat.le_of_ble_eq_true rfl) g14 ?_
      refine r_eq0 (q := 88) dX12_bringForth_81 rfl hf (fun hf => ?_) (fun hf => ?_)
      · refine r_loc dX12_bringForth_88 rfl ?_
        refine r_alu dX12_bringForth_90 rfl ?_
        refine r_iald dX12_bringForth_91 sh_437 hf (fun v15 hf => ?_)
        refine r_iconst (v := 1) dX12_bringForth_92 rfl ?_
        refine r_loc dX12_bringForth_93 rfl ?_
        refine r_alu dX12_bringForth_95 rfl ?_
        refine r_alu dX12_bringForth_96 rfl ?_
        refine r_alu dX12_bringForth_97 rfl ?_
        refine r_loc (L' := [some (.ref 413), some (.int p1), some (.int p2), some (.int p3), some (.int p4), some (.int p5), some (.int (x6 ||| (v15 &&& ((1 : Int32) <<< (x7 &&& 31))))), some (.int x7)]) dX12_bringForth_98 rfl ?_
        refine r_loc (L' := [some (.ref 413), some (.int p1), some (.int p2), some (.int p3), some (.int p4), some (.int p5), some (.int (x6 ||| (v15 &&& ((1 : Int32) <<< (x7 &&& 31))))), some (.int (x7 + 1))]) dX12_bringForth_100 rfl ?_
        refine r_goto (q := 54) dX12_bringForth_103 rfl ?_
        exact ih (x6 ||| (v15 &&& ((1 : Int32) <<< (x7 &&& 31)))) (x7 + 1) h T hf
      · refine r_loc dX12_bringForth_84 rfl ?_
        refine r_goto (q := 90) dX12_bringForth_85 rfl ?_
        refine r_alu dX12_bringForth_90 rfl ?_
        refine r_iald dX12_bringForth_91 sh_437 hf (fun v16 hf => ?_)
        refine r_iconst (v := 1) dX12_bringForth_92 rfl ?_
        refine r_loc dX12_bringForth_93 rfl ?_
        refine r_alu dX12_bringForth_95 rfl ?_
        refine r_alu dX12_bringForth_96 rfl ?_
        refine r_alu dX12_bringForth_97 rfl ?_
        refine r_loc (L' := [some (.ref 413), some (.int p1), some (.int p2), some (.int p3), some (.int p4), some (.int p5), some (.int (x6 ||| (v16 &&& ((1 : Int32) <<< (x7 &&& 31))))), some (.int x7)]) dX12_bringForth_98 rfl ?_
        refine r_loc (L' := [some (.ref 413), some (.int p1), some (.int p2), some (.int p3), some (.int p4), some (.int p5), some (.int (x6 ||| (v16 &&& ((1 : Int32) <<< (x7 &&& 31))))), some (.int (x7 + 1))]) dX12_bringForth_100 rfl ?_
        refine r_goto (q := 54) dX12_bringForth_103 rfl ?_
        exact ih (x6 ||| (v16 &&& ((1 : Int32) <<< (x7 &&& 31)))) (x7 + 1) h T hf
theorem rf_X12_bringForth {X : am_X} {d : Nat} (hd : 3 ≤ d) (x1 : Int32) {h : am_H} (T : am_TP h.2.2) {r : am_H} (hf : f_X12_bringForth x1 h = some r) : am_G X d 12 false cX12_bringForth none 0 [some (.ref 413), some (.int x1), none, none, none, none, none, none] [] (am_SH, h) (none, (am_SH, r)) := by
  unfold f_X12_bringForth at hf
  obtain ⟨d, rfl⟩ : ∃ e, d = e + 1 := ⟨d - 1, by omega⟩
  refine r_loc dX12_bringForth_0 rfl ?_
  refine r_loc dX12_bringForth_1 rfl ?_
  obtain ⟨v2, c1, hf⟩ := cal_inv hf
  have g3 := rf_X12_coupleOf (X := X) (d := d) (by omega) x1 T c1
  refine r_virt (pre := [.int x1]) (rest := []) dX12_bringForth_2 ct_12_381 rfl (sh_413) (Nat.le_of_ble_eq_true rfl) (Nat.le_of_ble_eq_true rfl) g3 ?_
  refine r_loc (L' := [some (.ref 413), some (.int x1), some (.int v2), none, none, none, none, none]) dX12_bringForth_5 rfl ?_
  refine r_loc dX12_bringForth_6 rfl ?_
  refine r_bipush (v := 8) dX12_bringForth_7 rfl ?_
  refine r_divc dX12_bringForth_9 (by decide) ?_
  refine r_loc (L' := [some (.ref 413), some (.int x1), some (.int v2), some (.int (v2 / 8)), none, none, none, none]) dX12_bringForth_10 rfl ?_
  refine r_loc dX12_bringForth_11 rfl ?_
  refine r_bipush (v := 8) dX12_bringForth_12 rfl ?_
  refine r_remc dX12_bringForth_14 (by decide) ?_
  refine r_loc (L' := [some (.ref 413), some (.int x1), some (.int v2), some (.int (v2 / 8)), some (.int (v2 - v2 / 8 * 8)), none, none, none]) dX12_bringForth_15 rfl ?_
  refine r_loc dX12_bringForth_17 rfl ?_
  obtain ⟨v5, c4, hf⟩ := cal_inv hf
  have g6 := rf_X12_freePlace (X := X) (d := d) (by omega) T c4
  refine r_virt (pre := []) (rest := []) dX12_bringForth_18 ct_12_384 rfl (sh_413) (Nat.le_of_ble_eq_true rfl) (Nat.le_of_ble_eq_true rfl) g6 ?_
  refine r_loc (L' := [some (.ref 413), some (.int x1), some (.int v2), some (.int (v2 / 8)), some (.int (v2 - v2 / 8 * 8)), some (.int v5), none, none]) dX12_bringForth_21 rfl ?_
  refine r_loc dX12_bringForth_23 rfl ?_
  refine r_getR dX12_bringForth_24 fl_12_85 sh_413 (Or.inr ⟨_, rfl⟩) (tp_413_40 T) ?_
  refine r_bipush (v := 58) dX12_bringForth_27 rfl ?_
  refine r_sipush (v := 137) dX12_bringForth_29 rfl ?_
  refine r_loc dX12_bringForth_32 rfl ?_
  refine r_getR dX12_bringForth_33 fl_12_85 sh_413 (Or.inr ⟨_, rfl⟩) (tp_413_40 T) ?_
  refine r_bipush (v := 58) dX12_bringForth_36 rfl ?_
  refine r_iald dX12_bringForth_38 sh_437 hf (fun v7 hf => ?_)
  refine r_alu dX12_bringForth_39 rfl ?_
  refine r_bipush (v := 71) dX12_bringForth_40 rfl ?_
  refine r_alu dX12_bringForth_42 rfl ?_
  refine r_sipush (v := 1000) dX12_bringForth_43 rfl ?_
  refine r_remc dX12_bringForth_46 (by decide) ?_
  refine r_iast dX12_bringForth_47 sh_437 hf (fun h8 e10 hf => ?_)
  have T9 := tp_eq e10 T
  refine r_iconst (v := 0) dX12_bringForth_48 rfl ?_
  refine r_loc (L' := [some (.ref 413), some (.int x1), some (.int v2), some (.int (v2 / 8)), some (.int (v2 - v2 / 8 * 8)), some (.int v5), some (.int 0), none]) dX12_bringForth_49 rfl ?_
  refine r_iconst (v := 0) dX12_bringForth_51 rfl ?_
  refine r_loc (L' := [some (.ref 413), some (.int x1), some (.int v2), some (.int (v2 / 8)), some (.int (v2 - v2 / 8 * 8)), some (.int v5), some (.int 0), some (.int 0)]) dX12_bringForth_52 rfl ?_
  refine rl_X12_bringForth_54 (by omega) x1 v2 (v2 / 8) (v2 - v2 / 8 * 8) v5 _ ?_ 4000 0 0 h8 T9 hf
  · intro z17 h18 T19 hf
    refine r_loc dX12_bringForth_106 rfl ?_
    refine r_loc dX12_bringForth_107 rfl ?_
    obtain ⟨v21, c20, hf⟩ := cal_inv hf
    have g22 := rf_X12_youngOf (X := X) (d := d) (by omega) v2 T19 c20
    refine r_virt (pre := [.int v2]) (rest := []) dX12_bringForth_108 ct_12_390 rfl (sh_413) (Nat.le_of_ble_eq_true rfl) (Nat.le_of_ble_eq_true rfl) g22 ?_
    refine r_loc (L' := [some (.ref 413), some (.int x1), some (.int v2), some (.int (v2 / 8)), some (.int (v2 - v2 / 8 * 8)), some (.int v5), some (.int z17), some (.int v21)]) dX12_bringForth_111 rfl ?_
    refine r_loc dX12_bringForth_113 rfl ?_
    refine r_getR dX12_bringForth_114 fl_12_85 sh_413 (Or.inr ⟨_, rfl⟩) (tp_413_40 T19) ?_
    refine r_iconst (v := 0) dX12_bringForth_117 rfl ?_
    refine r_loc dX12_bringForth_118 rfl ?_
    refine r_alu dX12_bringForth_120 rfl ?_
    refine r_loc dX12_bringForth_121 rfl ?_
    refine r_iast dX12_bringForth_123 sh_437 hf (fun h23 e25 hf => ?_)
    have T24 := tp_eq e25 T19
    refine r_loc dX12_bringForth_124 rfl ?_
    refine r_getR dX12_bringForth_125 fl_12_85 sh_413 (Or.inr ⟨_, rfl⟩) (tp_413_40 T24) ?_
    refine r_bipush (v := 8) dX12_bringForth_128 rfl ?_
    refine r_loc dX12_bringForth_130 rfl ?_
    refine r_alu dX12_bringForth_132 rfl ?_
    refine r_loc dX12_bringForth_133 rfl ?_
    refine r_iast dX12_bringForth_134 sh_437 hf (fun h26 e28 hf => ?_)
    have T27 := tp_eq e28 T24
    refine r_loc dX12_bringForth_135 rfl ?_
    refine r_getR dX12_bringForth_136 fl_12_85 sh_413 (Or.inr ⟨_, rfl⟩) (tp_413_40 T27) ?_
    refine r_bipush (v := 16) dX12_bringForth_139 rfl ?_
    refine r_loc dX12_bringForth_141 rfl ?_
    refine r_alu dX12_bringForth_143 rfl ?_
    refine r_loc dX12_bringForth_144 rfl ?_
    refine r_iast dX12_bringForth_146 sh_437 hf (fun h29 e31 hf => ?_)
    have T30 := tp_eq e31 T27
    refine r_loc dX12_bringForth_147 rfl ?_
    refine r_getR dX12_bringForth_148 fl_12_85 sh_413 (Or.inr ⟨_, rfl⟩) (tp_413_40 T30) ?_
    refine r_bipush (v := 24) dX12_bringForth_151 rfl ?_
    refine r_loc dX12_bringForth_153 rfl ?_
    refine r_alu dX12_bringForth_155 rfl ?_
    refine r_iconst (v := 0) dX12_bringForth_156 rfl ?_
    refine r_iast dX12_bringForth_157 sh_437 hf (fun h32 e34 hf => ?_)
    have T33 := tp_eq e34 T30
    refine r_loc dX12_bringForth_158 rfl ?_
    refine r_getR dX12_bringForth_159 fl_12_85 sh_413 (Or.inr ⟨_, rfl⟩) (tp_413_40 T33) ?_
    refine r_bipush (v := 32) dX12_bringForth_162 rfl ?_
    refine r_loc dX12_bringForth_164 rfl ?_
    refine r_alu dX12_bringForth_166 rfl ?_
    refine r_iconst (v := 0) dX12_bringForth_167 rfl ?_
    refine r_iast dX12_bringForth_168 sh_437 hf (fun h35 e37 hf => ?_)
    have T36 := tp_eq e37 T33
    refine r_loc dX12_bringForth_169 rfl ?_
    refine r_getR dX12_bringForth_170 fl_12_85 sh_413 (Or.inr ⟨_, rfl⟩) (tp_413_40 T36) ?_
    refine r_bipush (v := 40) dX12_bringForth_173 rfl ?_
    refine r_loc dX12_bringForth_175 rfl ?_
    refine r_alu dX12_bringForth_177 rfl ?_
    refine r_loc dX12_bringForth_178 rfl ?_
    refine r_iast dX12_bringForth_179 sh_437 hf (fun h38 e40 hf => ?_)
    have T39 := tp_eq e40 T36
    refine r_loc dX12_bringForth_180 rfl ?_
    refine r_getR dX12_bringForth_181 fl_12_85 sh_413 (Or.inr ⟨_, rfl⟩) (tp_413_40 T39) ?_
    refine r_bipush (v := 48) dX12_bringForth_184 rfl ?_
    refine r_loc dX12_bringForth_186 rfl ?_
    refine r_alu dX12_bringForth_188 rfl ?_
    refine r_loc dX12_bringForth_189 rfl ?_
    refine r_iast dX12_bringForth_191 sh_437 hf (fun h41 e43 hf => ?_)
    have T42 := tp_eq e43 T39
    cases hf
    exact r_ret T42 dX12_bringForth_192 rfl
def lp_X12_goYear_2 (k_30 : am_H → Option (Int32 × am_H)) : Nat → Int32 → am_H → Option (Int32 × am_H)
  | 0, _, _ => none
  | n + 1, x1, h => if x1 < 8 then rdI h 437 59 ((0 : Int32) + x1) fun v1 => if 0 < v1 then cal (f_X12_listen x1 h) fun h3 => lp_X12_goYear_2 k_30 n (x1 + 1) h3 else lp_X12_goYear_2 k_30 n (x1 + 1) h else k_30  h
def jn_X12_goYear_72 (k_32 : Int32 → am_H → Option (Int32 × am_H)) (x1 : Int32) (y0 : Int32) (h : am_H) : Option (Int32 × am_H) := if y0 = 0 then k_32 (x1 + 1) h else rdI h 437 59 ((8 : Int32) + x1) fun v12 => cal (f_X12_leftIn v12 h) fun v14 => if 0 < v14 then rdI h 437 59 ((0 : Int32) + x1) fun v16 => wrI h 437 59 ((0 : Int32) + x1) (v16 + 1) fun h17 => k_32 (x1 + 1) h17 else k_32 (x1 + 1) h
def jn_X12_goYear_71 (k_32 : Int32 → am_H → Option (Int32 × am_H)) (x1 : Int32) (h : am_H) : Option (Int32 × am_H) := jn_X12_goYear_72 (k_32) x1 0 h
def lp_X12_goYear_32 (k_111 : am_H → Option (Int32 × am_H)) : Nat → Int32 → am_H → Option (Int32 × am_H)
  | 0, _, _ => none
  | n + 1, x1, h => if x1 < 8 then rdI h 437 59 ((0 : Int32) + x1) fun v8 => cal (f_X12_isIn v8 1 19 h) fun v10 => if v10 = 0 then jn_X12_goYear_71 (lp_X12_goYear_32 k_111 n) x1 h else rdI h 437 59 ((32 : Int32) + x1) fun v20 => if v20 = 0 then jn_X12_goYear_72 (lp_X12_goYear_32 k_111 n) x1 1 h else jn_X12_goYear_71 (lp_X12_goYear_32 k_111 n) x1 h else k_111  h
def lp_X12_goYear_115 (k_154 : Int32 → am_H → Option (Int32 × am_H)) : Nat → Int32 → Int32 → am_H → Option (Int32 × am_H)
  | 0, _, _, _ => none
  | n + 1, x1, x2, h => cal (f_X12_chambers h) fun v24 => if x2 < v24 then cal2 (f_X12_isRipe x2 h) fun v27 h29 => if v27 = 0 then lp_X12_goYear_115 k_154 n x1 (x2 + 1) h29 else cal (f_X12_freePlace h29) fun v33 => cal (f_X12_bringForth x2 h29) fun h36 => lp_X12_goYear_115 k_154 n (x1 ||| ((1 : Int32) <<< (v33 &&& 31))) (x2 + 1) h36 else k_154 x1 h
def f_X12_goYear  (h : am_H) : Option (Int32 × am_H) := lp_X12_goYear_2 (fun h6 => lp_X12_goYear_32 (fun h21 => lp_X12_goYear_115 (fun z39 h40 => rdI h40 437 59 57 fun v42 => wrI h40 437 59 57 (v42 + 1) fun h43 => some (z39, h43)) 4000 0 0 h21) 4000 0 h6) 4000 0 h
theorem rl_X12_goYear_2 {X : am_X} {d : Nat} (hd : 7 ≤ d) (k_30 : am_H → Option (Int32 × am_H)) {r : Int32 × am_H} (hk_30 : ∀ (h : am_H), am_TP h.2.2 → k_30  h = some r → am_G X d 12 false cX12_goYear (some .int) 30 [some (.ref 413), none, none] [] (am_SH, h) (some (.int r.1), (am_SH, r.2))) : ∀ (n : Nat) (x1 : Int32) (h : am_H), am_TP h.2.2 → lp_X12_goYear_2 k_30 n x1 h = some r → am_G X d 12 false cX12_goYear (some .int) 2 [some (.ref 413), some (.int x1), none] [] (am_SH, h) (some (.int r.1), (am_SH, r.2)) := by
  obtain ⟨d, rfl⟩ : ∃ e, d = e + 1 := ⟨d - 1, by omega⟩
  intro n
  induction n with
  | zero => intro x1 h T hf; cases hf
  | succ n ih =>
    intro x1 h T hf
    rw [lp_X12_goYear_2] at hf
    refine r_loc dX12_goYear_2 rfl ?_
    refine r_bipush (v := 8) dX12_goYear_3 rfl ?_
    refine r_ge (q := 30) dX12_goYear_5 rfl hf (fun hf => ?_) (fun hf => ?_)
    · refine r_weak (L := [some (.ref 413), none, none]) (am_le_s (am_le_n (am_le_n am_le_0))) ?_
      exact hk_30  h T hf
    · refine r_loc dX12_goYear_8 rfl ?_
      refine r_getR dX12_goYear_9 fl_12_85 sh_413 (Or.inr ⟨_, rfl⟩) (tp_413_40 T) ?_
      refine r_iconst (v := 0) dX12_goYear_12 rfl ?_
      refine r_loc dX12_goYear_13 rfl ?_
      refine r_alu dX12_goYear_14 rfl ?_
      refine r_iald dX12_goYear_15 sh_437 hf (fun v1 hf => ?_)
      refine r_le0 (q := 24) dX12_goYear_16 rfl hf (fun hf => ?_) (fun hf => ?_)
      · refine r_loc (L' := [some (.ref 413), some (.int (x1 + 1)), none]) dX12_goYear_24 rfl ?_
        refine r_goto (q := 2) dX12_goYear_27 rfl ?_
        exact ih (x1 + 1) h T hf
      · refine r_loc dX12_goYear_19 rfl ?_
        refine r_loc dX12_goYear_20 rfl ?_
        obtain ⟨h3, c2, hf⟩ := cal_inv hf
        have g5 := rf_X12_listen (X := X) (d := d) (by omega) x1 T c2
        have T4 : am_TP h3.2.2 := g5.2
        refine r_virt (pre := [.int x1]) (rest := []) dX12_goYear_21 ct_12_396 rfl (sh_413) (Nat.le_of_ble_eq_true rfl) (Nat.le_of_ble_eq_true rfl) g5 ?_
        refine r_loc (L' := [some (.ref 413), some (.int (x1 + 1)), none]) dX12_goYear_24 rfl ?_
        refine r_goto (q := 2) dX12_goYear_27 rfl ?_
        exact ih (x1 + 1) h3 T4 hf
theorem rj_X12_goYear_72 {X : am_X} {d : Nat} (hd : 7 ≤ d) (k_32 : Int32 → am_H → Option (Int32 × am_H)) (x1 : Int32) (y0 : Int32) {h : am_H} (T : am_TP h.2.2) {r : Int32 × am_H} (hk_32 : ∀ (x1 : Int32) (h : am_H), am_TP h.2.2 → k_32 x1 h = some r → am_G X d 12 false cX12_goYear (some .int) 32 [some (.ref 413), some (.int x1), none] [] (am_SH, h) (some (.int r.1), (am_SH, r.2))) (hf : jn_X12_goYear_72 k_32 x1 y0 h = some r) : am_G X d 12 false cX12_goYear (some .int) 72 [some (.ref 413), some (.int x1), none] [.int y0] (am_SH, h) (some (.int r.1), (am_SH, r.2)) := by
  obtain ⟨d, rfl⟩ : ∃ e, d = e + 1 := ⟨d - 1, by omega⟩
  unfold jn_X12_goYear_72 at hf
  refine r_loc (L' := [some (.ref 413), some (.int x1), some (.int y0)]) dX12_goYear_72 rfl ?_
  refine r_loc dX12_goYear_73 rfl ?_
  refine r_eq0 (q := 105) dX12_goYear_74 rfl hf (fun hf => ?_) (fun hf => ?_)
  · refine r_loc (L' := [some (.ref 413), some (.int (x1 + 1)), some (.int y0)]) dX12_goYear_105 rfl ?_
    refine r_goto (q := 32) dX12_goYear_108 rfl ?_
    refine r_weak (L := [some (.ref 413), some (.int (x1 + 1)), none]) (am_le_s (am_le_s (am_le_n am_le_0))) ?_
    exact hk_32 (x1 + 1) h T hf
  · refine r_loc dX12_goYear_77 rfl ?_
    refine r_loc dX12_goYear_78 rfl ?_
    refine r_getR dX12_goYear_79 fl_12_85 sh_413 (Or.inr ⟨_, rfl⟩) (tp_413_40 T) ?_
    refine r_bipush (v := 8) dX12_goYear_82 rfl ?_
    refine r_loc dX12_goYear_84 rfl ?_
    refine r_alu dX12_goYear_85 rfl ?_
    refine r_iald dX12_goYear_86 sh_437 hf (fun v12 hf => ?_)
    obtain ⟨v14, c13, hf⟩ := cal_inv hf
    have g15 := rf_X12_leftIn (X := X) (d := d) (by omega) v12 T c13
    refine r_virt (pre := [.int v12]) (rest := []) dX12_goYear_87 ct_12_328 rfl (sh_413) (Nat.le_of_ble_eq_true rfl) (Nat.le_of_ble_eq_true rfl) g15 ?_
    refine r_le0 (q := 105) dX12_goYear_90 rfl hf (fun hf => ?_) (fun hf => ?_)
    · refine r_loc (L' := [some (.ref 413), some (.int (x1 + 1)), some (.int y0)]) dX12_goYear_105 rfl ?_
      refine r_goto (q := 32) dX12_goYear_108 rfl ?_
      refine r_weak (L := [some (.ref 413), some (.int (x1 + 1)), none]) (am_le_s (am_le_s (am_le_n am_le_0))) ?_
      exact hk_32 (x1 + 1) h T hf
    · refine r_loc dX12_goYear_93 rfl ?_
      refine r_getR dX12_goYear_94 fl_12_85 sh_413 (Or.inr ⟨_, rfl⟩) (tp_413_40 T) ?_
      refine r_iconst (v := 0) dX12_goYear_97 rfl ?_
      refine r_loc dX12_goYear_98 rfl ?_
      refine r_alu dX12_goYear_99 rfl ?_
      refine r_alu dX12_goYear_100 rfl ?_
      refine r_iald dX12_goYear_101 sh_437 hf (fun v16 hf => ?_)
      refine r_iconst (v := 1) dX12_goYear_102 rfl ?_
      refine r_alu dX12_goYear_103 rfl ?_
      refine r_iast dX12_goYear_104 sh_437 hf (fun h17 e19 hf => ?_)
      have T18 := tp_eq e19 T
      refine r_loc (L' := [some (.ref 413), some (.int (x1 + 1)), some (.int y0)]) dX12_goYear_105 rfl ?_
      refine r_goto (q := 32) dX12_goYear_108 rfl ?_
      refine r_weak (L := [some (.ref 413), some (.int (x1 + 1)), none]) (am_le_s (am_le_s (am_le_n am_le_0))) ?_
      exact hk_32 (x1 + 1) h17 T18 hf
theorem rj_X12_goYear_71 {X : am_X} {d : Nat} (hd : 7 ≤ d) (k_32 : Int32 → am_H → Option (Int32 × am_H)) (x1 : Int32) {h : am_H} (T : am_TP h.2.2) {r : Int32 × am_H} (hk_32 : ∀ (x1 : Int32) (h : am_H), am_TP h.2.2 → k_32 x1 h = some r → am_G X d 12 false cX12_goYear (some .int) 32 [some (.ref 413), some (.int x1), none] [] (am_SH, h) (some (.int r.1), (am_SH, r.2))) (hf : jn_X12_goYear_71 k_32 x1 h = some r) : am_G X d 12 false cX12_goYear (some .int) 71 [some (.ref 413), some (.int x1), none] [] (am_SH, h) (some (.int r.1), (am_SH, r.2)) := by
  obtain ⟨d, rfl⟩ : ∃ e, d = e + 1 := ⟨d - 1, by omega⟩
  unfold jn_X12_goYear_71 at hf
  refine r_iconst (v := 0) dX12_goYear_71 rfl ?_
  exact rj_X12_goYear_72 (by omega) (k_32) x1 0 T (hk_32) hf
theorem rl_X12_goYear_32 {X : am_X} {d : Nat} (hd : 7 ≤ d) (k_111 : am_H → Option (Int32 × am_H)) {r : Int32 × am_H} (hk_111 : ∀ (h : am_H), am_TP h.2.2 → k_111  h = some r → am_G X d 12 false cX12_goYear (some .int) 111 [some (.ref 413), none, none] [] (am_SH, h) (some (.int r.1), (am_SH, r.2))) : ∀ (n : Nat) (x1 : Int32) (h : am_H), am_TP h.2.2 → lp_X12_goYear_32 k_111 n x1 h = some r → am_G X d 12 false cX12_goYear (some .int) 32 [some (.ref 413), some (.int x1), none] [] (am_SH, h) (some (.int r.1), (am_SH, r.2)) := by
  obtain ⟨d, rfl⟩ : ∃ e, d = e + 1 := ⟨d - 1, by omega⟩
  intro n
  induction n with
  | zero => intro x1 h T hf; cases hf
  | succ n ih =>
    intro x1 h T hf
    rw [lp_X12_goYear_32] at hf
    refine r_loc dX12_goYear_32 rfl ?_
    refine r_bipush (v := 8) dX12_goYear_33 rfl ?_
    refine r_ge (q := 111) dX12_goYear_35 rfl hf (fun hf => ?_) (fun hf => ?_)
    · refine r_weak (L := [some (.ref 413), none, none]) (am_le_s (am_le_n (am_le_n am_le_0))) ?_
      exact hk_111  h T hf
    · refine r_loc dX12_goYear_38 rfl ?_
      refine r_getR dX12_goYear_39 fl_12_85 sh_413 (Or.inr ⟨_, rfl⟩) (tp_413_40 T) ?_
      refine r_iconst (v := 0) dX12_goYear_42 rfl ?_
      refine r_loc dX12_goYear_43 rfl ?_
      refine r_alu dX12_goYear_44 rfl ?_
      refine r_iald dX12_goYear_45 sh_437 hf (fun v8 hf => ?_)
      refine r_iconst (v := 1) dX12_goYear_46 rfl ?_
      refine r_bipush (v := 19) dX12_goYear_47 rfl ?_
      obtain ⟨v10, c9, hf⟩ := cal_inv hf
      have g11 := rf_X12_isIn (X := X) (d := d) (by omega) v8 1 19 T c9
      refine r_stat (pre := [.int 19, .int 1, .int v8]) (rest := []) dX12_goYear_49 ct_12_346 rfl (Nat.le_of_ble_eq_true rfl) (Nat.le_of_ble_eq_true rfl) g11 ?_
      refine r_eq0 (q := 71) dX12_goYear_52 rfl hf (fun hf => ?_) (fun hf => ?_)
      · exact rj_X12_goYear_71 (by omega) (lp_X12_goYear_32 k_111 n) x1 T (ih) hf
      · refine r_loc dX12_goYear_55 rfl ?_
        refine r_getR dX12_goYear_56 fl_12_85 sh_413 (Or.inr ⟨_, rfl⟩) (tp_413_40 T) ?_
        refine r_bipush (v := 32) dX12_goYear_59 rfl ?_
        refine r_loc dX12_goYear_61 rfl ?_
        refine r_alu dX12_goYear_62 rfl ?_
        refine r_iald dX12_goYear_63 sh_437 hf (fun v20 hf => ?_)
        refine r_ne0 (q := 71) dX12_goYear_64 rfl hf (fun hf => ?_) (fun hf => ?_)
        · exact rj_X12_goYear_71 (by omega) (lp_X12_goYear_32 k_111 n) x1 T (ih) hf
        · refine r_iconst (v := 1) dX12_goYear_67 rfl ?_
          refine r_goto (q := 72) dX12_goYear_68 rfl ?_
          exact rj_X12_goYear_72 (by omega) (lp_X12_goYear_32 k_111 n) x1 1 T (ih) hf
theorem rl_X12_goYear_115 {X : am_X} {d : Nat} (hd : 7 ≤ d) (k_154 : Int32 → am_H → Option (Int32 × am_H)) {r : Int32 × am_H} (hk_154 : ∀ (z1 : Int32) (h : am_H), am_TP h.2.2 → k_154 z1 h = some r → am_G X d 12 false cX12_goYear (some .int) 154 [some (.ref 413), some (.int z1), none] [] (am_SH, h) (some (.int r.1), (am_SH, r.2))) : ∀ (n : Nat) (x1 : Int32) (x2 : Int32) (h : am_H), am_TP h.2.2 → lp_X12_goYear_115 k_154 n x1 x2 h = some r → am_G X d 12 false cX12_goYear (some .int) 115 [some (.ref 413), some (.int x1), some (.int x2)] [] (am_SH, h) (some (.int r.1), (am_SH, r.2)) := by
  obtain ⟨d, rfl⟩ : ∃ e, d = e + 1 := ⟨d - 1, by omega⟩
  intro n
  induction n with
  | zero => intro x1 x2 h T hf; cases hf
  | succ n ih =>
    intro x1 x2 h T hf
    rw [lp_X12_goYear_115] at hf
    refine r_loc dX12_goYear_115 rfl ?_
    refine r_loc dX12_goYear_116 rfl ?_
    obtain ⟨v24, c23, hf⟩ := cal_inv hf
    have g25 := rf_X12_chambers (X := X) (d := d) (by omega) T c23
    refine r_virt (pre := []) (rest := [.int x2]) dX12_goYear_117 ct_12_343 rfl (sh_413) (Nat.le_of_ble_eq_true rfl) (Nat.le_of_ble_eq_true rfl) g25 ?_
    refine r_ge (q := 154) dX12_goYear_120 rfl hf (fun hf => ?_) (fun hf => ?_)
    · refine r_weak (L := [some (.ref 413), some (.int x1), none]) (am_le_s (am_le_s (am_le_n am_le_0))) ?_
      exact hk_154 x1 h T hf
    · refine r_loc dX12_goYear_123 rfl ?_
      refine r_loc dX12_goYear_124 rfl ?_
      obtain ⟨v27, h29, c26, hf⟩ := cal2_inv hf
      have g31 := rf_X12_isRipe (X := X) (d := d) (by omega) x2 T c26
      have T30 : am_TP h29.2.2 := g31.2
      refine r_virt (pre := [.int x2]) (rest := []) dX12_goYear_125 ct_12_399 rfl (sh_413) (Nat.le_of_ble_eq_true rfl) (Nat.le_of_ble_eq_true rfl) g31 ?_
      refine r_ne0 (q := 134) dX12_goYear_128 rfl hf (fun hf => ?_) (fun hf => ?_)
      · refine r_loc dX12_goYear_134 rfl ?_
        refine r_iconst (v := 1) dX12_goYear_135 rfl ?_
        refine r_loc dX12_goYear_136 rfl ?_
        obtain ⟨v33, c32, hf⟩ := cal_inv hf
        have g34 := rf_X12_freePlace (X := X) (d := d) (by omega) T30 c32
        refine r_virt (pre := []) (rest := [.int 1, .int x1]) dX12_goYear_137 ct_12_384 rfl (sh_413) (Nat.le_of_ble_eq_true rfl) (Nat.le_of_ble_eq_true rfl) g34 ?_
        refine r_alu dX12_goYear_140 rfl ?_
        refine r_alu dX12_goYear_141 rfl ?_
        refine r_loc (L' := [some (.ref 413), some (.int (x1 ||| ((1 : Int32) <<< (v33 &&& 31)))), some (.int x2)]) dX12_goYear_142 rfl ?_
        refine r_loc dX12_goYear_143 rfl ?_
        refine r_loc dX12_goYear_144 rfl ?_
        obtain ⟨h36, c35, hf⟩ := cal_inv hf
        have g38 := rf_X12_bringForth (X := X) (d := d) (by omega) x2 T30 c35
        have T37 : am_TP h36.2.2 := g38.2
        refine r_virt (pre := [.int x2]) (rest := []) dX12_goYear_145 ct_12_402 rfl (sh_413) (Nat.le_of_ble_eq_true rfl) (Nat.le_of_ble_eq_true rfl) g38 ?_
        refine r_loc (L' := [some (.ref 413), some (.int (x1 ||| ((1 : Int32) <<< (v33 &&& 31)))), some (.int (x2 + 1))]) dX12_goYear_148 rfl ?_
        refine r_goto (q := 115) dX12_goYear_151 rfl ?_
        exact ih (x1 ||| ((1 : Int32) <<< (v33 &&& 31))) (x2 + 1) h36 T37 hf
      · refine r_goto (q := 148) dX12_goYear_131 rfl ?_
        refine r_loc (L' := [some (.ref 413), some (.int x1), some (.int (x2 + 1))]) dX12_goYear_148 rfl ?_
        refine r_goto (q := 115) dX12_goYear_151 rfl ?_
        exact ih x1 (x2 + 1) h29 T30 hf
theorem rf_X12_goYear {X : am_X} {d : Nat} (hd : 7 ≤ d)  {h : am_H} (T : am_TP h.2.2) {r : Int32 × am_H} (hf : f_X12_goYear  h = some r) : am_G X d 12 false cX12_goYear (some .int) 0 [some (.ref 413), none, none] [] (am_SH, h) (some (.int r.1), (am_SH, r.2)) := by
  unfold f_X12_goYear at hf
  obtain ⟨d, rfl⟩ : ∃ e, d = e + 1 := ⟨d - 1, by omega⟩
  refine r_iconst (v := 0) dX12_goYear_0 rfl ?_
  refine r_loc (L' := [some (.ref 413), some (.int 0), none]) dX12_goYear_1 rfl ?_
  refine rl_X12_goYear_2 (by omega) _ ?_ 4000 0 h T hf
  · intro h6 T7 hf
    refine r_iconst (v := 0) dX12_goYear_30 rfl ?_
    refine r_loc (L' := [some (.ref 413), some (.int 0), none]) dX12_goYear_31 rfl ?_
    refine rl_X12_goYear_32 (by omega) _ ?_ 4000 0 h6 T7 hf
    · intro h21 T22 hf
      refine r_iconst (v := 0) dX12_goYear_111 rfl ?_
      refine r_loc (L' := [some (.ref 413), some (.int 0), none]) dX12_goYear_112 rfl ?_
      refine r_iconst (v := 0) dX12_goYear_113 rfl ?_
      refine r_loc (L' := [some (.ref 413), some (.int 0), some (.int 0)]) dX12_goYear_114 rfl ?_
      refine rl_X12_goYear_115 (by omega) _ ?_ 4000 0 0 h21 T22 hf
      · intro z39 h40 T41 hf
        refine r_loc dX12_goYear_154 rfl ?_
        refine r_getR dX12_goYear_155 fl_12_85 sh_413 (Or.inr ⟨_, rfl⟩) (tp_413_40 T41) ?_
        refine r_bipush (v := 57) dX12_goYear_158 rfl ?_
        refine r_alu dX12_goYear_160 rfl ?_
        refine r_iald dX12_goYear_161 sh_437 hf (fun v42 hf => ?_)
        refine r_iconst (v := 1) dX12_goYear_162 rfl ?_
        refine r_alu dX12_goYear_163 rfl ?_
        refine r_iast dX12_goYear_164 sh_437 hf (fun h43 e45 hf => ?_)
        have T44 := tp_eq e45 T41
        refine r_loc dX12_goYear_165 rfl ?_
        cases hf
        exact r_ri T44 dX12_goYear_166
def f_X12_year  (h : am_H) : Option (Int32 × am_H) := rdI h 437 59 57 fun v1 => if v1 = 999 then some ((-1), h) else cal (f_X12_keepAct h) fun h3 => cal2 (f_X12_goYear h3) fun v7 h9 => some (v7, h9)
theorem rf_X12_year {X : am_X} {d : Nat} (hd : 8 ≤ d)  {h : am_H} (T : am_TP h.2.2) {r : Int32 × am_H} (hf : f_X12_year  h = some r) : am_G X d 12 false cX12_year (some .int) 0 [some (.ref 413)] [] (am_SH, h) (some (.int r.1), (am_SH, r.2)) := by
  unfold f_X12_year at hf
  obtain ⟨d, rfl⟩ : ∃ e, d = e + 1 := ⟨d - 1, by omega⟩
  refine r_loc dX12_year_0 rfl ?_
  refine r_getR dX12_year_1 fl_12_85 sh_413 (Or.inr ⟨_, rfl⟩) (tp_413_40 T) ?_
  refine r_bipush (v := 57) dX12_year_4 rfl ?_
  refine r_iald dX12_year_6 sh_437 hf (fun v1 hf => ?_)
  refine r_sipush (v := 999) dX12_year_7 rfl ?_
  refine r_ne (q := 15) dX12_year_10 rfl hf (fun hf => ?_) (fun hf => ?_)
  · refine r_loc dX12_year_15 rfl ?_
    obtain ⟨h3, c2, hf⟩ := cal_inv hf
    have g5 := rf_X12_keepAct (X := X) (d := d) (by omega) T c2
    have T4 : am_TP h3.2.2 := g5.2
    refine r_virt (pre := []) (rest := []) dX12_year_16 ct_12_421 rfl (sh_413) (Nat.le_of_ble_eq_true rfl) (Nat.le_of_ble_eq_true rfl) g5 ?_
    refine r_loc dX12_year_19 rfl ?_
    obtain ⟨v7, h9, c6, hf⟩ := cal2_inv hf
    have g11 := rf_X12_goYear (X := X) (d := d) (by omega) T4 c6
    have T10 : am_TP h9.2.2 := g11.2
    refine r_virt (pre := []) (rest := []) dX12_year_20 ct_12_405 rfl (sh_413) (Nat.le_of_ble_eq_true rfl) (Nat.le_of_ble_eq_true rfl) g11 ?_
    cases hf
    exact r_ri T10 dX12_year_23
  · refine r_iconst (v := (-1)) dX12_year_13 rfl ?_
    cases hf
    exact r_ri T dX12_year_14
def f_X12_canCarry (x1 : Int32) (x2 : Int32) (h : am_H) : Option (Int32) := cal (f_X12_isThere x1 h) fun v2 => if v2 = 0 then some 0 else cal (f_X12_isRoom x2 h) fun v5 => if v5 = 0 then some 0 else rdI h 437 59 ((8 : Int32) + x1) fun v7 => if v7 = x2 then some 0 else cal (f_X12_leftIn x2 h) fun v9 => rdI h 437 59 ((0 : Int32) + x1) fun v11 => if v9 < v11 then some 0 else some 1
theorem rf_X12_canCarry {X : am_X} {d : Nat} (hd : 3 ≤ d) (x1 : Int32) (x2 : Int32) {h : am_H} (T : am_TP h.2.2) {r : Int32} (hf : f_X12_canCarry x1 x2 h = some r) : am_G X d 12 false cX12_canCarry (some .boolean) 0 [some (.ref 413), some (.int x1), some (.int x2)] [] (am_SH, h) (some (.int r), (am_SH, h)) := by
  unfold f_X12_canCarry at hf
  obtain ⟨d, rfl⟩ : ∃ e, d = e + 1 := ⟨d - 1, by omega⟩
  refine r_loc dX12_canCarry_0 rfl ?_
  refine r_loc dX12_canCarry_1 rfl ?_
  obtain ⟨v2, c1, hf⟩ := cal_inv hf
  have g3 := rf_X12_isThere (X := X) (d := d) (by omega) x1 T c1
  refine r_virt (pre := [.int x1]) (rest := []) dX12_canCarry_2 ct_12_411 rfl (sh_413) (Nat.le_of_ble_eq_true rfl) (Nat.le_of_ble_eq_true rfl) g3 ?_
  refine r_eq0 (q := 49) dX12_canCarry_5 rfl hf (fun hf => ?_) (fun hf => ?_)
  · refine r_iconst (v := 0) dX12_canCarry_49 rfl ?_
    cases hf
    exact r_z0 T dX12_canCarry_50
  · refine r_loc dX12_canCarry_8 rfl ?_
    refine r_loc dX12_canCarry_9 rfl ?_
    obtain ⟨v5, c4, hf⟩ := cal_inv hf
    have g6 := rf_X12_isRoom (X := X) (d := d) (by omega) x2 T c4
    refine r_virt (pre := [.int x2]) (rest := []) dX12_canCarry_10 ct_12_408 rfl (sh_413) (Nat.le_of_ble_eq_true rfl) (Nat.le_of_ble_eq_true rfl) g6 ?_
    refine r_eq0 (q := 49) dX12_canCarry_13 rfl hf (fun hf => ?_) (fun hf => ?_)
    · refine r_iconst (v := 0) dX12_canCarry_49 rfl ?_
      cases hf
      exact r_z0 T dX12_canCarry_50
    · refine r_loc dX12_canCarry_16 rfl ?_
      refine r_getR dX12_canCarry_17 fl_12_85 sh_413 (Or.inr ⟨_, rfl⟩) (tp_413_40 T) ?_
      refine r_bipush (v := 8) dX12_canCarry_20 rfl ?_
      refine r_loc dX12_canCarry_22 rfl ?_
      refine r_alu dX12_canCarry_23 rfl ?_
      refine r_iald dX12_canCarry_24 sh_437 hf (fun v7 hf => ?_)
      refine r_loc dX12_canCarry_25 rfl ?_
      refine r_eq (q := 49) dX12_canCarry_26 rfl hf (fun hf => ?_) (fun hf => ?_)
      · refine r_iconst (v := 0) dX12_canCarry_49 rfl ?_
        cases hf
        exact r_z0 T dX12_canCarry_50
      · refine r_loc dX12_canCarry_29 rfl ?_
        refine r_loc dX12_canCarry_30 rfl ?_
        obtain ⟨v9, c8, hf⟩ := cal_inv hf
        have g10 := rf_X12_leftIn (X := X) (d := d) (by omega) x2 T c8
        refine r_virt (pre := [.int x2]) (rest := []) dX12_canCarry_31 ct_12_328 rfl (sh_413) (Nat.le_of_ble_eq_true rfl) (Nat.le_of_ble_eq_true rfl) g10 ?_
        refine r_loc dX12_canCarry_34 rfl ?_
        refine r_getR dX12_canCarry_35 fl_12_85 sh_413 (Or.inr ⟨_, rfl⟩) (tp_413_40 T) ?_
        refine r_iconst (v := 0) dX12_canCarry_38 rfl ?_
        refine r_loc dX12_canCarry_39 rfl ?_
        refine r_alu dX12_canCarry_40 rfl ?_
        refine r_iald dX12_canCarry_41 sh_437 hf (fun v11 hf => ?_)
        refine r_lt (q := 49) dX12_canCarry_42 rfl hf (fun hf => ?_) (fun hf => ?_)
        · refine r_iconst (v := 0) dX12_canCarry_49 rfl ?_
          cases hf
          exact r_z0 T dX12_canCarry_50
        · refine r_iconst (v := 1) dX12_canCarry_45 rfl ?_
          refine r_goto (q := 50) dX12_canCarry_46 rfl ?_
          cases hf
          exact r_z1 T dX12_canCarry_50
def f_X12_carry (x1 : Int32) (x2 : Int32) (h : am_H) : Option (Int32 × am_H) := cal (f_X12_canCarry x1 x2 h) fun v2 => if v2 = 0 then some ((-1), h) else cal (f_X12_keepAct h) fun h5 => rdI h5 437 59 ((8 : Int32) + x1) fun v8 => wrI h5 437 59 ((8 : Int32) + x1) x2 fun h9 => some (v8, h9)
theorem rf_X12_carry {X : am_X} {d : Nat} (hd : 4 ≤ d) (x1 : Int32) (x2 : Int32) {h : am_H} (T : am_TP h.2.2) {r : Int32 × am_H} (hf : f_X12_carry x1 x2 h = some r) : am_G X d 12 false cX12_carry (some .int) 0 [some (.ref 413), some (.int x1), some (.int x2), none] [] (am_SH, h) (some (.int r.1), (am_SH, r.2)) := by
  unfold f_X12_carry at hf
  obtain ⟨d, rfl⟩ : ∃ e, d = e + 1 := ⟨d - 1, by omega⟩
  refine r_loc dX12_carry_0 rfl ?_
  refine r_loc dX12_carry_1 rfl ?_
  refine r_loc dX12_carry_2 rfl ?_
  obtain ⟨v2, c1, hf⟩ := cal_inv hf
  have g3 := rf_X12_canCarry (X := X) (d := d) (by omega) x1 x2 T c1
  refine r_virt (pre := [.int x2, .int x1]) (rest := []) dX12_carry_3 ct_12_424 rfl (sh_413) (Nat.le_of_ble_eq_true rfl) (Nat.le_of_ble_eq_true rfl) g3 ?_
  refine r_ne0 (q := 11) dX12_carry_6 rfl hf (fun hf => ?_) (fun hf => ?_)
  · refine r_loc dX12_carry_11 rfl ?_
    obtain ⟨h5, c4, hf⟩ := cal_inv hf
    have g7 := rf_X12_keepAct (X := X) (d := d) (by omega) T c4
    have T6 : am_TP h5.2.2 := g7.2
    refine r_virt (pre := []) (rest := []) dX12_carry_12 ct_12_421 rfl (sh_413) (Nat.le_of_ble_eq_true rfl) (Nat.le_of_ble_eq_true rfl) g7 ?_
    refine r_loc dX12_carry_15 rfl ?_
    refine r_getR dX12_carry_16 fl_12_85 sh_413 (Or.inr ⟨_, rfl⟩) (tp_413_40 T6) ?_
    refine r_bipush (v := 8) dX12_carry_19 rfl ?_
    refine r_loc dX12_carry_21 rfl ?_
    refine r_alu dX12_carry_22 rfl ?_
    refine r_iald dX12_carry_23 sh_437 hf (fun v8 hf => ?_)
    refine r_loc (L' := [some (.ref 413), some (.int x1), some (.int x2), some (.int v8)]) dX12_carry_24 rfl ?_
    refine r_loc dX12_carry_25 rfl ?_
    refine r_getR dX12_carry_26 fl_12_85 sh_413 (Or.inr ⟨_, rfl⟩) (tp_413_40 T6) ?_
    refine r_bipush (v := 8) dX12_carry_29 rfl ?_
    refine r_loc dX12_carry_31 rfl ?_
    refine r_alu dX12_carry_32 rfl ?_
    refine r_loc dX12_carry_33 rfl ?_
    refine r_iast dX12_carry_34 sh_437 hf (fun h9 e11 hf => ?_)
    have T10 := tp_eq e11 T6
    refine r_loc dX12_carry_35 rfl ?_
    cases hf
    exact r_ri T10 dX12_carry_36
  · refine r_iconst (v := (-1)) dX12_carry_9 rfl ?_
    cases hf
    exact r_ri T dX12_carry_10
def f_X12_tell (x1 : Int32) (h : am_H) : Option (Int32 × am_H) := cal (f_X12_isThere x1 h) fun v2 => if v2 = 0 then some ((-1), h) else rdI h 437 59 56 fun v4 => if v4 = 0 then some ((-1), h) else rdI h 437 59 ((24 : Int32) + x1) fun v5 => if v5 = 9 then some ((-1), h) else cal (f_X12_keepAct h) fun h7 => rdI h7 437 59 56 fun v10 => wrI h7 437 59 56 (v10 - 1) fun h11 => rdI h11 437 59 ((24 : Int32) + x1) fun v14 => wrI h11 437 59 ((24 : Int32) + x1) (v14 + 1) fun h15 => rdI h15 437 59 ((24 : Int32) + x1) fun v18 => some (v18, h15)
theorem rf_X12_tell {X : am_X} {d : Nat} (hd : 2 ≤ d) (x1 : Int32) {h : am_H} (T : am_TP h.2.2) {r : Int32 × am_H} (hf : f_X12_tell x1 h = some r) : am_G X d 12 false cX12_tell (some .int) 0 [some (.ref 413), some (.int x1)] [] (am_SH, h) (some (.int r.1), (am_SH, r.2)) := by
  unfold f_X12_tell at hf
  obtain ⟨d, rfl⟩ : ∃ e, d = e + 1 := ⟨d - 1, by omega⟩
  refine r_loc dX12_tell_0 rfl ?_
  refine r_loc dX12_tell_1 rfl ?_
  obtain ⟨v2, c1, hf⟩ := cal_inv hf
  have g3 := rf_X12_isThere (X := X) (d := d) (by omega) x1 T c1
  refine r_virt (pre := [.int x1]) (rest := []) dX12_tell_2 ct_12_411 rfl (sh_413) (Nat.le_of_ble_eq_true rfl) (Nat.le_of_ble_eq_true rfl) g3 ?_
  refine r_eq0 (q := 32) dX12_tell_5 rfl hf (fun hf => ?_) (fun hf => ?_)
  · refine r_iconst (v := (-1)) dX12_tell_32 rfl ?_
    cases hf
    exact r_ri T dX12_tell_33
  · refine r_loc dX12_tell_8 rfl ?_
    refine r_getR dX12_tell_9 fl_12_85 sh_413 (Or.inr ⟨_, rfl⟩) (tp_413_40 T) ?_
    refine r_bipush (v := 56) dX12_tell_12 rfl ?_
    refine r_iald dX12_tell_14 sh_437 hf (fun v4 hf => ?_)
    refine r_eq0 (q := 32) dX12_tell_15 rfl hf (fun hf => ?_) (fun hf => ?_)
    · refine r_iconst (v := (-1)) dX12_tell_32 rfl ?_
      cases hf
      exact r_ri T dX12_tell_33
    · refine r_loc dX12_tell_18 rfl ?_
      refine r_getR dX12_tell_19 fl_12_85 sh_413 (Or.inr ⟨_, rfl⟩) (tp_413_40 T) ?_
      refine r_bipush (v := 24) dX12_tell_22 rfl ?_
      refine r_loc dX12_tell_24 rfl ?_
      refine r_alu dX12_tell_25 rfl ?_
      refine r_iald dX12_tell_26 sh_437 hf (fun v5 hf => ?_)
      refine r_bipush (v := 9) dX12_tell_27 rfl ?_
      refine r_ne (q := 34) dX12_tell_29 rfl hf (fun hf => ?_) (fun hf => ?_)
      · refine r_loc dX12_tell_34 rfl ?_
        obtain ⟨h7, c6, hf⟩ := cal_inv hf
        have g9 := rf_X12_keepAct (X := X) (d := d) (by omega) T c6
        have T8 : am_TP h7.2.2 := g9.2
        refine r_virt (pre := []) (rest := []) dX12_tell_35 ct_12_421 rfl (sh_413) (Nat.le_of_ble_eq_true rfl) (Nat.le_of_ble_eq_true rfl) g9 ?_
        refine r_loc dX12_tell_38 rfl ?_
        refine r_getR dX12_tell_39 fl_12_85 sh_413 (Or.inr ⟨_, rfl⟩) (tp_413_40 T8) ?_
        refine r_bipush (v := 56) dX12_tell_42 rfl ?_
        refine r_alu dX12_tell_44 rfl ?_
        refine r_iald dX12_tell_45 sh_437 hf (fun v10 hf => ?_)
        refine r_iconst (v := 1) dX12_tell_46 rfl ?_
        refine r_alu dX12_tell_47 rfl ?_
        refine r_iast dX12_tell_48 sh_437 hf (fun h11 e13 hf => ?_)
        have T12 := tp_eq e13 T8
        refine r_loc dX12_tell_49 rfl ?_
        refine r_getR dX12_tell_50 fl_12_85 sh_413 (Or.inr ⟨_, rfl⟩) (tp_413_40 T12) ?_
        refine r_bipush (v := 24) dX12_tell_53 rfl ?_
        refine r_loc dX12_tell_55 rfl ?_
        refine r_alu dX12_tell_56 rfl ?_
        refine r_alu dX12_tell_57 rfl ?_
        refine r_iald dX12_tell_58 sh_437 hf (fun v14 hf => ?_)
        refine r_iconst (v := 1) dX12_tell_59 rfl ?_
        refine r_alu dX12_tell_60 rfl ?_
        refine r_iast dX12_tell_61 sh_437 hf (fun h15 e17 hf => ?_)
        have T16 := tp_eq e17 T12
        refine r_loc dX12_tell_62 rfl ?_
        refine r_getR dX12_tell_63 fl_12_85 sh_413 (Or.inr ⟨_, rfl⟩) (tp_413_40 T16) ?_
        refine r_bipush (v := 24) dX12_tell_66 rfl ?_
        refine r_loc dX12_tell_68 rfl ?_
        refine r_alu dX12_tell_69 rfl ?_
        refine r_iald dX12_tell_70 sh_437 hf (fun v18 hf => ?_)
        cases hf
        exact r_ri T16 dX12_tell_71
      · refine r_iconst (v := (-1)) dX12_tell_32 rfl ?_
        cases hf
        exact r_ri T dX12_tell_33
def f_X12_lose (x1 : Int32) (h : am_H) : Option (Int32 × am_H) := cal (f_X12_isThere x1 h) fun v2 => if v2 = 0 then some ((-1), h) else cal (f_X12_keepAct h) fun h5 => rdI h5 437 59 ((0 : Int32) + x1) fun v8 => cal (f_X12_loseOne x1 h5) fun h10 => some (v8, h10)
theorem rf_X12_lose {X : am_X} {d : Nat} (hd : 2 ≤ d) (x1 : Int32) {h : am_H} (T : am_TP h.2.2) {r : Int32 × am_H} (hf : f_X12_lose x1 h = some r) : am_G X d 12 false cX12_lose (some .int) 0 [some (.ref 413), some (.int x1), none] [] (am_SH, h) (some (.int r.1), (am_SH, r.2)) := by
  unfold f_X12_lose at hf
  obtain ⟨d, rfl⟩ : ∃ e, d = e + 1 := ⟨d - 1, by omega⟩
  refine r_loc dX12_lose_0 rfl ?_
  refine r_loc dX12_lose_1 rfl ?_
  obtain ⟨v2, c1, hf⟩ := cal_inv hf
  have g3 := rf_X12_isThere (X := X) (d := d) (by omega) x1 T c1
  refine r_virt (pre := [.int x1]) (rest := []) dX12_lose_2 ct_12_411 rfl (sh_413) (Nat.le_of_ble_eq_true rfl) (Nat.le_of_ble_eq_true rfl) g3 ?_
  refine r_ne0 (q := 10) dX12_lose_5 rfl hf (fun hf => ?_) (fun hf => ?_)
  · refine r_loc dX12_lose_10 rfl ?_
    obtain ⟨h5, c4, hf⟩ := cal_inv hf
    have g7 := rf_X12_keepAct (X := X) (d := d) (by omega) T c4
    have T6 : am_TP h5.2.2 := g7.2
    refine r_virt (pre := []) (rest := []) dX12_lose_11 ct_12_421 rfl (sh_413) (Nat.le_of_ble_eq_true rfl) (Nat.le_of_ble_eq_true rfl) g7 ?_
    refine r_loc dX12_lose_14 rfl ?_
    refine r_getR dX12_lose_15 fl_12_85 sh_413 (Or.inr ⟨_, rfl⟩) (tp_413_40 T6) ?_
    refine r_iconst (v := 0) dX12_lose_18 rfl ?_
    refine r_loc dX12_lose_19 rfl ?_
    refine r_alu dX12_lose_20 rfl ?_
    refine r_iald dX12_lose_21 sh_437 hf (fun v8 hf => ?_)
    refine r_loc (L' := [some (.ref 413), some (.int x1), some (.int v8)]) dX12_lose_22 rfl ?_
    refine r_loc dX12_lose_23 rfl ?_
    refine r_loc dX12_lose_24 rfl ?_
    obtain ⟨h10, c9, hf⟩ := cal_inv hf
    have g12 := rf_X12_loseOne (X := X) (d := d) (by omega) x1 T6 c9
    have T11 : am_TP h10.2.2 := g12.2
    refine r_virt (pre := [.int x1]) (rest := []) dX12_lose_25 ct_12_393 rfl (sh_413) (Nat.le_of_ble_eq_true rfl) (Nat.le_of_ble_eq_true rfl) g12 ?_
    refine r_loc dX12_lose_28 rfl ?_
    cases hf
    exact r_ri T11 dX12_lose_29
  · refine r_iconst (v := (-1)) dX12_lose_8 rfl ?_
    cases hf
    exact r_ri T dX12_lose_9
def lp_X12_swapAll_2 : Nat → Int32 → am_H → Option (am_H)
  | 0, _, _ => none
  | n + 1, x1, h => if x1 < 59 then bnd (h.1 413 44) fun v1 => rdI h 439 2419 (((59 : Int32) * v1) + x1) fun v2 => bnd (h.1 413 44) fun v3 => rdI h 437 59 x1 fun v4 => wrI h 439 2419 (((59 : Int32) * v3) + x1) v4 fun h5 => wrI h5 437 59 x1 v2 fun h8 => lp_X12_swapAll_2 n (x1 + 1) h8 else some h
def f_X12_swapAll  (h : am_H) : Option (am_H) := lp_X12_swapAll_2  4000 0 h
theorem rl_X12_swapAll_2 {X : am_X} {d : Nat} (hd : 0 ≤ d) {r : am_H} : ∀ (n : Nat) (x1 : Int32) (h : am_H), am_TP h.2.2 → lp_X12_swapAll_2 n x1 h = some r → am_G X d 12 false cX12_swapAll none 2 [some (.ref 413), some (.int x1), none] [] (am_SH, h) (none, (am_SH, r)) := by
  intro n
  induction n with
  | zero => intro x1 h T hf; cases hf
  | succ n ih =>
    intro x1 h T hf
    rw [lp_X12_swapAll_2] at hf
    refine r_loc dX12_swapAll_2 rfl ?_
    refine r_bipush (v := 59) dX12_swapAll_3 rfl ?_
    refine r_ge (q := 56) dX12_swapAll_5 rfl hf (fun hf => ?_) (fun hf => ?_)
    · cases hf
      exact r_ret T dX12_swapAll_56 rfl
    · refine r_loc dX12_swapAll_8 rfl ?_
      refine r_getR dX12_swapAll_9 fl_12_94 sh_413 (Or.inr ⟨_, rfl⟩) (tp_413_43 T) ?_
      refine r_bipush (v := 59) dX12_swapAll_12 rfl ?_
      refine r_loc dX12_swapAll_14 rfl ?_
      refine r_getI dX12_swapAll_15 fl_12_363 sh_413 rfl hf (fun v1 hf => ?_)
      refine r_alu dX12_swapAll_18 rfl ?_
      refine r_loc dX12_swapAll_19 rfl ?_
      refine r_alu dX12_swapAll_20 rfl ?_
      refine r_iald dX12_swapAll_21 sh_439 hf (fun v2 hf => ?_)
      refine r_loc (L' := [some (.ref 413), some (.int x1), some (.int v2)]) dX12_swapAll_22 rfl ?_
      refine r_loc dX12_swapAll_23 rfl ?_
      refine r_getR dX12_swapAll_24 fl_12_94 sh_413 (Or.inr ⟨_, rfl⟩) (tp_413_43 T) ?_
      refine r_bipush (v := 59) dX12_swapAll_27 rfl ?_
      refine r_loc dX12_swapAll_29 rfl ?_
      refine r_getI dX12_swapAll_30 fl_12_363 sh_413 rfl hf (fun v3 hf => ?_)
      refine r_alu dX12_swapAll_33 rfl ?_
      refine r_loc dX12_swapAll_34 rfl ?_
      refine r_alu dX12_swapAll_35 rfl ?_
      refine r_loc dX12_swapAll_36 rfl ?_
      refine r_getR dX12_swapAll_37 fl_12_85 sh_413 (Or.inr ⟨_, rfl⟩) (tp_413_40 T) ?_
      refine r_loc dX12_swapAll_40 rfl ?_
      refine r_iald dX12_swapAll_41 sh_437 hf (fun v4 hf => ?_)
      refine r_iast dX12_swapAll_42 sh_439 hf (fun h5 e7 hf => ?_)
      have T6 := tp_eq e7 T
      refine r_loc dX12_swapAll_43 rfl ?_
      refine r_getR dX12_swapAll_44 fl_12_85 sh_413 (Or.inr ⟨_, rfl⟩) (tp_413_40 T6) ?_
      refine r_loc dX12_swapAll_47 rfl ?_
      refine r_loc dX12_swapAll_48 rfl ?_
      refine r_iast dX12_swapAll_49 sh_437 hf (fun h8 e10 hf => ?_)
      have T9 := tp_eq e10 T6
      refine r_loc (L' := [some (.ref 413), some (.int (x1 + 1)), some (.int v2)]) dX12_swapAll_50 rfl ?_
      refine r_goto (q := 2) dX12_swapAll_53 rfl ?_
      refine r_weak (L := [some (.ref 413), some (.int (x1 + 1)), none]) (am_le_s (am_le_s (am_le_n am_le_0))) ?_
      exact ih (x1 + 1) h8 T9 hf
theorem rf_X12_swapAll {X : am_X} {d : Nat} (hd : 0 ≤ d)  {h : am_H} (T : am_TP h.2.2) {r : am_H} (hf : f_X12_swapAll  h = some r) : am_G X d 12 false cX12_swapAll none 0 [some (.ref 413), none, none] [] (am_SH, h) (none, (am_SH, r)) := by
  unfold f_X12_swapAll at hf
  refine r_iconst (v := 0) dX12_swapAll_0 rfl ?_
  refine r_loc (L' := [some (.ref 413), some (.int 0), none]) dX12_swapAll_1 rfl ?_
  refine rl_X12_swapAll_2 (by omega)  4000 0 h T hf
def f_X12_undo  (h : am_H) : Option (Int32 × am_H) := bnd (h.1 413 44) fun v1 => if v1 = 0 then some (0, h) else bnd (h.1 413 44) fun v2 => ptI h 413 44 (v2 - 1) fun h3 => bnd (h3.1 413 45) fun v6 => ptI h3 413 45 (v6 + 1) fun h7 => cal (f_X12_swapAll h7) fun h11 => some (1, h11)
theorem rf_X12_undo {X : am_X} {d : Nat} (hd : 1 ≤ d)  {h : am_H} (T : am_TP h.2.2) {r : Int32 × am_H} (hf : f_X12_undo  h = some r) : am_G X d 12 false cX12_undo (some .boolean) 0 [some (.ref 413)] [] (am_SH, h) (some (.int r.1), (am_SH, r.2)) := by
  unfold f_X12_undo at hf
  obtain ⟨d, rfl⟩ : ∃ e, d = e + 1 := ⟨d - 1, by omega⟩
  refine r_loc dX12_undo_0 rfl ?_
  refine r_getI dX12_undo_1 fl_12_363 sh_413 rfl hf (fun v1 hf => ?_)
  refine r_ne0 (q := 9) dX12_undo_4 rfl hf (fun hf => ?_) (fun hf => ?_)
  · refine r_loc dX12_undo_9 rfl ?_
    refine r_alu dX12_undo_10 rfl ?_
    refine r_getI dX12_undo_11 fl_12_363 sh_413 rfl hf (fun v2 hf => ?_)
    refine r_iconst (v := 1) dX12_undo_14 rfl ?_
    refine r_alu dX12_undo_15 rfl ?_
    refine r_putI dX12_undo_16 fl_12_363 sh_413 ⟨rfl, rfl⟩ hf (fun h3 e5 hf => ?_)
    have T4 := tp_eq e5 T
    refine r_loc dX12_undo_19 rfl ?_
    refine r_alu dX12_undo_20 rfl ?_
    refine r_getI dX12_undo_21 fl_12_366 sh_413 rfl hf (fun v6 hf => ?_)
    refine r_iconst (v := 1) dX12_undo_24 rfl ?_
    refine r_alu dX12_undo_25 rfl ?_
    refine r_putI dX12_undo_26 fl_12_366 sh_413 ⟨rfl, rfl⟩ hf (fun h7 e9 hf => ?_)
    have T8 := tp_eq e9 T4
    refine r_loc dX12_undo_29 rfl ?_
    obtain ⟨h11, c10, hf⟩ := cal_inv hf
    have g13 := rf_X12_swapAll (X := X) (d := d) (by omega) T8 c10
    have T12 : am_TP h11.2.2 := g13.2
    refine r_virt (pre := []) (rest := []) dX12_undo_30 ct_12_427 rfl (sh_413) (Nat.le_of_ble_eq_true rfl) (Nat.le_of_ble_eq_true rfl) g13 ?_
    refine r_iconst (v := 1) dX12_undo_33 rfl ?_
    cases hf
    exact r_z1 T12 dX12_undo_34
  · refine r_iconst (v := 0) dX12_undo_7 rfl ?_
    cases hf
    exact r_z0 T dX12_undo_8
def f_X12_redo  (h : am_H) : Option (Int32 × am_H) := bnd (h.1 413 45) fun v1 => if v1 = 0 then some (0, h) else cal (f_X12_swapAll h) fun h3 => bnd (h3.1 413 44) fun v6 => ptI h3 413 44 (v6 + 1) fun h7 => bnd (h7.1 413 45) fun v10 => ptI h7 413 45 (v10 - 1) fun h11 => some (1, h11)
theorem rf_X12_redo {X : am_X} {d : Nat} (hd : 1 ≤ d)  {h : am_H} (T : am_TP h.2.2) {r : Int32 × am_H} (hf : f_X12_redo  h = some r) : am_G X d 12 false cX12_redo (some .boolean) 0 [some (.ref 413)] [] (am_SH, h) (some (.int r.1), (am_SH, r.2)) := by
  unfold f_X12_redo at hf
  obtain ⟨d, rfl⟩ : ∃ e, d = e + 1 := ⟨d - 1, by omega⟩
  refine r_loc dX12_redo_0 rfl ?_
  refine r_getI dX12_redo_1 fl_12_366 sh_413 rfl hf (fun v1 hf => ?_)
  refine r_ne0 (q := 9) dX12_redo_4 rfl hf (fun hf => ?_) (fun hf => ?_)
  · refine r_loc dX12_redo_9 rfl ?_
    obtain ⟨h3, c2, hf⟩ := cal_inv hf
    have g5 := rf_X12_swapAll (X := X) (d := d) (by omega) T c2
    have T4 : am_TP h3.2.2 := g5.2
    refine r_virt (pre := []) (rest := []) dX12_redo_10 ct_12_427 rfl (sh_413) (Nat.le_of_ble_eq_true rfl) (Nat.le_of_ble_eq_true rfl) g5 ?_
    refine r_loc dX12_redo_13 rfl ?_
    refine r_alu dX12_redo_14 rfl ?_
    refine r_getI dX12_redo_15 fl_12_363 sh_413 rfl hf (fun v6 hf => ?_)
    refine r_iconst (v := 1) dX12_redo_18 rfl ?_
    refine r_alu dX12_redo_19 rfl ?_
    refine r_putI dX12_redo_20 fl_12_363 sh_413 ⟨rfl, rfl⟩ hf (fun h7 e9 hf => ?_)
    have T8 := tp_eq e9 T4
    refine r_loc dX12_redo_23 rfl ?_
    refine r_alu dX12_redo_24 rfl ?_
    refine r_getI dX12_redo_25 fl_12_366 sh_413 rfl hf (fun v10 hf => ?_)
    refine r_iconst (v := 1) dX12_redo_28 rfl ?_
    refine r_alu dX12_redo_29 rfl ?_
    refine r_putI dX12_redo_30 fl_12_366 sh_413 ⟨rfl, rfl⟩ hf (fun h11 e13 hf => ?_)
    have T12 := tp_eq e13 T8
    refine r_iconst (v := 1) dX12_redo_33 rfl ?_
    cases hf
    exact r_z1 T12 dX12_redo_34
  · refine r_iconst (v := 0) dX12_redo_7 rfl ?_
    cases hf
    exact r_z0 T dX12_redo_8
def lp_X12_keepNow_2 : Nat → Int32 → am_H → Option (am_H)
  | 0, _, _ => none
  | n + 1, x1, h => if x1 < 59 then rdI h 437 59 x1 fun v1 => wrI h 438 59 x1 v1 fun h2 => lp_X12_keepNow_2 n (x1 + 1) h2 else some h
def f_X12_keepNow  (h : am_H) : Option (am_H) := lp_X12_keepNow_2  4000 0 h
theorem rl_X12_keepNow_2 {X : am_X} {d : Nat} (hd : 0 ≤ d) {r : am_H} : ∀ (n : Nat) (x1 : Int32) (h : am_H), am_TP h.2.2 → lp_X12_keepNow_2 n x1 h = some r → am_G X d 12 false cX12_keepNow none 2 [some (.ref 413), some (.int x1)] [] (am_SH, h) (none, (am_SH, r)) := by
  intro n
  induction n with
  | zero => intro x1 h T hf; cases hf
  | succ n ih =>
    intro x1 h T hf
    rw [lp_X12_keepNow_2] at hf
    refine r_loc dX12_keepNow_2 rfl ?_
    refine r_bipush (v := 59) dX12_keepNow_3 rfl ?_
    refine r_ge (q := 26) dX12_keepNow_5 rfl hf (fun hf => ?_) (fun hf => ?_)
    · cases hf
      exact r_ret T dX12_keepNow_26 rfl
    · refine r_loc dX12_keepNow_8 rfl ?_
      refine r_getR dX12_keepNow_9 fl_12_88 sh_413 (Or.inr ⟨_, rfl⟩) (tp_413_41 T) ?_
      refine r_loc dX12_keepNow_12 rfl ?_
      refine r_loc dX12_keepNow_13 rfl ?_
      refine r_getR dX12_keepNow_14 fl_12_85 sh_413 (Or.inr ⟨_, rfl⟩) (tp_413_40 T) ?_
      refine r_loc dX12_keepNow_17 rfl ?_
      refine r_iald dX12_keepNow_18 sh_437 hf (fun v1 hf => ?_)
      refine r_iast dX12_keepNow_19 sh_438 hf (fun h2 e4 hf => ?_)
      have T3 := tp_eq e4 T
      refine r_loc (L' := [some (.ref 413), some (.int (x1 + 1))]) dX12_keepNow_20 rfl ?_
      refine r_goto (q := 2) dX12_keepNow_23 rfl ?_
      exact ih (x1 + 1) h2 T3 hf
theorem rf_X12_keepNow {X : am_X} {d : Nat} (hd : 0 ≤ d)  {h : am_H} (T : am_TP h.2.2) {r : am_H} (hf : f_X12_keepNow  h = some r) : am_G X d 12 false cX12_keepNow none 0 [some (.ref 413), none] [] (am_SH, h) (none, (am_SH, r)) := by
  unfold f_X12_keepNow at hf
  refine r_iconst (v := 0) dX12_keepNow_0 rfl ?_
  refine r_loc (L' := [some (.ref 413), some (.int 0)]) dX12_keepNow_1 rfl ?_
  refine rl_X12_keepNow_2 (by omega)  4000 0 h T hf
def lp_X12_goYears_4 (p1 : Int32) : Nat → Int32 → Int32 → am_H → Option (Int32 × am_H)
  | 0, _, _, _ => none
  | n + 1, x2, x3, h => if x3 < p1 then cal2 (f_X12_goYear h) fun v2 h4 => lp_X12_goYears_4 p1 n (x2 ||| v2) (x3 + 1) h4 else some (x2, h)
def f_X12_goYears (x1 : Int32) (h : am_H) : Option (Int32 × am_H) := lp_X12_goYears_4 x1  4000 0 0 h
theorem rl_X12_goYears_4 {X : am_X} {d : Nat} (hd : 8 ≤ d) (p1 : Int32) {r : Int32 × am_H} : ∀ (n : Nat) (x2 : Int32) (x3 : Int32) (h : am_H), am_TP h.2.2 → lp_X12_goYears_4 p1 n x2 x3 h = some r → am_G X d 12 false cX12_goYears (some .int) 4 [some (.ref 413), some (.int p1), some (.int x2), some (.int x3)] [] (am_SH, h) (some (.int r.1), (am_SH, r.2)) := by
  obtain ⟨d, rfl⟩ : ∃ e, d = e + 1 := ⟨d - 1, by omega⟩
  intro n
  induction n with
  | zero => intro x2 x3 h T hf; cases hf
  | succ n ih =>
    intro x2 x3 h T hf
    rw [lp_X12_goYears_4] at hf
    refine r_loc dX12_goYears_4 rfl ?_
    refine r_loc dX12_goYears_5 rfl ?_
    refine r_ge (q := 22) dX12_goYears_6 rfl hf (fun hf => ?_) (fun hf => ?_)
    · refine r_loc dX12_goYears_22 rfl ?_
      cases hf
      exact r_ri T dX12_goYears_23
    · refine r_loc dX12_goYears_9 rfl ?_
      refine r_loc dX12_goYears_10 rfl ?_
      obtain ⟨v2, h4, c1, hf⟩ := cal2_inv hf
      have g6 := rf_X12_goYear (X := X) (d := d) (by omega) T c1
      have T5 : am_TP h4.2.2 := g6.2
      refine r_virt (pre := []) (rest := [.int x2]) dX12_goYears_11 ct_12_405 rfl (sh_413) (Nat.le_of_ble_eq_true rfl) (Nat.le_of_ble_eq_true rfl) g6 ?_
      refine r_alu dX12_goYears_14 rfl ?_
      refine r_loc (L' := [some (.ref 413), some (.int p1), some (.int (x2 ||| v2)), some (.int x3)]) dX12_goYears_15 rfl ?_
      refine r_loc (L' := [some (.ref 413), some (.int p1), some (.int (x2 ||| v2)), some (.int (x3 + 1))]) dX12_goYears_16 rfl ?_
      refine r_goto (q := 4) dX12_goYears_19 rfl ?_
      exact ih (x2 ||| v2) (x3 + 1) h4 T5 hf
theorem rf_X12_goYears {X : am_X} {d : Nat} (hd : 8 ≤ d) (x1 : Int32) {h : am_H} (T : am_TP h.2.2) {r : Int32 × am_H} (hf : f_X12_goYears x1 h = some r) : am_G X d 12 false cX12_goYears (some .int) 0 [some (.ref 413), some (.int x1), none, none] [] (am_SH, h) (some (.int r.1), (am_SH, r.2)) := by
  unfold f_X12_goYears at hf
  obtain ⟨d, rfl⟩ : ∃ e, d = e + 1 := ⟨d - 1, by omega⟩
  refine r_iconst (v := 0) dX12_goYears_0 rfl ?_
  refine r_loc (L' := [some (.ref 413), some (.int x1), some (.int 0), none]) dX12_goYears_1 rfl ?_
  refine r_iconst (v := 0) dX12_goYears_2 rfl ?_
  refine r_loc (L' := [some (.ref 413), some (.int x1), some (.int 0), some (.int 0)]) dX12_goYears_3 rfl ?_
  refine rl_X12_goYears_4 (by omega) x1  4000 0 0 h T hf
def lp_X12_bringBack_2 : Nat → Int32 → am_H → Option (am_H)
  | 0, _, _ => none
  | n + 1, x1, h => if x1 < 59 then rdI h 438 59 x1 fun v1 => wrI h 437 59 x1 v1 fun h2 => lp_X12_bringBack_2 n (x1 + 1) h2 else some h
def f_X12_bringBack  (h : am_H) : Option (am_H) := lp_X12_bringBack_2  4000 0 h
theorem rl_X12_bringBack_2 {X : am_X} {d : Nat} (hd : 0 ≤ d) {r : am_H} : ∀ (n : Nat) (x1 : Int32) (h : am_H), am_TP h.2.2 → lp_X12_bringBack_2 n x1 h = some r → am_G X d 12 false cX12_bringBack none 2 [some (.ref 413), some (.int x1)] [] (am_SH, h) (none, (am_SH, r)) := by
  intro n
  induction n with
  | zero => intro x1 h T hf; cases hf
  | succ n ih =>
    intro x1 h T hf
    rw [lp_X12_bringBack_2] at hf
    refine r_loc dX12_bringBack_2 rfl ?_
    refine r_bipush (v := 59) dX12_bringBack_3 rfl ?_
    refine r_ge (q := 26) dX12_bringBack_5 rfl hf (fun hf => ?_) (fun hf => ?_)
    · cases hf
      exact r_ret T dX12_bringBack_26 rfl
    · refine r_loc dX12_bringBack_8 rfl ?_
      refine r_getR dX12_bringBack_9 fl_12_85 sh_413 (Or.inr ⟨_, rfl⟩) (tp_413_40 T) ?_
      refine r_loc dX12_bringBack_12 rfl ?_
      refine r_loc dX12_bringBack_13 rfl ?_
      refine r_getR dX12_bringBack_14 fl_12_88 sh_413 (Or.inr ⟨_, rfl⟩) (tp_413_41 T) ?_
      refine r_loc dX12_bringBack_17 rfl ?_
      refine r_iald dX12_bringBack_18 sh_438 hf (fun v1 hf => ?_)
      refine r_iast dX12_bringBack_19 sh_437 hf (fun h2 e4 hf => ?_)
      have T3 := tp_eq e4 T
      refine r_loc (L' := [some (.ref 413), some (.int (x1 + 1))]) dX12_bringBack_20 rfl ?_
      refine r_goto (q := 2) dX12_bringBack_23 rfl ?_
      exact ih (x1 + 1) h2 T3 hf
theorem rf_X12_bringBack {X : am_X} {d : Nat} (hd : 0 ≤ d)  {h : am_H} (T : am_TP h.2.2) {r : am_H} (hf : f_X12_bringBack  h = some r) : am_G X d 12 false cX12_bringBack none 0 [some (.ref 413), none] [] (am_SH, h) (none, (am_SH, r)) := by
  unfold f_X12_bringBack at hf
  refine r_iconst (v := 0) dX12_bringBack_0 rfl ?_
  refine r_loc (L' := [some (.ref 413), some (.int 0)]) dX12_bringBack_1 rfl ?_
  refine rl_X12_bringBack_2 (by omega)  4000 0 h T hf
def f_X12_will (x1 : Int32) (x2 : Int32) (x3 : Int32) (h : am_H) : Option (Int32 × am_H) := cal (f_X12_isIn x1 0 7 h) fun v2 => if v2 = 0 then some ((-1), h) else cal (f_X12_isIn x2 0 30 h) fun v5 => if v5 = 0 then some ((-1), h) else cal (f_X12_isIn x3 0 1 h) fun v8 => if v8 = 0 then some ((-1), h) else cal (f_X12_keepNow h) fun h11 => cal2 (f_X12_goYears x2 h11) fun v15 h17 => rdI h17 437 59 ((0 : Int32) + x1) fun v20 => if v20 = 0 then cal (f_X12_bringBack h17) fun h32 => some ((-1), h32) else if x3 = 0 then rdI h17 437 59 ((0 : Int32) + x1) fun v26 => cal (f_X12_bringBack h17) fun h28 => some (v26, h28) else rdI h17 437 59 ((16 : Int32) + x1) fun v21 => cal (f_X12_bringBack h17) fun h23 => some (v21, h23)
theorem rf_X12_will {X : am_X} {d : Nat} (hd : 9 ≤ d) (x1 : Int32) (x2 : Int32) (x3 : Int32) {h : am_H} (T : am_TP h.2.2) {r : Int32 × am_H} (hf : f_X12_will x1 x2 x3 h = some r) : am_G X d 12 false cX12_will (some .int) 0 [some (.ref 413), some (.int x1), some (.int x2), some (.int x3), none, none] [] (am_SH, h) (some (.int r.1), (am_SH, r.2)) := by
  unfold f_X12_will at hf
  obtain ⟨d, rfl⟩ : ∃ e, d = e + 1 := ⟨d - 1, by omega⟩
  refine r_loc dX12_will_0 rfl ?_
  refine r_iconst (v := 0) dX12_will_1 rfl ?_
  refine r_bipush (v := 7) dX12_will_2 rfl ?_
  obtain ⟨v2, c1, hf⟩ := cal_inv hf
  have g3 := rf_X12_isIn (X := X) (d := d) (by omega) x1 0 7 T c1
  refine r_stat (pre := [.int 7, .int 0, .int x1]) (rest := []) dX12_will_4 ct_12_346 rfl (Nat.le_of_ble_eq_true rfl) (Nat.le_of_ble_eq_true rfl) g3 ?_
  refine r_eq0 (q := 29) dX12_will_7 rfl hf (fun hf => ?_) (fun hf => ?_)
  · refine r_iconst (v := (-1)) dX12_will_29 rfl ?_
    cases hf
    exact r_ri T dX12_will_30
  · refine r_loc dX12_will_10 rfl ?_
    refine r_iconst (v := 0) dX12_will_11 rfl ?_
    refine r_bipush (v := 30) dX12_will_12 rfl ?_
    obtain ⟨v5, c4, hf⟩ := cal_inv hf
    have g6 := rf_X12_isIn (X := X) (d := d) (by omega) x2 0 30 T c4
    refine r_stat (pre := [.int 30, .int 0, .int x2]) (rest := []) dX12_will_14 ct_12_346 rfl (Nat.le_of_ble_eq_true rfl) (Nat.le_of_ble_eq_true rfl) g6 ?_
    refine r_eq0 (q := 29) dX12_will_17 rfl hf (fun hf => ?_) (fun hf => ?_)
    · refine r_iconst (v := (-1)) dX12_will_29 rfl ?_
      cases hf
      exact r_ri T dX12_will_30
    · refine r_loc dX12_will_20 rfl ?_
      refine r_iconst (v := 0) dX12_will_21 rfl ?_
      refine r_iconst (v := 1) dX12_will_22 rfl ?_
      obtain ⟨v8, c7, hf⟩ := cal_inv hf
      have g9 := rf_X12_isIn (X := X) (d := d) (by omega) x3 0 1 T c7
      refine r_stat (pre := [.int 1, .int 0, .int x3]) (rest := []) dX12_will_23 ct_12_346 rfl (Nat.le_of_ble_eq_true rfl) (Nat.le_of_ble_eq_true rfl) g9 ?_
      refine r_ne0 (q := 31) dX12_will_26 rfl hf (fun hf => ?_) (fun hf => ?_)
      · refine r_loc dX12_will_31 rfl ?_
        obtain ⟨h11, c10, hf⟩ := cal_inv hf
        have g13 := rf_X12_keepNow (X := X) (d := d) (by omega) T c10
        have T12 : am_TP h11.2.2 := g13.2
        refine r_virt (pre := []) (rest := []) dX12_will_32 ct_12_430 rfl (sh_413) (Nat.le_of_ble_eq_true rfl) (Nat.le_of_ble_eq_true rfl) g13 ?_
        refine r_loc dX12_will_35 rfl ?_
        refine r_loc dX12_will_36 rfl ?_
        obtain ⟨v15, h17, c14, hf⟩ := cal2_inv hf
        have g19 := rf_X12_goYears (X := X) (d := d) (by omega) x2 T12 c14
        have T18 : am_TP h17.2.2 := g19.2
        refine r_virt (pre := [.int x2]) (rest := []) dX12_will_37 ct_12_433 rfl (sh_413) (Nat.le_of_ble_eq_true rfl) (Nat.le_of_ble_eq_true rfl) g19 ?_
        refine r_loc (L' := [some (.ref 413), some (.int x1), some (.int x2), some (.int x3), some (.int v15), none]) dX12_will_40 rfl ?_
        refine r_loc dX12_will_42 rfl ?_
        refine r_getR dX12_will_43 fl_12_85 sh_413 (Or.inr ⟨_, rfl⟩) (tp_413_40 T18) ?_
        refine r_iconst (v := 0) dX12_will_46 rfl ?_
        refine r_loc dX12_will_47 rfl ?_
        refine r_alu dX12_will_48 rfl ?_
        refine r_iald dX12_will_49 sh_437 hf (fun v20 hf => ?_)
        refine r_ne0 (q := 57) dX12_will_50 rfl hf (fun hf => ?_) (fun hf => ?_)
        · refine r_loc dX12_will_57 rfl ?_
          refine r_ne0 (q := 72) dX12_will_58 rfl hf (fun hf => ?_) (fun hf => ?_)
          · refine r_loc dX12_will_72 rfl ?_
            refine r_getR dX12_will_73 fl_12_85 sh_413 (Or.inr ⟨_, rfl⟩) (tp_413_40 T18) ?_
            refine r_bipush (v := 16) dX12_will_76 rfl ?_
            refine r_loc dX12_will_78 rfl ?_
            refine r_alu dX12_will_79 rfl ?_
            refine r_iald dX12_will_80 sh_437 hf (fun v21 hf => ?_)
            refine r_loc (L' := [some (.ref 413), some (.int x1), some (.int x2), some (.int x3), some (.int v15), some (.int v21)]) dX12_will_81 rfl ?_
            refine r_loc dX12_will_83 rfl ?_
            obtain ⟨h23, c22, hf⟩ := cal_inv hf
            have g25 := rf_X12_bringBack (X := X) (d := d) (by omega) T18 c22
            have T24 : am_TP h23.2.2 := g25.2
            refine r_virt (pre := []) (rest := []) dX12_will_84 ct_12_436 rfl (sh_413) (Nat.le_of_ble_eq_true rfl) (Nat.le_of_ble_eq_true rfl) g25 ?_
            refine r_loc dX12_will_87 rfl ?_
            cases hf
            exact r_ri T24 dX12_will_89
          · refine r_loc dX12_will_61 rfl ?_
            refine r_getR dX12_will_62 fl_12_85 sh_413 (Or.inr ⟨_, rfl⟩) (tp_413_40 T18) ?_
            refine r_iconst (v := 0) dX12_will_65 rfl ?_
            refine r_loc dX12_will_66 rfl ?_
            refine r_alu dX12_will_67 rfl ?_
            refine r_iald dX12_will_68 sh_437 hf (fun v26 hf => ?_)
            refine r_goto (q := 81) dX12_will_69 rfl ?_
            refine r_loc (L' := [some (.ref 413), some (.int x1), some (.int x2), some (.int x3), some (.int v15), some (.int v26)]) dX12_will_81 rfl ?_
            refine r_loc dX12_will_83 rfl ?_
            obtain ⟨h28, c27, hf⟩ := cal_inv hf
            have g30 := rf_X12_bringBack (X := X) (d := d) (by omega) T18 c27
            have T29 : am_TP h28.2.2 := g30.2
            refine r_virt (pre := []) (rest := []) dX12_will_84 ct_12_436 rfl (sh_413) (Nat.le_of_ble_eq_true rfl) (Nat.le_of_ble_eq_true rfl) g30 ?_
            refine r_loc dX12_will_87 rfl ?_
            cases hf
            exact r_ri T29 dX12_will_89
        · refine r_iconst (v := (-1)) dX12_will_53 rfl ?_
          refine r_goto (q := 81) dX12_will_54 rfl ?_
          refine r_loc (L' := [some (.ref 413), some (.int x1), some (.int x2), some (.int x3), some (.int v15), some (.int (-1))]) dX12_will_81 rfl ?_
          refine r_loc dX12_will_83 rfl ?_
          obtain ⟨h32, c31, hf⟩ := cal_inv hf
          have g34 := rf_X12_bringBack (X := X) (d := d) (by omega) T18 c31
          have T33 : am_TP h32.2.2 := g34.2
          refine r_virt (pre := []) (rest := []) dX12_will_84 ct_12_436 rfl (sh_413) (Nat.le_of_ble_eq_true rfl) (Nat.le_of_ble_eq_true rfl) g34 ?_
          refine r_loc dX12_will_87 rfl ?_
          cases hf
          exact r_ri T33 dX12_will_89
      · refine r_iconst (v := (-1)) dX12_will_29 rfl ?_
        cases hf
        exact r_ri T dX12_will_30
def f_X12_alive (x1 : Int32) (h : am_H) : Option (Int32 × am_H) := cal (f_X12_isIn x1 0 30 h) fun v2 => if v2 = 0 then some ((-1), h) else cal (f_X12_keepNow h) fun h5 => cal2 (f_X12_goYears x1 h5) fun v9 h11 => cal (f_X12_those h11) fun v15 => cal (f_X12_bringBack h11) fun h18 => some (v15, h18)
theorem rf_X12_alive {X : am_X} {d : Nat} (hd : 9 ≤ d) (x1 : Int32) {h : am_H} (T : am_TP h.2.2) {r : Int32 × am_H} (hf : f_X12_alive x1 h = some r) : am_G X d 12 false cX12_alive (some .int) 0 [some (.ref 413), some (.int x1), none, none] [] (am_SH, h) (some (.int r.1), (am_SH, r.2)) := by
  unfold f_X12_alive at hf
  obtain ⟨d, rfl⟩ : ∃ e, d = e + 1 := ⟨d - 1, by omega⟩
  refine r_loc dX12_alive_0 rfl ?_
  refine r_iconst (v := 0) dX12_alive_1 rfl ?_
  refine r_bipush (v := 30) dX12_alive_2 rfl ?_
  obtain ⟨v2, c1, hf⟩ := cal_inv hf
  have g3 := rf_X12_isIn (X := X) (d := d) (by omega) x1 0 30 T c1
  refine r_stat (pre := [.int 30, .int 0, .int x1]) (rest := []) dX12_alive_4 ct_12_346 rfl (Nat.le_of_ble_eq_true rfl) (Nat.le_of_ble_eq_true rfl) g3 ?_
  refine r_ne0 (q := 12) dX12_alive_7 rfl hf (fun hf => ?_) (fun hf => ?_)
  · refine r_loc dX12_alive_12 rfl ?_
    obtain ⟨h5, c4, hf⟩ := cal_inv hf
    have g7 := rf_X12_keepNow (X := X) (d := d) (by omega) T c4
    have T6 : am_TP h5.2.2 := g7.2
    refine r_virt (pre := []) (rest := []) dX12_alive_13 ct_12_430 rfl (sh_413) (Nat.le_of_ble_eq_true rfl) (Nat.le_of_ble_eq_true rfl) g7 ?_
    refine r_loc dX12_alive_16 rfl ?_
    refine r_loc dX12_alive_17 rfl ?_
    obtain ⟨v9, h11, c8, hf⟩ := cal2_inv hf
    have g13 := rf_X12_goYears (X := X) (d := d) (by omega) x1 T6 c8
    have T12 : am_TP h11.2.2 := g13.2
    refine r_virt (pre := [.int x1]) (rest := []) dX12_alive_18 ct_12_433 rfl (sh_413) (Nat.le_of_ble_eq_true rfl) (Nat.le_of_ble_eq_true rfl) g13 ?_
    refine r_loc (L' := [some (.ref 413), some (.int x1), some (.int v9), none]) dX12_alive_21 rfl ?_
    refine r_loc dX12_alive_22 rfl ?_
    obtain ⟨v15, c14, hf⟩ := cal_inv hf
    have g16 := rf_X12_those (X := X) (d := d) (by omega) T12 c14
    refine r_virt (pre := []) (rest := []) dX12_alive_23 ct_12_331 rfl (sh_413) (Nat.le_of_ble_eq_true rfl) (Nat.le_of_ble_eq_true rfl) g16 ?_
    refine r_loc (L' := [some (.ref 413), some (.int x1), some (.int v9), some (.int v15)]) dX12_alive_26 rfl ?_
    refine r_loc dX12_alive_27 rfl ?_
    obtain ⟨h18, c17, hf⟩ := cal_inv hf
    have g20 := rf_X12_bringBack (X := X) (d := d) (by omega) T12 c17
    have T19 : am_TP h18.2.2 := g20.2
    refine r_virt (pre := []) (rest := []) dX12_alive_28 ct_12_436 rfl (sh_413) (Nat.le_of_ble_eq_true rfl) (Nat.le_of_ble_eq_true rfl) g20 ?_
    refine r_loc dX12_alive_31 rfl ?_
    cases hf
    exact r_ri T19 dX12_alive_32
  · refine r_iconst (v := (-1)) dX12_alive_10 rfl ?_
    cases hf
    exact r_ri T dX12_alive_11
def lp_X12_marksAll_4 (h : am_H) : Nat → Int32 → Int32 → Option (Int32)
  | 0, _, _ => none
  | n + 1, x1, x2 => if x2 < 8 then rdI h 437 59 ((0 : Int32) + x2) fun v1 => if 0 < v1 then rdI h 437 59 ((16 : Int32) + x2) fun v2 => lp_X12_marksAll_4 h n (x1 ||| v2) (x2 + 1) else lp_X12_marksAll_4 h n x1 (x2 + 1) else some x1
def f_X12_marksAll  (h : am_H) : Option (Int32) := lp_X12_marksAll_4 h  4000 0 0
theorem rl_X12_marksAll_4 {X : am_X} {d : Nat} (hd : 0 ≤ d) {h : am_H} (T : am_TP h.2.2) {r : Int32} : ∀ (n : Nat) (x1 : Int32) (x2 : Int32) , lp_X12_marksAll_4 h n x1 x2 = some r → am_G X d 12 false cX12_marksAll (some .int) 4 [some (.ref 413), some (.int x1), some (.int x2)] [] (am_SH, h) (some (.int r), (am_SH, h)) := by
  intro n
  induction n with
  | zero => intro x1 x2 hf; cases hf
  | succ n ih =>
    intro x1 x2 hf
    rw [lp_X12_marksAll_4] at hf
    refine r_loc dX12_marksAll_4 rfl ?_
    refine r_bipush (v := 8) dX12_marksAll_5 rfl ?_
    refine r_ge (q := 39) dX12_marksAll_7 rfl hf (fun hf => ?_) (fun hf => ?_)
    · refine r_loc dX12_marksAll_39 rfl ?_
      cases hf
      exact r_ri T dX12_marksAll_40
    · refine r_loc dX12_marksAll_10 rfl ?_
      refine r_getR dX12_marksAll_11 fl_12_85 sh_413 (Or.inr ⟨_, rfl⟩) (tp_413_40 T) ?_
      refine r_iconst (v := 0) dX12_marksAll_14 rfl ?_
      refine r_loc dX12_marksAll_15 rfl ?_
      refine r_alu dX12_marksAll_16 rfl ?_
      refine r_iald dX12_marksAll_17 sh_437 hf (fun v1 hf => ?_)
      refine r_le0 (q := 33) dX12_marksAll_18 rfl hf (fun hf => ?_) (fun hf => ?_)
      · refine r_loc (L' := [some (.ref 413), some (.int x1), some (.int (x2 + 1))]) dX12_marksAll_33 rfl ?_
        refine r_goto (q := 4) dX12_marksAll_36 rfl ?_
        exact ih x1 (x2 + 1) hf
      · refine r_loc dX12_marksAll_21 rfl ?_
        refine r_loc dX12_marksAll_22 rfl ?_
        refine r_getR dX12_marksAll_23 fl_12_85 sh_413 (Or.inr ⟨_, rfl⟩) (tp_413_40 T) ?_
        refine r_bipush (v := 16) dX12_marksAll_26 rfl ?_
        refine r_loc dX12_marksAll_28 rfl ?_
        refine r_alu dX12_marksAll_29 rfl ?_
        refine r_iald dX12_marksAll_30 sh_437 hf (fun v2 hf => ?_)
        refine r_alu dX12_marksAll_31 rfl ?_
        refine r_loc (L' := [some (.ref 413), some (.int (x1 ||| v2)), some (.int x2)]) dX12_marksAll_32 rfl ?_
        refine r_loc (L' := [some (.ref 413), some (.int (x1 ||| v2)), some (.int (x2 + 1))]) dX12_marksAll_33 rfl ?_
        refine r_goto (q := 4) dX12_marksAll_36 rfl ?_
        exact ih (x1 ||| v2) (x2 + 1) hf
theorem rf_X12_marksAll {X : am_X} {d : Nat} (hd : 0 ≤ d)  {h : am_H} (T : am_TP h.2.2) {r : Int32} (hf : f_X12_marksAll  h = some r) : am_G X d 12 false cX12_marksAll (some .int) 0 [some (.ref 413), none, none] [] (am_SH, h) (some (.int r), (am_SH, h)) := by
  unfold f_X12_marksAll at hf
  refine r_iconst (v := 0) dX12_marksAll_0 rfl ?_
  refine r_loc (L' := [some (.ref 413), some (.int 0), none]) dX12_marksAll_1 rfl ?_
  refine r_iconst (v := 0) dX12_marksAll_2 rfl ?_
  refine r_loc (L' := [some (.ref 413), some (.int 0), some (.int 0)]) dX12_marksAll_3 rfl ?_
  refine rl_X12_marksAll_4 (by omega) T  4000 0 0  hf
def f_X12_fading (x1 : Int32) (h : am_H) : Option (Int32 × am_H) := cal (f_X12_isIn x1 0 30 h) fun v2 => if v2 = 0 then some ((-1), h) else cal (f_X12_keepNow h) fun h5 => cal (f_X12_marksAll h5) fun v9 => cal2 (f_X12_goYears x1 h5) fun v12 h14 => cal (f_X12_marksAll h14) fun v18 => cal (f_X12_bringBack h14) fun h21 => some ((v9 &&& (v18 ^^^ ((-1) : Int32))), h21)
theorem rf_X12_fading {X : am_X} {d : Nat} (hd : 9 ≤ d) (x1 : Int32) {h : am_H} (T : am_TP h.2.2) {r : Int32 × am_H} (hf : f_X12_fading x1 h = some r) : am_G X d 12 false cX12_fading (some .int) 0 [some (.ref 413), some (.int x1), none, none, none] [] (am_SH, h) (some (.int r.1), (am_SH, r.2)) := by
  unfold f_X12_fading at hf
  obtain ⟨d, rfl⟩ : ∃ e, d = e + 1 := ⟨d - 1, by omega⟩
  refine r_loc dX12_fading_0 rfl ?_
  refine r_iconst (v := 0) dX12_fading_1 rfl ?_
  refine r_bipush (v := 30) dX12_fading_2 rfl ?_
  obtain ⟨v2, c1, hf⟩ := cal_inv hf
  have g3 := rf_X12_isIn (X := X) (d := d) (by omega) x1 0 30 T c1
  refine r_stat (pre := [.int 30, .int 0, .int x1]) (rest := []) dX12_fading_4 ct_12_346 rfl (Nat.le_of_ble_eq_true rfl) (Nat.le_of_ble_eq_true rfl) g3 ?_
  refine r_ne0 (q := 12) dX12_fading_7 rfl hf (fun hf => ?_) (fun hf => ?_)
  · refine r_loc dX12_fading_12 rfl ?_
    obtain ⟨h5, c4, hf⟩ := cal_inv hf
    have g7 := rf_X12_keepNow (X := X) (d := d) (by omega) T c4
    have T6 : am_TP h5.2.2 := g7.2
    refine r_virt (pre := []) (rest := []) dX12_fading_13 ct_12_430 rfl (sh_413) (Nat.le_of_ble_eq_true rfl) (Nat.le_of_ble_eq_true rfl) g7 ?_
    refine r_loc dX12_fading_16 rfl ?_
    obtain ⟨v9, c8, hf⟩ := cal_inv hf
    have g10 := rf_X12_marksAll (X := X) (d := d) (by omega) T6 c8
    refine r_virt (pre := []) (rest := []) dX12_fading_17 ct_12_439 rfl (sh_413) (Nat.le_of_ble_eq_true rfl) (Nat.le_of_ble_eq_true rfl) g10 ?_
    refine r_loc (L' := [some (.ref 413), some (.int x1), some (.int v9), none, none]) dX12_fading_20 rfl ?_
    refine r_loc dX12_fading_21 rfl ?_
    refine r_loc dX12_fading_22 rfl ?_
    obtain ⟨v12, h14, c11, hf⟩ := cal2_inv hf
    have g16 := rf_X12_goYears (X := X) (d := d) (by omega) x1 T6 c11
    have T15 : am_TP h14.2.2 := g16.2
    refine r_virt (pre := [.int x1]) (rest := []) dX12_fading_23 ct_12_433 rfl (sh_413) (Nat.le_of_ble_eq_true rfl) (Nat.le_of_ble_eq_true rfl) g16 ?_
    refine r_loc (L' := [some (.ref 413), some (.int x1), some (.int v9), some (.int v12), none]) dX12_fading_26 rfl ?_
    refine r_loc dX12_fading_27 rfl ?_
    refine r_loc dX12_fading_28 rfl ?_
    obtain ⟨v18, c17, hf⟩ := cal_inv hf
    have g19 := rf_X12_marksAll (X := X) (d := d) (by omega) T15 c17
    refine r_virt (pre := []) (rest := [.int v9]) dX12_fading_29 ct_12_439 rfl (sh_413) (Nat.le_of_ble_eq_true rfl) (Nat.le_of_ble_eq_true rfl) g19 ?_
    refine r_iconst (v := (-1)) dX12_fading_32 rfl ?_
    refine r_alu dX12_fading_33 rfl ?_
    refine r_alu dX12_fading_34 rfl ?_
    refine r_loc (L' := [some (.ref 413), some (.int x1), some (.int v9), some (.int v12), some (.int (v9 &&& (v18 ^^^ ((-1) : Int32))))]) dX12_fading_35 rfl ?_
    refine r_loc dX12_fading_37 rfl ?_
    obtain ⟨h21, c20, hf⟩ := cal_inv hf
    have g23 := rf_X12_bringBack (X := X) (d := d) (by omega) T15 c20
    have T22 : am_TP h21.2.2 := g23.2
    refine r_virt (pre := []) (rest := []) dX12_fading_38 ct_12_436 rfl (sh_413) (Nat.le_of_ble_eq_true rfl) (Nat.le_of_ble_eq_true rfl) g23 ?_
    refine r_loc dX12_fading_41 rfl ?_
    cases hf
    exact r_ri T22 dX12_fading_43
  · refine r_iconst (v := (-1)) dX12_fading_10 rfl ?_
    cases hf
    exact r_ri T dX12_fading_11
def f_X12_law (x1 : Int32) (x2 : Int32) (h : am_H) : Option (Int32 × am_H) := cal (f_X12_isIn x1 1 9 h) fun v2 => if v2 = 0 then some ((-1), h) else cal (f_X12_isIn x2 0 30 h) fun v5 => if v5 = 0 then some ((-1), h) else cal (f_X12_keepNow h) fun h8 => ptI h8 413 42 x1 fun h11 => cal2 (f_X12_goYears x2 h11) fun v15 h17 => ptI h17 413 42 (-1) fun h20 => cal (f_X12_those h20) fun v24 => cal (f_X12_bitsOf v24 h20) fun v27 => cal (f_X12_bringBack h20) fun h30 => some (v27, h30)
theorem rf_X12_law {X : am_X} {d : Nat} (hd : 9 ≤ d) (x1 : Int32) (x2 : Int32) {h : am_H} (T : am_TP h.2.2) {r : Int32 × am_H} (hf : f_X12_law x1 x2 h = some r) : am_G X d 12 false cX12_law (some .int) 0 [some (.ref 413), some (.int x1), some (.int x2), none, none] [] (am_SH, h) (some (.int r.1), (am_SH, r.2)) := by
  unfold f_X12_law at hf
  obtain ⟨d, rfl⟩ : ∃ e, d = e + 1 := ⟨d - 1, by omega⟩
  refine r_loc dX12_law_0 rfl ?_
  refine r_iconst (v := 1) dX12_law_1 rfl ?_
  refine r_bipush (v := 9) dX12_law_2 rfl ?_
  obtain ⟨v2, c1, hf⟩ := cal_inv hf
  have g3 := rf_X12_isIn (X := X) (d := d) (by omega) x1 1 9 T c1
  refine r_stat (pre := [.int 9, .int 1, .int x1]) (rest := []) dX12_law_4 ct_12_346 rfl (Nat.le_of_ble_eq_true rfl) (Nat.le_of_ble_eq_true rfl) g3 ?_
  refine r_eq0 (q := 20) dX12_law_7 rfl hf (fun hf => ?_) (fun hf => ?_)
  · refine r_iconst (v := (-1)) dX12_law_20 rfl ?_
    cases hf
    exact r_ri T dX12_law_21
  · refine r_loc dX12_law_10 rfl ?_
    refine r_iconst (v := 0) dX12_law_11 rfl ?_
    refine r_bipush (v := 30) dX12_law_12 rfl ?_
    obtain ⟨v5, c4, hf⟩ := cal_inv hf
    have g6 := rf_X12_isIn (X := X) (d := d) (by omega) x2 0 30 T c4
    refine r_stat (pre := [.int 30, .int 0, .int x2]) (rest := []) dX12_law_14 ct_12_346 rfl (Nat.le_of_ble_eq_true rfl) (Nat.le_of_ble_eq_true rfl) g6 ?_
    refine r_ne0 (q := 22) dX12_law_17 rfl hf (fun hf => ?_) (fun hf => ?_)
    · refine r_loc dX12_law_22 rfl ?_
      obtain ⟨h8, c7, hf⟩ := cal_inv hf
      have g10 := rf_X12_keepNow (X := X) (d := d) (by omega) T c7
      have T9 : am_TP h8.2.2 := g10.2
      refine r_virt (pre := []) (rest := []) dX12_law_23 ct_12_430 rfl (sh_413) (Nat.le_of_ble_eq_true rfl) (Nat.le_of_ble_eq_true rfl) g10 ?_
      refine r_loc dX12_law_26 rfl ?_
      refine r_loc dX12_law_27 rfl ?_
      refine r_putI dX12_law_28 fl_12_91 sh_413 ⟨rfl, rfl⟩ hf (fun h11 e13 hf => ?_)
      have T12 := tp_eq e13 T9
      refine r_loc dX12_law_31 rfl ?_
      refine r_loc dX12_law_32 rfl ?_
      obtain ⟨v15, h17, c14, hf⟩ := cal2_inv hf
      have g19 := rf_X12_goYears (X := X) (d := d) (by omega) x2 T12 c14
      have T18 : am_TP h17.2.2 := g19.2
      refine r_virt (pre := [.int x2]) (rest := []) dX12_law_33 ct_12_433 rfl (sh_413) (Nat.le_of_ble_eq_true rfl) (Nat.le_of_ble_eq_true rfl) g19 ?_
      refine r_loc (L' := [some (.ref 413), some (.int x1), some (.int x2), some (.int v15), none]) dX12_law_36 rfl ?_
      refine r_loc dX12_law_37 rfl ?_
      refine r_iconst (v := (-1)) dX12_law_38 rfl ?_
      refine r_putI dX12_law_39 fl_12_91 sh_413 ⟨rfl, rfl⟩ hf (fun h20 e22 hf => ?_)
      have T21 := tp_eq e22 T18
      refine r_loc dX12_law_42 rfl ?_
      obtain ⟨v24, c23, hf⟩ := cal_inv hf
      have g25 := rf_X12_those (X := X) (d := d) (by omega) T21 c23
      refine r_virt (pre := []) (rest := []) dX12_law_43 ct_12_331 rfl (sh_413) (Nat.le_of_ble_eq_true rfl) (Nat.le_of_ble_eq_true rfl) g25 ?_
      obtain ⟨v27, c26, hf⟩ := cal_inv hf
      have g28 := rf_X12_bitsOf (X := X) (d := d) (by omega) v24 T21 c26
      refine r_stat (pre := [.int v24]) (rest := []) dX12_law_46 ct_12_334 rfl (Nat.le_of_ble_eq_true rfl) (Nat.le_of_ble_eq_true rfl) g28 ?_
      refine r_loc (L' := [some (.ref 413), some (.int x1), some (.int x2), some (.int v15), some (.int v27)]) dX12_law_49 rfl ?_
      refine r_loc dX12_law_51 rfl ?_
      obtain ⟨h30, c29, hf⟩ := cal_inv hf
      have g32 := rf_X12_bringBack (X := X) (d := d) (by omega) T21 c29
      have T31 : am_TP h30.2.2 := g32.2
      refine r_virt (pre := []) (rest := []) dX12_law_52 ct_12_436 rfl (sh_413) (Nat.le_of_ble_eq_true rfl) (Nat.le_of_ble_eq_true rfl) g32 ?_
      refine r_loc dX12_law_55 rfl ?_
      cases hf
      exact r_ri T31 dX12_law_57
    · refine r_iconst (v := (-1)) dX12_law_20 rfl ?_
      cases hf
      exact r_ri T dX12_law_21
def lp_X12_gone_18 (p1 : Int32) (k_59 : Int32 → am_H → Option (Int32 × am_H)) : Nat → Int32 → Int32 → am_H → Option (Int32 × am_H)
  | 0, _, _, _ => none
  | n + 1, x2, x3, h => if 30 < x3 then k_59 x2 h else if x2 < 0 then cal2 (f_X12_goYear h) fun v9 h11 => cal (f_X12_isThere p1 h11) fun v15 => if v15 = 0 then lp_X12_gone_18 p1 k_59 n x3 (x3 + 1) h11 else cal (f_X12_bit v9 p1 h11) fun v18 => if v18 = 0 then lp_X12_gone_18 p1 k_59 n x2 (x3 + 1) h11 else lp_X12_gone_18 p1 k_59 n x3 (x3 + 1) h11 else k_59 x2 h
def f_X12_gone (x1 : Int32) (h : am_H) : Option (Int32 × am_H) := cal (f_X12_isThere x1 h) fun v2 => if v2 = 0 then some ((-1), h) else cal (f_X12_keepNow h) fun h5 => lp_X12_gone_18 x1 (fun z20 h21 => cal (f_X12_bringBack h21) fun h24 => some (z20, h24)) 4000 (-1) 1 h5
theorem rl_X12_gone_18 {X : am_X} {d : Nat} (hd : 8 ≤ d) (p1 : Int32) (k_59 : Int32 → am_H → Option (Int32 × am_H)) {r : Int32 × am_H} (hk_59 : ∀ (z2 : Int32) (h : am_H), am_TP h.2.2 → k_59 z2 h = some r → am_G X d 12 false cX12_gone (some .int) 59 [some (.ref 413), none, some (.int z2), none, none] [] (am_SH, h) (some (.int r.1), (am_SH, r.2))) : ∀ (n : Nat) (x2 : Int32) (x3 : Int32) (h : am_H), am_TP h.2.2 → lp_X12_gone_18 p1 k_59 n x2 x3 h = some r → am_G X d 12 false cX12_gone (some .int) 18 [some (.ref 413), some (.int p1), some (.int x2), some (.int x3), none] [] (am_SH, h) (some (.int r.1), (am_SH, r.2)) := by
  obtain ⟨d, rfl⟩ : ∃ e, d = e + 1 := ⟨d - 1, by omega⟩
  intro n
  induction n with
  | zero => intro x2 x3 h T hf; cases hf
  | succ n ih =>
    intro x2 x3 h T hf
    rw [lp_X12_gone_18] at hf
    refine r_loc dX12_gone_18 rfl ?_
    refine r_bipush (v := 30) dX12_gone_19 rfl ?_
    refine r_gt (q := 59) dX12_gone_21 rfl hf (fun hf => ?_) (fun hf => ?_)
    · refine r_weak (L := [some (.ref 413), none, some (.int x2), none, none]) (am_le_s (am_le_n (am_le_s (am_le_n (am_le_n am_le_0))))) ?_
      exact hk_59 x2 h T hf
    · refine r_loc dX12_gone_24 rfl ?_
      refine r_ge0 (q := 59) dX12_gone_25 rfl hf (fun hf => ?_) (fun hf => ?_)
      · refine r_weak (L := [some (.ref 413), none, some (.int x2), none, none]) (am_le_s (am_le_n (am_le_s (am_le_n (am_le_n am_le_0))))) ?_
        exact hk_59 x2 h T hf
      · refine r_loc dX12_gone_28 rfl ?_
        obtain ⟨v9, h11, c8, hf⟩ := cal2_inv hf
        have g13 := rf_X12_goYear (X := X) (d := d) (by omega) T c8
        have T12 : am_TP h11.2.2 := g13.2
        refine r_virt (pre := []) (rest := []) dX12_gone_29 ct_12_405 rfl (sh_413) (Nat.le_of_ble_eq_true rfl) (Nat.le_of_ble_eq_true rfl) g13 ?_
        refine r_loc (L' := [some (.ref 413), some (.int p1), some (.int x2), some (.int x3), some (.int v9)]) dX12_gone_32 rfl ?_
        refine r_loc dX12_gone_34 rfl ?_
        refine r_loc dX12_gone_35 rfl ?_
        obtain ⟨v15, c14, hf⟩ := cal_inv hf
        have g16 := rf_X12_isThere (X := X) (d := d) (by omega) p1 T12 c14
        refine r_virt (pre := [.int p1]) (rest := []) dX12_gone_36 ct_12_411 rfl (sh_413) (Nat.le_of_ble_eq_true rfl) (Nat.le_of_ble_eq_true rfl) g16 ?_
        refine r_eq0 (q := 51) dX12_gone_39 rfl hf (fun hf => ?_) (fun hf => ?_)
        · refine r_loc dX12_gone_51 rfl ?_
          refine r_loc (L' := [some (.ref 413), some (.int p1), some (.int x3), some (.int x3), some (.int v9)]) dX12_gone_52 rfl ?_
          refine r_loc (L' := [some (.ref 413), some (.int p1), some (.int x3), some (.int (x3 + 1)), some (.int v9)]) dX12_gone_53 rfl ?_
          refine r_goto (q := 18) dX12_gone_56 rfl ?_
          refine r_weak (L := [some (.ref 413), some (.int p1), some (.int x3), some (.int (x3 + 1)), none]) (am_le_s (am_le_s (am_le_s (am_le_s (am_le_n am_le_0))))) ?_
          exact ih x3 (x3 + 1) h11 T12 hf
        · refine r_loc dX12_gone_42 rfl ?_
          refine r_loc dX12_gone_44 rfl ?_
          obtain ⟨v18, c17, hf⟩ := cal_inv hf
          have g19 := rf_X12_bit (X := X) (d := d) (by omega) v9 p1 T12 c17
          refine r_stat (pre := [.int p1, .int v9]) (rest := []) dX12_gone_45 ct_12_250 rfl (Nat.le_of_ble_eq_true rfl) (Nat.le_of_ble_eq_true rfl) g19 ?_
          refine r_eq0 (q := 53) dX12_gone_48 rfl hf (fun hf => ?_) (fun hf => ?_)
          · refine r_loc (L' := [some (.ref 413), some (.int p1), some (.int x2), some (.int (x3 + 1)), some (.int v9)]) dX12_gone_53 rfl ?_
            refine r_goto (q := 18) dX12_gone_56 rfl ?_
            refine r_weak (L := [some (.ref 413), some (.int p1), some (.int x2), some (.int (x3 + 1)), none]) (am_le_s (am_le_s (am_le_s (am_le_s (am_le_n am_le_0))))) ?_
            exact ih x2 (x3 + 1) h11 T12 hf
          · refine r_loc dX12_gone_51 rfl ?_
            refine r_loc (L' := [some (.ref 413), some (.int p1), some (.int x3), some (.int x3), some (.int v9)]) dX12_gone_52 rfl ?_
            refine r_loc (L' := [some (.ref 413), some (.int p1), some (.int x3), some (.int (x3 + 1)), some (.int v9)]) dX12_gone_53 rfl ?_
            refine r_goto (q := 18) dX12_gone_56 rfl ?_
            refine r_weak (L := [some (.ref 413), some (.int p1), some (.int x3), some (.int (x3 + 1)), none]) (am_le_s (am_le_s (am_le_s (am_le_s (am_le_n am_le_0))))) ?_
            exact ih x3 (x3 + 1) h11 T12 hf
theorem rf_X12_gone {X : am_X} {d : Nat} (hd : 8 ≤ d) (x1 : Int32) {h : am_H} (T : am_TP h.2.2) {r : Int32 × am_H} (hf : f_X12_gone x1 h = some r) : am_G X d 12 false cX12_gone (some .int) 0 [some (.ref 413), some (.int x1), none, none, none] [] (am_SH, h) (some (.int r.1), (am_SH, r.2)) := by
  unfold f_X12_gone at hf
  obtain ⟨d, rfl⟩ : ∃ e, d = e + 1 := ⟨d - 1, by omega⟩
  refine r_loc dX12_gone_0 rfl ?_
  refine r_loc dX12_gone_1 rfl ?_
  obtain ⟨v2, c1, hf⟩ := cal_inv hf
  have g3 := rf_X12_isThere (X := X) (d := d) (by omega) x1 T c1
  refine r_virt (pre := [.int x1]) (rest := []) dX12_gone_2 ct_12_411 rfl (sh_413) (Nat.le_of_ble_eq_true rfl) (Nat.le_of_ble_eq_true rfl) g3 ?_
  refine r_ne0 (q := 10) dX12_gone_5 rfl hf (fun hf => ?_) (fun hf => ?_)
  · refine r_loc dX12_gone_10 rfl ?_
    obtain ⟨h5, c4, hf⟩ := cal_inv hf
    have g7 := rf_X12_keepNow (X := X) (d := d) (by omega) T c4
    have T6 : am_TP h5.2.2 := g7.2
    refine r_virt (pre := []) (rest := []) dX12_gone_11 ct_12_430 rfl (sh_413) (Nat.le_of_ble_eq_true rfl) (Nat.le_of_ble_eq_true rfl) g7 ?_
    refine r_iconst (v := (-1)) dX12_gone_14 rfl ?_
    refine r_loc (L' := [some (.ref 413), some (.int x1), some (.int (-1)), none, none]) dX12_gone_15 rfl ?_
    refine r_iconst (v := 1) dX12_gone_16 rfl ?_
    refine r_loc (L' := [some (.ref 413), some (.int x1), some (.int (-1)), some (.int 1), none]) dX12_gone_17 rfl ?_
    refine rl_X12_gone_18 (by omega) x1 _ ?_ 4000 (-1) 1 h5 T6 hf
    · intro z20 h21 T22 hf
      refine r_loc dX12_gone_59 rfl ?_
      obtain ⟨h24, c23, hf⟩ := cal_inv hf
      have g26 := rf_X12_bringBack (X := X) (d := d) (by omega) T22 c23
      have T25 : am_TP h24.2.2 := g26.2
      refine r_virt (pre := []) (rest := []) dX12_gone_60 ct_12_436 rfl (sh_413) (Nat.le_of_ble_eq_true rfl) (Nat.le_of_ble_eq_true rfl) g26 ?_
      refine r_loc dX12_gone_63 rfl ?_
      cases hf
      exact r_ri T25 dX12_gone_64
  · refine r_iconst (v := (-1)) dX12_gone_8 rfl ?_
    cases hf
    exact r_ri T dX12_gone_9
def lp_X12_need_16 (p1 : Int32) (h : am_H) : Nat → Int32 → Int32 → Option (Int32)
  | 0, _, _ => none
  | n + 1, x2, x3 => if x3 < 8 then cal (f_X12_isThere x3 h) fun v5 => if v5 = 0 then lp_X12_need_16 p1 h n (x2 + 0) (x3 + 1) else rdI h 437 59 ((24 : Int32) + x3) fun v7 => if v7 < p1 then rdI h 437 59 ((24 : Int32) + x3) fun v8 => lp_X12_need_16 p1 h n (x2 + (p1 - v8)) (x3 + 1) else lp_X12_need_16 p1 h n (x2 + 0) (x3 + 1) else some x2
def f_X12_need (x1 : Int32) (h : am_H) : Option (Int32) := cal (f_X12_isIn x1 0 30 h) fun v2 => if v2 = 0 then some (-1) else lp_X12_need_16 x1 h  4000 0 0
theorem rl_X12_need_16 {X : am_X} {d : Nat} (hd : 2 ≤ d) (p1 : Int32) {h : am_H} (T : am_TP h.2.2) {r : Int32} : ∀ (n : Nat) (x2 : Int32) (x3 : Int32) , lp_X12_need_16 p1 h n x2 x3 = some r → am_G X d 12 false cX12_need (some .int) 16 [some (.ref 413), some (.int p1), some (.int x2), some (.int x3)] [] (am_SH, h) (some (.int r), (am_SH, h)) := by
  obtain ⟨d, rfl⟩ : ∃ e, d = e + 1 := ⟨d - 1, by omega⟩
  intro n
  induction n with
  | zero => intro x2 x3 hf; cases hf
  | succ n ih =>
    intro x2 x3 hf
    rw [lp_X12_need_16] at hf
    refine r_loc dX12_need_16 rfl ?_
    refine r_bipush (v := 8) dX12_need_17 rfl ?_
    refine r_ge (q := 67) dX12_need_19 rfl hf (fun hf => ?_) (fun hf => ?_)
    · refine r_loc dX12_need_67 rfl ?_
      cases hf
      exact r_ri T dX12_need_68
    · refine r_loc dX12_need_22 rfl ?_
      refine r_loc dX12_need_23 rfl ?_
      refine r_loc dX12_need_24 rfl ?_
      obtain ⟨v5, c4, hf⟩ := cal_inv hf
      have g6 := rf_X12_isThere (X := X) (d := d) (by omega) x3 T c4
      refine r_virt (pre := [.int x3]) (rest := [.int x2]) dX12_need_25 ct_12_411 rfl (sh_413) (Nat.le_of_ble_eq_true rfl) (Nat.le_of_ble_eq_true rfl) g6 ?_
      refine r_eq0 (q := 58) dX12_need_28 rfl hf (fun hf => ?_) (fun hf => ?_)
      · refine r_iconst (v := 0) dX12_need_58 rfl ?_
        refine r_alu dX12_need_59 rfl ?_
        refine r_loc (L' := [some (.ref 413), some (.int p1), some (.int (x2 + 0)), some (.int x3)]) dX12_need_60 rfl ?_
        refine r_loc (L' := [some (.ref 413), some (.int p1), some (.int (x2 + 0)), some (.int (x3 + 1))]) dX12_need_61 rfl ?_
        refine r_goto (q := 16) dX12_need_64 rfl ?_
        exact ih (x2 + 0) (x3 + 1) hf
      · refine r_loc dX12_need_31 rfl ?_
        refine r_loc dX12_need_32 rfl ?_
        refine r_getR dX12_need_33 fl_12_85 sh_413 (Or.inr ⟨_, rfl⟩) (tp_413_40 T) ?_
        refine r_bipush (v := 24) dX12_need_36 rfl ?_
        refine r_loc dX12_need_38 rfl ?_
        refine r_alu dX12_need_39 rfl ?_
        refine r_iald dX12_need_40 sh_437 hf (fun v7 hf => ?_)
        refine r_le (q := 58) dX12_need_41 rfl hf (fun hf => ?_) (fun hf => ?_)
        · refine r_iconst (v := 0) dX12_need_58 rfl ?_
          refine r_alu dX12_need_59 rfl ?_
          refine r_loc (L' := [some (.ref 413), some (.int p1), some (.int (x2 + 0)), some (.int x3)]) dX12_need_60 rfl ?_
          refine r_loc (L' := [some (.ref 413), some (.int p1), some (.int (x2 + 0)), some (.int (x3 + 1))]) dX12_need_61 rfl ?_
          refine r_goto (q := 16) dX12_need_64 rfl ?_
          exact ih (x2 + 0) (x3 + 1) hf
        · refine r_loc dX12_need_44 rfl ?_
          refine r_loc dX12_need_45 rfl ?_
          refine r_getR dX12_need_46 fl_12_85 sh_413 (Or.inr ⟨_, rfl⟩) (tp_413_40 T) ?_
          refine r_bipush (v := 24) dX12_need_49 rfl ?_
          refine r_loc dX12_need_51 rfl ?_
          refine r_alu dX12_need_52 rfl ?_
          refine r_iald dX12_need_53 sh_437 hf (fun v8 hf => ?_)
          refine r_alu dX12_need_54 rfl ?_
          refine r_goto (q := 59) dX12_need_55 rfl ?_
          refine r_alu dX12_need_59 rfl ?_
          refine r_loc (L' := [some (.ref 413), some (.int p1), some (.int (x2 + (p1 - v8))), some (.int x3)]) dX12_need_60 rfl ?_
          refine r_loc (L' := [some (.ref 413), some (.int p1), some (.int (x2 + (p1 - v8))), some (.int (x3 + 1))]) dX12_need_61 rfl ?_
          refine r_goto (q := 16) dX12_need_64 rfl ?_
          exact ih (x2 + (p1 - v8)) (x3 + 1) hf
theorem rf_X12_need {X : am_X} {d : Nat} (hd : 2 ≤ d) (x1 : Int32) {h : am_H} (T : am_TP h.2.2) {r : Int32} (hf : f_X12_need x1 h = some r) : am_G X d 12 false cX12_need (some .int) 0 [some (.ref 413), some (.int x1), none, none] [] (am_SH, h) (some (.int r), (am_SH, h)) := by
  unfold f_X12_need at hf
  obtain ⟨d, rfl⟩ : ∃ e, d = e + 1 := ⟨d - 1, by omega⟩
  refine r_loc dX12_need_0 rfl ?_
  refine r_iconst (v := 0) dX12_need_1 rfl ?_
  refine r_bipush (v := 30) dX12_need_2 rfl ?_
  obtain ⟨v2, c1, hf⟩ := cal_inv hf
  have g3 := rf_X12_isIn (X := X) (d := d) (by omega) x1 0 30 T c1
  refine r_stat (pre := [.int 30, .int 0, .int x1]) (rest := []) dX12_need_4 ct_12_346 rfl (Nat.le_of_ble_eq_true rfl) (Nat.le_of_ble_eq_true rfl) g3 ?_
  refine r_ne0 (q := 12) dX12_need_7 rfl hf (fun hf => ?_) (fun hf => ?_)
  · refine r_iconst (v := 0) dX12_need_12 rfl ?_
    refine r_loc (L' := [some (.ref 413), some (.int x1), some (.int 0), none]) dX12_need_13 rfl ?_
    refine r_iconst (v := 0) dX12_need_14 rfl ?_
    refine r_loc (L' := [some (.ref 413), some (.int x1), some (.int 0), some (.int 0)]) dX12_need_15 rfl ?_
    refine rl_X12_need_16 (by omega) x1 T  4000 0 0  hf
  · refine r_iconst (v := (-1)) dX12_need_10 rfl ?_
    cases hf
    exact r_ri T dX12_need_11
def jn_X12_best_63 (k_27 : Int32 → Int32 → Int32 → am_H → Option (Int32 × am_H)) (x1 : Int32) (x2 : Int32) (x3 : Int32) (x4 : Int32) (x5 : Int32) (h : am_H) : Option (Int32 × am_H) := cal (f_X12_keepNow h) fun h12 => wrI h12 437 59 ((8 : Int32) + x1) x5 fun h15 => cal2 (f_X12_goYears 5 h15) fun v19 h21 => cal (f_X12_those h21) fun v25 => cal (f_X12_bitsOf v25 h21) fun v28 => cal (f_X12_bringBack h21) fun h31 => if x4 < v28 then k_27 x5 v28 (x5 + 1) h31 else k_27 x3 x4 (x5 + 1) h31
def lp_X12_best_27 (p1 : Int32) (p2 : Int32) (k_121 : Int32 → Int32 → am_H → Option (Int32 × am_H)) : Nat → Int32 → Int32 → Int32 → am_H → Option (Int32 × am_H)
  | 0, _, _, _, _ => none
  | n + 1, x3, x4, x5, h => cal (f_X12_chambers h) fun v8 => if x5 < v8 then rdI h 437 59 ((8 : Int32) + p1) fun v10 => if v10 = x5 then jn_X12_best_63 (lp_X12_best_27 p1 p2 k_121 n) p1 p2 x3 x4 x5 h else cal (f_X12_canCarry p1 x5 h) fun v35 => if v35 = 0 then lp_X12_best_27 p1 p2 k_121 n x3 x4 (x5 + 1) h else jn_X12_best_63 (lp_X12_best_27 p1 p2 k_121 n) p1 p2 x3 x4 x5 h else k_121 x3 x4 h
def f_X12_best (x1 : Int32) (x2 : Int32) (h : am_H) : Option (Int32 × am_H) := cal (f_X12_isThere x1 h) fun v2 => if v2 = 0 then some ((-1), h) else cal (f_X12_isIn x2 0 1 h) fun v5 => if v5 = 0 then some ((-1), h) else lp_X12_best_27 x1 x2 (fun z37 z38 h39 => if x2 = 0 then some (z37, h39) else some (z38, h39)) 4000 (-1) (-1) 0 h
theorem rj_X12_best_63 {X : am_X} {d : Nat} (hd : 9 ≤ d) (k_27 : Int32 → Int32 → Int32 → am_H → Option (Int32 × am_H)) (x1 : Int32) (x2 : Int32) (x3 : Int32) (x4 : Int32) (x5 : Int32) {h : am_H} (T : am_TP h.2.2) {r : Int32 × am_H} (hk_27 : ∀ (x3 : Int32) (x4 : Int32) (x5 : Int32) (h : am_H), am_TP h.2.2 → k_27 x3 x4 x5 h = some r → am_G X d 12 false cX12_best (some .int) 27 [some (.ref 413), some (.int x1), some (.int x2), some (.int x3), some (.int x4), some (.int x5), none, none] [] (am_SH, h) (some (.int r.1), (am_SH, r.2))) (hf : jn_X12_best_63 k_27 x1 x2 x3 x4 x5 h = some r) : am_G X d 12 false cX12_best (some .int) 63 [some (.ref 413), some (.int x1), some (.int x2), some (.int x3), some (.int x4), some (.int x5), none, none] [] (am_SH, h) (some (.int r.1), (am_SH, r.2)) := by
  obtain ⟨d, rfl⟩ : ∃ e, d = e + 1 := ⟨d - 1, by omega⟩
  unfold jn_X12_best_63 at hf
  refine r_loc dX12_best_63 rfl ?_
  obtain ⟨h12, c11, hf⟩ := cal_inv hf
  have g14 := rf_X12_keepNow (X := X) (d := d) (by omega) T c11
  have T13 : am_TP h12.2.2 := g14.2
  refine r_virt (pre := []) (rest := []) dX12_best_64 ct_12_430 rfl (sh_413) (Nat.le_of_ble_eq_true rfl) (Nat.le_of_ble_eq_true rfl) g14 ?_
  refine r_loc dX12_best_67 rfl ?_
  refine r_getR dX12_best_68 fl_12_85 sh_413 (Or.inr ⟨_, rfl⟩) (tp_413_40 T13) ?_
  refine r_bipush (v := 8) dX12_best_71 rfl ?_
  refine r_loc dX12_best_73 rfl ?_
  refine r_alu dX12_best_74 rfl ?_
  refine r_loc dX12_best_75 rfl ?_
  refine r_iast dX12_best_77 sh_437 hf (fun h15 e17 hf => ?_)
  have T16 := tp_eq e17 T13
  refine r_loc dX12_best_78 rfl ?_
  refine r_iconst (v := 5) dX12_best_79 rfl ?_
  obtain ⟨v19, h21, c18, hf⟩ := cal2_inv hf
  have g23 := rf_X12_goYears (X := X) (d := d) (by omega) 5 T16 c18
  have T22 : am_TP h21.2.2 := g23.2
  refine r_virt (pre := [.int 5]) (rest := []) dX12_best_80 ct_12_433 rfl (sh_413) (Nat.le_of_ble_eq_true rfl) (Nat.le_of_ble_eq_true rfl) g23 ?_
  refine r_loc (L' := [some (.ref 413), some (.int x1), some (.int x2), some (.int x3), some (.int x4), some (.int x5), some (.int v19), none]) dX12_best_83 rfl ?_
  refine r_loc dX12_best_85 rfl ?_
  obtain ⟨v25, c24, hf⟩ := cal_inv hf
  have g26 := rf_X12_those (X := X) (d := d) (by omega) T22 c24
  refine r_virt (pre := []) (rest := []) dX12_best_86 ct_12_331 rfl (sh_413) (Nat.le_of_ble_eq_true rfl) (Nat.le_of_ble_eq_true rfl) g26 ?_
  obtain ⟨v28, c27, hf⟩ := cal_inv hf
  have g29 := rf_X12_bitsOf (X := X) (d := d) (by omega) v25 T22 c27
  refine r_stat (pre := [.int v25]) (rest := []) dX12_best_89 ct_12_334 rfl (Nat.le_of_ble_eq_true rfl) (Nat.le_of_ble_eq_true rfl) g29 ?_
  refine r_loc (L' := [some (.ref 413), some (.int x1), some (.int x2), some (.int x3), some (.int x4), some (.int x5), some (.int v19), some (.int v28)]) dX12_best_92 rfl ?_
  refine r_loc dX12_best_94 rfl ?_
  obtain ⟨h31, c30, hf⟩ := cal_inv hf
  have g33 := rf_X12_bringBack (X := X) (d := d) (by omega) T22 c30
  have T32 : am_TP h31.2.2 := g33.2
  refine r_virt (pre := []) (rest := []) dX12_best_95 ct_12_436 rfl (sh_413) (Nat.le_of_ble_eq_true rfl) (Nat.le_of_ble_eq_true rfl) g33 ?_
  refine r_loc dX12_best_98 rfl ?_
  refine r_loc dX12_best_100 rfl ?_
  refine r_gt (q := 108) dX12_best_102 rfl hf (fun hf => ?_) (fun hf => ?_)
  · refine r_loc dX12_best_108 rfl ?_
    refine r_loc (L' := [some (.ref 413), some (.int x1), some (.int x2), some (.int x5), some (.int x4), some (.int x5), some (.int v19), some (.int v28)]) dX12_best_110 rfl ?_
    refine r_loc dX12_best_111 rfl ?_
    refine r_loc (L' := [some (.ref 413), some (.int x1), some (.int x2), some (.int x5), some (.int v28), some (.int x5), some (.int v19), some (.int v28)]) dX12_best_113 rfl ?_
    refine r_loc (L' := [some (.ref 413), some (.int x1), some (.int x2), some (.int x5), some (.int v28), some (.int (x5 + 1)), some (.int v19), some (.int v28)]) dX12_best_115 rfl ?_
    refine r_goto (q := 27) dX12_best_118 rfl ?_
    refine r_weak (L := [some (.ref 413), some (.int x1), some (.int x2), some (.int x5), some (.int v28), some (.int (x5 + 1)), none, none]) (am_le_s (am_le_s (am_le_s (am_le_s (am_le_s (am_le_s (am_le_n (am_le_n am_le_0)))))))) ?_
    exact hk_27 x5 v28 (x5 + 1) h31 T32 hf
  · refine r_goto (q := 115) dX12_best_105 rfl ?_
    refine r_loc (L' := [some (.ref 413), some (.int x1), some (.int x2), some (.int x3), some (.int x4), some (.int (x5 + 1)), some (.int v19), some (.int v28)]) dX12_best_115 rfl ?_
    refine r_goto (q := 27) dX12_best_118 rfl ?_
    refine r_weak (L := [some (.ref 413), some (.int x1), some (.int x2), some (.int x3), some (.int x4), some (.int (x5 + 1)), none, none]) (am_le_s (am_le_s (am_le_s (am_le_s (am_le_s (am_le_s (am_le_n (am_le_n am_le_0)))))))) ?_
    exact hk_27 x3 x4 (x5 + 1) h31 T32 hf
theorem rl_X12_best_27 {X : am_X} {d : Nat} (hd : 9 ≤ d) (p1 : Int32) (p2 : Int32) (k_121 : Int32 → Int32 → am_H → Option (Int32 × am_H)) {r : Int32 × am_H} (hk_121 : ∀ (z3 : Int32) (z4 : Int32) (h : am_H), am_TP h.2.2 → k_121 z3 z4 h = some r → am_G X d 12 false cX12_best (some .int) 121 [none, none, some (.int p2), some (.int z3), some (.int z4), none, none, none] [] (am_SH, h) (some (.int r.1), (am_SH, r.2))) : ∀ (n : Nat) (x3 : Int32) (x4 : Int32) (x5 : Int32) (h : am_H), am_TP h.2.2 → lp_X12_best_27 p1 p2 k_121 n x3 x4 x5 h = some r → am_G X d 12 false cX12_best (some .int) 27 [some (.ref 413), some (.int p1), some (.int p2), some (.int x3), some (.int x4), some (.int x5), none, none] [] (am_SH, h) (some (.int r.1), (am_SH, r.2)) := by
  obtain ⟨d, rfl⟩ : ∃ e, d = e + 1 := ⟨d - 1, by omega⟩
  intro n
  induction n with
  | zero => intro x3 x4 x5 h T hf; cases hf
  | succ n ih =>
    intro x3 x4 x5 h T hf
    rw [lp_X12_best_27] at hf
    refine r_loc dX12_best_27 rfl ?_
    refine r_loc dX12_best_29 rfl ?_
    obtain ⟨v8, c7, hf⟩ := cal_inv hf
    have g9 := rf_X12_chambers (X := X) (d := d) (by omega) T c7
    refine r_virt (pre := []) (rest := [.int x5]) dX12_best_30 ct_12_343 rfl (sh_413) (Nat.le_of_ble_eq_true rfl) (Nat.le_of_ble_eq_true rfl) g9 ?_
    refine r_ge (q := 121) dX12_best_33 rfl hf (fun hf => ?_) (fun hf => ?_)
    · refine r_weak (L := [none, none, some (.int p2), some (.int x3), some (.int x4), none, none, none]) (am_le_n (am_le_n (am_le_s (am_le_s (am_le_s (am_le_n (am_le_n (am_le_n am_le_0)))))))) ?_
      exact hk_121 x3 x4 h T hf
    · refine r_loc dX12_best_36 rfl ?_
      refine r_getR dX12_best_37 fl_12_85 sh_413 (Or.inr ⟨_, rfl⟩) (tp_413_40 T) ?_
      refine r_bipush (v := 8) dX12_best_40 rfl ?_
      refine r_loc dX12_best_42 rfl ?_
      refine r_alu dX12_best_43 rfl ?_
      refine r_iald dX12_best_44 sh_437 hf (fun v10 hf => ?_)
      refine r_loc dX12_best_45 rfl ?_
      refine r_eq (q := 63) dX12_best_47 rfl hf (fun hf => ?_) (fun hf => ?_)
      · exact rj_X12_best_63 (by omega) (lp_X12_best_27 p1 p2 k_121 n) p1 p2 x3 x4 x5 T (ih) hf
      · refine r_loc dX12_best_50 rfl ?_
        refine r_loc dX12_best_51 rfl ?_
        refine r_loc dX12_best_52 rfl ?_
        obtain ⟨v35, c34, hf⟩ := cal_inv hf
        have g36 := rf_X12_canCarry (X := X) (d := d) (by omega) p1 x5 T c34
        refine r_virt (pre := [.int x5, .int p1]) (rest := []) dX12_best_54 ct_12_424 rfl (sh_413) (Nat.le_of_ble_eq_true rfl) (Nat.le_of_ble_eq_true rfl) g36 ?_
        refine r_ne0 (q := 63) dX12_best_57 rfl hf (fun hf => ?_) (fun hf => ?_)
        · exact rj_X12_best_63 (by omega) (lp_X12_best_27 p1 p2 k_121 n) p1 p2 x3 x4 x5 T (ih) hf
        · refine r_goto (q := 115) dX12_best_60 rfl ?_
          refine r_loc (L' := [some (.ref 413), some (.int p1), some (.int p2), some (.int x3), some (.int x4), some (.int (x5 + 1)), none, none]) dX12_best_115 rfl ?_
          refine r_goto (q := 27) dX12_best_118 rfl ?_
          exact ih x3 x4 (x5 + 1) h T hf
theorem rf_X12_best {X : am_X} {d : Nat} (hd : 9 ≤ d) (x1 : Int32) (x2 : Int32) {h : am_H} (T : am_TP h.2.2) {r : Int32 × am_H} (hf : f_X12_best x1 x2 h = some r) : am_G X d 12 false cX12_best (some .int) 0 [some (.ref 413), some (.int x1), some (.int x2), none, none, none, none, none] [] (am_SH, h) (some (.int r.1), (am_SH, r.2)) := by
  unfold f_X12_best at hf
  obtain ⟨d, rfl⟩ : ∃ e, d = e + 1 := ⟨d - 1, by omega⟩
  refine r_loc dX12_best_0 rfl ?_
  refine r_loc dX12_best_1 rfl ?_
  obtain ⟨v2, c1, hf⟩ := cal_inv hf
  have g3 := rf_X12_isThere (X := X) (d := d) (by omega) x1 T c1
  refine r_virt (pre := [.int x1]) (rest := []) dX12_best_2 ct_12_411 rfl (sh_413) (Nat.le_of_ble_eq_true rfl) (Nat.le_of_ble_eq_true rfl) g3 ?_
  refine r_eq0 (q := 17) dX12_best_5 rfl hf (fun hf => ?_) (fun hf => ?_)
  · refine r_iconst (v := (-1)) dX12_best_17 rfl ?_
    cases hf
    exact r_ri T dX12_best_18
  · refine r_loc dX12_best_8 rfl ?_
    refine r_iconst (v := 0) dX12_best_9 rfl ?_
    refine r_iconst (v := 1) dX12_best_10 rfl ?_
    obtain ⟨v5, c4, hf⟩ := cal_inv hf
    have g6 := rf_X12_isIn (X := X) (d := d) (by omega) x2 0 1 T c4
    refine r_stat (pre := [.int 1, .int 0, .int x2]) (rest := []) dX12_best_11 ct_12_346 rfl (Nat.le_of_ble_eq_true rfl) (Nat.le_of_ble_eq_true rfl) g6 ?_
    refine r_ne0 (q := 19) dX12_best_14 rfl hf (fun hf => ?_) (fun hf => ?_)
    · refine r_iconst (v := (-1)) dX12_best_19 rfl ?_
      refine r_loc (L' := [some (.ref 413), some (.int x1), some (.int x2), some (.int (-1)), none, none, none, none]) dX12_best_20 rfl ?_
      refine r_iconst (v := (-1)) dX12_best_21 rfl ?_
      refine r_loc (L' := [some (.ref 413), some (.int x1), some (.int x2), some (.int (-1)), some (.int (-1)), none, none, none]) dX12_best_22 rfl ?_
      refine r_iconst (v := 0) dX12_best_24 rfl ?_
      refine r_loc (L' := [some (.ref 413), some (.int x1), some (.int x2), some (.int (-1)), some (.int (-1)), some (.int 0), none, none]) dX12_best_25 rfl ?_
      refine rl_X12_best_27 (by omega) x1 x2 _ ?_ 4000 (-1) (-1) 0 h T hf
      · intro z37 z38 h39 T40 hf
        refine r_loc dX12_best_121 rfl ?_
        refine r_ne0 (q := 129) dX12_best_122 rfl hf (fun hf => ?_) (fun hf => ?_)
        · refine r_loc dX12_best_129 rfl ?_
          cases hf
          exact r_ri T40 dX12_best_131
        · refine r_loc dX12_best_125 rfl ?_
          refine r_goto (q := 131) dX12_best_126 rfl ?_
          cases hf
          exact r_ri T40 dX12_best_131
    · refine r_iconst (v := (-1)) dX12_best_17 rfl ?_
      cases hf
      exact r_ri T dX12_best_18
def f_X12_lies (x1 : Int32) (h : am_H) : Option (Int32) := bnd (h.1 413 47) fun v1 => cal (f_X12_isIn x1 0 (v1 - 1) h) fun v3 => if v3 = 0 then some (-2) else rdI h 440 8 x1 fun v5 => some v5
theorem rf_X12_lies {X : am_X} {d : Nat} (hd : 1 ≤ d) (x1 : Int32) {h : am_H} (T : am_TP h.2.2) {r : Int32} (hf : f_X12_lies x1 h = some r) : am_G X d 12 false cX12_lies (some .int) 0 [some (.ref 413), some (.int x1)] [] (am_SH, h) (some (.int r), (am_SH, h)) := by
  unfold f_X12_lies at hf
  obtain ⟨d, rfl⟩ : ∃ e, d = e + 1 := ⟨d - 1, by omega⟩
  refine r_loc dX12_lies_0 rfl ?_
  refine r_iconst (v := 0) dX12_lies_1 rfl ?_
  refine r_loc dX12_lies_2 rfl ?_
  refine r_getI dX12_lies_3 fl_12_372 sh_413 rfl hf (fun v1 hf => ?_)
  refine r_iconst (v := 1) dX12_lies_6 rfl ?_
  refine r_alu dX12_lies_7 rfl ?_
  obtain ⟨v3, c2, hf⟩ := cal_inv hf
  have g4 := rf_X12_isIn (X := X) (d := d) (by omega) x1 0 (v1 - 1) T c2
  refine r_stat (pre := [.int (v1 - 1), .int 0, .int x1]) (rest := []) dX12_lies_8 ct_12_346 rfl (Nat.le_of_ble_eq_true rfl) (Nat.le_of_ble_eq_true rfl) g4 ?_
  refine r_eq0 (q := 23) dX12_lies_11 rfl hf (fun hf => ?_) (fun hf => ?_)
  · refine r_bipush (v := (-2)) dX12_lies_23 rfl ?_
    cases hf
    exact r_ri T dX12_lies_25
  · refine r_loc dX12_lies_14 rfl ?_
    refine r_getR dX12_lies_15 fl_12_97 sh_413 (Or.inr ⟨_, rfl⟩) (tp_413_46 T) ?_
    refine r_loc dX12_lies_18 rfl ?_
    refine r_iald dX12_lies_19 sh_440 hf (fun v5 hf => ?_)
    refine r_goto (q := 25) dX12_lies_20 rfl ?_
    cases hf
    exact r_ri T dX12_lies_25
def f_X12_twoBits (x0 : Int32) (x1 : Int32) (h : am_H) : Option (Int32) := some ((x0 >>> (((2 : Int32) * ((7 : Int32) - x1)) &&& 31)) &&& 3)
theorem rf_X12_twoBits {X : am_X} {d : Nat} (hd : 0 ≤ d) (x0 : Int32) (x1 : Int32) {h : am_H} (T : am_TP h.2.2) {r : Int32} (hf : f_X12_twoBits x0 x1 h = some r) : am_G X d 12 false cX12_twoBits (some .int) 0 [some (.int x0), some (.int x1)] [] (am_SH, h) (some (.int r), (am_SH, h)) := by
  unfold f_X12_twoBits at hf
  refine r_loc dX12_twoBits_0 rfl ?_
  refine r_iconst (v := 2) dX12_twoBits_1 rfl ?_
  refine r_bipush (v := 7) dX12_twoBits_2 rfl ?_
  refine r_loc dX12_twoBits_4 rfl ?_
  refine r_alu dX12_twoBits_5 rfl ?_
  refine r_alu dX12_twoBits_6 rfl ?_
  refine r_alu dX12_twoBits_7 rfl ?_
  refine r_iconst (v := 3) dX12_twoBits_8 rfl ?_
  refine r_alu dX12_twoBits_9 rfl ?_
  cases hf
  exact r_ri T dX12_twoBits_10
def lp_X12_roomsIn_18 (p1 : Int32) (p2 : Int32) (p3 : Int32) (h : am_H) (k_73 : Int32 → Int32 → Option (Int32)) : Nat → Int32 → Int32 → Int32 → Option (Int32)
  | 0, _, _, _ => none
  | n + 1, x4, x5, x6 => if x6 < 8 then cal (f_X12_twoBits p1 x6 h) fun v2 => if v2 = p3 then rdI h 437 59 ((0 : Int32) + x6) fun v4 => if v4 = 0 then lp_X12_roomsIn_18 p1 p2 p3 h k_73 n x4 x5 (x6 + 1) else rdI h 437 59 ((0 : Int32) + x6) fun v5 => lp_X12_roomsIn_18 p1 p2 p3 h k_73 n (x4 + v5) (x5 + 1) (x6 + 1) else lp_X12_roomsIn_18 p1 p2 p3 h k_73 n x4 x5 (x6 + 1) else k_73 x4 x5
def lp_X12_roomsIn_4 (p1 : Int32) (h : am_H) : Nat → Int32 → Int32 → Option (Int32)
  | 0, _, _ => none
  | n + 1, x2, x3 => if x3 < 4 then lp_X12_roomsIn_18 p1 x2 x3 h (fun z6 z7 => if z7 = 0 then lp_X12_roomsIn_4 p1 h n x2 (x3 + 1) else cal (f_X12_chambers h) fun v9 => if x3 < v9 then cal (f_X12_holdsOf x3 h) fun v12 => if v12 < z6 then some (-1) else lp_X12_roomsIn_4 p1 h n (x2 ||| ((1 : Int32) <<< (x3 &&& 31))) (x3 + 1) else some (-1)) 4000 0 0 0 else some x2
def f_X12_roomsIn (x1 : Int32) (h : am_H) : Option (Int32) := lp_X12_roomsIn_4 x1 h  4000 0 0
theorem rl_X12_roomsIn_18 {X : am_X} {d : Nat} (hd : 1 ≤ d) (p1 : Int32) (p2 : Int32) (p3 : Int32) {h : am_H} (T : am_TP h.2.2) (k_73 : Int32 → Int32 → Option (Int32)) {r : Int32} (hk_73 : ∀ (z4 : Int32) (z5 : Int32) , k_73 z4 z5 = some r → am_G X d 12 false cX12_roomsIn (some .int) 73 [some (.ref 413), some (.int p1), some (.int p2), some (.int p3), some (.int z4), some (.int z5), none] [] (am_SH, h) (some (.int r), (am_SH, h))) : ∀ (n : Nat) (x4 : Int32) (x5 : Int32) (x6 : Int32) , lp_X12_roomsIn_18 p1 p2 p3 h k_73 n x4 x5 x6 = some r → am_G X d 12 false cX12_roomsIn (some .int) 18 [some (.ref 413), some (.int p1), some (.int p2), some (.int p3), some (.int x4), some (.int x5), some (.int x6)] [] (am_SH, h) (some (.int r), (am_SH, h)) := by
  obtain ⟨d, rfl⟩ : ∃ e, d = e + 1 := ⟨d - 1, by omega⟩
  intro n
  induction n with
  | zero => intro x4 x5 x6 hf; cases hf
  | succ n ih =>
    intro x4 x5 x6 hf
    rw [lp_X12_roomsIn_18] at hf
    refine r_loc dX12_roomsIn_18 rfl ?_
    refine r_bipush (v := 8) dX12_roomsIn_20 rfl ?_
    refine r_ge (q := 73) dX12_roomsIn_22 rfl hf (fun hf => ?_) (fun hf => ?_)
    · refine r_weak (L := [some (.ref 413), some (.int p1), some (.int p2), some (.int p3), some (.int x4), some (.int x5), none]) (am_le_s (am_le_s (am_le_s (am_le_s (am_le_s (am_le_s (am_le_n am_le_0))))))) ?_
      exact hk_73 x4 x5 hf
    · refine r_loc dX12_roomsIn_25 rfl ?_
      refine r_loc dX12_roomsIn_26 rfl ?_
      obtain ⟨v2, c1, hf⟩ := cal_inv hf
      have g3 := rf_X12_twoBits (X := X) (d := d) (by omega) p1 x6 T c1
      refine r_stat (pre := [.int x6, .int p1]) (rest := []) dX12_roomsIn_28 ct_12_442 rfl (Nat.le_of_ble_eq_true rfl) (Nat.le_of_ble_eq_true rfl) g3 ?_
      refine r_loc dX12_roomsIn_31 rfl ?_
      refine r_ne (q := 67) dX12_roomsIn_32 rfl hf (fun hf => ?_) (fun hf => ?_)
      · refine r_loc (L' := [some (.ref 413), some (.int p1), some (.int p2), some (.int p3), some (.int x4), some (.int x5), some (.int (x6 + 1))]) dX12_roomsIn_67 rfl ?_
        refine r_goto (q := 18) dX12_roomsIn_70 rfl ?_
        exact ih x4 x5 (x6 + 1) hf
      · refine r_loc dX12_roomsIn_35 rfl ?_
        refine r_getR dX12_roomsIn_36 fl_12_85 sh_413 (Or.inr ⟨_, rfl⟩) (tp_413_40 T) ?_
        refine r_iconst (v := 0) dX12_roomsIn_39 rfl ?_
        refine r_loc dX12_roomsIn_40 rfl ?_
        refine r_alu dX12_roomsIn_42 rfl ?_
        refine r_iald dX12_roomsIn_43 sh_437 hf (fun v4 hf => ?_)
        refine r_ne0 (q := 50) dX12_roomsIn_44 rfl hf (fun hf => ?_) (fun hf => ?_)
        · refine r_loc dX12_roomsIn_50 rfl ?_
          refine r_loc dX12_roomsIn_52 rfl ?_
          refine r_getR dX12_roomsIn_53 fl_12_85 sh_413 (Or.inr ⟨_, rfl⟩) (tp_413_40 T) ?_
          refine r_iconst (v := 0) dX12_roomsIn_56 rfl ?_
          refine r_loc dX12_roomsIn_57 rfl ?_
          refine r_alu dX12_roomsIn_59 rfl ?_
          refine r_iald dX12_roomsIn_60 sh_437 hf (fun v5 hf => ?_)
          refine r_alu dX12_roomsIn_61 rfl ?_
          refine r_loc (L' := [some (.ref 413), some (.int p1), some (.int p2), some (.int p3), some (.int (x4 + v5)), some (.int x5), some (.int x6)]) dX12_roomsIn_62 rfl ?_
          refine r_loc (L' := [some (.ref 413), some (.int p1), some (.int p2), some (.int p3), some (.int (x4 + v5)), some (.int (x5 + 1)), some (.int x6)]) dX12_roomsIn_64 rfl ?_
          refine r_loc (L' := [some (.ref 413), some (.int p1), some (.int p2), some (.int p3), some (.int (x4 + v5)), some (.int (x5 + 1)), some (.int (x6 + 1))]) dX12_roomsIn_67 rfl ?_
          refine r_goto (q := 18) dX12_roomsIn_70 rfl ?_
          exact ih (x4 + v5) (x5 + 1) (x6 + 1) hf
        · refine r_goto (q := 67) dX12_roomsIn_47 rfl ?_
          refine r_loc (L' := [some (.ref 413), some (.int p1), some (.int p2), some (.int p3), some (.int x4), some (.int x5), some (.int (x6 + 1))]) dX12_roomsIn_67 rfl ?_
          refine r_goto (q := 18) dX12_roomsIn_70 rfl ?_
          exact ih x4 x5 (x6 + 1) hf
theorem rl_X12_roomsIn_4 {X : am_X} {d : Nat} (hd : 1 ≤ d) (p1 : Int32) {h : am_H} (T : am_TP h.2.2) {r : Int32} : ∀ (n : Nat) (x2 : Int32) (x3 : Int32) , lp_X12_roomsIn_4 p1 h n x2 x3 = some r → am_G X d 12 false cX12_roomsIn (some .int) 4 [some (.ref 413), some (.int p1), some (.int x2), some (.int x3), none, none, none] [] (am_SH, h) (some (.int r), (am_SH, h)) := by
  obtain ⟨d, rfl⟩ : ∃ e, d = e + 1 := ⟨d - 1, by omega⟩
  intro n
  induction n with
  | zero => intro x2 x3 hf; cases hf
  | succ n ih =>
    intro x2 x3 hf
    rw [lp_X12_roomsIn_4] at hf
    refine r_loc dX12_roomsIn_4 rfl ?_
    refine r_iconst (v := 4) dX12_roomsIn_5 rfl ?_
    refine r_ge (q := 113) dX12_roomsIn_6 rfl hf (fun hf => ?_) (fun hf => ?_)
    · refine r_loc dX12_roomsIn_113 rfl ?_
      cases hf
      exact r_ri T dX12_roomsIn_114
    · refine r_iconst (v := 0) dX12_roomsIn_9 rfl ?_
      refine r_loc (L' := [some (.ref 413), some (.int p1), some (.int x2), some (.int x3), some (.int 0), none, none]) dX12_roomsIn_10 rfl ?_
      refine r_iconst (v := 0) dX12_roomsIn_12 rfl ?_
      refine r_loc (L' := [some (.ref 413), some (.int p1), some (.int x2), some (.int x3), some (.int 0), some (.int 0), none]) dX12_roomsIn_13 rfl ?_
      refine r_iconst (v := 0) dX12_roomsIn_15 rfl ?_
      refine r_loc (L' := [some (.ref 413), some (.int p1), some (.int x2), some (.int x3), some (.int 0), some (.int 0), some (.int 0)]) dX12_roomsIn_16 rfl ?_
      refine rl_X12_roomsIn_18 (by omega) p1 x2 x3 T _ ?_ 4000 0 0 0  hf
      · intro z6 z7 hf
        refine r_loc dX12_roomsIn_73 rfl ?_
        refine r_ne0 (q := 81) dX12_roomsIn_75 rfl hf (fun hf => ?_) (fun hf => ?_)
        · refine r_loc dX12_roomsIn_81 rfl ?_
          refine r_loc dX12_roomsIn_82 rfl ?_
          obtain ⟨v9, c8, hf⟩ := cal_inv hf
          have g10 := rf_X12_chambers (X := X) (d := d) (by omega) T c8
          refine r_virt (pre := []) (rest := [.int x3]) dX12_roomsIn_83 ct_12_343 rfl (sh_413) (Nat.le_of_ble_eq_true rfl) (Nat.le_of_ble_eq_true rfl) g10 ?_
          refine r_ge (q := 99) dX12_roomsIn_86 rfl hf (fun hf => ?_) (fun hf => ?_)
          · refine r_iconst (v := (-1)) dX12_roomsIn_99 rfl ?_
            cases hf
            exact r_ri T dX12_roomsIn_100
          · refine r_loc dX12_roomsIn_89 rfl ?_
            refine r_loc dX12_roomsIn_91 rfl ?_
            refine r_loc dX12_roomsIn_92 rfl ?_
            obtain ⟨v12, c11, hf⟩ := cal_inv hf
            have g13 := rf_X12_holdsOf (X := X) (d := d) (by omega) x3 T c11
            refine r_virt (pre := [.int x3]) (rest := [.int z6]) dX12_roomsIn_93 ct_12_350 rfl (sh_413) (Nat.le_of_ble_eq_true rfl) (Nat.le_of_ble_eq_true rfl) g13 ?_
            refine r_le (q := 101) dX12_roomsIn_96 rfl hf (fun hf => ?_) (fun hf => ?_)
            · refine r_loc dX12_roomsIn_101 rfl ?_
              refine r_iconst (v := 1) dX12_roomsIn_102 rfl ?_
              refine r_loc dX12_roomsIn_103 rfl ?_
              refine r_alu dX12_roomsIn_104 rfl ?_
              refine r_alu dX12_roomsIn_105 rfl ?_
              refine r_loc (L' := [some (.ref 413), some (.int p1), some (.int (x2 ||| ((1 : Int32) <<< (x3 &&& 31)))), some (.int x3), some (.int z6), some (.int z7), none]) dX12_roomsIn_106 rfl ?_
              refine r_loc (L' := [some (.ref 413), some (.int p1), some (.int (x2 ||| ((1 : Int32) <<< (x3 &&& 31)))), some (.int (x3 + 1)), some (.int z6), some (.int z7), none]) dX12_roomsIn_107 rfl ?_
              refine r_goto (q := 4) dX12_roomsIn_110 rfl ?_
              refine r_weak (L := [some (.ref 413), some (.int p1), some (.int (x2 ||| ((1 : Int32) <<< (x3 &&& 31)))), some (.int (x3 + 1)), none, none, none]) (am_le_s (am_le_s (am_le_s (am_le_s (am_le_n (am_le_n (am_le_n am_le_0))))))) ?_
              exact ih (x2 ||| ((1 : Int32) <<< (x3 &&& 31))) (x3 + 1) hf
            · refine r_iconst (v := (-1)) dX12_roomsIn_99 rfl ?_
              cases hf
              exact r_ri T dX12_roomsIn_100
        · refine r_goto (q := 107) dX12_roomsIn_78 rfl ?_
          refine r_loc (L' := [some (.ref 413), some (.int p1), some (.int x2), some (.int (x3 + 1)), some (.int z6), some (.int z7), none]) dX12_roomsIn_107 rfl ?_
          refine r_goto (q := 4) dX12_roomsIn_110 rfl ?_
          refine r_weak (L := [some (.ref 413), some (.int p1), some (.int x2), some (.int (x3 + 1)), none, none, none]) (am_le_s (am_le_s (am_le_s (am_le_s (am_le_n (am_le_n (am_le_n am_le_0))))))) ?_
          exact ih x2 (x3 + 1) hf
theorem rf_X12_roomsIn {X : am_X} {d : Nat} (hd : 1 ≤ d) (x1 : Int32) {h : am_H} (T : am_TP h.2.2) {r : Int32} (hf : f_X12_roomsIn x1 h = some r) : am_G X d 12 false cX12_roomsIn (some .int) 0 [some (.ref 413), some (.int x1), none, none, none, none, none] [] (am_SH, h) (some (.int r), (am_SH, h)) := by
  unfold f_X12_roomsIn at hf
  obtain ⟨d, rfl⟩ : ∃ e, d = e + 1 := ⟨d - 1, by omega⟩
  refine r_iconst (v := 0) dX12_roomsIn_0 rfl ?_
  refine r_loc (L' := [some (.ref 413), some (.int x1), some (.int 0), none, none, none, none]) dX12_roomsIn_1 rfl ?_
  refine r_iconst (v := 0) dX12_roomsIn_2 rfl ?_
  refine r_loc (L' := [some (.ref 413), some (.int x1), some (.int 0), some (.int 0), none, none, none]) dX12_roomsIn_3 rfl ?_
  refine rl_X12_roomsIn_4 (by omega) x1 T  4000 0 0  hf
def lp_X12_pack_16 (p1 : Int32) (p2 : Int32) (k_53 : Int32 → am_H → Option (Int32 × am_H)) : Nat → Int32 → Int32 → am_H → Option (Int32 × am_H)
  | 0, _, _, _ => none
  | n + 1, x3, x4, h => if x4 < 8 then rdI h 437 59 ((0 : Int32) + x4) fun v4 => if v4 = 0 then lp_X12_pack_16 p1 p2 k_53 n (x3 ||| ((3 : Int32) <<< (((2 : Int32) * ((7 : Int32) - x4)) &&& 31))) (x4 + 1) h else lp_X12_pack_16 p1 p2 k_53 n x3 (x4 + 1) h else k_53 x3 h
def lp_X12_pack_56 (p3 : Int32) (k_114 : Int32 → Int32 → am_H → Option (Int32 × am_H)) : Nat → Int32 → Int32 → Int32 → am_H → Option (Int32 × am_H)
  | 0, _, _, _, _ => none
  | n + 1, x1, x2, x4, h => if x4 < 65536 then if (x4 &&& p3) = 0 then cal (f_X12_roomsIn x4 h) fun v9 => if v9 < 0 then lp_X12_pack_56 p3 k_114 n x1 x2 (x4 + 1) h else cal (f_X12_bitsOf v9 h) fun v12 => if v12 < x2 then cal (f_X12_bitsOf v9 h) fun v15 => lp_X12_pack_56 p3 k_114 n x4 v15 (x4 + 1) h else lp_X12_pack_56 p3 k_114 n x1 x2 (x4 + 1) h else lp_X12_pack_56 p3 k_114 n x1 x2 (x4 + 1) h else k_114 x1 x2 h
def lp_X12_pack_123 (p1 : Int32) (p2 : Int32) (k_165 : am_H → Option (Int32 × am_H)) : Nat → Int32 → am_H → Option (Int32 × am_H)
  | 0, _, _ => none
  | n + 1, x4, h => if x4 < 8 then rdI h 437 59 ((0 : Int32) + x4) fun v21 => if v21 = 0 then wrI h 440 8 x4 (-1) fun h28 => lp_X12_pack_123 p1 p2 k_165 n (x4 + 1) h28 else cal (f_X12_twoBits p1 x4 h) fun v23 => wrI h 440 8 x4 v23 fun h25 => lp_X12_pack_123 p1 p2 k_165 n (x4 + 1) h25 else k_165  h
def f_X12_pack  (h : am_H) : Option (Int32 × am_H) := ptI h 413 47 0 fun h1 => lp_X12_pack_16 (-1) 1000 (fun z5 h6 => lp_X12_pack_56 z5 (fun z17 z18 h19 => if z17 < 0 then some ((-1), h19) else lp_X12_pack_123 z17 z18 (fun h31 => ptI h31 413 47 8 fun h33 => some (z18, h33)) 70000 0 h19) 70000 (-1) 1000 0 h6) 70000 0 0 h1
theorem rl_X12_pack_16 {X : am_X} {d : Nat} (hd : 2 ≤ d) (p1 : Int32) (p2 : Int32) (k_53 : Int32 → am_H → Option (Int32 × am_H)) {r : Int32 × am_H} (hk_53 : ∀ (z3 : Int32) (h : am_H), am_TP h.2.2 → k_53 z3 h = some r → am_G X d 12 false cX12_pack (some .int) 53 [some (.ref 413), some (.int p1), some (.int p2), some (.int z3), none, none] [] (am_SH, h) (some (.int r.1), (am_SH, r.2))) : ∀ (n : Nat) (x3 : Int32) (x4 : Int32) (h : am_H), am_TP h.2.2 → lp_X12_pack_16 p1 p2 k_53 n x3 x4 h = some r → am_G X d 12 false cX12_pack (some .int) 16 [some (.ref 413), some (.int p1), some (.int p2), some (.int x3), some (.int x4), none] [] (am_SH, h) (some (.int r.1), (am_SH, r.2)) := by
  obtain ⟨d, rfl⟩ : ∃ e, d = e + 1 := ⟨d - 1, by omega⟩
  intro n
  induction n with
  | zero => intro x3 x4 h T hf; cases hf
  | succ n ih =>
    intro x3 x4 h T hf
    rw [lp_X12_pack_16] at hf
    refine r_loc dX12_pack_16 rfl ?_
    refine r_bipush (v := 8) dX12_pack_18 rfl ?_
    refine r_ge (q := 53) dX12_pack_20 rfl hf (fun hf => ?_) (fun hf => ?_)
    · refine r_weak (L := [some (.ref 413), some (.int p1), some (.int p2), some (.int x3), none, none]) (am_le_s (am_le_s (am_le_s (am_le_s (am_le_n (am_le_n am_le_0)))))) ?_
      exact hk_53 x3 h T hf
    · refine r_loc dX12_pack_23 rfl ?_
      refine r_getR dX12_pack_24 fl_12_85 sh_413 (Or.inr ⟨_, rfl⟩) (tp_413_40 T) ?_
      refine r_iconst (v := 0) dX12_pack_27 rfl ?_
      refine r_loc dX12_pack_28 rfl ?_
      refine r_alu dX12_pack_30 rfl ?_
      refine r_iald dX12_pack_31 sh_437 hf (fun v4 hf => ?_)
      refine r_ne0 (q := 47) dX12_pack_32 rfl hf (fun hf => ?_) (fun hf => ?_)
      · refine r_loc (L' := [some (.ref 413), some (.int p1), some (.int p2), some (.int x3), some (.int (x4 + 1)), none]) dX12_pack_47 rfl ?_
        refine r_goto (q := 16) dX12_pack_50 rfl ?_
        exact ih x3 (x4 + 1) h T hf
      · refine r_loc dX12_pack_35 rfl ?_
        refine r_iconst (v := 3) dX12_pack_36 rfl ?_
        refine r_iconst (v := 2) dX12_pack_37 rfl ?_
        refine r_bipush (v := 7) dX12_pack_38 rfl ?_
        refine r_loc dX12_pack_40 rfl ?_
        refine r_alu dX12_pack_42 rfl ?_
        refine r_alu dX12_pack_43 rfl ?_
        refine r_alu dX12_pack_44 rfl ?_
        refine r_alu dX12_pack_45 rfl ?_
        refine r_loc (L' := [some (.ref 413), some (.int p1), some (.int p2), some (.int (x3 ||| ((3 : Int32) <<< (((2 : Int32) * ((7 : Int32) - x4)) &&& 31)))), some (.int x4), none]) dX12_pack_46 rfl ?_
        refine r_loc (L' := [some (.ref 413), some (.int p1), some (.int p2), some (.int (x3 ||| ((3 : Int32) <<< (((2 : Int32) * ((7 : Int32) - x4)) &&& 31)))), some (.int (x4 + 1)), none]) dX12_pack_47 rfl ?_
        refine r_goto (q := 16) dX12_pack_50 rfl ?_
        exact ih (x3 ||| ((3 : Int32) <<< (((2 : Int32) * ((7 : Int32) - x4)) &&& 31))) (x4 + 1) h T hf
theorem rl_X12_pack_56 {X : am_X} {d : Nat} (hd : 2 ≤ d) (p3 : Int32) (k_114 : Int32 → Int32 → am_H → Option (Int32 × am_H)) {r : Int32 × am_H} (hk_114 : ∀ (z1 : Int32) (z2 : Int32) (h : am_H), am_TP h.2.2 → k_114 z1 z2 h = some r → am_G X d 12 false cX12_pack (some .int) 114 [some (.ref 413), some (.int z1), some (.int z2), none, none, none] [] (am_SH, h) (some (.int r.1), (am_SH, r.2))) : ∀ (n : Nat) (x1 : Int32) (x2 : Int32) (x4 : Int32) (h : am_H), am_TP h.2.2 → lp_X12_pack_56 p3 k_114 n x1 x2 x4 h = some r → am_G X d 12 false cX12_pack (some .int) 56 [some (.ref 413), some (.int x1), some (.int x2), some (.int p3), some (.int x4), none] [] (am_SH, h) (some (.int r.1), (am_SH, r.2)) := by
  obtain ⟨d, rfl⟩ : ∃ e, d = e + 1 := ⟨d - 1, by omega⟩
  intro n
  induction n with
  | zero => intro x1 x2 x4 h T hf; cases hf
  | succ n ih =>
    intro x1 x2 x4 h T hf
    rw [lp_X12_pack_56] at hf
    refine r_loc dX12_pack_56 rfl ?_
    refine r_ldcw dX12_pack_58 k32_12_445 ?_
    refine r_ge (q := 114) dX12_pack_61 rfl hf (fun hf => ?_) (fun hf => ?_)
    · refine r_weak (L := [some (.ref 413), some (.int x1), some (.int x2), none, none, none]) (am_le_s (am_le_s (am_le_s (am_le_n (am_le_n (am_le_n am_le_0)))))) ?_
      exact hk_114 x1 x2 h T hf
    · refine r_loc dX12_pack_64 rfl ?_
      refine r_loc dX12_pack_66 rfl ?_
      refine r_alu dX12_pack_67 rfl ?_
      refine r_eq0 (q := 74) dX12_pack_68 rfl hf (fun hf => ?_) (fun hf => ?_)
      · refine r_loc dX12_pack_74 rfl ?_
        refine r_loc dX12_pack_75 rfl ?_
        obtain ⟨v9, c8, hf⟩ := cal_inv hf
        have g10 := rf_X12_roomsIn (X := X) (d := d) (by omega) x4 T c8
        refine r_virt (pre := [.int x4]) (rest := []) dX12_pack_77 ct_12_446 rfl (sh_413) (Nat.le_of_ble_eq_true rfl) (Nat.le_of_ble_eq_true rfl) g10 ?_
        refine r_loc (L' := [some (.ref 413), some (.int x1), some (.int x2), some (.int p3), some (.int x4), some (.int v9)]) dX12_pack_80 rfl ?_
        refine r_loc dX12_pack_82 rfl ?_
        refine r_lt0 (q := 108) dX12_pack_84 rfl hf (fun hf => ?_) (fun hf => ?_)
        · refine r_loc (L' := [some (.ref 413), some (.int x1), some (.int x2), some (.int p3), some (.int (x4 + 1)), some (.int v9)]) dX12_pack_108 rfl ?_
          refine r_goto (q := 56) dX12_pack_111 rfl ?_
          refine r_weak (L := [some (.ref 413), some (.int x1), some (.int x2), some (.int p3), some (.int (x4 + 1)), none]) (am_le_s (am_le_s (am_le_s (am_le_s (am_le_s (am_le_n am_le_0)))))) ?_
          exact ih x1 x2 (x4 + 1) h T hf
        · refine r_loc dX12_pack_87 rfl ?_
          obtain ⟨v12, c11, hf⟩ := cal_inv hf
          have g13 := rf_X12_bitsOf (X := X) (d := d) (by omega) v9 T c11
          refine r_stat (pre := [.int v9]) (rest := []) dX12_pack_89 ct_12_334 rfl (Nat.le_of_ble_eq_true rfl) (Nat.le_of_ble_eq_true rfl) g13 ?_
          refine r_loc dX12_pack_92 rfl ?_
          refine r_lt (q := 99) dX12_pack_93 rfl hf (fun hf => ?_) (fun hf => ?_)
          · refine r_loc dX12_pack_99 rfl ?_
            refine r_loc (L' := [some (.ref 413), some (.int x4), some (.int x2), some (.int p3), some (.int x4), some (.int v9)]) dX12_pack_101 rfl ?_
            refine r_loc dX12_pack_102 rfl ?_
            obtain ⟨v15, c14, hf⟩ := cal_inv hf
            have g16 := rf_X12_bitsOf (X := X) (d := d) (by omega) v9 T c14
            refine r_stat (pre := [.int v9]) (rest := []) dX12_pack_104 ct_12_334 rfl (Nat.le_of_ble_eq_true rfl) (Nat.le_of_ble_eq_true rfl) g16 ?_
            refine r_loc (L' := [some (.ref 413), some (.int x4), some (.int v15), some (.int p3), some (.int x4), some (.int v9)]) dX12_pack_107 rfl ?_
            refine r_loc (L' := [some (.ref 413), some (.int x4), some (.int v15), some (.int p3), some (.int (x4 + 1)), some (.int v9)]) dX12_pack_108 rfl ?_
            refine r_goto (q := 56) dX12_pack_111 rfl ?_
            refine r_weak (L := [some (.ref 413), some (.int x4), some (.int v15), some (.int p3), some (.int (x4 + 1)), none]) (am_le_s (am_le_s (am_le_s (am_le_s (am_le_s (am_le_n am_le_0)))))) ?_
            exact ih x4 v15 (x4 + 1) h T hf
          · refine r_goto (q := 108) dX12_pack_96 rfl ?_
            refine r_loc (L' := [some (.ref 413), some (.int x1), some (.int x2), some (.int p3), some (.int (x4 + 1)), some (.int v9)]) dX12_pack_108 rfl ?_
            refine r_goto (q := 56) dX12_pack_111 rfl ?_
            refine r_weak (L := [some (.ref 413), some (.int x1), some (.int x2), some (.int p3), some (.int (x4 + 1)), none]) (am_le_s (am_le_s (am_le_s (am_le_s (am_le_s (am_le_n am_le_0)))))) ?_
            exact ih x1 x2 (x4 + 1) h T hf
      · refine r_goto (q := 108) dX12_pack_71 rfl ?_
        refine r_loc (L' := [some (.ref 413), some (.int x1), some (.int x2), some (.int p3), some (.int (x4 + 1)), none]) dX12_pack_108 rfl ?_
        refine r_goto (q := 56) dX12_pack_111 rfl ?_
        exact ih x1 x2 (x4 + 1) h T hf
theorem rl_X12_pack_123 {X : am_X} {d : Nat} (hd : 2 ≤ d) (p1 : Int32) (p2 : Int32) (k_165 : am_H → Option (Int32 × am_H)) {r : Int32 × am_H} (hk_165 : ∀ (h : am_H), am_TP h.2.2 → k_165  h = some r → am_G X d 12 false cX12_pack (some .int) 165 [some (.ref 413), none, some (.int p2), none, none, none] [] (am_SH, h) (some (.int r.1), (am_SH, r.2))) : ∀ (n : Nat) (x4 : Int32) (h : am_H), am_TP h.2.2 → lp_X12_pack_123 p1 p2 k_165 n x4 h = some r → am_G X d 12 false cX12_pack (some .int) 123 [some (.ref 413), some (.int p1), some (.int p2), none, some (.int x4), none] [] (am_SH, h) (some (.int r.1), (am_SH, r.2)) := by
  obtain ⟨d, rfl⟩ : ∃ e, d = e + 1 := ⟨d - 1, by omega⟩
  intro n
  induction n with
  | zero => intro x4 h T hf; cases hf
  | succ n ih =>
    intro x4 h T hf
    rw [lp_X12_pack_123] at hf
    refine r_loc dX12_pack_123 rfl ?_
    refine r_bipush (v := 8) dX12_pack_125 rfl ?_
    refine r_ge (q := 165) dX12_pack_127 rfl hf (fun hf => ?_) (fun hf => ?_)
    · refine r_weak (L := [some (.ref 413), none, some (.int p2), none, none, none]) (am_le_s (am_le_n (am_le_s (am_le_n (am_le_n (am_le_n am_le_0)))))) ?_
      exact hk_165  h T hf
    · refine r_loc dX12_pack_130 rfl ?_
      refine r_getR dX12_pack_131 fl_12_97 sh_413 (Or.inr ⟨_, rfl⟩) (tp_413_46 T) ?_
      refine r_loc dX12_pack_134 rfl ?_
      refine r_loc dX12_pack_136 rfl ?_
      refine r_getR dX12_pack_137 fl_12_85 sh_413 (Or.inr ⟨_, rfl⟩) (tp_413_40 T) ?_
      refine r_iconst (v := 0) dX12_pack_140 rfl ?_
      refine r_loc dX12_pack_141 rfl ?_
      refine r_alu dX12_pack_143 rfl ?_
      refine r_iald dX12_pack_144 sh_437 hf (fun v21 hf => ?_)
      refine r_ne0 (q := 152) dX12_pack_145 rfl hf (fun hf => ?_) (fun hf => ?_)
      · refine r_loc dX12_pack_152 rfl ?_
        refine r_loc dX12_pack_153 rfl ?_
        obtain ⟨v23, c22, hf⟩ := cal_inv hf
        have g24 := rf_X12_twoBits (X := X) (d := d) (by omega) p1 x4 T c22
        refine r_stat (pre := [.int x4, .int p1]) (rest := [.int x4, .ref 440]) dX12_pack_155 ct_12_442 rfl (Nat.le_of_ble_eq_true rfl) (Nat.le_of_ble_eq_true rfl) g24 ?_
        refine r_iast dX12_pack_158 sh_440 hf (fun h25 e27 hf => ?_)
        have T26 := tp_eq e27 T
        refine r_loc (L' := [some (.ref 413), some (.int p1), some (.int p2), none, some (.int (x4 + 1)), none]) dX12_pack_159 rfl ?_
        refine r_goto (q := 123) dX12_pack_162 rfl ?_
        exact ih (x4 + 1) h25 T26 hf
      · refine r_iconst (v := (-1)) dX12_pack_148 rfl ?_
        refine r_goto (q := 158) dX12_pack_149 rfl ?_
        refine r_iast dX12_pack_158 sh_440 hf (fun h28 e30 hf => ?_)
        have T29 := tp_eq e30 T
        refine r_loc (L' := [some (.ref 413), some (.int p1), some (.int p2), none, some (.int (x4 + 1)), none]) dX12_pack_159 rfl ?_
        refine r_goto (q := 123) dX12_pack_162 rfl ?_
        exact ih (x4 + 1) h28 T29 hf
theorem rf_X12_pack {X : am_X} {d : Nat} (hd : 2 ≤ d)  {h : am_H} (T : am_TP h.2.2) {r : Int32 × am_H} (hf : f_X12_pack  h = some r) : am_G X d 12 false cX12_pack (some .int) 0 [some (.ref 413), none, none, none, none, none] [] (am_SH, h) (some (.int r.1), (am_SH, r.2)) := by
  unfold f_X12_pack at hf
  obtain ⟨d, rfl⟩ : ∃ e, d = e + 1 := ⟨d - 1, by omega⟩
  refine r_loc dX12_pack_0 rfl ?_
  refine r_iconst (v := 0) dX12_pack_1 rfl ?_
  refine r_putI dX12_pack_2 fl_12_372 sh_413 ⟨rfl, rfl⟩ hf (fun h1 e3 hf => ?_)
  have T2 := tp_eq e3 T
  refine r_iconst (v := (-1)) dX12_pack_5 rfl ?_
  refine r_loc (L' := [some (.ref 413), some (.int (-1)), none, none, none, none]) dX12_pack_6 rfl ?_
  refine r_sipush (v := 1000) dX12_pack_7 rfl ?_
  refine r_loc (L' := [some (.ref 413), some (.int (-1)), some (.int 1000), none, none, none]) dX12_pack_10 rfl ?_
  refine r_iconst (v := 0) dX12_pack_11 rfl ?_
  refine r_loc (L' := [some (.ref 413), some (.int (-1)), some (.int 1000), some (.int 0), none, none]) dX12_pack_12 rfl ?_
  refine r_iconst (v := 0) dX12_pack_13 rfl ?_
  refine r_loc (L' := [some (.ref 413), some (.int (-1)), some (.int 1000), some (.int 0), some (.int 0), none]) dX12_pack_14 rfl ?_
  refine rl_X12_pack_16 (by omega) (-1) 1000 _ ?_ 70000 0 0 h1 T2 hf
  · intro z5 h6 T7 hf
    refine r_iconst (v := 0) dX12_pack_53 rfl ?_
    refine r_loc (L' := [some (.ref 413), some (.int (-1)), some (.int 1000), some (.int z5), some (.int 0), none]) dX12_pack_54 rfl ?_
    refine rl_X12_pack_56 (by omega) z5 _ ?_ 70000 (-1) 1000 0 h6 T7 hf
    · intro z17 z18 h19 T20 hf
      refine r_loc dX12_pack_114 rfl ?_
      refine r_ge0 (q := 120) dX12_pack_115 rfl hf (fun hf => ?_) (fun hf => ?_)
      · refine r_iconst (v := 0) dX12_pack_120 rfl ?_
        refine r_loc (L' := [some (.ref 413), some (.int z17), some (.int z18), none, some (.int 0), none]) dX12_pack_121 rfl ?_
        refine rl_X12_pack_123 (by omega) z17 z18 _ ?_ 70000 0 h19 T20 hf
        · intro h31 T32 hf
          refine r_loc dX12_pack_165 rfl ?_
          refine r_bipush (v := 8) dX12_pack_166 rfl ?_
          refine r_putI dX12_pack_168 fl_12_372 sh_413 ⟨rfl, rfl⟩ hf (fun h33 e35 hf => ?_)
          have T34 := tp_eq e35 T32
          refine r_loc dX12_pack_171 rfl ?_
          cases hf
          exact r_ri T34 dX12_pack_172
      · refine r_iconst (v := (-1)) dX12_pack_118 rfl ?_
        cases hf
        exact r_ri T20 dX12_pack_119
def lp_X12_fill_24 (p1 : Int32) (p2 : Int32) (h : am_H) (k_106 : Int32 → Option (Int32)) : Nat → Int32 → Int32 → Option (Int32)
  | 0, _, _ => none
  | n + 1, x3, x4 => if x4 < 256 then cal (f_X12_those h) fun v8 => if (x4 &&& (v8 ^^^ ((-1) : Int32))) = 0 then cal (f_X12_bulkOf x4 h) fun v11 => cal (f_X12_holdsOf p1 h) fun v14 => if v14 < v11 then lp_X12_fill_24 p1 p2 h k_106 n x3 (x4 + 1) else cal (f_X12_bulkOf x4 h) fun v17 => cal (f_X12_bulkOf x3 h) fun v20 => if 0 < (v17 - v20) then lp_X12_fill_24 p1 p2 h k_106 n x4 (x4 + 1) else if (v17 - v20) = 0 then cal (f_X12_bitsOf x4 h) fun v23 => cal (f_X12_bitsOf x3 h) fun v26 => if v23 < v26 then lp_X12_fill_24 p1 p2 h k_106 n x4 (x4 + 1) else lp_X12_fill_24 p1 p2 h k_106 n x3 (x4 + 1) else lp_X12_fill_24 p1 p2 h k_106 n x3 (x4 + 1) else lp_X12_fill_24 p1 p2 h k_106 n x3 (x4 + 1) else k_106 x3
def f_X12_fill (x1 : Int32) (x2 : Int32) (h : am_H) : Option (Int32) := cal (f_X12_isRoom x1 h) fun v2 => if v2 = 0 then some (-1) else cal (f_X12_isIn x2 0 1 h) fun v5 => if v5 = 0 then some (-1) else lp_X12_fill_24 x1 x2 h (fun z28 => if x2 = 0 then cal (f_X12_bulkOf z28 h) fun v30 => some v30 else some z28) 4000 0 1
theorem rl_X12_fill_24 {X : am_X} {d : Nat} (hd : 2 ≤ d) (p1 : Int32) (p2 : Int32) {h : am_H} (T : am_TP h.2.2) (k_106 : Int32 → Option (Int32)) {r : Int32} (hk_106 : ∀ (z3 : Int32) , k_106 z3 = some r → am_G X d 12 false cX12_fill (some .int) 106 [some (.ref 413), none, some (.int p2), some (.int z3), none, none] [] (am_SH, h) (some (.int r), (am_SH, h))) : ∀ (n : Nat) (x3 : Int32) (x4 : Int32) , lp_X12_fill_24 p1 p2 h k_106 n x3 x4 = some r → am_G X d 12 false cX12_fill (some .int) 24 [some (.ref 413), some (.int p1), some (.int p2), some (.int x3), some (.int x4), none] [] (am_SH, h) (some (.int r), (am_SH, h)) := by
  obtain ⟨d, rfl⟩ : ∃ e, d = e + 1 := ⟨d - 1, by omega⟩
  intro n
  induction n with
  | zero => intro x3 x4 hf; cases hf
  | succ n ih =>
    intro x3 x4 hf
    rw [lp_X12_fill_24] at hf
    refine r_loc dX12_fill_24 rfl ?_
    refine r_sipush (v := 256) dX12_fill_26 rfl ?_
    refine r_ge (q := 106) dX12_fill_29 rfl hf (fun hf => ?_) (fun hf => ?_)
    · refine r_weak (L := [some (.ref 413), none, some (.int p2), some (.int x3), none, none]) (am_le_s (am_le_n (am_le_s (am_le_s (am_le_n (am_le_n am_le_0)))))) ?_
      exact hk_106 x3 hf
    · refine r_loc dX12_fill_32 rfl ?_
      refine r_loc dX12_fill_34 rfl ?_
      obtain ⟨v8, c7, hf⟩ := cal_inv hf
      have g9 := rf_X12_those (X := X) (d := d) (by omega) T c7
      refine r_virt (pre := []) (rest := [.int x4]) dX12_fill_35 ct_12_331 rfl (sh_413) (Nat.le_of_ble_eq_true rfl) (Nat.le_of_ble_eq_true rfl) g9 ?_
      refine r_iconst (v := (-1)) dX12_fill_38 rfl ?_
      refine r_alu dX12_fill_39 rfl ?_
      refine r_alu dX12_fill_40 rfl ?_
      refine r_ne0 (q := 100) dX12_fill_41 rfl hf (fun hf => ?_) (fun hf => ?_)
      · refine r_loc (L' := [some (.ref 413), some (.int p1), some (.int p2), some (.int x3), some (.int (x4 + 1)), none]) dX12_fill_100 rfl ?_
        refine r_goto (q := 24) dX12_fill_103 rfl ?_
        exact ih x3 (x4 + 1) hf
      · refine r_loc dX12_fill_44 rfl ?_
        refine r_loc dX12_fill_45 rfl ?_
        obtain ⟨v11, c10, hf⟩ := cal_inv hf
        have g12 := rf_X12_bulkOf (X := X) (d := d) (by omega) x4 T c10
        refine r_virt (pre := [.int x4]) (rest := []) dX12_fill_47 ct_12_356 rfl (sh_413) (Nat.le_of_ble_eq_true rfl) (Nat.le_of_ble_eq_true rfl) g12 ?_
        refine r_loc dX12_fill_50 rfl ?_
        refine r_loc dX12_fill_51 rfl ?_
        obtain ⟨v14, c13, hf⟩ := cal_inv hf
        have g15 := rf_X12_holdsOf (X := X) (d := d) (by omega) p1 T c13
        refine r_virt (pre := [.int p1]) (rest := [.int v11]) dX12_fill_52 ct_12_350 rfl (sh_413) (Nat.le_of_ble_eq_true rfl) (Nat.le_of_ble_eq_true rfl) g15 ?_
        refine r_le (q := 61) dX12_fill_55 rfl hf (fun hf => ?_) (fun hf => ?_)
        · refine r_loc dX12_fill_61 rfl ?_
          refine r_loc dX12_fill_62 rfl ?_
          obtain ⟨v17, c16, hf⟩ := cal_inv hf
          have g18 := rf_X12_bulkOf (X := X) (d := d) (by omega) x4 T c16
          refine r_virt (pre := [.int x4]) (rest := []) dX12_fill_64 ct_12_356 rfl (sh_413) (Nat.le_of_ble_eq_true rfl) (Nat.le_of_ble_eq_true rfl) g18 ?_
          refine r_loc dX12_fill_67 rfl ?_
          refine r_loc dX12_fill_68 rfl ?_
          obtain ⟨v20, c19, hf⟩ := cal_inv hf
          have g21 := rf_X12_bulkOf (X := X) (d := d) (by omega) x3 T c19
          refine r_virt (pre := [.int x3]) (rest := [.int v17]) dX12_fill_69 ct_12_356 rfl (sh_413) (Nat.le_of_ble_eq_true rfl) (Nat.le_of_ble_eq_true rfl) g21 ?_
          refine r_alu dX12_fill_72 rfl ?_
          refine r_loc (L' := [some (.ref 413), some (.int p1), some (.int p2), some (.int x3), some (.int x4), some (.int (v17 - v20))]) dX12_fill_73 rfl ?_
          refine r_loc dX12_fill_75 rfl ?_
          refine r_gt0 (q := 97) dX12_fill_77 rfl hf (fun hf => ?_) (fun hf => ?_)
          · refine r_loc dX12_fill_97 rfl ?_
            refine r_loc (L' := [some (.ref 413), some (.int p1), some (.int p2), some (.int x4), some (.int x4), some (.int (v17 - v20))]) dX12_fill_99 rfl ?_
            refine r_loc (L' := [some (.ref 413), some (.int p1), some (.int p2), some (.int x4), some (.int (x4 + 1)), some (.int (v17 - v20))]) dX12_fill_100 rfl ?_
            refine r_goto (q := 24) dX12_fill_103 rfl ?_
            refine r_weak (L := [some (.ref 413), some (.int p1), some (.int p2), some (.int x4), some (.int (x4 + 1)), none]) (am_le_s (am_le_s (am_le_s (am_le_s (am_le_s (am_le_n am_le_0)))))) ?_
            exact ih x4 (x4 + 1) hf
          · refine r_loc dX12_fill_80 rfl ?_
            refine r_ne0 (q := 100) dX12_fill_82 rfl hf (fun hf => ?_) (fun hf => ?_)
            · refine r_loc (L' := [some (.ref 413), some (.int p1), some (.int p2), some (.int x3), some (.int (x4 + 1)), some (.int (v17 - v20))]) dX12_fill_100 rfl ?_
              refine r_goto (q := 24) dX12_fill_103 rfl ?_
              refine r_weak (L := [some (.ref 413), some (.int p1), some (.int p2), some (.int x3), some (.int (x4 + 1)), none]) (am_le_s (am_le_s (am_le_s (am_le_s (am_le_s (am_le_n am_le_0)))))) ?_
              exact ih x3 (x4 + 1) hf
            · refine r_loc dX12_fill_85 rfl ?_
              obtain ⟨v23, c22, hf⟩ := cal_inv hf
              have g24 := rf_X12_bitsOf (X := X) (d := d) (by omega) x4 T c22
              refine r_stat (pre := [.int x4]) (rest := []) dX12_fill_87 ct_12_334 rfl (Nat.le_of_ble_eq_true rfl) (Nat.le_of_ble_eq_true rfl) g24 ?_
              refine r_loc dX12_fill_90 rfl ?_
              obtain ⟨v26, c25, hf⟩ := cal_inv hf
              have g27 := rf_X12_bitsOf (X := X) (d := d) (by omega) x3 T c25
              refine r_stat (pre := [.int x3]) (rest := [.int v23]) dX12_fill_91 ct_12_334 rfl (Nat.le_of_ble_eq_true rfl) (Nat.le_of_ble_eq_true rfl) g27 ?_
              refine r_ge (q := 100) dX12_fill_94 rfl hf (fun hf => ?_) (fun hf => ?_)
              · refine r_loc (L' := [some (.ref 413), some (.int p1), some (.int p2), some (.int x3), some (.int (x4 + 1)), some (.int (v17 - v20))]) dX12_fill_100 rfl ?_
                refine r_goto (q := 24) dX12_fill_103 rfl ?_
                refine r_weak (L := [some (.ref 413), some (.int p1), some (.int p2), some (.int x3), some (.int (x4 + 1)), none]) (am_le_s (am_le_s (am_le_s (am_le_s (am_le_s (am_le_n am_le_0)))))) ?_
                exact ih x3 (x4 + 1) hf
              · refine r_loc dX12_fill_97 rfl ?_
                refine r_loc (L' := [some (.ref 413), some (.int p1), some (.int p2), some (.int x4), some (.int x4), some (.int (v17 - v20))]) dX12_fill_99 rfl ?_
                refine r_loc (L' := [some (.ref 413), some (.int p1), some (.int p2), some (.int x4), some (.int (x4 + 1)), some (.int (v17 - v20))]) dX12_fill_100 rfl ?_
                refine r_goto (q := 24) dX12_fill_103 rfl ?_
                refine r_weak (L := [some (.ref 413), some (.int p1), some (.int p2), some (.int x4), some (.int (x4 + 1)), none]) (am_le_s (am_le_s (am_le_s (am_le_s (am_le_s (am_le_n am_le_0)))))) ?_
                exact ih x4 (x4 + 1) hf
        · refine r_goto (q := 100) dX12_fill_58 rfl ?_
          refine r_loc (L' := [some (.ref 413), some (.int p1), some (.int p2), some (.int x3), some (.int (x4 + 1)), none]) dX12_fill_100 rfl ?_
          refine r_goto (q := 24) dX12_fill_103 rfl ?_
          exact ih x3 (x4 + 1) hf
theorem rf_X12_fill {X : am_X} {d : Nat} (hd : 2 ≤ d) (x1 : Int32) (x2 : Int32) {h : am_H} (T : am_TP h.2.2) {r : Int32} (hf : f_X12_fill x1 x2 h = some r) : am_G X d 12 false cX12_fill (some .int) 0 [some (.ref 413), some (.int x1), some (.int x2), none, none, none] [] (am_SH, h) (some (.int r), (am_SH, h)) := by
  unfold f_X12_fill at hf
  obtain ⟨d, rfl⟩ : ∃ e, d = e + 1 := ⟨d - 1, by omega⟩
  refine r_loc dX12_fill_0 rfl ?_
  refine r_loc dX12_fill_1 rfl ?_
  obtain ⟨v2, c1, hf⟩ := cal_inv hf
  have g3 := rf_X12_isRoom (X := X) (d := d) (by omega) x1 T c1
  refine r_virt (pre := [.int x1]) (rest := []) dX12_fill_2 ct_12_408 rfl (sh_413) (Nat.le_of_ble_eq_true rfl) (Nat.le_of_ble_eq_true rfl) g3 ?_
  refine r_eq0 (q := 17) dX12_fill_5 rfl hf (fun hf => ?_) (fun hf => ?_)
  · refine r_iconst (v := (-1)) dX12_fill_17 rfl ?_
    cases hf
    exact r_ri T dX12_fill_18
  · refine r_loc dX12_fill_8 rfl ?_
    refine r_iconst (v := 0) dX12_fill_9 rfl ?_
    refine r_iconst (v := 1) dX12_fill_10 rfl ?_
    obtain ⟨v5, c4, hf⟩ := cal_inv hf
    have g6 := rf_X12_isIn (X := X) (d := d) (by omega) x2 0 1 T c4
    refine r_stat (pre := [.int 1, .int 0, .int x2]) (rest := []) dX12_fill_11 ct_12_346 rfl (Nat.le_of_ble_eq_true rfl) (Nat.le_of_ble_eq_true rfl) g6 ?_
    refine r_ne0 (q := 19) dX12_fill_14 rfl hf (fun hf => ?_) (fun hf => ?_)
    · refine r_iconst (v := 0) dX12_fill_19 rfl ?_
      refine r_loc (L' := [some (.ref 413), some (.int x1), some (.int x2), some (.int 0), none, none]) dX12_fill_20 rfl ?_
      refine r_iconst (v := 1) dX12_fill_21 rfl ?_
      refine r_loc (L' := [some (.ref 413), some (.int x1), some (.int x2), some (.int 0), some (.int 1), none]) dX12_fill_22 rfl ?_
      refine rl_X12_fill_24 (by omega) x1 x2 T _ ?_ 4000 0 1  hf
      · intro z28 hf
        refine r_loc dX12_fill_106 rfl ?_
        refine r_ne0 (q := 118) dX12_fill_107 rfl hf (fun hf => ?_) (fun hf => ?_)
        · refine r_loc dX12_fill_118 rfl ?_
          cases hf
          exact r_ri T dX12_fill_119
        · refine r_loc dX12_fill_110 rfl ?_
          refine r_loc dX12_fill_111 rfl ?_
          obtain ⟨v30, c29, hf⟩ := cal_inv hf
          have g31 := rf_X12_bulkOf (X := X) (d := d) (by omega) z28 T c29
          refine r_virt (pre := [.int z28]) (rest := []) dX12_fill_112 ct_12_356 rfl (sh_413) (Nat.le_of_ble_eq_true rfl) (Nat.le_of_ble_eq_true rfl) g31 ?_
          refine r_goto (q := 119) dX12_fill_115 rfl ?_
          cases hf
          exact r_ri T dX12_fill_119
    · refine r_iconst (v := (-1)) dX12_fill_17 rfl ?_
      cases hf
      exact r_ri T dX12_fill_18
def f_X12_leftBut (x1 : Int32) (x2 : Int32) (x3 : Int32) (h : am_H) : Option (Int32) := cal (f_X12_holdsOf x1 h) fun v2 => cal (f_X12_thoseIn x1 h) fun v5 => cal (f_X12_bulkOf ((v5 &&& (((1 : Int32) <<< (x2 &&& 31)) ^^^ ((-1) : Int32))) &&& (((1 : Int32) <<< (x3 &&& 31)) ^^^ ((-1) : Int32))) h) fun v8 => some (v2 - v8)
theorem rf_X12_leftBut {X : am_X} {d : Nat} (hd : 2 ≤ d) (x1 : Int32) (x2 : Int32) (x3 : Int32) {h : am_H} (T : am_TP h.2.2) {r : Int32} (hf : f_X12_leftBut x1 x2 x3 h = some r) : am_G X d 12 false cX12_leftBut (some .int) 0 [some (.ref 413), some (.int x1), some (.int x2), some (.int x3)] [] (am_SH, h) (some (.int r), (am_SH, h)) := by
  unfold f_X12_leftBut at hf
  obtain ⟨d, rfl⟩ : ∃ e, d = e + 1 := ⟨d - 1, by omega⟩
  refine r_loc dX12_leftBut_0 rfl ?_
  refine r_loc dX12_leftBut_1 rfl ?_
  obtain ⟨v2, c1, hf⟩ := cal_inv hf
  have g3 := rf_X12_holdsOf (X := X) (d := d) (by omega) x1 T c1
  refine r_virt (pre := [.int x1]) (rest := []) dX12_leftBut_2 ct_12_350 rfl (sh_413) (Nat.le_of_ble_eq_true rfl) (Nat.le_of_ble_eq_true rfl) g3 ?_
  refine r_loc dX12_leftBut_5 rfl ?_
  refine r_loc dX12_leftBut_6 rfl ?_
  refine r_loc dX12_leftBut_7 rfl ?_
  obtain ⟨v5, c4, hf⟩ := cal_inv hf
  have g6 := rf_X12_thoseIn (X := X) (d := d) (by omega) x1 T c4
  refine r_virt (pre := [.int x1]) (rest := [.ref 413, .int v2]) dX12_leftBut_8 ct_12_353 rfl (sh_413) (Nat.le_of_ble_eq_true rfl) (Nat.le_of_ble_eq_true rfl) g6 ?_
  refine r_iconst (v := 1) dX12_leftBut_11 rfl ?_
  refine r_loc dX12_leftBut_12 rfl ?_
  refine r_alu dX12_leftBut_13 rfl ?_
  refine r_iconst (v := (-1)) dX12_leftBut_14 rfl ?_
  refine r_alu dX12_leftBut_15 rfl ?_
  refine r_alu dX12_leftBut_16 rfl ?_
  refine r_iconst (v := 1) dX12_leftBut_17 rfl ?_
  refine r_loc dX12_leftBut_18 rfl ?_
  refine r_alu dX12_leftBut_19 rfl ?_
  refine r_iconst (v := (-1)) dX12_leftBut_20 rfl ?_
  refine r_alu dX12_leftBut_21 rfl ?_
  refine r_alu dX12_leftBut_22 rfl ?_
  obtain ⟨v8, c7, hf⟩ := cal_inv hf
  have g9 := rf_X12_bulkOf (X := X) (d := d) (by omega) ((v5 &&& (((1 : Int32) <<< (x2 &&& 31)) ^^^ ((-1) : Int32))) &&& (((1 : Int32) <<< (x3 &&& 31)) ^^^ ((-1) : Int32))) T c7
  refine r_virt (pre := [.int ((v5 &&& (((1 : Int32) <<< (x2 &&& 31)) ^^^ ((-1) : Int32))) &&& (((1 : Int32) <<< (x3 &&& 31)) ^^^ ((-1) : Int32)))]) (rest := [.int v2]) dX12_leftBut_23 ct_12_356 rfl (sh_413) (Nat.le_of_ble_eq_true rfl) (Nat.le_of_ble_eq_true rfl) g9 ?_
  refine r_alu dX12_leftBut_26 rfl ?_
  cases hf
  exact r_ri T dX12_leftBut_27
def f_X12_canChoose (x1 : Int32) (x2 : Int32) (x3 : Int32) (h : am_H) : Option (Int32) := cal (f_X12_isRoom x3 h) fun v2 => if v2 = 0 then some 0 else cal (f_X12_leftBut x3 x1 x2 h) fun v5 => rdI h 437 59 ((0 : Int32) + x1) fun v7 => if v5 < v7 then some 0 else some 1
theorem rf_X12_canChoose {X : am_X} {d : Nat} (hd : 3 ≤ d) (x1 : Int32) (x2 : Int32) (x3 : Int32) {h : am_H} (T : am_TP h.2.2) {r : Int32} (hf : f_X12_canChoose x1 x2 x3 h = some r) : am_G X d 12 false cX12_canChoose (some .boolean) 0 [some (.ref 413), some (.int x1), some (.int x2), some (.int x3)] [] (am_SH, h) (some (.int r), (am_SH, h)) := by
  unfold f_X12_canChoose at hf
  obtain ⟨d, rfl⟩ : ∃ e, d = e + 1 := ⟨d - 1, by omega⟩
  refine r_loc dX12_canChoose_0 rfl ?_
  refine r_loc dX12_canChoose_1 rfl ?_
  obtain ⟨v2, c1, hf⟩ := cal_inv hf
  have g3 := rf_X12_isRoom (X := X) (d := d) (by omega) x3 T c1
  refine r_virt (pre := [.int x3]) (rest := []) dX12_canChoose_2 ct_12_408 rfl (sh_413) (Nat.le_of_ble_eq_true rfl) (Nat.le_of_ble_eq_true rfl) g3 ?_
  refine r_eq0 (q := 30) dX12_canChoose_5 rfl hf (fun hf => ?_) (fun hf => ?_)
  · refine r_iconst (v := 0) dX12_canChoose_30 rfl ?_
    cases hf
    exact r_z0 T dX12_canChoose_31
  · refine r_loc dX12_canChoose_8 rfl ?_
    refine r_loc dX12_canChoose_9 rfl ?_
    refine r_loc dX12_canChoose_10 rfl ?_
    refine r_loc dX12_canChoose_11 rfl ?_
    obtain ⟨v5, c4, hf⟩ := cal_inv hf
    have g6 := rf_X12_leftBut (X := X) (d := d) (by omega) x3 x1 x2 T c4
    refine r_virt (pre := [.int x2, .int x1, .int x3]) (rest := []) dX12_canChoose_12 ct_12_449 rfl (sh_413) (Nat.le_of_ble_eq_true rfl) (Nat.le_of_ble_eq_true rfl) g6 ?_
    refine r_loc dX12_canChoose_15 rfl ?_
    refine r_getR dX12_canChoose_16 fl_12_85 sh_413 (Or.inr ⟨_, rfl⟩) (tp_413_40 T) ?_
    refine r_iconst (v := 0) dX12_canChoose_19 rfl ?_
    refine r_loc dX12_canChoose_20 rfl ?_
    refine r_alu dX12_canChoose_21 rfl ?_
    refine r_iald dX12_canChoose_22 sh_437 hf (fun v7 hf => ?_)
    refine r_lt (q := 30) dX12_canChoose_23 rfl hf (fun hf => ?_) (fun hf => ?_)
    · refine r_iconst (v := 0) dX12_canChoose_30 rfl ?_
      cases hf
      exact r_z0 T dX12_canChoose_31
    · refine r_iconst (v := 1) dX12_canChoose_26 rfl ?_
      refine r_goto (q := 31) dX12_canChoose_27 rfl ?_
      cases hf
      exact r_z1 T dX12_canChoose_31
def jn_X12_gainOf_34 (y0 : Int32) (y1 : Int32) (h : am_H) : Option (Int32) := if (y1 - y0) < 0 then some (-1) else some (y1 - y0)
def f_X12_gainOf (x1 : Int32) (x2 : Int32) (x3 : Int32) (x4 : Int32) (h : am_H) : Option (Int32) := cal (f_X12_leftBut x3 x1 x2 h) fun v2 => rdI h 437 59 ((0 : Int32) + x1) fun v4 => if x3 = x4 then rdI h 437 59 ((0 : Int32) + x2) fun v5 => jn_X12_gainOf_34 v5 (v2 - v4) h else jn_X12_gainOf_34 0 (v2 - v4) h
theorem rj_X12_gainOf_34 {X : am_X} {d : Nat} (hd : 3 ≤ d) (y0 : Int32) (y1 : Int32) {h : am_H} (T : am_TP h.2.2) {r : Int32} (hf : jn_X12_gainOf_34 y0 y1 h = some r) : am_G X d 12 false cX12_gainOf (some .int) 34 [none, none, none, none, none, none] [.int y0, .int y1] (am_SH, h) (some (.int r), (am_SH, h)) := by
  obtain ⟨d, rfl⟩ : ∃ e, d = e + 1 := ⟨d - 1, by omega⟩
  unfold jn_X12_gainOf_34 at hf
  refine r_alu dX12_gainOf_34 rfl ?_
  refine r_loc (L' := [none, none, none, none, none, some (.int (y1 - y0))]) dX12_gainOf_35 rfl ?_
  refine r_loc dX12_gainOf_37 rfl ?_
  refine r_ge0 (q := 46) dX12_gainOf_39 rfl hf (fun hf => ?_) (fun hf => ?_)
  · refine r_loc dX12_gainOf_46 rfl ?_
    cases hf
    exact r_ri T dX12_gainOf_48
  · refine r_iconst (v := (-1)) dX12_gainOf_42 rfl ?_
    refine r_goto (q := 48) dX12_gainOf_43 rfl ?_
    cases hf
    exact r_ri T dX12_gainOf_48
theorem rf_X12_gainOf {X : am_X} {d : Nat} (hd : 3 ≤ d) (x1 : Int32) (x2 : Int32) (x3 : Int32) (x4 : Int32) {h : am_H} (T : am_TP h.2.2) {r : Int32} (hf : f_X12_gainOf x1 x2 x3 x4 h = some r) : am_G X d 12 false cX12_gainOf (some .int) 0 [some (.ref 413), some (.int x1), some (.int x2), some (.int x3), some (.int x4), none] [] (am_SH, h) (some (.int r), (am_SH, h)) := by
  unfold f_X12_gainOf at hf
  obtain ⟨d, rfl⟩ : ∃ e, d = e + 1 := ⟨d - 1, by omega⟩
  refine r_loc dX12_gainOf_0 rfl ?_
  refine r_loc dX12_gainOf_1 rfl ?_
  refine r_loc dX12_gainOf_2 rfl ?_
  refine r_loc dX12_gainOf_3 rfl ?_
  obtain ⟨v2, c1, hf⟩ := cal_inv hf
  have g3 := rf_X12_leftBut (X := X) (d := d) (by omega) x3 x1 x2 T c1
  refine r_virt (pre := [.int x2, .int x1, .int x3]) (rest := []) dX12_gainOf_4 ct_12_449 rfl (sh_413) (Nat.le_of_ble_eq_true rfl) (Nat.le_of_ble_eq_true rfl) g3 ?_
  refine r_loc dX12_gainOf_7 rfl ?_
  refine r_getR dX12_gainOf_8 fl_12_85 sh_413 (Or.inr ⟨_, rfl⟩) (tp_413_40 T) ?_
  refine r_iconst (v := 0) dX12_gainOf_11 rfl ?_
  refine r_loc dX12_gainOf_12 rfl ?_
  refine r_alu dX12_gainOf_13 rfl ?_
  refine r_iald dX12_gainOf_14 sh_437 hf (fun v4 hf => ?_)
  refine r_alu dX12_gainOf_15 rfl ?_
  refine r_loc dX12_gainOf_16 rfl ?_
  refine r_loc dX12_gainOf_17 rfl ?_
  refine r_ne (q := 33) dX12_gainOf_19 rfl hf (fun hf => ?_) (fun hf => ?_)
  · refine r_iconst (v := 0) dX12_gainOf_33 rfl ?_
    refine r_weak (L := [none, none, none, none, none, none]) (am_le_n (am_le_n (am_le_n (am_le_n (am_le_n (am_le_n am_le_0)))))) ?_
    exact rj_X12_gainOf_34 (by omega) 0 (v2 - v4) T hf
  · refine r_loc dX12_gainOf_22 rfl ?_
    refine r_getR dX12_gainOf_23 fl_12_85 sh_413 (Or.inr ⟨_, rfl⟩) (tp_413_40 T) ?_
    refine r_iconst (v := 0) dX12_gainOf_26 rfl ?_
    refine r_loc dX12_gainOf_27 rfl ?_
    refine r_alu dX12_gainOf_28 rfl ?_
    refine r_iald dX12_gainOf_29 sh_437 hf (fun v5 hf => ?_)
    refine r_goto (q := 34) dX12_gainOf_30 rfl ?_
    refine r_weak (L := [none, none, none, none, none, none]) (am_le_n (am_le_n (am_le_n (am_le_n (am_le_n (am_le_n am_le_0)))))) ?_
    exact rj_X12_gainOf_34 (by omega) v5 (v2 - v4) T hf
def jn_X12_isRest_47 (k_3 : Int32 → Option (Int32)) (x1 : Int32) (x2 : Int32) (x3 : Int32) (x4 : Int32) (x5 : Int32) (h : am_H) : Option (Int32) := cal (f_X12_canChoose x2 x1 x5 h) fun v8 => if v8 = 0 then k_3 (x5 + 1) else cal (f_X12_gainOf x2 x1 x5 x3 h) fun v11 => cal (f_X12_gainOf x2 x1 x4 x3 h) fun v14 => if v14 < v11 then some 0 else k_3 (x5 + 1)
def lp_X12_isRest_3 (p1 : Int32) (p2 : Int32) (p3 : Int32) (p4 : Int32) (h : am_H) : Nat → Int32 → Option (Int32)
  | 0, _ => none
  | n + 1, x5 => cal (f_X12_chambers h) fun v2 => if x5 < v2 then cal (f_X12_canChoose p1 p2 x5 h) fun v5 => if v5 = 0 then jn_X12_isRest_47 (lp_X12_isRest_3 p1 p2 p3 p4 h n) p1 p2 p3 p4 x5 h else cal (f_X12_gainOf p1 p2 x5 p4 h) fun v17 => cal (f_X12_gainOf p1 p2 p3 p4 h) fun v20 => if v20 < v17 then some 0 else jn_X12_isRest_47 (lp_X12_isRest_3 p1 p2 p3 p4 h n) p1 p2 p3 p4 x5 h else some 1
def f_X12_isRest (x1 : Int32) (x2 : Int32) (x3 : Int32) (x4 : Int32) (h : am_H) : Option (Int32) := lp_X12_isRest_3 x1 x2 x3 x4 h  4000 0
theorem rj_X12_isRest_47 {X : am_X} {d : Nat} (hd : 4 ≤ d) (k_3 : Int32 → Option (Int32)) (x1 : Int32) (x2 : Int32) (x3 : Int32) (x4 : Int32) (x5 : Int32) {h : am_H} (T : am_TP h.2.2) {r : Int32} (hk_3 : ∀ (x5 : Int32) , k_3 x5 = some r → am_G X d 12 false cX12_isRest (some .boolean) 3 [some (.ref 413), some (.int x1), some (.int x2), some (.int x3), some (.int x4), some (.int x5)] [] (am_SH, h) (some (.int r), (am_SH, h))) (hf : jn_X12_isRest_47 k_3 x1 x2 x3 x4 x5 h = some r) : am_G X d 12 false cX12_isRest (some .boolean) 47 [some (.ref 413), some (.int x1), some (.int x2), some (.int x3), some (.int x4), some (.int x5)] [] (am_SH, h) (some (.int r), (am_SH, h)) := by
  obtain ⟨d, rfl⟩ : ∃ e, d = e + 1 := ⟨d - 1, by omega⟩
  unfold jn_X12_isRest_47 at hf
  refine r_loc dX12_isRest_47 rfl ?_
  refine r_loc dX12_isRest_48 rfl ?_
  refine r_loc dX12_isRest_49 rfl ?_
  refine r_loc dX12_isRest_50 rfl ?_
  obtain ⟨v8, c7, hf⟩ := cal_inv hf
  have g9 := rf_X12_canChoose (X := X) (d := d) (by omega) x2 x1 x5 T c7
  refine r_virt (pre := [.int x5, .int x1, .int x2]) (rest := []) dX12_isRest_52 ct_12_452 rfl (sh_413) (Nat.le_of_ble_eq_true rfl) (Nat.le_of_ble_eq_true rfl) g9 ?_
  refine r_eq0 (q := 81) dX12_isRest_55 rfl hf (fun hf => ?_) (fun hf => ?_)
  · refine r_loc (L' := [some (.ref 413), some (.int x1), some (.int x2), some (.int x3), some (.int x4), some (.int (x5 + 1))]) dX12_isRest_81 rfl ?_
    refine r_goto (q := 3) dX12_isRest_84 rfl ?_
    exact hk_3 (x5 + 1) hf
  · refine r_loc dX12_isRest_58 rfl ?_
    refine r_loc dX12_isRest_59 rfl ?_
    refine r_loc dX12_isRest_60 rfl ?_
    refine r_loc dX12_isRest_61 rfl ?_
    refine r_loc dX12_isRest_63 rfl ?_
    obtain ⟨v11, c10, hf⟩ := cal_inv hf
    have g12 := rf_X12_gainOf (X := X) (d := d) (by omega) x2 x1 x5 x3 T c10
    refine r_virt (pre := [.int x3, .int x5, .int x1, .int x2]) (rest := []) dX12_isRest_64 ct_12_455 rfl (sh_413) (Nat.le_of_ble_eq_true rfl) (Nat.le_of_ble_eq_true rfl) g12 ?_
    refine r_loc dX12_isRest_67 rfl ?_
    refine r_loc dX12_isRest_68 rfl ?_
    refine r_loc dX12_isRest_69 rfl ?_
    refine r_loc dX12_isRest_70 rfl ?_
    refine r_loc dX12_isRest_72 rfl ?_
    obtain ⟨v14, c13, hf⟩ := cal_inv hf
    have g15 := rf_X12_gainOf (X := X) (d := d) (by omega) x2 x1 x4 x3 T c13
    refine r_virt (pre := [.int x3, .int x4, .int x1, .int x2]) (rest := [.int v11]) dX12_isRest_73 ct_12_455 rfl (sh_413) (Nat.le_of_ble_eq_true rfl) (Nat.le_of_ble_eq_true rfl) g15 ?_
    refine r_le (q := 81) dX12_isRest_76 rfl hf (fun hf => ?_) (fun hf => ?_)
    · refine r_loc (L' := [some (.ref 413), some (.int x1), some (.int x2), some (.int x3), some (.int x4), some (.int (x5 + 1))]) dX12_isRest_81 rfl ?_
      refine r_goto (q := 3) dX12_isRest_84 rfl ?_
      exact hk_3 (x5 + 1) hf
    · refine r_iconst (v := 0) dX12_isRest_79 rfl ?_
      cases hf
      exact r_z0 T dX12_isRest_80
theorem rl_X12_isRest_3 {X : am_X} {d : Nat} (hd : 4 ≤ d) (p1 : Int32) (p2 : Int32) (p3 : Int32) (p4 : Int32) {h : am_H} (T : am_TP h.2.2) {r : Int32} : ∀ (n : Nat) (x5 : Int32) , lp_X12_isRest_3 p1 p2 p3 p4 h n x5 = some r → am_G X d 12 false cX12_isRest (some .boolean) 3 [some (.ref 413), some (.int p1), some (.int p2), some (.int p3), some (.int p4), some (.int x5)] [] (am_SH, h) (some (.int r), (am_SH, h)) := by
  obtain ⟨d, rfl⟩ : ∃ e, d = e + 1 := ⟨d - 1, by omega⟩
  intro n
  induction n with
  | zero => intro x5 hf; cases hf
  | succ n ih =>
    intro x5 hf
    rw [lp_X12_isRest_3] at hf
    refine r_loc dX12_isRest_3 rfl ?_
    refine r_loc dX12_isRest_5 rfl ?_
    obtain ⟨v2, c1, hf⟩ := cal_inv hf
    have g3 := rf_X12_chambers (X := X) (d := d) (by omega) T c1
    refine r_virt (pre := []) (rest := [.int x5]) dX12_isRest_6 ct_12_343 rfl (sh_413) (Nat.le_of_ble_eq_true rfl) (Nat.le_of_ble_eq_true rfl) g3 ?_
    refine r_ge (q := 87) dX12_isRest_9 rfl hf (fun hf => ?_) (fun hf => ?_)
    · refine r_iconst (v := 1) dX12_isRest_87 rfl ?_
      cases hf
      exact r_z1 T dX12_isRest_88
    · refine r_loc dX12_isRest_12 rfl ?_
      refine r_loc dX12_isRest_13 rfl ?_
      refine r_loc dX12_isRest_14 rfl ?_
      refine r_loc dX12_isRest_15 rfl ?_
      obtain ⟨v5, c4, hf⟩ := cal_inv hf
      have g6 := rf_X12_canChoose (X := X) (d := d) (by omega) p1 p2 x5 T c4
      refine r_virt (pre := [.int x5, .int p2, .int p1]) (rest := []) dX12_isRest_17 ct_12_452 rfl (sh_413) (Nat.le_of_ble_eq_true rfl) (Nat.le_of_ble_eq_true rfl) g6 ?_
      refine r_eq0 (q := 47) dX12_isRest_20 rfl hf (fun hf => ?_) (fun hf => ?_)
      · exact rj_X12_isRest_47 (by omega) (lp_X12_isRest_3 p1 p2 p3 p4 h n) p1 p2 p3 p4 x5 T (ih) hf
      · refine r_loc dX12_isRest_23 rfl ?_
        refine r_loc dX12_isRest_24 rfl ?_
        refine r_loc dX12_isRest_25 rfl ?_
        refine r_loc dX12_isRest_26 rfl ?_
        refine r_loc dX12_isRest_28 rfl ?_
        obtain ⟨v17, c16, hf⟩ := cal_inv hf
        have g18 := rf_X12_gainOf (X := X) (d := d) (by omega) p1 p2 x5 p4 T c16
        refine r_virt (pre := [.int p4, .int x5, .int p2, .int p1]) (rest := []) dX12_isRest_30 ct_12_455 rfl (sh_413) (Nat.le_of_ble_eq_true rfl) (Nat.le_of_ble_eq_true rfl) g18 ?_
        refine r_loc dX12_isRest_33 rfl ?_
        refine r_loc dX12_isRest_34 rfl ?_
        refine r_loc dX12_isRest_35 rfl ?_
        refine r_loc dX12_isRest_36 rfl ?_
        refine r_loc dX12_isRest_37 rfl ?_
        obtain ⟨v20, c19, hf⟩ := cal_inv hf
        have g21 := rf_X12_gainOf (X := X) (d := d) (by omega) p1 p2 p3 p4 T c19
        refine r_virt (pre := [.int p4, .int p3, .int p2, .int p1]) (rest := [.int v17]) dX12_isRest_39 ct_12_455 rfl (sh_413) (Nat.le_of_ble_eq_true rfl) (Nat.le_of_ble_eq_true rfl) g21 ?_
        refine r_le (q := 47) dX12_isRest_42 rfl hf (fun hf => ?_) (fun hf => ?_)
        · exact rj_X12_isRest_47 (by omega) (lp_X12_isRest_3 p1 p2 p3 p4 h n) p1 p2 p3 p4 x5 T (ih) hf
        · refine r_iconst (v := 0) dX12_isRest_45 rfl ?_
          cases hf
          exact r_z0 T dX12_isRest_46
theorem rf_X12_isRest {X : am_X} {d : Nat} (hd : 4 ≤ d) (x1 : Int32) (x2 : Int32) (x3 : Int32) (x4 : Int32) {h : am_H} (T : am_TP h.2.2) {r : Int32} (hf : f_X12_isRest x1 x2 x3 x4 h = some r) : am_G X d 12 false cX12_isRest (some .boolean) 0 [some (.ref 413), some (.int x1), some (.int x2), some (.int x3), some (.int x4), none] [] (am_SH, h) (some (.int r), (am_SH, h)) := by
  unfold f_X12_isRest at hf
  obtain ⟨d, rfl⟩ : ∃ e, d = e + 1 := ⟨d - 1, by omega⟩
  refine r_iconst (v := 0) dX12_isRest_0 rfl ?_
  refine r_loc (L' := [some (.ref 413), some (.int x1), some (.int x2), some (.int x3), some (.int x4), some (.int 0)]) dX12_isRest_1 rfl ?_
  refine rl_X12_isRest_3 (by omega) x1 x2 x3 x4 T  4000 0  hf
def lp_X12_rivals_33 (p1 : Int32) (p2 : Int32) : Nat → Int32 → Int32 → am_H → Option (Int32 × am_H)
  | 0, _, _, _ => none
  | n + 1, x3, x4, h => if x4 < 16 then cal (f_X12_canChoose p1 p2 (x4 / 4) h) fun v11 => if v11 = 0 then lp_X12_rivals_33 p1 p2 n x3 (x4 + 1) h else cal (f_X12_canChoose p2 p1 (x4 - x4 / 4 * 4) h) fun v14 => if v14 = 0 then lp_X12_rivals_33 p1 p2 n x3 (x4 + 1) h else cal (f_X12_isRest p1 p2 (x4 / 4) (x4 - x4 / 4 * 4) h) fun v17 => if v17 = 0 then lp_X12_rivals_33 p1 p2 n x3 (x4 + 1) h else if x3 = 0 then wrI h 440 8 0 (x4 / 4) fun h19 => wrI h19 440 8 1 (x4 - x4 / 4 * 4) fun h22 => ptI h22 413 47 2 fun h25 => lp_X12_rivals_33 p1 p2 n (x3 + 1) (x4 + 1) h25 else lp_X12_rivals_33 p1 p2 n (x3 + 1) (x4 + 1) h else some (x3, h)
def f_X12_rivals (x1 : Int32) (x2 : Int32) (h : am_H) : Option (Int32 × am_H) := ptI h 413 47 0 fun h1 => cal (f_X12_isThere x1 h1) fun v5 => if v5 = 0 then some ((-1), h1) else cal (f_X12_isThere x2 h1) fun v8 => if v8 = 0 then some ((-1), h1) else if x1 = x2 then some ((-1), h1) else lp_X12_rivals_33 x1 x2  4000 0 0 h1
theorem rl_X12_rivals_33 {X : am_X} {d : Nat} (hd : 5 ≤ d) (p1 : Int32) (p2 : Int32) {r : Int32 × am_H} : ∀ (n : Nat) (x3 : Int32) (x4 : Int32) (h : am_H), am_TP h.2.2 → lp_X12_rivals_33 p1 p2 n x3 x4 h = some r → am_G X d 12 false cX12_rivals (some .int) 33 [some (.ref 413), some (.int p1), some (.int p2), some (.int x3), some (.int x4), none, none] [] (am_SH, h) (some (.int r.1), (am_SH, r.2)) := by
  obtain ⟨d, rfl⟩ : ∃ e, d = e + 1 := ⟨d - 1, by omega⟩
  intro n
  induction n with
  | zero => intro x3 x4 h T hf; cases hf
  | succ n ih =>
    intro x3 x4 h T hf
    rw [lp_X12_rivals_33] at hf
    refine r_loc dX12_rivals_33 rfl ?_
    refine r_bipush (v := 16) dX12_rivals_35 rfl ?_
    refine r_ge (q := 124) dX12_rivals_37 rfl hf (fun hf => ?_) (fun hf => ?_)
    · refine r_loc dX12_rivals_124 rfl ?_
      cases hf
      exact r_ri T dX12_rivals_125
    · refine r_loc dX12_rivals_40 rfl ?_
      refine r_iconst (v := 4) dX12_rivals_42 rfl ?_
      refine r_divc dX12_rivals_43 (by decide) ?_
      refine r_loc (L' := [some (.ref 413), some (.int p1), some (.int p2), some (.int x3), some (.int x4), some (.int (x4 / 4)), none]) dX12_rivals_44 rfl ?_
      refine r_loc dX12_rivals_46 rfl ?_
      refine r_iconst (v := 4) dX12_rivals_48 rfl ?_
      refine r_remc dX12_rivals_49 (by decide) ?_
      refine r_loc (L' := [some (.ref 413), some (.int p1), some (.int p2), some (.int x3), some (.int x4), some (.int (x4 / 4)), some (.int (x4 - x4 / 4 * 4))]) dX12_rivals_50 rfl ?_
      refine r_loc dX12_rivals_52 rfl ?_
      refine r_loc dX12_rivals_53 rfl ?_
      refine r_loc dX12_rivals_54 rfl ?_
      refine r_loc dX12_rivals_55 rfl ?_
      obtain ⟨v11, c10, hf⟩ := cal_inv hf
      have g12 := rf_X12_canChoose (X := X) (d := d) (by omega) p1 p2 (x4 / 4) T c10
      refine r_virt (pre := [.int (x4 / 4), .int p2, .int p1]) (rest := []) dX12_rivals_57 ct_12_452 rfl (sh_413) (Nat.le_of_ble_eq_true rfl) (Nat.le_of_ble_eq_true rfl) g12 ?_
      refine r_eq0 (q := 118) dX12_rivals_60 rfl hf (fun hf => ?_) (fun hf => ?_)
      · refine r_loc (L' := [some (.ref 413), some (.int p1), some (.int p2), some (.int x3), some (.int (x4 + 1)), some (.int (x4 / 4)), some (.int (x4 - x4 / 4 * 4))]) dX12_rivals_118 rfl ?_
        refine r_goto (q := 33) dX12_rivals_121 rfl ?_
        refine r_weak (L := [some (.ref 413), some (.int p1), some (.int p2), some (.int x3), some (.int (x4 + 1)), none, none]) (am_le_s (am_le_s (am_le_s (am_le_s (am_le_s (am_le_n (am_le_n am_le_0))))))) ?_
        exact ih x3 (x4 + 1) h T hf
      · refine r_loc dX12_rivals_63 rfl ?_
        refine r_loc dX12_rivals_64 rfl ?_
        refine r_loc dX12_rivals_65 rfl ?_
        refine r_loc dX12_rivals_66 rfl ?_
        obtain ⟨v14, c13, hf⟩ := cal_inv hf
        have g15 := rf_X12_canChoose (X := X) (d := d) (by omega) p2 p1 (x4 - x4 / 4 * 4) T c13
        refine r_virt (pre := [.int (x4 - x4 / 4 * 4), .int p1, .int p2]) (rest := []) dX12_rivals_68 ct_12_452 rfl (sh_413) (Nat.le_of_ble_eq_true rfl) (Nat.le_of_ble_eq_true rfl) g15 ?_
        refine r_eq0 (q := 118) dX12_rivals_71 rfl hf (fun hf => ?_) (fun hf => ?_)
        · refine r_loc (L' := [some (.ref 413), some (.int p1), some (.int p2), some (.int x3), some (.int (x4 + 1)), some (.int (x4 / 4)), some (.int (x4 - x4 / 4 * 4))]) dX12_rivals_118 rfl ?_
          refine r_goto (q := 33) dX12_rivals_121 rfl ?_
          refine r_weak (L := [some (.ref 413), some (.int p1), some (.int p2), some (.int x3), some (.int (x4 + 1)), none, none]) (am_le_s (am_le_s (am_le_s (am_le_s (am_le_s (am_le_n (am_le_n am_le_0))))))) ?_
          exact ih x3 (x4 + 1) h T hf
        · refine r_loc dX12_rivals_74 rfl ?_
          refine r_loc dX12_rivals_75 rfl ?_
          refine r_loc dX12_rivals_76 rfl ?_
          refine r_loc dX12_rivals_77 rfl ?_
          refine r_loc dX12_rivals_79 rfl ?_
          obtain ⟨v17, c16, hf⟩ := cal_inv hf
          have g18 := rf_X12_isRest (X := X) (d := d) (by omega) p1 p2 (x4 / 4) (x4 - x4 / 4 * 4) T c16
          refine r_virt (pre := [.int (x4 - x4 / 4 * 4), .int (x4 / 4), .int p2, .int p1]) (rest := []) dX12_rivals_81 ct_12_459 rfl (sh_413) (Nat.le_of_ble_eq_true rfl) (Nat.le_of_ble_eq_true rfl) g18 ?_
          refine r_ne0 (q := 90) dX12_rivals_84 rfl hf (fun hf => ?_) (fun hf => ?_)
          · refine r_loc dX12_rivals_90 rfl ?_
            refine r_ne0 (q := 115) dX12_rivals_91 rfl hf (fun hf => ?_) (fun hf => ?_)
            · refine r_loc (L' := [some (.ref 413), some (.int p1), some (.int p2), some (.int (x3 + 1)), some (.int x4), some (.int (x4 / 4)), some (.int (x4 - x4 / 4 * 4))]) dX12_rivals_115 rfl ?_
              refine r_loc (L' := [some (.ref 413), some (.int p1), some (.int p2), some (.int (x3 + 1)), some (.int (x4 + 1)), some (.int (x4 / 4)), some (.int (x4 - x4 / 4 * 4))]) dX12_rivals_118 rfl ?_
              refine r_goto (q := 33) dX12_rivals_121 rfl ?_
              refine r_weak (L := [some (.ref 413), some (.int p1), some (.int p2), some (.int (x3 + 1)), some (.int (x4 + 1)), none, none]) (am_le_s (am_le_s (am_le_s (am_le_s (am_le_s (am_le_n (am_le_n am_le_0))))))) ?_
              exact ih (x3 + 1) (x4 + 1) h T hf
            · refine r_loc dX12_rivals_94 rfl ?_
              refine r_getR dX12_rivals_95 fl_12_97 sh_413 (Or.inr ⟨_, rfl⟩) (tp_413_46 T) ?_
              refine r_iconst (v := 0) dX12_rivals_98 rfl ?_
              refine r_loc dX12_rivals_99 rfl ?_
              refine r_iast dX12_rivals_101 sh_440 hf (fun h19 e21 hf => ?_)
              have T20 := tp_eq e21 T
              refine r_loc dX12_rivals_102 rfl ?_
              refine r_getR dX12_rivals_103 fl_12_97 sh_413 (Or.inr ⟨_, rfl⟩) (tp_413_46 T20) ?_
              refine r_iconst (v := 1) dX12_rivals_106 rfl ?_
              refine r_loc dX12_rivals_107 rfl ?_
              refine r_iast dX12_rivals_109 sh_440 hf (fun h22 e24 hf => ?_)
              have T23 := tp_eq e24 T20
              refine r_loc dX12_rivals_110 rfl ?_
              refine r_iconst (v := 2) dX12_rivals_111 rfl ?_
              refine r_putI dX12_rivals_112 fl_12_372 sh_413 ⟨rfl, rfl⟩ hf (fun h25 e27 hf => ?_)
              have T26 := tp_eq e27 T23
              refine r_loc (L' := [some (.ref 413), some (.int p1), some (.int p2), some (.int (x3 + 1)), some (.int x4), some (.int (x4 / 4)), some (.int (x4 - x4 / 4 * 4))]) dX12_rivals_115 rfl ?_
              refine r_loc (L' := [some (.ref 413), some (.int p1), some (.int p2), some (.int (x3 + 1)), some (.int (x4 + 1)), some (.int (x4 / 4)), some (.int (x4 - x4 / 4 * 4))]) dX12_rivals_118 rfl ?_
              refine r_goto (q := 33) dX12_rivals_121 rfl ?_
              refine r_weak (L := [some (.ref 413), some (.int p1), some (.int p2), some (.int (x3 + 1)), some (.int (x4 + 1)), none, none]) (am_le_s (am_le_s (am_le_s (am_le_s (am_le_s (am_le_n (am_le_n am_le_0))))))) ?_
              exact ih (x3 + 1) (x4 + 1) h25 T26 hf
          · refine r_goto (q := 118) dX12_rivals_87 rfl ?_
            refine r_loc (L' := [some (.ref 413), some (.int p1), some (.int p2), some (.int x3), some (.int (x4 + 1)), some (.int (x4 / 4)), some (.int (x4 - x4 / 4 * 4))]) dX12_rivals_118 rfl ?_
            refine r_goto (q := 33) dX12_rivals_121 rfl ?_
            refine r_weak (L := [some (.ref 413), some (.int p1), some (.int p2), some (.int x3), some (.int (x4 + 1)), none, none]) (am_le_s (am_le_s (am_le_s (am_le_s (am_le_s (am_le_n (am_le_n am_le_0))))))) ?_
            exact ih x3 (x4 + 1) h T hf
theorem rf_X12_rivals {X : am_X} {d : Nat} (hd : 5 ≤ d) (x1 : Int32) (x2 : Int32) {h : am_H} (T : am_TP h.2.2) {r : Int32 × am_H} (hf : f_X12_rivals x1 x2 h = some r) : am_G X d 12 false cX12_rivals (some .int) 0 [some (.ref 413), some (.int x1), some (.int x2), none, none, none, none] [] (am_SH, h) (some (.int r.1), (am_SH, r.2)) := by
  unfold f_X12_rivals at hf
  obtain ⟨d, rfl⟩ : ∃ e, d = e + 1 := ⟨d - 1, by omega⟩
  refine r_loc dX12_rivals_0 rfl ?_
  refine r_iconst (v := 0) dX12_rivals_1 rfl ?_
  refine r_putI dX12_rivals_2 fl_12_372 sh_413 ⟨rfl, rfl⟩ hf (fun h1 e3 hf => ?_)
  have T2 := tp_eq e3 T
  refine r_loc dX12_rivals_5 rfl ?_
  refine r_loc dX12_rivals_6 rfl ?_
  obtain ⟨v5, c4, hf⟩ := cal_inv hf
  have g6 := rf_X12_isThere (X := X) (d := d) (by omega) x1 T2 c4
  refine r_virt (pre := [.int x1]) (rest := []) dX12_rivals_7 ct_12_411 rfl (sh_413) (Nat.le_of_ble_eq_true rfl) (Nat.le_of_ble_eq_true rfl) g6 ?_
  refine r_eq0 (q := 26) dX12_rivals_10 rfl hf (fun hf => ?_) (fun hf => ?_)
  · refine r_iconst (v := (-1)) dX12_rivals_26 rfl ?_
    cases hf
    exact r_ri T2 dX12_rivals_27
  · refine r_loc dX12_rivals_13 rfl ?_
    refine r_loc dX12_rivals_14 rfl ?_
    obtain ⟨v8, c7, hf⟩ := cal_inv hf
    have g9 := rf_X12_isThere (X := X) (d := d) (by omega) x2 T2 c7
    refine r_virt (pre := [.int x2]) (rest := []) dX12_rivals_15 ct_12_411 rfl (sh_413) (Nat.le_of_ble_eq_true rfl) (Nat.le_of_ble_eq_true rfl) g9 ?_
    refine r_eq0 (q := 26) dX12_rivals_18 rfl hf (fun hf => ?_) (fun hf => ?_)
    · refine r_iconst (v := (-1)) dX12_rivals_26 rfl ?_
      cases hf
      exact r_ri T2 dX12_rivals_27
    · refine r_loc dX12_rivals_21 rfl ?_
      refine r_loc dX12_rivals_22 rfl ?_
      refine r_ne (q := 28) dX12_rivals_23 rfl hf (fun hf => ?_) (fun hf => ?_)
      · refine r_iconst (v := 0) dX12_rivals_28 rfl ?_
        refine r_loc (L' := [some (.ref 413), some (.int x1), some (.int x2), some (.int 0), none, none, none]) dX12_rivals_29 rfl ?_
        refine r_iconst (v := 0) dX12_rivals_30 rfl ?_
        refine r_loc (L' := [some (.ref 413), some (.int x1), some (.int x2), some (.int 0), some (.int 0), none, none]) dX12_rivals_31 rfl ?_
        refine rl_X12_rivals_33 (by omega) x1 x2  4000 0 0 h1 T2 hf
      · refine r_iconst (v := (-1)) dX12_rivals_26 rfl ?_
        cases hf
        exact r_ri T2 dX12_rivals_27
def lp_X12_sires_29 (p1 : Int32) (p2 : Int32) (h : am_H) (k_159 : Int32 → Int32 → Option (Int32)) : Nat → Int32 → Int32 → Int32 → Option (Int32)
  | 0, _, _, _ => none
  | n + 1, x3, x4, x5 => if x5 < 64 then if (x5 / 8) < (x5 - x5 / 8 * 8) then if (x5 / 8) = p1 then lp_X12_sires_29 p1 p2 h k_159 n x3 x4 (x5 + 1) else if (x5 - x5 / 8 * 8) = p1 then lp_X12_sires_29 p1 p2 h k_159 n x3 x4 (x5 + 1) else cal (f_X12_isThere (x5 / 8) h) fun v8 => if v8 = 0 then lp_X12_sires_29 p1 p2 h k_159 n x3 x4 (x5 + 1) else cal (f_X12_isThere (x5 - x5 / 8 * 8) h) fun v11 => if v11 = 0 then lp_X12_sires_29 p1 p2 h k_159 n x3 x4 (x5 + 1) else rdI h 437 59 ((16 : Int32) + p1) fun v13 => rdI h 437 59 ((16 : Int32) + (x5 / 8)) fun v14 => rdI h 437 59 ((16 : Int32) + p1) fun v15 => rdI h 437 59 ((16 : Int32) + (x5 - x5 / 8 * 8)) fun v16 => cal (f_X12_bitsOf ((v13 ^^^ v14) &&& (v15 ^^^ v16)) h) fun v18 => if v18 < x4 then lp_X12_sires_29 p1 p2 h k_159 n x5 v18 (x5 + 1) else lp_X12_sires_29 p1 p2 h k_159 n x3 x4 (x5 + 1) else lp_X12_sires_29 p1 p2 h k_159 n x3 x4 (x5 + 1) else k_159 x3 x4
def f_X12_sires (x1 : Int32) (x2 : Int32) (h : am_H) : Option (Int32) := cal (f_X12_isThere x1 h) fun v2 => if v2 = 0 then some (-1) else cal (f_X12_isIn x2 0 2 h) fun v5 => if v5 = 0 then some (-1) else lp_X12_sires_29 x1 x2 h (fun z20 z21 => if z20 < 0 then some (-1) else if x2 = 0 then some (z20 / 8) else if x2 = 1 then some (z20 - z20 / 8 * 8) else some z21) 4000 (-1) 1000 0
theorem rl_X12_sires_29 {X : am_X} {d : Nat} (hd : 2 ≤ d) (p1 : Int32) (p2 : Int32) {h : am_H} (T : am_TP h.2.2) (k_159 : Int32 → Int32 → Option (Int32)) {r : Int32} (hk_159 : ∀ (z3 : Int32) (z4 : Int32) , k_159 z3 z4 = some r → am_G X d 12 false cX12_sires (some .int) 159 [none, none, some (.int p2), some (.int z3), some (.int z4), none, none, none, none] [] (am_SH, h) (some (.int r), (am_SH, h))) : ∀ (n : Nat) (x3 : Int32) (x4 : Int32) (x5 : Int32) , lp_X12_sires_29 p1 p2 h k_159 n x3 x4 x5 = some r → am_G X d 12 false cX12_sires (some .int) 29 [some (.ref 413), some (.int p1), some (.int p2), some (.int x3), some (.int x4), some (.int x5), none, none, none] [] (am_SH, h) (some (.int r), (am_SH, h)) := by
  obtain ⟨d, rfl⟩ : ∃ e, d = e + 1 := ⟨d - 1, by omega⟩
  intro n
  induction n with
  | zero => intro x3 x4 x5 hf; cases hf
  | succ n ih =>
    intro x3 x4 x5 hf
    rw [lp_X12_sires_29] at hf
    refine r_loc dX12_sires_29 rfl ?_
    refine r_bipush (v := 64) dX12_sires_31 rfl ?_
    refine r_ge (q := 159) dX12_sires_33 rfl hf (fun hf => ?_) (fun hf => ?_)
    · refine r_weak (L := [none, none, some (.int p2), some (.int x3), some (.int x4), none, none, none, none]) (am_le_n (am_le_n (am_le_s (am_le_s (am_le_s (am_le_n (am_le_n (am_le_n (am_le_n am_le_0))))))))) ?_
      exact hk_159 x3 x4 hf
    · refine r_loc dX12_sires_36 rfl ?_
      refine r_bipush (v := 8) dX12_sires_38 rfl ?_
      refine r_divc dX12_sires_40 (by decide) ?_
      refine r_loc (L' := [some (.ref 413), some (.int p1), some (.int p2), some (.int x3), some (.int x4), some (.int x5), some (.int (x5 / 8)), none, none]) dX12_sires_41 rfl ?_
      refine r_loc dX12_sires_43 rfl ?_
      refine r_bipush (v := 8) dX12_sires_45 rfl ?_
      refine r_remc dX12_sires_47 (by decide) ?_
      refine r_loc (L' := [some (.ref 413), some (.int p1), some (.int p2), some (.int x3), some (.int x4), some (.int x5), some (.int (x5 / 8)), some (.int (x5 - x5 / 8 * 8)), none]) dX12_sires_48 rfl ?_
      refine r_loc dX12_sires_50 rfl ?_
      refine r_loc dX12_sires_52 rfl ?_
      refine r_ge (q := 153) dX12_sires_54 rfl hf (fun hf => ?_) (fun hf => ?_)
      · refine r_loc (L' := [some (.ref 413), some (.int p1), some (.int p2), some (.int x3), some (.int x4), some (.int (x5 + 1)), some (.int (x5 / 8)), some (.int (x5 - x5 / 8 * 8)), none]) dX12_sires_153 rfl ?_
        refine r_goto (q := 29) dX12_sires_156 rfl ?_
        refine r_weak (L := [some (.ref 413), some (.int p1), some (.int p2), some (.int x3), some (.int x4), some (.int (x5 + 1)), none, none, none]) (am_le_s (am_le_s (am_le_s (am_le_s (am_le_s (am_le_s (am_le_n (am_le_n (am_le_n am_le_0))))))))) ?_
        exact ih x3 x4 (x5 + 1) hf
      · refine r_loc dX12_sires_57 rfl ?_
        refine r_loc dX12_sires_59 rfl ?_
        refine r_eq (q := 153) dX12_sires_60 rfl hf (fun hf => ?_) (fun hf => ?_)
        · refine r_loc (L' := [some (.ref 413), some (.int p1), some (.int p2), some (.int x3), some (.int x4), some (.int (x5 + 1)), some (.int (x5 / 8)), some (.int (x5 - x5 / 8 * 8)), none]) dX12_sires_153 rfl ?_
          refine r_goto (q := 29) dX12_sires_156 rfl ?_
          refine r_weak (L := [some (.ref 413), some (.int p1), some (.int p2), some (.int x3), some (.int x4), some (.int (x5 + 1)), none, none, none]) (am_le_s (am_le_s (am_le_s (am_le_s (am_le_s (am_le_s (am_le_n (am_le_n (am_le_n am_le_0))))))))) ?_
          exact ih x3 x4 (x5 + 1) hf
        · refine r_loc dX12_sires_63 rfl ?_
          refine r_loc dX12_sires_65 rfl ?_
          refine r_eq (q := 153) dX12_sires_66 rfl hf (fun hf => ?_) (fun hf => ?_)
          · refine r_loc (L' := [some (.ref 413), some (.int p1), some (.int p2), some (.int x3), some (.int x4), some (.int (x5 + 1)), some (.int (x5 / 8)), some (.int (x5 - x5 / 8 * 8)), none]) dX12_sires_153 rfl ?_
            refine r_goto (q := 29) dX12_sires_156 rfl ?_
            refine r_weak (L := [some (.ref 413), some (.int p1), some (.int p2), some (.int x3), some (.int x4), some (.int (x5 + 1)), none, none, none]) (am_le_s (am_le_s (am_le_s (am_le_s (am_le_s (am_le_s (am_le_n (am_le_n (am_le_n am_le_0))))))))) ?_
            exact ih x3 x4 (x5 + 1) hf
          · refine r_loc dX12_sires_69 rfl ?_
            refine r_loc dX12_sires_70 rfl ?_
            obtain ⟨v8, c7, hf⟩ := cal_inv hf
            have g9 := rf_X12_isThere (X := X) (d := d) (by omega) (x5 / 8) T c7
            refine r_virt (pre := [.int (x5 / 8)]) (rest := []) dX12_sires_72 ct_12_411 rfl (sh_413) (Nat.le_of_ble_eq_true rfl) (Nat.le_of_ble_eq_true rfl) g9 ?_
            refine r_eq0 (q := 153) dX12_sires_75 rfl hf (fun hf => ?_) (fun hf => ?_)
            · refine r_loc (L' := [some (.ref 413), some (.int p1), some (.int p2), some (.int x3), some (.int x4), some (.int (x5 + 1)), some (.int (x5 / 8)), some (.int (x5 - x5 / 8 * 8)), none]) dX12_sires_153 rfl ?_
              refine r_goto (q := 29) dX12_sires_156 rfl ?_
              refine r_weak (L := [some (.ref 413), some (.int p1), some (.int p2), some (.int x3), some (.int x4), some (.int (x5 + 1)), none, none, none]) (am_le_s (am_le_s (am_le_s (am_le_s (am_le_s (am_le_s (am_le_n (am_le_n (am_le_n am_le_0))))))))) ?_
              exact ih x3 x4 (x5 + 1) hf
            · refine r_loc dX12_sires_78 rfl ?_
              refine r_loc dX12_sires_79 rfl ?_
              obtain ⟨v11, c10, hf⟩ := cal_inv hf
              have g12 := rf_X12_isThere (X := X) (d := d) (by omega) (x5 - x5 / 8 * 8) T c10
              refine r_virt (pre := [.int (x5 - x5 / 8 * 8)]) (rest := []) dX12_sires_81 ct_12_411 rfl (sh_413) (Nat.le_of_ble_eq_true rfl) (Nat.le_of_ble_eq_true rfl) g12 ?_
              refine r_ne0 (q := 90) dX12_sires_84 rfl hf (fun hf => ?_) (fun hf => ?_)
              · refine r_loc dX12_sires_90 rfl ?_
                refine r_getR dX12_sires_91 fl_12_85 sh_413 (Or.inr ⟨_, rfl⟩) (tp_413_40 T) ?_
                refine r_bipush (v := 16) dX12_sires_94 rfl ?_
                refine r_loc dX12_sires_96 rfl ?_
                refine r_alu dX12_sires_97 rfl ?_
                refine r_iald dX12_sires_98 sh_437 hf (fun v13 hf => ?_)
                refine r_loc dX12_sires_99 rfl ?_
                refine r_getR dX12_sires_100 fl_12_85 sh_413 (Or.inr ⟨_, rfl⟩) (tp_413_40 T) ?_
                refine r_bipush (v := 16) dX12_sires_103 rfl ?_
                refine r_loc dX12_sires_105 rfl ?_
                refine r_alu dX12_sires_107 rfl ?_
                refine r_iald dX12_sires_108 sh_437 hf (fun v14 hf => ?_)
                refine r_alu dX12_sires_109 rfl ?_
                refine r_loc dX12_sires_110 rfl ?_
                refine r_getR dX12_sires_111 fl_12_85 sh_413 (Or.inr ⟨_, rfl⟩) (tp_413_40 T) ?_
                refine r_bipush (v := 16) dX12_sires_114 rfl ?_
                refine r_loc dX12_sires_116 rfl ?_
                refine r_alu dX12_sires_117 rfl ?_
                refine r_iald dX12_sires_118 sh_437 hf (fun v15 hf => ?_)
                refine r_loc dX12_sires_119 rfl ?_
                refine r_getR dX12_sires_120 fl_12_85 sh_413 (Or.inr ⟨_, rfl⟩) (tp_413_40 T) ?_
                refine r_bipush (v := 16) dX12_sires_123 rfl ?_
                refine r_loc dX12_sires_125 rfl ?_
                refine r_alu dX12_sires_127 rfl ?_
                refine r_iald dX12_sires_128 sh_437 hf (fun v16 hf => ?_)
                refine r_alu dX12_sires_129 rfl ?_
                refine r_alu dX12_sires_130 rfl ?_
                obtain ⟨v18, c17, hf⟩ := cal_inv hf
                have g19 := rf_X12_bitsOf (X := X) (d := d) (by omega) ((v13 ^^^ v14) &&& (v15 ^^^ v16)) T c17
                refine r_stat (pre := [.int ((v13 ^^^ v14) &&& (v15 ^^^ v16))]) (rest := []) dX12_sires_131 ct_12_334 rfl (Nat.le_of_ble_eq_true rfl) (Nat.le_of_ble_eq_true rfl) g19 ?_
                refine r_loc (L' := [some (.ref 413), some (.int p1), some (.int p2), some (.int x3), some (.int x4), some (.int x5), some (.int (x5 / 8)), some (.int (x5 - x5 / 8 * 8)), some (.int v18)]) dX12_sires_134 rfl ?_
                refine r_loc dX12_sires_136 rfl ?_
                refine r_loc dX12_sires_138 rfl ?_
                refine r_lt (q := 146) dX12_sires_140 rfl hf (fun hf => ?_) (fun hf => ?_)
                · refine r_loc dX12_sires_146 rfl ?_
                  refine r_loc (L' := [some (.ref 413), some (.int p1), some (.int p2), some (.int x5), some (.int x4), some (.int x5), some (.int (x5 / 8)), some (.int (x5 - x5 / 8 * 8)), some (.int v18)]) dX12_sires_148 rfl ?_
                  refine r_loc dX12_sires_149 rfl ?_
                  refine r_loc (L' := [some (.ref 413), some (.int p1), some (.int p2), some (.int x5), some (.int v18), some (.int x5), some (.int (x5 / 8)), some (.int (x5 - x5 / 8 * 8)), some (.int v18)]) dX12_sires_151 rfl ?_
                  refine r_loc (L' := [some (.ref 413), some (.int p1), some (.int p2), some (.int x5), some (.int v18), some (.int (x5 + 1)), some (.int (x5 / 8)), some (.int (x5 - x5 / 8 * 8)), some (.int v18)]) dX12_sires_153 rfl ?_
                  refine r_goto (q := 29) dX12_sires_156 rfl ?_
                  refine r_weak (L := [some (.ref 413), some (.int p1), some (.int p2), some (.int x5), some (.int v18), some (.int (x5 + 1)), none, none, none]) (am_le_s (am_le_s (am_le_s (am_le_s (am_le_s (am_le_s (am_le_n (am_le_n (am_le_n am_le_0))))))))) ?_
                  exact ih x5 v18 (x5 + 1) hf
                · refine r_goto (q := 153) dX12_sires_143 rfl ?_
                  refine r_loc (L' := [some (.ref 413), some (.int p1), some (.int p2), some (.int x3), some (.int x4), some (.int (x5 + 1)), some (.int (x5 / 8)), some (.int (x5 - x5 / 8 * 8)), some (.int v18)]) dX12_sires_153 rfl ?_
                  refine r_goto (q := 29) dX12_sires_156 rfl ?_
                  refine r_weak (L := [some (.ref 413), some (.int p1), some (.int p2), some (.int x3), some (.int x4), some (.int (x5 + 1)), none, none, none]) (am_le_s (am_le_s (am_le_s (am_le_s (am_le_s (am_le_s (am_le_n (am_le_n (am_le_n am_le_0))))))))) ?_
                  exact ih x3 x4 (x5 + 1) hf
              · refine r_goto (q := 153) dX12_sires_87 rfl ?_
                refine r_loc (L' := [some (.ref 413), some (.int p1), some (.int p2), some (.int x3), some (.int x4), some (.int (x5 + 1)), some (.int (x5 / 8)), some (.int (x5 - x5 / 8 * 8)), none]) dX12_sires_153 rfl ?_
                refine r_goto (q := 29) dX12_sires_156 rfl ?_
                refine r_weak (L := [some (.ref 413), some (.int p1), some (.int p2), some (.int x3), some (.int x4), some (.int (x5 + 1)), none, none, none]) (am_le_s (am_le_s (am_le_s (am_le_s (am_le_s (am_le_s (am_le_n (am_le_n (am_le_n am_le_0))))))))) ?_
                exact ih x3 x4 (x5 + 1) hf
theorem rf_X12_sires {X : am_X} {d : Nat} (hd : 2 ≤ d) (x1 : Int32) (x2 : Int32) {h : am_H} (T : am_TP h.2.2) {r : Int32} (hf : f_X12_sires x1 x2 h = some r) : am_G X d 12 false cX12_sires (some .int) 0 [some (.ref 413), some (.int x1), some (.int x2), none, none, none, none, none, none] [] (am_SH, h) (some (.int r), (am_SH, h)) := by
  unfold f_X12_sires at hf
  obtain ⟨d, rfl⟩ : ∃ e, d = e + 1 := ⟨d - 1, by omega⟩
  refine r_loc dX12_sires_0 rfl ?_
  refine r_loc dX12_sires_1 rfl ?_
  obtain ⟨v2, c1, hf⟩ := cal_inv hf
  have g3 := rf_X12_isThere (X := X) (d := d) (by omega) x1 T c1
  refine r_virt (pre := [.int x1]) (rest := []) dX12_sires_2 ct_12_411 rfl (sh_413) (Nat.le_of_ble_eq_true rfl) (Nat.le_of_ble_eq_true rfl) g3 ?_
  refine r_eq0 (q := 17) dX12_sires_5 rfl hf (fun hf => ?_) (fun hf => ?_)
  · refine r_iconst (v := (-1)) dX12_sires_17 rfl ?_
    cases hf
    exact r_ri T dX12_sires_18
  · refine r_loc dX12_sires_8 rfl ?_
    refine r_iconst (v := 0) dX12_sires_9 rfl ?_
    refine r_iconst (v := 2) dX12_sires_10 rfl ?_
    obtain ⟨v5, c4, hf⟩ := cal_inv hf
    have g6 := rf_X12_isIn (X := X) (d := d) (by omega) x2 0 2 T c4
    refine r_stat (pre := [.int 2, .int 0, .int x2]) (rest := []) dX12_sires_11 ct_12_346 rfl (Nat.le_of_ble_eq_true rfl) (Nat.le_of_ble_eq_true rfl) g6 ?_
    refine r_ne0 (q := 19) dX12_sires_14 rfl hf (fun hf => ?_) (fun hf => ?_)
    · refine r_iconst (v := (-1)) dX12_sires_19 rfl ?_
      refine r_loc (L' := [some (.ref 413), some (.int x1), some (.int x2), some (.int (-1)), none, none, none, none, none]) dX12_sires_20 rfl ?_
      refine r_sipush (v := 1000) dX12_sires_21 rfl ?_
      refine r_loc (L' := [some (.ref 413), some (.int x1), some (.int x2), some (.int (-1)), some (.int 1000), none, none, none, none]) dX12_sires_24 rfl ?_
      refine r_iconst (v := 0) dX12_sires_26 rfl ?_
      refine r_loc (L' := [some (.ref 413), some (.int x1), some (.int x2), some (.int (-1)), some (.int 1000), some (.int 0), none, none, none]) dX12_sires_27 rfl ?_
      refine rl_X12_sires_29 (by omega) x1 x2 T _ ?_ 4000 (-1) 1000 0  hf
      · intro z20 z21 hf
        refine r_loc dX12_sires_159 rfl ?_
        refine r_ge0 (q := 167) dX12_sires_160 rfl hf (fun hf => ?_) (fun hf => ?_)
        · refine r_loc dX12_sires_167 rfl ?_
          refine r_ne0 (q := 178) dX12_sires_168 rfl hf (fun hf => ?_) (fun hf => ?_)
          · refine r_loc dX12_sires_178 rfl ?_
            refine r_iconst (v := 1) dX12_sires_179 rfl ?_
            refine r_ne (q := 190) dX12_sires_180 rfl hf (fun hf => ?_) (fun hf => ?_)
            · refine r_loc dX12_sires_190 rfl ?_
              cases hf
              exact r_ri T dX12_sires_192
            · refine r_loc dX12_sires_183 rfl ?_
              refine r_bipush (v := 8) dX12_sires_184 rfl ?_
              refine r_remc dX12_sires_186 (by decide) ?_
              refine r_goto (q := 192) dX12_sires_187 rfl ?_
              cases hf
              exact r_ri T dX12_sires_192
          · refine r_loc dX12_sires_171 rfl ?_
            refine r_bipush (v := 8) dX12_sires_172 rfl ?_
            refine r_divc dX12_sires_174 (by decide) ?_
            refine r_goto (q := 192) dX12_sires_175 rfl ?_
            cases hf
            exact r_ri T dX12_sires_192
        · refine r_iconst (v := (-1)) dX12_sires_163 rfl ?_
          refine r_goto (q := 192) dX12_sires_164 rfl ?_
          cases hf
          exact r_ri T dX12_sires_192
    · refine r_iconst (v := (-1)) dX12_sires_17 rfl ?_
      cases hf
      exact r_ri T dX12_sires_18
def lp_X12_changesOf_6 (p1 : Int32) (p2 : Int32) (p3 : Int32) (p4 : Int32) (h : am_H) : Nat → Int32 → Int32 → Option (Int32)
  | 0, _, _ => none
  | n + 1, x5, x6 => if x6 < 6 then rdI h 437 59 ((16 : Int32) + p1) fun v1 => rdI h 437 59 ((16 : Int32) + p2) fun v2 => rdI h 437 59 ((16 : Int32) + p3) fun v3 => rdI h 437 59 ((16 : Int32) + p4) fun v4 => if (((((v1 >>> (x6 &&& 31)) &&& 1) + ((v2 >>> (x6 &&& 31)) &&& 1)) + ((v3 >>> (x6 &&& 31)) &&& 1)) + ((v4 >>> (x6 &&& 31)) &&& 1)) = 0 then lp_X12_changesOf_6 p1 p2 p3 p4 h n (x5 + 0) (x6 + 1) else if (((((v1 >>> (x6 &&& 31)) &&& 1) + ((v2 >>> (x6 &&& 31)) &&& 1)) + ((v3 >>> (x6 &&& 31)) &&& 1)) + ((v4 >>> (x6 &&& 31)) &&& 1)) = 4 then lp_X12_changesOf_6 p1 p2 p3 p4 h n (x5 + 0) (x6 + 1) else if (((((v1 >>> (x6 &&& 31)) &&& 1) + ((v2 >>> (x6 &&& 31)) &&& 1)) + ((v3 >>> (x6 &&& 31)) &&& 1)) + ((v4 >>> (x6 &&& 31)) &&& 1)) = 2 then if ((v1 >>> (x6 &&& 31)) &&& 1) = ((v2 >>> (x6 &&& 31)) &&& 1) then lp_X12_changesOf_6 p1 p2 p3 p4 h n (x5 + 1) (x6 + 1) else lp_X12_changesOf_6 p1 p2 p3 p4 h n (x5 + 2) (x6 + 1) else lp_X12_changesOf_6 p1 p2 p3 p4 h n (x5 + 1) (x6 + 1) else some x5
def f_X12_changesOf (x1 : Int32) (x2 : Int32) (x3 : Int32) (x4 : Int32) (h : am_H) : Option (Int32) := lp_X12_changesOf_6 x1 x2 x3 x4 h  4000 0 0
theorem rl_X12_changesOf_6 {X : am_X} {d : Nat} (hd : 0 ≤ d) (p1 : Int32) (p2 : Int32) (p3 : Int32) (p4 : Int32) {h : am_H} (T : am_TP h.2.2) {r : Int32} : ∀ (n : Nat) (x5 : Int32) (x6 : Int32) , lp_X12_changesOf_6 p1 p2 p3 p4 h n x5 x6 = some r → am_G X d 12 false cX12_changesOf (some .int) 6 [some (.ref 413), some (.int p1), some (.int p2), some (.int p3), some (.int p4), some (.int x5), some (.int x6), none, none, none, none, none] [] (am_SH, h) (some (.int r), (am_SH, h)) := by
  intro n
  induction n with
  | zero => intro x5 x6 hf; cases hf
  | succ n ih =>
    intro x5 x6 hf
    rw [lp_X12_changesOf_6] at hf
    refine r_loc dX12_changesOf_6 rfl ?_
    refine r_bipush (v := 6) dX12_changesOf_8 rfl ?_
    refine r_ge (q := 135) dX12_changesOf_10 rfl hf (fun hf => ?_) (fun hf => ?_)
    · refine r_loc dX12_changesOf_135 rfl ?_
      cases hf
      exact r_ri T dX12_changesOf_137
    · refine r_loc dX12_changesOf_13 rfl ?_
      refine r_getR dX12_changesOf_14 fl_12_85 sh_413 (Or.inr ⟨_, rfl⟩) (tp_413_40 T) ?_
      refine r_bipush (v := 16) dX12_changesOf_17 rfl ?_
      refine r_loc dX12_changesOf_19 rfl ?_
      refine r_alu dX12_changesOf_20 rfl ?_
      refine r_iald dX12_changesOf_21 sh_437 hf (fun v1 hf => ?_)
      refine r_loc dX12_changesOf_22 rfl ?_
      refine r_alu dX12_changesOf_24 rfl ?_
      refine r_iconst (v := 1) dX12_changesOf_25 rfl ?_
      refine r_alu dX12_changesOf_26 rfl ?_
      refine r_loc (L' := [some (.ref 413), some (.int p1), some (.int p2), some (.int p3), some (.int p4), some (.int x5), some (.int x6), some (.int ((v1 >>> (x6 &&& 31)) &&& 1)), none, none, none, none]) dX12_changesOf_27 rfl ?_
      refine r_loc dX12_changesOf_29 rfl ?_
      refine r_getR dX12_changesOf_30 fl_12_85 sh_413 (Or.inr ⟨_, rfl⟩) (tp_413_40 T) ?_
      refine r_bipush (v := 16) dX12_changesOf_33 rfl ?_
      refine r_loc dX12_changesOf_35 rfl ?_
      refine r_alu dX12_changesOf_36 rfl ?_
      refine r_iald dX12_changesOf_37 sh_437 hf (fun v2 hf => ?_)
      refine r_loc dX12_changesOf_38 rfl ?_
      refine r_alu dX12_changesOf_40 rfl ?_
      refine r_iconst (v := 1) dX12_changesOf_41 rfl ?_
      refine r_alu dX12_changesOf_42 rfl ?_
      refine r_loc (L' := [some (.ref 413), some (.int p1), some (.int p2), some (.int p3), some (.int p4), some (.int x5), some (.int x6), some (.int ((v1 >>> (x6 &&& 31)) &&& 1)), some (.int ((v2 >>> (x6 &&& 31)) &&& 1)), none, none, none]) dX12_changesOf_43 rfl ?_
      refine r_loc dX12_changesOf_45 rfl ?_
      refine r_getR dX12_changesOf_46 fl_12_85 sh_413 (Or.inr ⟨_, rfl⟩) (tp_413_40 T) ?_
      refine r_bipush (v := 16) dX12_changesOf_49 rfl ?_
      refine r_loc dX12_changesOf_51 rfl ?_
      refine r_alu dX12_changesOf_52 rfl ?_
      refine r_iald dX12_changesOf_53 sh_437 hf (fun v3 hf => ?_)
      refine r_loc dX12_changesOf_54 rfl ?_
      refine r_alu dX12_changesOf_56 rfl ?_
      refine r_iconst (v := 1) dX12_changesOf_57 rfl ?_
      refine r_alu dX12_changesOf_58 rfl ?_
      refine r_loc (L' := [some (.ref 413), some (.int p1), some (.int p2), some (.int p3), some (.int p4), some (.int x5), some (.int x6), some (.int ((v1 >>> (x6 &&& 31)) &&& 1)), some (.int ((v2 >>> (x6 &&& 31)) &&& 1)), some (.int ((v3 >>> (x6 &&& 31)) &&& 1)), none, none]) dX12_changesOf_59 rfl ?_
      refine r_loc dX12_changesOf_61 rfl ?_
      refine r_getR dX12_changesOf_62 fl_12_85 sh_413 (Or.inr ⟨_, rfl⟩) (tp_413_40 T) ?_
      refine r_bipush (v := 16) dX12_changesOf_65 rfl ?_
      refine r_loc dX12_changesOf_67 rfl ?_
      refine r_alu dX12_changesOf_69 rfl ?_
      refine r_iald dX12_changesOf_70 sh_437 hf (fun v4 hf => ?_)
      refine r_loc dX12_changesOf_71 rfl ?_
      refine r_alu dX12_changesOf_73 rfl ?_
      refine r_iconst (v := 1) dX12_changesOf_74 rfl ?_
      refine r_alu dX12_changesOf_75 rfl ?_
      refine r_loc (L' := [some (.ref 413), some (.int p1), some (.int p2), some (.int p3), some (.int p4), some (.int x5), some (.int x6), some (.int ((v1 >>> (x6 &&& 31)) &&& 1)), some (.int ((v2 >>> (x6 &&& 31)) &&& 1)), some (.int ((v3 >>> (x6 &&& 31)) &&& 1)), some (.int ((v4 >>> (x6 &&& 31)) &&& 1)), none]) dX12_changesOf_76 rfl ?_
      refine r_loc dX12_changesOf_78 rfl ?_
      refine r_loc dX12_changesOf_80 rfl ?_
      refine r_alu dX12_changesOf_82 rfl ?_
      refine r_loc dX12_changesOf_83 rfl ?_
      refine r_alu dX12_changesOf_85 rfl ?_
      refine r_loc dX12_changesOf_86 rfl ?_
      refine r_alu dX12_changesOf_88 rfl ?_
      refine r_loc (L' := [some (.ref 413), some (.int p1), some (.int p2), some (.int p3), some (.int p4), some (.int x5), some (.int x6), some (.int ((v1 >>> (x6 &&& 31)) &&& 1)), some (.int ((v2 >>> (x6 &&& 31)) &&& 1)), some (.int ((v3 >>> (x6 &&& 31)) &&& 1)), some (.int ((v4 >>> (x6 &&& 31)) &&& 1)), some (.int (((((v1 >>> (x6 &&& 31)) &&& 1) + ((v2 >>> (x6 &&& 31)) &&& 1)) + ((v3 >>> (x6 &&& 31)) &&& 1)) + ((v4 >>> (x6 &&& 31)) &&& 1)))]) dX12_changesOf_89 rfl ?_
      refine r_loc dX12_changesOf_91 rfl ?_
      refine r_loc dX12_changesOf_93 rfl ?_
      refine r_eq0 (q := 104) dX12_changesOf_95 rfl hf (fun hf => ?_) (fun hf => ?_)
      · refine r_iconst (v := 0) dX12_changesOf_104 rfl ?_
        refine r_goto (q := 126) dX12_changesOf_105 rfl ?_
        refine r_alu dX12_changesOf_126 rfl ?_
        refine r_loc (L' := [some (.ref 413), some (.int p1), some (.int p2), some (.int p3), some (.int p4), some (.int (x5 + 0)), some (.int x6), some (.int ((v1 >>> (x6 &&& 31)) &&& 1)), some (.int ((v2 >>> (x6 &&& 31)) &&& 1)), some (.int ((v3 >>> (x6 &&& 31)) &&& 1)), some (.int ((v4 >>> (x6 &&& 31)) &&& 1)), some (.int (((((v1 >>> (x6 &&& 31)) &&& 1) + ((v2 >>> (x6 &&& 31)) &&& 1)) + ((v3 >>> (x6 &&& 31)) &&& 1)) + ((v4 >>> (x6 &&& 31)) &&& 1)))]) dX12_changesOf_127 rfl ?_
        refine r_loc (L' := [some (.ref 413), some (.int p1), some (.int p2), some (.int p3), some (.int p4), some (.int (x5 + 0)), some (.int (x6 + 1)), some (.int ((v1 >>> (x6 &&& 31)) &&& 1)), some (.int ((v2 >>> (x6 &&& 31)) &&& 1)), some (.int ((v3 >>> (x6 &&& 31)) &&& 1)), some (.int ((v4 >>> (x6 &&& 31)) &&& 1)), some (.int (((((v1 >>> (x6 &&& 31)) &&& 1) + ((v2 >>> (x6 &&& 31)) &&& 1)) + ((v3 >>> (x6 &&& 31)) &&& 1)) + ((v4 >>> (x6 &&& 31)) &&& 1)))]) dX12_changesOf_129 rfl ?_
        refine r_goto (q := 6) dX12_changesOf_132 rfl ?_
        refine r_weak (L := [some (.ref 413), some (.int p1), some (.int p2), some (.int p3), some (.int p4), some (.int (x5 + 0)), some (.int (x6 + 1)), none, none, none, none, none]) (am_le_s (am_le_s (am_le_s (am_le_s (am_le_s (am_le_s (am_le_s (am_le_n (am_le_n (am_le_n (am_le_n (am_le_n am_le_0)))))))))))) ?_
        exact ih (x5 + 0) (x6 + 1) hf
      · refine r_loc dX12_changesOf_98 rfl ?_
        refine r_iconst (v := 4) dX12_changesOf_100 rfl ?_
        refine r_ne (q := 108) dX12_changesOf_101 rfl hf (fun hf => ?_) (fun hf => ?_)
        · refine r_loc dX12_changesOf_108 rfl ?_
          refine r_iconst (v := 2) dX12_changesOf_110 rfl ?_
          refine r_ne (q := 125) dX12_changesOf_111 rfl hf (fun hf => ?_) (fun hf => ?_)
          · refine r_iconst (v := 1) dX12_changesOf_125 rfl ?_
            refine r_alu dX12_changesOf_126 rfl ?_
            refine r_loc (L' := [some (.ref 413), some (.int p1), some (.int p2), some (.int p3), some (.int p4), some (.int (x5 + 1)), some (.int x6), some (.int ((v1 >>> (x6 &&& 31)) &&& 1)), some (.int ((v2 >>> (x6 &&& 31)) &&& 1)), some (.int ((v3 >>> (x6 &&& 31)) &&& 1)), some (.int ((v4 >>> (x6 &&& 31)) &&& 1)), some (.int (((((v1 >>> (x6 &&& 31)) &&& 1) + ((v2 >>> (x6 &&& 31)) &&& 1)) + ((v3 >>> (x6 &&& 31)) &&& 1)) + ((v4 >>> (x6 &&& 31)) &&& 1)))]) dX12_changesOf_127 rfl ?_
            refine r_loc (L' := [some (.ref 413), some (.int p1), some (.int p2), some (.int p3), some (.int p4), some (.int (x5 + 1)), some (.int (x6 + 1)), some (.int ((v1 >>> (x6 &&& 31)) &&& 1)), some (.int ((v2 >>> (x6 &&& 31)) &&& 1)), some (.int ((v3 >>> (x6 &&& 31)) &&& 1)), some (.int ((v4 >>> (x6 &&& 31)) &&& 1)), some (.int (((((v1 >>> (x6 &&& 31)) &&& 1) + ((v2 >>> (x6 &&& 31)) &&& 1)) + ((v3 >>> (x6 &&& 31)) &&& 1)) + ((v4 >>> (x6 &&& 31)) &&& 1)))]) dX12_changesOf_129 rfl ?_
            refine r_goto (q := 6) dX12_changesOf_132 rfl ?_
            refine r_weak (L := [some (.ref 413), some (.int p1), some (.int p2), some (.int p3), some (.int p4), some (.int (x5 + 1)), some (.int (x6 + 1)), none, none, none, none, none]) (am_le_s (am_le_s (am_le_s (am_le_s (am_le_s (am_le_s (am_le_s (am_le_n (am_le_n (am_le_n (am_le_n (am_le_n am_le_0)))))))))))) ?_
            exact ih (x5 + 1) (x6 + 1) hf
          · refine r_loc dX12_changesOf_114 rfl ?_
            refine r_loc dX12_changesOf_116 rfl ?_
            refine r_eq (q := 125) dX12_changesOf_118 rfl hf (fun hf => ?_) (fun hf => ?_)
            · refine r_iconst (v := 1) dX12_changesOf_125 rfl ?_
              refine r_alu dX12_changesOf_126 rfl ?_
              refine r_loc (L' := [some (.ref 413), some (.int p1), some (.int p2), some (.int p3), some (.int p4), some (.int (x5 + 1)), some (.int x6), some (.int ((v1 >>> (x6 &&& 31)) &&& 1)), some (.int ((v2 >>> (x6 &&& 31)) &&& 1)), some (.int ((v3 >>> (x6 &&& 31)) &&& 1)), some (.int ((v4 >>> (x6 &&& 31)) &&& 1)), some (.int (((((v1 >>> (x6 &&& 31)) &&& 1) + ((v2 >>> (x6 &&& 31)) &&& 1)) + ((v3 >>> (x6 &&& 31)) &&& 1)) + ((v4 >>> (x6 &&& 31)) &&& 1)))]) dX12_changesOf_127 rfl ?_
              refine r_loc (L' := [some (.ref 413), some (.int p1), some (.int p2), some (.int p3), some (.int p4), some (.int (x5 + 1)), some (.int (x6 + 1)), some (.int ((v1 >>> (x6 &&& 31)) &&& 1)), some (.int ((v2 >>> (x6 &&& 31)) &&& 1)), some (.int ((v3 >>> (x6 &&& 31)) &&& 1)), some (.int ((v4 >>> (x6 &&& 31)) &&& 1)), some (.int (((((v1 >>> (x6 &&& 31)) &&& 1) + ((v2 >>> (x6 &&& 31)) &&& 1)) + ((v3 >>> (x6 &&& 31)) &&& 1)) + ((v4 >>> (x6 &&& 31)) &&& 1)))]) dX12_changesOf_129 rfl ?_
              refine r_goto (q := 6) dX12_changesOf_132 rfl ?_
              refine r_weak (L := [some (.ref 413), some (.int p1), some (.int p2), some (.int p3), some (.int p4), some (.int (x5 + 1)), some (.int (x6 + 1)), none, none, none, none, none]) (am_le_s (am_le_s (am_le_s (am_le_s (am_le_s (am_le_s (am_le_s (am_le_n (am_le_n (am_le_n (am_le_n (am_le_n am_le_0)))))))))))) ?_
              exact ih (x5 + 1) (x6 + 1) hf
            · refine r_iconst (v := 2) dX12_changesOf_121 rfl ?_
              refine r_goto (q := 126) dX12_changesOf_122 rfl ?_
              refine r_alu dX12_changesOf_126 rfl ?_
              refine r_loc (L' := [some (.ref 413), some (.int p1), some (.int p2), some (.int p3), some (.int p4), some (.int (x5 + 2)), some (.int x6), some (.int ((v1 >>> (x6 &&& 31)) &&& 1)), some (.int ((v2 >>> (x6 &&& 31)) &&& 1)), some (.int ((v3 >>> (x6 &&& 31)) &&& 1)), some (.int ((v4 >>> (x6 &&& 31)) &&& 1)), some (.int (((((v1 >>> (x6 &&& 31)) &&& 1) + ((v2 >>> (x6 &&& 31)) &&& 1)) + ((v3 >>> (x6 &&& 31)) &&& 1)) + ((v4 >>> (x6 &&& 31)) &&& 1)))]) dX12_changesOf_127 rfl ?_
              refine r_loc (L' := [some (.ref 413), some (.int p1), some (.int p2), some (.int p3), some (.int p4), some (.int (x5 + 2)), some (.int (x6 + 1)), some (.int ((v1 >>> (x6 &&& 31)) &&& 1)), some (.int ((v2 >>> (x6 &&& 31)) &&& 1)), some (.int ((v3 >>> (x6 &&& 31)) &&& 1)), some (.int ((v4 >>> (x6 &&& 31)) &&& 1)), some (.int (((((v1 >>> (x6 &&& 31)) &&& 1) + ((v2 >>> (x6 &&& 31)) &&& 1)) + ((v3 >>> (x6 &&& 31)) &&& 1)) + ((v4 >>> (x6 &&& 31)) &&& 1)))]) dX12_changesOf_129 rfl ?_
              refine r_goto (q := 6) dX12_changesOf_132 rfl ?_
              refine r_weak (L := [some (.ref 413), some (.int p1), some (.int p2), some (.int p3), some (.int p4), some (.int (x5 + 2)), some (.int (x6 + 1)), none, none, none, none, none]) (am_le_s (am_le_s (am_le_s (am_le_s (am_le_s (am_le_s (am_le_s (am_le_n (am_le_n (am_le_n (am_le_n (am_le_n am_le_0)))))))))))) ?_
              exact ih (x5 + 2) (x6 + 1) hf
        · refine r_iconst (v := 0) dX12_changesOf_104 rfl ?_
          refine r_goto (q := 126) dX12_changesOf_105 rfl ?_
          refine r_alu dX12_changesOf_126 rfl ?_
          refine r_loc (L' := [some (.ref 413), some (.int p1), some (.int p2), some (.int p3), some (.int p4), some (.int (x5 + 0)), some (.int x6), some (.int ((v1 >>> (x6 &&& 31)) &&& 1)), some (.int ((v2 >>> (x6 &&& 31)) &&& 1)), some (.int ((v3 >>> (x6 &&& 31)) &&& 1)), some (.int ((v4 >>> (x6 &&& 31)) &&& 1)), some (.int (((((v1 >>> (x6 &&& 31)) &&& 1) + ((v2 >>> (x6 &&& 31)) &&& 1)) + ((v3 >>> (x6 &&& 31)) &&& 1)) + ((v4 >>> (x6 &&& 31)) &&& 1)))]) dX12_changesOf_127 rfl ?_
          refine r_loc (L' := [some (.ref 413), some (.int p1), some (.int p2), some (.int p3), some (.int p4), some (.int (x5 + 0)), some (.int (x6 + 1)), some (.int ((v1 >>> (x6 &&& 31)) &&& 1)), some (.int ((v2 >>> (x6 &&& 31)) &&& 1)), some (.int ((v3 >>> (x6 &&& 31)) &&& 1)), some (.int ((v4 >>> (x6 &&& 31)) &&& 1)), some (.int (((((v1 >>> (x6 &&& 31)) &&& 1) + ((v2 >>> (x6 &&& 31)) &&& 1)) + ((v3 >>> (x6 &&& 31)) &&& 1)) + ((v4 >>> (x6 &&& 31)) &&& 1)))]) dX12_changesOf_129 rfl ?_
          refine r_goto (q := 6) dX12_changesOf_132 rfl ?_
          refine r_weak (L := [some (.ref 413), some (.int p1), some (.int p2), some (.int p3), some (.int p4), some (.int (x5 + 0)), some (.int (x6 + 1)), none, none, none, none, none]) (am_le_s (am_le_s (am_le_s (am_le_s (am_le_s (am_le_s (am_le_s (am_le_n (am_le_n (am_le_n (am_le_n (am_le_n am_le_0)))))))))))) ?_
          exact ih (x5 + 0) (x6 + 1) hf
theorem rf_X12_changesOf {X : am_X} {d : Nat} (hd : 0 ≤ d) (x1 : Int32) (x2 : Int32) (x3 : Int32) (x4 : Int32) {h : am_H} (T : am_TP h.2.2) {r : Int32} (hf : f_X12_changesOf x1 x2 x3 x4 h = some r) : am_G X d 12 false cX12_changesOf (some .int) 0 [some (.ref 413), some (.int x1), some (.int x2), some (.int x3), some (.int x4), none, none, none, none, none, none, none] [] (am_SH, h) (some (.int r), (am_SH, h)) := by
  unfold f_X12_changesOf at hf
  refine r_iconst (v := 0) dX12_changesOf_0 rfl ?_
  refine r_loc (L' := [some (.ref 413), some (.int x1), some (.int x2), some (.int x3), some (.int x4), some (.int 0), none, none, none, none, none, none]) dX12_changesOf_1 rfl ?_
  refine r_iconst (v := 0) dX12_changesOf_3 rfl ?_
  refine r_loc (L' := [some (.ref 413), some (.int x1), some (.int x2), some (.int x3), some (.int x4), some (.int 0), some (.int 0), none, none, none, none, none]) dX12_changesOf_4 rfl ?_
  refine rl_X12_changesOf_6 (by omega) x1 x2 x3 x4 T  4000 0 0  hf
def jn_X12_quartet_120 (x5 : Int32) (x6 : Int32) (x7 : Int32) (x9 : Int32) (h : am_H) : Option (Int32) := if x9 < x7 then if x5 = 0 then some 2 else some x9 else if x5 = 0 then some x6 else some x7
def f_X12_quartet (x1 : Int32) (x2 : Int32) (x3 : Int32) (x4 : Int32) (x5 : Int32) (h : am_H) : Option (Int32) := cal (f_X12_isThere x1 h) fun v2 => if v2 = 0 then some (-1) else cal (f_X12_isThere x2 h) fun v5 => if v5 = 0 then some (-1) else cal (f_X12_isThere x3 h) fun v8 => if v8 = 0 then some (-1) else cal (f_X12_isThere x4 h) fun v11 => if v11 = 0 then some (-1) else cal (f_X12_isIn x5 0 1 h) fun v14 => if v14 = 0 then some (-1) else cal (f_X12_bitsOf (((((1 : Int32) <<< (x1 &&& 31)) ||| ((1 : Int32) <<< (x2 &&& 31))) ||| ((1 : Int32) <<< (x3 &&& 31))) ||| ((1 : Int32) <<< (x4 &&& 31))) h) fun v17 => if v17 < 4 then some (-1) else cal (f_X12_changesOf x1 x2 x3 x4 h) fun v20 => cal (f_X12_changesOf x1 x3 x2 x4 h) fun v23 => cal (f_X12_changesOf x1 x4 x2 x3 h) fun v26 => if v23 < v20 then jn_X12_quartet_120 x5 1 v23 v26 h else jn_X12_quartet_120 x5 0 v20 v26 h
theorem rj_X12_quartet_120 {X : am_X} {d : Nat} (hd : 2 ≤ d) (x5 : Int32) (x6 : Int32) (x7 : Int32) (x9 : Int32) {h : am_H} (T : am_TP h.2.2) {r : Int32} (hf : jn_X12_quartet_120 x5 x6 x7 x9 h = some r) : am_G X d 12 false cX12_quartet (some .int) 120 [none, none, none, none, none, some (.int x5), some (.int x6), some (.int x7), none, some (.int x9)] [] (am_SH, h) (some (.int r), (am_SH, h)) := by
  obtain ⟨d, rfl⟩ : ∃ e, d = e + 1 := ⟨d - 1, by omega⟩
  unfold jn_X12_quartet_120 at hf
  refine r_loc dX12_quartet_120 rfl ?_
  refine r_loc dX12_quartet_122 rfl ?_
  refine r_ge (q := 134) dX12_quartet_124 rfl hf (fun hf => ?_) (fun hf => ?_)
  · refine r_loc dX12_quartet_134 rfl ?_
    refine r_ne0 (q := 144) dX12_quartet_136 rfl hf (fun hf => ?_) (fun hf => ?_)
    · refine r_loc dX12_quartet_144 rfl ?_
      cases hf
      exact r_ri T dX12_quartet_146
    · refine r_loc dX12_quartet_139 rfl ?_
      refine r_goto (q := 146) dX12_quartet_141 rfl ?_
      cases hf
      exact r_ri T dX12_quartet_146
  · refine r_iconst (v := 2) dX12_quartet_127 rfl ?_
    refine r_loc (L' := [none, none, none, none, none, some (.int x5), some (.int 2), some (.int x7), none, some (.int x9)]) dX12_quartet_128 rfl ?_
    refine r_loc dX12_quartet_130 rfl ?_
    refine r_loc (L' := [none, none, none, none, none, some (.int x5), some (.int 2), some (.int x9), none, some (.int x9)]) dX12_quartet_132 rfl ?_
    refine r_loc dX12_quartet_134 rfl ?_
    refine r_ne0 (q := 144) dX12_quartet_136 rfl hf (fun hf => ?_) (fun hf => ?_)
    · refine r_loc dX12_quartet_144 rfl ?_
      cases hf
      exact r_ri T dX12_quartet_146
    · refine r_loc dX12_quartet_139 rfl ?_
      refine r_goto (q := 146) dX12_quartet_141 rfl ?_
      cases hf
      exact r_ri T dX12_quartet_146
theorem rf_X12_quartet {X : am_X} {d : Nat} (hd : 2 ≤ d) (x1 : Int32) (x2 : Int32) (x3 : Int32) (x4 : Int32) (x5 : Int32) {h : am_H} (T : am_TP h.2.2) {r : Int32} (hf : f_X12_quartet x1 x2 x3 x4 x5 h = some r) : am_G X d 12 false cX12_quartet (some .int) 0 [some (.ref 413), some (.int x1), some (.int x2), some (.int x3), some (.int x4), some (.int x5), none, none, none, none] [] (am_SH, h) (some (.int r), (am_SH, h)) := by
  unfold f_X12_quartet at hf
  obtain ⟨d, rfl⟩ : ∃ e, d = e + 1 := ⟨d - 1, by omega⟩
  refine r_loc dX12_quartet_0 rfl ?_
  refine r_loc dX12_quartet_1 rfl ?_
  obtain ⟨v2, c1, hf⟩ := cal_inv hf
  have g3 := rf_X12_isThere (X := X) (d := d) (by omega) x1 T c1
  refine r_virt (pre := [.int x1]) (rest := []) dX12_quartet_2 ct_12_411 rfl (sh_413) (Nat.le_of_ble_eq_true rfl) (Nat.le_of_ble_eq_true rfl) g3 ?_
  refine r_eq0 (q := 43) dX12_quartet_5 rfl hf (fun hf => ?_) (fun hf => ?_)
  · refine r_iconst (v := (-1)) dX12_quartet_43 rfl ?_
    cases hf
    exact r_ri T dX12_quartet_44
  · refine r_loc dX12_quartet_8 rfl ?_
    refine r_loc dX12_quartet_9 rfl ?_
    obtain ⟨v5, c4, hf⟩ := cal_inv hf
    have g6 := rf_X12_isThere (X := X) (d := d) (by omega) x2 T c4
    refine r_virt (pre := [.int x2]) (rest := []) dX12_quartet_10 ct_12_411 rfl (sh_413) (Nat.le_of_ble_eq_true rfl) (Nat.le_of_ble_eq_true rfl) g6 ?_
    refine r_eq0 (q := 43) dX12_quartet_13 rfl hf (fun hf => ?_) (fun hf => ?_)
    · refine r_iconst (v := (-1)) dX12_quartet_43 rfl ?_
      cases hf
      exact r_ri T dX12_quartet_44
    · refine r_loc dX12_quartet_16 rfl ?_
      refine r_loc dX12_quartet_17 rfl ?_
      obtain ⟨v8, c7, hf⟩ := cal_inv hf
      have g9 := rf_X12_isThere (X := X) (d := d) (by omega) x3 T c7
      refine r_virt (pre := [.int x3]) (rest := []) dX12_quartet_18 ct_12_411 rfl (sh_413) (Nat.le_of_ble_eq_true rfl) (Nat.le_of_ble_eq_true rfl) g9 ?_
      refine r_eq0 (q := 43) dX12_quartet_21 rfl hf (fun hf => ?_) (fun hf => ?_)
      · refine r_iconst (v := (-1)) dX12_quartet_43 rfl ?_
        cases hf
        exact r_ri T dX12_quartet_44
      · refine r_loc dX12_quartet_24 rfl ?_
        refine r_loc dX12_quartet_25 rfl ?_
        obtain ⟨v11, c10, hf⟩ := cal_inv hf
        have g12 := rf_X12_isThere (X := X) (d := d) (by omega) x4 T c10
        refine r_virt (pre := [.int x4]) (rest := []) dX12_quartet_27 ct_12_411 rfl (sh_413) (Nat.le_of_ble_eq_true rfl) (Nat.le_of_ble_eq_true rfl) g12 ?_
        refine r_eq0 (q := 43) dX12_quartet_30 rfl hf (fun hf => ?_) (fun hf => ?_)
        · refine r_iconst (v := (-1)) dX12_quartet_43 rfl ?_
          cases hf
          exact r_ri T dX12_quartet_44
        · refine r_loc dX12_quartet_33 rfl ?_
          refine r_iconst (v := 0) dX12_quartet_35 rfl ?_
          refine r_iconst (v := 1) dX12_quartet_36 rfl ?_
          obtain ⟨v14, c13, hf⟩ := cal_inv hf
          have g15 := rf_X12_isIn (X := X) (d := d) (by omega) x5 0 1 T c13
          refine r_stat (pre := [.int 1, .int 0, .int x5]) (rest := []) dX12_quartet_37 ct_12_346 rfl (Nat.le_of_ble_eq_true rfl) (Nat.le_of_ble_eq_true rfl) g15 ?_
          refine r_ne0 (q := 45) dX12_quartet_40 rfl hf (fun hf => ?_) (fun hf => ?_)
          · refine r_iconst (v := 1) dX12_quartet_45 rfl ?_
            refine r_loc dX12_quartet_46 rfl ?_
            refine r_alu dX12_quartet_47 rfl ?_
            refine r_iconst (v := 1) dX12_quartet_48 rfl ?_
            refine r_loc dX12_quartet_49 rfl ?_
            refine r_alu dX12_quartet_50 rfl ?_
            refine r_alu dX12_quartet_51 rfl ?_
            refine r_iconst (v := 1) dX12_quartet_52 rfl ?_
            refine r_loc dX12_quartet_53 rfl ?_
            refine r_alu dX12_quartet_54 rfl ?_
            refine r_alu dX12_quartet_55 rfl ?_
            refine r_iconst (v := 1) dX12_quartet_56 rfl ?_
            refine r_loc dX12_quartet_57 rfl ?_
            refine r_alu dX12_quartet_59 rfl ?_
            refine r_alu dX12_quartet_60 rfl ?_
            obtain ⟨v17, c16, hf⟩ := cal_inv hf
            have g18 := rf_X12_bitsOf (X := X) (d := d) (by omega) (((((1 : Int32) <<< (x1 &&& 31)) ||| ((1 : Int32) <<< (x2 &&& 31))) ||| ((1 : Int32) <<< (x3 &&& 31))) ||| ((1 : Int32) <<< (x4 &&& 31))) T c16
            refine r_stat (pre := [.int (((((1 : Int32) <<< (x1 &&& 31)) ||| ((1 : Int32) <<< (x2 &&& 31))) ||| ((1 : Int32) <<< (x3 &&& 31))) ||| ((1 : Int32) <<< (x4 &&& 31)))]) (rest := []) dX12_quartet_61 ct_12_334 rfl (Nat.le_of_ble_eq_true rfl) (Nat.le_of_ble_eq_true rfl) g18 ?_
            refine r_iconst (v := 4) dX12_quartet_64 rfl ?_
            refine r_ge (q := 70) dX12_quartet_65 rfl hf (fun hf => ?_) (fun hf => ?_)
            · refine r_iconst (v := 0) dX12_quartet_70 rfl ?_
              refine r_loc (L' := [some (.ref 413), some (.int x1), some (.int x2), some (.int x3), some (.int x4), some (.int x5), some (.int 0), none, none, none]) dX12_quartet_71 rfl ?_
              refine r_loc dX12_quartet_73 rfl ?_
              refine r_loc dX12_quartet_74 rfl ?_
              refine r_loc dX12_quartet_75 rfl ?_
              refine r_loc dX12_quartet_76 rfl ?_
              refine r_loc dX12_quartet_77 rfl ?_
              obtain ⟨v20, c19, hf⟩ := cal_inv hf
              have g21 := rf_X12_changesOf (X := X) (d := d) (by omega) x1 x2 x3 x4 T c19
              refine r_virt (pre := [.int x4, .int x3, .int x2, .int x1]) (rest := []) dX12_quartet_79 ct_12_463 rfl (sh_413) (Nat.le_of_ble_eq_true rfl) (Nat.le_of_ble_eq_true rfl) g21 ?_
              refine r_loc (L' := [some (.ref 413), some (.int x1), some (.int x2), some (.int x3), some (.int x4), some (.int x5), some (.int 0), some (.int v20), none, none]) dX12_quartet_82 rfl ?_
              refine r_loc dX12_quartet_84 rfl ?_
              refine r_loc dX12_quartet_85 rfl ?_
              refine r_loc dX12_quartet_86 rfl ?_
              refine r_loc dX12_quartet_87 rfl ?_
              refine r_loc dX12_quartet_88 rfl ?_
              obtain ⟨v23, c22, hf⟩ := cal_inv hf
              have g24 := rf_X12_changesOf (X := X) (d := d) (by omega) x1 x3 x2 x4 T c22
              refine r_virt (pre := [.int x4, .int x2, .int x3, .int x1]) (rest := []) dX12_quartet_90 ct_12_463 rfl (sh_413) (Nat.le_of_ble_eq_true rfl) (Nat.le_of_ble_eq_true rfl) g24 ?_
              refine r_loc (L' := [some (.ref 413), some (.int x1), some (.int x2), some (.int x3), some (.int x4), some (.int x5), some (.int 0), some (.int v20), some (.int v23), none]) dX12_quartet_93 rfl ?_
              refine r_loc dX12_quartet_95 rfl ?_
              refine r_loc dX12_quartet_96 rfl ?_
              refine r_loc dX12_quartet_97 rfl ?_
              refine r_loc dX12_quartet_99 rfl ?_
              refine r_loc dX12_quartet_100 rfl ?_
              obtain ⟨v26, c25, hf⟩ := cal_inv hf
              have g27 := rf_X12_changesOf (X := X) (d := d) (by omega) x1 x4 x2 x3 T c25
              refine r_virt (pre := [.int x3, .int x2, .int x4, .int x1]) (rest := []) dX12_quartet_101 ct_12_463 rfl (sh_413) (Nat.le_of_ble_eq_true rfl) (Nat.le_of_ble_eq_true rfl) g27 ?_
              refine r_loc (L' := [some (.ref 413), some (.int x1), some (.int x2), some (.int x3), some (.int x4), some (.int x5), some (.int 0), some (.int v20), some (.int v23), some (.int v26)]) dX12_quartet_104 rfl ?_
              refine r_loc dX12_quartet_106 rfl ?_
              refine r_loc dX12_quartet_108 rfl ?_
              refine r_ge (q := 120) dX12_quartet_110 rfl hf (fun hf => ?_) (fun hf => ?_)
              · refine r_weak (L := [none, none, none, none, none, some (.int x5), some (.int 0), some (.int v20), none, some (.int v26)]) (am_le_n (am_le_n (am_le_n (am_le_n (am_le_n (am_le_s (am_le_s (am_le_s (am_le_n (am_le_s am_le_0)))))))))) ?_
                exact rj_X12_quartet_120 (by omega) x5 0 v20 v26 T hf
              · refine r_iconst (v := 1) dX12_quartet_113 rfl ?_
                refine r_loc (L' := [some (.ref 413), some (.int x1), some (.int x2), some (.int x3), some (.int x4), some (.int x5), some (.int 1), some (.int v20), some (.int v23), some (.int v26)]) dX12_quartet_114 rfl ?_
                refine r_loc dX12_quartet_116 rfl ?_
                refine r_loc (L' := [some (.ref 413), some (.int x1), some (.int x2), some (.int x3), some (.int x4), some (.int x5), some (.int 1), some (.int v23), some (.int v23), some (.int v26)]) dX12_quartet_118 rfl ?_
                refine r_weak (L := [none, none, none, none, none, some (.int x5), some (.int 1), some (.int v23), none, some (.int v26)]) (am_le_n (am_le_n (am_le_n (am_le_n (am_le_n (am_le_s (am_le_s (am_le_s (am_le_n (am_le_s am_le_0)))))))))) ?_
                exact rj_X12_quartet_120 (by omega) x5 1 v23 v26 T hf
            · refine r_iconst (v := (-1)) dX12_quartet_68 rfl ?_
              cases hf
              exact r_ri T dX12_quartet_69
          · refine r_iconst (v := (-1)) dX12_quartet_43 rfl ?_
            cases hf
            exact r_ri T dX12_quartet_44
