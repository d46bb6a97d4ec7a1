/-! Lifted methods, by program (wip/whole/lift.py, run1.py) -/
def f_X12_isSignHere (x1 : Int32) (h : am_H) : Option (Int32) := bnd (h.1 413 8) fun v1 => if v1 = 5 then bnd (h.1 413 6) fun v2 => cal (f_X12_sign v2 h) fun v4 => if v4 = x1 then some 1 else some 0 else some 0
theorem rf_X12_isSignHere {X : am_X} {d : Nat} (hd : 1 ≤ d) (x1 : Int32) {h : am_H} (T : am_TP h.2.2) {r : Int32} (hf : f_X12_isSignHere x1 h = some r) : am_G X d 12 false cX12_isSignHere (some .boolean) 0 [some (.ref 413), some (.int x1)] [] (am_SH, h) (some (.int r), (am_SH, h)) := by
  unfold f_X12_isSignHere at hf
  obtain ⟨d, rfl⟩ : ∃ e, d = e + 1 := ⟨d - 1, by omega⟩
  refine r_loc dX12_isSignHere_0 rfl ?_
  refine r_getI dX12_isSignHere_1 fl_12_186 sh_413 rfl hf (fun v1 hf => ?_)
  refine r_iconst (v := 5) dX12_isSignHere_4 rfl ?_
  refine r_ne (q := 24) dX12_isSignHere_5 rfl hf (fun hf => ?_) (fun hf => ?_)
  · refine r_iconst (v := 0) dX12_isSignHere_24 rfl ?_
    cases hf
    exact r_z0 T dX12_isSignHere_25
  · refine r_loc dX12_isSignHere_8 rfl ?_
    refine r_loc dX12_isSignHere_9 rfl ?_
    refine r_getI dX12_isSignHere_10 fl_12_179 sh_413 rfl hf (fun v2 hf => ?_)
    obtain ⟨v4, c3, hf⟩ := cal_inv hf
    have g5 := rf_X12_sign (X := X) (d := d) (by omega) v2 T c3
    refine r_virt (pre := [.int v2]) (rest := []) dX12_isSignHere_13 ct_12_182 rfl (sh_413) (Nat.le_of_ble_eq_true rfl) (Nat.le_of_ble_eq_true rfl) g5 ?_
    refine r_loc dX12_isSignHere_16 rfl ?_
    refine r_ne (q := 24) dX12_isSignHere_17 rfl hf (fun hf => ?_) (fun hf => ?_)
    · refine r_iconst (v := 0) dX12_isSignHere_24 rfl ?_
      cases hf
      exact r_z0 T dX12_isSignHere_25
    · refine r_iconst (v := 1) dX12_isSignHere_20 rfl ?_
      refine r_goto (q := 25) dX12_isSignHere_21 rfl ?_
      cases hf
      exact r_z1 T dX12_isSignHere_25
def f_X12_must (x1 : Int32) (h : am_H) : Option (am_H) := cal (f_X12_isGood h) fun v2 => if v2 = 0 then some h else if x1 = 0 then cal (f_X12_misplaced h) fun h5 => some h5 else cal (f_X12_goOn h) fun h9 => some h9
theorem rf_X12_must {X : am_X} {d : Nat} (hd : 2 ≤ d) (x1 : Int32) {h : am_H} (T : am_TP h.2.2) {r : am_H} (hf : f_X12_must x1 h = some r) : am_G X d 12 false cX12_must none 0 [some (.ref 413), some (.int x1)] [] (am_SH, h) (none, (am_SH, r)) := by
  unfold f_X12_must at hf
  obtain ⟨d, rfl⟩ : ∃ e, d = e + 1 := ⟨d - 1, by omega⟩
  refine r_loc dX12_must_0 rfl ?_
  obtain ⟨v2, c1, hf⟩ := cal_inv hf
  have g3 := rf_X12_isGood (X := X) (d := d) (by omega) T c1
  refine r_virt (pre := []) (rest := []) dX12_must_1 ct_12_214 rfl (sh_413) (Nat.le_of_ble_eq_true rfl) (Nat.le_of_ble_eq_true rfl) g3 ?_
  refine r_ne0 (q := 8) dX12_must_4 rfl hf (fun hf => ?_) (fun hf => ?_)
  · refine r_loc dX12_must_8 rfl ?_
    refine r_eq0 (q := 19) dX12_must_9 rfl hf (fun hf => ?_) (fun hf => ?_)
    · refine r_loc dX12_must_19 rfl ?_
      obtain ⟨h5, c4, hf⟩ := cal_inv hf
      have g7 := rf_X12_misplaced (X := X) (d := d) (by omega) T c4
      have T6 : am_TP h5.2.2 := g7.2
      refine r_virt (pre := []) (rest := []) dX12_must_20 ct_12_221 rfl (sh_413) (Nat.le_of_ble_eq_true rfl) (Nat.le_of_ble_eq_true rfl) g7 ?_
      cases hf
      exact r_ret T6 dX12_must_23 rfl
    · refine r_loc dX12_must_12 rfl ?_
      obtain ⟨h9, c8, hf⟩ := cal_inv hf
      have g11 := rf_X12_goOn (X := X) (d := d) (by omega) T c8
      have T10 : am_TP h9.2.2 := g11.2
      refine r_virt (pre := []) (rest := []) dX12_must_13 ct_12_218 rfl (sh_413) (Nat.le_of_ble_eq_true rfl) (Nat.le_of_ble_eq_true rfl) g11 ?_
      refine r_goto (q := 23) dX12_must_16 rfl ?_
      cases hf
      exact r_ret T10 dX12_must_23 rfl
  · cases hf
    exact r_ret T dX12_must_7 rfl
def jn_X12_numeral_69 (x1 : Int32) (x3 : Int32) (h : am_H) : Option (Int32 × am_H) := cal (f_X12_isGood h) fun v13 => if v13 = 0 then some (x1, h) else some (x3, h)
def jn_X12_numeral_53 (x1 : Int32) (h : am_H) : Option (Int32 × am_H) := bnd (h.1 413 9) fun v8 => cal (f_X12_isGood h) fun v10 => if v10 = 0 then jn_X12_numeral_69 x1 v8 h else cal (f_X12_goOn h) fun h16 => jn_X12_numeral_69 x1 v8 h16
def jn_X12_numeral_44 (x1 : Int32) (h : am_H) : Option (Int32 × am_H) := bnd (h.1 413 6) fun v20 => cal (f_X12_fails 4 v20 h) fun h22 => jn_X12_numeral_53 x1 h22
def jn_X12_numeral_21 (x1 : Int32) (x2 : Int32) (h : am_H) : Option (Int32 × am_H) := cal (f_X12_isGood h) fun v6 => if v6 = 0 then jn_X12_numeral_53 x1 h else bnd (h.1 413 9) fun v19 => if v19 < x1 then jn_X12_numeral_44 x1 h else bnd (h.1 413 9) fun v25 => if x2 < v25 then jn_X12_numeral_44 x1 h else jn_X12_numeral_53 x1 h
def f_X12_numeral (x1 : Int32) (x2 : Int32) (h : am_H) : Option (Int32 × am_H) := cal (f_X12_isGood h) fun v2 => if v2 = 0 then some (x1, h) else bnd (h.1 413 8) fun v4 => if v4 = 4 then jn_X12_numeral_21 x1 x2 h else cal (f_X12_misplaced h) fun h27 => jn_X12_numeral_21 x1 x2 h27
theorem rj_X12_numeral_69 {X : am_X} {d : Nat} (hd : 2 ≤ d) (x1 : Int32) (x3 : Int32) {h : am_H} (T : am_TP h.2.2) {r : Int32 × am_H} (hf : jn_X12_numeral_69 x1 x3 h = some r) : am_G X d 12 false cX12_numeral (some .int) 69 [some (.ref 413), some (.int x1), none, some (.int x3)] [] (am_SH, h) (some (.int r.1), (am_SH, r.2)) := by
  obtain ⟨d, rfl⟩ : ∃ e, d = e + 1 := ⟨d - 1, by omega⟩
  unfold jn_X12_numeral_69 at hf
  refine r_loc dX12_numeral_69 rfl ?_
  obtain ⟨v13, c12, hf⟩ := cal_inv hf
  have g14 := rf_X12_isGood (X := X) (d := d) (by omega) T c12
  refine r_virt (pre := []) (rest := []) dX12_numeral_70 ct_12_214 rfl (sh_413) (Nat.le_of_ble_eq_true rfl) (Nat.le_of_ble_eq_true rfl) g14 ?_
  refine r_eq0 (q := 80) dX12_numeral_73 rfl hf (fun hf => ?_) (fun hf => ?_)
  · refine r_loc dX12_numeral_80 rfl ?_
    cases hf
    exact r_ri T dX12_numeral_81
  · refine r_loc dX12_numeral_76 rfl ?_
    refine r_goto (q := 81) dX12_numeral_77 rfl ?_
    cases hf
    exact r_ri T dX12_numeral_81
theorem rj_X12_numeral_53 {X : am_X} {d : Nat} (hd : 2 ≤ d) (x1 : Int32) {h : am_H} (T : am_TP h.2.2) {r : Int32 × am_H} (hf : jn_X12_numeral_53 x1 h = some r) : am_G X d 12 false cX12_numeral (some .int) 53 [some (.ref 413), some (.int x1), none, none] [] (am_SH, h) (some (.int r.1), (am_SH, r.2)) := by
  obtain ⟨d, rfl⟩ : ∃ e, d = e + 1 := ⟨d - 1, by omega⟩
  unfold jn_X12_numeral_53 at hf
  refine r_loc dX12_numeral_53 rfl ?_
  refine r_getI dX12_numeral_54 fl_12_204 sh_413 rfl hf (fun v8 hf => ?_)
  refine r_loc (L' := [some (.ref 413), some (.int x1), none, some (.int v8)]) dX12_numeral_57 rfl ?_
  refine r_loc dX12_numeral_58 rfl ?_
  obtain ⟨v10, c9, hf⟩ := cal_inv hf
  have g11 := rf_X12_isGood (X := X) (d := d) (by omega) T c9
  refine r_virt (pre := []) (rest := []) dX12_numeral_59 ct_12_214 rfl (sh_413) (Nat.le_of_ble_eq_true rfl) (Nat.le_of_ble_eq_true rfl) g11 ?_
  refine r_eq0 (q := 69) dX12_numeral_62 rfl hf (fun hf => ?_) (fun hf => ?_)
  · exact rj_X12_numeral_69 (by omega) x1 v8 T hf
  · refine r_loc dX12_numeral_65 rfl ?_
    obtain ⟨h16, c15, hf⟩ := cal_inv hf
    have g18 := rf_X12_goOn (X := X) (d := d) (by omega) T c15
    have T17 : am_TP h16.2.2 := g18.2
    refine r_virt (pre := []) (rest := []) dX12_numeral_66 ct_12_218 rfl (sh_413) (Nat.le_of_ble_eq_true rfl) (Nat.le_of_ble_eq_true rfl) g18 ?_
    exact rj_X12_numeral_69 (by omega) x1 v8 T17 hf
theorem rj_X12_numeral_44 {X : am_X} {d : Nat} (hd : 2 ≤ d) (x1 : Int32) {h : am_H} (T : am_TP h.2.2) {r : Int32 × am_H} (hf : jn_X12_numeral_44 x1 h = some r) : am_G X d 12 false cX12_numeral (some .int) 44 [some (.ref 413), some (.int x1), none, none] [] (am_SH, h) (some (.int r.1), (am_SH, r.2)) := by
  obtain ⟨d, rfl⟩ : ∃ e, d = e + 1 := ⟨d - 1, by omega⟩
  unfold jn_X12_numeral_44 at hf
  refine r_loc dX12_numeral_44 rfl ?_
  refine r_iconst (v := 4) dX12_numeral_45 rfl ?_
  refine r_loc dX12_numeral_46 rfl ?_
  refine r_getI dX12_numeral_47 fl_12_179 sh_413 rfl hf (fun v20 hf => ?_)
  obtain ⟨h22, c21, hf⟩ := cal_inv hf
  have g24 := rf_X12_fails (X := X) (d := d) (by omega) 4 v20 T c21
  have T23 : am_TP h22.2.2 := g24.2
  refine r_virt (pre := [.int v20, .int 4]) (rest := []) dX12_numeral_50 ct_12_210 rfl (sh_413) (Nat.le_of_ble_eq_true rfl) (Nat.le_of_ble_eq_true rfl) g24 ?_
  exact rj_X12_numeral_53 (by omega) x1 T23 hf
theorem rj_X12_numeral_21 {X : am_X} {d : Nat} (hd : 2 ≤ d) (x1 : Int32) (x2 : Int32) {h : am_H} (T : am_TP h.2.2) {r : Int32 × am_H} (hf : jn_X12_numeral_21 x1 x2 h = some r) : am_G X d 12 false cX12_numeral (some .int) 21 [some (.ref 413), some (.int x1), some (.int x2), none] [] (am_SH, h) (some (.int r.1), (am_SH, r.2)) := by
  obtain ⟨d, rfl⟩ : ∃ e, d = e + 1 := ⟨d - 1, by omega⟩
  unfold jn_X12_numeral_21 at hf
  refine r_loc dX12_numeral_21 rfl ?_
  obtain ⟨v6, c5, hf⟩ := cal_inv hf
  have g7 := rf_X12_isGood (X := X) (d := d) (by omega) T c5
  refine r_virt (pre := []) (rest := []) dX12_numeral_22 ct_12_214 rfl (sh_413) (Nat.le_of_ble_eq_true rfl) (Nat.le_of_ble_eq_true rfl) g7 ?_
  refine r_eq0 (q := 53) dX12_numeral_25 rfl hf (fun hf => ?_) (fun hf => ?_)
  · refine r_weak (L := [some (.ref 413), some (.int x1), none, none]) (am_le_s (am_le_s (am_le_n (am_le_n am_le_0)))) ?_
    exact rj_X12_numeral_53 (by omega) x1 T hf
  · refine r_loc dX12_numeral_28 rfl ?_
    refine r_getI dX12_numeral_29 fl_12_204 sh_413 rfl hf (fun v19 hf => ?_)
    refine r_loc dX12_numeral_32 rfl ?_
    refine r_lt (q := 44) dX12_numeral_33 rfl hf (fun hf => ?_) (fun hf => ?_)
    · refine r_weak (L := [some (.ref 413), some (.int x1), none, none]) (am_le_s (am_le_s (am_le_n (am_le_n am_le_0)))) ?_
      exact rj_X12_numeral_44 (by omega) x1 T hf
    · refine r_loc dX12_numeral_36 rfl ?_
      refine r_getI dX12_numeral_37 fl_12_204 sh_413 rfl hf (fun v25 hf => ?_)
      refine r_loc dX12_numeral_40 rfl ?_
      refine r_le (q := 53) dX12_numeral_41 rfl hf (fun hf => ?_) (fun hf => ?_)
      · refine r_weak (L := [some (.ref 413), some (.int x1), none, none]) (am_le_s (am_le_s (am_le_n (am_le_n am_le_0)))) ?_
        exact rj_X12_numeral_53 (by omega) x1 T hf
      · refine r_weak (L := [some (.ref 413), some (.int x1), none, none]) (am_le_s (am_le_s (am_le_n (am_le_n am_le_0)))) ?_
        exact rj_X12_numeral_44 (by omega) x1 T hf
theorem rf_X12_numeral {X : am_X} {d : Nat} (hd : 2 ≤ d) (x1 : Int32) (x2 : Int32) {h : am_H} (T : am_TP h.2.2) {r : Int32 × am_H} (hf : f_X12_numeral x1 x2 h = some r) : am_G X d 12 false cX12_numeral (some .int) 0 [some (.ref 413), some (.int x1), some (.int x2), none] [] (am_SH, h) (some (.int r.1), (am_SH, r.2)) := by
  unfold f_X12_numeral at hf
  obtain ⟨d, rfl⟩ : ∃ e, d = e + 1 := ⟨d - 1, by omega⟩
  refine r_loc dX12_numeral_0 rfl ?_
  obtain ⟨v2, c1, hf⟩ := cal_inv hf
  have g3 := rf_X12_isGood (X := X) (d := d) (by omega) T c1
  refine r_virt (pre := []) (rest := []) dX12_numeral_1 ct_12_214 rfl (sh_413) (Nat.le_of_ble_eq_true rfl) (Nat.le_of_ble_eq_true rfl) g3 ?_
  refine r_ne0 (q := 9) dX12_numeral_4 rfl hf (fun hf => ?_) (fun hf => ?_)
  · refine r_loc dX12_numeral_9 rfl ?_
    refine r_getI dX12_numeral_10 fl_12_186 sh_413 rfl hf (fun v4 hf => ?_)
    refine r_iconst (v := 4) dX12_numeral_13 rfl ?_
    refine r_eq (q := 21) dX12_numeral_14 rfl hf (fun hf => ?_) (fun hf => ?_)
    · exact rj_X12_numeral_21 (by omega) x1 x2 T hf
    · refine r_loc dX12_numeral_17 rfl ?_
      obtain ⟨h27, c26, hf⟩ := cal_inv hf
      have g29 := rf_X12_misplaced (X := X) (d := d) (by omega) T c26
      have T28 : am_TP h27.2.2 := g29.2
      refine r_virt (pre := []) (rest := []) dX12_numeral_18 ct_12_221 rfl (sh_413) (Nat.le_of_ble_eq_true rfl) (Nat.le_of_ble_eq_true rfl) g29 ?_
      exact rj_X12_numeral_21 (by omega) x1 x2 T28 hf
  · refine r_loc dX12_numeral_7 rfl ?_
    cases hf
    exact r_ri T dX12_numeral_8
def f_X12_once (x1 : Int32) (x2 : Int32) (x3 : Int32) (h : am_H) : Option (Int32 × am_H) := bnd (h.1 413 33) fun v1 => rdI h 422 2 v1 fun v2 => wrI h 422 2 v1 (v2 ||| ((1 : Int32) <<< (x1 &&& 31))) fun h3 => cal2 (f_X12_numeral x2 x3 h3) fun v7 h9 => some (v7, h9)
theorem rf_X12_once {X : am_X} {d : Nat} (hd : 3 ≤ d) (x1 : Int32) (x2 : Int32) (x3 : Int32) {h : am_H} (T : am_TP h.2.2) {r : Int32 × am_H} (hf : f_X12_once x1 x2 x3 h = some r) : am_G X d 12 false cX12_once (some .int) 0 [some (.ref 413), some (.int x1), some (.int x2), some (.int x3)] [] (am_SH, h) (some (.int r.1), (am_SH, r.2)) := by
  unfold f_X12_once at hf
  obtain ⟨d, rfl⟩ : ∃ e, d = e + 1 := ⟨d - 1, by omega⟩
  refine r_loc dX12_once_0 rfl ?_
  refine r_getR dX12_once_1 fl_12_39 sh_413 (Or.inr ⟨_, rfl⟩) (tp_413_17 T) ?_
  refine r_loc dX12_once_4 rfl ?_
  refine r_getI dX12_once_5 fl_12_235 sh_413 rfl hf (fun v1 hf => ?_)
  refine r_alu dX12_once_8 rfl ?_
  refine r_iald dX12_once_9 sh_422 hf (fun v2 hf => ?_)
  refine r_iconst (v := 1) dX12_once_10 rfl ?_
  refine r_loc dX12_once_11 rfl ?_
  refine r_alu dX12_once_12 rfl ?_
  refine r_alu dX12_once_13 rfl ?_
  refine r_iast dX12_once_14 sh_422 hf (fun h3 e5 hf => ?_)
  have T4 := tp_eq e5 T
  refine r_loc dX12_once_15 rfl ?_
  refine r_loc dX12_once_16 rfl ?_
  refine r_loc dX12_once_17 rfl ?_
  obtain ⟨v7, h9, c6, hf⟩ := cal2_inv hf
  have g11 := rf_X12_numeral (X := X) (d := d) (by omega) x2 x3 T4 c6
  have T10 : am_TP h9.2.2 := g11.2
  refine r_virt (pre := [.int x3, .int x2]) (rest := []) dX12_once_18 ct_12_231 rfl (sh_413) (Nat.le_of_ble_eq_true rfl) (Nat.le_of_ble_eq_true rfl) g11 ?_
  cases hf
  exact r_ri T10 dX12_once_21
def f_X12_pushE (x1 : Int32) (x2 : Int32) (h : am_H) : Option (am_H) := bnd (h.1 413 36) fun v1 => wrI h 434 90 v1 x1 fun h2 => bnd (h2.1 413 36) fun v5 => wrI h2 435 90 v5 x2 fun h6 => bnd (h6.1 413 36) fun v9 => ptI h6 413 36 (v9 + 1) fun h10 => some h10
theorem rf_X12_pushE {X : am_X} {d : Nat} (hd : 0 ≤ d) (x1 : Int32) (x2 : Int32) {h : am_H} (T : am_TP h.2.2) {r : am_H} (hf : f_X12_pushE x1 x2 h = some r) : am_G X d 12 false cX12_pushE none 0 [some (.ref 413), some (.int x1), some (.int x2)] [] (am_SH, h) (none, (am_SH, r)) := by
  unfold f_X12_pushE at hf
  refine r_loc dX12_pushE_0 rfl ?_
  refine r_getR dX12_pushE_1 fl_12_76 sh_413 (Or.inr ⟨_, rfl⟩) (tp_413_29 T) ?_
  refine r_loc dX12_pushE_4 rfl ?_
  refine r_getI dX12_pushE_5 fl_12_292 sh_413 rfl hf (fun v1 hf => ?_)
  refine r_loc dX12_pushE_8 rfl ?_
  refine r_iast dX12_pushE_9 sh_434 hf (fun h2 e4 hf => ?_)
  have T3 := tp_eq e4 T
  refine r_loc dX12_pushE_10 rfl ?_
  refine r_getR dX12_pushE_11 fl_12_79 sh_413 (Or.inr ⟨_, rfl⟩) (tp_413_30 T3) ?_
  refine r_loc dX12_pushE_14 rfl ?_
  refine r_getI dX12_pushE_15 fl_12_292 sh_413 rfl hf (fun v5 hf => ?_)
  refine r_loc dX12_pushE_18 rfl ?_
  refine r_iast dX12_pushE_19 sh_435 hf (fun h6 e8 hf => ?_)
  have T7 := tp_eq e8 T3
  refine r_loc dX12_pushE_20 rfl ?_
  refine r_alu dX12_pushE_21 rfl ?_
  refine r_getI dX12_pushE_22 fl_12_292 sh_413 rfl hf (fun v9 hf => ?_)
  refine r_iconst (v := 1) dX12_pushE_25 rfl ?_
  refine r_alu dX12_pushE_26 rfl ?_
  refine r_putI dX12_pushE_27 fl_12_292 sh_413 ⟨rfl, rfl⟩ hf (fun h10 e12 hf => ?_)
  have T11 := tp_eq e12 T7
  cases hf
  exact r_ret T11 dX12_pushE_30 rfl
def f_X12_isWord (x1 : Int64) (h : am_H) : Option (Int32) := bnd (h.1 413 8) fun v1 => if v1 = 3 then bnd (h.2.1 413 10) fun v2 => if (lg_cmp v2 x1) = 0 then some 1 else some 0 else some 0
theorem rf_X12_isWord {X : am_X} {d : Nat} (hd : 0 ≤ d) (x1 : Int64) {h : am_H} (T : am_TP h.2.2) {r : Int32} (hf : f_X12_isWord x1 h = some r) : am_G X d 12 false cX12_isWord (some .boolean) 0 [some (.ref 413), some (.long x1), none] [] (am_SH, h) (some (.int r), (am_SH, h)) := by
  unfold f_X12_isWord at hf
  refine r_loc dX12_isWord_0 rfl ?_
  refine r_getI dX12_isWord_1 fl_12_186 sh_413 rfl hf (fun v1 hf => ?_)
  refine r_iconst (v := 3) dX12_isWord_4 rfl ?_
  refine r_ne (q := 21) dX12_isWord_5 rfl hf (fun hf => ?_) (fun hf => ?_)
  · refine r_iconst (v := 0) dX12_isWord_21 rfl ?_
    cases hf
    exact r_z0 T dX12_isWord_22
  · refine r_loc dX12_isWord_8 rfl ?_
    refine r_getL dX12_isWord_9 fl_12_193 sh_413 rfl hf (fun v2 hf => ?_)
    refine r_loc dX12_isWord_12 rfl ?_
    refine r_alu dX12_isWord_13 rfl ?_
    refine r_ne0 (q := 21) dX12_isWord_14 rfl hf (fun hf => ?_) (fun hf => ?_)
    · refine r_iconst (v := 0) dX12_isWord_21 rfl ?_
      cases hf
      exact r_z0 T dX12_isWord_22
    · refine r_iconst (v := 1) dX12_isWord_17 rfl ?_
      refine r_goto (q := 22) dX12_isWord_18 rfl ?_
      cases hf
      exact r_z1 T dX12_isWord_22
def f_X12_rankHere  (h : am_H) : Option (Int32) := cal (f_X12_isWord 6385252 h) fun v2 => if v2 = 0 then cal (f_X12_isWord 28530 h) fun v5 => if v5 = 0 then cal (f_X12_isSignHere 60 h) fun v8 => if v8 = 0 then cal (f_X12_isSignHere 62 h) fun v11 => if v11 = 0 then cal (f_X12_isSignHere 61 h) fun v14 => if v14 = 0 then cal (f_X12_isSignHere 43 h) fun v17 => if v17 = 0 then cal (f_X12_isSignHere 45 h) fun v20 => if v20 = 0 then cal (f_X12_isSignHere 42 h) fun v23 => if v23 = 0 then cal (f_X12_isSignHere 47 h) fun v26 => if v26 = 0 then cal (f_X12_isSignHere 37 h) fun v29 => if v29 = 0 then some 0 else some 6 else some 6 else some 6 else some 5 else some 5 else some 4 else some 4 else some 4 else some 1 else some 2
theorem rf_X12_rankHere {X : am_X} {d : Nat} (hd : 2 ≤ d)  {h : am_H} (T : am_TP h.2.2) {r : Int32} (hf : f_X12_rankHere  h = some r) : am_G X d 12 false cX12_rankHere (some .int) 0 [some (.ref 413)] [] (am_SH, h) (some (.int r), (am_SH, h)) := by
  unfold f_X12_rankHere at hf
  obtain ⟨d, rfl⟩ : ∃ e, d = e + 1 := ⟨d - 1, by omega⟩
  refine r_loc dX12_rankHere_0 rfl ?_
  refine r_ldc2 dX12_rankHere_1 k64_12_172 ?_
  obtain ⟨v2, c1, hf⟩ := cal_inv hf
  have g3 := rf_X12_isWord (X := X) (d := d) (by omega) 6385252 T c1
  refine r_virt (pre := [.long 6385252]) (rest := []) dX12_rankHere_4 ct_12_224 rfl (sh_413) (Nat.le_of_ble_eq_true rfl) (Nat.le_of_ble_eq_true rfl) g3 ?_
  refine r_eq0 (q := 12) dX12_rankHere_7 rfl hf (fun hf => ?_) (fun hf => ?_)
  · refine r_loc dX12_rankHere_12 rfl ?_
    refine r_ldc2 dX12_rankHere_13 k64_12_170 ?_
    obtain ⟨v5, c4, hf⟩ := cal_inv hf
    have g6 := rf_X12_isWord (X := X) (d := d) (by omega) 28530 T c4
    refine r_virt (pre := [.long 28530]) (rest := []) dX12_rankHere_16 ct_12_224 rfl (sh_413) (Nat.le_of_ble_eq_true rfl) (Nat.le_of_ble_eq_true rfl) g6 ?_
    refine r_eq0 (q := 24) dX12_rankHere_19 rfl hf (fun hf => ?_) (fun hf => ?_)
    · refine r_loc dX12_rankHere_24 rfl ?_
      refine r_bipush (v := 60) dX12_rankHere_25 rfl ?_
      obtain ⟨v8, c7, hf⟩ := cal_inv hf
      have g9 := rf_X12_isSignHere (X := X) (d := d) (by omega) 60 T c7
      refine r_virt (pre := [.int 60]) (rest := []) dX12_rankHere_27 ct_12_279 rfl (sh_413) (Nat.le_of_ble_eq_true rfl) (Nat.le_of_ble_eq_true rfl) g9 ?_
      refine r_ne0 (q := 51) dX12_rankHere_30 rfl hf (fun hf => ?_) (fun hf => ?_)
      · refine r_iconst (v := 4) dX12_rankHere_51 rfl ?_
        cases hf
        exact r_ri T dX12_rankHere_52
      · refine r_loc dX12_rankHere_33 rfl ?_
        refine r_bipush (v := 62) dX12_rankHere_34 rfl ?_
        obtain ⟨v11, c10, hf⟩ := cal_inv hf
        have g12 := rf_X12_isSignHere (X := X) (d := d) (by omega) 62 T c10
        refine r_virt (pre := [.int 62]) (rest := []) dX12_rankHere_36 ct_12_279 rfl (sh_413) (Nat.le_of_ble_eq_true rfl) (Nat.le_of_ble_eq_true rfl) g12 ?_
        refine r_ne0 (q := 51) dX12_rankHere_39 rfl hf (fun hf => ?_) (fun hf => ?_)
        · refine r_iconst (v := 4) dX12_rankHere_51 rfl ?_
          cases hf
          exact r_ri T dX12_rankHere_52
        · refine r_loc dX12_rankHere_42 rfl ?_
          refine r_bipush (v := 61) dX12_rankHere_43 rfl ?_
          obtain ⟨v14, c13, hf⟩ := cal_inv hf
          have g15 := rf_X12_isSignHere (X := X) (d := d) (by omega) 61 T c13
          refine r_virt (pre := [.int 61]) (rest := []) dX12_rankHere_45 ct_12_279 rfl (sh_413) (Nat.le_of_ble_eq_true rfl) (Nat.le_of_ble_eq_true rfl) g15 ?_
          refine r_eq0 (q := 53) dX12_rankHere_48 rfl hf (fun hf => ?_) (fun hf => ?_)
          · refine r_loc dX12_rankHere_53 rfl ?_
            refine r_bipush (v := 43) dX12_rankHere_54 rfl ?_
            obtain ⟨v17, c16, hf⟩ := cal_inv hf
            have g18 := rf_X12_isSignHere (X := X) (d := d) (by omega) 43 T c16
            refine r_virt (pre := [.int 43]) (rest := []) dX12_rankHere_56 ct_12_279 rfl (sh_413) (Nat.le_of_ble_eq_true rfl) (Nat.le_of_ble_eq_true rfl) g18 ?_
            refine r_ne0 (q := 71) dX12_rankHere_59 rfl hf (fun hf => ?_) (fun hf => ?_)
            · refine r_iconst (v := 5) dX12_rankHere_71 rfl ?_
              cases hf
              exact r_ri T dX12_rankHere_72
            · refine r_loc dX12_rankHere_62 rfl ?_
              refine r_bipush (v := 45) dX12_rankHere_63 rfl ?_
              obtain ⟨v20, c19, hf⟩ := cal_inv hf
              have g21 := rf_X12_isSignHere (X := X) (d := d) (by omega) 45 T c19
              refine r_virt (pre := [.int 45]) (rest := []) dX12_rankHere_65 ct_12_279 rfl (sh_413) (Nat.le_of_ble_eq_true rfl) (Nat.le_of_ble_eq_true rfl) g21 ?_
              refine r_eq0 (q := 73) dX12_rankHere_68 rfl hf (fun hf => ?_) (fun hf => ?_)
              · refine r_loc dX12_rankHere_73 rfl ?_
                refine r_bipush (v := 42) dX12_rankHere_74 rfl ?_
                obtain ⟨v23, c22, hf⟩ := cal_inv hf
                have g24 := rf_X12_isSignHere (X := X) (d := d) (by omega) 42 T c22
                refine r_virt (pre := [.int 42]) (rest := []) dX12_rankHere_76 ct_12_279 rfl (sh_413) (Nat.le_of_ble_eq_true rfl) (Nat.le_of_ble_eq_true rfl) g24 ?_
                refine r_ne0 (q := 100) dX12_rankHere_79 rfl hf (fun hf => ?_) (fun hf => ?_)
                · refine r_bipush (v := 6) dX12_rankHere_100 rfl ?_
                  refine r_goto (q := 106) dX12_rankHere_102 rfl ?_
                  cases hf
                  exact r_ri T dX12_rankHere_106
                · refine r_loc dX12_rankHere_82 rfl ?_
                  refine r_bipush (v := 47) dX12_rankHere_83 rfl ?_
                  obtain ⟨v26, c25, hf⟩ := cal_inv hf
                  have g27 := rf_X12_isSignHere (X := X) (d := d) (by omega) 47 T c25
                  refine r_virt (pre := [.int 47]) (rest := []) dX12_rankHere_85 ct_12_279 rfl (sh_413) (Nat.le_of_ble_eq_true rfl) (Nat.le_of_ble_eq_true rfl) g27 ?_
                  refine r_ne0 (q := 100) dX12_rankHere_88 rfl hf (fun hf => ?_) (fun hf => ?_)
                  · refine r_bipush (v := 6) dX12_rankHere_100 rfl ?_
                    refine r_goto (q := 106) dX12_rankHere_102 rfl ?_
                    cases hf
                    exact r_ri T dX12_rankHere_106
                  · refine r_loc dX12_rankHere_91 rfl ?_
                    refine r_bipush (v := 37) dX12_rankHere_92 rfl ?_
                    obtain ⟨v29, c28, hf⟩ := cal_inv hf
                    have g30 := rf_X12_isSignHere (X := X) (d := d) (by omega) 37 T c28
                    refine r_virt (pre := [.int 37]) (rest := []) dX12_rankHere_94 ct_12_279 rfl (sh_413) (Nat.le_of_ble_eq_true rfl) (Nat.le_of_ble_eq_true rfl) g30 ?_
                    refine r_eq0 (q := 105) dX12_rankHere_97 rfl hf (fun hf => ?_) (fun hf => ?_)
                    · refine r_iconst (v := 0) dX12_rankHere_105 rfl ?_
                      cases hf
                      exact r_ri T dX12_rankHere_106
                    · refine r_bipush (v := 6) dX12_rankHere_100 rfl ?_
                      refine r_goto (q := 106) dX12_rankHere_102 rfl ?_
                      cases hf
                      exact r_ri T dX12_rankHere_106
              · refine r_iconst (v := 5) dX12_rankHere_71 rfl ?_
                cases hf
                exact r_ri T dX12_rankHere_72
          · refine r_iconst (v := 4) dX12_rankHere_51 rfl ?_
            cases hf
            exact r_ri T dX12_rankHere_52
    · refine r_iconst (v := 1) dX12_rankHere_22 rfl ?_
      cases hf
      exact r_ri T dX12_rankHere_23
  · refine r_iconst (v := 2) dX12_rankHere_10 rfl ?_
    cases hf
    exact r_ri T dX12_rankHere_11
def f_X12_emit (x1 : Int32) (x2 : Int32) (h : am_H) : Option (am_H) := bnd (h.1 413 34) fun v1 => wrI h 432 1120 v1 x1 fun h2 => bnd (h2.1 413 34) fun v5 => wrI h2 433 1120 v5 x2 fun h6 => bnd (h6.1 413 34) fun v9 => ptI h6 413 34 (v9 + 1) fun h10 => some h10
theorem rf_X12_emit {X : am_X} {d : Nat} (hd : 0 ≤ d) (x1 : Int32) (x2 : Int32) {h : am_H} (T : am_TP h.2.2) {r : am_H} (hf : f_X12_emit x1 x2 h = some r) : am_G X d 12 false cX12_emit none 0 [some (.ref 413), some (.int x1), some (.int x2)] [] (am_SH, h) (none, (am_SH, r)) := by
  unfold f_X12_emit at hf
  refine r_loc dX12_emit_0 rfl ?_
  refine r_getR dX12_emit_1 fl_12_70 sh_413 (Or.inr ⟨_, rfl⟩) (tp_413_27 T) ?_
  refine r_loc dX12_emit_4 rfl ?_
  refine r_getI dX12_emit_5 fl_12_238 sh_413 rfl hf (fun v1 hf => ?_)
  refine r_loc dX12_emit_8 rfl ?_
  refine r_iast dX12_emit_9 sh_432 hf (fun h2 e4 hf => ?_)
  have T3 := tp_eq e4 T
  refine r_loc dX12_emit_10 rfl ?_
  refine r_getR dX12_emit_11 fl_12_73 sh_413 (Or.inr ⟨_, rfl⟩) (tp_413_28 T3) ?_
  refine r_loc dX12_emit_14 rfl ?_
  refine r_getI dX12_emit_15 fl_12_238 sh_413 rfl hf (fun v5 hf => ?_)
  refine r_loc dX12_emit_18 rfl ?_
  refine r_iast dX12_emit_19 sh_433 hf (fun h6 e8 hf => ?_)
  have T7 := tp_eq e8 T3
  refine r_loc dX12_emit_20 rfl ?_
  refine r_alu dX12_emit_21 rfl ?_
  refine r_getI dX12_emit_22 fl_12_238 sh_413 rfl hf (fun v9 hf => ?_)
  refine r_iconst (v := 1) dX12_emit_25 rfl ?_
  refine r_alu dX12_emit_26 rfl ?_
  refine r_putI dX12_emit_27 fl_12_238 sh_413 ⟨rfl, rfl⟩ hf (fun h10 e12 hf => ?_)
  have T11 := tp_eq e12 T7
  cases hf
  exact r_ret T11 dX12_emit_30 rfl
def lp_X12_isCompared_7 (h : am_H) (k_34 : Int32 → Option (Int32)) : Nat → Int32 → Option (Int32)
  | 0, _ => none
  | n + 1, x1 => rdI h 434 90 x1 fun v2 => if v2 = 5 then lp_X12_isCompared_7 h k_34 n (x1 + (-1)) else rdI h 434 90 x1 fun v3 => if v3 = 6 then lp_X12_isCompared_7 h k_34 n (x1 + (-1)) else k_34 x1
def f_X12_isCompared  (h : am_H) : Option (Int32) := bnd (h.1 413 36) fun v1 => lp_X12_isCompared_7 h (fun z4 => rdI h 434 90 z4 fun v5 => if v5 = 4 then some 1 else some 0) 4000 (v1 - 1)
theorem rl_X12_isCompared_7 {X : am_X} {d : Nat} (hd : 0 ≤ d) {h : am_H} (T : am_TP h.2.2) (k_34 : Int32 → Option (Int32)) {r : Int32} (hk_34 : ∀ (z1 : Int32) , k_34 z1 = some r → am_G X d 12 false cX12_isCompared (some .boolean) 34 [some (.ref 413), some (.int z1)] [] (am_SH, h) (some (.int r), (am_SH, h))) : ∀ (n : Nat) (x1 : Int32) , lp_X12_isCompared_7 h k_34 n x1 = some r → am_G X d 12 false cX12_isCompared (some .boolean) 7 [some (.ref 413), some (.int x1)] [] (am_SH, h) (some (.int r), (am_SH, h)) := by
  intro n
  induction n with
  | zero => intro x1 hf; cases hf
  | succ n ih =>
    intro x1 hf
    rw [lp_X12_isCompared_7] at hf
    refine r_loc dX12_isCompared_7 rfl ?_
    refine r_getR dX12_isCompared_8 fl_12_76 sh_413 (Or.inr ⟨_, rfl⟩) (tp_413_29 T) ?_
    refine r_loc dX12_isCompared_11 rfl ?_
    refine r_iald dX12_isCompared_12 sh_434 hf (fun v2 hf => ?_)
    refine r_iconst (v := 5) dX12_isCompared_13 rfl ?_
    refine r_eq (q := 28) dX12_isCompared_14 rfl hf (fun hf => ?_) (fun hf => ?_)
    · refine r_loc (L' := [some (.ref 413), some (.int (x1 + (-1)))]) dX12_isCompared_28 rfl ?_
      refine r_goto (q := 7) dX12_isCompared_31 rfl ?_
      exact ih (x1 + (-1)) hf
    · refine r_loc dX12_isCompared_17 rfl ?_
      refine r_getR dX12_isCompared_18 fl_12_76 sh_413 (Or.inr ⟨_, rfl⟩) (tp_413_29 T) ?_
      refine r_loc dX12_isCompared_21 rfl ?_
      refine r_iald dX12_isCompared_22 sh_434 hf (fun v3 hf => ?_)
      refine r_bipush (v := 6) dX12_isCompared_23 rfl ?_
      refine r_ne (q := 34) dX12_isCompared_25 rfl hf (fun hf => ?_) (fun hf => ?_)
      · exact hk_34 x1 hf
      · refine r_loc (L' := [some (.ref 413), some (.int (x1 + (-1)))]) dX12_isCompared_28 rfl ?_
        refine r_goto (q := 7) dX12_isCompared_31 rfl ?_
        exact ih (x1 + (-1)) hf
theorem rf_X12_isCompared {X : am_X} {d : Nat} (hd : 0 ≤ d)  {h : am_H} (T : am_TP h.2.2) {r : Int32} (hf : f_X12_isCompared  h = some r) : am_G X d 12 false cX12_isCompared (some .boolean) 0 [some (.ref 413), none] [] (am_SH, h) (some (.int r), (am_SH, h)) := by
  unfold f_X12_isCompared at hf
  refine r_loc dX12_isCompared_0 rfl ?_
  refine r_getI dX12_isCompared_1 fl_12_292 sh_413 rfl hf (fun v1 hf => ?_)
  refine r_iconst (v := 1) dX12_isCompared_4 rfl ?_
  refine r_alu dX12_isCompared_5 rfl ?_
  refine r_loc (L' := [some (.ref 413), some (.int (v1 - 1))]) dX12_isCompared_6 rfl ?_
  refine rl_X12_isCompared_7 (by omega) T _ ?_ 4000 (v1 - 1)  hf
  · intro z4 hf
    refine r_loc dX12_isCompared_34 rfl ?_
    refine r_getR dX12_isCompared_35 fl_12_76 sh_413 (Or.inr ⟨_, rfl⟩) (tp_413_29 T) ?_
    refine r_loc dX12_isCompared_38 rfl ?_
    refine r_iald dX12_isCompared_39 sh_434 hf (fun v5 hf => ?_)
    refine r_iconst (v := 4) dX12_isCompared_40 rfl ?_
    refine r_ne (q := 48) dX12_isCompared_41 rfl hf (fun hf => ?_) (fun hf => ?_)
    · refine r_iconst (v := 0) dX12_isCompared_48 rfl ?_
      cases hf
      exact r_z0 T dX12_isCompared_49
    · refine r_iconst (v := 1) dX12_isCompared_44 rfl ?_
      refine r_goto (q := 49) dX12_isCompared_45 rfl ?_
      cases hf
      exact r_z1 T dX12_isCompared_49
def jn_X12_behindUnit_87 (k_23 : am_H → Option (Int32 × am_H)) (x1 : Int32) (h : am_H) : Option (Int32 × am_H) := bnd (h.1 413 36) fun v14 => rdI h 435 90 v14 fun v15 => cal (f_X12_emit v15 0 h) fun h17 => k_23  h17
def lp_X12_behindUnit_23 (p1 : Int32) (k_104 : am_H → Option (Int32 × am_H)) : Nat → am_H → Option (Int32 × am_H)
  | 0, _ => none
  | n + 1, h => bnd (h.1 413 36) fun v4 => rdI h 434 90 (v4 - 1) fun v5 => if 6 < v5 then k_104  h else bnd (h.1 413 36) fun v6 => rdI h 434 90 (v6 - 1) fun v7 => if v7 < p1 then k_104  h else bnd (h.1 413 36) fun v8 => ptI h 413 36 (v8 - 1) fun h9 => bnd (h9.1 413 36) fun v12 => rdI h9 434 90 v12 fun v13 => if v13 = 3 then bnd (h9.1 413 35) fun v20 => ptI h9 413 35 (v20 - 1) fun h21 => jn_X12_behindUnit_87 (lp_X12_behindUnit_23 p1 k_104 n) p1 h21 else jn_X12_behindUnit_87 (lp_X12_behindUnit_23 p1 k_104 n) p1 h9
def jn_X12_behindUnit_104 (x1 : Int32) (h : am_H) : Option (Int32 × am_H) := if 0 < x1 then if x1 = 2 then cal (f_X12_pushE x1 38 h) fun h64 => cal (f_X12_goOn h64) fun h68 => some (1, h68) else if x1 = 1 then cal (f_X12_pushE x1 124 h) fun h56 => cal (f_X12_goOn h56) fun h60 => some (1, h60) else bnd (h.1 413 6) fun v43 => cal (f_X12_sign v43 h) fun v45 => cal (f_X12_pushE x1 v45 h) fun h48 => cal (f_X12_goOn h48) fun h52 => some (1, h52) else bnd (h.1 413 36) fun v26 => ptI h 413 36 (v26 - 1) fun h27 => bnd (h27.1 413 36) fun v30 => rdI h27 434 90 v30 fun v31 => if v31 = 7 then bnd (h27.1 413 35) fun v32 => ptI h27 413 35 (v32 - 1) fun h33 => cal (f_X12_isSignHere 41 h33) fun v37 => cal (f_X12_must v37 h33) fun h40 => some (0, h40) else some (0, h27)
def f_X12_behindUnit  (h : am_H) : Option (Int32 × am_H) := cal (f_X12_rankHere h) fun v2 => if v2 = 4 then cal (f_X12_isCompared h) fun v72 => if v72 = 0 then lp_X12_behindUnit_23 v2 (fun h74 => jn_X12_behindUnit_104 v2 h74) 4000  h else cal (f_X12_misplaced h) fun h77 => some (1, h77) else lp_X12_behindUnit_23 v2 (fun h24 => jn_X12_behindUnit_104 v2 h24) 4000  h
theorem rj_X12_behindUnit_87 {X : am_X} {d : Nat} (hd : 3 ≤ d) (k_23 : am_H → Option (Int32 × am_H)) (x1 : Int32) {h : am_H} (T : am_TP h.2.2) {r : Int32 × am_H} (hk_23 : ∀ (h : am_H), am_TP h.2.2 → k_23  h = some r → am_G X d 12 false cX12_behindUnit (some .boolean) 23 [some (.ref 413), some (.int x1)] [] (am_SH, h) (some (.int r.1), (am_SH, r.2))) (hf : jn_X12_behindUnit_87 k_23 x1 h = some r) : am_G X d 12 false cX12_behindUnit (some .boolean) 87 [some (.ref 413), some (.int x1)] [] (am_SH, h) (some (.int r.1), (am_SH, r.2)) := by
  obtain ⟨d, rfl⟩ : ∃ e, d = e + 1 := ⟨d - 1, by omega⟩
  unfold jn_X12_behindUnit_87 at hf
  refine r_loc dX12_behindUnit_87 rfl ?_
  refine r_loc dX12_behindUnit_88 rfl ?_
  refine r_getR dX12_behindUnit_89 fl_12_79 sh_413 (Or.inr ⟨_, rfl⟩) (tp_413_30 T) ?_
  refine r_loc dX12_behindUnit_92 rfl ?_
  refine r_getI dX12_behindUnit_93 fl_12_292 sh_413 rfl hf (fun v14 hf => ?_)
  refine r_iald dX12_behindUnit_96 sh_435 hf (fun v15 hf => ?_)
  refine r_iconst (v := 0) dX12_behindUnit_97 rfl ?_
  obtain ⟨h17, c16, hf⟩ := cal_inv hf
  have g19 := rf_X12_emit (X := X) (d := d) (by omega) v15 0 T c16
  have T18 : am_TP h17.2.2 := g19.2
  refine r_virt (pre := [.int 0, .int v15]) (rest := []) dX12_behindUnit_98 ct_12_310 rfl (sh_413) (Nat.le_of_ble_eq_true rfl) (Nat.le_of_ble_eq_true rfl) g19 ?_
  refine r_goto (q := 23) dX12_behindUnit_101 rfl ?_
  exact hk_23  h17 T18 hf
theorem rl_X12_behindUnit_23 {X : am_X} {d : Nat} (hd : 3 ≤ d) (p1 : Int32) (k_104 : am_H → Option (Int32 × am_H)) {r : Int32 × am_H} (hk_104 : ∀ (h : am_H), am_TP h.2.2 → k_104  h = some r → am_G X d 12 false cX12_behindUnit (some .boolean) 104 [some (.ref 413), some (.int p1)] [] (am_SH, h) (some (.int r.1), (am_SH, r.2))) : ∀ (n : Nat) (h : am_H), am_TP h.2.2 → lp_X12_behindUnit_23 p1 k_104 n h = some r → am_G X d 12 false cX12_behindUnit (some .boolean) 23 [some (.ref 413), some (.int p1)] [] (am_SH, h) (some (.int r.1), (am_SH, r.2)) := by
  obtain ⟨d, rfl⟩ : ∃ e, d = e + 1 := ⟨d - 1, by omega⟩
  intro n
  induction n with
  | zero => intro h T hf; cases hf
  | succ n ih =>
    intro h T hf
    rw [lp_X12_behindUnit_23] at hf
    refine r_loc dX12_behindUnit_23 rfl ?_
    refine r_getR dX12_behindUnit_24 fl_12_76 sh_413 (Or.inr ⟨_, rfl⟩) (tp_413_29 T) ?_
    refine r_loc dX12_behindUnit_27 rfl ?_
    refine r_getI dX12_behindUnit_28 fl_12_292 sh_413 rfl hf (fun v4 hf => ?_)
    refine r_iconst (v := 1) dX12_behindUnit_31 rfl ?_
    refine r_alu dX12_behindUnit_32 rfl ?_
    refine r_iald dX12_behindUnit_33 sh_434 hf (fun v5 hf => ?_)
    refine r_bipush (v := 6) dX12_behindUnit_34 rfl ?_
    refine r_gt (q := 104) dX12_behindUnit_36 rfl hf (fun hf => ?_) (fun hf => ?_)
    · exact hk_104  h T hf
    · refine r_loc dX12_behindUnit_39 rfl ?_
      refine r_getR dX12_behindUnit_40 fl_12_76 sh_413 (Or.inr ⟨_, rfl⟩) (tp_413_29 T) ?_
      refine r_loc dX12_behindUnit_43 rfl ?_
      refine r_getI dX12_behindUnit_44 fl_12_292 sh_413 rfl hf (fun v6 hf => ?_)
      refine r_iconst (v := 1) dX12_behindUnit_47 rfl ?_
      refine r_alu dX12_behindUnit_48 rfl ?_
      refine r_iald dX12_behindUnit_49 sh_434 hf (fun v7 hf => ?_)
      refine r_loc dX12_behindUnit_50 rfl ?_
      refine r_lt (q := 104) dX12_behindUnit_51 rfl hf (fun hf => ?_) (fun hf => ?_)
      · exact hk_104  h T hf
      · refine r_loc dX12_behindUnit_54 rfl ?_
        refine r_alu dX12_behindUnit_55 rfl ?_
        refine r_getI dX12_behindUnit_56 fl_12_292 sh_413 rfl hf (fun v8 hf => ?_)
        refine r_iconst (v := 1) dX12_behindUnit_59 rfl ?_
        refine r_alu dX12_behindUnit_60 rfl ?_
        refine r_putI dX12_behindUnit_61 fl_12_292 sh_413 ⟨rfl, rfl⟩ hf (fun h9 e11 hf => ?_)
        have T10 := tp_eq e11 T
        refine r_loc dX12_behindUnit_64 rfl ?_
        refine r_getR dX12_behindUnit_65 fl_12_76 sh_413 (Or.inr ⟨_, rfl⟩) (tp_413_29 T10) ?_
        refine r_loc dX12_behindUnit_68 rfl ?_
        refine r_getI dX12_behindUnit_69 fl_12_292 sh_413 rfl hf (fun v12 hf => ?_)
        refine r_iald dX12_behindUnit_72 sh_434 hf (fun v13 hf => ?_)
        refine r_iconst (v := 3) dX12_behindUnit_73 rfl ?_
        refine r_ne (q := 87) dX12_behindUnit_74 rfl hf (fun hf => ?_) (fun hf => ?_)
        · exact rj_X12_behindUnit_87 (by omega) (lp_X12_behindUnit_23 p1 k_104 n) p1 T10 (ih) hf
        · refine r_loc dX12_behindUnit_77 rfl ?_
          refine r_alu dX12_behindUnit_78 rfl ?_
          refine r_getI dX12_behindUnit_79 fl_12_295 sh_413 rfl hf (fun v20 hf => ?_)
          refine r_iconst (v := 1) dX12_behindUnit_82 rfl ?_
          refine r_alu dX12_behindUnit_83 rfl ?_
          refine r_putI dX12_behindUnit_84 fl_12_295 sh_413 ⟨rfl, rfl⟩ hf (fun h21 e23 hf => ?_)
          have T22 := tp_eq e23 T10
          exact rj_X12_behindUnit_87 (by omega) (lp_X12_behindUnit_23 p1 k_104 n) p1 T22 (ih) hf
theorem rj_X12_behindUnit_104 {X : am_X} {d : Nat} (hd : 3 ≤ d) (x1 : Int32) {h : am_H} (T : am_TP h.2.2) {r : Int32 × am_H} (hf : jn_X12_behindUnit_104 x1 h = some r) : am_G X d 12 false cX12_behindUnit (some .boolean) 104 [some (.ref 413), some (.int x1)] [] (am_SH, h) (some (.int r.1), (am_SH, r.2)) := by
  obtain ⟨d, rfl⟩ : ∃ e, d = e + 1 := ⟨d - 1, by omega⟩
  unfold jn_X12_behindUnit_104 at hf
  refine r_loc dX12_behindUnit_104 rfl ?_
  refine r_le0 (q := 147) dX12_behindUnit_105 rfl hf (fun hf => ?_) (fun hf => ?_)
  · refine r_loc dX12_behindUnit_147 rfl ?_
    refine r_alu dX12_behindUnit_148 rfl ?_
    refine r_getI dX12_behindUnit_149 fl_12_292 sh_413 rfl hf (fun v26 hf => ?_)
    refine r_iconst (v := 1) dX12_behindUnit_152 rfl ?_
    refine r_alu dX12_behindUnit_153 rfl ?_
    refine r_putI dX12_behindUnit_154 fl_12_292 sh_413 ⟨rfl, rfl⟩ hf (fun h27 e29 hf => ?_)
    have T28 := tp_eq e29 T
    refine r_loc dX12_behindUnit_157 rfl ?_
    refine r_getR dX12_behindUnit_158 fl_12_76 sh_413 (Or.inr ⟨_, rfl⟩) (tp_413_29 T28) ?_
    refine r_loc dX12_behindUnit_161 rfl ?_
    refine r_getI dX12_behindUnit_162 fl_12_292 sh_413 rfl hf (fun v30 hf => ?_)
    refine r_iald dX12_behindUnit_165 sh_434 hf (fun v31 hf => ?_)
    refine r_bipush (v := 7) dX12_behindUnit_166 rfl ?_
    refine r_ne (q := 191) dX12_behindUnit_168 rfl hf (fun hf => ?_) (fun hf => ?_)
    · refine r_iconst (v := 0) dX12_behindUnit_191 rfl ?_
      cases hf
      exact r_z0 T28 dX12_behindUnit_192
    · refine r_loc dX12_behindUnit_171 rfl ?_
      refine r_alu dX12_behindUnit_172 rfl ?_
      refine r_getI dX12_behindUnit_173 fl_12_295 sh_413 rfl hf (fun v32 hf => ?_)
      refine r_iconst (v := 1) dX12_behindUnit_176 rfl ?_
      refine r_alu dX12_behindUnit_177 rfl ?_
      refine r_putI dX12_behindUnit_178 fl_12_295 sh_413 ⟨rfl, rfl⟩ hf (fun h33 e35 hf => ?_)
      have T34 := tp_eq e35 T28
      refine r_loc dX12_behindUnit_181 rfl ?_
      refine r_loc dX12_behindUnit_182 rfl ?_
      refine r_bipush (v := 41) dX12_behindUnit_183 rfl ?_
      obtain ⟨v37, c36, hf⟩ := cal_inv hf
      have g38 := rf_X12_isSignHere (X := X) (d := d) (by omega) 41 T34 c36
      refine r_virt (pre := [.int 41]) (rest := [.ref 413]) dX12_behindUnit_185 ct_12_279 rfl (sh_413) (Nat.le_of_ble_eq_true rfl) (Nat.le_of_ble_eq_true rfl) g38 ?_
      obtain ⟨h40, c39, hf⟩ := cal_inv hf
      have g42 := rf_X12_must (X := X) (d := d) (by omega) v37 T34 c39
      have T41 : am_TP h40.2.2 := g42.2
      refine r_virt (pre := [.int v37]) (rest := []) dX12_behindUnit_188 ct_12_227 rfl (sh_413) (Nat.le_of_ble_eq_true rfl) (Nat.le_of_ble_eq_true rfl) g42 ?_
      refine r_iconst (v := 0) dX12_behindUnit_191 rfl ?_
      cases hf
      exact r_z0 T41 dX12_behindUnit_192
  · refine r_loc dX12_behindUnit_108 rfl ?_
    refine r_loc dX12_behindUnit_109 rfl ?_
    refine r_loc dX12_behindUnit_110 rfl ?_
    refine r_iconst (v := 2) dX12_behindUnit_111 rfl ?_
    refine r_ne (q := 120) dX12_behindUnit_112 rfl hf (fun hf => ?_) (fun hf => ?_)
    · refine r_loc dX12_behindUnit_120 rfl ?_
      refine r_iconst (v := 1) dX12_behindUnit_121 rfl ?_
      refine r_ne (q := 130) dX12_behindUnit_122 rfl hf (fun hf => ?_) (fun hf => ?_)
      · refine r_loc dX12_behindUnit_130 rfl ?_
        refine r_loc dX12_behindUnit_131 rfl ?_
        refine r_getI dX12_behindUnit_132 fl_12_179 sh_413 rfl hf (fun v43 hf => ?_)
        obtain ⟨v45, c44, hf⟩ := cal_inv hf
        have g46 := rf_X12_sign (X := X) (d := d) (by omega) v43 T c44
        refine r_virt (pre := [.int v43]) (rest := [.int x1, .ref 413]) dX12_behindUnit_135 ct_12_182 rfl (sh_413) (Nat.le_of_ble_eq_true rfl) (Nat.le_of_ble_eq_true rfl) g46 ?_
        obtain ⟨h48, c47, hf⟩ := cal_inv hf
        have g50 := rf_X12_pushE (X := X) (d := d) (by omega) x1 v45 T c47
        have T49 : am_TP h48.2.2 := g50.2
        refine r_virt (pre := [.int v45, .int x1]) (rest := []) dX12_behindUnit_138 ct_12_298 rfl (sh_413) (Nat.le_of_ble_eq_true rfl) (Nat.le_of_ble_eq_true rfl) g50 ?_
        refine r_loc dX12_behindUnit_141 rfl ?_
        obtain ⟨h52, c51, hf⟩ := cal_inv hf
        have g54 := rf_X12_goOn (X := X) (d := d) (by omega) T49 c51
        have T53 : am_TP h52.2.2 := g54.2
        refine r_virt (pre := []) (rest := []) dX12_behindUnit_142 ct_12_218 rfl (sh_413) (Nat.le_of_ble_eq_true rfl) (Nat.le_of_ble_eq_true rfl) g54 ?_
        refine r_iconst (v := 1) dX12_behindUnit_145 rfl ?_
        cases hf
        exact r_z1 T53 dX12_behindUnit_146
      · refine r_bipush (v := 124) dX12_behindUnit_125 rfl ?_
        refine r_goto (q := 138) dX12_behindUnit_127 rfl ?_
        obtain ⟨h56, c55, hf⟩ := cal_inv hf
        have g58 := rf_X12_pushE (X := X) (d := d) (by omega) x1 124 T c55
        have T57 : am_TP h56.2.2 := g58.2
        refine r_virt (pre := [.int 124, .int x1]) (rest := []) dX12_behindUnit_138 ct_12_298 rfl (sh_413) (Nat.le_of_ble_eq_true rfl) (Nat.le_of_ble_eq_true rfl) g58 ?_
        refine r_loc dX12_behindUnit_141 rfl ?_
        obtain ⟨h60, c59, hf⟩ := cal_inv hf
        have g62 := rf_X12_goOn (X := X) (d := d) (by omega) T57 c59
        have T61 : am_TP h60.2.2 := g62.2
        refine r_virt (pre := []) (rest := []) dX12_behindUnit_142 ct_12_218 rfl (sh_413) (Nat.le_of_ble_eq_true rfl) (Nat.le_of_ble_eq_true rfl) g62 ?_
        refine r_iconst (v := 1) dX12_behindUnit_145 rfl ?_
        cases hf
        exact r_z1 T61 dX12_behindUnit_146
    · refine r_bipush (v := 38) dX12_behindUnit_115 rfl ?_
      refine r_goto (q := 138) dX12_behindUnit_117 rfl ?_
      obtain ⟨h64, c63, hf⟩ := cal_inv hf
      have g66 := rf_X12_pushE (X := X) (d := d) (by omega) x1 38 T c63
      have T65 : am_TP h64.2.2 := g66.2
      refine r_virt (pre := [.int 38, .int x1]) (rest := []) dX12_behindUnit_138 ct_12_298 rfl (sh_413) (Nat.le_of_ble_eq_true rfl) (Nat.le_of_ble_eq_true rfl) g66 ?_
      refine r_loc dX12_behindUnit_141 rfl ?_
      obtain ⟨h68, c67, hf⟩ := cal_inv hf
      have g70 := rf_X12_goOn (X := X) (d := d) (by omega) T65 c67
      have T69 : am_TP h68.2.2 := g70.2
      refine r_virt (pre := []) (rest := []) dX12_behindUnit_142 ct_12_218 rfl (sh_413) (Nat.le_of_ble_eq_true rfl) (Nat.le_of_ble_eq_true rfl) g70 ?_
      refine r_iconst (v := 1) dX12_behindUnit_145 rfl ?_
      cases hf
      exact r_z1 T69 dX12_behindUnit_146
theorem rf_X12_behindUnit {X : am_X} {d : Nat} (hd : 3 ≤ d)  {h : am_H} (T : am_TP h.2.2) {r : Int32 × am_H} (hf : f_X12_behindUnit  h = some r) : am_G X d 12 false cX12_behindUnit (some .boolean) 0 [some (.ref 413), none] [] (am_SH, h) (some (.int r.1), (am_SH, r.2)) := by
  unfold f_X12_behindUnit at hf
  obtain ⟨d, rfl⟩ : ∃ e, d = e + 1 := ⟨d - 1, by omega⟩
  refine r_loc dX12_behindUnit_0 rfl ?_
  obtain ⟨v2, c1, hf⟩ := cal_inv hf
  have g3 := rf_X12_rankHere (X := X) (d := d) (by omega) T c1
  refine r_virt (pre := []) (rest := []) dX12_behindUnit_1 ct_12_313 rfl (sh_413) (Nat.le_of_ble_eq_true rfl) (Nat.le_of_ble_eq_true rfl) g3 ?_
  refine r_loc (L' := [some (.ref 413), some (.int v2)]) dX12_behindUnit_4 rfl ?_
  refine r_loc dX12_behindUnit_5 rfl ?_
  refine r_iconst (v := 4) dX12_behindUnit_6 rfl ?_
  refine r_ne (q := 23) dX12_behindUnit_7 rfl hf (fun hf => ?_) (fun hf => ?_)
  · refine rl_X12_behindUnit_23 (by omega) v2 _ ?_ 4000  h T hf
    · intro h24 T25 hf
      exact rj_X12_behindUnit_104 (by omega) v2 T25 hf
  · refine r_loc dX12_behindUnit_10 rfl ?_
    obtain ⟨v72, c71, hf⟩ := cal_inv hf
    have g73 := rf_X12_isCompared (X := X) (d := d) (by omega) T c71
    refine r_virt (pre := []) (rest := []) dX12_behindUnit_11 ct_12_316 rfl (sh_413) (Nat.le_of_ble_eq_true rfl) (Nat.le_of_ble_eq_true rfl) g73 ?_
    refine r_eq0 (q := 23) dX12_behindUnit_14 rfl hf (fun hf => ?_) (fun hf => ?_)
    · refine rl_X12_behindUnit_23 (by omega) v2 _ ?_ 4000  h T hf
      · intro h74 T75 hf
        exact rj_X12_behindUnit_104 (by omega) v2 T75 hf
    · refine r_loc dX12_behindUnit_17 rfl ?_
      obtain ⟨h77, c76, hf⟩ := cal_inv hf
      have g79 := rf_X12_misplaced (X := X) (d := d) (by omega) T c76
      have T78 : am_TP h77.2.2 := g79.2
      refine r_virt (pre := []) (rest := []) dX12_behindUnit_18 ct_12_221 rfl (sh_413) (Nat.le_of_ble_eq_true rfl) (Nat.le_of_ble_eq_true rfl) g79 ?_
      refine r_iconst (v := 1) dX12_behindUnit_21 rfl ?_
      cases hf
      exact r_z1 T78 dX12_behindUnit_22
def f_X12_wordHere  (h : am_H) : Option (Int32) := cal (f_X12_isWord 1651862635 h) fun v2 => if v2 = 0 then cal (f_X12_isWord 418430675813 h) fun v5 => if v5 = 0 then cal (f_X12_isWord 1818584692 h) fun v8 => if v8 = 0 then cal (f_X12_isWord 1835101817 h) fun v11 => if v11 = 0 then cal (f_X12_isWord 2036687218 h) fun v14 => if v14 = 0 then some 0 else some 121 else some 109 else some 108 else some 97 else some 98
theorem rf_X12_wordHere {X : am_X} {d : Nat} (hd : 1 ≤ d)  {h : am_H} (T : am_TP h.2.2) {r : Int32} (hf : f_X12_wordHere  h = some r) : am_G X d 12 false cX12_wordHere (some .int) 0 [some (.ref 413)] [] (am_SH, h) (some (.int r), (am_SH, h)) := by
  unfold f_X12_wordHere at hf
  obtain ⟨d, rfl⟩ : ∃ e, d = e + 1 := ⟨d - 1, by omega⟩
  refine r_loc dX12_wordHere_0 rfl ?_
  refine r_ldc2 dX12_wordHere_1 k64_12_146 ?_
  obtain ⟨v2, c1, hf⟩ := cal_inv hf
  have g3 := rf_X12_isWord (X := X) (d := d) (by omega) 1651862635 T c1
  refine r_virt (pre := [.long 1651862635]) (rest := []) dX12_wordHere_4 ct_12_224 rfl (sh_413) (Nat.le_of_ble_eq_true rfl) (Nat.le_of_ble_eq_true rfl) g3 ?_
  refine r_eq0 (q := 13) dX12_wordHere_7 rfl hf (fun hf => ?_) (fun hf => ?_)
  · refine r_loc dX12_wordHere_13 rfl ?_
    refine r_ldc2 dX12_wordHere_14 k64_12_162 ?_
    obtain ⟨v5, c4, hf⟩ := cal_inv hf
    have g6 := rf_X12_isWord (X := X) (d := d) (by omega) 418430675813 T c4
    refine r_virt (pre := [.long 418430675813]) (rest := []) dX12_wordHere_17 ct_12_224 rfl (sh_413) (Nat.le_of_ble_eq_true rfl) (Nat.le_of_ble_eq_true rfl) g6 ?_
    refine r_eq0 (q := 26) dX12_wordHere_20 rfl hf (fun hf => ?_) (fun hf => ?_)
    · refine r_loc dX12_wordHere_26 rfl ?_
      refine r_ldc2 dX12_wordHere_27 k64_12_164 ?_
      obtain ⟨v8, c7, hf⟩ := cal_inv hf
      have g9 := rf_X12_isWord (X := X) (d := d) (by omega) 1818584692 T c7
      refine r_virt (pre := [.long 1818584692]) (rest := []) dX12_wordHere_30 ct_12_224 rfl (sh_413) (Nat.le_of_ble_eq_true rfl) (Nat.le_of_ble_eq_true rfl) g9 ?_
      refine r_eq0 (q := 39) dX12_wordHere_33 rfl hf (fun hf => ?_) (fun hf => ?_)
      · refine r_loc dX12_wordHere_39 rfl ?_
        refine r_ldc2 dX12_wordHere_40 k64_12_166 ?_
        obtain ⟨v11, c10, hf⟩ := cal_inv hf
        have g12 := rf_X12_isWord (X := X) (d := d) (by omega) 1835101817 T c10
        refine r_virt (pre := [.long 1835101817]) (rest := []) dX12_wordHere_43 ct_12_224 rfl (sh_413) (Nat.le_of_ble_eq_true rfl) (Nat.le_of_ble_eq_true rfl) g12 ?_
        refine r_eq0 (q := 52) dX12_wordHere_46 rfl hf (fun hf => ?_) (fun hf => ?_)
        · refine r_loc dX12_wordHere_52 rfl ?_
          refine r_ldc2 dX12_wordHere_53 k64_12_168 ?_
          obtain ⟨v14, c13, hf⟩ := cal_inv hf
          have g15 := rf_X12_isWord (X := X) (d := d) (by omega) 2036687218 T c13
          refine r_virt (pre := [.long 2036687218]) (rest := []) dX12_wordHere_56 ct_12_224 rfl (sh_413) (Nat.le_of_ble_eq_true rfl) (Nat.le_of_ble_eq_true rfl) g15 ?_
          refine r_eq0 (q := 67) dX12_wordHere_59 rfl hf (fun hf => ?_) (fun hf => ?_)
          · refine r_iconst (v := 0) dX12_wordHere_67 rfl ?_
            cases hf
            exact r_ri T dX12_wordHere_68
          · refine r_bipush (v := 121) dX12_wordHere_62 rfl ?_
            refine r_goto (q := 68) dX12_wordHere_64 rfl ?_
            cases hf
            exact r_ri T dX12_wordHere_68
        · refine r_bipush (v := 109) dX12_wordHere_49 rfl ?_
          cases hf
          exact r_ri T dX12_wordHere_51
      · refine r_bipush (v := 108) dX12_wordHere_36 rfl ?_
        cases hf
        exact r_ri T dX12_wordHere_38
    · refine r_bipush (v := 97) dX12_wordHere_23 rfl ?_
      cases hf
      exact r_ri T dX12_wordHere_25
  · refine r_bipush (v := 98) dX12_wordHere_10 rfl ?_
    cases hf
    exact r_ri T dX12_wordHere_12
def jn_X12_unit_222 (x2 : Int32) (h : am_H) : Option (Int32 × am_H) := if x2 = 0 then cal (f_X12_pushE 7 126 h) fun h29 => bnd (h29.1 413 35) fun v32 => ptI h29 413 35 (v32 + 1) fun h33 => some (1, h33) else cal (f_X12_pushE 3 126 h) fun h37 => bnd (h37.1 413 35) fun v40 => ptI h37 413 35 (v40 + 1) fun h41 => some (1, h41)
def jn_X12_unit_208 (x2 : Int32) (x3 : Int32) (x4 : Int32) (y0 : Int32) (h : am_H) : Option (Int32 × am_H) := cal (f_X12_goOn h) fun h25 => if x2 = 0 then if x3 = 0 then if x4 = 0 then cal (f_X12_emit 110 y0 h25) fun h49 => some (0, h49) else cal (f_X12_emit x4 y0 h25) fun h45 => some (0, h45) else jn_X12_unit_222 x2 h25 else jn_X12_unit_222 x2 h25
def jn_X12_unit_147 (x2 : Int32) (x3 : Int32) (x4 : Int32) (h : am_H) : Option (Int32 × am_H) := cal (f_X12_isGood h) fun v13 => if v13 = 0 then some (1, h) else bnd (h.1 413 33) fun v15 => rdI h 418 2 v15 fun v16 => if x2 = 0 then wrI h 418 2 v15 (v16 + 1) fun h17 => bnd (h17.1 413 37) fun v20 => if x2 = 0 then ptI h17 413 37 (v20 + 1) fun h21 => if x4 = 0 then bnd (h21.1 413 9) fun v52 => jn_X12_unit_208 x2 x3 x4 v52 h21 else jn_X12_unit_208 x2 x3 x4 0 h21 else ptI h17 413 37 (v20 + 0) fun h53 => if x4 = 0 then bnd (h53.1 413 9) fun v56 => jn_X12_unit_208 x2 x3 x4 v56 h53 else jn_X12_unit_208 x2 x3 x4 0 h53 else wrI h 418 2 v15 (v16 + 0) fun h57 => bnd (h57.1 413 37) fun v60 => if x2 = 0 then ptI h57 413 37 (v60 + 1) fun h61 => if x4 = 0 then bnd (h61.1 413 9) fun v64 => jn_X12_unit_208 x2 x3 x4 v64 h61 else jn_X12_unit_208 x2 x3 x4 0 h61 else ptI h57 413 37 (v60 + 0) fun h65 => if x4 = 0 then bnd (h65.1 413 9) fun v68 => jn_X12_unit_208 x2 x3 x4 v68 h65 else jn_X12_unit_208 x2 x3 x4 0 h65
def jn_X12_unit_143 (x2 : Int32) (x3 : Int32) (x4 : Int32) (h : am_H) : Option (Int32 × am_H) := cal (f_X12_misplaced h) fun h70 => jn_X12_unit_147 x2 x3 x4 h70
def jn_X12_unit_134 (x2 : Int32) (x3 : Int32) (x4 : Int32) (h : am_H) : Option (Int32 × am_H) := bnd (h.1 413 35) fun v11 => if v11 = 7 then jn_X12_unit_143 x2 x3 x4 h else jn_X12_unit_147 x2 x3 x4 h
def jn_X12_unit_126 (x2 : Int32) (x3 : Int32) (x4 : Int32) (h : am_H) : Option (Int32 × am_H) := if x2 = 0 then if x3 = 0 then jn_X12_unit_147 x2 x3 x4 h else jn_X12_unit_134 x2 x3 x4 h else jn_X12_unit_134 x2 x3 x4 h
def jn_X12_unit_121 (x2 : Int32) (x3 : Int32) (x4 : Int32) (x5 : Int32) (h : am_H) : Option (Int32 × am_H) := if x5 = 0 then jn_X12_unit_126 x2 x3 x4 h else jn_X12_unit_143 x2 x3 x4 h
def jn_X12_unit_98 (x2 : Int32) (x3 : Int32) (x4 : Int32) (y0 : Int32) (h : am_H) : Option (Int32 × am_H) := if x2 = 0 then if x4 = 0 then bnd (h.1 413 8) fun v73 => if v73 = 4 then jn_X12_unit_121 x2 x3 x4 y0 h else if x3 = 0 then jn_X12_unit_143 x2 x3 x4 h else jn_X12_unit_121 x2 x3 x4 y0 h else jn_X12_unit_121 x2 x3 x4 y0 h else jn_X12_unit_126 x2 x3 x4 h
def jn_X12_unit_93 (x2 : Int32) (x3 : Int32) (x4 : Int32) (h : am_H) : Option (Int32 × am_H) := jn_X12_unit_98 x2 x3 x4 1 h
def jn_X12_unit_56 (y0 : Int32) (h : am_H) : Option (Int32 × am_H) := cal (f_X12_isSignHere 40 h) fun v4 => cal (f_X12_wordHere h) fun v7 => bnd (h.1 413 33) fun v9 => rdI h 418 2 v9 fun v10 => if v10 = 60 then jn_X12_unit_93 y0 v4 v7 h else bnd (h.1 413 37) fun v74 => if v74 = 30 then jn_X12_unit_93 y0 v4 v7 h else jn_X12_unit_98 y0 v4 v7 0 h
def jn_X12_unit_55  (h : am_H) : Option (Int32 × am_H) := jn_X12_unit_56 0 h
def jn_X12_unit_36 (y0 : Int32) (h : am_H) : Option (Int32 × am_H) := if y0 = 0 then jn_X12_unit_55  h else cal (f_X12_isWord 7237492 h) fun v76 => if v76 = 0 then jn_X12_unit_55  h else jn_X12_unit_56 1 h
def jn_X12_unit_31  (h : am_H) : Option (Int32 × am_H) := jn_X12_unit_36 1 h
def f_X12_unit  (h : am_H) : Option (Int32 × am_H) := bnd (h.1 413 36) fun v1 => rdI h 434 90 (v1 - 1) fun v2 => if 3 < v2 then bnd (h.1 413 36) fun v78 => rdI h 434 90 (v78 - 1) fun v79 => if v79 < 7 then jn_X12_unit_36 0 h else jn_X12_unit_31  h else jn_X12_unit_31  h
theorem rj_X12_unit_222 {X : am_X} {d : Nat} (hd : 2 ≤ d) (x2 : Int32) {h : am_H} (T : am_TP h.2.2) {r : Int32 × am_H} (hf : jn_X12_unit_222 x2 h = some r) : am_G X d 12 false cX12_unit (some .boolean) 222 [some (.ref 413), none, some (.int x2), none, none, none, none] [] (am_SH, h) (some (.int r.1), (am_SH, r.2)) := by
  obtain ⟨d, rfl⟩ : ∃ e, d = e + 1 := ⟨d - 1, by omega⟩
  unfold jn_X12_unit_222 at hf
  refine r_loc dX12_unit_222 rfl ?_
  refine r_loc dX12_unit_223 rfl ?_
  refine r_eq0 (q := 231) dX12_unit_224 rfl hf (fun hf => ?_) (fun hf => ?_)
  · refine r_bipush (v := 7) dX12_unit_231 rfl ?_
    refine r_bipush (v := 126) dX12_unit_233 rfl ?_
    obtain ⟨h29, c28, hf⟩ := cal_inv hf
    have g31 := rf_X12_pushE (X := X) (d := d) (by omega) 7 126 T c28
    have T30 : am_TP h29.2.2 := g31.2
    refine r_virt (pre := [.int 126, .int 7]) (rest := []) dX12_unit_235 ct_12_298 rfl (sh_413) (Nat.le_of_ble_eq_true rfl) (Nat.le_of_ble_eq_true rfl) g31 ?_
    refine r_loc dX12_unit_238 rfl ?_
    refine r_alu dX12_unit_239 rfl ?_
    refine r_getI dX12_unit_240 fl_12_295 sh_413 rfl hf (fun v32 hf => ?_)
    refine r_iconst (v := 1) dX12_unit_243 rfl ?_
    refine r_alu dX12_unit_244 rfl ?_
    refine r_putI dX12_unit_245 fl_12_295 sh_413 ⟨rfl, rfl⟩ hf (fun h33 e35 hf => ?_)
    have T34 := tp_eq e35 T30
    refine r_iconst (v := 1) dX12_unit_248 rfl ?_
    cases hf
    exact r_z1 T34 dX12_unit_249
  · refine r_iconst (v := 3) dX12_unit_227 rfl ?_
    refine r_goto (q := 233) dX12_unit_228 rfl ?_
    refine r_bipush (v := 126) dX12_unit_233 rfl ?_
    obtain ⟨h37, c36, hf⟩ := cal_inv hf
    have g39 := rf_X12_pushE (X := X) (d := d) (by omega) 3 126 T c36
    have T38 : am_TP h37.2.2 := g39.2
    refine r_virt (pre := [.int 126, .int 3]) (rest := []) dX12_unit_235 ct_12_298 rfl (sh_413) (Nat.le_of_ble_eq_true rfl) (Nat.le_of_ble_eq_true rfl) g39 ?_
    refine r_loc dX12_unit_238 rfl ?_
    refine r_alu dX12_unit_239 rfl ?_
    refine r_getI dX12_unit_240 fl_12_295 sh_413 rfl hf (fun v40 hf => ?_)
    refine r_iconst (v := 1) dX12_unit_243 rfl ?_
    refine r_alu dX12_unit_244 rfl ?_
    refine r_putI dX12_unit_245 fl_12_295 sh_413 ⟨rfl, rfl⟩ hf (fun h41 e43 hf => ?_)
    have T42 := tp_eq e43 T38
    refine r_iconst (v := 1) dX12_unit_248 rfl ?_
    cases hf
    exact r_z1 T42 dX12_unit_249
theorem rj_X12_unit_208 {X : am_X} {d : Nat} (hd : 2 ≤ d) (x2 : Int32) (x3 : Int32) (x4 : Int32) (y0 : Int32) {h : am_H} (T : am_TP h.2.2) {r : Int32 × am_H} (hf : jn_X12_unit_208 x2 x3 x4 y0 h = some r) : am_G X d 12 false cX12_unit (some .boolean) 208 [some (.ref 413), none, some (.int x2), some (.int x3), some (.int x4), none, none] [.int y0] (am_SH, h) (some (.int r.1), (am_SH, r.2)) := by
  obtain ⟨d, rfl⟩ : ∃ e, d = e + 1 := ⟨d - 1, by omega⟩
  unfold jn_X12_unit_208 at hf
  refine r_loc (L' := [some (.ref 413), none, some (.int x2), some (.int x3), some (.int x4), none, some (.int y0)]) dX12_unit_208 rfl ?_
  refine r_loc dX12_unit_210 rfl ?_
  obtain ⟨h25, c24, hf⟩ := cal_inv hf
  have g27 := rf_X12_goOn (X := X) (d := d) (by omega) T c24
  have T26 : am_TP h25.2.2 := g27.2
  refine r_virt (pre := []) (rest := []) dX12_unit_211 ct_12_218 rfl (sh_413) (Nat.le_of_ble_eq_true rfl) (Nat.le_of_ble_eq_true rfl) g27 ?_
  refine r_loc dX12_unit_214 rfl ?_
  refine r_ne0 (q := 222) dX12_unit_215 rfl hf (fun hf => ?_) (fun hf => ?_)
  · refine r_weak (L := [some (.ref 413), none, some (.int x2), none, none, none, none]) (am_le_s (am_le_n (am_le_s (am_le_n (am_le_n (am_le_n (am_le_n am_le_0))))))) ?_
    exact rj_X12_unit_222 (by omega) x2 T26 hf
  · refine r_loc dX12_unit_218 rfl ?_
    refine r_eq0 (q := 250) dX12_unit_219 rfl hf (fun hf => ?_) (fun hf => ?_)
    · refine r_loc dX12_unit_250 rfl ?_
      refine r_loc dX12_unit_251 rfl ?_
      refine r_ne0 (q := 261) dX12_unit_253 rfl hf (fun hf => ?_) (fun hf => ?_)
      · refine r_loc dX12_unit_261 rfl ?_
        refine r_loc dX12_unit_263 rfl ?_
        obtain ⟨h45, c44, hf⟩ := cal_inv hf
        have g47 := rf_X12_emit (X := X) (d := d) (by omega) x4 y0 T26 c44
        have T46 : am_TP h45.2.2 := g47.2
        refine r_virt (pre := [.int y0, .int x4]) (rest := []) dX12_unit_265 ct_12_310 rfl (sh_413) (Nat.le_of_ble_eq_true rfl) (Nat.le_of_ble_eq_true rfl) g47 ?_
        refine r_iconst (v := 0) dX12_unit_268 rfl ?_
        cases hf
        exact r_z0 T46 dX12_unit_269
      · refine r_bipush (v := 110) dX12_unit_256 rfl ?_
        refine r_goto (q := 263) dX12_unit_258 rfl ?_
        refine r_loc dX12_unit_263 rfl ?_
        obtain ⟨h49, c48, hf⟩ := cal_inv hf
        have g51 := rf_X12_emit (X := X) (d := d) (by omega) 110 y0 T26 c48
        have T50 : am_TP h49.2.2 := g51.2
        refine r_virt (pre := [.int y0, .int 110]) (rest := []) dX12_unit_265 ct_12_310 rfl (sh_413) (Nat.le_of_ble_eq_true rfl) (Nat.le_of_ble_eq_true rfl) g51 ?_
        refine r_iconst (v := 0) dX12_unit_268 rfl ?_
        cases hf
        exact r_z0 T50 dX12_unit_269
    · refine r_weak (L := [some (.ref 413), none, some (.int x2), none, none, none, none]) (am_le_s (am_le_n (am_le_s (am_le_n (am_le_n (am_le_n (am_le_n am_le_0))))))) ?_
      exact rj_X12_unit_222 (by omega) x2 T26 hf
theorem rj_X12_unit_147 {X : am_X} {d : Nat} (hd : 2 ≤ d) (x2 : Int32) (x3 : Int32) (x4 : Int32) {h : am_H} (T : am_TP h.2.2) {r : Int32 × am_H} (hf : jn_X12_unit_147 x2 x3 x4 h = some r) : am_G X d 12 false cX12_unit (some .boolean) 147 [some (.ref 413), none, some (.int x2), some (.int x3), some (.int x4), none, none] [] (am_SH, h) (some (.int r.1), (am_SH, r.2)) := by
  obtain ⟨d, rfl⟩ : ∃ e, d = e + 1 := ⟨d - 1, by omega⟩
  unfold jn_X12_unit_147 at hf
  refine r_loc dX12_unit_147 rfl ?_
  obtain ⟨v13, c12, hf⟩ := cal_inv hf
  have g14 := rf_X12_isGood (X := X) (d := d) (by omega) T c12
  refine r_virt (pre := []) (rest := []) dX12_unit_148 ct_12_214 rfl (sh_413) (Nat.le_of_ble_eq_true rfl) (Nat.le_of_ble_eq_true rfl) g14 ?_
  refine r_ne0 (q := 156) dX12_unit_151 rfl hf (fun hf => ?_) (fun hf => ?_)
  · refine r_loc dX12_unit_156 rfl ?_
    refine r_getR dX12_unit_157 fl_12_27 sh_413 (Or.inr ⟨_, rfl⟩) (tp_413_13 T) ?_
    refine r_loc dX12_unit_160 rfl ?_
    refine r_getI dX12_unit_161 fl_12_235 sh_413 rfl hf (fun v15 hf => ?_)
    refine r_alu dX12_unit_164 rfl ?_
    refine r_iald dX12_unit_165 sh_418 hf (fun v16 hf => ?_)
    refine r_loc dX12_unit_166 rfl ?_
    refine r_eq0 (q := 174) dX12_unit_167 rfl hf (fun hf => ?_) (fun hf => ?_)
    · refine r_iconst (v := 1) dX12_unit_174 rfl ?_
      refine r_alu dX12_unit_175 rfl ?_
      refine r_iast dX12_unit_176 sh_418 hf (fun h17 e19 hf => ?_)
      have T18 := tp_eq e19 T
      refine r_loc dX12_unit_177 rfl ?_
      refine r_alu dX12_unit_178 rfl ?_
      refine r_getI dX12_unit_179 fl_12_286 sh_413 rfl hf (fun v20 hf => ?_)
      refine r_loc dX12_unit_182 rfl ?_
      refine r_eq0 (q := 190) dX12_unit_183 rfl hf (fun hf => ?_) (fun hf => ?_)
      · refine r_iconst (v := 1) dX12_unit_190 rfl ?_
        refine r_alu dX12_unit_191 rfl ?_
        refine r_putI dX12_unit_192 fl_12_286 sh_413 ⟨rfl, rfl⟩ hf (fun h21 e23 hf => ?_)
        have T22 := tp_eq e23 T18
        refine r_loc dX12_unit_195 rfl ?_
        refine r_ne0 (q := 207) dX12_unit_197 rfl hf (fun hf => ?_) (fun hf => ?_)
        · refine r_iconst (v := 0) dX12_unit_207 rfl ?_
          exact rj_X12_unit_208 (by omega) x2 x3 x4 0 T22 hf
        · refine r_loc dX12_unit_200 rfl ?_
          refine r_getI dX12_unit_201 fl_12_204 sh_413 rfl hf (fun v52 hf => ?_)
          refine r_goto (q := 208) dX12_unit_204 rfl ?_
          exact rj_X12_unit_208 (by omega) x2 x3 x4 v52 T22 hf
      · refine r_iconst (v := 0) dX12_unit_186 rfl ?_
        refine r_goto (q := 191) dX12_unit_187 rfl ?_
        refine r_alu dX12_unit_191 rfl ?_
        refine r_putI dX12_unit_192 fl_12_286 sh_413 ⟨rfl, rfl⟩ hf (fun h53 e55 hf => ?_)
        have T54 := tp_eq e55 T18
        refine r_loc dX12_unit_195 rfl ?_
        refine r_ne0 (q := 207) dX12_unit_197 rfl hf (fun hf => ?_) (fun hf => ?_)
        · refine r_iconst (v := 0) dX12_unit_207 rfl ?_
          exact rj_X12_unit_208 (by omega) x2 x3 x4 0 T54 hf
        · refine r_loc dX12_unit_200 rfl ?_
          refine r_getI dX12_unit_201 fl_12_204 sh_413 rfl hf (fun v56 hf => ?_)
          refine r_goto (q := 208) dX12_unit_204 rfl ?_
          exact rj_X12_unit_208 (by omega) x2 x3 x4 v56 T54 hf
    · refine r_iconst (v := 0) dX12_unit_170 rfl ?_
      refine r_goto (q := 175) dX12_unit_171 rfl ?_
      refine r_alu dX12_unit_175 rfl ?_
      refine r_iast dX12_unit_176 sh_418 hf (fun h57 e59 hf => ?_)
      have T58 := tp_eq e59 T
      refine r_loc dX12_unit_177 rfl ?_
      refine r_alu dX12_unit_178 rfl ?_
      refine r_getI dX12_unit_179 fl_12_286 sh_413 rfl hf (fun v60 hf => ?_)
      refine r_loc dX12_unit_182 rfl ?_
      refine r_eq0 (q := 190) dX12_unit_183 rfl hf (fun hf => ?_) (fun hf => ?_)
      · refine r_iconst (v := 1) dX12_unit_190 rfl ?_
        refine r_alu dX12_unit_191 rfl ?_
        refine r_putI dX12_unit_192 fl_12_286 sh_413 ⟨rfl, rfl⟩ hf (fun h61 e63 hf => ?_)
        have T62 := tp_eq e63 T58
        refine r_loc dX12_unit_195 rfl ?_
        refine r_ne0 (q := 207) dX12_unit_197 rfl hf (fun hf => ?_) (fun hf => ?_)
        · refine r_iconst (v := 0) dX12_unit_207 rfl ?_
          exact rj_X12_unit_208 (by omega) x2 x3 x4 0 T62 hf
        · refine r_loc dX12_unit_200 rfl ?_
          refine r_getI dX12_unit_201 fl_12_204 sh_413 rfl hf (fun v64 hf => ?_)
          refine r_goto (q := 208) dX12_unit_204 rfl ?_
          exact rj_X12_unit_208 (by omega) x2 x3 x4 v64 T62 hf
      · refine r_iconst (v := 0) dX12_unit_186 rfl ?_
        refine r_goto (q := 191) dX12_unit_187 rfl ?_
        refine r_alu dX12_unit_191 rfl ?_
        refine r_putI dX12_unit_192 fl_12_286 sh_413 ⟨rfl, rfl⟩ hf (fun h65 e67 hf => ?_)
        have T66 := tp_eq e67 T58
        refine r_loc dX12_unit_195 rfl ?_
        refine r_ne0 (q := 207) dX12_unit_197 rfl hf (fun hf => ?_) (fun hf => ?_)
        · refine r_iconst (v := 0) dX12_unit_207 rfl ?_
          exact rj_X12_unit_208 (by omega) x2 x3 x4 0 T66 hf
        · refine r_loc dX12_unit_200 rfl ?_
          refine r_getI dX12_unit_201 fl_12_204 sh_413 rfl hf (fun v68 hf => ?_)
          refine r_goto (q := 208) dX12_unit_204 rfl ?_
          exact rj_X12_unit_208 (by omega) x2 x3 x4 v68 T66 hf
  · refine r_iconst (v := 1) dX12_unit_154 rfl ?_
    cases hf
    exact r_z1 T dX12_unit_155
theorem rj_X12_unit_143 {X : am_X} {d : Nat} (hd : 2 ≤ d) (x2 : Int32) (x3 : Int32) (x4 : Int32) {h : am_H} (T : am_TP h.2.2) {r : Int32 × am_H} (hf : jn_X12_unit_143 x2 x3 x4 h = some r) : am_G X d 12 false cX12_unit (some .boolean) 143 [some (.ref 413), none, some (.int x2), some (.int x3), some (.int x4), none, none] [] (am_SH, h) (some (.int r.1), (am_SH, r.2)) := by
  obtain ⟨d, rfl⟩ : ∃ e, d = e + 1 := ⟨d - 1, by omega⟩
  unfold jn_X12_unit_143 at hf
  refine r_loc dX12_unit_143 rfl ?_
  obtain ⟨h70, c69, hf⟩ := cal_inv hf
  have g72 := rf_X12_misplaced (X := X) (d := d) (by omega) T c69
  have T71 : am_TP h70.2.2 := g72.2
  refine r_virt (pre := []) (rest := []) dX12_unit_144 ct_12_221 rfl (sh_413) (Nat.le_of_ble_eq_true rfl) (Nat.le_of_ble_eq_true rfl) g72 ?_
  exact rj_X12_unit_147 (by omega) x2 x3 x4 T71 hf
theorem rj_X12_unit_134 {X : am_X} {d : Nat} (hd : 2 ≤ d) (x2 : Int32) (x3 : Int32) (x4 : Int32) {h : am_H} (T : am_TP h.2.2) {r : Int32 × am_H} (hf : jn_X12_unit_134 x2 x3 x4 h = some r) : am_G X d 12 false cX12_unit (some .boolean) 134 [some (.ref 413), none, some (.int x2), some (.int x3), some (.int x4), none, none] [] (am_SH, h) (some (.int r.1), (am_SH, r.2)) := by
  obtain ⟨d, rfl⟩ : ∃ e, d = e + 1 := ⟨d - 1, by omega⟩
  unfold jn_X12_unit_134 at hf
  refine r_loc dX12_unit_134 rfl ?_
  refine r_getI dX12_unit_135 fl_12_295 sh_413 rfl hf (fun v11 hf => ?_)
  refine r_bipush (v := 7) dX12_unit_138 rfl ?_
  refine r_ne (q := 147) dX12_unit_140 rfl hf (fun hf => ?_) (fun hf => ?_)
  · exact rj_X12_unit_147 (by omega) x2 x3 x4 T hf
  · exact rj_X12_unit_143 (by omega) x2 x3 x4 T hf
theorem rj_X12_unit_126 {X : am_X} {d : Nat} (hd : 2 ≤ d) (x2 : Int32) (x3 : Int32) (x4 : Int32) {h : am_H} (T : am_TP h.2.2) {r : Int32 × am_H} (hf : jn_X12_unit_126 x2 x3 x4 h = some r) : am_G X d 12 false cX12_unit (some .boolean) 126 [some (.ref 413), none, some (.int x2), some (.int x3), some (.int x4), none, none] [] (am_SH, h) (some (.int r.1), (am_SH, r.2)) := by
  obtain ⟨d, rfl⟩ : ∃ e, d = e + 1 := ⟨d - 1, by omega⟩
  unfold jn_X12_unit_126 at hf
  refine r_loc dX12_unit_126 rfl ?_
  refine r_ne0 (q := 134) dX12_unit_127 rfl hf (fun hf => ?_) (fun hf => ?_)
  · exact rj_X12_unit_134 (by omega) x2 x3 x4 T hf
  · refine r_loc dX12_unit_130 rfl ?_
    refine r_eq0 (q := 147) dX12_unit_131 rfl hf (fun hf => ?_) (fun hf => ?_)
    · exact rj_X12_unit_147 (by omega) x2 x3 x4 T hf
    · exact rj_X12_unit_134 (by omega) x2 x3 x4 T hf
theorem rj_X12_unit_121 {X : am_X} {d : Nat} (hd : 2 ≤ d) (x2 : Int32) (x3 : Int32) (x4 : Int32) (x5 : Int32) {h : am_H} (T : am_TP h.2.2) {r : Int32 × am_H} (hf : jn_X12_unit_121 x2 x3 x4 x5 h = some r) : am_G X d 12 false cX12_unit (some .boolean) 121 [some (.ref 413), none, some (.int x2), some (.int x3), some (.int x4), some (.int x5), none] [] (am_SH, h) (some (.int r.1), (am_SH, r.2)) := by
  obtain ⟨d, rfl⟩ : ∃ e, d = e + 1 := ⟨d - 1, by omega⟩
  unfold jn_X12_unit_121 at hf
  refine r_loc dX12_unit_121 rfl ?_
  refine r_ne0 (q := 143) dX12_unit_123 rfl hf (fun hf => ?_) (fun hf => ?_)
  · refine r_weak (L := [some (.ref 413), none, some (.int x2), some (.int x3), some (.int x4), none, none]) (am_le_s (am_le_n (am_le_s (am_le_s (am_le_s (am_le_n (am_le_n am_le_0))))))) ?_
    exact rj_X12_unit_143 (by omega) x2 x3 x4 T hf
  · refine r_weak (L := [some (.ref 413), none, some (.int x2), some (.int x3), some (.int x4), none, none]) (am_le_s (am_le_n (am_le_s (am_le_s (am_le_s (am_le_n (am_le_n am_le_0))))))) ?_
    exact rj_X12_unit_126 (by omega) x2 x3 x4 T hf
theorem rj_X12_unit_98 {X : am_X} {d : Nat} (hd : 2 ≤ d) (x2 : Int32) (x3 : Int32) (x4 : Int32) (y0 : Int32) {h : am_H} (T : am_TP h.2.2) {r : Int32 × am_H} (hf : jn_X12_unit_98 x2 x3 x4 y0 h = some r) : am_G X d 12 false cX12_unit (some .boolean) 98 [some (.ref 413), none, some (.int x2), some (.int x3), some (.int x4), none, none] [.int y0] (am_SH, h) (some (.int r.1), (am_SH, r.2)) := by
  obtain ⟨d, rfl⟩ : ∃ e, d = e + 1 := ⟨d - 1, by omega⟩
  unfold jn_X12_unit_98 at hf
  refine r_loc (L' := [some (.ref 413), none, some (.int x2), some (.int x3), some (.int x4), some (.int y0), none]) dX12_unit_98 rfl ?_
  refine r_loc dX12_unit_100 rfl ?_
  refine r_ne0 (q := 126) dX12_unit_101 rfl hf (fun hf => ?_) (fun hf => ?_)
  · refine r_weak (L := [some (.ref 413), none, some (.int x2), some (.int x3), some (.int x4), none, none]) (am_le_s (am_le_n (am_le_s (am_le_s (am_le_s (am_le_n (am_le_n am_le_0))))))) ?_
    exact rj_X12_unit_126 (by omega) x2 x3 x4 T hf
  · refine r_loc dX12_unit_104 rfl ?_
    refine r_ne0 (q := 121) dX12_unit_106 rfl hf (fun hf => ?_) (fun hf => ?_)
    · exact rj_X12_unit_121 (by omega) x2 x3 x4 y0 T hf
    · refine r_loc dX12_unit_109 rfl ?_
      refine r_getI dX12_unit_110 fl_12_186 sh_413 rfl hf (fun v73 hf => ?_)
      refine r_iconst (v := 4) dX12_unit_113 rfl ?_
      refine r_eq (q := 121) dX12_unit_114 rfl hf (fun hf => ?_) (fun hf => ?_)
      · exact rj_X12_unit_121 (by omega) x2 x3 x4 y0 T hf
      · refine r_loc dX12_unit_117 rfl ?_
        refine r_eq0 (q := 143) dX12_unit_118 rfl hf (fun hf => ?_) (fun hf => ?_)
        · refine r_weak (L := [some (.ref 413), none, some (.int x2), some (.int x3), some (.int x4), none, none]) (am_le_s (am_le_n (am_le_s (am_le_s (am_le_s (am_le_n (am_le_n am_le_0))))))) ?_
          exact rj_X12_unit_143 (by omega) x2 x3 x4 T hf
        · exact rj_X12_unit_121 (by omega) x2 x3 x4 y0 T hf
theorem rj_X12_unit_93 {X : am_X} {d : Nat} (hd : 2 ≤ d) (x2 : Int32) (x3 : Int32) (x4 : Int32) {h : am_H} (T : am_TP h.2.2) {r : Int32 × am_H} (hf : jn_X12_unit_93 x2 x3 x4 h = some r) : am_G X d 12 false cX12_unit (some .boolean) 93 [some (.ref 413), none, some (.int x2), some (.int x3), some (.int x4), none, none] [] (am_SH, h) (some (.int r.1), (am_SH, r.2)) := by
  obtain ⟨d, rfl⟩ : ∃ e, d = e + 1 := ⟨d - 1, by omega⟩
  unfold jn_X12_unit_93 at hf
  refine r_iconst (v := 1) dX12_unit_93 rfl ?_
  refine r_goto (q := 98) dX12_unit_94 rfl ?_
  exact rj_X12_unit_98 (by omega) x2 x3 x4 1 T hf
theorem rj_X12_unit_56 {X : am_X} {d : Nat} (hd : 2 ≤ d) (y0 : Int32) {h : am_H} (T : am_TP h.2.2) {r : Int32 × am_H} (hf : jn_X12_unit_56 y0 h = some r) : am_G X d 12 false cX12_unit (some .boolean) 56 [some (.ref 413), none, none, none, none, none, none] [.int y0] (am_SH, h) (some (.int r.1), (am_SH, r.2)) := by
  obtain ⟨d, rfl⟩ : ∃ e, d = e + 1 := ⟨d - 1, by omega⟩
  unfold jn_X12_unit_56 at hf
  refine r_loc (L' := [some (.ref 413), none, some (.int y0), none, none, none, none]) dX12_unit_56 rfl ?_
  refine r_loc dX12_unit_57 rfl ?_
  refine r_bipush (v := 40) dX12_unit_58 rfl ?_
  obtain ⟨v4, c3, hf⟩ := cal_inv hf
  have g5 := rf_X12_isSignHere (X := X) (d := d) (by omega) 40 T c3
  refine r_virt (pre := [.int 40]) (rest := []) dX12_unit_60 ct_12_279 rfl (sh_413) (Nat.le_of_ble_eq_true rfl) (Nat.le_of_ble_eq_true rfl) g5 ?_
  refine r_loc (L' := [some (.ref 413), none, some (.int y0), some (.int v4), none, none, none]) dX12_unit_63 rfl ?_
  refine r_loc dX12_unit_64 rfl ?_
  obtain ⟨v7, c6, hf⟩ := cal_inv hf
  have g8 := rf_X12_wordHere (X := X) (d := d) (by omega) T c6
  refine r_virt (pre := []) (rest := []) dX12_unit_65 ct_12_307 rfl (sh_413) (Nat.le_of_ble_eq_true rfl) (Nat.le_of_ble_eq_true rfl) g8 ?_
  refine r_loc (L' := [some (.ref 413), none, some (.int y0), some (.int v4), some (.int v7), none, none]) dX12_unit_68 rfl ?_
  refine r_loc dX12_unit_70 rfl ?_
  refine r_getR dX12_unit_71 fl_12_27 sh_413 (Or.inr ⟨_, rfl⟩) (tp_413_13 T) ?_
  refine r_loc dX12_unit_74 rfl ?_
  refine r_getI dX12_unit_75 fl_12_235 sh_413 rfl hf (fun v9 hf => ?_)
  refine r_iald dX12_unit_78 sh_418 hf (fun v10 hf => ?_)
  refine r_bipush (v := 60) dX12_unit_79 rfl ?_
  refine r_eq (q := 93) dX12_unit_81 rfl hf (fun hf => ?_) (fun hf => ?_)
  · exact rj_X12_unit_93 (by omega) y0 v4 v7 T hf
  · refine r_loc dX12_unit_84 rfl ?_
    refine r_getI dX12_unit_85 fl_12_286 sh_413 rfl hf (fun v74 hf => ?_)
    refine r_bipush (v := 30) dX12_unit_88 rfl ?_
    refine r_ne (q := 97) dX12_unit_90 rfl hf (fun hf => ?_) (fun hf => ?_)
    · refine r_iconst (v := 0) dX12_unit_97 rfl ?_
      exact rj_X12_unit_98 (by omega) y0 v4 v7 0 T hf
    · exact rj_X12_unit_93 (by omega) y0 v4 v7 T hf
theorem rj_X12_unit_55 {X : am_X} {d : Nat} (hd : 2 ≤ d)  {h : am_H} (T : am_TP h.2.2) {r : Int32 × am_H} (hf : jn_X12_unit_55  h = some r) : am_G X d 12 false cX12_unit (some .boolean) 55 [some (.ref 413), none, none, none, none, none, none] [] (am_SH, h) (some (.int r.1), (am_SH, r.2)) := by
  obtain ⟨d, rfl⟩ : ∃ e, d = e + 1 := ⟨d - 1, by omega⟩
  unfold jn_X12_unit_55 at hf
  refine r_iconst (v := 0) dX12_unit_55 rfl ?_
  exact rj_X12_unit_56 (by omega) 0 T hf
theorem rj_X12_unit_36 {X : am_X} {d : Nat} (hd : 2 ≤ d) (y0 : Int32) {h : am_H} (T : am_TP h.2.2) {r : Int32 × am_H} (hf : jn_X12_unit_36 y0 h = some r) : am_G X d 12 false cX12_unit (some .boolean) 36 [some (.ref 413), none, none, none, none, none, none] [.int y0] (am_SH, h) (some (.int r.1), (am_SH, r.2)) := by
  obtain ⟨d, rfl⟩ : ∃ e, d = e + 1 := ⟨d - 1, by omega⟩
  unfold jn_X12_unit_36 at hf
  refine r_loc (L' := [some (.ref 413), some (.int y0), none, none, none, none, none]) dX12_unit_36 rfl ?_
  refine r_loc dX12_unit_37 rfl ?_
  refine r_eq0 (q := 55) dX12_unit_38 rfl hf (fun hf => ?_) (fun hf => ?_)
  · refine r_weak (L := [some (.ref 413), none, none, none, none, none, none]) (am_le_s (am_le_n (am_le_n (am_le_n (am_le_n (am_le_n (am_le_n am_le_0))))))) ?_
    exact rj_X12_unit_55 (by omega)  T hf
  · refine r_loc dX12_unit_41 rfl ?_
    refine r_ldc2 dX12_unit_42 k64_12_174 ?_
    obtain ⟨v76, c75, hf⟩ := cal_inv hf
    have g77 := rf_X12_isWord (X := X) (d := d) (by omega) 7237492 T c75
    refine r_virt (pre := [.long 7237492]) (rest := []) dX12_unit_45 ct_12_224 rfl (sh_413) (Nat.le_of_ble_eq_true rfl) (Nat.le_of_ble_eq_true rfl) g77 ?_
    refine r_eq0 (q := 55) dX12_unit_48 rfl hf (fun hf => ?_) (fun hf => ?_)
    · refine r_weak (L := [some (.ref 413), none, none, none, none, none, none]) (am_le_s (am_le_n (am_le_n (am_le_n (am_le_n (am_le_n (am_le_n am_le_0))))))) ?_
      exact rj_X12_unit_55 (by omega)  T hf
    · refine r_iconst (v := 1) dX12_unit_51 rfl ?_
      refine r_goto (q := 56) dX12_unit_52 rfl ?_
      refine r_weak (L := [some (.ref 413), none, none, none, none, none, none]) (am_le_s (am_le_n (am_le_n (am_le_n (am_le_n (am_le_n (am_le_n am_le_0))))))) ?_
      exact rj_X12_unit_56 (by omega) 1 T hf
theorem rj_X12_unit_31 {X : am_X} {d : Nat} (hd : 2 ≤ d)  {h : am_H} (T : am_TP h.2.2) {r : Int32 × am_H} (hf : jn_X12_unit_31  h = some r) : am_G X d 12 false cX12_unit (some .boolean) 31 [some (.ref 413), none, none, none, none, none, none] [] (am_SH, h) (some (.int r.1), (am_SH, r.2)) := by
  obtain ⟨d, rfl⟩ : ∃ e, d = e + 1 := ⟨d - 1, by omega⟩
  unfold jn_X12_unit_31 at hf
  refine r_iconst (v := 1) dX12_unit_31 rfl ?_
  refine r_goto (q := 36) dX12_unit_32 rfl ?_
  exact rj_X12_unit_36 (by omega) 1 T hf
theorem rf_X12_unit {X : am_X} {d : Nat} (hd : 2 ≤ d)  {h : am_H} (T : am_TP h.2.2) {r : Int32 × am_H} (hf : f_X12_unit  h = some r) : am_G X d 12 false cX12_unit (some .boolean) 0 [some (.ref 413), none, none, none, none, none, none] [] (am_SH, h) (some (.int r.1), (am_SH, r.2)) := by
  unfold f_X12_unit at hf
  obtain ⟨d, rfl⟩ : ∃ e, d = e + 1 := ⟨d - 1, by omega⟩
  refine r_loc dX12_unit_0 rfl ?_
  refine r_getR dX12_unit_1 fl_12_76 sh_413 (Or.inr ⟨_, rfl⟩) (tp_413_29 T) ?_
  refine r_loc dX12_unit_4 rfl ?_
  refine r_getI dX12_unit_5 fl_12_292 sh_413 rfl hf (fun v1 hf => ?_)
  refine r_iconst (v := 1) dX12_unit_8 rfl ?_
  refine r_alu dX12_unit_9 rfl ?_
  refine r_iald dX12_unit_10 sh_434 hf (fun v2 hf => ?_)
  refine r_iconst (v := 3) dX12_unit_11 rfl ?_
  refine r_le (q := 31) dX12_unit_12 rfl hf (fun hf => ?_) (fun hf => ?_)
  · exact rj_X12_unit_31 (by omega)  T hf
  · refine r_loc dX12_unit_15 rfl ?_
    refine r_getR dX12_unit_16 fl_12_76 sh_413 (Or.inr ⟨_, rfl⟩) (tp_413_29 T) ?_
    refine r_loc dX12_unit_19 rfl ?_
    refine r_getI dX12_unit_20 fl_12_292 sh_413 rfl hf (fun v78 hf => ?_)
    refine r_iconst (v := 1) dX12_unit_23 rfl ?_
    refine r_alu dX12_unit_24 rfl ?_
    refine r_iald dX12_unit_25 sh_434 hf (fun v79 hf => ?_)
    refine r_bipush (v := 7) dX12_unit_26 rfl ?_
    refine r_lt (q := 35) dX12_unit_28 rfl hf (fun hf => ?_) (fun hf => ?_)
    · refine r_iconst (v := 0) dX12_unit_35 rfl ?_
      exact rj_X12_unit_36 (by omega) 0 T hf
    · exact rj_X12_unit_31 (by omega)  T hf
def lp_X12_e_19 : Nat → Int32 → am_H → Option (am_H)
  | 0, _, _ => none
  | n + 1, x1, h => cal (f_X12_isGood h) fun v12 => if v12 = 0 then some h else bnd (h.1 413 36) fun v14 => if 0 < v14 then if x1 = 0 then cal2 (f_X12_behindUnit h) fun v16 h18 => lp_X12_e_19 n v16 h18 else cal2 (f_X12_unit h) fun v22 h24 => lp_X12_e_19 n v22 h24 else some h
def f_X12_e  (h : am_H) : Option (am_H) := ptI h 413 36 0 fun h1 => ptI h1 413 35 0 fun h4 => cal (f_X12_pushE 8 0 h4) fun h8 => lp_X12_e_19  4000 1 h8
theorem rl_X12_e_19 {X : am_X} {d : Nat} (hd : 4 ≤ d) {r : am_H} : ∀ (n : Nat) (x1 : Int32) (h : am_H), am_TP h.2.2 → lp_X12_e_19 n x1 h = some r → am_G X d 12 false cX12_e none 19 [some (.ref 413), some (.int x1)] [] (am_SH, h) (none, (am_SH, r)) := by
  obtain ⟨d, rfl⟩ : ∃ e, d = e + 1 := ⟨d - 1, by omega⟩
  intro n
  induction n with
  | zero => intro x1 h T hf; cases hf
  | succ n ih =>
    intro x1 h T hf
    rw [lp_X12_e_19] at hf
    refine r_loc dX12_e_19 rfl ?_
    obtain ⟨v12, c11, hf⟩ := cal_inv hf
    have g13 := rf_X12_isGood (X := X) (d := d) (by omega) T c11
    refine r_virt (pre := []) (rest := []) dX12_e_20 ct_12_214 rfl (sh_413) (Nat.le_of_ble_eq_true rfl) (Nat.le_of_ble_eq_true rfl) g13 ?_
    refine r_eq0 (q := 52) dX12_e_23 rfl hf (fun hf => ?_) (fun hf => ?_)
    · cases hf
      exact r_ret T dX12_e_52 rfl
    · refine r_loc dX12_e_26 rfl ?_
      refine r_getI dX12_e_27 fl_12_292 sh_413 rfl hf (fun v14 hf => ?_)
      refine r_le0 (q := 52) dX12_e_30 rfl hf (fun hf => ?_) (fun hf => ?_)
      · cases hf
        exact r_ret T dX12_e_52 rfl
      · refine r_loc dX12_e_33 rfl ?_
        refine r_eq0 (q := 44) dX12_e_34 rfl hf (fun hf => ?_) (fun hf => ?_)
        · refine r_loc dX12_e_44 rfl ?_
          obtain ⟨v16, h18, c15, hf⟩ := cal2_inv hf
          have g20 := rf_X12_behindUnit (X := X) (d := d) (by omega) T c15
          have T19 : am_TP h18.2.2 := g20.2
          refine r_virt (pre := []) (rest := []) dX12_e_45 ct_12_304 rfl (sh_413) (Nat.le_of_ble_eq_true rfl) (Nat.le_of_ble_eq_true rfl) g20 ?_
          refine r_loc (L' := [some (.ref 413), some (.int v16)]) dX12_e_48 rfl ?_
          refine r_goto (q := 19) dX12_e_49 rfl ?_
          exact ih v16 h18 T19 hf
        · refine r_loc dX12_e_37 rfl ?_
          obtain ⟨v22, h24, c21, hf⟩ := cal2_inv hf
          have g26 := rf_X12_unit (X := X) (d := d) (by omega) T c21
          have T25 : am_TP h24.2.2 := g26.2
          refine r_virt (pre := []) (rest := []) dX12_e_38 ct_12_301 rfl (sh_413) (Nat.le_of_ble_eq_true rfl) (Nat.le_of_ble_eq_true rfl) g26 ?_
          refine r_goto (q := 48) dX12_e_41 rfl ?_
          refine r_loc (L' := [some (.ref 413), some (.int v22)]) dX12_e_48 rfl ?_
          refine r_goto (q := 19) dX12_e_49 rfl ?_
          exact ih v22 h24 T25 hf
theorem rf_X12_e {X : am_X} {d : Nat} (hd : 4 ≤ d)  {h : am_H} (T : am_TP h.2.2) {r : am_H} (hf : f_X12_e  h = some r) : am_G X d 12 false cX12_e none 0 [some (.ref 413), none] [] (am_SH, h) (none, (am_SH, r)) := by
  unfold f_X12_e at hf
  obtain ⟨d, rfl⟩ : ∃ e, d = e + 1 := ⟨d - 1, by omega⟩
  refine r_loc dX12_e_0 rfl ?_
  refine r_iconst (v := 0) dX12_e_1 rfl ?_
  refine r_putI dX12_e_2 fl_12_292 sh_413 ⟨rfl, rfl⟩ hf (fun h1 e3 hf => ?_)
  have T2 := tp_eq e3 T
  refine r_loc dX12_e_5 rfl ?_
  refine r_iconst (v := 0) dX12_e_6 rfl ?_
  refine r_putI dX12_e_7 fl_12_295 sh_413 ⟨rfl, rfl⟩ hf (fun h4 e6 hf => ?_)
  have T5 := tp_eq e6 T2
  refine r_loc dX12_e_10 rfl ?_
  refine r_bipush (v := 8) dX12_e_11 rfl ?_
  refine r_iconst (v := 0) dX12_e_13 rfl ?_
  obtain ⟨h8, c7, hf⟩ := cal_inv hf
  have g10 := rf_X12_pushE (X := X) (d := d) (by omega) 8 0 T5 c7
  have T9 : am_TP h8.2.2 := g10.2
  refine r_virt (pre := [.int 0, .int 8]) (rest := []) dX12_e_14 ct_12_298 rfl (sh_413) (Nat.le_of_ble_eq_true rfl) (Nat.le_of_ble_eq_true rfl) g10 ?_
  refine r_iconst (v := 1) dX12_e_17 rfl ?_
  refine r_loc (L' := [some (.ref 413), some (.int 1)]) dX12_e_18 rfl ?_
  refine rl_X12_e_19 (by omega)  4000 1 h8 T9 hf
def f_X12_readRule  (h : am_H) : Option (am_H) := bnd (h.1 413 33) fun v1 => rdI h 422 2 v1 fun v2 => wrI h 422 2 v1 (v2 ||| 1) fun h3 => ptI h3 413 37 0 fun h6 => bnd (h6.1 413 33) fun v9 => bnd (h6.1 413 34) fun v10 => wrI h6 428 2 v9 v10 fun h11 => cal (f_X12_e h11) fun h15 => bnd (h15.1 413 33) fun v18 => bnd (h15.1 413 34) fun v19 => wrI h15 429 2 v18 v19 fun h20 => some h20
theorem rf_X12_readRule {X : am_X} {d : Nat} (hd : 5 ≤ d)  {h : am_H} (T : am_TP h.2.2) {r : am_H} (hf : f_X12_readRule  h = some r) : am_G X d 12 false cX12_readRule none 0 [some (.ref 413)] [] (am_SH, h) (none, (am_SH, r)) := by
  unfold f_X12_readRule at hf
  obtain ⟨d, rfl⟩ : ∃ e, d = e + 1 := ⟨d - 1, by omega⟩
  refine r_loc dX12_readRule_0 rfl ?_
  refine r_getR dX12_readRule_1 fl_12_39 sh_413 (Or.inr ⟨_, rfl⟩) (tp_413_17 T) ?_
  refine r_loc dX12_readRule_4 rfl ?_
  refine r_getI dX12_readRule_5 fl_12_235 sh_413 rfl hf (fun v1 hf => ?_)
  refine r_alu dX12_readRule_8 rfl ?_
  refine r_iald dX12_readRule_9 sh_422 hf (fun v2 hf => ?_)
  refine r_iconst (v := 1) dX12_readRule_10 rfl ?_
  refine r_alu dX12_readRule_11 rfl ?_
  refine r_iast dX12_readRule_12 sh_422 hf (fun h3 e5 hf => ?_)
  have T4 := tp_eq e5 T
  refine r_loc dX12_readRule_13 rfl ?_
  refine r_iconst (v := 0) dX12_readRule_14 rfl ?_
  refine r_putI dX12_readRule_15 fl_12_286 sh_413 ⟨rfl, rfl⟩ hf (fun h6 e8 hf => ?_)
  have T7 := tp_eq e8 T4
  refine r_loc dX12_readRule_18 rfl ?_
  refine r_getR dX12_readRule_19 fl_12_57 sh_413 (Or.inr ⟨_, rfl⟩) (tp_413_23 T7) ?_
  refine r_loc dX12_readRule_22 rfl ?_
  refine r_getI dX12_readRule_23 fl_12_235 sh_413 rfl hf (fun v9 hf => ?_)
  refine r_loc dX12_readRule_26 rfl ?_
  refine r_getI dX12_readRule_27 fl_12_238 sh_413 rfl hf (fun v10 hf => ?_)
  refine r_iast dX12_readRule_30 sh_428 hf (fun h11 e13 hf => ?_)
  have T12 := tp_eq e13 T7
  refine r_loc dX12_readRule_31 rfl ?_
  obtain ⟨h15, c14, hf⟩ := cal_inv hf
  have g17 := rf_X12_e (X := X) (d := d) (by omega) T12 c14
  have T16 : am_TP h15.2.2 := g17.2
  refine r_virt (pre := []) (rest := []) dX12_readRule_32 ct_12_289 rfl (sh_413) (Nat.le_of_ble_eq_true rfl) (Nat.le_of_ble_eq_true rfl) g17 ?_
  refine r_loc dX12_readRule_35 rfl ?_
  refine r_getR dX12_readRule_36 fl_12_60 sh_413 (Or.inr ⟨_, rfl⟩) (tp_413_24 T16) ?_
  refine r_loc dX12_readRule_39 rfl ?_
  refine r_getI dX12_readRule_40 fl_12_235 sh_413 rfl hf (fun v18 hf => ?_)
  refine r_loc dX12_readRule_43 rfl ?_
  refine r_getI dX12_readRule_44 fl_12_238 sh_413 rfl hf (fun v19 hf => ?_)
  refine r_iast dX12_readRule_47 sh_429 hf (fun h20 e22 hf => ?_)
  have T21 := tp_eq e22 T16
  cases hf
  exact r_ret T21 dX12_readRule_48 rfl
def lp_X12_here_413_431_3 (p2 : Int32) (p3 : Int32) (h : am_H) : Nat → Int32 → Option (Int32)
  | 0, _ => none
  | n + 1, x4 => if x4 < p3 then bnd (h.1 413 8) fun v1 => if v1 = 2 then rdL h 431 12 (p2 + x4) fun v2 => bnd (h.2.1 413 10) fun v3 => if (lg_cmp v2 v3) = 0 then some x4 else lp_X12_here_413_431_3 p2 p3 h n (x4 + 1) else lp_X12_here_413_431_3 p2 p3 h n (x4 + 1) else some (-1)
def f_X12_here_413_431 (x2 : Int32) (x3 : Int32) (h : am_H) : Option (Int32) := lp_X12_here_413_431_3 x2 x3 h  4000 0
theorem rl_X12_here_413_431_3 {X : am_X} {d : Nat} (hd : 0 ≤ d) (p2 : Int32) (p3 : Int32) {h : am_H} (T : am_TP h.2.2) {r : Int32} : ∀ (n : Nat) (x4 : Int32) , lp_X12_here_413_431_3 p2 p3 h n x4 = some r → am_G X d 12 false cX12_here (some .int) 3 [some (.ref 413), some (.ref 431), some (.int p2), some (.int p3), some (.int x4)] [] (am_SH, h) (some (.int r), (am_SH, h)) := by
  intro n
  induction n with
  | zero => intro x4 hf; cases hf
  | succ n ih =>
    intro x4 hf
    rw [lp_X12_here_413_431_3] at hf
    refine r_loc dX12_here_3 rfl ?_
    refine r_loc dX12_here_5 rfl ?_
    refine r_ge (q := 40) dX12_here_6 rfl hf (fun hf => ?_) (fun hf => ?_)
    · refine r_iconst (v := (-1)) dX12_here_40 rfl ?_
      cases hf
      exact r_ri T dX12_here_41
    · refine r_loc dX12_here_9 rfl ?_
      refine r_getI dX12_here_10 fl_12_186 sh_413 rfl hf (fun v1 hf => ?_)
      refine r_iconst (v := 2) dX12_here_13 rfl ?_
      refine r_ne (q := 34) dX12_here_14 rfl hf (fun hf => ?_) (fun hf => ?_)
      · refine r_loc (L' := [some (.ref 413), some (.ref 431), some (.int p2), some (.int p3), some (.int (x4 + 1))]) dX12_here_34 rfl ?_
        refine r_goto (q := 3) dX12_here_37 rfl ?_
        exact ih (x4 + 1) hf
      · refine r_loc dX12_here_17 rfl ?_
        refine r_loc dX12_here_18 rfl ?_
        refine r_loc dX12_here_19 rfl ?_
        refine r_alu dX12_here_21 rfl ?_
        refine r_lald dX12_here_22 sh_431 hf (fun v2 hf => ?_)
        refine r_loc dX12_here_23 rfl ?_
        refine r_getL dX12_here_24 fl_12_193 sh_413 rfl hf (fun v3 hf => ?_)
        refine r_alu dX12_here_27 rfl ?_
        refine r_ne0 (q := 34) dX12_here_28 rfl hf (fun hf => ?_) (fun hf => ?_)
        · refine r_loc (L' := [some (.ref 413), some (.ref 431), some (.int p2), some (.int p3), some (.int (x4 + 1))]) dX12_here_34 rfl ?_
          refine r_goto (q := 3) dX12_here_37 rfl ?_
          exact ih (x4 + 1) hf
        · refine r_loc dX12_here_31 rfl ?_
          cases hf
          exact r_ri T dX12_here_33
theorem rf_X12_here_413_431 {X : am_X} {d : Nat} (hd : 0 ≤ d) (x2 : Int32) (x3 : Int32) {h : am_H} (T : am_TP h.2.2) {r : Int32} (hf : f_X12_here_413_431 x2 x3 h = some r) : am_G X d 12 false cX12_here (some .int) 0 [some (.ref 413), some (.ref 431), some (.int x2), some (.int x3), none] [] (am_SH, h) (some (.int r), (am_SH, h)) := by
  unfold f_X12_here_413_431 at hf
  refine r_iconst (v := 0) dX12_here_0 rfl ?_
  refine r_loc (L' := [some (.ref 413), some (.ref 431), some (.int x2), some (.int x3), some (.int 0)]) dX12_here_1 rfl ?_
  refine rl_X12_here_413_431_3 (by omega) x2 x3 T  4000 0  hf
def jn_X12_fresh_37  (h : am_H) : Option (Int64 × am_H) := bnd (h.2.1 413 10) fun v5 => cal (f_X12_isGood h) fun v7 => if v7 = 0 then some (v5, h) else cal (f_X12_goOn h) fun h10 => some (v5, h10)
def f_X12_fresh (x1 : Int32) (h : am_H) : Option (Int64 × am_H) := cal (f_X12_isGood h) fun v2 => if v2 = 0 then some (0, h) else bnd (h.1 413 8) fun v4 => if v4 = 2 then if x1 < 0 then jn_X12_fresh_37  h else bnd (h.1 413 6) fun v13 => cal (f_X12_fails 3 v13 h) fun h15 => jn_X12_fresh_37  h15 else cal (f_X12_misplaced h) fun h19 => jn_X12_fresh_37  h19
theorem rj_X12_fresh_37 {X : am_X} {d : Nat} (hd : 2 ≤ d)  {h : am_H} (T : am_TP h.2.2) {r : Int64 × am_H} (hf : jn_X12_fresh_37  h = some r) : am_G X d 12 false cX12_fresh (some .long) 37 [some (.ref 413), none, none, none] [] (am_SH, h) (some (.long r.1), (am_SH, r.2)) := by
  obtain ⟨d, rfl⟩ : ∃ e, d = e + 1 := ⟨d - 1, by omega⟩
  unfold jn_X12_fresh_37 at hf
  refine r_loc dX12_fresh_37 rfl ?_
  refine r_getL dX12_fresh_38 fl_12_193 sh_413 rfl hf (fun v5 hf => ?_)
  refine r_loc (L' := [some (.ref 413), none, some (.long v5), none]) dX12_fresh_41 rfl ?_
  refine r_loc dX12_fresh_42 rfl ?_
  obtain ⟨v7, c6, hf⟩ := cal_inv hf
  have g8 := rf_X12_isGood (X := X) (d := d) (by omega) T c6
  refine r_virt (pre := []) (rest := []) dX12_fresh_43 ct_12_214 rfl (sh_413) (Nat.le_of_ble_eq_true rfl) (Nat.le_of_ble_eq_true rfl) g8 ?_
  refine r_eq0 (q := 53) dX12_fresh_46 rfl hf (fun hf => ?_) (fun hf => ?_)
  · refine r_loc dX12_fresh_53 rfl ?_
    cases hf
    exact r_ret T dX12_fresh_54 rfl
  · refine r_loc dX12_fresh_49 rfl ?_
    obtain ⟨h10, c9, hf⟩ := cal_inv hf
    have g12 := rf_X12_goOn (X := X) (d := d) (by omega) T c9
    have T11 : am_TP h10.2.2 := g12.2
    refine r_virt (pre := []) (rest := []) dX12_fresh_50 ct_12_218 rfl (sh_413) (Nat.le_of_ble_eq_true rfl) (Nat.le_of_ble_eq_true rfl) g12 ?_
    refine r_loc dX12_fresh_53 rfl ?_
    cases hf
    exact r_ret T11 dX12_fresh_54 rfl
theorem rf_X12_fresh {X : am_X} {d : Nat} (hd : 2 ≤ d) (x1 : Int32) {h : am_H} (T : am_TP h.2.2) {r : Int64 × am_H} (hf : f_X12_fresh x1 h = some r) : am_G X d 12 false cX12_fresh (some .long) 0 [some (.ref 413), some (.int x1), none, none] [] (am_SH, h) (some (.long r.1), (am_SH, r.2)) := by
  unfold f_X12_fresh at hf
  obtain ⟨d, rfl⟩ : ∃ e, d = e + 1 := ⟨d - 1, by omega⟩
  refine r_loc dX12_fresh_0 rfl ?_
  obtain ⟨v2, c1, hf⟩ := cal_inv hf
  have g3 := rf_X12_isGood (X := X) (d := d) (by omega) T c1
  refine r_virt (pre := []) (rest := []) dX12_fresh_1 ct_12_214 rfl (sh_413) (Nat.le_of_ble_eq_true rfl) (Nat.le_of_ble_eq_true rfl) g3 ?_
  refine r_ne0 (q := 9) dX12_fresh_4 rfl hf (fun hf => ?_) (fun hf => ?_)
  · refine r_loc dX12_fresh_9 rfl ?_
    refine r_getI dX12_fresh_10 fl_12_186 sh_413 rfl hf (fun v4 hf => ?_)
    refine r_iconst (v := 2) dX12_fresh_13 rfl ?_
    refine r_eq (q := 24) dX12_fresh_14 rfl hf (fun hf => ?_) (fun hf => ?_)
    · refine r_loc dX12_fresh_24 rfl ?_
      refine r_lt0 (q := 37) dX12_fresh_25 rfl hf (fun hf => ?_) (fun hf => ?_)
      · refine r_weak (L := [some (.ref 413), none, none, none]) (am_le_s (am_le_n (am_le_n (am_le_n am_le_0)))) ?_
        exact rj_X12_fresh_37 (by omega)  T hf
      · refine r_loc dX12_fresh_28 rfl ?_
        refine r_iconst (v := 3) dX12_fresh_29 rfl ?_
        refine r_loc dX12_fresh_30 rfl ?_
        refine r_getI dX12_fresh_31 fl_12_179 sh_413 rfl hf (fun v13 hf => ?_)
        obtain ⟨h15, c14, hf⟩ := cal_inv hf
        have g17 := rf_X12_fails (X := X) (d := d) (by omega) 3 v13 T c14
        have T16 : am_TP h15.2.2 := g17.2
        refine r_virt (pre := [.int v13, .int 3]) (rest := []) dX12_fresh_34 ct_12_210 rfl (sh_413) (Nat.le_of_ble_eq_true rfl) (Nat.le_of_ble_eq_true rfl) g17 ?_
        refine r_weak (L := [some (.ref 413), none, none, none]) (am_le_s (am_le_n (am_le_n (am_le_n am_le_0)))) ?_
        exact rj_X12_fresh_37 (by omega)  T16 hf
    · refine r_loc dX12_fresh_17 rfl ?_
      obtain ⟨h19, c18, hf⟩ := cal_inv hf
      have g21 := rf_X12_misplaced (X := X) (d := d) (by omega) T c18
      have T20 : am_TP h19.2.2 := g21.2
      refine r_virt (pre := []) (rest := []) dX12_fresh_18 ct_12_221 rfl (sh_413) (Nat.le_of_ble_eq_true rfl) (Nat.le_of_ble_eq_true rfl) g21 ?_
      refine r_goto (q := 37) dX12_fresh_21 rfl ?_
      refine r_weak (L := [some (.ref 413), none, none, none]) (am_le_s (am_le_n (am_le_n (am_le_n am_le_0)))) ?_
      exact rj_X12_fresh_37 (by omega)  T20 hf
  · refine r_alu (st' := [.long 0]) dX12_fresh_7 rfl ?_
    cases hf
    exact r_ret T dX12_fresh_8 rfl
def f_X12_after (x1 : Int64) (x3 : Int32) (x4 : Int32) (h : am_H) : Option (Int32 × am_H) := cal (f_X12_isWord x1 h) fun v2 => cal (f_X12_must v2 h) fun h5 => cal2 (f_X12_numeral x3 x4 h5) fun v9 h11 => some (v9, h11)
theorem rf_X12_after {X : am_X} {d : Nat} (hd : 3 ≤ d) (x1 : Int64) (x3 : Int32) (x4 : Int32) {h : am_H} (T : am_TP h.2.2) {r : Int32 × am_H} (hf : f_X12_after x1 x3 x4 h = some r) : am_G X d 12 false cX12_after (some .int) 0 [some (.ref 413), some (.long x1), none, some (.int x3), some (.int x4)] [] (am_SH, h) (some (.int r.1), (am_SH, r.2)) := by
  unfold f_X12_after at hf
  obtain ⟨d, rfl⟩ : ∃ e, d = e + 1 := ⟨d - 1, by omega⟩
  refine r_loc dX12_after_0 rfl ?_
  refine r_loc dX12_after_1 rfl ?_
  refine r_loc dX12_after_2 rfl ?_
  obtain ⟨v2, c1, hf⟩ := cal_inv hf
  have g3 := rf_X12_isWord (X := X) (d := d) (by omega) x1 T c1
  refine r_virt (pre := [.long x1]) (rest := [.ref 413]) dX12_after_3 ct_12_224 rfl (sh_413) (Nat.le_of_ble_eq_true rfl) (Nat.le_of_ble_eq_true rfl) g3 ?_
  obtain ⟨h5, c4, hf⟩ := cal_inv hf
  have g7 := rf_X12_must (X := X) (d := d) (by omega) v2 T c4
  have T6 : am_TP h5.2.2 := g7.2
  refine r_virt (pre := [.int v2]) (rest := []) dX12_after_6 ct_12_227 rfl (sh_413) (Nat.le_of_ble_eq_true rfl) (Nat.le_of_ble_eq_true rfl) g7 ?_
  refine r_loc dX12_after_9 rfl ?_
  refine r_loc dX12_after_10 rfl ?_
  refine r_loc dX12_after_11 rfl ?_
  obtain ⟨v9, h11, c8, hf⟩ := cal2_inv hf
  have g13 := rf_X12_numeral (X := X) (d := d) (by omega) x3 x4 T6 c8
  have T12 : am_TP h11.2.2 := g13.2
  refine r_virt (pre := [.int x4, .int x3]) (rest := []) dX12_after_13 ct_12_231 rfl (sh_413) (Nat.le_of_ble_eq_true rfl) (Nat.le_of_ble_eq_true rfl) g13 ?_
  cases hf
  exact r_ri T12 dX12_after_16
def lp_X12_here_413_430_3 (p2 : Int32) (p3 : Int32) (h : am_H) : Nat → Int32 → Option (Int32)
  | 0, _ => none
  | n + 1, x4 => if x4 < p3 then bnd (h.1 413 8) fun v1 => if v1 = 2 then rdL h 430 8 (p2 + x4) fun v2 => bnd (h.2.1 413 10) fun v3 => if (lg_cmp v2 v3) = 0 then some x4 else lp_X12_here_413_430_3 p2 p3 h n (x4 + 1) else lp_X12_here_413_430_3 p2 p3 h n (x4 + 1) else some (-1)
def f_X12_here_413_430 (x2 : Int32) (x3 : Int32) (h : am_H) : Option (Int32) := lp_X12_here_413_430_3 x2 x3 h  4000 0
theorem rl_X12_here_413_430_3 {X : am_X} {d : Nat} (hd : 0 ≤ d) (p2 : Int32) (p3 : Int32) {h : am_H} (T : am_TP h.2.2) {r : Int32} : ∀ (n : Nat) (x4 : Int32) , lp_X12_here_413_430_3 p2 p3 h n x4 = some r → am_G X d 12 false cX12_here (some .int) 3 [some (.ref 413), some (.ref 430), some (.int p2), some (.int p3), some (.int x4)] [] (am_SH, h) (some (.int r), (am_SH, h)) := by
  intro n
  induction n with
  | zero => intro x4 hf; cases hf
  | succ n ih =>
    intro x4 hf
    rw [lp_X12_here_413_430_3] at hf
    refine r_loc dX12_here_3 rfl ?_
    refine r_loc dX12_here_5 rfl ?_
    refine r_ge (q := 40) dX12_here_6 rfl hf (fun hf => ?_) (fun hf => ?_)
    · refine r_iconst (v := (-1)) dX12_here_40 rfl ?_
      cases hf
      exact r_ri T dX12_here_41
    · refine r_loc dX12_here_9 rfl ?_
      refine r_getI dX12_here_10 fl_12_186 sh_413 rfl hf (fun v1 hf => ?_)
      refine r_iconst (v := 2) dX12_here_13 rfl ?_
      refine r_ne (q := 34) dX12_here_14 rfl hf (fun hf => ?_) (fun hf => ?_)
      · refine r_loc (L' := [some (.ref 413), some (.ref 430), some (.int p2), some (.int p3), some (.int (x4 + 1))]) dX12_here_34 rfl ?_
        refine r_goto (q := 3) dX12_here_37 rfl ?_
        exact ih (x4 + 1) hf
      · refine r_loc dX12_here_17 rfl ?_
        refine r_loc dX12_here_18 rfl ?_
        refine r_loc dX12_here_19 rfl ?_
        refine r_alu dX12_here_21 rfl ?_
        refine r_lald dX12_here_22 sh_430 hf (fun v2 hf => ?_)
        refine r_loc dX12_here_23 rfl ?_
        refine r_getL dX12_here_24 fl_12_193 sh_413 rfl hf (fun v3 hf => ?_)
        refine r_alu dX12_here_27 rfl ?_
        refine r_ne0 (q := 34) dX12_here_28 rfl hf (fun hf => ?_) (fun hf => ?_)
        · refine r_loc (L' := [some (.ref 413), some (.ref 430), some (.int p2), some (.int p3), some (.int (x4 + 1))]) dX12_here_34 rfl ?_
          refine r_goto (q := 3) dX12_here_37 rfl ?_
          exact ih (x4 + 1) hf
        · refine r_loc dX12_here_31 rfl ?_
          cases hf
          exact r_ri T dX12_here_33
theorem rf_X12_here_413_430 {X : am_X} {d : Nat} (hd : 0 ≤ d) (x2 : Int32) (x3 : Int32) {h : am_H} (T : am_TP h.2.2) {r : Int32} (hf : f_X12_here_413_430 x2 x3 h = some r) : am_G X d 12 false cX12_here (some .int) 0 [some (.ref 413), some (.ref 430), some (.int x2), some (.int x3), none] [] (am_SH, h) (some (.int r), (am_SH, h)) := by
  unfold f_X12_here_413_430 at hf
  refine r_iconst (v := 0) dX12_here_0 rfl ?_
  refine r_loc (L' := [some (.ref 413), some (.ref 430), some (.int x2), some (.int x3), some (.int 0)]) dX12_here_1 rfl ?_
  refine rl_X12_here_413_430_3 (by omega) x2 x3 T  4000 0  hf
def f_X12_roomHere  (h : am_H) : Option (Int32) := bnd (h.1 413 33) fun v1 => bnd (h.1 413 33) fun v2 => rdI h 416 2 v2 fun v3 => cal (f_X12_here_413_430 ((4 : Int32) * v1) v3 h) fun v5 => some v5
theorem rf_X12_roomHere {X : am_X} {d : Nat} (hd : 1 ≤ d)  {h : am_H} (T : am_TP h.2.2) {r : Int32} (hf : f_X12_roomHere  h = some r) : am_G X d 12 false cX12_roomHere (some .int) 0 [some (.ref 413)] [] (am_SH, h) (some (.int r), (am_SH, h)) := by
  unfold f_X12_roomHere at hf
  obtain ⟨d, rfl⟩ : ∃ e, d = e + 1 := ⟨d - 1, by omega⟩
  refine r_loc dX12_roomHere_0 rfl ?_
  refine r_loc dX12_roomHere_1 rfl ?_
  refine r_getR dX12_roomHere_2 fl_12_63 sh_413 (Or.inr ⟨_, rfl⟩) (tp_413_25 T) ?_
  refine r_iconst (v := 4) dX12_roomHere_5 rfl ?_
  refine r_loc dX12_roomHere_6 rfl ?_
  refine r_getI dX12_roomHere_7 fl_12_235 sh_413 rfl hf (fun v1 hf => ?_)
  refine r_alu dX12_roomHere_10 rfl ?_
  refine r_loc dX12_roomHere_11 rfl ?_
  refine r_getR dX12_roomHere_12 fl_12_20 sh_413 (Or.inr ⟨_, rfl⟩) (tp_413_11 T) ?_
  refine r_loc dX12_roomHere_15 rfl ?_
  refine r_getI dX12_roomHere_16 fl_12_235 sh_413 rfl hf (fun v2 hf => ?_)
  refine r_iald dX12_roomHere_19 sh_416 hf (fun v3 hf => ?_)
  obtain ⟨v5, c4, hf⟩ := cal_inv hf
  have g6 := rf_X12_here_413_430 (X := X) (d := d) (by omega) ((4 : Int32) * v1) v3 T c4
  refine r_virt (pre := [.int v3, .int ((4 : Int32) * v1), .ref 430]) (rest := []) dX12_roomHere_20 ct_12_282 rfl (sh_413) (Nat.le_of_ble_eq_true rfl) (Nat.le_of_ble_eq_true rfl) g6 ?_
  cases hf
  exact r_ri T dX12_roomHere_23
def lp_X12_readTrunk_123 (p1 : Int32) (p2 : Int32) (k_160 : Int32 → am_H → Option (am_H)) : Nat → Int32 → Int32 → am_H → Option (am_H)
  | 0, _, _, _ => none
  | n + 1, x3, x4, h => if x4 < p1 then rdI h 425 12 x4 fun v44 => if v44 = p2 then rdI h 424 12 x4 fun v45 => lp_X12_readTrunk_123 p1 p2 k_160 n (x3 - v45) (x4 + 1) h else lp_X12_readTrunk_123 p1 p2 k_160 n (x3 - 0) (x4 + 1) h else k_160 x3 h
def jn_X12_readTrunk_291  (h : am_H) : Option (am_H) := bnd (h.1 413 33) fun v74 => rdI h 417 2 v74 fun v75 => wrI h 417 2 v74 (v75 + 1) fun h76 => some h76
def jn_X12_readTrunk_210 (x1 : Int32) (x2 : Int32) (h : am_H) : Option (am_H) := wrI h 425 12 x1 x2 fun h51 => bnd (h51.1 413 8) fun v54 => if v54 = 2 then cal (f_X12_must 1 h51) fun h96 => cal2 (f_X12_after 469786323827 0 63 h96) fun v100 h102 => wrI h102 426 12 x1 v100 fun h105 => wrI h105 427 12 x1 0 fun h108 => cal (f_X12_isGood h108) fun v112 => if v112 = 0 then jn_X12_readTrunk_291  h108 else cal (f_X12_isWord 1953459300 h108) fun v115 => if v115 = 0 then jn_X12_readTrunk_291  h108 else cal (f_X12_goOn h108) fun h118 => cal2 (f_X12_numeral 0 9 h118) fun v122 h124 => wrI h124 427 12 x1 v122 fun h127 => jn_X12_readTrunk_291  h127 else cal (f_X12_must 0 h51) fun h56 => cal2 (f_X12_after 469786323827 0 63 h56) fun v60 h62 => wrI h62 426 12 x1 v60 fun h65 => wrI h65 427 12 x1 0 fun h68 => cal (f_X12_isGood h68) fun v72 => if v72 = 0 then jn_X12_readTrunk_291  h68 else cal (f_X12_isWord 1953459300 h68) fun v80 => if v80 = 0 then jn_X12_readTrunk_291  h68 else cal (f_X12_goOn h68) fun h83 => cal2 (f_X12_numeral 0 9 h83) fun v87 h89 => wrI h89 427 12 x1 v87 fun h92 => jn_X12_readTrunk_291  h92
def f_X12_readTrunk  (h : am_H) : Option (am_H) := bnd (h.1 413 33) fun v1 => bnd (h.1 413 33) fun v2 => rdI h 417 2 v2 fun v3 => bnd (h.1 413 33) fun v4 => bnd (h.1 413 33) fun v5 => rdI h 417 2 v5 fun v6 => cal (f_X12_here_413_431 ((6 : Int32) * v4) v6 h) fun v8 => cal2 (f_X12_fresh v8 h) fun v11 h13 => wrL h13 431 12 (((6 : Int32) * v1) + v3) v11 fun h16 => cal2 (f_X12_after 1651862635 1 20 h16) fun v20 h22 => wrI h22 424 12 (((6 : Int32) * v1) + v3) v20 fun h25 => cal (f_X12_isWord 24948 h25) fun v29 => cal (f_X12_must v29 h25) fun h32 => cal (f_X12_isGood h32) fun v36 => if v36 = 0 then some h32 else cal (f_X12_roomHere h32) fun v39 => if v39 < 0 then bnd (h32.1 413 33) fun v144 => lp_X12_readTrunk_123 (((6 : Int32) * v1) + v3) v39 (fun z145 h146 => bnd (h146.1 413 8) fun v148 => if v148 = 2 then if v39 < 0 then bnd (h146.1 413 6) fun v155 => cal (f_X12_fails 5 v155 h146) fun h157 => jn_X12_readTrunk_210 (((6 : Int32) * v1) + v3) v39 h157 else rdI h146 424 12 (((6 : Int32) * v1) + v3) fun v149 => if z145 < v149 then bnd (h146.1 413 6) fun v150 => cal (f_X12_fails 3 v150 h146) fun h152 => jn_X12_readTrunk_210 (((6 : Int32) * v1) + v3) v39 h152 else jn_X12_readTrunk_210 (((6 : Int32) * v1) + v3) v39 h146 else cal (f_X12_misplaced h146) fun h161 => jn_X12_readTrunk_210 (((6 : Int32) * v1) + v3) v39 h161) 4000 0 ((6 : Int32) * v144) h32 else bnd (h32.1 413 33) fun v41 => rdI h32 423 8 (((4 : Int32) * v41) + v39) fun v42 => bnd (h32.1 413 33) fun v43 => lp_X12_readTrunk_123 (((6 : Int32) * v1) + v3) v39 (fun z46 h47 => bnd (h47.1 413 8) fun v49 => if v49 = 2 then if v39 < 0 then bnd (h47.1 413 6) fun v135 => cal (f_X12_fails 5 v135 h47) fun h137 => jn_X12_readTrunk_210 (((6 : Int32) * v1) + v3) v39 h137 else rdI h47 424 12 (((6 : Int32) * v1) + v3) fun v50 => if z46 < v50 then bnd (h47.1 413 6) fun v130 => cal (f_X12_fails 3 v130 h47) fun h132 => jn_X12_readTrunk_210 (((6 : Int32) * v1) + v3) v39 h132 else jn_X12_readTrunk_210 (((6 : Int32) * v1) + v3) v39 h47 else cal (f_X12_misplaced h47) fun h141 => jn_X12_readTrunk_210 (((6 : Int32) * v1) + v3) v39 h141) 4000 v42 ((6 : Int32) * v43) h32
theorem rl_X12_readTrunk_123 {X : am_X} {d : Nat} (hd : 4 ≤ d) (p1 : Int32) (p2 : Int32) (k_160 : Int32 → am_H → Option (am_H)) {r : am_H} (hk_160 : ∀ (z3 : Int32) (h : am_H), am_TP h.2.2 → k_160 z3 h = some r → am_G X d 12 false cX12_readTrunk none 160 [some (.ref 413), some (.int p1), some (.int p2), some (.int z3), none] [] (am_SH, h) (none, (am_SH, r))) : ∀ (n : Nat) (x3 : Int32) (x4 : Int32) (h : am_H), am_TP h.2.2 → lp_X12_readTrunk_123 p1 p2 k_160 n x3 x4 h = some r → am_G X d 12 false cX12_readTrunk none 123 [some (.ref 413), some (.int p1), some (.int p2), some (.int x3), some (.int x4)] [] (am_SH, h) (none, (am_SH, r)) := by
  obtain ⟨d, rfl⟩ : ∃ e, d = e + 1 := ⟨d - 1, by omega⟩
  intro n
  induction n with
  | zero => intro x3 x4 h T hf; cases hf
  | succ n ih =>
    intro x3 x4 h T hf
    rw [lp_X12_readTrunk_123] at hf
    refine r_loc dX12_readTrunk_123 rfl ?_
    refine r_loc dX12_readTrunk_125 rfl ?_
    refine r_ge (q := 160) dX12_readTrunk_126 rfl hf (fun hf => ?_) (fun hf => ?_)
    · refine r_weak (L := [some (.ref 413), some (.int p1), some (.int p2), some (.int x3), none]) (am_le_s (am_le_s (am_le_s (am_le_s (am_le_n am_le_0))))) ?_
      exact hk_160 x3 h T hf
    · refine r_loc dX12_readTrunk_129 rfl ?_
      refine r_loc dX12_readTrunk_130 rfl ?_
      refine r_getR dX12_readTrunk_131 fl_12_48 sh_413 (Or.inr ⟨_, rfl⟩) (tp_413_20 T) ?_
      refine r_loc dX12_readTrunk_134 rfl ?_
      refine r_iald dX12_readTrunk_136 sh_425 hf (fun v44 hf => ?_)
      refine r_loc dX12_readTrunk_137 rfl ?_
      refine r_ne (q := 151) dX12_readTrunk_138 rfl hf (fun hf => ?_) (fun hf => ?_)
      · refine r_iconst (v := 0) dX12_readTrunk_151 rfl ?_
        refine r_alu dX12_readTrunk_152 rfl ?_
        refine r_loc (L' := [some (.ref 413), some (.int p1), some (.int p2), some (.int (x3 - 0)), some (.int x4)]) dX12_readTrunk_153 rfl ?_
        refine r_loc (L' := [some (.ref 413), some (.int p1), some (.int p2), some (.int (x3 - 0)), some (.int (x4 + 1))]) dX12_readTrunk_154 rfl ?_
        refine r_goto (q := 123) dX12_readTrunk_157 rfl ?_
        exact ih (x3 - 0) (x4 + 1) h T hf
      · refine r_loc dX12_readTrunk_141 rfl ?_
        refine r_getR dX12_readTrunk_142 fl_12_45 sh_413 (Or.inr ⟨_, rfl⟩) (tp_413_19 T) ?_
        refine r_loc dX12_readTrunk_145 rfl ?_
        refine r_iald dX12_readTrunk_147 sh_424 hf (fun v45 hf => ?_)
        refine r_goto (q := 152) dX12_readTrunk_148 rfl ?_
        refine r_alu dX12_readTrunk_152 rfl ?_
        refine r_loc (L' := [some (.ref 413), some (.int p1), some (.int p2), some (.int (x3 - v45)), some (.int x4)]) dX12_readTrunk_153 rfl ?_
        refine r_loc (L' := [some (.ref 413), some (.int p1), some (.int p2), some (.int (x3 - v45)), some (.int (x4 + 1))]) dX12_readTrunk_154 rfl ?_
        refine r_goto (q := 123) dX12_readTrunk_157 rfl ?_
        exact ih (x3 - v45) (x4 + 1) h T hf
theorem rj_X12_readTrunk_291 {X : am_X} {d : Nat} (hd : 4 ≤ d)  {h : am_H} (T : am_TP h.2.2) {r : am_H} (hf : jn_X12_readTrunk_291  h = some r) : am_G X d 12 false cX12_readTrunk none 291 [some (.ref 413), none, none, none, none] [] (am_SH, h) (none, (am_SH, r)) := by
  obtain ⟨d, rfl⟩ : ∃ e, d = e + 1 := ⟨d - 1, by omega⟩
  unfold jn_X12_readTrunk_291 at hf
  refine r_loc dX12_readTrunk_291 rfl ?_
  refine r_getR dX12_readTrunk_292 fl_12_24 sh_413 (Or.inr ⟨_, rfl⟩) (tp_413_12 T) ?_
  refine r_loc dX12_readTrunk_295 rfl ?_
  refine r_getI dX12_readTrunk_296 fl_12_235 sh_413 rfl hf (fun v74 hf => ?_)
  refine r_alu dX12_readTrunk_299 rfl ?_
  refine r_iald dX12_readTrunk_300 sh_417 hf (fun v75 hf => ?_)
  refine r_iconst (v := 1) dX12_readTrunk_301 rfl ?_
  refine r_alu dX12_readTrunk_302 rfl ?_
  refine r_iast dX12_readTrunk_303 sh_417 hf (fun h76 e78 hf => ?_)
  have T77 := tp_eq e78 T
  cases hf
  exact r_ret T77 dX12_readTrunk_304 rfl
theorem rj_X12_readTrunk_210 {X : am_X} {d : Nat} (hd : 4 ≤ d) (x1 : Int32) (x2 : Int32) {h : am_H} (T : am_TP h.2.2) {r : am_H} (hf : jn_X12_readTrunk_210 x1 x2 h = some r) : am_G X d 12 false cX12_readTrunk none 210 [some (.ref 413), some (.int x1), some (.int x2), none, none] [] (am_SH, h) (none, (am_SH, r)) := by
  obtain ⟨d, rfl⟩ : ∃ e, d = e + 1 := ⟨d - 1, by omega⟩
  unfold jn_X12_readTrunk_210 at hf
  refine r_loc dX12_readTrunk_210 rfl ?_
  refine r_getR dX12_readTrunk_211 fl_12_48 sh_413 (Or.inr ⟨_, rfl⟩) (tp_413_20 T) ?_
  refine r_loc dX12_readTrunk_214 rfl ?_
  refine r_loc dX12_readTrunk_215 rfl ?_
  refine r_iast dX12_readTrunk_216 sh_425 hf (fun h51 e53 hf => ?_)
  have T52 := tp_eq e53 T
  refine r_loc dX12_readTrunk_217 rfl ?_
  refine r_loc dX12_readTrunk_218 rfl ?_
  refine r_getI dX12_readTrunk_219 fl_12_186 sh_413 rfl hf (fun v54 hf => ?_)
  refine r_iconst (v := 2) dX12_readTrunk_222 rfl ?_
  refine r_ne (q := 230) dX12_readTrunk_223 rfl hf (fun hf => ?_) (fun hf => ?_)
  · refine r_iconst (v := 0) dX12_readTrunk_230 rfl ?_
    obtain ⟨h56, c55, hf⟩ := cal_inv hf
    have g58 := rf_X12_must (X := X) (d := d) (by omega) 0 T52 c55
    have T57 : am_TP h56.2.2 := g58.2
    refine r_virt (pre := [.int 0]) (rest := []) dX12_readTrunk_231 ct_12_227 rfl (sh_413) (Nat.le_of_ble_eq_true rfl) (Nat.le_of_ble_eq_true rfl) g58 ?_
    refine r_loc dX12_readTrunk_234 rfl ?_
    refine r_getR dX12_readTrunk_235 fl_12_51 sh_413 (Or.inr ⟨_, rfl⟩) (tp_413_21 T57) ?_
    refine r_loc dX12_readTrunk_238 rfl ?_
    refine r_loc dX12_readTrunk_239 rfl ?_
    refine r_ldc2 dX12_readTrunk_240 k64_12_150 ?_
    refine r_iconst (v := 0) dX12_readTrunk_243 rfl ?_
    refine r_bipush (v := 63) dX12_readTrunk_244 rfl ?_
    obtain ⟨v60, h62, c59, hf⟩ := cal2_inv hf
    have g64 := rf_X12_after (X := X) (d := d) (by omega) 469786323827 0 63 T57 c59
    have T63 : am_TP h62.2.2 := g64.2
    refine r_virt (pre := [.int 63, .int 0, .long 469786323827]) (rest := [.int x1, .ref 426]) dX12_readTrunk_246 ct_12_265 rfl (sh_413) (Nat.le_of_ble_eq_true rfl) (Nat.le_of_ble_eq_true rfl) g64 ?_
    refine r_iast dX12_readTrunk_249 sh_426 hf (fun h65 e67 hf => ?_)
    have T66 := tp_eq e67 T63
    refine r_loc dX12_readTrunk_250 rfl ?_
    refine r_getR dX12_readTrunk_251 fl_12_54 sh_413 (Or.inr ⟨_, rfl⟩) (tp_413_22 T66) ?_
    refine r_loc dX12_readTrunk_254 rfl ?_
    refine r_iconst (v := 0) dX12_readTrunk_255 rfl ?_
    refine r_iast dX12_readTrunk_256 sh_427 hf (fun h68 e70 hf => ?_)
    have T69 := tp_eq e70 T66
    refine r_loc dX12_readTrunk_257 rfl ?_
    obtain ⟨v72, c71, hf⟩ := cal_inv hf
    have g73 := rf_X12_isGood (X := X) (d := d) (by omega) T69 c71
    refine r_virt (pre := []) (rest := []) dX12_readTrunk_258 ct_12_214 rfl (sh_413) (Nat.le_of_ble_eq_true rfl) (Nat.le_of_ble_eq_true rfl) g73 ?_
    refine r_eq0 (q := 291) dX12_readTrunk_261 rfl hf (fun hf => ?_) (fun hf => ?_)
    · refine r_weak (L := [some (.ref 413), none, none, none, none]) (am_le_s (am_le_n (am_le_n (am_le_n (am_le_n am_le_0))))) ?_
      exact rj_X12_readTrunk_291 (by omega)  T69 hf
    · refine r_loc dX12_readTrunk_264 rfl ?_
      refine r_ldc2 dX12_readTrunk_265 k64_12_152 ?_
      obtain ⟨v80, c79, hf⟩ := cal_inv hf
      have g81 := rf_X12_isWord (X := X) (d := d) (by omega) 1953459300 T69 c79
      refine r_virt (pre := [.long 1953459300]) (rest := []) dX12_readTrunk_268 ct_12_224 rfl (sh_413) (Nat.le_of_ble_eq_true rfl) (Nat.le_of_ble_eq_true rfl) g81 ?_
      refine r_eq0 (q := 291) dX12_readTrunk_271 rfl hf (fun hf => ?_) (fun hf => ?_)
      · refine r_weak (L := [some (.ref 413), none, none, none, none]) (am_le_s (am_le_n (am_le_n (am_le_n (am_le_n am_le_0))))) ?_
        exact rj_X12_readTrunk_291 (by omega)  T69 hf
      · refine r_loc dX12_readTrunk_274 rfl ?_
        obtain ⟨h83, c82, hf⟩ := cal_inv hf
        have g85 := rf_X12_goOn (X := X) (d := d) (by omega) T69 c82
        have T84 : am_TP h83.2.2 := g85.2
        refine r_virt (pre := []) (rest := []) dX12_readTrunk_275 ct_12_218 rfl (sh_413) (Nat.le_of_ble_eq_true rfl) (Nat.le_of_ble_eq_true rfl) g85 ?_
        refine r_loc dX12_readTrunk_278 rfl ?_
        refine r_getR dX12_readTrunk_279 fl_12_54 sh_413 (Or.inr ⟨_, rfl⟩) (tp_413_22 T84) ?_
        refine r_loc dX12_readTrunk_282 rfl ?_
        refine r_loc dX12_readTrunk_283 rfl ?_
        refine r_iconst (v := 0) dX12_readTrunk_284 rfl ?_
        refine r_bipush (v := 9) dX12_readTrunk_285 rfl ?_
        obtain ⟨v87, h89, c86, hf⟩ := cal2_inv hf
        have g91 := rf_X12_numeral (X := X) (d := d) (by omega) 0 9 T84 c86
        have T90 : am_TP h89.2.2 := g91.2
        refine r_virt (pre := [.int 9, .int 0]) (rest := [.int x1, .ref 427]) dX12_readTrunk_287 ct_12_231 rfl (sh_413) (Nat.le_of_ble_eq_true rfl) (Nat.le_of_ble_eq_true rfl) g91 ?_
        refine r_iast dX12_readTrunk_290 sh_427 hf (fun h92 e94 hf => ?_)
        have T93 := tp_eq e94 T90
        refine r_weak (L := [some (.ref 413), none, none, none, none]) (am_le_s (am_le_n (am_le_n (am_le_n (am_le_n am_le_0))))) ?_
        exact rj_X12_readTrunk_291 (by omega)  T93 hf
  · refine r_iconst (v := 1) dX12_readTrunk_226 rfl ?_
    refine r_goto (q := 231) dX12_readTrunk_227 rfl ?_
    obtain ⟨h96, c95, hf⟩ := cal_inv hf
    have g98 := rf_X12_must (X := X) (d := d) (by omega) 1 T52 c95
    have T97 : am_TP h96.2.2 := g98.2
    refine r_virt (pre := [.int 1]) (rest := []) dX12_readTrunk_231 ct_12_227 rfl (sh_413) (Nat.le_of_ble_eq_true rfl) (Nat.le_of_ble_eq_true rfl) g98 ?_
    refine r_loc dX12_readTrunk_234 rfl ?_
    refine r_getR dX12_readTrunk_235 fl_12_51 sh_413 (Or.inr ⟨_, rfl⟩) (tp_413_21 T97) ?_
    refine r_loc dX12_readTrunk_238 rfl ?_
    refine r_loc dX12_readTrunk_239 rfl ?_
    refine r_ldc2 dX12_readTrunk_240 k64_12_150 ?_
    refine r_iconst (v := 0) dX12_readTrunk_243 rfl ?_
    refine r_bipush (v := 63) dX12_readTrunk_244 rfl ?_
    obtain ⟨v100, h102, c99, hf⟩ := cal2_inv hf
    have g104 := rf_X12_after (X := X) (d := d) (by omega) 469786323827 0 63 T97 c99
    have T103 : am_TP h102.2.2 := g104.2
    refine r_virt (pre := [.int 63, .int 0, .long 469786323827]) (rest := [.int x1, .ref 426]) dX12_readTrunk_246 ct_12_265 rfl (sh_413) (Nat.le_of_ble_eq_true rfl) (Nat.le_of_ble_eq_true rfl) g104 ?_
    refine r_iast dX12_readTrunk_249 sh_426 hf (fun h105 e107 hf => ?_)
    have T106 := tp_eq e107 T103
    refine r_loc dX12_readTrunk_250 rfl ?_
    refine r_getR dX12_readTrunk_251 fl_12_54 sh_413 (Or.inr ⟨_, rfl⟩) (tp_413_22 T106) ?_
    refine r_loc dX12_readTrunk_254 rfl ?_
    refine r_iconst (v := 0) dX12_readTrunk_255 rfl ?_
    refine r_iast dX12_readTrunk_256 sh_427 hf (fun h108 e110 hf => ?_)
    have T109 := tp_eq e110 T106
    refine r_loc dX12_readTrunk_257 rfl ?_
    obtain ⟨v112, c111, hf⟩ := cal_inv hf
    have g113 := rf_X12_isGood (X := X) (d := d) (by omega) T109 c111
    refine r_virt (pre := []) (rest := []) dX12_readTrunk_258 ct_12_214 rfl (sh_413) (Nat.le_of_ble_eq_true rfl) (Nat.le_of_ble_eq_true rfl) g113 ?_
    refine r_eq0 (q := 291) dX12_readTrunk_261 rfl hf (fun hf => ?_) (fun hf => ?_)
    · refine r_weak (L := [some (.ref 413), none, none, none, none]) (am_le_s (am_le_n (am_le_n (am_le_n (am_le_n am_le_0))))) ?_
      exact rj_X12_readTrunk_291 (by omega)  T109 hf
    · refine r_loc dX12_readTrunk_264 rfl ?_
      refine r_ldc2 dX12_readTrunk_265 k64_12_152 ?_
      obtain ⟨v115, c114, hf⟩ := cal_inv hf
      have g116 := rf_X12_isWord (X := X) (d := d) (by omega) 1953459300 T109 c114
      refine r_virt (pre := [.long 1953459300]) (rest := []) dX12_readTrunk_268 ct_12_224 rfl (sh_413) (Nat.le_of_ble_eq_true rfl) (Nat.le_of_ble_eq_true rfl) g116 ?_
      refine r_eq0 (q := 291) dX12_readTrunk_271 rfl hf (fun hf => ?_) (fun hf => ?_)
      · refine r_weak (L := [some (.ref 413), none, none, none, none]) (am_le_s (am_le_n (am_le_n (am_le_n (am_le_n am_le_0))))) ?_
        exact rj_X12_readTrunk_291 (by omega)  T109 hf
      · refine r_loc dX12_readTrunk_274 rfl ?_
        obtain ⟨h118, c117, hf⟩ := cal_inv hf
        have g120 := rf_X12_goOn (X := X) (d := d) (by omega) T109 c117
        have T119 : am_TP h118.2.2 := g120.2
        refine r_virt (pre := []) (rest := []) dX12_readTrunk_275 ct_12_218 rfl (sh_413) (Nat.le_of_ble_eq_true rfl) (Nat.le_of_ble_eq_true rfl) g120 ?_
        refine r_loc dX12_readTrunk_278 rfl ?_
        refine r_getR dX12_readTrunk_279 fl_12_54 sh_413 (Or.inr ⟨_, rfl⟩) (tp_413_22 T119) ?_
        refine r_loc dX12_readTrunk_282 rfl ?_
        refine r_loc dX12_readTrunk_283 rfl ?_
        refine r_iconst (v := 0) dX12_readTrunk_284 rfl ?_
        refine r_bipush (v := 9) dX12_readTrunk_285 rfl ?_
        obtain ⟨v122, h124, c121, hf⟩ := cal2_inv hf
        have g126 := rf_X12_numeral (X := X) (d := d) (by omega) 0 9 T119 c121
        have T125 : am_TP h124.2.2 := g126.2
        refine r_virt (pre := [.int 9, .int 0]) (rest := [.int x1, .ref 427]) dX12_readTrunk_287 ct_12_231 rfl (sh_413) (Nat.le_of_ble_eq_true rfl) (Nat.le_of_ble_eq_true rfl) g126 ?_
        refine r_iast dX12_readTrunk_290 sh_427 hf (fun h127 e129 hf => ?_)
        have T128 := tp_eq e129 T125
        refine r_weak (L := [some (.ref 413), none, none, none, none]) (am_le_s (am_le_n (am_le_n (am_le_n (am_le_n am_le_0))))) ?_
        exact rj_X12_readTrunk_291 (by omega)  T128 hf
theorem rf_X12_readTrunk {X : am_X} {d : Nat} (hd : 4 ≤ d)  {h : am_H} (T : am_TP h.2.2) {r : am_H} (hf : f_X12_readTrunk  h = some r) : am_G X d 12 false cX12_readTrunk none 0 [some (.ref 413), none, none, none, none] [] (am_SH, h) (none, (am_SH, r)) := by
  unfold f_X12_readTrunk at hf
  obtain ⟨d, rfl⟩ : ∃ e, d = e + 1 := ⟨d - 1, by omega⟩
  refine r_bipush (v := 6) dX12_readTrunk_0 rfl ?_
  refine r_loc dX12_readTrunk_2 rfl ?_
  refine r_getI dX12_readTrunk_3 fl_12_235 sh_413 rfl hf (fun v1 hf => ?_)
  refine r_alu dX12_readTrunk_6 rfl ?_
  refine r_loc dX12_readTrunk_7 rfl ?_
  refine r_getR dX12_readTrunk_8 fl_12_24 sh_413 (Or.inr ⟨_, rfl⟩) (tp_413_12 T) ?_
  refine r_loc dX12_readTrunk_11 rfl ?_
  refine r_getI dX12_readTrunk_12 fl_12_235 sh_413 rfl hf (fun v2 hf => ?_)
  refine r_iald dX12_readTrunk_15 sh_417 hf (fun v3 hf => ?_)
  refine r_alu dX12_readTrunk_16 rfl ?_
  refine r_loc (L' := [some (.ref 413), some (.int (((6 : Int32) * v1) + v3)), none, none, none]) dX12_readTrunk_17 rfl ?_
  refine r_loc dX12_readTrunk_18 rfl ?_
  refine r_getR dX12_readTrunk_19 fl_12_67 sh_413 (Or.inr ⟨_, rfl⟩) (tp_413_26 T) ?_
  refine r_loc dX12_readTrunk_22 rfl ?_
  refine r_loc dX12_readTrunk_23 rfl ?_
  refine r_loc dX12_readTrunk_24 rfl ?_
  refine r_loc dX12_readTrunk_25 rfl ?_
  refine r_getR dX12_readTrunk_26 fl_12_67 sh_413 (Or.inr ⟨_, rfl⟩) (tp_413_26 T) ?_
  refine r_bipush (v := 6) dX12_readTrunk_29 rfl ?_
  refine r_loc dX12_readTrunk_31 rfl ?_
  refine r_getI dX12_readTrunk_32 fl_12_235 sh_413 rfl hf (fun v4 hf => ?_)
  refine r_alu dX12_readTrunk_35 rfl ?_
  refine r_loc dX12_readTrunk_36 rfl ?_
  refine r_getR dX12_readTrunk_37 fl_12_24 sh_413 (Or.inr ⟨_, rfl⟩) (tp_413_12 T) ?_
  refine r_loc dX12_readTrunk_40 rfl ?_
  refine r_getI dX12_readTrunk_41 fl_12_235 sh_413 rfl hf (fun v5 hf => ?_)
  refine r_iald dX12_readTrunk_44 sh_417 hf (fun v6 hf => ?_)
  obtain ⟨v8, c7, hf⟩ := cal_inv hf
  have g9 := rf_X12_here_413_431 (X := X) (d := d) (by omega) ((6 : Int32) * v4) v6 T c7
  refine r_virt (pre := [.int v6, .int ((6 : Int32) * v4), .ref 431]) (rest := [.ref 413, .int (((6 : Int32) * v1) + v3), .ref 431]) dX12_readTrunk_45 ct_12_282 rfl (sh_413) (Nat.le_of_ble_eq_true rfl) (Nat.le_of_ble_eq_true rfl) g9 ?_
  obtain ⟨v11, h13, c10, hf⟩ := cal2_inv hf
  have g15 := rf_X12_fresh (X := X) (d := d) (by omega) v8 T c10
  have T14 : am_TP h13.2.2 := g15.2
  refine r_virt (pre := [.int v8]) (rest := [.int (((6 : Int32) * v1) + v3), .ref 431]) dX12_readTrunk_48 ct_12_261 rfl (sh_413) (Nat.le_of_ble_eq_true rfl) (Nat.le_of_ble_eq_true rfl) g15 ?_
  refine r_last dX12_readTrunk_51 sh_431 hf (fun h16 e18 hf => ?_)
  have T17 := tp_eq e18 T14
  refine r_loc dX12_readTrunk_52 rfl ?_
  refine r_getR dX12_readTrunk_53 fl_12_45 sh_413 (Or.inr ⟨_, rfl⟩) (tp_413_19 T17) ?_
  refine r_loc dX12_readTrunk_56 rfl ?_
  refine r_loc dX12_readTrunk_57 rfl ?_
  refine r_ldc2 dX12_readTrunk_58 k64_12_146 ?_
  refine r_iconst (v := 1) dX12_readTrunk_61 rfl ?_
  refine r_bipush (v := 20) dX12_readTrunk_62 rfl ?_
  obtain ⟨v20, h22, c19, hf⟩ := cal2_inv hf
  have g24 := rf_X12_after (X := X) (d := d) (by omega) 1651862635 1 20 T17 c19
  have T23 : am_TP h22.2.2 := g24.2
  refine r_virt (pre := [.int 20, .int 1, .long 1651862635]) (rest := [.int (((6 : Int32) * v1) + v3), .ref 424]) dX12_readTrunk_64 ct_12_265 rfl (sh_413) (Nat.le_of_ble_eq_true rfl) (Nat.le_of_ble_eq_true rfl) g24 ?_
  refine r_iast dX12_readTrunk_67 sh_424 hf (fun h25 e27 hf => ?_)
  have T26 := tp_eq e27 T23
  refine r_loc dX12_readTrunk_68 rfl ?_
  refine r_loc dX12_readTrunk_69 rfl ?_
  refine r_ldc2 dX12_readTrunk_70 k64_12_148 ?_
  obtain ⟨v29, c28, hf⟩ := cal_inv hf
  have g30 := rf_X12_isWord (X := X) (d := d) (by omega) 24948 T26 c28
  refine r_virt (pre := [.long 24948]) (rest := [.ref 413]) dX12_readTrunk_73 ct_12_224 rfl (sh_413) (Nat.le_of_ble_eq_true rfl) (Nat.le_of_ble_eq_true rfl) g30 ?_
  obtain ⟨h32, c31, hf⟩ := cal_inv hf
  have g34 := rf_X12_must (X := X) (d := d) (by omega) v29 T26 c31
  have T33 : am_TP h32.2.2 := g34.2
  refine r_virt (pre := [.int v29]) (rest := []) dX12_readTrunk_76 ct_12_227 rfl (sh_413) (Nat.le_of_ble_eq_true rfl) (Nat.le_of_ble_eq_true rfl) g34 ?_
  refine r_loc dX12_readTrunk_79 rfl ?_
  obtain ⟨v36, c35, hf⟩ := cal_inv hf
  have g37 := rf_X12_isGood (X := X) (d := d) (by omega) T33 c35
  refine r_virt (pre := []) (rest := []) dX12_readTrunk_80 ct_12_214 rfl (sh_413) (Nat.le_of_ble_eq_true rfl) (Nat.le_of_ble_eq_true rfl) g37 ?_
  refine r_ne0 (q := 87) dX12_readTrunk_83 rfl hf (fun hf => ?_) (fun hf => ?_)
  · refine r_loc dX12_readTrunk_87 rfl ?_
    obtain ⟨v39, c38, hf⟩ := cal_inv hf
    have g40 := rf_X12_roomHere (X := X) (d := d) (by omega) T33 c38
    refine r_virt (pre := []) (rest := []) dX12_readTrunk_88 ct_12_257 rfl (sh_413) (Nat.le_of_ble_eq_true rfl) (Nat.le_of_ble_eq_true rfl) g40 ?_
    refine r_loc (L' := [some (.ref 413), some (.int (((6 : Int32) * v1) + v3)), some (.int v39), none, none]) dX12_readTrunk_91 rfl ?_
    refine r_loc dX12_readTrunk_92 rfl ?_
    refine r_ge0 (q := 100) dX12_readTrunk_93 rfl hf (fun hf => ?_) (fun hf => ?_)
    · refine r_loc dX12_readTrunk_100 rfl ?_
      refine r_getR dX12_readTrunk_101 fl_12_42 sh_413 (Or.inr ⟨_, rfl⟩) (tp_413_18 T33) ?_
      refine r_iconst (v := 4) dX12_readTrunk_104 rfl ?_
      refine r_loc dX12_readTrunk_105 rfl ?_
      refine r_getI dX12_readTrunk_106 fl_12_235 sh_413 rfl hf (fun v41 hf => ?_)
      refine r_alu dX12_readTrunk_109 rfl ?_
      refine r_loc dX12_readTrunk_110 rfl ?_
      refine r_alu dX12_readTrunk_111 rfl ?_
      refine r_iald dX12_readTrunk_112 sh_423 hf (fun v42 hf => ?_)
      refine r_loc (L' := [some (.ref 413), some (.int (((6 : Int32) * v1) + v3)), some (.int v39), some (.int v42), none]) dX12_readTrunk_113 rfl ?_
      refine r_bipush (v := 6) dX12_readTrunk_114 rfl ?_
      refine r_loc dX12_readTrunk_116 rfl ?_
      refine r_getI dX12_readTrunk_117 fl_12_235 sh_413 rfl hf (fun v43 hf => ?_)
      refine r_alu dX12_readTrunk_120 rfl ?_
      refine r_loc (L' := [some (.ref 413), some (.int (((6 : Int32) * v1) + v3)), some (.int v39), some (.int v42), some (.int ((6 : Int32) * v43))]) dX12_readTrunk_121 rfl ?_
      refine rl_X12_readTrunk_123 (by omega) (((6 : Int32) * v1) + v3) v39 _ ?_ 4000 v42 ((6 : Int32) * v43) h32 T33 hf
      · intro z46 h47 T48 hf
        refine r_loc dX12_readTrunk_160 rfl ?_
        refine r_getI dX12_readTrunk_161 fl_12_186 sh_413 rfl hf (fun v49 hf => ?_)
        refine r_iconst (v := 2) dX12_readTrunk_164 rfl ?_
        refine r_eq (q := 175) dX12_readTrunk_165 rfl hf (fun hf => ?_) (fun hf => ?_)
        · refine r_loc dX12_readTrunk_175 rfl ?_
          refine r_ge0 (q := 191) dX12_readTrunk_176 rfl hf (fun hf => ?_) (fun hf => ?_)
          · refine r_loc dX12_readTrunk_191 rfl ?_
            refine r_loc dX12_readTrunk_192 rfl ?_
            refine r_getR dX12_readTrunk_193 fl_12_45 sh_413 (Or.inr ⟨_, rfl⟩) (tp_413_19 T48) ?_
            refine r_loc dX12_readTrunk_196 rfl ?_
            refine r_iald dX12_readTrunk_197 sh_424 hf (fun v50 hf => ?_)
            refine r_ge (q := 210) dX12_readTrunk_198 rfl hf (fun hf => ?_) (fun hf => ?_)
            · refine r_weak (L := [some (.ref 413), some (.int (((6 : Int32) * v1) + v3)), some (.int v39), none, none]) (am_le_s (am_le_s (am_le_s (am_le_n (am_le_n am_le_0))))) ?_
              exact rj_X12_readTrunk_210 (by omega) (((6 : Int32) * v1) + v3) v39 T48 hf
            · refine r_loc dX12_readTrunk_201 rfl ?_
              refine r_iconst (v := 3) dX12_readTrunk_202 rfl ?_
              refine r_loc dX12_readTrunk_203 rfl ?_
              refine r_getI dX12_readTrunk_204 fl_12_179 sh_413 rfl hf (fun v130 hf => ?_)
              obtain ⟨h132, c131, hf⟩ := cal_inv hf
              have g134 := rf_X12_fails (X := X) (d := d) (by omega) 3 v130 T48 c131
              have T133 : am_TP h132.2.2 := g134.2
              refine r_virt (pre := [.int v130, .int 3]) (rest := []) dX12_readTrunk_207 ct_12_210 rfl (sh_413) (Nat.le_of_ble_eq_true rfl) (Nat.le_of_ble_eq_true rfl) g134 ?_
              refine r_weak (L := [some (.ref 413), some (.int (((6 : Int32) * v1) + v3)), some (.int v39), none, none]) (am_le_s (am_le_s (am_le_s (am_le_n (am_le_n am_le_0))))) ?_
              exact rj_X12_readTrunk_210 (by omega) (((6 : Int32) * v1) + v3) v39 T133 hf
          · refine r_loc dX12_readTrunk_179 rfl ?_
            refine r_iconst (v := 5) dX12_readTrunk_180 rfl ?_
            refine r_loc dX12_readTrunk_181 rfl ?_
            refine r_getI dX12_readTrunk_182 fl_12_179 sh_413 rfl hf (fun v135 hf => ?_)
            obtain ⟨h137, c136, hf⟩ := cal_inv hf
            have g139 := rf_X12_fails (X := X) (d := d) (by omega) 5 v135 T48 c136
            have T138 : am_TP h137.2.2 := g139.2
            refine r_virt (pre := [.int v135, .int 5]) (rest := []) dX12_readTrunk_185 ct_12_210 rfl (sh_413) (Nat.le_of_ble_eq_true rfl) (Nat.le_of_ble_eq_true rfl) g139 ?_
            refine r_goto (q := 210) dX12_readTrunk_188 rfl ?_
            refine r_weak (L := [some (.ref 413), some (.int (((6 : Int32) * v1) + v3)), some (.int v39), none, none]) (am_le_s (am_le_s (am_le_s (am_le_n (am_le_n am_le_0))))) ?_
            exact rj_X12_readTrunk_210 (by omega) (((6 : Int32) * v1) + v3) v39 T138 hf
        · refine r_loc dX12_readTrunk_168 rfl ?_
          obtain ⟨h141, c140, hf⟩ := cal_inv hf
          have g143 := rf_X12_misplaced (X := X) (d := d) (by omega) T48 c140
          have T142 : am_TP h141.2.2 := g143.2
          refine r_virt (pre := []) (rest := []) dX12_readTrunk_169 ct_12_221 rfl (sh_413) (Nat.le_of_ble_eq_true rfl) (Nat.le_of_ble_eq_true rfl) g143 ?_
          refine r_goto (q := 210) dX12_readTrunk_172 rfl ?_
          refine r_weak (L := [some (.ref 413), some (.int (((6 : Int32) * v1) + v3)), some (.int v39), none, none]) (am_le_s (am_le_s (am_le_s (am_le_n (am_le_n am_le_0))))) ?_
          exact rj_X12_readTrunk_210 (by omega) (((6 : Int32) * v1) + v3) v39 T142 hf
    · refine r_iconst (v := 0) dX12_readTrunk_96 rfl ?_
      refine r_goto (q := 113) dX12_readTrunk_97 rfl ?_
      refine r_loc (L' := [some (.ref 413), some (.int (((6 : Int32) * v1) + v3)), some (.int v39), some (.int 0), none]) dX12_readTrunk_113 rfl ?_
      refine r_bipush (v := 6) dX12_readTrunk_114 rfl ?_
      refine r_loc dX12_readTrunk_116 rfl ?_
      refine r_getI dX12_readTrunk_117 fl_12_235 sh_413 rfl hf (fun v144 hf => ?_)
      refine r_alu dX12_readTrunk_120 rfl ?_
      refine r_loc (L' := [some (.ref 413), some (.int (((6 : Int32) * v1) + v3)), some (.int v39), some (.int 0), some (.int ((6 : Int32) * v144))]) dX12_readTrunk_121 rfl ?_
      refine rl_X12_readTrunk_123 (by omega) (((6 : Int32) * v1) + v3) v39 _ ?_ 4000 0 ((6 : Int32) * v144) h32 T33 hf
      · intro z145 h146 T147 hf
        refine r_loc dX12_readTrunk_160 rfl ?_
        refine r_getI dX12_readTrunk_161 fl_12_186 sh_413 rfl hf (fun v148 hf => ?_)
        refine r_iconst (v := 2) dX12_readTrunk_164 rfl ?_
        refine r_eq (q := 175) dX12_readTrunk_165 rfl hf (fun hf => ?_) (fun hf => ?_)
        · refine r_loc dX12_readTrunk_175 rfl ?_
          refine r_ge0 (q := 191) dX12_readTrunk_176 rfl hf (fun hf => ?_) (fun hf => ?_)
          · refine r_loc dX12_readTrunk_191 rfl ?_
            refine r_loc dX12_readTrunk_192 rfl ?_
            refine r_getR dX12_readTrunk_193 fl_12_45 sh_413 (Or.inr ⟨_, rfl⟩) (tp_413_19 T147) ?_
            refine r_loc dX12_readTrunk_196 rfl ?_
            refine r_iald dX12_readTrunk_197 sh_424 hf (fun v149 hf => ?_)
            refine r_ge (q := 210) dX12_readTrunk_198 rfl hf (fun hf => ?_) (fun hf => ?_)
            · refine r_weak (L := [some (.ref 413), some (.int (((6 : Int32) * v1) + v3)), some (.int v39), none, none]) (am_le_s (am_le_s (am_le_s (am_le_n (am_le_n am_le_0))))) ?_
              exact rj_X12_readTrunk_210 (by omega) (((6 : Int32) * v1) + v3) v39 T147 hf
            · refine r_loc dX12_readTrunk_201 rfl ?_
              refine r_iconst (v := 3) dX12_readTrunk_202 rfl ?_
              refine r_loc dX12_readTrunk_203 rfl ?_
              refine r_getI dX12_readTrunk_204 fl_12_179 sh_413 rfl hf (fun v150 hf => ?_)
              obtain ⟨h152, c151, hf⟩ := cal_inv hf
              have g154 := rf_X12_fails (X := X) (d := d) (by omega) 3 v150 T147 c151
              have T153 : am_TP h152.2.2 := g154.2
              refine r_virt (pre := [.int v150, .int 3]) (rest := []) dX12_readTrunk_207 ct_12_210 rfl (sh_413) (Nat.le_of_ble_eq_true rfl) (Nat.le_of_ble_eq_true rfl) g154 ?_
              refine r_weak (L := [some (.ref 413), some (.int (((6 : Int32) * v1) + v3)), some (.int v39), none, none]) (am_le_s (am_le_s (am_le_s (am_le_n (am_le_n am_le_0))))) ?_
              exact rj_X12_readTrunk_210 (by omega) (((6 : Int32) * v1) + v3) v39 T153 hf
          · refine r_loc dX12_readTrunk_179 rfl ?_
            refine r_iconst (v := 5) dX12_readTrunk_180 rfl ?_
            refine r_loc dX12_readTrunk_181 rfl ?_
            refine r_getI dX12_readTrunk_182 fl_12_179 sh_413 rfl hf (fun v155 hf => ?_)
            obtain ⟨h157, c156, hf⟩ := cal_inv hf
            have g159 := rf_X12_fails (X := X) (d := d) (by omega) 5 v155 T147 c156
            have T158 : am_TP h157.2.2 := g159.2
            refine r_virt (pre := [.int v155, .int 5]) (rest := []) dX12_readTrunk_185 ct_12_210 rfl (sh_413) (Nat.le_of_ble_eq_true rfl) (Nat.le_of_ble_eq_true rfl) g159 ?_
            refine r_goto (q := 210) dX12_readTrunk_188 rfl ?_
            refine r_weak (L := [some (.ref 413), some (.int (((6 : Int32) * v1) + v3)), some (.int v39), none, none]) (am_le_s (am_le_s (am_le_s (am_le_n (am_le_n am_le_0))))) ?_
            exact rj_X12_readTrunk_210 (by omega) (((6 : Int32) * v1) + v3) v39 T158 hf
        · refine r_loc dX12_readTrunk_168 rfl ?_
          obtain ⟨h161, c160, hf⟩ := cal_inv hf
          have g163 := rf_X12_misplaced (X := X) (d := d) (by omega) T147 c160
          have T162 : am_TP h161.2.2 := g163.2
          refine r_virt (pre := []) (rest := []) dX12_readTrunk_169 ct_12_221 rfl (sh_413) (Nat.le_of_ble_eq_true rfl) (Nat.le_of_ble_eq_true rfl) g163 ?_
          refine r_goto (q := 210) dX12_readTrunk_172 rfl ?_
          refine r_weak (L := [some (.ref 413), some (.int (((6 : Int32) * v1) + v3)), some (.int v39), none, none]) (am_le_s (am_le_s (am_le_s (am_le_n (am_le_n am_le_0))))) ?_
          exact rj_X12_readTrunk_210 (by omega) (((6 : Int32) * v1) + v3) v39 T162 hf
  · cases hf
    exact r_ret T33 dX12_readTrunk_86 rfl
def f_X12_bit (x0 : Int32) (x1 : Int32) (h : am_H) : Option (Int32) := if ((x0 >>> (x1 &&& 31)) &&& 1) = 1 then some 1 else some 0
theorem rf_X12_bit {X : am_X} {d : Nat} (hd : 0 ≤ d) (x0 : Int32) (x1 : Int32) {h : am_H} (T : am_TP h.2.2) {r : Int32} (hf : f_X12_bit x0 x1 h = some r) : am_G X d 12 false cX12_bit (some .boolean) 0 [some (.int x0), some (.int x1)] [] (am_SH, h) (some (.int r), (am_SH, h)) := by
  unfold f_X12_bit at hf
  refine r_loc dX12_bit_0 rfl ?_
  refine r_loc dX12_bit_1 rfl ?_
  refine r_alu dX12_bit_2 rfl ?_
  refine r_iconst (v := 1) dX12_bit_3 rfl ?_
  refine r_alu dX12_bit_4 rfl ?_
  refine r_iconst (v := 1) dX12_bit_5 rfl ?_
  refine r_ne (q := 13) dX12_bit_6 rfl hf (fun hf => ?_) (fun hf => ?_)
  · refine r_iconst (v := 0) dX12_bit_13 rfl ?_
    cases hf
    exact r_z0 T dX12_bit_14
  · refine r_iconst (v := 1) dX12_bit_9 rfl ?_
    refine r_goto (q := 14) dX12_bit_10 rfl ?_
    cases hf
    exact r_z1 T dX12_bit_14
def f_X12_isFull  (h : am_H) : Option (Int32) := cal (f_X12_isWord 1919905645 h) fun v2 => if v2 = 0 then cal (f_X12_isWord 500136504939 h) fun v5 => if v5 = 0 then cal (f_X12_isWord 422826700644 h) fun v8 => if v8 = 0 then cal (f_X12_isWord 482805179763 h) fun v11 => if v11 = 0 then cal (f_X12_isWord 499850700147 h) fun v14 => if v14 = 0 then cal (f_X12_isWord 1685217655 h) fun v17 => if v17 = 0 then some 1 else bnd (h.1 413 33) fun v19 => rdI h 422 2 v19 fun v20 => cal (f_X12_bit v20 3 h) fun v22 => if v22 = 0 then some 0 else some 1 else bnd (h.1 413 33) fun v24 => rdI h 422 2 v24 fun v25 => cal (f_X12_bit v25 2 h) fun v27 => zrt v27 (some v27) else bnd (h.1 413 33) fun v29 => rdI h 422 2 v29 fun v30 => cal (f_X12_bit v30 1 h) fun v32 => zrt v32 (some v32) else bnd (h.1 413 33) fun v34 => rdI h 422 2 v34 fun v35 => cal (f_X12_bit v35 0 h) fun v37 => zrt v37 (some v37) else bnd (h.1 413 33) fun v39 => rdI h 417 2 v39 fun v40 => if v40 = 6 then some 1 else some 0 else bnd (h.1 413 33) fun v41 => rdI h 416 2 v41 fun v42 => if v42 = 4 then some 1 else some 0
theorem rf_X12_isFull {X : am_X} {d : Nat} (hd : 1 ≤ d)  {h : am_H} (T : am_TP h.2.2) {r : Int32} (hf : f_X12_isFull  h = some r) : am_G X d 12 false cX12_isFull (some .boolean) 0 [some (.ref 413)] [] (am_SH, h) (some (.int r), (am_SH, h)) := by
  unfold f_X12_isFull at hf
  obtain ⟨d, rfl⟩ : ∃ e, d = e + 1 := ⟨d - 1, by omega⟩
  refine r_loc dX12_isFull_0 rfl ?_
  refine r_ldc2 dX12_isFull_1 k64_12_140 ?_
  obtain ⟨v2, c1, hf⟩ := cal_inv hf
  have g3 := rf_X12_isWord (X := X) (d := d) (by omega) 1919905645 T c1
  refine r_virt (pre := [.long 1919905645]) (rest := []) dX12_isFull_4 ct_12_224 rfl (sh_413) (Nat.le_of_ble_eq_true rfl) (Nat.le_of_ble_eq_true rfl) g3 ?_
  refine r_eq0 (q := 29) dX12_isFull_7 rfl hf (fun hf => ?_) (fun hf => ?_)
  · refine r_loc dX12_isFull_29 rfl ?_
    refine r_ldc2 dX12_isFull_30 k64_12_144 ?_
    obtain ⟨v5, c4, hf⟩ := cal_inv hf
    have g6 := rf_X12_isWord (X := X) (d := d) (by omega) 500136504939 T c4
    refine r_virt (pre := [.long 500136504939]) (rest := []) dX12_isFull_33 ct_12_224 rfl (sh_413) (Nat.le_of_ble_eq_true rfl) (Nat.le_of_ble_eq_true rfl) g6 ?_
    refine r_eq0 (q := 59) dX12_isFull_36 rfl hf (fun hf => ?_) (fun hf => ?_)
    · refine r_loc dX12_isFull_59 rfl ?_
      refine r_ldc2 dX12_isFull_60 k64_12_154 ?_
      obtain ⟨v8, c7, hf⟩ := cal_inv hf
      have g9 := rf_X12_isWord (X := X) (d := d) (by omega) 422826700644 T c7
      refine r_virt (pre := [.long 422826700644]) (rest := []) dX12_isFull_63 ct_12_224 rfl (sh_413) (Nat.le_of_ble_eq_true rfl) (Nat.le_of_ble_eq_true rfl) g9 ?_
      refine r_eq0 (q := 83) dX12_isFull_66 rfl hf (fun hf => ?_) (fun hf => ?_)
      · refine r_loc dX12_isFull_83 rfl ?_
        refine r_ldc2 dX12_isFull_84 k64_12_156 ?_
        obtain ⟨v11, c10, hf⟩ := cal_inv hf
        have g12 := rf_X12_isWord (X := X) (d := d) (by omega) 482805179763 T c10
        refine r_virt (pre := [.long 482805179763]) (rest := []) dX12_isFull_87 ct_12_224 rfl (sh_413) (Nat.le_of_ble_eq_true rfl) (Nat.le_of_ble_eq_true rfl) g12 ?_
        refine r_eq0 (q := 107) dX12_isFull_90 rfl hf (fun hf => ?_) (fun hf => ?_)
        · refine r_loc dX12_isFull_107 rfl ?_
          refine r_ldc2 dX12_isFull_108 k64_12_158 ?_
          obtain ⟨v14, c13, hf⟩ := cal_inv hf
          have g15 := rf_X12_isWord (X := X) (d := d) (by omega) 499850700147 T c13
          refine r_virt (pre := [.long 499850700147]) (rest := []) dX12_isFull_111 ct_12_224 rfl (sh_413) (Nat.le_of_ble_eq_true rfl) (Nat.le_of_ble_eq_true rfl) g15 ?_
          refine r_eq0 (q := 131) dX12_isFull_114 rfl hf (fun hf => ?_) (fun hf => ?_)
          · refine r_loc dX12_isFull_131 rfl ?_
            refine r_ldc2 dX12_isFull_132 k64_12_160 ?_
            obtain ⟨v17, c16, hf⟩ := cal_inv hf
            have g18 := rf_X12_isWord (X := X) (d := d) (by omega) 1685217655 T c16
            refine r_virt (pre := [.long 1685217655]) (rest := []) dX12_isFull_135 ct_12_224 rfl (sh_413) (Nat.le_of_ble_eq_true rfl) (Nat.le_of_ble_eq_true rfl) g18 ?_
            refine r_eq0 (q := 157) dX12_isFull_138 rfl hf (fun hf => ?_) (fun hf => ?_)
            · refine r_iconst (v := 1) dX12_isFull_157 rfl ?_
              refine r_goto (q := 162) dX12_isFull_158 rfl ?_
              cases hf
              exact r_z1 T dX12_isFull_162
            · refine r_loc dX12_isFull_141 rfl ?_
              refine r_getR dX12_isFull_142 fl_12_39 sh_413 (Or.inr ⟨_, rfl⟩) (tp_413_17 T) ?_
              refine r_loc dX12_isFull_145 rfl ?_
              refine r_getI dX12_isFull_146 fl_12_235 sh_413 rfl hf (fun v19 hf => ?_)
              refine r_iald dX12_isFull_149 sh_422 hf (fun v20 hf => ?_)
              refine r_iconst (v := 3) dX12_isFull_150 rfl ?_
              obtain ⟨v22, c21, hf⟩ := cal_inv hf
              have g23 := rf_X12_bit (X := X) (d := d) (by omega) v20 3 T c21
              refine r_stat (pre := [.int 3, .int v20]) (rest := []) dX12_isFull_151 ct_12_250 rfl (Nat.le_of_ble_eq_true rfl) (Nat.le_of_ble_eq_true rfl) g23 ?_
              refine r_eq0 (q := 161) dX12_isFull_154 rfl hf (fun hf => ?_) (fun hf => ?_)
              · refine r_iconst (v := 0) dX12_isFull_161 rfl ?_
                cases hf
                exact r_z0 T dX12_isFull_162
              · refine r_iconst (v := 1) dX12_isFull_157 rfl ?_
                refine r_goto (q := 162) dX12_isFull_158 rfl ?_
                cases hf
                exact r_z1 T dX12_isFull_162
          · refine r_loc dX12_isFull_117 rfl ?_
            refine r_getR dX12_isFull_118 fl_12_39 sh_413 (Or.inr ⟨_, rfl⟩) (tp_413_17 T) ?_
            refine r_loc dX12_isFull_121 rfl ?_
            refine r_getI dX12_isFull_122 fl_12_235 sh_413 rfl hf (fun v24 hf => ?_)
            refine r_iald dX12_isFull_125 sh_422 hf (fun v25 hf => ?_)
            refine r_iconst (v := 2) dX12_isFull_126 rfl ?_
            obtain ⟨v27, c26, hf⟩ := cal_inv hf
            have g28 := rf_X12_bit (X := X) (d := d) (by omega) v25 2 T c26
            refine r_stat (pre := [.int 2, .int v25]) (rest := []) dX12_isFull_127 ct_12_250 rfl (Nat.le_of_ble_eq_true rfl) (Nat.le_of_ble_eq_true rfl) g28 ?_
            exact r_zret T dX12_isFull_130 hf (fun hf => by cases hf; rfl)
        · refine r_loc dX12_isFull_93 rfl ?_
          refine r_getR dX12_isFull_94 fl_12_39 sh_413 (Or.inr ⟨_, rfl⟩) (tp_413_17 T) ?_
          refine r_loc dX12_isFull_97 rfl ?_
          refine r_getI dX12_isFull_98 fl_12_235 sh_413 rfl hf (fun v29 hf => ?_)
          refine r_iald dX12_isFull_101 sh_422 hf (fun v30 hf => ?_)
          refine r_iconst (v := 1) dX12_isFull_102 rfl ?_
          obtain ⟨v32, c31, hf⟩ := cal_inv hf
          have g33 := rf_X12_bit (X := X) (d := d) (by omega) v30 1 T c31
          refine r_stat (pre := [.int 1, .int v30]) (rest := []) dX12_isFull_103 ct_12_250 rfl (Nat.le_of_ble_eq_true rfl) (Nat.le_of_ble_eq_true rfl) g33 ?_
          exact r_zret T dX12_isFull_106 hf (fun hf => by cases hf; rfl)
      · refine r_loc dX12_isFull_69 rfl ?_
        refine r_getR dX12_isFull_70 fl_12_39 sh_413 (Or.inr ⟨_, rfl⟩) (tp_413_17 T) ?_
        refine r_loc dX12_isFull_73 rfl ?_
        refine r_getI dX12_isFull_74 fl_12_235 sh_413 rfl hf (fun v34 hf => ?_)
        refine r_iald dX12_isFull_77 sh_422 hf (fun v35 hf => ?_)
        refine r_iconst (v := 0) dX12_isFull_78 rfl ?_
        obtain ⟨v37, c36, hf⟩ := cal_inv hf
        have g38 := rf_X12_bit (X := X) (d := d) (by omega) v35 0 T c36
        refine r_stat (pre := [.int 0, .int v35]) (rest := []) dX12_isFull_79 ct_12_250 rfl (Nat.le_of_ble_eq_true rfl) (Nat.le_of_ble_eq_true rfl) g38 ?_
        exact r_zret T dX12_isFull_82 hf (fun hf => by cases hf; rfl)
    · refine r_loc dX12_isFull_39 rfl ?_
      refine r_getR dX12_isFull_40 fl_12_24 sh_413 (Or.inr ⟨_, rfl⟩) (tp_413_12 T) ?_
      refine r_loc dX12_isFull_43 rfl ?_
      refine r_getI dX12_isFull_44 fl_12_235 sh_413 rfl hf (fun v39 hf => ?_)
      refine r_iald dX12_isFull_47 sh_417 hf (fun v40 hf => ?_)
      refine r_bipush (v := 6) dX12_isFull_48 rfl ?_
      refine r_ne (q := 57) dX12_isFull_50 rfl hf (fun hf => ?_) (fun hf => ?_)
      · refine r_iconst (v := 0) dX12_isFull_57 rfl ?_
        cases hf
        exact r_z0 T dX12_isFull_58
      · refine r_iconst (v := 1) dX12_isFull_53 rfl ?_
        refine r_goto (q := 58) dX12_isFull_54 rfl ?_
        cases hf
        exact r_z1 T dX12_isFull_58
  · refine r_loc dX12_isFull_10 rfl ?_
    refine r_getR dX12_isFull_11 fl_12_20 sh_413 (Or.inr ⟨_, rfl⟩) (tp_413_11 T) ?_
    refine r_loc dX12_isFull_14 rfl ?_
    refine r_getI dX12_isFull_15 fl_12_235 sh_413 rfl hf (fun v41 hf => ?_)
    refine r_iald dX12_isFull_18 sh_416 hf (fun v42 hf => ?_)
    refine r_iconst (v := 4) dX12_isFull_19 rfl ?_
    refine r_ne (q := 27) dX12_isFull_20 rfl hf (fun hf => ?_) (fun hf => ?_)
    · refine r_iconst (v := 0) dX12_isFull_27 rfl ?_
      cases hf
      exact r_z0 T dX12_isFull_28
    · refine r_iconst (v := 1) dX12_isFull_23 rfl ?_
      refine r_goto (q := 28) dX12_isFull_24 rfl ?_
      cases hf
      exact r_z1 T dX12_isFull_28
def jn_X12_readLine_191 (x1 : Int64) (h : am_H) : Option (am_H) := if (lg_cmp x1 1685217655) = 0 then bnd (h.1 413 33) fun v21 => cal2 (f_X12_once 3 0 999 h) fun v23 h25 => wrI h25 421 2 v21 v23 fun h28 => cal (f_X12_isSignHere 59 h28) fun v32 => cal (f_X12_must v32 h28) fun h35 => some h35 else cal (f_X12_isSignHere 59 h) fun v15 => cal (f_X12_must v15 h) fun h18 => some h18
def jn_X12_readLine_166 (x1 : Int64) (h : am_H) : Option (am_H) := if (lg_cmp x1 499850700147) = 0 then bnd (h.1 413 33) fun v38 => cal2 (f_X12_once 2 0 99 h) fun v40 h42 => wrI h42 420 2 v38 v40 fun h45 => jn_X12_readLine_191 x1 h45 else jn_X12_readLine_191 x1 h
def jn_X12_readLine_141 (x1 : Int64) (h : am_H) : Option (am_H) := if (lg_cmp x1 482805179763) = 0 then bnd (h.1 413 33) fun v48 => cal2 (f_X12_once 1 1 9 h) fun v50 h52 => wrI h52 419 2 v48 v50 fun h55 => jn_X12_readLine_166 x1 h55 else jn_X12_readLine_166 x1 h
def jn_X12_readLine_129 (x1 : Int64) (h : am_H) : Option (am_H) := if (lg_cmp x1 422826700644) = 0 then cal (f_X12_readRule h) fun h59 => jn_X12_readLine_141 x1 h59 else jn_X12_readLine_141 x1 h
def jn_X12_readLine_117 (x1 : Int64) (h : am_H) : Option (am_H) := if (lg_cmp x1 500136504939) = 0 then cal (f_X12_readTrunk h) fun h63 => jn_X12_readLine_129 x1 h63 else jn_X12_readLine_129 x1 h
def jn_X12_readLine_24 (x1 : Int64) (h : am_H) : Option (am_H) := cal (f_X12_isGood h) fun v8 => if v8 = 0 then some h else cal (f_X12_goOn h) fun h11 => if (lg_cmp x1 1919905645) = 0 then bnd (h11.1 413 33) fun v66 => bnd (h11.1 413 33) fun v67 => rdI h11 416 2 v67 fun v68 => cal (f_X12_roomHere h11) fun v70 => cal2 (f_X12_fresh v70 h11) fun v73 h75 => wrL h75 430 8 (((4 : Int32) * v66) + v68) v73 fun h78 => bnd (h78.1 413 33) fun v81 => bnd (h78.1 413 33) fun v82 => rdI h78 416 2 v82 fun v83 => cal2 (f_X12_after 448545973363 0 99 h78) fun v85 h87 => wrI h87 423 8 (((4 : Int32) * v81) + v83) v85 fun h90 => bnd (h90.1 413 33) fun v93 => rdI h90 416 2 v93 fun v94 => wrI h90 416 2 v93 (v94 + 1) fun h95 => jn_X12_readLine_117 x1 h95 else jn_X12_readLine_117 x1 h11
def jn_X12_readLine_20 (x1 : Int64) (h : am_H) : Option (am_H) := cal (f_X12_misplaced h) fun h4 => jn_X12_readLine_24 x1 h4
def f_X12_readLine  (h : am_H) : Option (am_H) := bnd (h.2.1 413 10) fun v1 => bnd (h.1 413 8) fun v2 => if v2 = 3 then cal (f_X12_isFull h) fun v99 => if v99 = 0 then jn_X12_readLine_24 v1 h else jn_X12_readLine_20 v1 h else jn_X12_readLine_20 v1 h
theorem rj_X12_readLine_191 {X : am_X} {d : Nat} (hd : 6 ≤ d) (x1 : Int64) {h : am_H} (T : am_TP h.2.2) {r : am_H} (hf : jn_X12_readLine_191 x1 h = some r) : am_G X d 12 false cX12_readLine none 191 [some (.ref 413), some (.long x1), none] [] (am_SH, h) (none, (am_SH, r)) := by
  obtain ⟨d, rfl⟩ : ∃ e, d = e + 1 := ⟨d - 1, by omega⟩
  unfold jn_X12_readLine_191 at hf
  refine r_loc dX12_readLine_191 rfl ?_
  refine r_ldc2 dX12_readLine_192 k64_12_160 ?_
  refine r_alu dX12_readLine_195 rfl ?_
  refine r_ne0 (q := 217) dX12_readLine_196 rfl hf (fun hf => ?_) (fun hf => ?_)
  · refine r_loc dX12_readLine_217 rfl ?_
    refine r_loc dX12_readLine_218 rfl ?_
    refine r_bipush (v := 59) dX12_readLine_219 rfl ?_
    obtain ⟨v15, c14, hf⟩ := cal_inv hf
    have g16 := rf_X12_isSignHere (X := X) (d := d) (by omega) 59 T c14
    refine r_virt (pre := [.int 59]) (rest := [.ref 413]) dX12_readLine_221 ct_12_279 rfl (sh_413) (Nat.le_of_ble_eq_true rfl) (Nat.le_of_ble_eq_true rfl) g16 ?_
    obtain ⟨h18, c17, hf⟩ := cal_inv hf
    have g20 := rf_X12_must (X := X) (d := d) (by omega) v15 T c17
    have T19 : am_TP h18.2.2 := g20.2
    refine r_virt (pre := [.int v15]) (rest := []) dX12_readLine_224 ct_12_227 rfl (sh_413) (Nat.le_of_ble_eq_true rfl) (Nat.le_of_ble_eq_true rfl) g20 ?_
    cases hf
    exact r_ret T19 dX12_readLine_227 rfl
  · refine r_loc dX12_readLine_199 rfl ?_
    refine r_getR dX12_readLine_200 fl_12_36 sh_413 (Or.inr ⟨_, rfl⟩) (tp_413_16 T) ?_
    refine r_loc dX12_readLine_203 rfl ?_
    refine r_getI dX12_readLine_204 fl_12_235 sh_413 rfl hf (fun v21 hf => ?_)
    refine r_loc dX12_readLine_207 rfl ?_
    refine r_iconst (v := 3) dX12_readLine_208 rfl ?_
    refine r_iconst (v := 0) dX12_readLine_209 rfl ?_
    refine r_sipush (v := 999) dX12_readLine_210 rfl ?_
    obtain ⟨v23, h25, c22, hf⟩ := cal2_inv hf
    have g27 := rf_X12_once (X := X) (d := d) (by omega) 3 0 999 T c22
    have T26 : am_TP h25.2.2 := g27.2
    refine r_virt (pre := [.int 999, .int 0, .int 3]) (rest := [.int v21, .ref 421]) dX12_readLine_213 ct_12_275 rfl (sh_413) (Nat.le_of_ble_eq_true rfl) (Nat.le_of_ble_eq_true rfl) g27 ?_
    refine r_iast dX12_readLine_216 sh_421 hf (fun h28 e30 hf => ?_)
    have T29 := tp_eq e30 T26
    refine r_loc dX12_readLine_217 rfl ?_
    refine r_loc dX12_readLine_218 rfl ?_
    refine r_bipush (v := 59) dX12_readLine_219 rfl ?_
    obtain ⟨v32, c31, hf⟩ := cal_inv hf
    have g33 := rf_X12_isSignHere (X := X) (d := d) (by omega) 59 T29 c31
    refine r_virt (pre := [.int 59]) (rest := [.ref 413]) dX12_readLine_221 ct_12_279 rfl (sh_413) (Nat.le_of_ble_eq_true rfl) (Nat.le_of_ble_eq_true rfl) g33 ?_
    obtain ⟨h35, c34, hf⟩ := cal_inv hf
    have g37 := rf_X12_must (X := X) (d := d) (by omega) v32 T29 c34
    have T36 : am_TP h35.2.2 := g37.2
    refine r_virt (pre := [.int v32]) (rest := []) dX12_readLine_224 ct_12_227 rfl (sh_413) (Nat.le_of_ble_eq_true rfl) (Nat.le_of_ble_eq_true rfl) g37 ?_
    cases hf
    exact r_ret T36 dX12_readLine_227 rfl
theorem rj_X12_readLine_166 {X : am_X} {d : Nat} (hd : 6 ≤ d) (x1 : Int64) {h : am_H} (T : am_TP h.2.2) {r : am_H} (hf : jn_X12_readLine_166 x1 h = some r) : am_G X d 12 false cX12_readLine none 166 [some (.ref 413), some (.long x1), none] [] (am_SH, h) (none, (am_SH, r)) := by
  obtain ⟨d, rfl⟩ : ∃ e, d = e + 1 := ⟨d - 1, by omega⟩
  unfold jn_X12_readLine_166 at hf
  refine r_loc dX12_readLine_166 rfl ?_
  refine r_ldc2 dX12_readLine_167 k64_12_158 ?_
  refine r_alu dX12_readLine_170 rfl ?_
  refine r_ne0 (q := 191) dX12_readLine_171 rfl hf (fun hf => ?_) (fun hf => ?_)
  · exact rj_X12_readLine_191 (by omega) x1 T hf
  · refine r_loc dX12_readLine_174 rfl ?_
    refine r_getR dX12_readLine_175 fl_12_33 sh_413 (Or.inr ⟨_, rfl⟩) (tp_413_15 T) ?_
    refine r_loc dX12_readLine_178 rfl ?_
    refine r_getI dX12_readLine_179 fl_12_235 sh_413 rfl hf (fun v38 hf => ?_)
    refine r_loc dX12_readLine_182 rfl ?_
    refine r_iconst (v := 2) dX12_readLine_183 rfl ?_
    refine r_iconst (v := 0) dX12_readLine_184 rfl ?_
    refine r_bipush (v := 99) dX12_readLine_185 rfl ?_
    obtain ⟨v40, h42, c39, hf⟩ := cal2_inv hf
    have g44 := rf_X12_once (X := X) (d := d) (by omega) 2 0 99 T c39
    have T43 : am_TP h42.2.2 := g44.2
    refine r_virt (pre := [.int 99, .int 0, .int 2]) (rest := [.int v38, .ref 420]) dX12_readLine_187 ct_12_275 rfl (sh_413) (Nat.le_of_ble_eq_true rfl) (Nat.le_of_ble_eq_true rfl) g44 ?_
    refine r_iast dX12_readLine_190 sh_420 hf (fun h45 e47 hf => ?_)
    have T46 := tp_eq e47 T43
    exact rj_X12_readLine_191 (by omega) x1 T46 hf
theorem rj_X12_readLine_141 {X : am_X} {d : Nat} (hd : 6 ≤ d) (x1 : Int64) {h : am_H} (T : am_TP h.2.2) {r : am_H} (hf : jn_X12_readLine_141 x1 h = some r) : am_G X d 12 false cX12_readLine none 141 [some (.ref 413), some (.long x1), none] [] (am_SH, h) (none, (am_SH, r)) := by
  obtain ⟨d, rfl⟩ : ∃ e, d = e + 1 := ⟨d - 1, by omega⟩
  unfold jn_X12_readLine_141 at hf
  refine r_loc dX12_readLine_141 rfl ?_
  refine r_ldc2 dX12_readLine_142 k64_12_156 ?_
  refine r_alu dX12_readLine_145 rfl ?_
  refine r_ne0 (q := 166) dX12_readLine_146 rfl hf (fun hf => ?_) (fun hf => ?_)
  · exact rj_X12_readLine_166 (by omega) x1 T hf
  · refine r_loc dX12_readLine_149 rfl ?_
    refine r_getR dX12_readLine_150 fl_12_30 sh_413 (Or.inr ⟨_, rfl⟩) (tp_413_14 T) ?_
    refine r_loc dX12_readLine_153 rfl ?_
    refine r_getI dX12_readLine_154 fl_12_235 sh_413 rfl hf (fun v48 hf => ?_)
    refine r_loc dX12_readLine_157 rfl ?_
    refine r_iconst (v := 1) dX12_readLine_158 rfl ?_
    refine r_iconst (v := 1) dX12_readLine_159 rfl ?_
    refine r_bipush (v := 9) dX12_readLine_160 rfl ?_
    obtain ⟨v50, h52, c49, hf⟩ := cal2_inv hf
    have g54 := rf_X12_once (X := X) (d := d) (by omega) 1 1 9 T c49
    have T53 : am_TP h52.2.2 := g54.2
    refine r_virt (pre := [.int 9, .int 1, .int 1]) (rest := [.int v48, .ref 419]) dX12_readLine_162 ct_12_275 rfl (sh_413) (Nat.le_of_ble_eq_true rfl) (Nat.le_of_ble_eq_true rfl) g54 ?_
    refine r_iast dX12_readLine_165 sh_419 hf (fun h55 e57 hf => ?_)
    have T56 := tp_eq e57 T53
    exact rj_X12_readLine_166 (by omega) x1 T56 hf
theorem rj_X12_readLine_129 {X : am_X} {d : Nat} (hd : 6 ≤ d) (x1 : Int64) {h : am_H} (T : am_TP h.2.2) {r : am_H} (hf : jn_X12_readLine_129 x1 h = some r) : am_G X d 12 false cX12_readLine none 129 [some (.ref 413), some (.long x1), none] [] (am_SH, h) (none, (am_SH, r)) := by
  obtain ⟨d, rfl⟩ : ∃ e, d = e + 1 := ⟨d - 1, by omega⟩
  unfold jn_X12_readLine_129 at hf
  refine r_loc dX12_readLine_129 rfl ?_
  refine r_ldc2 dX12_readLine_130 k64_12_154 ?_
  refine r_alu dX12_readLine_133 rfl ?_
  refine r_ne0 (q := 141) dX12_readLine_134 rfl hf (fun hf => ?_) (fun hf => ?_)
  · exact rj_X12_readLine_141 (by omega) x1 T hf
  · refine r_loc dX12_readLine_137 rfl ?_
    obtain ⟨h59, c58, hf⟩ := cal_inv hf
    have g61 := rf_X12_readRule (X := X) (d := d) (by omega) T c58
    have T60 : am_TP h59.2.2 := g61.2
    refine r_virt (pre := []) (rest := []) dX12_readLine_138 ct_12_272 rfl (sh_413) (Nat.le_of_ble_eq_true rfl) (Nat.le_of_ble_eq_true rfl) g61 ?_
    exact rj_X12_readLine_141 (by omega) x1 T60 hf
theorem rj_X12_readLine_117 {X : am_X} {d : Nat} (hd : 6 ≤ d) (x1 : Int64) {h : am_H} (T : am_TP h.2.2) {r : am_H} (hf : jn_X12_readLine_117 x1 h = some r) : am_G X d 12 false cX12_readLine none 117 [some (.ref 413), some (.long x1), none] [] (am_SH, h) (none, (am_SH, r)) := by
  obtain ⟨d, rfl⟩ : ∃ e, d = e + 1 := ⟨d - 1, by omega⟩
  unfold jn_X12_readLine_117 at hf
  refine r_loc dX12_readLine_117 rfl ?_
  refine r_ldc2 dX12_readLine_118 k64_12_144 ?_
  refine r_alu dX12_readLine_121 rfl ?_
  refine r_ne0 (q := 129) dX12_readLine_122 rfl hf (fun hf => ?_) (fun hf => ?_)
  · exact rj_X12_readLine_129 (by omega) x1 T hf
  · refine r_loc dX12_readLine_125 rfl ?_
    obtain ⟨h63, c62, hf⟩ := cal_inv hf
    have g65 := rf_X12_readTrunk (X := X) (d := d) (by omega) T c62
    have T64 : am_TP h63.2.2 := g65.2
    refine r_virt (pre := []) (rest := []) dX12_readLine_126 ct_12_269 rfl (sh_413) (Nat.le_of_ble_eq_true rfl) (Nat.le_of_ble_eq_true rfl) g65 ?_
    exact rj_X12_readLine_129 (by omega) x1 T64 hf
theorem rj_X12_readLine_24 {X : am_X} {d : Nat} (hd : 6 ≤ d) (x1 : Int64) {h : am_H} (T : am_TP h.2.2) {r : am_H} (hf : jn_X12_readLine_24 x1 h = some r) : am_G X d 12 false cX12_readLine none 24 [some (.ref 413), some (.long x1), none] [] (am_SH, h) (none, (am_SH, r)) := by
  obtain ⟨d, rfl⟩ : ∃ e, d = e + 1 := ⟨d - 1, by omega⟩
  unfold jn_X12_readLine_24 at hf
  refine r_loc dX12_readLine_24 rfl ?_
  obtain ⟨v8, c7, hf⟩ := cal_inv hf
  have g9 := rf_X12_isGood (X := X) (d := d) (by omega) T c7
  refine r_virt (pre := []) (rest := []) dX12_readLine_25 ct_12_214 rfl (sh_413) (Nat.le_of_ble_eq_true rfl) (Nat.le_of_ble_eq_true rfl) g9 ?_
  refine r_ne0 (q := 32) dX12_readLine_28 rfl hf (fun hf => ?_) (fun hf => ?_)
  · refine r_loc dX12_readLine_32 rfl ?_
    obtain ⟨h11, c10, hf⟩ := cal_inv hf
    have g13 := rf_X12_goOn (X := X) (d := d) (by omega) T c10
    have T12 : am_TP h11.2.2 := g13.2
    refine r_virt (pre := []) (rest := []) dX12_readLine_33 ct_12_218 rfl (sh_413) (Nat.le_of_ble_eq_true rfl) (Nat.le_of_ble_eq_true rfl) g13 ?_
    refine r_loc dX12_readLine_36 rfl ?_
    refine r_ldc2 dX12_readLine_37 k64_12_140 ?_
    refine r_alu dX12_readLine_40 rfl ?_
    refine r_ne0 (q := 117) dX12_readLine_41 rfl hf (fun hf => ?_) (fun hf => ?_)
    · exact rj_X12_readLine_117 (by omega) x1 T12 hf
    · refine r_loc dX12_readLine_44 rfl ?_
      refine r_getR dX12_readLine_45 fl_12_63 sh_413 (Or.inr ⟨_, rfl⟩) (tp_413_25 T12) ?_
      refine r_iconst (v := 4) dX12_readLine_48 rfl ?_
      refine r_loc dX12_readLine_49 rfl ?_
      refine r_getI dX12_readLine_50 fl_12_235 sh_413 rfl hf (fun v66 hf => ?_)
      refine r_alu dX12_readLine_53 rfl ?_
      refine r_loc dX12_readLine_54 rfl ?_
      refine r_getR dX12_readLine_55 fl_12_20 sh_413 (Or.inr ⟨_, rfl⟩) (tp_413_11 T12) ?_
      refine r_loc dX12_readLine_58 rfl ?_
      refine r_getI dX12_readLine_59 fl_12_235 sh_413 rfl hf (fun v67 hf => ?_)
      refine r_iald dX12_readLine_62 sh_416 hf (fun v68 hf => ?_)
      refine r_alu dX12_readLine_63 rfl ?_
      refine r_loc dX12_readLine_64 rfl ?_
      refine r_loc dX12_readLine_65 rfl ?_
      obtain ⟨v70, c69, hf⟩ := cal_inv hf
      have g71 := rf_X12_roomHere (X := X) (d := d) (by omega) T12 c69
      refine r_virt (pre := []) (rest := [.ref 413, .int (((4 : Int32) * v66) + v68), .ref 430]) dX12_readLine_66 ct_12_257 rfl (sh_413) (Nat.le_of_ble_eq_true rfl) (Nat.le_of_ble_eq_true rfl) g71 ?_
      obtain ⟨v73, h75, c72, hf⟩ := cal2_inv hf
      have g77 := rf_X12_fresh (X := X) (d := d) (by omega) v70 T12 c72
      have T76 : am_TP h75.2.2 := g77.2
      refine r_virt (pre := [.int v70]) (rest := [.int (((4 : Int32) * v66) + v68), .ref 430]) dX12_readLine_69 ct_12_261 rfl (sh_413) (Nat.le_of_ble_eq_true rfl) (Nat.le_of_ble_eq_true rfl) g77 ?_
      refine r_last dX12_readLine_72 sh_430 hf (fun h78 e80 hf => ?_)
      have T79 := tp_eq e80 T76
      refine r_loc dX12_readLine_73 rfl ?_
      refine r_getR dX12_readLine_74 fl_12_42 sh_413 (Or.inr ⟨_, rfl⟩) (tp_413_18 T79) ?_
      refine r_iconst (v := 4) dX12_readLine_77 rfl ?_
      refine r_loc dX12_readLine_78 rfl ?_
      refine r_getI dX12_readLine_79 fl_12_235 sh_413 rfl hf (fun v81 hf => ?_)
      refine r_alu dX12_readLine_82 rfl ?_
      refine r_loc dX12_readLine_83 rfl ?_
      refine r_getR dX12_readLine_84 fl_12_20 sh_413 (Or.inr ⟨_, rfl⟩) (tp_413_11 T79) ?_
      refine r_loc dX12_readLine_87 rfl ?_
      refine r_getI dX12_readLine_88 fl_12_235 sh_413 rfl hf (fun v82 hf => ?_)
      refine r_iald dX12_readLine_91 sh_416 hf (fun v83 hf => ?_)
      refine r_alu dX12_readLine_92 rfl ?_
      refine r_loc dX12_readLine_93 rfl ?_
      refine r_ldc2 dX12_readLine_94 k64_12_142 ?_
      refine r_iconst (v := 0) dX12_readLine_97 rfl ?_
      refine r_bipush (v := 99) dX12_readLine_98 rfl ?_
      obtain ⟨v85, h87, c84, hf⟩ := cal2_inv hf
      have g89 := rf_X12_after (X := X) (d := d) (by omega) 448545973363 0 99 T79 c84
      have T88 : am_TP h87.2.2 := g89.2
      refine r_virt (pre := [.int 99, .int 0, .long 448545973363]) (rest := [.int (((4 : Int32) * v81) + v83), .ref 423]) dX12_readLine_100 ct_12_265 rfl (sh_413) (Nat.le_of_ble_eq_true rfl) (Nat.le_of_ble_eq_true rfl) g89 ?_
      refine r_iast dX12_readLine_103 sh_423 hf (fun h90 e92 hf => ?_)
      have T91 := tp_eq e92 T88
      refine r_loc dX12_readLine_104 rfl ?_
      refine r_getR dX12_readLine_105 fl_12_20 sh_413 (Or.inr ⟨_, rfl⟩) (tp_413_11 T91) ?_
      refine r_loc dX12_readLine_108 rfl ?_
      refine r_getI dX12_readLine_109 fl_12_235 sh_413 rfl hf (fun v93 hf => ?_)
      refine r_alu dX12_readLine_112 rfl ?_
      refine r_iald dX12_readLine_113 sh_416 hf (fun v94 hf => ?_)
      refine r_iconst (v := 1) dX12_readLine_114 rfl ?_
      refine r_alu dX12_readLine_115 rfl ?_
      refine r_iast dX12_readLine_116 sh_416 hf (fun h95 e97 hf => ?_)
      have T96 := tp_eq e97 T91
      exact rj_X12_readLine_117 (by omega) x1 T96 hf
  · cases hf
    exact r_ret T dX12_readLine_31 rfl
theorem rj_X12_readLine_20 {X : am_X} {d : Nat} (hd : 6 ≤ d) (x1 : Int64) {h : am_H} (T : am_TP h.2.2) {r : am_H} (hf : jn_X12_readLine_20 x1 h = some r) : am_G X d 12 false cX12_readLine none 20 [some (.ref 413), some (.long x1), none] [] (am_SH, h) (none, (am_SH, r)) := by
  obtain ⟨d, rfl⟩ : ∃ e, d = e + 1 := ⟨d - 1, by omega⟩
  unfold jn_X12_readLine_20 at hf
  refine r_loc dX12_readLine_20 rfl ?_
  obtain ⟨h4, c3, hf⟩ := cal_inv hf
  have g6 := rf_X12_misplaced (X := X) (d := d) (by omega) T c3
  have T5 : am_TP h4.2.2 := g6.2
  refine r_virt (pre := []) (rest := []) dX12_readLine_21 ct_12_221 rfl (sh_413) (Nat.le_of_ble_eq_true rfl) (Nat.le_of_ble_eq_true rfl) g6 ?_
  exact rj_X12_readLine_24 (by omega) x1 T5 hf
theorem rf_X12_readLine {X : am_X} {d : Nat} (hd : 6 ≤ d)  {h : am_H} (T : am_TP h.2.2) {r : am_H} (hf : f_X12_readLine  h = some r) : am_G X d 12 false cX12_readLine none 0 [some (.ref 413), none, none] [] (am_SH, h) (none, (am_SH, r)) := by
  unfold f_X12_readLine at hf
  obtain ⟨d, rfl⟩ : ∃ e, d = e + 1 := ⟨d - 1, by omega⟩
  refine r_loc dX12_readLine_0 rfl ?_
  refine r_getL dX12_readLine_1 fl_12_193 sh_413 rfl hf (fun v1 hf => ?_)
  refine r_loc (L' := [some (.ref 413), some (.long v1), none]) dX12_readLine_4 rfl ?_
  refine r_loc dX12_readLine_5 rfl ?_
  refine r_getI dX12_readLine_6 fl_12_186 sh_413 rfl hf (fun v2 hf => ?_)
  refine r_iconst (v := 3) dX12_readLine_9 rfl ?_
  refine r_ne (q := 20) dX12_readLine_10 rfl hf (fun hf => ?_) (fun hf => ?_)
  · exact rj_X12_readLine_20 (by omega) v1 T hf
  · refine r_loc dX12_readLine_13 rfl ?_
    obtain ⟨v99, c98, hf⟩ := cal_inv hf
    have g100 := rf_X12_isFull (X := X) (d := d) (by omega) T c98
    refine r_virt (pre := []) (rest := []) dX12_readLine_14 ct_12_254 rfl (sh_413) (Nat.le_of_ble_eq_true rfl) (Nat.le_of_ble_eq_true rfl) g100 ?_
    refine r_eq0 (q := 24) dX12_readLine_17 rfl hf (fun hf => ?_) (fun hf => ?_)
    · exact rj_X12_readLine_24 (by omega) v1 T hf
    · exact rj_X12_readLine_20 (by omega) v1 T hf
def lp_X12_house_20 (k_46 : am_H → Option (Int32 × am_H)) : Nat → Int32 → am_H → Option (Int32 × am_H)
  | 0, _, _ => none
  | n + 1, x1, h => bnd (h.1 413 3) fun v11 => if x1 < v11 then rdI h 414 1620 x1 fun v12 => wrI h 415 1600 x1 (vp_nar .byte v12) fun h13 => lp_X12_house_20 k_46 n (x1 + 1) h13 else k_46  h
def lp_X12_house_74 (k_95 : am_H → Option (Int32 × am_H)) : Nat → am_H → Option (Int32 × am_H)
  | 0, _ => none
  | n + 1, h => cal (f_X12_isGood h) fun v37 => if v37 = 0 then k_95  h else bnd (h.1 413 8) fun v39 => if v39 = 0 then k_95  h else cal (f_X12_readLine h) fun h41 => lp_X12_house_74 k_95 n  h41
def jn_X12_house_95  (h : am_H) : Option (Int32 × am_H) := cal (f_X12_isGood h) fun v47 => if v47 = 0 then some ((-1), h) else bnd (h.1 413 33) fun v49 => ptI h 413 32 v49 fun h50 => cal (f_X12_startAnew h50) fun h54 => bnd (h54.1 413 32) fun v57 => rdI h54 417 2 v57 fun v58 => some (v58, h54)
def f_X12_house  (h : am_H) : Option (Int32 × am_H) := ptI h 413 4 0 fun h1 => ptI h1 413 5 (-1) fun h4 => bnd (h4.1 413 2) fun v7 => ptI h4 413 3 v7 fun h8 => lp_X12_house_20 (fun h16 => ptI h16 413 2 0 fun h18 => ptI h18 413 7 0 fun h21 => bnd (h21.1 413 32) fun v24 => ptI h21 413 33 ((1 : Int32) - v24) fun h25 => cal (f_X12_clearBank h25) fun h29 => cal (f_X12_goOn h29) fun h33 => lp_X12_house_74 (fun h44 => jn_X12_house_95  h44) 4000  h33) 4000 0 h8
theorem rl_X12_house_20 {X : am_X} {d : Nat} (hd : 7 ≤ d) (k_46 : am_H → Option (Int32 × am_H)) {r : Int32 × am_H} (hk_46 : ∀ (h : am_H), am_TP h.2.2 → k_46  h = some r → am_G X d 12 false cX12_house (some .int) 46 [some (.ref 413), none] [] (am_SH, h) (some (.int r.1), (am_SH, r.2))) : ∀ (n : Nat) (x1 : Int32) (h : am_H), am_TP h.2.2 → lp_X12_house_20 k_46 n x1 h = some r → am_G X d 12 false cX12_house (some .int) 20 [some (.ref 413), some (.int x1)] [] (am_SH, h) (some (.int r.1), (am_SH, r.2)) := by
  obtain ⟨d, rfl⟩ : ∃ e, d = e + 1 := ⟨d - 1, by omega⟩
  intro n
  induction n with
  | zero => intro x1 h T hf; cases hf
  | succ n ih =>
    intro x1 h T hf
    rw [lp_X12_house_20] at hf
    refine r_loc dX12_house_20 rfl ?_
    refine r_loc dX12_house_21 rfl ?_
    refine r_getI dX12_house_22 fl_12_134 sh_413 rfl hf (fun v11 hf => ?_)
    refine r_ge (q := 46) dX12_house_25 rfl hf (fun hf => ?_) (fun hf => ?_)
    · refine r_weak (L := [some (.ref 413), none]) (am_le_s (am_le_n am_le_0)) ?_
      exact hk_46  h T hf
    · refine r_loc dX12_house_28 rfl ?_
      refine r_getR dX12_house_29 fl_12_13 sh_413 (Or.inr ⟨_, rfl⟩) (tp_413_1 T) ?_
      refine r_loc dX12_house_32 rfl ?_
      refine r_loc dX12_house_33 rfl ?_
      refine r_getR dX12_house_34 fl_12_7 sh_413 (Or.inr ⟨_, rfl⟩) (tp_413_0 T) ?_
      refine r_loc dX12_house_37 rfl ?_
      refine r_bald dX12_house_38 sh_414 rfl hf (fun v12 hf => ?_)
      refine r_bast dX12_house_39 sh_415 rfl hf (fun h13 e15 hf => ?_)
      have T14 := tp_eq e15 T
      refine r_loc (L' := [some (.ref 413), some (.int (x1 + 1))]) dX12_house_40 rfl ?_
      refine r_goto (q := 20) dX12_house_43 rfl ?_
      exact ih (x1 + 1) h13 T14 hf
theorem rl_X12_house_74 {X : am_X} {d : Nat} (hd : 7 ≤ d) (k_95 : am_H → Option (Int32 × am_H)) {r : Int32 × am_H} (hk_95 : ∀ (h : am_H), am_TP h.2.2 → k_95  h = some r → am_G X d 12 false cX12_house (some .int) 95 [some (.ref 413), none] [] (am_SH, h) (some (.int r.1), (am_SH, r.2))) : ∀ (n : Nat) (h : am_H), am_TP h.2.2 → lp_X12_house_74 k_95 n h = some r → am_G X d 12 false cX12_house (some .int) 74 [some (.ref 413), none] [] (am_SH, h) (some (.int r.1), (am_SH, r.2)) := by
  obtain ⟨d, rfl⟩ : ∃ e, d = e + 1 := ⟨d - 1, by omega⟩
  intro n
  induction n with
  | zero => intro h T hf; cases hf
  | succ n ih =>
    intro h T hf
    rw [lp_X12_house_74] at hf
    refine r_loc dX12_house_74 rfl ?_
    obtain ⟨v37, c36, hf⟩ := cal_inv hf
    have g38 := rf_X12_isGood (X := X) (d := d) (by omega) T c36
    refine r_virt (pre := []) (rest := []) dX12_house_75 ct_12_214 rfl (sh_413) (Nat.le_of_ble_eq_true rfl) (Nat.le_of_ble_eq_true rfl) g38 ?_
    refine r_eq0 (q := 95) dX12_house_78 rfl hf (fun hf => ?_) (fun hf => ?_)
    · exact hk_95  h T hf
    · refine r_loc dX12_house_81 rfl ?_
      refine r_getI dX12_house_82 fl_12_186 sh_413 rfl hf (fun v39 hf => ?_)
      refine r_eq0 (q := 95) dX12_house_85 rfl hf (fun hf => ?_) (fun hf => ?_)
      · exact hk_95  h T hf
      · refine r_loc dX12_house_88 rfl ?_
        obtain ⟨h41, c40, hf⟩ := cal_inv hf
        have g43 := rf_X12_readLine (X := X) (d := d) (by omega) T c40
        have T42 : am_TP h41.2.2 := g43.2
        refine r_virt (pre := []) (rest := []) dX12_house_89 ct_12_247 rfl (sh_413) (Nat.le_of_ble_eq_true rfl) (Nat.le_of_ble_eq_true rfl) g43 ?_
        refine r_goto (q := 74) dX12_house_92 rfl ?_
        exact ih  h41 T42 hf
theorem rj_X12_house_95 {X : am_X} {d : Nat} (hd : 7 ≤ d)  {h : am_H} (T : am_TP h.2.2) {r : Int32 × am_H} (hf : jn_X12_house_95  h = some r) : am_G X d 12 false cX12_house (some .int) 95 [some (.ref 413), none] [] (am_SH, h) (some (.int r.1), (am_SH, r.2)) := by
  obtain ⟨d, rfl⟩ : ∃ e, d = e + 1 := ⟨d - 1, by omega⟩
  unfold jn_X12_house_95 at hf
  refine r_loc dX12_house_95 rfl ?_
  obtain ⟨v47, c46, hf⟩ := cal_inv hf
  have g48 := rf_X12_isGood (X := X) (d := d) (by omega) T c46
  refine r_virt (pre := []) (rest := []) dX12_house_96 ct_12_214 rfl (sh_413) (Nat.le_of_ble_eq_true rfl) (Nat.le_of_ble_eq_true rfl) g48 ?_
  refine r_ne0 (q := 104) dX12_house_99 rfl hf (fun hf => ?_) (fun hf => ?_)
  · refine r_loc dX12_house_104 rfl ?_
    refine r_loc dX12_house_105 rfl ?_
    refine r_getI dX12_house_106 fl_12_235 sh_413 rfl hf (fun v49 hf => ?_)
    refine r_putI dX12_house_109 fl_12_244 sh_413 ⟨rfl, rfl⟩ hf (fun h50 e52 hf => ?_)
    have T51 := tp_eq e52 T
    refine r_loc dX12_house_112 rfl ?_
    obtain ⟨h54, c53, hf⟩ := cal_inv hf
    have g56 := rf_X12_startAnew (X := X) (d := d) (by omega) T51 c53
    have T55 : am_TP h54.2.2 := g56.2
    refine r_virt (pre := []) (rest := []) dX12_house_113 ct_12_131 rfl (sh_413) (Nat.le_of_ble_eq_true rfl) (Nat.le_of_ble_eq_true rfl) g56 ?_
    refine r_loc dX12_house_116 rfl ?_
    refine r_getR dX12_house_117 fl_12_24 sh_413 (Or.inr ⟨_, rfl⟩) (tp_413_12 T55) ?_
    refine r_loc dX12_house_120 rfl ?_
    refine r_getI dX12_house_121 fl_12_244 sh_413 rfl hf (fun v57 hf => ?_)
    refine r_iald dX12_house_124 sh_417 hf (fun v58 hf => ?_)
    cases hf
    exact r_ri T55 dX12_house_125
  · refine r_iconst (v := (-1)) dX12_house_102 rfl ?_
    cases hf
    exact r_ri T dX12_house_103
theorem rf_X12_house {X : am_X} {d : Nat} (hd : 7 ≤ d)  {h : am_H} (T : am_TP h.2.2) {r : Int32 × am_H} (hf : f_X12_house  h = some r) : am_G X d 12 false cX12_house (some .int) 0 [some (.ref 413), none] [] (am_SH, h) (some (.int r.1), (am_SH, r.2)) := by
  unfold f_X12_house at hf
  obtain ⟨d, rfl⟩ : ∃ e, d = e + 1 := ⟨d - 1, by omega⟩
  refine r_loc dX12_house_0 rfl ?_
  refine r_iconst (v := 0) dX12_house_1 rfl ?_
  refine r_putI dX12_house_2 fl_12_137 sh_413 ⟨rfl, rfl⟩ hf (fun h1 e3 hf => ?_)
  have T2 := tp_eq e3 T
  refine r_loc dX12_house_5 rfl ?_
  refine r_iconst (v := (-1)) dX12_house_6 rfl ?_
  refine r_putI dX12_house_7 fl_12_16 sh_413 ⟨rfl, rfl⟩ hf (fun h4 e6 hf => ?_)
  have T5 := tp_eq e6 T2
  refine r_loc dX12_house_10 rfl ?_
  refine r_loc dX12_house_11 rfl ?_
  refine r_getI dX12_house_12 fl_12_241 sh_413 rfl hf (fun v7 hf => ?_)
  refine r_putI dX12_house_15 fl_12_134 sh_413 ⟨rfl, rfl⟩ hf (fun h8 e10 hf => ?_)
  have T9 := tp_eq e10 T5
  refine r_iconst (v := 0) dX12_house_18 rfl ?_
  refine r_loc (L' := [some (.ref 413), some (.int 0)]) dX12_house_19 rfl ?_
  refine rl_X12_house_20 (by omega) _ ?_ 4000 0 h8 T9 hf
  · intro h16 T17 hf
    refine r_loc dX12_house_46 rfl ?_
    refine r_iconst (v := 0) dX12_house_47 rfl ?_
    refine r_putI dX12_house_48 fl_12_241 sh_413 ⟨rfl, rfl⟩ hf (fun h18 e20 hf => ?_)
    have T19 := tp_eq e20 T17
    refine r_loc dX12_house_51 rfl ?_
    refine r_iconst (v := 0) dX12_house_52 rfl ?_
    refine r_putI dX12_house_53 fl_12_176 sh_413 ⟨rfl, rfl⟩ hf (fun h21 e23 hf => ?_)
    have T22 := tp_eq e23 T19
    refine r_loc dX12_house_56 rfl ?_
    refine r_iconst (v := 1) dX12_house_57 rfl ?_
    refine r_loc dX12_house_58 rfl ?_
    refine r_getI dX12_house_59 fl_12_244 sh_413 rfl hf (fun v24 hf => ?_)
    refine r_alu dX12_house_62 rfl ?_
    refine r_putI dX12_house_63 fl_12_235 sh_413 ⟨rfl, rfl⟩ hf (fun h25 e27 hf => ?_)
    have T26 := tp_eq e27 T22
    refine r_loc dX12_house_66 rfl ?_
    obtain ⟨h29, c28, hf⟩ := cal_inv hf
    have g31 := rf_X12_clearBank (X := X) (d := d) (by omega) T26 c28
    have T30 : am_TP h29.2.2 := g31.2
    refine r_virt (pre := []) (rest := []) dX12_house_67 ct_12_128 rfl (sh_413) (Nat.le_of_ble_eq_true rfl) (Nat.le_of_ble_eq_true rfl) g31 ?_
    refine r_loc dX12_house_70 rfl ?_
    obtain ⟨h33, c32, hf⟩ := cal_inv hf
    have g35 := rf_X12_goOn (X := X) (d := d) (by omega) T30 c32
    have T34 : am_TP h33.2.2 := g35.2
    refine r_virt (pre := []) (rest := []) dX12_house_71 ct_12_218 rfl (sh_413) (Nat.le_of_ble_eq_true rfl) (Nat.le_of_ble_eq_true rfl) g35 ?_
    refine rl_X12_house_74 (by omega) _ ?_ 4000  h33 T34 hf
    · intro h44 T45 hf
      exact rj_X12_house_95 (by omega)  T45 hf
def f_X12_fault (x1 : Int32) (h : am_H) : Option (Int32) := if x1 = 0 then bnd (h.1 413 4) fun v2 => some v2 else if x1 = 1 then bnd (h.1 413 5) fun v1 => some v1 else some (-1)
theorem rf_X12_fault {X : am_X} {d : Nat} (hd : 0 ≤ d) (x1 : Int32) {h : am_H} (T : am_TP h.2.2) {r : Int32} (hf : f_X12_fault x1 h = some r) : am_G X d 12 false cX12_fault (some .int) 0 [some (.ref 413), some (.int x1)] [] (am_SH, h) (some (.int r), (am_SH, h)) := by
  unfold f_X12_fault at hf
  refine r_loc dX12_fault_0 rfl ?_
  refine r_ne0 (q := 11) dX12_fault_1 rfl hf (fun hf => ?_) (fun hf => ?_)
  · refine r_loc dX12_fault_11 rfl ?_
    refine r_iconst (v := 1) dX12_fault_12 rfl ?_
    refine r_ne (q := 23) dX12_fault_13 rfl hf (fun hf => ?_) (fun hf => ?_)
    · refine r_iconst (v := (-1)) dX12_fault_23 rfl ?_
      cases hf
      exact r_ri T dX12_fault_24
    · refine r_loc dX12_fault_16 rfl ?_
      refine r_getI dX12_fault_17 fl_12_16 sh_413 rfl hf (fun v1 hf => ?_)
      refine r_goto (q := 24) dX12_fault_20 rfl ?_
      cases hf
      exact r_ri T dX12_fault_24
  · refine r_loc dX12_fault_4 rfl ?_
    refine r_getI dX12_fault_5 fl_12_137 sh_413 rfl hf (fun v2 hf => ?_)
    refine r_goto (q := 24) dX12_fault_8 rfl ?_
    cases hf
    exact r_ri T dX12_fault_24
def f_X12_chambers  (h : am_H) : Option (Int32) := bnd (h.1 413 32) fun v1 => rdI h 416 2 v1 fun v2 => some v2
theorem rf_X12_chambers {X : am_X} {d : Nat} (hd : 0 ≤ d)  {h : am_H} (T : am_TP h.2.2) {r : Int32} (hf : f_X12_chambers  h = some r) : am_G X d 12 false cX12_chambers (some .int) 0 [some (.ref 413)] [] (am_SH, h) (some (.int r), (am_SH, h)) := by
  unfold f_X12_chambers at hf
  refine r_loc dX12_chambers_0 rfl ?_
  refine r_getR dX12_chambers_1 fl_12_20 sh_413 (Or.inr ⟨_, rfl⟩) (tp_413_11 T) ?_
  refine r_loc dX12_chambers_4 rfl ?_
  refine r_getI dX12_chambers_5 fl_12_244 sh_413 rfl hf (fun v1 hf => ?_)
  refine r_iald dX12_chambers_8 sh_416 hf (fun v2 hf => ?_)
  cases hf
  exact r_ri T dX12_chambers_9
def f_X12_isIn (x0 : Int32) (x1 : Int32) (x2 : Int32) (h : am_H) : Option (Int32) := if x0 < x1 then some 0 else if x2 < x0 then some 0 else some 1
theorem rf_X12_isIn {X : am_X} {d : Nat} (hd : 0 ≤ d) (x0 : Int32) (x1 : Int32) (x2 : Int32) {h : am_H} (T : am_TP h.2.2) {r : Int32} (hf : f_X12_isIn x0 x1 x2 h = some r) : am_G X d 12 false cX12_isIn (some .boolean) 0 [some (.int x0), some (.int x1), some (.int x2)] [] (am_SH, h) (some (.int r), (am_SH, h)) := by
  unfold f_X12_isIn at hf
  refine r_loc dX12_isIn_0 rfl ?_
  refine r_loc dX12_isIn_1 rfl ?_
  refine r_lt (q := 14) dX12_isIn_2 rfl hf (fun hf => ?_) (fun hf => ?_)
  · refine r_iconst (v := 0) dX12_isIn_14 rfl ?_
    cases hf
    exact r_z0 T dX12_isIn_15
  · refine r_loc dX12_isIn_5 rfl ?_
    refine r_loc dX12_isIn_6 rfl ?_
    refine r_gt (q := 14) dX12_isIn_7 rfl hf (fun hf => ?_) (fun hf => ?_)
    · refine r_iconst (v := 0) dX12_isIn_14 rfl ?_
      cases hf
      exact r_z0 T dX12_isIn_15
    · refine r_iconst (v := 1) dX12_isIn_10 rfl ?_
      refine r_goto (q := 15) dX12_isIn_11 rfl ?_
      cases hf
      exact r_z1 T dX12_isIn_15
def f_X12_isRoom (x1 : Int32) (h : am_H) : Option (Int32) := cal (f_X12_chambers h) fun v2 => cal (f_X12_isIn x1 0 (v2 - 1) h) fun v5 => zrt v5 (some v5)
theorem rf_X12_isRoom {X : am_X} {d : Nat} (hd : 1 ≤ d) (x1 : Int32) {h : am_H} (T : am_TP h.2.2) {r : Int32} (hf : f_X12_isRoom x1 h = some r) : am_G X d 12 false cX12_isRoom (some .boolean) 0 [some (.ref 413), some (.int x1)] [] (am_SH, h) (some (.int r), (am_SH, h)) := by
  unfold f_X12_isRoom at hf
  obtain ⟨d, rfl⟩ : ∃ e, d = e + 1 := ⟨d - 1, by omega⟩
  refine r_loc dX12_isRoom_0 rfl ?_
  refine r_iconst (v := 0) dX12_isRoom_1 rfl ?_
  refine r_loc dX12_isRoom_2 rfl ?_
  obtain ⟨v2, c1, hf⟩ := cal_inv hf
  have g3 := rf_X12_chambers (X := X) (d := d) (by omega) T c1
  refine r_virt (pre := []) (rest := [.int 0, .int x1]) dX12_isRoom_3 ct_12_343 rfl (sh_413) (Nat.le_of_ble_eq_true rfl) (Nat.le_of_ble_eq_true rfl) g3 ?_
  refine r_iconst (v := 1) dX12_isRoom_6 rfl ?_
  refine r_alu dX12_isRoom_7 rfl ?_
  obtain ⟨v5, c4, hf⟩ := cal_inv hf
  have g6 := rf_X12_isIn (X := X) (d := d) (by omega) x1 0 (v2 - 1) T c4
  refine r_stat (pre := [.int (v2 - 1), .int 0, .int x1]) (rest := []) dX12_isRoom_8 ct_12_346 rfl (Nat.le_of_ble_eq_true rfl) (Nat.le_of_ble_eq_true rfl) g6 ?_
  exact r_zret T dX12_isRoom_11 hf (fun hf => by cases hf; rfl)
def f_X12_holdsOf (x1 : Int32) (h : am_H) : Option (Int32) := bnd (h.1 413 32) fun v1 => rdI h 423 8 (((4 : Int32) * v1) + x1) fun v2 => some v2
theorem rf_X12_holdsOf {X : am_X} {d : Nat} (hd : 0 ≤ d) (x1 : Int32) {h : am_H} (T : am_TP h.2.2) {r : Int32} (hf : f_X12_holdsOf x1 h = some r) : am_G X d 12 false cX12_holdsOf (some .int) 0 [some (.ref 413), some (.int x1)] [] (am_SH, h) (some (.int r), (am_SH, h)) := by
  unfold f_X12_holdsOf at hf
  refine r_loc dX12_holdsOf_0 rfl ?_
  refine r_getR dX12_holdsOf_1 fl_12_42 sh_413 (Or.inr ⟨_, rfl⟩) (tp_413_18 T) ?_
  refine r_iconst (v := 4) dX12_holdsOf_4 rfl ?_
  refine r_loc dX12_holdsOf_5 rfl ?_
  refine r_getI dX12_holdsOf_6 fl_12_244 sh_413 rfl hf (fun v1 hf => ?_)
  refine r_alu dX12_holdsOf_9 rfl ?_
  refine r_loc dX12_holdsOf_10 rfl ?_
  refine r_alu dX12_holdsOf_11 rfl ?_
  refine r_iald dX12_holdsOf_12 sh_423 hf (fun v2 hf => ?_)
  cases hf
  exact r_ri T dX12_holdsOf_13
def lp_X12_thoseIn_4 (p1 : Int32) (h : am_H) : Nat → Int32 → Int32 → Option (Int32)
  | 0, _, _ => none
  | n + 1, x2, x3 => if x3 < 8 then rdI h 437 59 ((0 : Int32) + x3) fun v1 => if 0 < v1 then rdI h 437 59 ((8 : Int32) + x3) fun v2 => if v2 = p1 then lp_X12_thoseIn_4 p1 h n (x2 ||| ((1 : Int32) <<< (x3 &&& 31))) (x3 + 1) else lp_X12_thoseIn_4 p1 h n x2 (x3 + 1) else lp_X12_thoseIn_4 p1 h n x2 (x3 + 1) else some x2
def f_X12_thoseIn (x1 : Int32) (h : am_H) : Option (Int32) := lp_X12_thoseIn_4 x1 h  4000 0 0
theorem rl_X12_thoseIn_4 {X : am_X} {d : Nat} (hd : 0 ≤ d) (p1 : Int32) {h : am_H} (T : am_TP h.2.2) {r : Int32} : ∀ (n : Nat) (x2 : Int32) (x3 : Int32) , lp_X12_thoseIn_4 p1 h n x2 x3 = some r → am_G X d 12 false cX12_thoseIn (some .int) 4 [some (.ref 413), some (.int p1), some (.int x2), some (.int x3)] [] (am_SH, h) (some (.int r), (am_SH, h)) := by
  intro n
  induction n with
  | zero => intro x2 x3 hf; cases hf
  | succ n ih =>
    intro x2 x3 hf
    rw [lp_X12_thoseIn_4] at hf
    refine r_loc dX12_thoseIn_4 rfl ?_
    refine r_bipush (v := 8) dX12_thoseIn_5 rfl ?_
    refine r_ge (q := 46) dX12_thoseIn_7 rfl hf (fun hf => ?_) (fun hf => ?_)
    · refine r_loc dX12_thoseIn_46 rfl ?_
      cases hf
      exact r_ri T dX12_thoseIn_47
    · refine r_loc dX12_thoseIn_10 rfl ?_
      refine r_getR dX12_thoseIn_11 fl_12_85 sh_413 (Or.inr ⟨_, rfl⟩) (tp_413_40 T) ?_
      refine r_iconst (v := 0) dX12_thoseIn_14 rfl ?_
      refine r_loc dX12_thoseIn_15 rfl ?_
      refine r_alu dX12_thoseIn_16 rfl ?_
      refine r_iald dX12_thoseIn_17 sh_437 hf (fun v1 hf => ?_)
      refine r_le0 (q := 40) dX12_thoseIn_18 rfl hf (fun hf => ?_) (fun hf => ?_)
      · refine r_loc (L' := [some (.ref 413), some (.int p1), some (.int x2), some (.int (x3 + 1))]) dX12_thoseIn_40 rfl ?_
        refine r_goto (q := 4) dX12_thoseIn_43 rfl ?_
        exact ih x2 (x3 + 1) hf
      · refine r_loc dX12_thoseIn_21 rfl ?_
        refine r_getR dX12_thoseIn_22 fl_12_85 sh_413 (Or.inr ⟨_, rfl⟩) (tp_413_40 T) ?_
        refine r_bipush (v := 8) dX12_thoseIn_25 rfl ?_
        refine r_loc dX12_thoseIn_27 rfl ?_
        refine r_alu dX12_thoseIn_28 rfl ?_
        refine r_iald dX12_thoseIn_29 sh_437 hf (fun v2 hf => ?_)
        refine r_loc dX12_thoseIn_30 rfl ?_
        refine r_ne (q := 40) dX12_thoseIn_31 rfl hf (fun hf => ?_) (fun hf => ?_)
        · refine r_loc (L' := [some (.ref 413), some (.int p1), some (.int x2), some (.int (x3 + 1))]) dX12_thoseIn_40 rfl ?_
          refine r_goto (q := 4) dX12_thoseIn_43 rfl ?_
          exact ih x2 (x3 + 1) hf
        · refine r_loc dX12_thoseIn_34 rfl ?_
          refine r_iconst (v := 1) dX12_thoseIn_35 rfl ?_
          refine r_loc dX12_thoseIn_36 rfl ?_
          refine r_alu dX12_thoseIn_37 rfl ?_
          refine r_alu dX12_thoseIn_38 rfl ?_
          refine r_loc (L' := [some (.ref 413), some (.int p1), some (.int (x2 ||| ((1 : Int32) <<< (x3 &&& 31)))), some (.int x3)]) dX12_thoseIn_39 rfl ?_
          refine r_loc (L' := [some (.ref 413), some (.int p1), some (.int (x2 ||| ((1 : Int32) <<< (x3 &&& 31)))), some (.int (x3 + 1))]) dX12_thoseIn_40 rfl ?_
          refine r_goto (q := 4) dX12_thoseIn_43 rfl ?_
          exact ih (x2 ||| ((1 : Int32) <<< (x3 &&& 31))) (x3 + 1) hf
theorem rf_X12_thoseIn {X : am_X} {d : Nat} (hd : 0 ≤ d) (x1 : Int32) {h : am_H} (T : am_TP h.2.2) {r : Int32} (hf : f_X12_thoseIn x1 h = some r) : am_G X d 12 false cX12_thoseIn (some .int) 0 [some (.ref 413), some (.int x1), none, none] [] (am_SH, h) (some (.int r), (am_SH, h)) := by
  unfold f_X12_thoseIn at hf
  refine r_iconst (v := 0) dX12_thoseIn_0 rfl ?_
  refine r_loc (L' := [some (.ref 413), some (.int x1), some (.int 0), none]) dX12_thoseIn_1 rfl ?_
  refine r_iconst (v := 0) dX12_thoseIn_2 rfl ?_
  refine r_loc (L' := [some (.ref 413), some (.int x1), some (.int 0), some (.int 0)]) dX12_thoseIn_3 rfl ?_
  refine rl_X12_thoseIn_4 (by omega) x1 T  4000 0 0  hf
def lp_X12_bulkOf_4 (p1 : Int32) (h : am_H) : Nat → Int32 → Int32 → Option (Int32)
  | 0, _, _ => none
  | n + 1, x2, x3 => if x3 < 8 then cal (f_X12_bit p1 x3 h) fun v2 => if v2 = 0 then lp_X12_bulkOf_4 p1 h n (x2 + 0) (x3 + 1) else rdI h 437 59 ((0 : Int32) + x3) fun v4 => lp_X12_bulkOf_4 p1 h n (x2 + v4) (x3 + 1) else some x2
def f_X12_bulkOf (x1 : Int32) (h : am_H) : Option (Int32) := lp_X12_bulkOf_4 x1 h  4000 0 0
theorem rl_X12_bulkOf_4 {X : am_X} {d : Nat} (hd : 1 ≤ d) (p1 : Int32) {h : am_H} (T : am_TP h.2.2) {r : Int32} : ∀ (n : Nat) (x2 : Int32) (x3 : Int32) , lp_X12_bulkOf_4 p1 h n x2 x3 = some r → am_G X d 12 false cX12_bulkOf (some .int) 4 [some (.ref 413), some (.int p1), some (.int x2), some (.int x3)] [] (am_SH, h) (some (.int r), (am_SH, h)) := by
  obtain ⟨d, rfl⟩ : ∃ e, d = e + 1 := ⟨d - 1, by omega⟩
  intro n
  induction n with
  | zero => intro x2 x3 hf; cases hf
  | succ n ih =>
    intro x2 x3 hf
    rw [lp_X12_bulkOf_4] at hf
    refine r_loc dX12_bulkOf_4 rfl ?_
    refine r_bipush (v := 8) dX12_bulkOf_5 rfl ?_
    refine r_ge (q := 39) dX12_bulkOf_7 rfl hf (fun hf => ?_) (fun hf => ?_)
    · refine r_loc dX12_bulkOf_39 rfl ?_
      cases hf
      exact r_ri T dX12_bulkOf_40
    · refine r_loc dX12_bulkOf_10 rfl ?_
      refine r_loc dX12_bulkOf_11 rfl ?_
      refine r_loc dX12_bulkOf_12 rfl ?_
      obtain ⟨v2, c1, hf⟩ := cal_inv hf
      have g3 := rf_X12_bit (X := X) (d := d) (by omega) p1 x3 T c1
      refine r_stat (pre := [.int x3, .int p1]) (rest := [.int x2]) dX12_bulkOf_13 ct_12_250 rfl (Nat.le_of_ble_eq_true rfl) (Nat.le_of_ble_eq_true rfl) g3 ?_
      refine r_eq0 (q := 30) dX12_bulkOf_16 rfl hf (fun hf => ?_) (fun hf => ?_)
      · refine r_iconst (v := 0) dX12_bulkOf_30 rfl ?_
        refine r_alu dX12_bulkOf_31 rfl ?_
        refine r_loc (L' := [some (.ref 413), some (.int p1), some (.int (x2 + 0)), some (.int x3)]) dX12_bulkOf_32 rfl ?_
        refine r_loc (L' := [some (.ref 413), some (.int p1), some (.int (x2 + 0)), some (.int (x3 + 1))]) dX12_bulkOf_33 rfl ?_
        refine r_goto (q := 4) dX12_bulkOf_36 rfl ?_
        exact ih (x2 + 0) (x3 + 1) hf
      · refine r_loc dX12_bulkOf_19 rfl ?_
        refine r_getR dX12_bulkOf_20 fl_12_85 sh_413 (Or.inr ⟨_, rfl⟩) (tp_413_40 T) ?_
        refine r_iconst (v := 0) dX12_bulkOf_23 rfl ?_
        refine r_loc dX12_bulkOf_24 rfl ?_
        refine r_alu dX12_bulkOf_25 rfl ?_
        refine r_iald dX12_bulkOf_26 sh_437 hf (fun v4 hf => ?_)
        refine r_goto (q := 31) dX12_bulkOf_27 rfl ?_
        refine r_alu dX12_bulkOf_31 rfl ?_
        refine r_loc (L' := [some (.ref 413), some (.int p1), some (.int (x2 + v4)), some (.int x3)]) dX12_bulkOf_32 rfl ?_
        refine r_loc (L' := [some (.ref 413), some (.int p1), some (.int (x2 + v4)), some (.int (x3 + 1))]) dX12_bulkOf_33 rfl ?_
        refine r_goto (q := 4) dX12_bulkOf_36 rfl ?_
        exact ih (x2 + v4) (x3 + 1) hf
theorem rf_X12_bulkOf {X : am_X} {d : Nat} (hd : 1 ≤ d) (x1 : Int32) {h : am_H} (T : am_TP h.2.2) {r : Int32} (hf : f_X12_bulkOf x1 h = some r) : am_G X d 12 false cX12_bulkOf (some .int) 0 [some (.ref 413), some (.int x1), none, none] [] (am_SH, h) (some (.int r), (am_SH, h)) := by
  unfold f_X12_bulkOf at hf
  obtain ⟨d, rfl⟩ : ∃ e, d = e + 1 := ⟨d - 1, by omega⟩
  refine r_iconst (v := 0) dX12_bulkOf_0 rfl ?_
  refine r_loc (L' := [some (.ref 413), some (.int x1), some (.int 0), none]) dX12_bulkOf_1 rfl ?_
  refine r_iconst (v := 0) dX12_bulkOf_2 rfl ?_
  refine r_loc (L' := [some (.ref 413), some (.int x1), some (.int 0), some (.int 0)]) dX12_bulkOf_3 rfl ?_
  refine rl_X12_bulkOf_4 (by omega) x1 T  4000 0 0  hf
def f_X12_leftIn (x1 : Int32) (h : am_H) : Option (Int32) := cal (f_X12_holdsOf x1 h) fun v2 => cal (f_X12_thoseIn x1 h) fun v5 => cal (f_X12_bulkOf v5 h) fun v8 => some (v2 - v8)
theorem rf_X12_leftIn {X : am_X} {d : Nat} (hd : 2 ≤ d) (x1 : Int32) {h : am_H} (T : am_TP h.2.2) {r : Int32} (hf : f_X12_leftIn x1 h = some r) : am_G X d 12 false cX12_leftIn (some .int) 0 [some (.ref 413), some (.int x1)] [] (am_SH, h) (some (.int r), (am_SH, h)) := by
  unfold f_X12_leftIn at hf
  obtain ⟨d, rfl⟩ : ∃ e, d = e + 1 := ⟨d - 1, by omega⟩
  refine r_loc dX12_leftIn_0 rfl ?_
  refine r_loc dX12_leftIn_1 rfl ?_
  obtain ⟨v2, c1, hf⟩ := cal_inv hf
  have g3 := rf_X12_holdsOf (X := X) (d := d) (by omega) x1 T c1
  refine r_virt (pre := [.int x1]) (rest := []) dX12_leftIn_2 ct_12_350 rfl (sh_413) (Nat.le_of_ble_eq_true rfl) (Nat.le_of_ble_eq_true rfl) g3 ?_
  refine r_loc dX12_leftIn_5 rfl ?_
  refine r_loc dX12_leftIn_6 rfl ?_
  refine r_loc dX12_leftIn_7 rfl ?_
  obtain ⟨v5, c4, hf⟩ := cal_inv hf
  have g6 := rf_X12_thoseIn (X := X) (d := d) (by omega) x1 T c4
  refine r_virt (pre := [.int x1]) (rest := [.ref 413, .int v2]) dX12_leftIn_8 ct_12_353 rfl (sh_413) (Nat.le_of_ble_eq_true rfl) (Nat.le_of_ble_eq_true rfl) g6 ?_
  obtain ⟨v8, c7, hf⟩ := cal_inv hf
  have g9 := rf_X12_bulkOf (X := X) (d := d) (by omega) v5 T c7
  refine r_virt (pre := [.int v5]) (rest := [.int v2]) dX12_leftIn_11 ct_12_356 rfl (sh_413) (Nat.le_of_ble_eq_true rfl) (Nat.le_of_ble_eq_true rfl) g9 ?_
  refine r_alu dX12_leftIn_14 rfl ?_
  cases hf
  exact r_ri T dX12_leftIn_15
def f_X12_room (x1 : Int32) (x2 : Int32) (h : am_H) : Option (Int32) := cal (f_X12_isRoom x1 h) fun v2 => if v2 = 0 then some (-1) else if x2 = 0 then cal (f_X12_holdsOf x1 h) fun v5 => some v5 else if x2 = 1 then cal (f_X12_leftIn x1 h) fun v8 => some v8 else if x2 = 2 then cal (f_X12_thoseIn x1 h) fun v11 => some v11 else some (-1)
theorem rf_X12_room {X : am_X} {d : Nat} (hd : 3 ≤ d) (x1 : Int32) (x2 : Int32) {h : am_H} (T : am_TP h.2.2) {r : Int32} (hf : f_X12_room x1 x2 h = some r) : am_G X d 12 false cX12_room (some .int) 0 [some (.ref 413), some (.int x1), some (.int x2)] [] (am_SH, h) (some (.int r), (am_SH, h)) := by
  unfold f_X12_room at hf
  obtain ⟨d, rfl⟩ : ∃ e, d = e + 1 := ⟨d - 1, by omega⟩
  refine r_loc dX12_room_0 rfl ?_
  refine r_loc dX12_room_1 rfl ?_
  obtain ⟨v2, c1, hf⟩ := cal_inv hf
  have g3 := rf_X12_isRoom (X := X) (d := d) (by omega) x1 T c1
  refine r_virt (pre := [.int x1]) (rest := []) dX12_room_2 ct_12_408 rfl (sh_413) (Nat.le_of_ble_eq_true rfl) (Nat.le_of_ble_eq_true rfl) g3 ?_
  refine r_ne0 (q := 10) dX12_room_5 rfl hf (fun hf => ?_) (fun hf => ?_)
  · refine r_loc dX12_room_10 rfl ?_
    refine r_swc (x := x2) (v := 0) (off := 25) (q := 36) dX12_room_11 rfl rfl hf (fun hf => ?_) (fun n0 hf => ?_)
    · refine r_loc dX12_room_36 rfl ?_
      refine r_loc dX12_room_37 rfl ?_
      obtain ⟨v5, c4, hf⟩ := cal_inv hf
      have g6 := rf_X12_holdsOf (X := X) (d := d) (by omega) x1 T c4
      refine r_virt (pre := [.int x1]) (rest := []) dX12_room_38 ct_12_350 rfl (sh_413) (Nat.le_of_ble_eq_true rfl) (Nat.le_of_ble_eq_true rfl) g6 ?_
      cases hf
      exact r_ri T dX12_room_41
    refine r_swc (x := x2) (v := 1) (off := 31) (q := 42) dX12_room_11 rfl rfl hf (fun hf => ?_) (fun n1 hf => ?_)
    · refine r_loc dX12_room_42 rfl ?_
      refine r_loc dX12_room_43 rfl ?_
      obtain ⟨v8, c7, hf⟩ := cal_inv hf
      have g9 := rf_X12_leftIn (X := X) (d := d) (by omega) x1 T c7
      refine r_virt (pre := [.int x1]) (rest := []) dX12_room_44 ct_12_328 rfl (sh_413) (Nat.le_of_ble_eq_true rfl) (Nat.le_of_ble_eq_true rfl) g9 ?_
      cases hf
      exact r_ri T dX12_room_47
    refine r_swc (x := x2) (v := 2) (off := 37) (q := 48) dX12_room_11 rfl rfl hf (fun hf => ?_) (fun n2 hf => ?_)
    · refine r_loc dX12_room_48 rfl ?_
      refine r_loc dX12_room_49 rfl ?_
      obtain ⟨v11, c10, hf⟩ := cal_inv hf
      have g12 := rf_X12_thoseIn (X := X) (d := d) (by omega) x1 T c10
      refine r_virt (pre := [.int x1]) (rest := []) dX12_room_50 ct_12_353 rfl (sh_413) (Nat.le_of_ble_eq_true rfl) (Nat.le_of_ble_eq_true rfl) g12 ?_
      cases hf
      exact r_ri T dX12_room_53
    refine r_swdt (q := 54) dX12_room_11 (by decide) ⟨Or.inr n0, Or.inr n1, Or.inr n2, trivial⟩ rfl ?_
    refine r_iconst (v := (-1)) dX12_room_54 rfl ?_
    cases hf
    exact r_ri T dX12_room_55
  · refine r_iconst (v := (-1)) dX12_room_8 rfl ?_
    cases hf
    exact r_ri T dX12_room_9
def f_X12_isThere (x1 : Int32) (h : am_H) : Option (Int32) := cal (f_X12_isIn x1 0 7 h) fun v2 => if v2 = 0 then some 0 else rdI h 437 59 ((0 : Int32) + x1) fun v4 => if 0 < v4 then some 1 else some 0
theorem rf_X12_isThere {X : am_X} {d : Nat} (hd : 1 ≤ d) (x1 : Int32) {h : am_H} (T : am_TP h.2.2) {r : Int32} (hf : f_X12_isThere x1 h = some r) : am_G X d 12 false cX12_isThere (some .boolean) 0 [some (.ref 413), some (.int x1)] [] (am_SH, h) (some (.int r), (am_SH, h)) := by
  unfold f_X12_isThere at hf
  obtain ⟨d, rfl⟩ : ∃ e, d = e + 1 := ⟨d - 1, by omega⟩
  refine r_loc dX12_isThere_0 rfl ?_
  refine r_iconst (v := 0) dX12_isThere_1 rfl ?_
  refine r_bipush (v := 7) dX12_isThere_2 rfl ?_
  obtain ⟨v2, c1, hf⟩ := cal_inv hf
  have g3 := rf_X12_isIn (X := X) (d := d) (by omega) x1 0 7 T c1
  refine r_stat (pre := [.int 7, .int 0, .int x1]) (rest := []) dX12_isThere_4 ct_12_346 rfl (Nat.le_of_ble_eq_true rfl) (Nat.le_of_ble_eq_true rfl) g3 ?_
  refine r_eq0 (q := 25) dX12_isThere_7 rfl hf (fun hf => ?_) (fun hf => ?_)
  · refine r_iconst (v := 0) dX12_isThere_25 rfl ?_
    cases hf
    exact r_z0 T dX12_isThere_26
  · refine r_loc dX12_isThere_10 rfl ?_
    refine r_getR dX12_isThere_11 fl_12_85 sh_413 (Or.inr ⟨_, rfl⟩) (tp_413_40 T) ?_
    refine r_iconst (v := 0) dX12_isThere_14 rfl ?_
    refine r_loc dX12_isThere_15 rfl ?_
    refine r_alu dX12_isThere_16 rfl ?_
    refine r_iald dX12_isThere_17 sh_437 hf (fun v4 hf => ?_)
    refine r_le0 (q := 25) dX12_isThere_18 rfl hf (fun hf => ?_) (fun hf => ?_)
    · refine r_iconst (v := 0) dX12_isThere_25 rfl ?_
      cases hf
      exact r_z0 T dX12_isThere_26
    · refine r_iconst (v := 1) dX12_isThere_21 rfl ?_
      refine r_goto (q := 26) dX12_isThere_22 rfl ?_
      cases hf
      exact r_z1 T dX12_isThere_26
def f_X12_trunk (x1 : Int32) (x2 : Int32) (h : am_H) : Option (Int32) := cal (f_X12_isThere x1 h) fun v2 => if v2 = 0 then some (-2) else if x2 = 0 then rdI h 437 59 ((0 : Int32) + x1) fun v4 => some v4 else if x2 = 1 then rdI h 437 59 ((8 : Int32) + x1) fun v5 => some v5 else if x2 = 2 then rdI h 437 59 ((16 : Int32) + x1) fun v6 => some v6 else if x2 = 3 then rdI h 437 59 ((24 : Int32) + x1) fun v7 => some v7 else if x2 = 4 then rdI h 437 59 ((32 : Int32) + x1) fun v8 => some v8 else if x2 = 5 then rdI h 437 59 ((40 : Int32) + x1) fun v9 => some v9 else if x2 = 6 then rdI h 437 59 ((48 : Int32) + x1) fun v10 => some v10 else some (-2)
theorem rf_X12_trunk {X : am_X} {d : Nat} (hd : 2 ≤ d) (x1 : Int32) (x2 : Int32) {h : am_H} (T : am_TP h.2.2) {r : Int32} (hf : f_X12_trunk x1 x2 h = some r) : am_G X d 12 false cX12_trunk (some .int) 0 [some (.ref 413), some (.int x1), some (.int x2)] [] (am_SH, h) (some (.int r), (am_SH, h)) := by
  unfold f_X12_trunk at hf
  obtain ⟨d, rfl⟩ : ∃ e, d = e + 1 := ⟨d - 1, by omega⟩
  refine r_loc dX12_trunk_0 rfl ?_
  refine r_loc dX12_trunk_1 rfl ?_
  obtain ⟨v2, c1, hf⟩ := cal_inv hf
  have g3 := rf_X12_isThere (X := X) (d := d) (by omega) x1 T c1
  refine r_virt (pre := [.int x1]) (rest := []) dX12_trunk_2 ct_12_411 rfl (sh_413) (Nat.le_of_ble_eq_true rfl) (Nat.le_of_ble_eq_true rfl) g3 ?_
  refine r_ne0 (q := 11) dX12_trunk_5 rfl hf (fun hf => ?_) (fun hf => ?_)
  · refine r_loc dX12_trunk_11 rfl ?_
    refine r_swc (x := x2) (v := 0) (off := 44) (q := 56) dX12_trunk_12 rfl rfl hf (fun hf => ?_) (fun n0 hf => ?_)
    · refine r_loc dX12_trunk_56 rfl ?_
      refine r_getR dX12_trunk_57 fl_12_85 sh_413 (Or.inr ⟨_, rfl⟩) (tp_413_40 T) ?_
      refine r_iconst (v := 0) dX12_trunk_60 rfl ?_
      refine r_loc dX12_trunk_61 rfl ?_
      refine r_alu dX12_trunk_62 rfl ?_
      refine r_iald dX12_trunk_63 sh_437 hf (fun v4 hf => ?_)
      cases hf
      exact r_ri T dX12_trunk_64
    refine r_swc (x := x2) (v := 1) (off := 53) (q := 65) dX12_trunk_12 rfl rfl hf (fun hf => ?_) (fun n1 hf => ?_)
    · refine r_loc dX12_trunk_65 rfl ?_
      refine r_getR dX12_trunk_66 fl_12_85 sh_413 (Or.inr ⟨_, rfl⟩) (tp_413_40 T) ?_
      refine r_bipush (v := 8) dX12_trunk_69 rfl ?_
      refine r_loc dX12_trunk_71 rfl ?_
      refine r_alu dX12_trunk_72 rfl ?_
      refine r_iald dX12_trunk_73 sh_437 hf (fun v5 hf => ?_)
      cases hf
      exact r_ri T dX12_trunk_74
    refine r_swc (x := x2) (v := 2) (off := 63) (q := 75) dX12_trunk_12 rfl rfl hf (fun hf => ?_) (fun n2 hf => ?_)
    · refine r_loc dX12_trunk_75 rfl ?_
      refine r_getR dX12_trunk_76 fl_12_85 sh_413 (Or.inr ⟨_, rfl⟩) (tp_413_40 T) ?_
      refine r_bipush (v := 16) dX12_trunk_79 rfl ?_
      refine r_loc dX12_trunk_81 rfl ?_
      refine r_alu dX12_trunk_82 rfl ?_
      refine r_iald dX12_trunk_83 sh_437 hf (fun v6 hf => ?_)
      cases hf
      exact r_ri T dX12_trunk_84
    refine r_swc (x := x2) (v := 3) (off := 73) (q := 85) dX12_trunk_12 rfl rfl hf (fun hf => ?_) (fun n3 hf => ?_)
    · refine r_loc dX12_trunk_85 rfl ?_
      refine r_getR dX12_trunk_86 fl_12_85 sh_413 (Or.inr ⟨_, rfl⟩) (tp_413_40 T) ?_
      refine r_bipush (v := 24) dX12_trunk_89 rfl ?_
      refine r_loc dX12_trunk_91 rfl ?_
      refine r_alu dX12_trunk_92 rfl ?_
      refine r_iald dX12_trunk_93 sh_437 hf (fun v7 hf => ?_)
      cases hf
      exact r_ri T dX12_trunk_94
    refine r_swc (x := x2) (v := 4) (off := 83) (q := 95) dX12_trunk_12 rfl rfl hf (fun hf => ?_) (fun n4 hf => ?_)
    · refine r_loc dX12_trunk_95 rfl ?_
      refine r_getR dX12_trunk_96 fl_12_85 sh_413 (Or.inr ⟨_, rfl⟩) (tp_413_40 T) ?_
      refine r_bipush (v := 32) dX12_trunk_99 rfl ?_
      refine r_loc dX12_trunk_101 rfl ?_
      refine r_alu dX12_trunk_102 rfl ?_
      refine r_iald dX12_trunk_103 sh_437 hf (fun v8 hf => ?_)
      cases hf
      exact r_ri T dX12_trunk_104
    refine r_swc (x := x2) (v := 5) (off := 93) (q := 105) dX12_trunk_12 rfl rfl hf (fun hf => ?_) (fun n5 hf => ?_)
    · refine r_loc dX12_trunk_105 rfl ?_
      refine r_getR dX12_trunk_106 fl_12_85 sh_413 (Or.inr ⟨_, rfl⟩) (tp_413_40 T) ?_
      refine r_bipush (v := 40) dX12_trunk_109 rfl ?_
      refine r_loc dX12_trunk_111 rfl ?_
      refine r_alu dX12_trunk_112 rfl ?_
      refine r_iald dX12_trunk_113 sh_437 hf (fun v9 hf => ?_)
      cases hf
      exact r_ri T dX12_trunk_114
    refine r_swc (x := x2) (v := 6) (off := 103) (q := 115) dX12_trunk_12 rfl rfl hf (fun hf => ?_) (fun n6 hf => ?_)
    · refine r_loc dX12_trunk_115 rfl ?_
      refine r_getR dX12_trunk_116 fl_12_85 sh_413 (Or.inr ⟨_, rfl⟩) (tp_413_40 T) ?_
      refine r_bipush (v := 48) dX12_trunk_119 rfl ?_
      refine r_loc dX12_trunk_121 rfl ?_
      refine r_alu dX12_trunk_122 rfl ?_
      refine r_iald dX12_trunk_123 sh_437 hf (fun v10 hf => ?_)
      cases hf
      exact r_ri T dX12_trunk_124
    refine r_swdt (q := 125) dX12_trunk_12 (by decide) ⟨Or.inr n0, Or.inr n1, Or.inr n2, Or.inr n3, Or.inr n4, Or.inr n5, Or.inr n6, trivial⟩ rfl ?_
    refine r_bipush (v := (-2)) dX12_trunk_125 rfl ?_
    cases hf
    exact r_ri T dX12_trunk_127
  · refine r_bipush (v := (-2)) dX12_trunk_8 rfl ?_
    cases hf
    exact r_ri T dX12_trunk_10
def lp_X12_bitsOf_4 (h : am_H) : Nat → Int32 → Int32 → Option (Int32)
  | 0, _, _ => none
  | n + 1, x1, x2 => if x2 = 0 then some x1 else lp_X12_bitsOf_4 h n (x1 + 1) (x2 &&& (x2 - 1))
def f_X12_bitsOf (x0 : Int32) (h : am_H) : Option (Int32) := lp_X12_bitsOf_4 h  4000 0 x0
theorem rl_X12_bitsOf_4 {X : am_X} {d : Nat} (hd : 0 ≤ d) {h : am_H} (T : am_TP h.2.2) {r : Int32} : ∀ (n : Nat) (x1 : Int32) (x2 : Int32) , lp_X12_bitsOf_4 h n x1 x2 = some r → am_G X d 12 false cX12_bitsOf (some .int) 4 [none, some (.int x1), some (.int x2)] [] (am_SH, h) (some (.int r), (am_SH, h)) := by
  intro n
  induction n with
  | zero => intro x1 x2 hf; cases hf
  | succ n ih =>
    intro x1 x2 hf
    rw [lp_X12_bitsOf_4] at hf
    refine r_loc dX12_bitsOf_4 rfl ?_
    refine r_eq0 (q := 20) dX12_bitsOf_5 rfl hf (fun hf => ?_) (fun hf => ?_)
    · refine r_loc dX12_bitsOf_20 rfl ?_
      cases hf
      exact r_ri T dX12_bitsOf_21
    · refine r_loc (L' := [none, some (.int (x1 + 1)), some (.int x2)]) dX12_bitsOf_8 rfl ?_
      refine r_loc dX12_bitsOf_11 rfl ?_
      refine r_loc dX12_bitsOf_12 rfl ?_
      refine r_iconst (v := 1) dX12_bitsOf_13 rfl ?_
      refine r_alu dX12_bitsOf_14 rfl ?_
      refine r_alu dX12_bitsOf_15 rfl ?_
      refine r_loc (L' := [none, some (.int (x1 + 1)), some (.int (x2 &&& (x2 - 1)))]) dX12_bitsOf_16 rfl ?_
      refine r_goto (q := 4) dX12_bitsOf_17 rfl ?_
      exact ih (x1 + 1) (x2 &&& (x2 - 1)) hf
theorem rf_X12_bitsOf {X : am_X} {d : Nat} (hd : 0 ≤ d) (x0 : Int32) {h : am_H} (T : am_TP h.2.2) {r : Int32} (hf : f_X12_bitsOf x0 h = some r) : am_G X d 12 false cX12_bitsOf (some .int) 0 [some (.int x0), none, none] [] (am_SH, h) (some (.int r), (am_SH, h)) := by
  unfold f_X12_bitsOf at hf
  refine r_iconst (v := 0) dX12_bitsOf_0 rfl ?_
  refine r_loc (L' := [some (.int x0), some (.int 0), none]) dX12_bitsOf_1 rfl ?_
  refine r_loc dX12_bitsOf_2 rfl ?_
  refine r_loc (L' := [some (.int x0), some (.int 0), some (.int x0)]) dX12_bitsOf_3 rfl ?_
  refine r_weak (L := [none, some (.int 0), some (.int x0)]) (am_le_n (am_le_s (am_le_s am_le_0))) ?_
  refine rl_X12_bitsOf_4 (by omega) T  4000 0 x0  hf
def f_X12_sharedBy (x0 : Int32) (x1 : Int32) (h : am_H) : Option (Int32) := cal (f_X12_bitsOf ((x0 ^^^ x1) &&& 63) h) fun v2 => some ((6 : Int32) - v2)
theorem rf_X12_sharedBy {X : am_X} {d : Nat} (hd : 1 ≤ d) (x0 : Int32) (x1 : Int32) {h : am_H} (T : am_TP h.2.2) {r : Int32} (hf : f_X12_sharedBy x0 x1 h = some r) : am_G X d 12 false cX12_sharedBy (some .int) 0 [some (.int x0), some (.int x1)] [] (am_SH, h) (some (.int r), (am_SH, h)) := by
  unfold f_X12_sharedBy at hf
  obtain ⟨d, rfl⟩ : ∃ e, d = e + 1 := ⟨d - 1, by omega⟩
  refine r_bipush (v := 6) dX12_sharedBy_0 rfl ?_
  refine r_loc dX12_sharedBy_2 rfl ?_
  refine r_loc dX12_sharedBy_3 rfl ?_
  refine r_alu dX12_sharedBy_4 rfl ?_
  refine r_bipush (v := 63) dX12_sharedBy_5 rfl ?_
  refine r_alu dX12_sharedBy_7 rfl ?_
  obtain ⟨v2, c1, hf⟩ := cal_inv hf
  have g3 := rf_X12_bitsOf (X := X) (d := d) (by omega) ((x0 ^^^ x1) &&& 63) T c1
  refine r_stat (pre := [.int ((x0 ^^^ x1) &&& 63)]) (rest := [.int 6]) dX12_sharedBy_8 ct_12_334 rfl (Nat.le_of_ble_eq_true rfl) (Nat.le_of_ble_eq_true rfl) g3 ?_
  refine r_alu dX12_sharedBy_11 rfl ?_
  cases hf
  exact r_ri T dX12_sharedBy_12
def lp_X12_those_4 (h : am_H) : Nat → Int32 → Int32 → Option (Int32)
  | 0, _, _ => none
  | n + 1, x1, x2 => if x2 < 8 then rdI h 437 59 ((0 : Int32) + x2) fun v1 => if 0 < v1 then lp_X12_those_4 h n (x1 ||| ((1 : Int32) <<< (x2 &&& 31))) (x2 + 1) else lp_X12_those_4 h n x1 (x2 + 1) else some x1
def f_X12_those  (h : am_H) : Option (Int32) := lp_X12_those_4 h  4000 0 0
theorem rl_X12_those_4 {X : am_X} {d : Nat} (hd : 0 ≤ d) {h : am_H} (T : am_TP h.2.2) {r : Int32} : ∀ (n : Nat) (x1 : Int32) (x2 : Int32) , lp_X12_those_4 h n x1 x2 = some r → am_G X d 12 false cX12_those (some .int) 4 [some (.ref 413), some (.int x1), some (.int x2)] [] (am_SH, h) (some (.int r), (am_SH, h)) := by
  intro n
  induction n with
  | zero => intro x1 x2 hf; cases hf
  | succ n ih =>
    intro x1 x2 hf
    rw [lp_X12_those_4] at hf
    refine r_loc dX12_those_4 rfl ?_
    refine r_bipush (v := 8) dX12_those_5 rfl ?_
    refine r_ge (q := 33) dX12_those_7 rfl hf (fun hf => ?_) (fun hf => ?_)
    · refine r_loc dX12_those_33 rfl ?_
      cases hf
      exact r_ri T dX12_those_34
    · refine r_loc dX12_those_10 rfl ?_
      refine r_getR dX12_those_11 fl_12_85 sh_413 (Or.inr ⟨_, rfl⟩) (tp_413_40 T) ?_
      refine r_iconst (v := 0) dX12_those_14 rfl ?_
      refine r_loc dX12_those_15 rfl ?_
      refine r_alu dX12_those_16 rfl ?_
      refine r_iald dX12_those_17 sh_437 hf (fun v1 hf => ?_)
      refine r_le0 (q := 27) dX12_those_18 rfl hf (fun hf => ?_) (fun hf => ?_)
      · refine r_loc (L' := [some (.ref 413), some (.int x1), some (.int (x2 + 1))]) dX12_those_27 rfl ?_
        refine r_goto (q := 4) dX12_those_30 rfl ?_
        exact ih x1 (x2 + 1) hf
      · refine r_loc dX12_those_21 rfl ?_
        refine r_iconst (v := 1) dX12_those_22 rfl ?_
        refine r_loc dX12_those_23 rfl ?_
        refine r_alu dX12_those_24 rfl ?_
        refine r_alu dX12_those_25 rfl ?_
        refine r_loc (L' := [some (.ref 413), some (.int (x1 ||| ((1 : Int32) <<< (x2 &&& 31)))), some (.int x2)]) dX12_those_26 rfl ?_
        refine r_loc (L' := [some (.ref 413), some (.int (x1 ||| ((1 : Int32) <<< (x2 &&& 31)))), some (.int (x2 + 1))]) dX12_those_27 rfl ?_
        refine r_goto (q := 4) dX12_those_30 rfl ?_
        exact ih (x1 ||| ((1 : Int32) <<< (x2 &&& 31))) (x2 + 1) hf
theorem rf_X12_those {X : am_X} {d : Nat} (hd : 0 ≤ d)  {h : am_H} (T : am_TP h.2.2) {r : Int32} (hf : f_X12_those  h = some r) : am_G X d 12 false cX12_those (some .int) 0 [some (.ref 413), none, none] [] (am_SH, h) (some (.int r), (am_SH, h)) := by
  unfold f_X12_those at hf
  refine r_iconst (v := 0) dX12_those_0 rfl ?_
  refine r_loc (L' := [some (.ref 413), some (.int 0), none]) dX12_those_1 rfl ?_
  refine r_iconst (v := 0) dX12_those_2 rfl ?_
  refine r_loc (L' := [some (.ref 413), some (.int 0), some (.int 0)]) dX12_those_3 rfl ?_
  refine rl_X12_those_4 (by omega) T  4000 0 0  hf
def jn_X12_two_203 (x1 : Int32) (x2 : Int32) (h : am_H) : Option (Int32) := if x1 = 0 then if x2 = 0 then some 0 else some 1 else some 1
def f_X12_two (x0 : Int32) (x1 : Int32) (x2 : Int32) (h : am_H) : Option (Int32) := if x0 = 37 then if x2 = 0 then some 0 else dvI x2 (some (x1 - x1 / x2 * x2)) else if x0 = 38 then if x1 = 0 then some 0 else if x2 = 0 then some 0 else some 1 else if x0 = 42 then some (x1 * x2) else if x0 = 43 then some (x1 + x2) else if x0 = 45 then some (x1 - x2) else if x0 = 47 then if x2 = 0 then some 0 else dvI x2 (some (x1 / x2)) else if x0 = 60 then if x1 < x2 then some 1 else some 0 else if x0 = 61 then if x1 = x2 then some 1 else some 0 else if x0 = 62 then if x2 < x1 then some 1 else some 0 else jn_X12_two_203 x1 x2 h
theorem rj_X12_two_203 {X : am_X} {d : Nat} (hd : 0 ≤ d) (x1 : Int32) (x2 : Int32) {h : am_H} (T : am_TP h.2.2) {r : Int32} (hf : jn_X12_two_203 x1 x2 h = some r) : am_G X d 12 false cX12_two (some .int) 203 [none, some (.int x1), some (.int x2)] [] (am_SH, h) (some (.int r), (am_SH, h)) := by
  unfold jn_X12_two_203 at hf
  refine r_loc dX12_two_203 rfl ?_
  refine r_ne0 (q := 211) dX12_two_204 rfl hf (fun hf => ?_) (fun hf => ?_)
  · refine r_iconst (v := 1) dX12_two_211 rfl ?_
    refine r_goto (q := 216) dX12_two_212 rfl ?_
    cases hf
    exact r_ri T dX12_two_216
  · refine r_loc dX12_two_207 rfl ?_
    refine r_eq0 (q := 215) dX12_two_208 rfl hf (fun hf => ?_) (fun hf => ?_)
    · refine r_iconst (v := 0) dX12_two_215 rfl ?_
      cases hf
      exact r_ri T dX12_two_216
    · refine r_iconst (v := 1) dX12_two_211 rfl ?_
      refine r_goto (q := 216) dX12_two_212 rfl ?_
      cases hf
      exact r_ri T dX12_two_216
theorem rf_X12_two {X : am_X} {d : Nat} (hd : 0 ≤ d) (x0 : Int32) (x1 : Int32) (x2 : Int32) {h : am_H} (T : am_TP h.2.2) {r : Int32} (hf : f_X12_two x0 x1 x2 h = some r) : am_G X d 12 false cX12_two (some .int) 0 [some (.int x0), some (.int x1), some (.int x2)] [] (am_SH, h) (some (.int r), (am_SH, h)) := by
  unfold f_X12_two at hf
  refine r_loc dX12_two_0 rfl ?_
  refine r_swc (x := x0) (v := 37) (off := 143) (q := 144) dX12_two_1 rfl rfl hf (fun hf => ?_) (fun n37 hf => ?_)
  · refine r_loc dX12_two_144 rfl ?_
    refine r_ne0 (q := 152) dX12_two_145 rfl hf (fun hf => ?_) (fun hf => ?_)
    · refine r_loc dX12_two_152 rfl ?_
      refine r_loc dX12_two_153 rfl ?_
      refine r_rem dX12_two_154 hf (fun hf => ?_)
      cases hf
      exact r_ri T dX12_two_155
    · refine r_iconst (v := 0) dX12_two_148 rfl ?_
      refine r_goto (q := 155) dX12_two_149 rfl ?_
      cases hf
      exact r_ri T dX12_two_155
  refine r_swc (x := x0) (v := 38) (off := 188) (q := 189) dX12_two_1 rfl rfl hf (fun hf => ?_) (fun n38 hf => ?_)
  · refine r_loc dX12_two_189 rfl ?_
    refine r_eq0 (q := 201) dX12_two_190 rfl hf (fun hf => ?_) (fun hf => ?_)
    · refine r_iconst (v := 0) dX12_two_201 rfl ?_
      cases hf
      exact r_ri T dX12_two_202
    · refine r_loc dX12_two_193 rfl ?_
      refine r_eq0 (q := 201) dX12_two_194 rfl hf (fun hf => ?_) (fun hf => ?_)
      · refine r_iconst (v := 0) dX12_two_201 rfl ?_
        cases hf
        exact r_ri T dX12_two_202
      · refine r_iconst (v := 1) dX12_two_197 rfl ?_
        refine r_goto (q := 202) dX12_two_198 rfl ?_
        cases hf
        exact r_ri T dX12_two_202
  refine r_swc (x := x0) (v := 42) (off := 127) (q := 128) dX12_two_1 rfl rfl hf (fun hf => ?_) (fun n42 hf => ?_)
  · refine r_loc dX12_two_128 rfl ?_
    refine r_loc dX12_two_129 rfl ?_
    refine r_alu dX12_two_130 rfl ?_
    cases hf
    exact r_ri T dX12_two_131
  refine r_swc (x := x0) (v := 43) (off := 119) (q := 120) dX12_two_1 rfl rfl hf (fun hf => ?_) (fun n43 hf => ?_)
  · refine r_loc dX12_two_120 rfl ?_
    refine r_loc dX12_two_121 rfl ?_
    refine r_alu dX12_two_122 rfl ?_
    cases hf
    exact r_ri T dX12_two_123
  refine r_swc (x := x0) (v := 45) (off := 123) (q := 124) dX12_two_1 rfl rfl hf (fun hf => ?_) (fun n45 hf => ?_)
  · refine r_loc dX12_two_124 rfl ?_
    refine r_loc dX12_two_125 rfl ?_
    refine r_alu dX12_two_126 rfl ?_
    cases hf
    exact r_ri T dX12_two_127
  refine r_swc (x := x0) (v := 47) (off := 131) (q := 132) dX12_two_1 rfl rfl hf (fun hf => ?_) (fun n47 hf => ?_)
  · refine r_loc dX12_two_132 rfl ?_
    refine r_ne0 (q := 140) dX12_two_133 rfl hf (fun hf => ?_) (fun hf => ?_)
    · refine r_loc dX12_two_140 rfl ?_
      refine r_loc dX12_two_141 rfl ?_
      refine r_div dX12_two_142 hf (fun hf => ?_)
      cases hf
      exact r_ri T dX12_two_143
    · refine r_iconst (v := 0) dX12_two_136 rfl ?_
      refine r_goto (q := 143) dX12_two_137 rfl ?_
      cases hf
      exact r_ri T dX12_two_143
  refine r_swc (x := x0) (v := 60) (off := 155) (q := 156) dX12_two_1 rfl rfl hf (fun hf => ?_) (fun n60 hf => ?_)
  · refine r_loc dX12_two_156 rfl ?_
    refine r_loc dX12_two_157 rfl ?_
    refine r_ge (q := 165) dX12_two_158 rfl hf (fun hf => ?_) (fun hf => ?_)
    · refine r_iconst (v := 0) dX12_two_165 rfl ?_
      cases hf
      exact r_ri T dX12_two_166
    · refine r_iconst (v := 1) dX12_two_161 rfl ?_
      refine r_goto (q := 166) dX12_two_162 rfl ?_
      cases hf
      exact r_ri T dX12_two_166
  refine r_swc (x := x0) (v := 61) (off := 177) (q := 178) dX12_two_1 rfl rfl hf (fun hf => ?_) (fun n61 hf => ?_)
  · refine r_loc dX12_two_178 rfl ?_
    refine r_loc dX12_two_179 rfl ?_
    refine r_ne (q := 187) dX12_two_180 rfl hf (fun hf => ?_) (fun hf => ?_)
    · refine r_iconst (v := 0) dX12_two_187 rfl ?_
      cases hf
      exact r_ri T dX12_two_188
    · refine r_iconst (v := 1) dX12_two_183 rfl ?_
      refine r_goto (q := 188) dX12_two_184 rfl ?_
      cases hf
      exact r_ri T dX12_two_188
  refine r_swc (x := x0) (v := 62) (off := 166) (q := 167) dX12_two_1 rfl rfl hf (fun hf => ?_) (fun n62 hf => ?_)
  · refine r_loc dX12_two_167 rfl ?_
    refine r_loc dX12_two_168 rfl ?_
    refine r_le (q := 176) dX12_two_169 rfl hf (fun hf => ?_) (fun hf => ?_)
    · refine r_iconst (v := 0) dX12_two_176 rfl ?_
      cases hf
      exact r_ri T dX12_two_177
    · refine r_iconst (v := 1) dX12_two_172 rfl ?_
      refine r_goto (q := 177) dX12_two_173 rfl ?_
      cases hf
      exact r_ri T dX12_two_177
  refine r_swdt (q := 203) dX12_two_1 (by decide) ⟨Or.inr n37, Or.inr n38, Or.inl rfl, Or.inl rfl, Or.inl rfl, Or.inr n42, Or.inr n43, Or.inl rfl, Or.inr n45, Or.inl rfl, Or.inr n47, Or.inl rfl, Or.inl rfl, Or.inl rfl, Or.inl rfl, Or.inl rfl, Or.inl rfl, Or.inl rfl, Or.inl rfl, Or.inl rfl, Or.inl rfl, Or.inl rfl, Or.inl rfl, Or.inr n60, Or.inr n61, Or.inr n62, trivial⟩ rfl ?_
  refine r_weak (L := [none, some (.int x1), some (.int x2)]) (am_le_n (am_le_s (am_le_s am_le_0))) ?_
  exact rj_X12_two_203 (by omega) x1 x2 T hf
def f_X12_asked (x1 : Int32) (x2 : Int32) (h : am_H) : Option (Int32) := if x1 = 97 then bnd (h.1 413 38) fun v1 => rdI h 437 59 ((16 : Int32) + v1) fun v2 => bnd (h.1 413 39) fun v3 => rdI h 437 59 ((16 : Int32) + v3) fun v4 => cal (f_X12_sharedBy v2 v4 h) fun v6 => some v6 else if x1 = 98 then bnd (h.1 413 38) fun v8 => rdI h 437 59 ((0 : Int32) + v8) fun v9 => bnd (h.1 413 39) fun v10 => rdI h 437 59 ((0 : Int32) + v10) fun v11 => some (v9 + v11) else if x1 = 108 then bnd (h.1 413 38) fun v12 => rdI h 437 59 ((8 : Int32) + v12) fun v13 => cal (f_X12_leftIn v13 h) fun v15 => some v15 else if x1 = 109 then cal (f_X12_those h) fun v18 => cal (f_X12_bitsOf v18 h) fun v21 => some v21 else if x1 = 121 then rdI h 437 59 57 fun v23 => some v23 else some x2
theorem rf_X12_asked {X : am_X} {d : Nat} (hd : 3 ≤ d) (x1 : Int32) (x2 : Int32) {h : am_H} (T : am_TP h.2.2) {r : Int32} (hf : f_X12_asked x1 x2 h = some r) : am_G X d 12 false cX12_asked (some .int) 0 [some (.ref 413), some (.int x1), some (.int x2)] [] (am_SH, h) (some (.int r), (am_SH, h)) := by
  unfold f_X12_asked at hf
  obtain ⟨d, rfl⟩ : ∃ e, d = e + 1 := ⟨d - 1, by omega⟩
  refine r_loc dX12_asked_0 rfl ?_
  refine r_swc (x := x1) (v := 97) (off := 75) (q := 76) dX12_asked_1 rfl rfl hf (fun hf => ?_) (fun n97 hf => ?_)
  · refine r_loc dX12_asked_76 rfl ?_
    refine r_getR dX12_asked_77 fl_12_85 sh_413 (Or.inr ⟨_, rfl⟩) (tp_413_40 T) ?_
    refine r_bipush (v := 16) dX12_asked_80 rfl ?_
    refine r_loc dX12_asked_82 rfl ?_
    refine r_getI dX12_asked_83 fl_12_319 sh_413 rfl hf (fun v1 hf => ?_)
    refine r_alu dX12_asked_86 rfl ?_
    refine r_iald dX12_asked_87 sh_437 hf (fun v2 hf => ?_)
    refine r_loc dX12_asked_88 rfl ?_
    refine r_getR dX12_asked_89 fl_12_85 sh_413 (Or.inr ⟨_, rfl⟩) (tp_413_40 T) ?_
    refine r_bipush (v := 16) dX12_asked_92 rfl ?_
    refine r_loc dX12_asked_94 rfl ?_
    refine r_getI dX12_asked_95 fl_12_322 sh_413 rfl hf (fun v3 hf => ?_)
    refine r_alu dX12_asked_98 rfl ?_
    refine r_iald dX12_asked_99 sh_437 hf (fun v4 hf => ?_)
    obtain ⟨v6, c5, hf⟩ := cal_inv hf
    have g7 := rf_X12_sharedBy (X := X) (d := d) (by omega) v2 v4 T c5
    refine r_stat (pre := [.int v4, .int v2]) (rest := []) dX12_asked_100 ct_12_325 rfl (Nat.le_of_ble_eq_true rfl) (Nat.le_of_ble_eq_true rfl) g7 ?_
    cases hf
    exact r_ri T dX12_asked_103
  refine r_swc (x := x1) (v := 98) (off := 51) (q := 52) dX12_asked_1 rfl rfl hf (fun hf => ?_) (fun n98 hf => ?_)
  · refine r_loc dX12_asked_52 rfl ?_
    refine r_getR dX12_asked_53 fl_12_85 sh_413 (Or.inr ⟨_, rfl⟩) (tp_413_40 T) ?_
    refine r_iconst (v := 0) dX12_asked_56 rfl ?_
    refine r_loc dX12_asked_57 rfl ?_
    refine r_getI dX12_asked_58 fl_12_319 sh_413 rfl hf (fun v8 hf => ?_)
    refine r_alu dX12_asked_61 rfl ?_
    refine r_iald dX12_asked_62 sh_437 hf (fun v9 hf => ?_)
    refine r_loc dX12_asked_63 rfl ?_
    refine r_getR dX12_asked_64 fl_12_85 sh_413 (Or.inr ⟨_, rfl⟩) (tp_413_40 T) ?_
    refine r_iconst (v := 0) dX12_asked_67 rfl ?_
    refine r_loc dX12_asked_68 rfl ?_
    refine r_getI dX12_asked_69 fl_12_322 sh_413 rfl hf (fun v10 hf => ?_)
    refine r_alu dX12_asked_72 rfl ?_
    refine r_iald dX12_asked_73 sh_437 hf (fun v11 hf => ?_)
    refine r_alu dX12_asked_74 rfl ?_
    cases hf
    exact r_ri T dX12_asked_75
  refine r_swc (x := x1) (v := 108) (off := 103) (q := 104) dX12_asked_1 rfl rfl hf (fun hf => ?_) (fun n108 hf => ?_)
  · refine r_loc dX12_asked_104 rfl ?_
    refine r_loc dX12_asked_105 rfl ?_
    refine r_getR dX12_asked_106 fl_12_85 sh_413 (Or.inr ⟨_, rfl⟩) (tp_413_40 T) ?_
    refine r_bipush (v := 8) dX12_asked_109 rfl ?_
    refine r_loc dX12_asked_111 rfl ?_
    refine r_getI dX12_asked_112 fl_12_319 sh_413 rfl hf (fun v12 hf => ?_)
    refine r_alu dX12_asked_115 rfl ?_
    refine r_iald dX12_asked_116 sh_437 hf (fun v13 hf => ?_)
    obtain ⟨v15, c14, hf⟩ := cal_inv hf
    have g16 := rf_X12_leftIn (X := X) (d := d) (by omega) v13 T c14
    refine r_virt (pre := [.int v13]) (rest := []) dX12_asked_117 ct_12_328 rfl (sh_413) (Nat.le_of_ble_eq_true rfl) (Nat.le_of_ble_eq_true rfl) g16 ?_
    cases hf
    exact r_ri T dX12_asked_120
  refine r_swc (x := x1) (v := 109) (off := 120) (q := 121) dX12_asked_1 rfl rfl hf (fun hf => ?_) (fun n109 hf => ?_)
  · refine r_loc dX12_asked_121 rfl ?_
    obtain ⟨v18, c17, hf⟩ := cal_inv hf
    have g19 := rf_X12_those (X := X) (d := d) (by omega) T c17
    refine r_virt (pre := []) (rest := []) dX12_asked_122 ct_12_331 rfl (sh_413) (Nat.le_of_ble_eq_true rfl) (Nat.le_of_ble_eq_true rfl) g19 ?_
    obtain ⟨v21, c20, hf⟩ := cal_inv hf
    have g22 := rf_X12_bitsOf (X := X) (d := d) (by omega) v18 T c20
    refine r_stat (pre := [.int v18]) (rest := []) dX12_asked_125 ct_12_334 rfl (Nat.le_of_ble_eq_true rfl) (Nat.le_of_ble_eq_true rfl) g22 ?_
    cases hf
    exact r_ri T dX12_asked_128
  refine r_swc (x := x1) (v := 121) (off := 128) (q := 129) dX12_asked_1 rfl rfl hf (fun hf => ?_) (fun n121 hf => ?_)
  · refine r_loc dX12_asked_129 rfl ?_
    refine r_getR dX12_asked_130 fl_12_85 sh_413 (Or.inr ⟨_, rfl⟩) (tp_413_40 T) ?_
    refine r_bipush (v := 57) dX12_asked_133 rfl ?_
    refine r_iald dX12_asked_135 sh_437 hf (fun v23 hf => ?_)
    cases hf
    exact r_ri T dX12_asked_136
  refine r_swdl (q := 137) dX12_asked_1 (by decide) ⟨n97, n98, n108, n109, n121, trivial⟩ rfl ?_
  refine r_loc dX12_asked_137 rfl ?_
  cases hf
  exact r_ri T dX12_asked_138
def lp_X12_comes_12 (k_130 : am_H → Option (Int32 × am_H)) : Nat → Int32 → Int32 → am_H → Option (Int32 × am_H)
  | 0, _, _, _ => none
  | n + 1, x1, x2, h => bnd (h.1 413 32) fun v3 => rdI h 429 2 v3 fun v4 => if x2 < v4 then rdI h 432 1120 x2 fun v5 => if v5 = 126 then rdI h 436 60 (x1 - 1) fun v24 => if v24 = 0 then wrI h 436 60 (x1 - 1) 1 fun h28 => lp_X12_comes_12 k_130 n x1 (x2 + 1) h28 else wrI h 436 60 (x1 - 1) 0 fun h25 => lp_X12_comes_12 k_130 n x1 (x2 + 1) h25 else cal (f_X12_isLetter v5 h) fun v7 => if v7 = 0 then rdI h 436 60 ((x1 + (-1)) - 1) fun v9 => rdI h 436 60 (x1 + (-1)) fun v10 => cal (f_X12_two v5 v9 v10 h) fun v12 => wrI h 436 60 ((x1 + (-1)) - 1) v12 fun h14 => lp_X12_comes_12 k_130 n (x1 + (-1)) (x2 + 1) h14 else rdI h 433 1120 x2 fun v17 => cal (f_X12_asked v5 v17 h) fun v19 => wrI h 436 60 x1 v19 fun h21 => lp_X12_comes_12 k_130 n (x1 + 1) (x2 + 1) h21 else k_130  h
def f_X12_comes  (h : am_H) : Option (Int32 × am_H) := bnd (h.1 413 32) fun v1 => rdI h 428 2 v1 fun v2 => lp_X12_comes_12 (fun h31 => rdI h31 436 60 0 fun v33 => some (v33, h31)) 4000 0 v2 h
theorem rl_X12_comes_12 {X : am_X} {d : Nat} (hd : 4 ≤ d) (k_130 : am_H → Option (Int32 × am_H)) {r : Int32 × am_H} (hk_130 : ∀ (h : am_H), am_TP h.2.2 → k_130  h = some r → am_G X d 12 false cX12_comes (some .int) 130 [some (.ref 413), none, none, none] [] (am_SH, h) (some (.int r.1), (am_SH, r.2))) : ∀ (n : Nat) (x1 : Int32) (x2 : Int32) (h : am_H), am_TP h.2.2 → lp_X12_comes_12 k_130 n x1 x2 h = some r → am_G X d 12 false cX12_comes (some .int) 12 [some (.ref 413), some (.int x1), some (.int x2), none] [] (am_SH, h) (some (.int r.1), (am_SH, r.2)) := by
  obtain ⟨d, rfl⟩ : ∃ e, d = e + 1 := ⟨d - 1, by omega⟩
  intro n
  induction n with
  | zero => intro x1 x2 h T hf; cases hf
  | succ n ih =>
    intro x1 x2 h T hf
    rw [lp_X12_comes_12] at hf
    refine r_loc dX12_comes_12 rfl ?_
    refine r_loc dX12_comes_13 rfl ?_
    refine r_getR dX12_comes_14 fl_12_60 sh_413 (Or.inr ⟨_, rfl⟩) (tp_413_24 T) ?_
    refine r_loc dX12_comes_17 rfl ?_
    refine r_getI dX12_comes_18 fl_12_244 sh_413 rfl hf (fun v3 hf => ?_)
    refine r_iald dX12_comes_21 sh_429 hf (fun v4 hf => ?_)
    refine r_ge (q := 130) dX12_comes_22 rfl hf (fun hf => ?_) (fun hf => ?_)
    · refine r_weak (L := [some (.ref 413), none, none, none]) (am_le_s (am_le_n (am_le_n (am_le_n am_le_0)))) ?_
      exact hk_130  h T hf
    · refine r_loc dX12_comes_25 rfl ?_
      refine r_getR dX12_comes_26 fl_12_70 sh_413 (Or.inr ⟨_, rfl⟩) (tp_413_27 T) ?_
      refine r_loc dX12_comes_29 rfl ?_
      refine r_iald dX12_comes_30 sh_432 hf (fun v5 hf => ?_)
      refine r_loc (L' := [some (.ref 413), some (.int x1), some (.int x2), some (.int v5)]) dX12_comes_31 rfl ?_
      refine r_loc dX12_comes_32 rfl ?_
      refine r_bipush (v := 126) dX12_comes_33 rfl ?_
      refine r_ne (q := 65) dX12_comes_35 rfl hf (fun hf => ?_) (fun hf => ?_)
      · refine r_loc dX12_comes_65 rfl ?_
        obtain ⟨v7, c6, hf⟩ := cal_inv hf
        have g8 := rf_X12_isLetter (X := X) (d := d) (by omega) v5 T c6
        refine r_stat (pre := [.int v5]) (rest := []) dX12_comes_66 ct_12_189 rfl (Nat.le_of_ble_eq_true rfl) (Nat.le_of_ble_eq_true rfl) g8 ?_
        refine r_eq0 (q := 95) dX12_comes_69 rfl hf (fun hf => ?_) (fun hf => ?_)
        · refine r_loc (L' := [some (.ref 413), some (.int (x1 + (-1))), some (.int x2), some (.int v5)]) dX12_comes_95 rfl ?_
          refine r_loc dX12_comes_98 rfl ?_
          refine r_getR dX12_comes_99 fl_12_82 sh_413 (Or.inr ⟨_, rfl⟩) (tp_413_31 T) ?_
          refine r_loc dX12_comes_102 rfl ?_
          refine r_iconst (v := 1) dX12_comes_103 rfl ?_
          refine r_alu dX12_comes_104 rfl ?_
          refine r_loc dX12_comes_105 rfl ?_
          refine r_loc dX12_comes_106 rfl ?_
          refine r_getR dX12_comes_107 fl_12_82 sh_413 (Or.inr ⟨_, rfl⟩) (tp_413_31 T) ?_
          refine r_loc dX12_comes_110 rfl ?_
          refine r_iconst (v := 1) dX12_comes_111 rfl ?_
          refine r_alu dX12_comes_112 rfl ?_
          refine r_iald dX12_comes_113 sh_436 hf (fun v9 hf => ?_)
          refine r_loc dX12_comes_114 rfl ?_
          refine r_getR dX12_comes_115 fl_12_82 sh_413 (Or.inr ⟨_, rfl⟩) (tp_413_31 T) ?_
          refine r_loc dX12_comes_118 rfl ?_
          refine r_iald dX12_comes_119 sh_436 hf (fun v10 hf => ?_)
          obtain ⟨v12, c11, hf⟩ := cal_inv hf
          have g13 := rf_X12_two (X := X) (d := d) (by omega) v5 v9 v10 T c11
          refine r_stat (pre := [.int v10, .int v9, .int v5]) (rest := [.int ((x1 + (-1)) - 1), .ref 436]) dX12_comes_120 ct_12_340 rfl (Nat.le_of_ble_eq_true rfl) (Nat.le_of_ble_eq_true rfl) g13 ?_
          refine r_iast dX12_comes_123 sh_436 hf (fun h14 e16 hf => ?_)
          have T15 := tp_eq e16 T
          refine r_loc (L' := [some (.ref 413), some (.int (x1 + (-1))), some (.int (x2 + 1)), some (.int v5)]) dX12_comes_124 rfl ?_
          refine r_goto (q := 12) dX12_comes_127 rfl ?_
          refine r_weak (L := [some (.ref 413), some (.int (x1 + (-1))), some (.int (x2 + 1)), none]) (am_le_s (am_le_s (am_le_s (am_le_n am_le_0)))) ?_
          exact ih (x1 + (-1)) (x2 + 1) h14 T15 hf
        · refine r_loc dX12_comes_72 rfl ?_
          refine r_getR dX12_comes_73 fl_12_82 sh_413 (Or.inr ⟨_, rfl⟩) (tp_413_31 T) ?_
          refine r_loc dX12_comes_76 rfl ?_
          refine r_loc dX12_comes_77 rfl ?_
          refine r_loc dX12_comes_78 rfl ?_
          refine r_loc dX12_comes_79 rfl ?_
          refine r_getR dX12_comes_80 fl_12_73 sh_413 (Or.inr ⟨_, rfl⟩) (tp_413_28 T) ?_
          refine r_loc dX12_comes_83 rfl ?_
          refine r_iald dX12_comes_84 sh_433 hf (fun v17 hf => ?_)
          obtain ⟨v19, c18, hf⟩ := cal_inv hf
          have g20 := rf_X12_asked (X := X) (d := d) (by omega) v5 v17 T c18
          refine r_virt (pre := [.int v17, .int v5]) (rest := [.int x1, .ref 436]) dX12_comes_85 ct_12_337 rfl (sh_413) (Nat.le_of_ble_eq_true rfl) (Nat.le_of_ble_eq_true rfl) g20 ?_
          refine r_iast dX12_comes_88 sh_436 hf (fun h21 e23 hf => ?_)
          have T22 := tp_eq e23 T
          refine r_loc (L' := [some (.ref 413), some (.int (x1 + 1)), some (.int x2), some (.int v5)]) dX12_comes_89 rfl ?_
          refine r_goto (q := 124) dX12_comes_92 rfl ?_
          refine r_loc (L' := [some (.ref 413), some (.int (x1 + 1)), some (.int (x2 + 1)), some (.int v5)]) dX12_comes_124 rfl ?_
          refine r_goto (q := 12) dX12_comes_127 rfl ?_
          refine r_weak (L := [some (.ref 413), some (.int (x1 + 1)), some (.int (x2 + 1)), none]) (am_le_s (am_le_s (am_le_s (am_le_n am_le_0)))) ?_
          exact ih (x1 + 1) (x2 + 1) h21 T22 hf
      · refine r_loc dX12_comes_38 rfl ?_
        refine r_getR dX12_comes_39 fl_12_82 sh_413 (Or.inr ⟨_, rfl⟩) (tp_413_31 T) ?_
        refine r_loc dX12_comes_42 rfl ?_
        refine r_iconst (v := 1) dX12_comes_43 rfl ?_
        refine r_alu dX12_comes_44 rfl ?_
        refine r_loc dX12_comes_45 rfl ?_
        refine r_getR dX12_comes_46 fl_12_82 sh_413 (Or.inr ⟨_, rfl⟩) (tp_413_31 T) ?_
        refine r_loc dX12_comes_49 rfl ?_
        refine r_iconst (v := 1) dX12_comes_50 rfl ?_
        refine r_alu dX12_comes_51 rfl ?_
        refine r_iald dX12_comes_52 sh_436 hf (fun v24 hf => ?_)
        refine r_ne0 (q := 60) dX12_comes_53 rfl hf (fun hf => ?_) (fun hf => ?_)
        · refine r_iconst (v := 0) dX12_comes_60 rfl ?_
          refine r_iast dX12_comes_61 sh_436 hf (fun h25 e27 hf => ?_)
          have T26 := tp_eq e27 T
          refine r_goto (q := 124) dX12_comes_62 rfl ?_
          refine r_loc (L' := [some (.ref 413), some (.int x1), some (.int (x2 + 1)), some (.int v5)]) dX12_comes_124 rfl ?_
          refine r_goto (q := 12) dX12_comes_127 rfl ?_
          refine r_weak (L := [some (.ref 413), some (.int x1), some (.int (x2 + 1)), none]) (am_le_s (am_le_s (am_le_s (am_le_n am_le_0)))) ?_
          exact ih x1 (x2 + 1) h25 T26 hf
        · refine r_iconst (v := 1) dX12_comes_56 rfl ?_
          refine r_goto (q := 61) dX12_comes_57 rfl ?_
          refine r_iast dX12_comes_61 sh_436 hf (fun h28 e30 hf => ?_)
          have T29 := tp_eq e30 T
          refine r_goto (q := 124) dX12_comes_62 rfl ?_
          refine r_loc (L' := [some (.ref 413), some (.int x1), some (.int (x2 + 1)), some (.int v5)]) dX12_comes_124 rfl ?_
          refine r_goto (q := 12) dX12_comes_127 rfl ?_
          refine r_weak (L := [some (.ref 413), some (.int x1), some (.int (x2 + 1)), none]) (am_le_s (am_le_s (am_le_s (am_le_n am_le_0)))) ?_
          exact ih x1 (x2 + 1) h28 T29 hf
theorem rf_X12_comes {X : am_X} {d : Nat} (hd : 4 ≤ d)  {h : am_H} (T : am_TP h.2.2) {r : Int32 × am_H} (hf : f_X12_comes  h = some r) : am_G X d 12 false cX12_comes (some .int) 0 [some (.ref 413), none, none, none] [] (am_SH, h) (some (.int r.1), (am_SH, r.2)) := by
  unfold f_X12_comes at hf
  obtain ⟨d, rfl⟩ : ∃ e, d = e + 1 := ⟨d - 1, by omega⟩
  refine r_iconst (v := 0) dX12_comes_0 rfl ?_
  refine r_loc (L' := [some (.ref 413), some (.int 0), none, none]) dX12_comes_1 rfl ?_
  refine r_loc dX12_comes_2 rfl ?_
  refine r_getR dX12_comes_3 fl_12_57 sh_413 (Or.inr ⟨_, rfl⟩) (tp_413_23 T) ?_
  refine r_loc dX12_comes_6 rfl ?_
  refine r_getI dX12_comes_7 fl_12_244 sh_413 rfl hf (fun v1 hf => ?_)
  refine r_iald dX12_comes_10 sh_428 hf (fun v2 hf => ?_)
  refine r_loc (L' := [some (.ref 413), some (.int 0), some (.int v2), none]) dX12_comes_11 rfl ?_
  refine rl_X12_comes_12 (by omega) _ ?_ 4000 0 v2 h T hf
  · intro h31 T32 hf
    refine r_loc dX12_comes_130 rfl ?_
    refine r_getR dX12_comes_131 fl_12_82 sh_413 (Or.inr ⟨_, rfl⟩) (tp_413_31 T32) ?_
    refine r_iconst (v := 0) dX12_comes_134 rfl ?_
    refine r_iald dX12_comes_135 sh_436 hf (fun v33 hf => ?_)
    cases hf
    exact r_ri T32 dX12_comes_136
def f_X12_broodOf (x1 : Int32) (x2 : Int32) (h : am_H) : Option (Int32 × am_H) := ptI h 413 38 x1 fun h1 => ptI h1 413 39 x2 fun h4 => bnd (h4.1 413 32) fun v7 => rdI h4 422 2 v7 fun v8 => cal (f_X12_bit v8 0 h4) fun v10 => if v10 = 0 then rdI h4 437 59 ((16 : Int32) + x1) fun v12 => rdI h4 437 59 ((16 : Int32) + x2) fun v13 => cal (f_X12_sharedBy v12 v13 h4) fun v15 => cal (f_X12_those h4) fun v18 => cal (f_X12_bitsOf v18 h4) fun v21 => some ((v15 - v21), h4) else cal2 (f_X12_comes h4) fun v24 h26 => some (v24, h26)
theorem rf_X12_broodOf {X : am_X} {d : Nat} (hd : 5 ≤ d) (x1 : Int32) (x2 : Int32) {h : am_H} (T : am_TP h.2.2) {r : Int32 × am_H} (hf : f_X12_broodOf x1 x2 h = some r) : am_G X d 12 false cX12_broodOf (some .int) 0 [some (.ref 413), some (.int x1), some (.int x2)] [] (am_SH, h) (some (.int r.1), (am_SH, r.2)) := by
  unfold f_X12_broodOf at hf
  obtain ⟨d, rfl⟩ : ∃ e, d = e + 1 := ⟨d - 1, by omega⟩
  refine r_loc dX12_broodOf_0 rfl ?_
  refine r_loc dX12_broodOf_1 rfl ?_
  refine r_putI dX12_broodOf_2 fl_12_319 sh_413 ⟨rfl, rfl⟩ hf (fun h1 e3 hf => ?_)
  have T2 := tp_eq e3 T
  refine r_loc dX12_broodOf_5 rfl ?_
  refine r_loc dX12_broodOf_6 rfl ?_
  refine r_putI dX12_broodOf_7 fl_12_322 sh_413 ⟨rfl, rfl⟩ hf (fun h4 e6 hf => ?_)
  have T5 := tp_eq e6 T2
  refine r_loc dX12_broodOf_10 rfl ?_
  refine r_getR dX12_broodOf_11 fl_12_39 sh_413 (Or.inr ⟨_, rfl⟩) (tp_413_17 T5) ?_
  refine r_loc dX12_broodOf_14 rfl ?_
  refine r_getI dX12_broodOf_15 fl_12_244 sh_413 rfl hf (fun v7 hf => ?_)
  refine r_iald dX12_broodOf_18 sh_422 hf (fun v8 hf => ?_)
  refine r_iconst (v := 0) dX12_broodOf_19 rfl ?_
  obtain ⟨v10, c9, hf⟩ := cal_inv hf
  have g11 := rf_X12_bit (X := X) (d := d) (by omega) v8 0 T5 c9
  refine r_stat (pre := [.int 0, .int v8]) (rest := []) dX12_broodOf_20 ct_12_250 rfl (Nat.le_of_ble_eq_true rfl) (Nat.le_of_ble_eq_true rfl) g11 ?_
  refine r_eq0 (q := 33) dX12_broodOf_23 rfl hf (fun hf => ?_) (fun hf => ?_)
  · refine r_loc dX12_broodOf_33 rfl ?_
    refine r_getR dX12_broodOf_34 fl_12_85 sh_413 (Or.inr ⟨_, rfl⟩) (tp_413_40 T5) ?_
    refine r_bipush (v := 16) dX12_broodOf_37 rfl ?_
    refine r_loc dX12_broodOf_39 rfl ?_
    refine r_alu dX12_broodOf_40 rfl ?_
    refine r_iald dX12_broodOf_41 sh_437 hf (fun v12 hf => ?_)
    refine r_loc dX12_broodOf_42 rfl ?_
    refine r_getR dX12_broodOf_43 fl_12_85 sh_413 (Or.inr ⟨_, rfl⟩) (tp_413_40 T5) ?_
    refine r_bipush (v := 16) dX12_broodOf_46 rfl ?_
    refine r_loc dX12_broodOf_48 rfl ?_
    refine r_alu dX12_broodOf_49 rfl ?_
    refine r_iald dX12_broodOf_50 sh_437 hf (fun v13 hf => ?_)
    obtain ⟨v15, c14, hf⟩ := cal_inv hf
    have g16 := rf_X12_sharedBy (X := X) (d := d) (by omega) v12 v13 T5 c14
    refine r_stat (pre := [.int v13, .int v12]) (rest := []) dX12_broodOf_51 ct_12_325 rfl (Nat.le_of_ble_eq_true rfl) (Nat.le_of_ble_eq_true rfl) g16 ?_
    refine r_loc dX12_broodOf_54 rfl ?_
    obtain ⟨v18, c17, hf⟩ := cal_inv hf
    have g19 := rf_X12_those (X := X) (d := d) (by omega) T5 c17
    refine r_virt (pre := []) (rest := [.int v15]) dX12_broodOf_55 ct_12_331 rfl (sh_413) (Nat.le_of_ble_eq_true rfl) (Nat.le_of_ble_eq_true rfl) g19 ?_
    obtain ⟨v21, c20, hf⟩ := cal_inv hf
    have g22 := rf_X12_bitsOf (X := X) (d := d) (by omega) v18 T5 c20
    refine r_stat (pre := [.int v18]) (rest := [.int v15]) dX12_broodOf_58 ct_12_334 rfl (Nat.le_of_ble_eq_true rfl) (Nat.le_of_ble_eq_true rfl) g22 ?_
    refine r_alu dX12_broodOf_61 rfl ?_
    cases hf
    exact r_ri T5 dX12_broodOf_62
  · refine r_loc dX12_broodOf_26 rfl ?_
    obtain ⟨v24, h26, c23, hf⟩ := cal2_inv hf
    have g28 := rf_X12_comes (X := X) (d := d) (by omega) T5 c23
    have T27 : am_TP h26.2.2 := g28.2
    refine r_virt (pre := []) (rest := []) dX12_broodOf_27 ct_12_375 rfl (sh_413) (Nat.le_of_ble_eq_true rfl) (Nat.le_of_ble_eq_true rfl) g28 ?_
    refine r_goto (q := 62) dX12_broodOf_30 rfl ?_
    cases hf
    exact r_ri T27 dX12_broodOf_62
def f_X12_brood (x1 : Int32) (x2 : Int32) (h : am_H) : Option (Int32 × am_H) := cal (f_X12_isThere x1 h) fun v2 => if v2 = 0 then some ((-1000000000), h) else cal (f_X12_isThere x2 h) fun v5 => if v5 = 0 then some ((-1000000000), h) else if x1 = x2 then some ((-1000000000), h) else rdI h 437 59 ((8 : Int32) + x1) fun v7 => rdI h 437 59 ((8 : Int32) + x2) fun v8 => if v7 = v8 then cal2 (f_X12_broodOf x1 x2 h) fun v10 h12 => some (v10, h12) else some ((-1000000000), h)
theorem rf_X12_brood {X : am_X} {d : Nat} (hd : 6 ≤ d) (x1 : Int32) (x2 : Int32) {h : am_H} (T : am_TP h.2.2) {r : Int32 × am_H} (hf : f_X12_brood x1 x2 h = some r) : am_G X d 12 false cX12_brood (some .int) 0 [some (.ref 413), some (.int x1), some (.int x2)] [] (am_SH, h) (some (.int r.1), (am_SH, r.2)) := by
  unfold f_X12_brood at hf
  obtain ⟨d, rfl⟩ : ∃ e, d = e + 1 := ⟨d - 1, by omega⟩
  refine r_loc dX12_brood_0 rfl ?_
  refine r_loc dX12_brood_1 rfl ?_
  obtain ⟨v2, c1, hf⟩ := cal_inv hf
  have g3 := rf_X12_isThere (X := X) (d := d) (by omega) x1 T c1
  refine r_virt (pre := [.int x1]) (rest := []) dX12_brood_2 ct_12_411 rfl (sh_413) (Nat.le_of_ble_eq_true rfl) (Nat.le_of_ble_eq_true rfl) g3 ?_
  refine r_eq0 (q := 51) dX12_brood_5 rfl hf (fun hf => ?_) (fun hf => ?_)
  · refine r_ldcw dX12_brood_51 k32_12_414 ?_
    cases hf
    exact r_ri T dX12_brood_54
  · refine r_loc dX12_brood_8 rfl ?_
    refine r_loc dX12_brood_9 rfl ?_
    obtain ⟨v5, c4, hf⟩ := cal_inv hf
    have g6 := rf_X12_isThere (X := X) (d := d) (by omega) x2 T c4
    refine r_virt (pre := [.int x2]) (rest := []) dX12_brood_10 ct_12_411 rfl (sh_413) (Nat.le_of_ble_eq_true rfl) (Nat.le_of_ble_eq_true rfl) g6 ?_
    refine r_eq0 (q := 51) dX12_brood_13 rfl hf (fun hf => ?_) (fun hf => ?_)
    · refine r_ldcw dX12_brood_51 k32_12_414 ?_
      cases hf
      exact r_ri T dX12_brood_54
    · refine r_loc dX12_brood_16 rfl ?_
      refine r_loc dX12_brood_17 rfl ?_
      refine r_eq (q := 51) dX12_brood_18 rfl hf (fun hf => ?_) (fun hf => ?_)
      · refine r_ldcw dX12_brood_51 k32_12_414 ?_
        cases hf
        exact r_ri T dX12_brood_54
      · refine r_loc dX12_brood_21 rfl ?_
        refine r_getR dX12_brood_22 fl_12_85 sh_413 (Or.inr ⟨_, rfl⟩) (tp_413_40 T) ?_
        refine r_bipush (v := 8) dX12_brood_25 rfl ?_
        refine r_loc dX12_brood_27 rfl ?_
        refine r_alu dX12_brood_28 rfl ?_
        refine r_iald dX12_brood_29 sh_437 hf (fun v7 hf => ?_)
        refine r_loc dX12_brood_30 rfl ?_
        refine r_getR dX12_brood_31 fl_12_85 sh_413 (Or.inr ⟨_, rfl⟩) (tp_413_40 T) ?_
        refine r_bipush (v := 8) dX12_brood_34 rfl ?_
        refine r_loc dX12_brood_36 rfl ?_
        refine r_alu dX12_brood_37 rfl ?_
        refine r_iald dX12_brood_38 sh_437 hf (fun v8 hf => ?_)
        refine r_ne (q := 51) dX12_brood_39 rfl hf (fun hf => ?_) (fun hf => ?_)
        · refine r_ldcw dX12_brood_51 k32_12_414 ?_
          cases hf
          exact r_ri T dX12_brood_54
        · refine r_loc dX12_brood_42 rfl ?_
          refine r_loc dX12_brood_43 rfl ?_
          refine r_loc dX12_brood_44 rfl ?_
          obtain ⟨v10, h12, c9, hf⟩ := cal2_inv hf
          have g14 := rf_X12_broodOf (X := X) (d := d) (by omega) x1 x2 T c9
          have T13 : am_TP h12.2.2 := g14.2
          refine r_virt (pre := [.int x2, .int x1]) (rest := []) dX12_brood_45 ct_12_387 rfl (sh_413) (Nat.le_of_ble_eq_true rfl) (Nat.le_of_ble_eq_true rfl) g14 ?_
          refine r_goto (q := 54) dX12_brood_48 rfl ?_
          cases hf
          exact r_ri T13 dX12_brood_54
def lp_X12_biggestOf_4 (p1 : Int32) (h : am_H) : Nat → Int32 → Int32 → Option (Int32)
  | 0, _, _ => none
  | n + 1, x2, x3 => if x3 < 8 then cal (f_X12_bit p1 x3 h) fun v2 => if v2 = 0 then lp_X12_biggestOf_4 p1 h n x2 (x3 + 1) else if x2 < 0 then lp_X12_biggestOf_4 p1 h n x3 (x3 + 1) else rdI h 437 59 ((0 : Int32) + x3) fun v4 => rdI h 437 59 ((0 : Int32) + x2) fun v5 => if v5 < v4 then lp_X12_biggestOf_4 p1 h n x3 (x3 + 1) else lp_X12_biggestOf_4 p1 h n x2 (x3 + 1) else some x2
def f_X12_biggestOf (x1 : Int32) (h : am_H) : Option (Int32) := lp_X12_biggestOf_4 x1 h  4000 (-1) 0
theorem rl_X12_biggestOf_4 {X : am_X} {d : Nat} (hd : 1 ≤ d) (p1 : Int32) {h : am_H} (T : am_TP h.2.2) {r : Int32} : ∀ (n : Nat) (x2 : Int32) (x3 : Int32) , lp_X12_biggestOf_4 p1 h n x2 x3 = some r → am_G X d 12 false cX12_biggestOf (some .int) 4 [some (.ref 413), some (.int p1), some (.int x2), some (.int x3)] [] (am_SH, h) (some (.int r), (am_SH, h)) := by
  obtain ⟨d, rfl⟩ : ∃ e, d = e + 1 := ⟨d - 1, by omega⟩
  intro n
  induction n with
  | zero => intro x2 x3 hf; cases hf
  | succ n ih =>
    intro x2 x3 hf
    rw [lp_X12_biggestOf_4] at hf
    refine r_loc dX12_biggestOf_4 rfl ?_
    refine r_bipush (v := 8) dX12_biggestOf_5 rfl ?_
    refine r_ge (q := 49) dX12_biggestOf_7 rfl hf (fun hf => ?_) (fun hf => ?_)
    · refine r_loc dX12_biggestOf_49 rfl ?_
      cases hf
      exact r_ri T dX12_biggestOf_50
    · refine r_loc dX12_biggestOf_10 rfl ?_
      refine r_loc dX12_biggestOf_11 rfl ?_
      obtain ⟨v2, c1, hf⟩ := cal_inv hf
      have g3 := rf_X12_bit (X := X) (d := d) (by omega) p1 x3 T c1
      refine r_stat (pre := [.int x3, .int p1]) (rest := []) dX12_biggestOf_12 ct_12_250 rfl (Nat.le_of_ble_eq_true rfl) (Nat.le_of_ble_eq_true rfl) g3 ?_
      refine r_eq0 (q := 43) dX12_biggestOf_15 rfl hf (fun hf => ?_) (fun hf => ?_)
      · refine r_loc (L' := [some (.ref 413), some (.int p1), some (.int x2), some (.int (x3 + 1))]) dX12_biggestOf_43 rfl ?_
        refine r_goto (q := 4) dX12_biggestOf_46 rfl ?_
        exact ih x2 (x3 + 1) hf
      · refine r_loc dX12_biggestOf_18 rfl ?_
        refine r_lt0 (q := 41) dX12_biggestOf_19 rfl hf (fun hf => ?_) (fun hf => ?_)
        · refine r_loc dX12_biggestOf_41 rfl ?_
          refine r_loc (L' := [some (.ref 413), some (.int p1), some (.int x3), some (.int x3)]) dX12_biggestOf_42 rfl ?_
          refine r_loc (L' := [some (.ref 413), some (.int p1), some (.int x3), some (.int (x3 + 1))]) dX12_biggestOf_43 rfl ?_
          refine r_goto (q := 4) dX12_biggestOf_46 rfl ?_
          exact ih x3 (x3 + 1) hf
        · refine r_loc dX12_biggestOf_22 rfl ?_
          refine r_getR dX12_biggestOf_23 fl_12_85 sh_413 (Or.inr ⟨_, rfl⟩) (tp_413_40 T) ?_
          refine r_iconst (v := 0) dX12_biggestOf_26 rfl ?_
          refine r_loc dX12_biggestOf_27 rfl ?_
          refine r_alu dX12_biggestOf_28 rfl ?_
          refine r_iald dX12_biggestOf_29 sh_437 hf (fun v4 hf => ?_)
          refine r_loc dX12_biggestOf_30 rfl ?_
          refine r_getR dX12_biggestOf_31 fl_12_85 sh_413 (Or.inr ⟨_, rfl⟩) (tp_413_40 T) ?_
          refine r_iconst (v := 0) dX12_biggestOf_34 rfl ?_
          refine r_loc dX12_biggestOf_35 rfl ?_
          refine r_alu dX12_biggestOf_36 rfl ?_
          refine r_iald dX12_biggestOf_37 sh_437 hf (fun v5 hf => ?_)
          refine r_le (q := 43) dX12_biggestOf_38 rfl hf (fun hf => ?_) (fun hf => ?_)
          · refine r_loc (L' := [some (.ref 413), some (.int p1), some (.int x2), some (.int (x3 + 1))]) dX12_biggestOf_43 rfl ?_
            refine r_goto (q := 4) dX12_biggestOf_46 rfl ?_
            exact ih x2 (x3 + 1) hf
          · refine r_loc dX12_biggestOf_41 rfl ?_
            refine r_loc (L' := [some (.ref 413), some (.int p1), some (.int x3), some (.int x3)]) dX12_biggestOf_42 rfl ?_
            refine r_loc (L' := [some (.ref 413), some (.int p1), some (.int x3), some (.int (x3 + 1))]) dX12_biggestOf_43 rfl ?_
            refine r_goto (q := 4) dX12_biggestOf_46 rfl ?_
            exact ih x3 (x3 + 1) hf
theorem rf_X12_biggestOf {X : am_X} {d : Nat} (hd : 1 ≤ d) (x1 : Int32) {h : am_H} (T : am_TP h.2.2) {r : Int32} (hf : f_X12_biggestOf x1 h = some r) : am_G X d 12 false cX12_biggestOf (some .int) 0 [some (.ref 413), some (.int x1), none, none] [] (am_SH, h) (some (.int r), (am_SH, h)) := by
  unfold f_X12_biggestOf at hf
  obtain ⟨d, rfl⟩ : ∃ e, d = e + 1 := ⟨d - 1, by omega⟩
  refine r_iconst (v := (-1)) dX12_biggestOf_0 rfl ?_
  refine r_loc (L' := [some (.ref 413), some (.int x1), some (.int (-1)), none]) dX12_biggestOf_1 rfl ?_
  refine r_iconst (v := 0) dX12_biggestOf_2 rfl ?_
  refine r_loc (L' := [some (.ref 413), some (.int x1), some (.int (-1)), some (.int 0)]) dX12_biggestOf_3 rfl ?_
  refine rl_X12_biggestOf_4 (by omega) x1 T  4000 (-1) 0  hf
def lp_X12_coupleOf_8 (h : am_H) (k_40 : Int32 → Option (Int32)) : Nat → Int32 → Int32 → Option (Int32)
  | 0, _, _ => none
  | n + 1, x2, x3 => if x3 < 8 then rdI h 437 59 ((32 : Int32) + x3) fun v4 => if 0 < v4 then lp_X12_coupleOf_8 h k_40 n (x2 &&& (((1 : Int32) <<< (x3 &&& 31)) ^^^ ((-1) : Int32))) (x3 + 1) else lp_X12_coupleOf_8 h k_40 n x2 (x3 + 1) else k_40 x2
def f_X12_coupleOf (x1 : Int32) (h : am_H) : Option (Int32) := cal (f_X12_thoseIn x1 h) fun v2 => lp_X12_coupleOf_8 h (fun z5 => cal (f_X12_bitsOf z5 h) fun v7 => if v7 < 2 then some (-1) else cal (f_X12_biggestOf z5 h) fun v10 => cal (f_X12_biggestOf (z5 &&& (((1 : Int32) <<< (v10 &&& 31)) ^^^ ((-1) : Int32))) h) fun v13 => some (((8 : Int32) * v10) + v13)) 4000 v2 0
theorem rl_X12_coupleOf_8 {X : am_X} {d : Nat} (hd : 2 ≤ d) {h : am_H} (T : am_TP h.2.2) (k_40 : Int32 → Option (Int32)) {r : Int32} (hk_40 : ∀ (z2 : Int32) , k_40 z2 = some r → am_G X d 12 false cX12_coupleOf (some .int) 40 [some (.ref 413), none, some (.int z2), none] [] (am_SH, h) (some (.int r), (am_SH, h))) : ∀ (n : Nat) (x2 : Int32) (x3 : Int32) , lp_X12_coupleOf_8 h k_40 n x2 x3 = some r → am_G X d 12 false cX12_coupleOf (some .int) 8 [some (.ref 413), none, some (.int x2), some (.int x3)] [] (am_SH, h) (some (.int r), (am_SH, h)) := by
  obtain ⟨d, rfl⟩ : ∃ e, d = e + 1 := ⟨d - 1, by omega⟩
  intro n
  induction n with
  | zero => intro x2 x3 hf; cases hf
  | succ n ih =>
    intro x2 x3 hf
    rw [lp_X12_coupleOf_8] at hf
    refine r_loc dX12_coupleOf_8 rfl ?_
    refine r_bipush (v := 8) dX12_coupleOf_9 rfl ?_
    refine r_ge (q := 40) dX12_coupleOf_11 rfl hf (fun hf => ?_) (fun hf => ?_)
    · refine r_weak (L := [some (.ref 413), none, some (.int x2), none]) (am_le_s (am_le_n (am_le_s (am_le_n am_le_0)))) ?_
      exact hk_40 x2 hf
    · refine r_loc dX12_coupleOf_14 rfl ?_
      refine r_getR dX12_coupleOf_15 fl_12_85 sh_413 (Or.inr ⟨_, rfl⟩) (tp_413_40 T) ?_
      refine r_bipush (v := 32) dX12_coupleOf_18 rfl ?_
      refine r_loc dX12_coupleOf_20 rfl ?_
      refine r_alu dX12_coupleOf_21 rfl ?_
      refine r_iald dX12_coupleOf_22 sh_437 hf (fun v4 hf => ?_)
      refine r_le0 (q := 34) dX12_coupleOf_23 rfl hf (fun hf => ?_) (fun hf => ?_)
      · refine r_loc (L' := [some (.ref 413), none, some (.int x2), some (.int (x3 + 1))]) dX12_coupleOf_34 rfl ?_
        refine r_goto (q := 8) dX12_coupleOf_37 rfl ?_
        exact ih x2 (x3 + 1) hf
      · refine r_loc dX12_coupleOf_26 rfl ?_
        refine r_iconst (v := 1) dX12_coupleOf_27 rfl ?_
        refine r_loc dX12_coupleOf_28 rfl ?_
        refine r_alu dX12_coupleOf_29 rfl ?_
        refine r_iconst (v := (-1)) dX12_coupleOf_30 rfl ?_
        refine r_alu dX12_coupleOf_31 rfl ?_
        refine r_alu dX12_coupleOf_32 rfl ?_
        refine r_loc (L' := [some (.ref 413), none, some (.int (x2 &&& (((1 : Int32) <<< (x3 &&& 31)) ^^^ ((-1) : Int32)))), some (.int x3)]) dX12_coupleOf_33 rfl ?_
        refine r_loc (L' := [some (.ref 413), none, some (.int (x2 &&& (((1 : Int32) <<< (x3 &&& 31)) ^^^ ((-1) : Int32)))), some (.int (x3 + 1))]) dX12_coupleOf_34 rfl ?_
        refine r_goto (q := 8) dX12_coupleOf_37 rfl ?_
        exact ih (x2 &&& (((1 : Int32) <<< (x3 &&& 31)) ^^^ ((-1) : Int32))) (x3 + 1) hf
theorem rf_X12_coupleOf {X : am_X} {d : Nat} (hd : 2 ≤ d) (x1 : Int32) {h : am_H} (T : am_TP h.2.2) {r : Int32} (hf : f_X12_coupleOf x1 h = some r) : am_G X d 12 false cX12_coupleOf (some .int) 0 [some (.ref 413), some (.int x1), none, none] [] (am_SH, h) (some (.int r), (am_SH, h)) := by
  unfold f_X12_coupleOf at hf
  obtain ⟨d, rfl⟩ : ∃ e, d = e + 1 := ⟨d - 1, by omega⟩
  refine r_loc dX12_coupleOf_0 rfl ?_
  refine r_loc dX12_coupleOf_1 rfl ?_
  obtain ⟨v2, c1, hf⟩ := cal_inv hf
  have g3 := rf_X12_thoseIn (X := X) (d := d) (by omega) x1 T c1
  refine r_virt (pre := [.int x1]) (rest := []) dX12_coupleOf_2 ct_12_353 rfl (sh_413) (Nat.le_of_ble_eq_true rfl) (Nat.le_of_ble_eq_true rfl) g3 ?_
  refine r_loc (L' := [some (.ref 413), some (.int x1), some (.int v2), none]) dX12_coupleOf_5 rfl ?_
  refine r_iconst (v := 0) dX12_coupleOf_6 rfl ?_
  refine r_loc (L' := [some (.ref 413), some (.int x1), some (.int v2), some (.int 0)]) dX12_coupleOf_7 rfl ?_
  refine r_weak (L := [some (.ref 413), none, some (.int v2), some (.int 0)]) (am_le_s (am_le_n (am_le_s (am_le_s am_le_0)))) ?_
  refine rl_X12_coupleOf_8 (by omega) T _ ?_ 4000 v2 0  hf
  · intro z5 hf
    refine r_loc dX12_coupleOf_40 rfl ?_
    obtain ⟨v7, c6, hf⟩ := cal_inv hf
    have g8 := rf_X12_bitsOf (X := X) (d := d) (by omega) z5 T c6
    refine r_stat (pre := [.int z5]) (rest := []) dX12_coupleOf_41 ct_12_334 rfl (Nat.le_of_ble_eq_true rfl) (Nat.le_of_ble_eq_true rfl) g8 ?_
    refine r_iconst (v := 2) dX12_coupleOf_44 rfl ?_
    refine r_ge (q := 50) dX12_coupleOf_45 rfl hf (fun hf => ?_) (fun hf => ?_)
    · refine r_loc dX12_coupleOf_50 rfl ?_
      refine r_loc dX12_coupleOf_51 rfl ?_
      obtain ⟨v10, c9, hf⟩ := cal_inv hf
      have g11 := rf_X12_biggestOf (X := X) (d := d) (by omega) z5 T c9
      refine r_virt (pre := [.int z5]) (rest := []) dX12_coupleOf_52 ct_12_378 rfl (sh_413) (Nat.le_of_ble_eq_true rfl) (Nat.le_of_ble_eq_true rfl) g11 ?_
      refine r_loc (L' := [some (.ref 413), none, some (.int z5), some (.int v10)]) dX12_coupleOf_55 rfl ?_
      refine r_bipush (v := 8) dX12_coupleOf_56 rfl ?_
      refine r_loc dX12_coupleOf_58 rfl ?_
      refine r_alu dX12_coupleOf_59 rfl ?_
      refine r_loc dX12_coupleOf_60 rfl ?_
      refine r_loc dX12_coupleOf_61 rfl ?_
      refine r_iconst (v := 1) dX12_coupleOf_62 rfl ?_
      refine r_loc dX12_coupleOf_63 rfl ?_
      refine r_alu dX12_coupleOf_64 rfl ?_
      refine r_iconst (v := (-1)) dX12_coupleOf_65 rfl ?_
      refine r_alu dX12_coupleOf_66 rfl ?_
      refine r_alu dX12_coupleOf_67 rfl ?_
      obtain ⟨v13, c12, hf⟩ := cal_inv hf
      have g14 := rf_X12_biggestOf (X := X) (d := d) (by omega) (z5 &&& (((1 : Int32) <<< (v10 &&& 31)) ^^^ ((-1) : Int32))) T c12
      refine r_virt (pre := [.int (z5 &&& (((1 : Int32) <<< (v10 &&& 31)) ^^^ ((-1) : Int32)))]) (rest := [.int ((8 : Int32) * v10)]) dX12_coupleOf_68 ct_12_378 rfl (sh_413) (Nat.le_of_ble_eq_true rfl) (Nat.le_of_ble_eq_true rfl) g14 ?_
      refine r_alu dX12_coupleOf_71 rfl ?_
      cases hf
      exact r_ri T dX12_coupleOf_72
    · refine r_iconst (v := (-1)) dX12_coupleOf_48 rfl ?_
      cases hf
      exact r_ri T dX12_coupleOf_49
def f_X12_couple (x1 : Int32) (h : am_H) : Option (Int32) := cal (f_X12_isRoom x1 h) fun v2 => if v2 = 0 then some (-1) else cal (f_X12_coupleOf x1 h) fun v5 => some v5
theorem rf_X12_couple {X : am_X} {d : Nat} (hd : 3 ≤ d) (x1 : Int32) {h : am_H} (T : am_TP h.2.2) {r : Int32} (hf : f_X12_couple x1 h = some r) : am_G X d 12 false cX12_couple (some .int) 0 [some (.ref 413), some (.int x1)] [] (am_SH, h) (some (.int r), (am_SH, h)) := by
  unfold f_X12_couple at hf
  obtain ⟨d, rfl⟩ : ∃ e, d = e + 1 := ⟨d - 1, by omega⟩
  refine r_loc dX12_couple_0 rfl ?_
  refine r_loc dX12_couple_1 rfl ?_
  obtain ⟨v2, c1, hf⟩ := cal_inv hf
  have g3 := rf_X12_isRoom (X := X) (d := d) (by omega) x1 T c1
  refine r_virt (pre := [.int x1]) (rest := []) dX12_couple_2 ct_12_408 rfl (sh_413) (Nat.le_of_ble_eq_true rfl) (Nat.le_of_ble_eq_true rfl) g3 ?_
  refine r_eq0 (q := 16) dX12_couple_5 rfl hf (fun hf => ?_) (fun hf => ?_)
  · refine r_iconst (v := (-1)) dX12_couple_16 rfl ?_
    cases hf
    exact r_ri T dX12_couple_17
  · refine r_loc dX12_couple_8 rfl ?_
    refine r_loc dX12_couple_9 rfl ?_
    obtain ⟨v5, c4, hf⟩ := cal_inv hf
    have g6 := rf_X12_coupleOf (X := X) (d := d) (by omega) x1 T c4
    refine r_virt (pre := [.int x1]) (rest := []) dX12_couple_10 ct_12_381 rfl (sh_413) (Nat.le_of_ble_eq_true rfl) (Nat.le_of_ble_eq_true rfl) g6 ?_
    refine r_goto (q := 17) dX12_couple_13 rfl ?_
    cases hf
    exact r_ri T dX12_couple_17
def lp_X12_freePlace_2 (h : am_H) : Nat → Int32 → Option (Int32)
  | 0, _ => none
  | n + 1, x1 => if x1 < 8 then rdI h 437 59 ((0 : Int32) + x1) fun v1 => if v1 = 0 then some x1 else lp_X12_freePlace_2 h n (x1 + 1) else some (-1)
def f_X12_freePlace  (h : am_H) : Option (Int32) := lp_X12_freePlace_2 h  4000 0
theorem rl_X12_freePlace_2 {X : am_X} {d : Nat} (hd : 0 ≤ d) {h : am_H} (T : am_TP h.2.2) {r : Int32} : ∀ (n : Nat) (x1 : Int32) , lp_X12_freePlace_2 h n x1 = some r → am_G X d 12 false cX12_freePlace (some .int) 2 [some (.ref 413), some (.int x1)] [] (am_SH, h) (some (.int r), (am_SH, h)) := by
  intro n
  induction n with
  | zero => intro x1 hf; cases hf
  | succ n ih =>
    intro x1 hf
    rw [lp_X12_freePlace_2] at hf
    refine r_loc dX12_freePlace_2 rfl ?_
    refine r_bipush (v := 8) dX12_freePlace_3 rfl ?_
    refine r_ge (q := 27) dX12_freePlace_5 rfl hf (fun hf => ?_) (fun hf => ?_)
    · refine r_iconst (v := (-1)) dX12_freePlace_27 rfl ?_
      cases hf
      exact r_ri T dX12_freePlace_28
    · refine r_loc dX12_freePlace_8 rfl ?_
      refine r_getR dX12_freePlace_9 fl_12_85 sh_413 (Or.inr ⟨_, rfl⟩) (tp_413_40 T) ?_
      refine r_iconst (v := 0) dX12_freePlace_12 rfl ?_
      refine r_loc dX12_freePlace_13 rfl ?_
      refine r_alu dX12_freePlace_14 rfl ?_
      refine r_iald dX12_freePlace_15 sh_437 hf (fun v1 hf => ?_)
      refine r_ne0 (q := 21) dX12_freePlace_16 rfl hf (fun hf => ?_) (fun hf => ?_)
      · refine r_loc (L' := [some (.ref 413), some (.int (x1 + 1))]) dX12_freePlace_21 rfl ?_
        refine r_goto (q := 2) dX12_freePlace_24 rfl ?_
        exact ih (x1 + 1) hf
      · refine r_loc dX12_freePlace_19 rfl ?_
        cases hf
        exact r_ri T dX12_freePlace_20
theorem rf_X12_freePlace {X : am_X} {d : Nat} (hd : 0 ≤ d)  {h : am_H} (T : am_TP h.2.2) {r : Int32} (hf : f_X12_freePlace  h = some r) : am_G X d 12 false cX12_freePlace (some .int) 0 [some (.ref 413), none] [] (am_SH, h) (some (.int r), (am_SH, h)) := by
  unfold f_X12_freePlace at hf
  refine r_iconst (v := 0) dX12_freePlace_0 rfl ?_
  refine r_loc (L' := [some (.ref 413), some (.int 0)]) dX12_freePlace_1 rfl ?_
  refine rl_X12_freePlace_2 (by omega) T  4000 0  hf
def f_X12_youngOf (x1 : Int32) (h : am_H) : Option (Int32) := rdI h 437 59 ((0 : Int32) + (x1 / 8)) fun v1 => rdI h 437 59 ((0 : Int32) + (x1 - x1 / 8 * 8)) fun v2 => if ((v1 + v2) / 4) < 1 then some 1 else some ((v1 + v2) / 4)
theorem rf_X12_youngOf {X : am_X} {d : Nat} (hd : 0 ≤ d) (x1 : Int32) {h : am_H} (T : am_TP h.2.2) {r : Int32} (hf : f_X12_youngOf x1 h = some r) : am_G X d 12 false cX12_youngOf (some .int) 0 [some (.ref 413), some (.int x1), none] [] (am_SH, h) (some (.int r), (am_SH, h)) := by
  unfold f_X12_youngOf at hf
  refine r_loc dX12_youngOf_0 rfl ?_
  refine r_getR dX12_youngOf_1 fl_12_85 sh_413 (Or.inr ⟨_, rfl⟩) (tp_413_40 T) ?_
  refine r_iconst (v := 0) dX12_youngOf_4 rfl ?_
  refine r_loc dX12_youngOf_5 rfl ?_
  refine r_bipush (v := 8) dX12_youngOf_6 rfl ?_
  refine r_divc dX12_youngOf_8 (by decide) ?_
  refine r_alu dX12_youngOf_9 rfl ?_
  refine r_iald dX12_youngOf_10 sh_437 hf (fun v1 hf => ?_)
  refine r_loc dX12_youngOf_11 rfl ?_
  refine r_getR dX12_youngOf_12 fl_12_85 sh_413 (Or.inr ⟨_, rfl⟩) (tp_413_40 T) ?_
  refine r_iconst (v := 0) dX12_youngOf_15 rfl ?_
  refine r_loc dX12_youngOf_16 rfl ?_
  refine r_bipush (v := 8) dX12_youngOf_17 rfl ?_
  refine r_remc dX12_youngOf_19 (by decide) ?_
  refine r_alu dX12_youngOf_20 rfl ?_
  refine r_iald dX12_youngOf_21 sh_437 hf (fun v2 hf => ?_)
  refine r_alu dX12_youngOf_22 rfl ?_
  refine r_iconst (v := 4) dX12_youngOf_23 rfl ?_
  refine r_divc dX12_youngOf_24 (by decide) ?_
  refine r_loc (L' := [some (.ref 413), some (.int x1), some (.int ((v1 + v2) / 4))]) dX12_youngOf_25 rfl ?_
  refine r_loc dX12_youngOf_26 rfl ?_
  refine r_iconst (v := 1) dX12_youngOf_27 rfl ?_
  refine r_ge (q := 35) dX12_youngOf_28 rfl hf (fun hf => ?_) (fun hf => ?_)
  · refine r_loc dX12_youngOf_35 rfl ?_
    cases hf
    exact r_ri T dX12_youngOf_36
  · refine r_iconst (v := 1) dX12_youngOf_31 rfl ?_
    refine r_goto (q := 36) dX12_youngOf_32 rfl ?_
    cases hf
    exact r_ri T dX12_youngOf_36
def f_X12_isRipe (x1 : Int32) (h : am_H) : Option (Int32 × am_H) := cal (f_X12_coupleOf x1 h) fun v2 => if v2 < 0 then some (0, h) else cal (f_X12_freePlace h) fun v5 => if v5 < 0 then some (0, h) else cal2 (f_X12_broodOf (v2 / 8) (v2 - v2 / 8 * 8) h) fun v8 h10 => if 0 < v8 then cal (f_X12_youngOf v2 h10) fun v14 => cal (f_X12_leftIn x1 h10) fun v17 => if v17 < v14 then some (0, h10) else some (1, h10) else some (0, h10)
theorem rf_X12_isRipe {X : am_X} {d : Nat} (hd : 6 ≤ d) (x1 : Int32) {h : am_H} (T : am_TP h.2.2) {r : Int32 × am_H} (hf : f_X12_isRipe x1 h = some r) : am_G X d 12 false cX12_isRipe (some .boolean) 0 [some (.ref 413), some (.int x1), none] [] (am_SH, h) (some (.int r.1), (am_SH, r.2)) := by
  unfold f_X12_isRipe at hf
  obtain ⟨d, rfl⟩ : ∃ e, d = e + 1 := ⟨d - 1, by omega⟩
  refine r_loc dX12_isRipe_0 rfl ?_
  refine r_loc dX12_isRipe_1 rfl ?_
  obtain ⟨v2, c1, hf⟩ := cal_inv hf
  have g3 := rf_X12_coupleOf (X := X) (d := d) (by omega) x1 T c1
  refine r_virt (pre := [.int x1]) (rest := []) dX12_isRipe_2 ct_12_381 rfl (sh_413) (Nat.le_of_ble_eq_true rfl) (Nat.le_of_ble_eq_true rfl) g3 ?_
  refine r_loc (L' := [some (.ref 413), some (.int x1), some (.int v2)]) dX12_isRipe_5 rfl ?_
  refine r_loc dX12_isRipe_6 rfl ?_
  refine r_lt0 (q := 49) dX12_isRipe_7 rfl hf (fun hf => ?_) (fun hf => ?_)
  · refine r_iconst (v := 0) dX12_isRipe_49 rfl ?_
    cases hf
    exact r_z0 T dX12_isRipe_50
  · refine r_loc dX12_isRipe_10 rfl ?_
    obtain ⟨v5, c4, hf⟩ := cal_inv hf
    have g6 := rf_X12_freePlace (X := X) (d := d) (by omega) T c4
    refine r_virt (pre := []) (rest := []) dX12_isRipe_11 ct_12_384 rfl (sh_413) (Nat.le_of_ble_eq_true rfl) (Nat.le_of_ble_eq_true rfl) g6 ?_
    refine r_lt0 (q := 49) dX12_isRipe_14 rfl hf (fun hf => ?_) (fun hf => ?_)
    · refine r_iconst (v := 0) dX12_isRipe_49 rfl ?_
      cases hf
      exact r_z0 T dX12_isRipe_50
    · refine r_loc dX12_isRipe_17 rfl ?_
      refine r_loc dX12_isRipe_18 rfl ?_
      refine r_bipush (v := 8) dX12_isRipe_19 rfl ?_
      refine r_divc dX12_isRipe_21 (by decide) ?_
      refine r_loc dX12_isRipe_22 rfl ?_
      refine r_bipush (v := 8) dX12_isRipe_23 rfl ?_
      refine r_remc dX12_isRipe_25 (by decide) ?_
      obtain ⟨v8, h10, c7, hf⟩ := cal2_inv hf
      have g12 := rf_X12_broodOf (X := X) (d := d) (by omega) (v2 / 8) (v2 - v2 / 8 * 8) T c7
      have T11 : am_TP h10.2.2 := g12.2
      refine r_virt (pre := [.int (v2 - v2 / 8 * 8), .int (v2 / 8)]) (rest := []) dX12_isRipe_26 ct_12_387 rfl (sh_413) (Nat.le_of_ble_eq_true rfl) (Nat.le_of_ble_eq_true rfl) g12 ?_
      refine r_le0 (q := 49) dX12_isRipe_29 rfl hf (fun hf => ?_) (fun hf => ?_)
      · refine r_iconst (v := 0) dX12_isRipe_49 rfl ?_
        cases hf
        exact r_z0 T11 dX12_isRipe_50
      · refine r_loc dX12_isRipe_32 rfl ?_
        refine r_loc dX12_isRipe_33 rfl ?_
        obtain ⟨v14, c13, hf⟩ := cal_inv hf
        have g15 := rf_X12_youngOf (X := X) (d := d) (by omega) v2 T11 c13
        refine r_virt (pre := [.int v2]) (rest := []) dX12_isRipe_34 ct_12_390 rfl (sh_413) (Nat.le_of_ble_eq_true rfl) (Nat.le_of_ble_eq_true rfl) g15 ?_
        refine r_loc dX12_isRipe_37 rfl ?_
        refine r_loc dX12_isRipe_38 rfl ?_
        obtain ⟨v17, c16, hf⟩ := cal_inv hf
        have g18 := rf_X12_leftIn (X := X) (d := d) (by omega) x1 T11 c16
        refine r_virt (pre := [.int x1]) (rest := [.int v14]) dX12_isRipe_39 ct_12_328 rfl (sh_413) (Nat.le_of_ble_eq_true rfl) (Nat.le_of_ble_eq_true rfl) g18 ?_
        refine r_gt (q := 49) dX12_isRipe_42 rfl hf (fun hf => ?_) (fun hf => ?_)
        · refine r_iconst (v := 0) dX12_isRipe_49 rfl ?_
          cases hf
          exact r_z0 T11 dX12_isRipe_50
        · refine r_iconst (v := 1) dX12_isRipe_45 rfl ?_
          refine r_goto (q := 50) dX12_isRipe_46 rfl ?_
          cases hf
          exact r_z1 T11 dX12_isRipe_50
def lp_X12_ripe_4 : Nat → Int32 → Int32 → am_H → Option (Int32 × am_H)
  | 0, _, _, _ => none
  | n + 1, x1, x2, h => cal (f_X12_chambers h) fun v2 => if x2 < v2 then cal2 (f_X12_isRipe x2 h) fun v5 h7 => if v5 = 0 then lp_X12_ripe_4 n x1 (x2 + 1) h7 else lp_X12_ripe_4 n (x1 ||| ((1 : Int32) <<< (x2 &&& 31))) (x2 + 1) h7 else some (x1, h)
def f_X12_ripe  (h : am_H) : Option (Int32 × am_H) := lp_X12_ripe_4  4000 0 0 h
theorem rl_X12_ripe_4 {X : am_X} {d : Nat} (hd : 7 ≤ d) {r : Int32 × am_H} : ∀ (n : Nat) (x1 : Int32) (x2 : Int32) (h : am_H), am_TP h.2.2 → lp_X12_ripe_4 n x1 x2 h = some r → am_G X d 12 false cX12_ripe (some .int) 4 [some (.ref 413), some (.int x1), some (.int x2)] [] (am_SH, h) (some (.int r.1), (am_SH, r.2)) := by
  obtain ⟨d, rfl⟩ : ∃ e, d = e + 1 := ⟨d - 1, by omega⟩
  intro n
  induction n with
  | zero => intro x1 x2 h T hf; cases hf
  | succ n ih =>
    intro x1 x2 h T hf
    rw [lp_X12_ripe_4] at hf
    refine r_loc dX12_ripe_4 rfl ?_
    refine r_loc dX12_ripe_5 rfl ?_
    obtain ⟨v2, c1, hf⟩ := cal_inv hf
    have g3 := rf_X12_chambers (X := X) (d := d) (by omega) T c1
    refine r_virt (pre := []) (rest := [.int x2]) dX12_ripe_6 ct_12_343 rfl (sh_413) (Nat.le_of_ble_eq_true rfl) (Nat.le_of_ble_eq_true rfl) g3 ?_
    refine r_ge (q := 32) dX12_ripe_9 rfl hf (fun hf => ?_) (fun hf => ?_)
    · refine r_loc dX12_ripe_32 rfl ?_
      cases hf
      exact r_ri T dX12_ripe_33
    · refine r_loc dX12_ripe_12 rfl ?_
      refine r_loc dX12_ripe_13 rfl ?_
      obtain ⟨v5, h7, c4, hf⟩ := cal2_inv hf
      have g9 := rf_X12_isRipe (X := X) (d := d) (by omega) x2 T c4
      have T8 : am_TP h7.2.2 := g9.2
      refine r_virt (pre := [.int x2]) (rest := []) dX12_ripe_14 ct_12_399 rfl (sh_413) (Nat.le_of_ble_eq_true rfl) (Nat.le_of_ble_eq_true rfl) g9 ?_
      refine r_eq0 (q := 26) dX12_ripe_17 rfl hf (fun hf => ?_) (fun hf => ?_)
      · refine r_loc (L' := [some (.ref 413), some (.int x1), some (.int (x2 + 1))]) dX12_ripe_26 rfl ?_
        refine r_goto (q := 4) dX12_ripe_29 rfl ?_
        exact ih x1 (x2 + 1) h7 T8 hf
      · refine r_loc dX12_ripe_20 rfl ?_
        refine r_iconst (v := 1) dX12_ripe_21 rfl ?_
        refine r_loc dX12_ripe_22 rfl ?_
        refine r_alu dX12_ripe_23 rfl ?_
        refine r_alu dX12_ripe_24 rfl ?_
        refine r_loc (L' := [some (.ref 413), some (.int (x1 ||| ((1 : Int32) <<< (x2 &&& 31)))), some (.int x2)]) dX12_ripe_25 rfl ?_
        refine r_loc (L' := [some (.ref 413), some (.int (x1 ||| ((1 : Int32) <<< (x2 &&& 31)))), some (.int (x2 + 1))]) dX12_ripe_26 rfl ?_
        refine r_goto (q := 4) dX12_ripe_29 rfl ?_
        exact ih (x1 ||| ((1 : Int32) <<< (x2 &&& 31))) (x2 + 1) h7 T8 hf
theorem rf_X12_ripe {X : am_X} {d : Nat} (hd : 7 ≤ d)  {h : am_H} (T : am_TP h.2.2) {r : Int32 × am_H} (hf : f_X12_ripe  h = some r) : am_G X d 12 false cX12_ripe (some .int) 0 [some (.ref 413), none, none] [] (am_SH, h) (some (.int r.1), (am_SH, r.2)) := by
  unfold f_X12_ripe at hf
  obtain ⟨d, rfl⟩ : ∃ e, d = e + 1 := ⟨d - 1, by omega⟩
  refine r_iconst (v := 0) dX12_ripe_0 rfl ?_
  refine r_loc (L' := [some (.ref 413), some (.int 0), none]) dX12_ripe_1 rfl ?_
  refine r_iconst (v := 0) dX12_ripe_2 rfl ?_
  refine r_loc (L' := [some (.ref 413), some (.int 0), some (.int 0)]) dX12_ripe_3 rfl ?_
  refine rl_X12_ripe_4 (by omega)  4000 0 0 h T hf
def lp_X12_pining_4 (h : am_H) : Nat → Int32 → Int32 → Option (Int32)
  | 0, _, _ => none
  | n + 1, x1, x2 => if x2 < 8 then rdI h 437 59 ((32 : Int32) + x2) fun v1 => if 0 < v1 then lp_X12_pining_4 h n (x1 ||| ((1 : Int32) <<< (x2 &&& 31))) (x2 + 1) else lp_X12_pining_4 h n x1 (x2 + 1) else some x1
def f_X12_pining  (h : am_H) : Option (Int32) := lp_X12_pining_4 h  4000 0 0
theorem rl_X12_pining_4 {X : am_X} {d : Nat} (hd : 0 ≤ d) {h : am_H} (T : am_TP h.2.2) {r : Int32} : ∀ (n : Nat) (x1 : Int32) (x2 : Int32) , lp_X12_pining_4 h n x1 x2 = some r → am_G X d 12 false cX12_pining (some .int) 4 [some (.ref 413), some (.int x1), some (.int x2)] [] (am_SH, h) (some (.int r), (am_SH, h)) := by
  intro n
  induction n with
  | zero => intro x1 x2 hf; cases hf
  | succ n ih =>
    intro x1 x2 hf
    rw [lp_X12_pining_4] at hf
    refine r_loc dX12_pining_4 rfl ?_
    refine r_bipush (v := 8) dX12_pining_5 rfl ?_
    refine r_ge (q := 34) dX12_pining_7 rfl hf (fun hf => ?_) (fun hf => ?_)
    · refine r_loc dX12_pining_34 rfl ?_
      cases hf
      exact r_ri T dX12_pining_35
    · refine r_loc dX12_pining_10 rfl ?_
      refine r_getR dX12_pining_11 fl_12_85 sh_413 (Or.inr ⟨_, rfl⟩) (tp_413_40 T) ?_
      refine r_bipush (v := 32) dX12_pining_14 rfl ?_
      refine r_loc dX12_pining_16 rfl ?_
      refine r_alu dX12_pining_17 rfl ?_
      refine r_iald dX12_pining_18 sh_437 hf (fun v1 hf => ?_)
      refine r_le0 (q := 28) dX12_pining_19 rfl hf (fun hf => ?_) (fun hf => ?_)
      · refine r_loc (L' := [some (.ref 413), some (.int x1), some (.int (x2 + 1))]) dX12_pining_28 rfl ?_
        refine r_goto (q := 4) dX12_pining_31 rfl ?_
        exact ih x1 (x2 + 1) hf
      · refine r_loc dX12_pining_22 rfl ?_
        refine r_iconst (v := 1) dX12_pining_23 rfl ?_
        refine r_loc dX12_pining_24 rfl ?_
        refine r_alu dX12_pining_25 rfl ?_
        refine r_alu dX12_pining_26 rfl ?_
        refine r_loc (L' := [some (.ref 413), some (.int (x1 ||| ((1 : Int32) <<< (x2 &&& 31)))), some (.int x2)]) dX12_pining_27 rfl ?_
        refine r_loc (L' := [some (.ref 413), some (.int (x1 ||| ((1 : Int32) <<< (x2 &&& 31)))), some (.int (x2 + 1))]) dX12_pining_28 rfl ?_
        refine r_goto (q := 4) dX12_pining_31 rfl ?_
        exact ih (x1 ||| ((1 : Int32) <<< (x2 &&& 31))) (x2 + 1) hf
theorem rf_X12_pining {X : am_X} {d : Nat} (hd : 0 ≤ d)  {h : am_H} (T : am_TP h.2.2) {r : Int32} (hf : f_X12_pining  h = some r) : am_G X d 12 false cX12_pining (some .int) 0 [some (.ref 413), none, none] [] (am_SH, h) (some (.int r), (am_SH, h)) := by
  unfold f_X12_pining at hf
  refine r_iconst (v := 0) dX12_pining_0 rfl ?_
  refine r_loc (L' := [some (.ref 413), some (.int 0), none]) dX12_pining_1 rfl ?_
  refine r_iconst (v := 0) dX12_pining_2 rfl ?_
  refine r_loc (L' := [some (.ref 413), some (.int 0), some (.int 0)]) dX12_pining_3 rfl ?_
  refine rl_X12_pining_4 (by omega) T  4000 0 0  hf
def f_X12_alike (x1 : Int32) (x2 : Int32) (h : am_H) : Option (Int32) := cal (f_X12_isThere x1 h) fun v2 => if v2 = 0 then some (-1) else cal (f_X12_isThere x2 h) fun v5 => if v5 = 0 then some (-1) else rdI h 437 59 ((16 : Int32) + x1) fun v7 => rdI h 437 59 ((16 : Int32) + x2) fun v8 => cal (f_X12_sharedBy v7 v8 h) fun v10 => some v10
theorem rf_X12_alike {X : am_X} {d : Nat} (hd : 2 ≤ d) (x1 : Int32) (x2 : Int32) {h : am_H} (T : am_TP h.2.2) {r : Int32} (hf : f_X12_alike x1 x2 h = some r) : am_G X d 12 false cX12_alike (some .int) 0 [some (.ref 413), some (.int x1), some (.int x2)] [] (am_SH, h) (some (.int r), (am_SH, h)) := by
  unfold f_X12_alike at hf
  obtain ⟨d, rfl⟩ : ∃ e, d = e + 1 := ⟨d - 1, by omega⟩
  refine r_loc dX12_alike_0 rfl ?_
  refine r_loc dX12_alike_1 rfl ?_
  obtain ⟨v2, c1, hf⟩ := cal_inv hf
  have g3 := rf_X12_isThere (X := X) (d := d) (by omega) x1 T c1
  refine r_virt (pre := [.int x1]) (rest := []) dX12_alike_2 ct_12_411 rfl (sh_413) (Nat.le_of_ble_eq_true rfl) (Nat.le_of_ble_eq_true rfl) g3 ?_
  refine r_eq0 (q := 40) dX12_alike_5 rfl hf (fun hf => ?_) (fun hf => ?_)
  · refine r_iconst (v := (-1)) dX12_alike_40 rfl ?_
    cases hf
    exact r_ri T dX12_alike_41
  · refine r_loc dX12_alike_8 rfl ?_
    refine r_loc dX12_alike_9 rfl ?_
    obtain ⟨v5, c4, hf⟩ := cal_inv hf
    have g6 := rf_X12_isThere (X := X) (d := d) (by omega) x2 T c4
    refine r_virt (pre := [.int x2]) (rest := []) dX12_alike_10 ct_12_411 rfl (sh_413) (Nat.le_of_ble_eq_true rfl) (Nat.le_of_ble_eq_true rfl) g6 ?_
    refine r_eq0 (q := 40) dX12_alike_13 rfl hf (fun hf => ?_) (fun hf => ?_)
    · refine r_iconst (v := (-1)) dX12_alike_40 rfl ?_
      cases hf
      exact r_ri T dX12_alike_41
    · refine r_loc dX12_alike_16 rfl ?_
      refine r_getR dX12_alike_17 fl_12_85 sh_413 (Or.inr ⟨_, rfl⟩) (tp_413_40 T) ?_
      refine r_bipush (v := 16) dX12_alike_20 rfl ?_
      refine r_loc dX12_alike_22 rfl ?_
      refine r_alu dX12_alike_23 rfl ?_
      refine r_iald dX12_alike_24 sh_437 hf (fun v7 hf => ?_)
      refine r_loc dX12_alike_25 rfl ?_
      refine r_getR dX12_alike_26 fl_12_85 sh_413 (Or.inr ⟨_, rfl⟩) (tp_413_40 T) ?_
      refine r_bipush (v := 16) dX12_alike_29 rfl ?_
      refine r_loc dX12_alike_31 rfl ?_
      refine r_alu dX12_alike_32 rfl ?_
      refine r_iald dX12_alike_33 sh_437 hf (fun v8 hf => ?_)
      obtain ⟨v10, c9, hf⟩ := cal_inv hf
      have g11 := rf_X12_sharedBy (X := X) (d := d) (by omega) v7 v8 T c9
      refine r_stat (pre := [.int v8, .int v7]) (rest := []) dX12_alike_34 ct_12_325 rfl (Nat.le_of_ble_eq_true rfl) (Nat.le_of_ble_eq_true rfl) g11 ?_
      refine r_goto (q := 41) dX12_alike_37 rfl ?_
      cases hf
      exact r_ri T dX12_alike_41
def lp_X12_like_14 (p1 : Int32) (h : am_H) : Nat → Int32 → Int32 → Option (Int32)
  | 0, _, _ => none
  | n + 1, x2, x3 => if x3 < 8 then cal (f_X12_isThere x3 h) fun v5 => if v5 = 0 then lp_X12_like_14 p1 h n x2 (x3 + 1) else if x3 = p1 then lp_X12_like_14 p1 h n x2 (x3 + 1) else if x2 < 0 then lp_X12_like_14 p1 h n x3 (x3 + 1) else cal (f_X12_alike p1 x3 h) fun v8 => cal (f_X12_alike p1 x2 h) fun v11 => if v11 < v8 then lp_X12_like_14 p1 h n x3 (x3 + 1) else lp_X12_like_14 p1 h n x2 (x3 + 1) else some x2
def f_X12_like (x1 : Int32) (h : am_H) : Option (Int32) := cal (f_X12_isThere x1 h) fun v2 => if v2 = 0 then some (-1) else lp_X12_like_14 x1 h  4000 (-1) 0
theorem rl_X12_like_14 {X : am_X} {d : Nat} (hd : 3 ≤ d) (p1 : Int32) {h : am_H} (T : am_TP h.2.2) {r : Int32} : ∀ (n : Nat) (x2 : Int32) (x3 : Int32) , lp_X12_like_14 p1 h n x2 x3 = some r → am_G X d 12 false cX12_like (some .int) 14 [some (.ref 413), some (.int p1), some (.int x2), some (.int x3)] [] (am_SH, h) (some (.int r), (am_SH, h)) := by
  obtain ⟨d, rfl⟩ : ∃ e, d = e + 1 := ⟨d - 1, by omega⟩
  intro n
  induction n with
  | zero => intro x2 x3 hf; cases hf
  | succ n ih =>
    intro x2 x3 hf
    rw [lp_X12_like_14] at hf
    refine r_loc dX12_like_14 rfl ?_
    refine r_bipush (v := 8) dX12_like_15 rfl ?_
    refine r_ge (q := 60) dX12_like_17 rfl hf (fun hf => ?_) (fun hf => ?_)
    · refine r_loc dX12_like_60 rfl ?_
      cases hf
      exact r_ri T dX12_like_61
    · refine r_loc dX12_like_20 rfl ?_
      refine r_loc dX12_like_21 rfl ?_
      obtain ⟨v5, c4, hf⟩ := cal_inv hf
      have g6 := rf_X12_isThere (X := X) (d := d) (by omega) x3 T c4
      refine r_virt (pre := [.int x3]) (rest := []) dX12_like_22 ct_12_411 rfl (sh_413) (Nat.le_of_ble_eq_true rfl) (Nat.le_of_ble_eq_true rfl) g6 ?_
      refine r_eq0 (q := 54) dX12_like_25 rfl hf (fun hf => ?_) (fun hf => ?_)
      · refine r_loc (L' := [some (.ref 413), some (.int p1), some (.int x2), some (.int (x3 + 1))]) dX12_like_54 rfl ?_
        refine r_goto (q := 14) dX12_like_57 rfl ?_
        exact ih x2 (x3 + 1) hf
      · refine r_loc dX12_like_28 rfl ?_
        refine r_loc dX12_like_29 rfl ?_
        refine r_eq (q := 54) dX12_like_30 rfl hf (fun hf => ?_) (fun hf => ?_)
        · refine r_loc (L' := [some (.ref 413), some (.int p1), some (.int x2), some (.int (x3 + 1))]) dX12_like_54 rfl ?_
          refine r_goto (q := 14) dX12_like_57 rfl ?_
          exact ih x2 (x3 + 1) hf
        · refine r_loc dX12_like_33 rfl ?_
          refine r_lt0 (q := 52) dX12_like_34 rfl hf (fun hf => ?_) (fun hf => ?_)
          · refine r_loc dX12_like_52 rfl ?_
            refine r_loc (L' := [some (.ref 413), some (.int p1), some (.int x3), some (.int x3)]) dX12_like_53 rfl ?_
            refine r_loc (L' := [some (.ref 413), some (.int p1), some (.int x3), some (.int (x3 + 1))]) dX12_like_54 rfl ?_
            refine r_goto (q := 14) dX12_like_57 rfl ?_
            exact ih x3 (x3 + 1) hf
          · refine r_loc dX12_like_37 rfl ?_
            refine r_loc dX12_like_38 rfl ?_
            refine r_loc dX12_like_39 rfl ?_
            obtain ⟨v8, c7, hf⟩ := cal_inv hf
            have g9 := rf_X12_alike (X := X) (d := d) (by omega) p1 x3 T c7
            refine r_virt (pre := [.int x3, .int p1]) (rest := []) dX12_like_40 ct_12_415 rfl (sh_413) (Nat.le_of_ble_eq_true rfl) (Nat.le_of_ble_eq_true rfl) g9 ?_
            refine r_loc dX12_like_43 rfl ?_
            refine r_loc dX12_like_44 rfl ?_
            refine r_loc dX12_like_45 rfl ?_
            obtain ⟨v11, c10, hf⟩ := cal_inv hf
            have g12 := rf_X12_alike (X := X) (d := d) (by omega) p1 x2 T c10
            refine r_virt (pre := [.int x2, .int p1]) (rest := [.int v8]) dX12_like_46 ct_12_415 rfl (sh_413) (Nat.le_of_ble_eq_true rfl) (Nat.le_of_ble_eq_true rfl) g12 ?_
            refine r_le (q := 54) dX12_like_49 rfl hf (fun hf => ?_) (fun hf => ?_)
            · refine r_loc (L' := [some (.ref 413), some (.int p1), some (.int x2), some (.int (x3 + 1))]) dX12_like_54 rfl ?_
              refine r_goto (q := 14) dX12_like_57 rfl ?_
              exact ih x2 (x3 + 1) hf
            · refine r_loc dX12_like_52 rfl ?_
              refine r_loc (L' := [some (.ref 413), some (.int p1), some (.int x3), some (.int x3)]) dX12_like_53 rfl ?_
              refine r_loc (L' := [some (.ref 413), some (.int p1), some (.int x3), some (.int (x3 + 1))]) dX12_like_54 rfl ?_
              refine r_goto (q := 14) dX12_like_57 rfl ?_
              exact ih x3 (x3 + 1) hf
theorem rf_X12_like {X : am_X} {d : Nat} (hd : 3 ≤ d) (x1 : Int32) {h : am_H} (T : am_TP h.2.2) {r : Int32} (hf : f_X12_like x1 h = some r) : am_G X d 12 false cX12_like (some .int) 0 [some (.ref 413), some (.int x1), none, none] [] (am_SH, h) (some (.int r), (am_SH, h)) := by
  unfold f_X12_like at hf
  obtain ⟨d, rfl⟩ : ∃ e, d = e + 1 := ⟨d - 1, by omega⟩
  refine r_loc dX12_like_0 rfl ?_
  refine r_loc dX12_like_1 rfl ?_
  obtain ⟨v2, c1, hf⟩ := cal_inv hf
  have g3 := rf_X12_isThere (X := X) (d := d) (by omega) x1 T c1
  refine r_virt (pre := [.int x1]) (rest := []) dX12_like_2 ct_12_411 rfl (sh_413) (Nat.le_of_ble_eq_true rfl) (Nat.le_of_ble_eq_true rfl) g3 ?_
  refine r_ne0 (q := 10) dX12_like_5 rfl hf (fun hf => ?_) (fun hf => ?_)
  · refine r_iconst (v := (-1)) dX12_like_10 rfl ?_
    refine r_loc (L' := [some (.ref 413), some (.int x1), some (.int (-1)), none]) dX12_like_11 rfl ?_
    refine r_iconst (v := 0) dX12_like_12 rfl ?_
    refine r_loc (L' := [some (.ref 413), some (.int x1), some (.int (-1)), some (.int 0)]) dX12_like_13 rfl ?_
    refine rl_X12_like_14 (by omega) x1 T  4000 (-1) 0  hf
  · refine r_iconst (v := (-1)) dX12_like_8 rfl ?_
    cases hf
    exact r_ri T dX12_like_9
