/-! Lifted methods, by program (wip/whole/lift.py, run1.py) -/
def f_X2_work_10 (x1 : Int32) (x2 : Int32) (h : am_H) : Option (Int32 × am_H) := if x1 < 1 then some (x1, h) else if 300 < x1 then some (x1, h) else if x2 = 13 then rdI h 13 300 (x1 - 1) fun v9 => if v9 = 0 then wrI h 13 300 (x1 - 1) 1 fun h13 => some (x1, h13) else wrI h 13 300 (x1 - 1) 0 fun h10 => some (x1, h10) else if x1 < 2 then some (x1, h) else rdI h 13 300 (x1 - 2) fun v1 => rdI h 13 300 (x1 - 1) fun v2 => cal (f_X2_join x2 v1 v2 h) fun v4 => wrI h 13 300 (x1 - 2) v4 fun h6 => some ((x1 - 1), h6)
theorem rf_X2_work_10 {X : am_X} {d : Nat} (hd : 1 ≤ d) (x1 : Int32) (x2 : Int32) {h : am_H} (T : am_TP h.2.2) {r : Int32 × am_H} (hf : f_X2_work_10 x1 x2 h = some r) : am_G X d 2 false cX2_work (some .int) 0 [some (.ref 10), some (.int x1), some (.int x2)] [] (am_SH, h) (some (.int r.1), (am_SH, r.2)) := by
  unfold f_X2_work_10 at hf
  obtain ⟨d, rfl⟩ : ∃ e, d = e + 1 := ⟨d - 1, by omega⟩
  refine r_loc dX2_work_0 rfl ?_
  refine r_iconst (v := 1) dX2_work_1 rfl ?_
  refine r_lt (q := 12) dX2_work_2 rfl hf (fun hf => ?_) (fun hf => ?_)
  · refine r_loc dX2_work_12 rfl ?_
    cases hf
    exact r_ri T dX2_work_13
  · refine r_loc dX2_work_5 rfl ?_
    refine r_sipush (v := 300) dX2_work_6 rfl ?_
    refine r_le (q := 14) dX2_work_9 rfl hf (fun hf => ?_) (fun hf => ?_)
    · refine r_loc dX2_work_14 rfl ?_
      refine r_bipush (v := 13) dX2_work_15 rfl ?_
      refine r_ne (q := 46) dX2_work_17 rfl hf (fun hf => ?_) (fun hf => ?_)
      · refine r_loc dX2_work_46 rfl ?_
        refine r_iconst (v := 2) dX2_work_47 rfl ?_
        refine r_ge (q := 53) dX2_work_48 rfl hf (fun hf => ?_) (fun hf => ?_)
        · refine r_loc dX2_work_53 rfl ?_
          refine r_getR dX2_work_54 fl_2_18 sh_10 (Or.inr ⟨_, rfl⟩) (tp_10_2 T) ?_
          refine r_loc dX2_work_57 rfl ?_
          refine r_iconst (v := 2) dX2_work_58 rfl ?_
          refine r_alu dX2_work_59 rfl ?_
          refine r_loc dX2_work_60 rfl ?_
          refine r_loc dX2_work_61 rfl ?_
          refine r_getR dX2_work_62 fl_2_18 sh_10 (Or.inr ⟨_, rfl⟩) (tp_10_2 T) ?_
          refine r_loc dX2_work_65 rfl ?_
          refine r_iconst (v := 2) dX2_work_66 rfl ?_
          refine r_alu dX2_work_67 rfl ?_
          refine r_iald dX2_work_68 sh_13 hf (fun v1 hf => ?_)
          refine r_loc dX2_work_69 rfl ?_
          refine r_getR dX2_work_70 fl_2_18 sh_10 (Or.inr ⟨_, rfl⟩) (tp_10_2 T) ?_
          refine r_loc dX2_work_73 rfl ?_
          refine r_iconst (v := 1) dX2_work_74 rfl ?_
          refine r_alu dX2_work_75 rfl ?_
          refine r_iald dX2_work_76 sh_13 hf (fun v2 hf => ?_)
          obtain ⟨v4, c3, hf⟩ := cal_inv hf
          have g5 := rf_X2_join (X := X) (d := d) (by omega) x2 v1 v2 T c3
          refine r_stat (pre := [.int v2, .int v1, .int x2]) (rest := [.int (x1 - 2), .ref 13]) dX2_work_77 ct_2_42 rfl (Nat.le_of_ble_eq_true rfl) (Nat.le_of_ble_eq_true rfl) g5 ?_
          refine r_iast dX2_work_80 sh_13 hf (fun h6 e8 hf => ?_)
          have T7 := tp_eq e8 T
          refine r_loc dX2_work_81 rfl ?_
          refine r_iconst (v := 1) dX2_work_82 rfl ?_
          refine r_alu dX2_work_83 rfl ?_
          cases hf
          exact r_ri T7 dX2_work_84
        · refine r_loc dX2_work_51 rfl ?_
          cases hf
          exact r_ri T dX2_work_52
      · refine r_loc dX2_work_20 rfl ?_
        refine r_getR dX2_work_21 fl_2_18 sh_10 (Or.inr ⟨_, rfl⟩) (tp_10_2 T) ?_
        refine r_loc dX2_work_24 rfl ?_
        refine r_iconst (v := 1) dX2_work_25 rfl ?_
        refine r_alu dX2_work_26 rfl ?_
        refine r_loc dX2_work_27 rfl ?_
        refine r_getR dX2_work_28 fl_2_18 sh_10 (Or.inr ⟨_, rfl⟩) (tp_10_2 T) ?_
        refine r_loc dX2_work_31 rfl ?_
        refine r_iconst (v := 1) dX2_work_32 rfl ?_
        refine r_alu dX2_work_33 rfl ?_
        refine r_iald dX2_work_34 sh_13 hf (fun v9 hf => ?_)
        refine r_ne0 (q := 42) dX2_work_35 rfl hf (fun hf => ?_) (fun hf => ?_)
        · refine r_iconst (v := 0) dX2_work_42 rfl ?_
          refine r_iast dX2_work_43 sh_13 hf (fun h10 e12 hf => ?_)
          have T11 := tp_eq e12 T
          refine r_loc dX2_work_44 rfl ?_
          cases hf
          exact r_ri T11 dX2_work_45
        · refine r_iconst (v := 1) dX2_work_38 rfl ?_
          refine r_goto (q := 43) dX2_work_39 rfl ?_
          refine r_iast dX2_work_43 sh_13 hf (fun h13 e15 hf => ?_)
          have T14 := tp_eq e15 T
          refine r_loc dX2_work_44 rfl ?_
          cases hf
          exact r_ri T14 dX2_work_45
    · refine r_loc dX2_work_12 rfl ?_
      cases hf
      exact r_ri T dX2_work_13
def f_X2_push_10 (x1 : Int32) (x2 : Int32) (h : am_H) : Option (Int32 × am_H) := if x1 < 0 then some (x1, h) else if x1 < 300 then wrI h 13 300 x1 x2 fun h1 => some ((x1 + 1), h1) else some (x1, h)
theorem rf_X2_push_10 {X : am_X} {d : Nat} (hd : 0 ≤ d) (x1 : Int32) (x2 : Int32) {h : am_H} (T : am_TP h.2.2) {r : Int32 × am_H} (hf : f_X2_push_10 x1 x2 h = some r) : am_G X d 2 false cX2_push (some .int) 0 [some (.ref 10), some (.int x1), some (.int x2)] [] (am_SH, h) (some (.int r.1), (am_SH, r.2)) := by
  unfold f_X2_push_10 at hf
  refine r_loc dX2_push_0 rfl ?_
  refine r_lt0 (q := 11) dX2_push_1 rfl hf (fun hf => ?_) (fun hf => ?_)
  · refine r_loc dX2_push_11 rfl ?_
    cases hf
    exact r_ri T dX2_push_12
  · refine r_loc dX2_push_4 rfl ?_
    refine r_sipush (v := 300) dX2_push_5 rfl ?_
    refine r_lt (q := 13) dX2_push_8 rfl hf (fun hf => ?_) (fun hf => ?_)
    · refine r_loc dX2_push_13 rfl ?_
      refine r_getR dX2_push_14 fl_2_18 sh_10 (Or.inr ⟨_, rfl⟩) (tp_10_2 T) ?_
      refine r_loc dX2_push_17 rfl ?_
      refine r_loc dX2_push_18 rfl ?_
      refine r_iast dX2_push_19 sh_13 hf (fun h1 e3 hf => ?_)
      have T2 := tp_eq e3 T
      refine r_loc dX2_push_20 rfl ?_
      refine r_iconst (v := 1) dX2_push_21 rfl ?_
      refine r_alu dX2_push_22 rfl ?_
      cases hf
      exact r_ri T2 dX2_push_23
    · refine r_loc dX2_push_11 rfl ?_
      cases hf
      exact r_ri T dX2_push_12
def lp_X2_value_10_6 (p1 : Int32) (p2 : Int32) (p3 : Int32) (p4 : Int32) (p5 : Int32) (k_189 : Int32 → am_H → Option (Int32 × am_H)) : Nat → Int32 → Int32 → am_H → Option (Int32 × am_H)
  | 0, _, _, _ => none
  | n + 1, x6, x7, h => bnd (h.1 10 3) fun v1 => if x7 < v1 then if x7 < 300 then rdI h 11 300 x7 fun v2 => if v2 = 3 then cal2 (f_X2_push_10 x6 p1 h) fun v11 h13 => lp_X2_value_10_6 p1 p2 p3 p4 p5 k_189 n v11 (x7 + 1) h13 else if v2 = 14 then cal2 (f_X2_push_10 x6 p2 h) fun v17 h19 => lp_X2_value_10_6 p1 p2 p3 p4 p5 k_189 n v17 (x7 + 1) h19 else if v2 = 15 then cal2 (f_X2_push_10 x6 p3 h) fun v23 h25 => lp_X2_value_10_6 p1 p2 p3 p4 p5 k_189 n v23 (x7 + 1) h25 else if v2 = 16 then cal2 (f_X2_push_10 x6 p4 h) fun v29 h31 => lp_X2_value_10_6 p1 p2 p3 p4 p5 k_189 n v29 (x7 + 1) h31 else if v2 = 17 then cal2 (f_X2_push_10 x6 p5 h) fun v35 h37 => lp_X2_value_10_6 p1 p2 p3 p4 p5 k_189 n v35 (x7 + 1) h37 else if v2 = 29 then rdI h 12 300 x7 fun v40 => cal2 (f_X2_push_10 x6 v40 h) fun v42 h44 => lp_X2_value_10_6 p1 p2 p3 p4 p5 k_189 n v42 (x7 + 1) h44 else rdI h 11 300 x7 fun v3 => cal2 (f_X2_work_10 x6 v3 h) fun v5 h7 => lp_X2_value_10_6 p1 p2 p3 p4 p5 k_189 n v5 (x7 + 1) h7 else k_189 x6 h else k_189 x6 h
def jn_X2_value_10_189 (x6 : Int32) (h : am_H) : Option (Int32 × am_H) := if 0 < x6 then rdI h 13 300 0 fun v50 => some (v50, h) else some (0, h)
def f_X2_value_10 (x1 : Int32) (x2 : Int32) (x3 : Int32) (x4 : Int32) (x5 : Int32) (h : am_H) : Option (Int32 × am_H) := lp_X2_value_10_6 x1 x2 x3 x4 x5 (fun z47 h48 => jn_X2_value_10_189 z47 h48) 4000 0 0 h
theorem rl_X2_value_10_6 {X : am_X} {d : Nat} (hd : 2 ≤ d) (p1 : Int32) (p2 : Int32) (p3 : Int32) (p4 : Int32) (p5 : Int32) (k_189 : Int32 → am_H → Option (Int32 × am_H)) {r : Int32 × am_H} (hk_189 : ∀ (z6 : Int32) (h : am_H), am_TP h.2.2 → k_189 z6 h = some r → am_G X d 2 false cX2_value (some .int) 189 [some (.ref 10), none, none, none, none, none, some (.int z6), none] [] (am_SH, h) (some (.int r.1), (am_SH, r.2))) : ∀ (n : Nat) (x6 : Int32) (x7 : Int32) (h : am_H), am_TP h.2.2 → lp_X2_value_10_6 p1 p2 p3 p4 p5 k_189 n x6 x7 h = some r → am_G X d 2 false cX2_value (some .int) 6 [some (.ref 10), some (.int p1), some (.int p2), some (.int p3), some (.int p4), some (.int p5), some (.int x6), some (.int x7)] [] (am_SH, h) (some (.int r.1), (am_SH, r.2)) := by
  obtain ⟨d, rfl⟩ : ∃ e, d = e + 1 := ⟨d - 1, by omega⟩
  intro n
  induction n with
  | zero => intro x6 x7 h T hf; cases hf
  | succ n ih =>
    intro x6 x7 h T hf
    rw [lp_X2_value_10_6] at hf
    refine r_loc dX2_value_6 rfl ?_
    refine r_loc dX2_value_8 rfl ?_
    refine r_getI dX2_value_9 fl_2_21 sh_10 rfl hf (fun v1 hf => ?_)
    refine r_ge (q := 189) dX2_value_12 rfl hf (fun hf => ?_) (fun hf => ?_)
    · refine r_weak (L := [some (.ref 10), none, none, none, none, none, some (.int x6), none]) (am_le_s (am_le_n (am_le_n (am_le_n (am_le_n (am_le_n (am_le_s (am_le_n am_le_0)))))))) ?_
      exact hk_189 x6 h T hf
    · refine r_loc dX2_value_15 rfl ?_
      refine r_sipush (v := 300) dX2_value_17 rfl ?_
      refine r_ge (q := 189) dX2_value_20 rfl hf (fun hf => ?_) (fun hf => ?_)
      · refine r_weak (L := [some (.ref 10), none, none, none, none, none, some (.int x6), none]) (am_le_s (am_le_n (am_le_n (am_le_n (am_le_n (am_le_n (am_le_s (am_le_n am_le_0)))))))) ?_
        exact hk_189 x6 h T hf
      · refine r_loc dX2_value_23 rfl ?_
        refine r_getR dX2_value_24 fl_2_9 sh_10 (Or.inr ⟨_, rfl⟩) (tp_10_0 T) ?_
        refine r_loc dX2_value_27 rfl ?_
        refine r_iald dX2_value_29 sh_11 hf (fun v2 hf => ?_)
        refine r_swc (x := v2) (v := 3) (off := 76) (q := 106) dX2_value_30 rfl rfl hf (fun hf => ?_) (fun n3 hf => ?_)
        · refine r_loc dX2_value_106 rfl ?_
          refine r_loc dX2_value_107 rfl ?_
          refine r_loc dX2_value_109 rfl ?_
          obtain ⟨v11, h13, c10, hf⟩ := cal2_inv hf
          have g15 := rf_X2_push_10 (X := X) (d := d) (by omega) x6 p1 T c10
          have T14 : am_TP h13.2.2 := g15.2
          refine r_virt (pre := [.int p1, .int x6]) (rest := []) dX2_value_110 ct_2_35 rfl (sh_10) (Nat.le_of_ble_eq_true rfl) (Nat.le_of_ble_eq_true rfl) g15 ?_
          refine r_loc (L' := [some (.ref 10), some (.int p1), some (.int p2), some (.int p3), some (.int p4), some (.int p5), some (.int v11), some (.int x7)]) dX2_value_113 rfl ?_
          refine r_goto (q := 183) dX2_value_115 rfl ?_
          refine r_loc (L' := [some (.ref 10), some (.int p1), some (.int p2), some (.int p3), some (.int p4), some (.int p5), some (.int v11), some (.int (x7 + 1))]) dX2_value_183 rfl ?_
          refine r_goto (q := 6) dX2_value_186 rfl ?_
          exact ih v11 (x7 + 1) h13 T14 hf
        refine r_swc (x := v2) (v := 14) (off := 88) (q := 118) dX2_value_30 rfl rfl hf (fun hf => ?_) (fun n14 hf => ?_)
        · refine r_loc dX2_value_118 rfl ?_
          refine r_loc dX2_value_119 rfl ?_
          refine r_loc dX2_value_121 rfl ?_
          obtain ⟨v17, h19, c16, hf⟩ := cal2_inv hf
          have g21 := rf_X2_push_10 (X := X) (d := d) (by omega) x6 p2 T c16
          have T20 : am_TP h19.2.2 := g21.2
          refine r_virt (pre := [.int p2, .int x6]) (rest := []) dX2_value_122 ct_2_35 rfl (sh_10) (Nat.le_of_ble_eq_true rfl) (Nat.le_of_ble_eq_true rfl) g21 ?_
          refine r_loc (L' := [some (.ref 10), some (.int p1), some (.int p2), some (.int p3), some (.int p4), some (.int p5), some (.int v17), some (.int x7)]) dX2_value_125 rfl ?_
          refine r_goto (q := 183) dX2_value_127 rfl ?_
          refine r_loc (L' := [some (.ref 10), some (.int p1), some (.int p2), some (.int p3), some (.int p4), some (.int p5), some (.int v17), some (.int (x7 + 1))]) dX2_value_183 rfl ?_
          refine r_goto (q := 6) dX2_value_186 rfl ?_
          exact ih v17 (x7 + 1) h19 T20 hf
        refine r_swc (x := v2) (v := 15) (off := 100) (q := 130) dX2_value_30 rfl rfl hf (fun hf => ?_) (fun n15 hf => ?_)
        · refine r_loc dX2_value_130 rfl ?_
          refine r_loc dX2_value_131 rfl ?_
          refine r_loc dX2_value_133 rfl ?_
          obtain ⟨v23, h25, c22, hf⟩ := cal2_inv hf
          have g27 := rf_X2_push_10 (X := X) (d := d) (by omega) x6 p3 T c22
          have T26 : am_TP h25.2.2 := g27.2
          refine r_virt (pre := [.int p3, .int x6]) (rest := []) dX2_value_134 ct_2_35 rfl (sh_10) (Nat.le_of_ble_eq_true rfl) (Nat.le_of_ble_eq_true rfl) g27 ?_
          refine r_loc (L' := [some (.ref 10), some (.int p1), some (.int p2), some (.int p3), some (.int p4), some (.int p5), some (.int v23), some (.int x7)]) dX2_value_137 rfl ?_
          refine r_goto (q := 183) dX2_value_139 rfl ?_
          refine r_loc (L' := [some (.ref 10), some (.int p1), some (.int p2), some (.int p3), some (.int p4), some (.int p5), some (.int v23), some (.int (x7 + 1))]) dX2_value_183 rfl ?_
          refine r_goto (q := 6) dX2_value_186 rfl ?_
          exact ih v23 (x7 + 1) h25 T26 hf
        refine r_swc (x := v2) (v := 16) (off := 112) (q := 142) dX2_value_30 rfl rfl hf (fun hf => ?_) (fun n16 hf => ?_)
        · refine r_loc dX2_value_142 rfl ?_
          refine r_loc dX2_value_143 rfl ?_
          refine r_loc dX2_value_145 rfl ?_
          obtain ⟨v29, h31, c28, hf⟩ := cal2_inv hf
          have g33 := rf_X2_push_10 (X := X) (d := d) (by omega) x6 p4 T c28
          have T32 : am_TP h31.2.2 := g33.2
          refine r_virt (pre := [.int p4, .int x6]) (rest := []) dX2_value_147 ct_2_35 rfl (sh_10) (Nat.le_of_ble_eq_true rfl) (Nat.le_of_ble_eq_true rfl) g33 ?_
          refine r_loc (L' := [some (.ref 10), some (.int p1), some (.int p2), some (.int p3), some (.int p4), some (.int p5), some (.int v29), some (.int x7)]) dX2_value_150 rfl ?_
          refine r_goto (q := 183) dX2_value_152 rfl ?_
          refine r_loc (L' := [some (.ref 10), some (.int p1), some (.int p2), some (.int p3), some (.int p4), some (.int p5), some (.int v29), some (.int (x7 + 1))]) dX2_value_183 rfl ?_
          refine r_goto (q := 6) dX2_value_186 rfl ?_
          exact ih v29 (x7 + 1) h31 T32 hf
        refine r_swc (x := v2) (v := 17) (off := 125) (q := 155) dX2_value_30 rfl rfl hf (fun hf => ?_) (fun n17 hf => ?_)
        · refine r_loc dX2_value_155 rfl ?_
          refine r_loc dX2_value_156 rfl ?_
          refine r_loc dX2_value_158 rfl ?_
          obtain ⟨v35, h37, c34, hf⟩ := cal2_inv hf
          have g39 := rf_X2_push_10 (X := X) (d := d) (by omega) x6 p5 T c34
          have T38 : am_TP h37.2.2 := g39.2
          refine r_virt (pre := [.int p5, .int x6]) (rest := []) dX2_value_160 ct_2_35 rfl (sh_10) (Nat.le_of_ble_eq_true rfl) (Nat.le_of_ble_eq_true rfl) g39 ?_
          refine r_loc (L' := [some (.ref 10), some (.int p1), some (.int p2), some (.int p3), some (.int p4), some (.int p5), some (.int v35), some (.int x7)]) dX2_value_163 rfl ?_
          refine r_goto (q := 183) dX2_value_165 rfl ?_
          refine r_loc (L' := [some (.ref 10), some (.int p1), some (.int p2), some (.int p3), some (.int p4), some (.int p5), some (.int v35), some (.int (x7 + 1))]) dX2_value_183 rfl ?_
          refine r_goto (q := 6) dX2_value_186 rfl ?_
          exact ih v35 (x7 + 1) h37 T38 hf
        refine r_swc (x := v2) (v := 29) (off := 58) (q := 88) dX2_value_30 rfl rfl hf (fun hf => ?_) (fun n29 hf => ?_)
        · refine r_loc dX2_value_88 rfl ?_
          refine r_loc dX2_value_89 rfl ?_
          refine r_loc dX2_value_91 rfl ?_
          refine r_getR dX2_value_92 fl_2_15 sh_10 (Or.inr ⟨_, rfl⟩) (tp_10_1 T) ?_
          refine r_loc dX2_value_95 rfl ?_
          refine r_iald dX2_value_97 sh_12 hf (fun v40 hf => ?_)
          obtain ⟨v42, h44, c41, hf⟩ := cal2_inv hf
          have g46 := rf_X2_push_10 (X := X) (d := d) (by omega) x6 v40 T c41
          have T45 : am_TP h44.2.2 := g46.2
          refine r_virt (pre := [.int v40, .int x6]) (rest := []) dX2_value_98 ct_2_35 rfl (sh_10) (Nat.le_of_ble_eq_true rfl) (Nat.le_of_ble_eq_true rfl) g46 ?_
          refine r_loc (L' := [some (.ref 10), some (.int p1), some (.int p2), some (.int p3), some (.int p4), some (.int p5), some (.int v42), some (.int x7)]) dX2_value_101 rfl ?_
          refine r_goto (q := 183) dX2_value_103 rfl ?_
          refine r_loc (L' := [some (.ref 10), some (.int p1), some (.int p2), some (.int p3), some (.int p4), some (.int p5), some (.int v42), some (.int (x7 + 1))]) dX2_value_183 rfl ?_
          refine r_goto (q := 6) dX2_value_186 rfl ?_
          exact ih v42 (x7 + 1) h44 T45 hf
        refine r_swdl (q := 168) dX2_value_30 (by decide) ⟨n3, n14, n15, n16, n17, n29, trivial⟩ rfl ?_
        refine r_loc dX2_value_168 rfl ?_
        refine r_loc dX2_value_169 rfl ?_
        refine r_loc dX2_value_171 rfl ?_
        refine r_getR dX2_value_172 fl_2_9 sh_10 (Or.inr ⟨_, rfl⟩) (tp_10_0 T) ?_
        refine r_loc dX2_value_175 rfl ?_
        refine r_iald dX2_value_177 sh_11 hf (fun v3 hf => ?_)
        obtain ⟨v5, h7, c4, hf⟩ := cal2_inv hf
        have g9 := rf_X2_work_10 (X := X) (d := d) (by omega) x6 v3 T c4
        have T8 : am_TP h7.2.2 := g9.2
        refine r_virt (pre := [.int v3, .int x6]) (rest := []) dX2_value_178 ct_2_39 rfl (sh_10) (Nat.le_of_ble_eq_true rfl) (Nat.le_of_ble_eq_true rfl) g9 ?_
        refine r_loc (L' := [some (.ref 10), some (.int p1), some (.int p2), some (.int p3), some (.int p4), some (.int p5), some (.int v5), some (.int x7)]) dX2_value_181 rfl ?_
        refine r_loc (L' := [some (.ref 10), some (.int p1), some (.int p2), some (.int p3), some (.int p4), some (.int p5), some (.int v5), some (.int (x7 + 1))]) dX2_value_183 rfl ?_
        refine r_goto (q := 6) dX2_value_186 rfl ?_
        exact ih v5 (x7 + 1) h7 T8 hf
theorem rj_X2_value_10_189 {X : am_X} {d : Nat} (hd : 2 ≤ d) (x6 : Int32) {h : am_H} (T : am_TP h.2.2) {r : Int32 × am_H} (hf : jn_X2_value_10_189 x6 h = some r) : am_G X d 2 false cX2_value (some .int) 189 [some (.ref 10), none, none, none, none, none, some (.int x6), none] [] (am_SH, h) (some (.int r.1), (am_SH, r.2)) := by
  obtain ⟨d, rfl⟩ : ∃ e, d = e + 1 := ⟨d - 1, by omega⟩
  unfold jn_X2_value_10_189 at hf
  refine r_loc dX2_value_189 rfl ?_
  refine r_le0 (q := 203) dX2_value_191 rfl hf (fun hf => ?_) (fun hf => ?_)
  · refine r_iconst (v := 0) dX2_value_203 rfl ?_
    cases hf
    exact r_ri T dX2_value_204
  · refine r_loc dX2_value_194 rfl ?_
    refine r_getR dX2_value_195 fl_2_18 sh_10 (Or.inr ⟨_, rfl⟩) (tp_10_2 T) ?_
    refine r_iconst (v := 0) dX2_value_198 rfl ?_
    refine r_iald dX2_value_199 sh_13 hf (fun v50 hf => ?_)
    refine r_goto (q := 204) dX2_value_200 rfl ?_
    cases hf
    exact r_ri T dX2_value_204
theorem rf_X2_value_10 {X : am_X} {d : Nat} (hd : 2 ≤ d) (x1 : Int32) (x2 : Int32) (x3 : Int32) (x4 : Int32) (x5 : Int32) {h : am_H} (T : am_TP h.2.2) {r : Int32 × am_H} (hf : f_X2_value_10 x1 x2 x3 x4 x5 h = some r) : am_G X d 2 false cX2_value (some .int) 0 [some (.ref 10), some (.int x1), some (.int x2), some (.int x3), some (.int x4), some (.int x5), none, none] [] (am_SH, h) (some (.int r.1), (am_SH, r.2)) := by
  unfold f_X2_value_10 at hf
  obtain ⟨d, rfl⟩ : ∃ e, d = e + 1 := ⟨d - 1, by omega⟩
  refine r_iconst (v := 0) dX2_value_0 rfl ?_
  refine r_loc (L' := [some (.ref 10), some (.int x1), some (.int x2), some (.int x3), some (.int x4), some (.int x5), some (.int 0), none]) dX2_value_1 rfl ?_
  refine r_iconst (v := 0) dX2_value_3 rfl ?_
  refine r_loc (L' := [some (.ref 10), some (.int x1), some (.int x2), some (.int x3), some (.int x4), some (.int x5), some (.int 0), some (.int 0)]) dX2_value_4 rfl ?_
  refine rl_X2_value_10_6 (by omega) x1 x2 x3 x4 x5 _ ?_ 4000 0 0 h T hf
  · intro z47 h48 T49 hf
    exact rj_X2_value_10_189 (by omega) z47 T49 hf
def f_X10_broodOf (s1 : Nat) (x2 : Int32) (x3 : Int32) (h : am_H) : Option (Int32 × am_H) := cal (f_X7_hasBoth s1 x2 x3 h) fun v2 => if v2 = 0 then some ((-1000000000), h) else rdI h (s1 + 2) 8 x2 fun v4 => cal (f_X7_leftIn s1 v4 h) fun v6 => rdI h (s1 + 1) 8 x2 fun v8 => rdI h (s1 + 1) 8 x3 fun v9 => cal (f_X7_shared s1 x2 x3 h) fun v11 => cal (f_X7_count s1 h) fun v14 => bnd (h.1 s1 9) fun v16 => cal2 (f_X2_value_10 (v8 + v9) v11 v6 v14 v16 h) fun v18 h20 => some (v18, h20)
theorem rf_X10_broodOf {X : am_X} {d : Nat} (hd : 3 ≤ d) (s1 : Nat) (x2 : Int32) (x3 : Int32) (hs1 : s1 ∈ am_ST) {h : am_H} (T : am_TP h.2.2) {r : Int32 × am_H} (hf : f_X10_broodOf s1 x2 x3 h = some r) : am_G X d 10 false cX10_broodOf (some .int) 0 [some (.ref 35), some (.ref s1), some (.int x2), some (.int x3), none] [] (am_SH, h) (some (.int r.1), (am_SH, r.2)) := by
  unfold f_X10_broodOf at hf
  obtain ⟨d, rfl⟩ : ∃ e, d = e + 1 := ⟨d - 1, by omega⟩
  refine r_loc dX10_broodOf_0 rfl ?_
  refine r_loc dX10_broodOf_1 rfl ?_
  refine r_loc dX10_broodOf_2 rfl ?_
  obtain ⟨v2, c1, hf⟩ := cal_inv hf
  have g3 := rf_X7_hasBoth (X := X) (d := d) (by omega) s1 x2 x3 hs1 T c1
  refine r_virt (pre := [.int x3, .int x2]) (rest := []) dX10_broodOf_3 ct_10_89 rfl ((sh_S hs1)) (Nat.le_of_ble_eq_true rfl) (Nat.le_of_ble_eq_true rfl) g3 ?_
  refine r_ne0 (q := 12) dX10_broodOf_6 rfl hf (fun hf => ?_) (fun hf => ?_)
  · refine r_loc dX10_broodOf_12 rfl ?_
    refine r_loc dX10_broodOf_13 rfl ?_
    refine r_getR dX10_broodOf_14 fl_10_69 (sh_S hs1) (Or.inr ⟨_, rfl⟩) (tp_S_2 T hs1) ?_
    refine r_loc dX10_broodOf_17 rfl ?_
    refine r_iald dX10_broodOf_18 (sh_S_2 hs1) hf (fun v4 hf => ?_)
    obtain ⟨v6, c5, hf⟩ := cal_inv hf
    have g7 := rf_X7_leftIn (X := X) (d := d) (by omega) s1 v4 hs1 T c5
    refine r_virt (pre := [.int v4]) (rest := []) dX10_broodOf_19 ct_10_83 rfl ((sh_S hs1)) (Nat.le_of_ble_eq_true rfl) (Nat.le_of_ble_eq_true rfl) g7 ?_
    refine r_loc (L' := [some (.ref 35), some (.ref s1), some (.int x2), some (.int x3), some (.int v6)]) dX10_broodOf_22 rfl ?_
    refine r_loc dX10_broodOf_24 rfl ?_
    refine r_getR dX10_broodOf_25 fl_10_18 sh_35 (Or.inl ⟨_, rfl⟩) (tp_35_0 T) ?_
    refine r_getR dX10_broodOf_28 fl_10_94 sh_4 (Or.inl ⟨_, rfl⟩) (tp_4_5 T) ?_
    refine r_loc dX10_broodOf_31 rfl ?_
    refine r_getR dX10_broodOf_32 fl_10_98 (sh_S hs1) (Or.inr ⟨_, rfl⟩) (tp_S_1 T hs1) ?_
    refine r_loc dX10_broodOf_35 rfl ?_
    refine r_iald dX10_broodOf_36 (sh_S_1 hs1) hf (fun v8 hf => ?_)
    refine r_loc dX10_broodOf_37 rfl ?_
    refine r_getR dX10_broodOf_38 fl_10_98 (sh_S hs1) (Or.inr ⟨_, rfl⟩) (tp_S_1 T hs1) ?_
    refine r_loc dX10_broodOf_41 rfl ?_
    refine r_iald dX10_broodOf_42 (sh_S_1 hs1) hf (fun v9 hf => ?_)
    refine r_alu dX10_broodOf_43 rfl ?_
    refine r_loc dX10_broodOf_44 rfl ?_
    refine r_loc dX10_broodOf_45 rfl ?_
    refine r_loc dX10_broodOf_46 rfl ?_
    obtain ⟨v11, c10, hf⟩ := cal_inv hf
    have g12 := rf_X7_shared (X := X) (d := d) (by omega) s1 x2 x3 hs1 T c10
    refine r_virt (pre := [.int x3, .int x2]) (rest := [.int (v8 + v9), .ref 10]) dX10_broodOf_47 ct_10_101 rfl ((sh_S hs1)) (Nat.le_of_ble_eq_true rfl) (Nat.le_of_ble_eq_true rfl) g12 ?_
    refine r_loc dX10_broodOf_50 rfl ?_
    refine r_loc dX10_broodOf_52 rfl ?_
    obtain ⟨v14, c13, hf⟩ := cal_inv hf
    have g15 := rf_X7_count (X := X) (d := d) (by omega) s1 hs1 T c13
    refine r_virt (pre := []) (rest := [.int v6, .int v11, .int (v8 + v9), .ref 10]) dX10_broodOf_53 ct_10_76 rfl ((sh_S hs1)) (Nat.le_of_ble_eq_true rfl) (Nat.le_of_ble_eq_true rfl) g15 ?_
    refine r_loc dX10_broodOf_56 rfl ?_
    refine r_getI dX10_broodOf_57 fl_10_60 (sh_S hs1) rfl hf (fun v16 hf => ?_)
    obtain ⟨v18, h20, c17, hf⟩ := cal2_inv hf
    have g22 := rf_X2_value_10 (X := X) (d := d) (by omega) (v8 + v9) v11 v6 v14 v16 T c17
    have T21 : am_TP h20.2.2 := g22.2
    refine r_virt (pre := [.int v16, .int v14, .int v6, .int v11, .int (v8 + v9)]) (rest := []) dX10_broodOf_60 ct_10_105 rfl (sh_10) (Nat.le_of_ble_eq_true rfl) (Nat.le_of_ble_eq_true rfl) g22 ?_
    cases hf
    exact r_ri T21 dX10_broodOf_63
  · refine r_ldc dX10_broodOf_9 k32_10_93 ?_
    cases hf
    exact r_ri T dX10_broodOf_11
def f_X11_brood (x1 : Int32) (x2 : Int32) (h : am_H) : Option (Int32 × am_H) := if x1 = x2 then some ((-1000000000), h) else cal (f_X7_hasBoth 27 x1 x2 h) fun v2 => if v2 = 0 then some ((-1000000000), h) else rdI h (27 + 2) 8 x1 fun v4 => rdI h (27 + 2) 8 x2 fun v5 => if v4 = v5 then cal2 (f_X10_broodOf 27 x1 x2 h) fun v7 h9 => some (v7, h9) else some ((-1000000000), h)
theorem rf_X11_brood {X : am_X} {d : Nat} (hd : 4 ≤ d) (x1 : Int32) (x2 : Int32) {h : am_H} (T : am_TP h.2.2) {r : Int32 × am_H} (hf : f_X11_brood x1 x2 h = some r) : am_G X d 11 false cX11_brood (some .int) 0 [some (.ref 0), some (.int x1), some (.int x2)] [] (am_SH, h) (some (.int r.1), (am_SH, r.2)) := by
  unfold f_X11_brood at hf
  obtain ⟨d, rfl⟩ : ∃ e, d = e + 1 := ⟨d - 1, by omega⟩
  refine r_loc dX11_brood_0 rfl ?_
  refine r_loc dX11_brood_1 rfl ?_
  refine r_eq (q := 38) dX11_brood_2 rfl hf (fun hf => ?_) (fun hf => ?_)
  · refine r_ldc dX11_brood_38 k32_11_165 ?_
    cases hf
    exact r_ri T dX11_brood_40
  · refine r_loc dX11_brood_5 rfl ?_
    refine r_getR dX11_brood_6 fl_11_37 sh_0 (Or.inl ⟨_, rfl⟩) (tp_0_3 T) ?_
    refine r_loc dX11_brood_9 rfl ?_
    refine r_loc dX11_brood_10 rfl ?_
    obtain ⟨v2, c1, hf⟩ := cal_inv hf
    have g3 := rf_X7_hasBoth (X := X) (d := d) (by omega) 27 x1 x2 st_27 T c1
    refine r_virt (pre := [.int x2, .int x1]) (rest := []) dX11_brood_11 ct_11_161 rfl ((sh_S st_27)) (Nat.le_of_ble_eq_true rfl) (Nat.le_of_ble_eq_true rfl) g3 ?_
    refine r_eq0 (q := 38) dX11_brood_14 rfl hf (fun hf => ?_) (fun hf => ?_)
    · refine r_ldc dX11_brood_38 k32_11_165 ?_
      cases hf
      exact r_ri T dX11_brood_40
    · refine r_loc dX11_brood_17 rfl ?_
      refine r_getR dX11_brood_18 fl_11_37 sh_0 (Or.inl ⟨_, rfl⟩) (tp_0_3 T) ?_
      refine r_getR dX11_brood_21 fl_11_143 (sh_S st_27) (Or.inr ⟨_, rfl⟩) (tp_S_2 T st_27) ?_
      refine r_loc dX11_brood_24 rfl ?_
      refine r_iald dX11_brood_25 (sh_S_2 st_27) hf (fun v4 hf => ?_)
      refine r_loc dX11_brood_26 rfl ?_
      refine r_getR dX11_brood_27 fl_11_37 sh_0 (Or.inl ⟨_, rfl⟩) (tp_0_3 T) ?_
      refine r_getR dX11_brood_30 fl_11_143 (sh_S st_27) (Or.inr ⟨_, rfl⟩) (tp_S_2 T st_27) ?_
      refine r_loc dX11_brood_33 rfl ?_
      refine r_iald dX11_brood_34 (sh_S_2 st_27) hf (fun v5 hf => ?_)
      refine r_eq (q := 41) dX11_brood_35 rfl hf (fun hf => ?_) (fun hf => ?_)
      · refine r_loc dX11_brood_41 rfl ?_
        refine r_getR dX11_brood_42 fl_11_44 sh_0 (Or.inl ⟨_, rfl⟩) (tp_0_4 T) ?_
        refine r_loc dX11_brood_45 rfl ?_
        refine r_getR dX11_brood_46 fl_11_37 sh_0 (Or.inl ⟨_, rfl⟩) (tp_0_3 T) ?_
        refine r_loc dX11_brood_49 rfl ?_
        refine r_loc dX11_brood_50 rfl ?_
        obtain ⟨v7, h9, c6, hf⟩ := cal2_inv hf
        have g11 := rf_X10_broodOf (X := X) (d := d) (by omega) 27 x1 x2 st_27 T c6
        have T10 : am_TP h9.2.2 := g11.2
        refine r_virt (pre := [.int x2, .int x1, .ref 27]) (rest := []) dX11_brood_51 ct_11_166 rfl (sh_35) (Nat.le_of_ble_eq_true rfl) (Nat.le_of_ble_eq_true rfl) g11 ?_
        cases hf
        exact r_ri T10 dX11_brood_54
      · refine r_ldc dX11_brood_38 k32_11_165 ?_
        cases hf
        exact r_ri T dX11_brood_40
def lp_X7_bulkiestIn_8 (s0 : Nat) (p1 : Int32) (p2 : Int32) (h : am_H) : Nat → Int32 → Int32 → Int32 → Option (Int32)
  | 0, _, _, _ => none
  | n + 1, x3, x4, x5 => if x5 < 8 then if x5 = p2 then lp_X7_bulkiestIn_8 s0 p1 p2 h n x3 x4 (x5 + 1) else rdI h (s0 + 2) 8 x5 fun v1 => if v1 = p1 then rdI h (s0 + 5) 8 x5 fun v2 => if v2 = 0 then rdI h (s0 + 1) 8 x5 fun v3 => if x4 < v3 then rdI h (s0 + 1) 8 x5 fun v4 => lp_X7_bulkiestIn_8 s0 p1 p2 h n x5 v4 (x5 + 1) else lp_X7_bulkiestIn_8 s0 p1 p2 h n x3 x4 (x5 + 1) else lp_X7_bulkiestIn_8 s0 p1 p2 h n x3 x4 (x5 + 1) else lp_X7_bulkiestIn_8 s0 p1 p2 h n x3 x4 (x5 + 1) else some x3
def f_X7_bulkiestIn (s0 : Nat) (x1 : Int32) (x2 : Int32) (h : am_H) : Option (Int32) := lp_X7_bulkiestIn_8 s0 x1 x2 h  4000 (-1) 0 0
theorem rl_X7_bulkiestIn_8 {X : am_X} {d : Nat} (hd : 0 ≤ d) (s0 : Nat) (p1 : Int32) (p2 : Int32) (hs0 : s0 ∈ am_ST) {h : am_H} (T : am_TP h.2.2) {r : Int32} : ∀ (n : Nat) (x3 : Int32) (x4 : Int32) (x5 : Int32) , lp_X7_bulkiestIn_8 s0 p1 p2 h n x3 x4 x5 = some r → am_G X d 7 false cX7_bulkiestIn (some .int) 8 [some (.ref s0), some (.int p1), some (.int p2), some (.int x3), some (.int x4), some (.int x5)] [] (am_SH, h) (some (.int r), (am_SH, h)) := by
  intro n
  induction n with
  | zero => intro x3 x4 x5 hf; cases hf
  | succ n ih =>
    intro x3 x4 x5 hf
    rw [lp_X7_bulkiestIn_8] at hf
    refine r_loc dX7_bulkiestIn_8 rfl ?_
    refine r_bipush (v := 8) dX7_bulkiestIn_10 rfl ?_
    refine r_ge (q := 72) dX7_bulkiestIn_12 rfl hf (fun hf => ?_) (fun hf => ?_)
    · refine r_loc dX7_bulkiestIn_72 rfl ?_
      cases hf
      exact r_ri T dX7_bulkiestIn_73
    · refine r_loc dX7_bulkiestIn_15 rfl ?_
      refine r_loc dX7_bulkiestIn_17 rfl ?_
      refine r_eq (q := 66) dX7_bulkiestIn_18 rfl hf (fun hf => ?_) (fun hf => ?_)
      · refine r_loc (L' := [some (.ref s0), some (.int p1), some (.int p2), some (.int x3), some (.int x4), some (.int (x5 + 1))]) dX7_bulkiestIn_66 rfl ?_
        refine r_goto (q := 8) dX7_bulkiestIn_69 rfl ?_
        exact ih x3 x4 (x5 + 1) hf
      · refine r_loc dX7_bulkiestIn_21 rfl ?_
        refine r_getR dX7_bulkiestIn_22 fl_7_15 (sh_S hs0) (Or.inr ⟨_, rfl⟩) (tp_S_2 T hs0) ?_
        refine r_loc dX7_bulkiestIn_25 rfl ?_
        refine r_iald dX7_bulkiestIn_27 (sh_S_2 hs0) hf (fun v1 hf => ?_)
        refine r_loc dX7_bulkiestIn_28 rfl ?_
        refine r_ne (q := 66) dX7_bulkiestIn_29 rfl hf (fun hf => ?_) (fun hf => ?_)
        · refine r_loc (L' := [some (.ref s0), some (.int p1), some (.int p2), some (.int x3), some (.int x4), some (.int (x5 + 1))]) dX7_bulkiestIn_66 rfl ?_
          refine r_goto (q := 8) dX7_bulkiestIn_69 rfl ?_
          exact ih x3 x4 (x5 + 1) hf
        · refine r_loc dX7_bulkiestIn_32 rfl ?_
          refine r_getR dX7_bulkiestIn_33 fl_7_24 (sh_S hs0) (Or.inr ⟨_, rfl⟩) (tp_S_5 T hs0) ?_
          refine r_loc dX7_bulkiestIn_36 rfl ?_
          refine r_iald dX7_bulkiestIn_38 (sh_S_5 hs0) hf (fun v2 hf => ?_)
          refine r_ne0 (q := 66) dX7_bulkiestIn_39 rfl hf (fun hf => ?_) (fun hf => ?_)
          · refine r_loc (L' := [some (.ref s0), some (.int p1), some (.int p2), some (.int x3), some (.int x4), some (.int (x5 + 1))]) dX7_bulkiestIn_66 rfl ?_
            refine r_goto (q := 8) dX7_bulkiestIn_69 rfl ?_
            exact ih x3 x4 (x5 + 1) hf
          · refine r_loc dX7_bulkiestIn_42 rfl ?_
            refine r_getR dX7_bulkiestIn_43 fl_7_9 (sh_S hs0) (Or.inr ⟨_, rfl⟩) (tp_S_1 T hs0) ?_
            refine r_loc dX7_bulkiestIn_46 rfl ?_
            refine r_iald dX7_bulkiestIn_48 (sh_S_1 hs0) hf (fun v3 hf => ?_)
            refine r_loc dX7_bulkiestIn_49 rfl ?_
            refine r_le (q := 66) dX7_bulkiestIn_51 rfl hf (fun hf => ?_) (fun hf => ?_)
            · refine r_loc (L' := [some (.ref s0), some (.int p1), some (.int p2), some (.int x3), some (.int x4), some (.int (x5 + 1))]) dX7_bulkiestIn_66 rfl ?_
              refine r_goto (q := 8) dX7_bulkiestIn_69 rfl ?_
              exact ih x3 x4 (x5 + 1) hf
            · refine r_loc dX7_bulkiestIn_54 rfl ?_
              refine r_loc (L' := [some (.ref s0), some (.int p1), some (.int p2), some (.int x5), some (.int x4), some (.int x5)]) dX7_bulkiestIn_56 rfl ?_
              refine r_loc dX7_bulkiestIn_57 rfl ?_
              refine r_getR dX7_bulkiestIn_58 fl_7_9 (sh_S hs0) (Or.inr ⟨_, rfl⟩) (tp_S_1 T hs0) ?_
              refine r_loc dX7_bulkiestIn_61 rfl ?_
              refine r_iald dX7_bulkiestIn_63 (sh_S_1 hs0) hf (fun v4 hf => ?_)
              refine r_loc (L' := [some (.ref s0), some (.int p1), some (.int p2), some (.int x5), some (.int v4), some (.int x5)]) dX7_bulkiestIn_64 rfl ?_
              refine r_loc (L' := [some (.ref s0), some (.int p1), some (.int p2), some (.int x5), some (.int v4), some (.int (x5 + 1))]) dX7_bulkiestIn_66 rfl ?_
              refine r_goto (q := 8) dX7_bulkiestIn_69 rfl ?_
              exact ih x5 v4 (x5 + 1) hf
theorem rf_X7_bulkiestIn {X : am_X} {d : Nat} (hd : 0 ≤ d) (s0 : Nat) (x1 : Int32) (x2 : Int32) (hs0 : s0 ∈ am_ST) {h : am_H} (T : am_TP h.2.2) {r : Int32} (hf : f_X7_bulkiestIn s0 x1 x2 h = some r) : am_G X d 7 false cX7_bulkiestIn (some .int) 0 [some (.ref s0), some (.int x1), some (.int x2), none, none, none] [] (am_SH, h) (some (.int r), (am_SH, h)) := by
  unfold f_X7_bulkiestIn at hf
  refine r_iconst (v := (-1)) dX7_bulkiestIn_0 rfl ?_
  refine r_loc (L' := [some (.ref s0), some (.int x1), some (.int x2), some (.int (-1)), none, none]) dX7_bulkiestIn_1 rfl ?_
  refine r_iconst (v := 0) dX7_bulkiestIn_2 rfl ?_
  refine r_loc (L' := [some (.ref s0), some (.int x1), some (.int x2), some (.int (-1)), some (.int 0), none]) dX7_bulkiestIn_3 rfl ?_
  refine r_iconst (v := 0) dX7_bulkiestIn_5 rfl ?_
  refine r_loc (L' := [some (.ref s0), some (.int x1), some (.int x2), some (.int (-1)), some (.int 0), some (.int 0)]) dX7_bulkiestIn_6 rfl ?_
  refine rl_X7_bulkiestIn_8 (by omega) s0 x1 x2 hs0 T  4000 (-1) 0 0  hf
def f_X7_coupleIn (s0 : Nat) (x1 : Int32) (h : am_H) : Option (Int32) := cal (f_X7_bulkiestIn s0 x1 (-1) h) fun v2 => cal (f_X7_bulkiestIn s0 x1 v2 h) fun v5 => if v2 = (-1) then some (-1) else if v5 = (-1) then some (-1) else some ((v2 * 8) + v5)
theorem rf_X7_coupleIn {X : am_X} {d : Nat} (hd : 1 ≤ d) (s0 : Nat) (x1 : Int32) (hs0 : s0 ∈ am_ST) {h : am_H} (T : am_TP h.2.2) {r : Int32} (hf : f_X7_coupleIn s0 x1 h = some r) : am_G X d 7 false cX7_coupleIn (some .int) 0 [some (.ref s0), some (.int x1), none, none] [] (am_SH, h) (some (.int r), (am_SH, h)) := by
  unfold f_X7_coupleIn at hf
  obtain ⟨d, rfl⟩ : ∃ e, d = e + 1 := ⟨d - 1, by omega⟩
  refine r_loc dX7_coupleIn_0 rfl ?_
  refine r_loc dX7_coupleIn_1 rfl ?_
  refine r_iconst (v := (-1)) dX7_coupleIn_2 rfl ?_
  obtain ⟨v2, c1, hf⟩ := cal_inv hf
  have g3 := rf_X7_bulkiestIn (X := X) (d := d) (by omega) s0 x1 (-1) hs0 T c1
  refine r_virt (pre := [.int (-1), .int x1]) (rest := []) dX7_coupleIn_3 ct_7_104 rfl ((sh_S hs0)) (Nat.le_of_ble_eq_true rfl) (Nat.le_of_ble_eq_true rfl) g3 ?_
  refine r_loc (L' := [some (.ref s0), some (.int x1), some (.int v2), none]) dX7_coupleIn_6 rfl ?_
  refine r_loc dX7_coupleIn_7 rfl ?_
  refine r_loc dX7_coupleIn_8 rfl ?_
  refine r_loc dX7_coupleIn_9 rfl ?_
  obtain ⟨v5, c4, hf⟩ := cal_inv hf
  have g6 := rf_X7_bulkiestIn (X := X) (d := d) (by omega) s0 x1 v2 hs0 T c4
  refine r_virt (pre := [.int v2, .int x1]) (rest := []) dX7_coupleIn_10 ct_7_104 rfl ((sh_S hs0)) (Nat.le_of_ble_eq_true rfl) (Nat.le_of_ble_eq_true rfl) g6 ?_
  refine r_loc (L' := [some (.ref s0), some (.int x1), some (.int v2), some (.int v5)]) dX7_coupleIn_13 rfl ?_
  refine r_loc dX7_coupleIn_14 rfl ?_
  refine r_iconst (v := (-1)) dX7_coupleIn_15 rfl ?_
  refine r_eq (q := 24) dX7_coupleIn_16 rfl hf (fun hf => ?_) (fun hf => ?_)
  · refine r_iconst (v := (-1)) dX7_coupleIn_24 rfl ?_
    refine r_goto (q := 34) dX7_coupleIn_25 rfl ?_
    cases hf
    exact r_ri T dX7_coupleIn_34
  · refine r_loc dX7_coupleIn_19 rfl ?_
    refine r_iconst (v := (-1)) dX7_coupleIn_20 rfl ?_
    refine r_ne (q := 28) dX7_coupleIn_21 rfl hf (fun hf => ?_) (fun hf => ?_)
    · refine r_loc dX7_coupleIn_28 rfl ?_
      refine r_bipush (v := 8) dX7_coupleIn_29 rfl ?_
      refine r_alu dX7_coupleIn_31 rfl ?_
      refine r_loc dX7_coupleIn_32 rfl ?_
      refine r_alu dX7_coupleIn_33 rfl ?_
      cases hf
      exact r_ri T dX7_coupleIn_34
    · refine r_iconst (v := (-1)) dX7_coupleIn_24 rfl ?_
      refine r_goto (q := 34) dX7_coupleIn_25 rfl ?_
      cases hf
      exact r_ri T dX7_coupleIn_34
def f_X11_couple (x1 : Int32) (h : am_H) : Option (Int32) := cal (f_X4_hasRoom_4 x1 h) fun v2 => if v2 = 0 then some (-1) else cal (f_X7_coupleIn 27 x1 h) fun v5 => some v5
theorem rf_X11_couple {X : am_X} {d : Nat} (hd : 2 ≤ d) (x1 : Int32) {h : am_H} (T : am_TP h.2.2) {r : Int32} (hf : f_X11_couple x1 h = some r) : am_G X d 11 false cX11_couple (some .int) 0 [some (.ref 0), some (.int x1)] [] (am_SH, h) (some (.int r), (am_SH, h)) := by
  unfold f_X11_couple at hf
  obtain ⟨d, rfl⟩ : ∃ e, d = e + 1 := ⟨d - 1, by omega⟩
  refine r_loc dX11_couple_0 rfl ?_
  refine r_getR dX11_couple_1 fl_11_19 sh_0 (Or.inl ⟨_, rfl⟩) (tp_0_1 T) ?_
  refine r_loc dX11_couple_4 rfl ?_
  obtain ⟨v2, c1, hf⟩ := cal_inv hf
  have g3 := rf_X4_hasRoom_4 (X := X) (d := d) (by omega) x1 T c1
  refine r_virt (pre := [.int x1]) (rest := []) dX11_couple_5 ct_11_123 rfl (sh_4) (Nat.le_of_ble_eq_true rfl) (Nat.le_of_ble_eq_true rfl) g3 ?_
  refine r_eq0 (q := 22) dX11_couple_8 rfl hf (fun hf => ?_) (fun hf => ?_)
  · refine r_iconst (v := (-1)) dX11_couple_22 rfl ?_
    cases hf
    exact r_ri T dX11_couple_23
  · refine r_loc dX11_couple_11 rfl ?_
    refine r_getR dX11_couple_12 fl_11_37 sh_0 (Or.inl ⟨_, rfl⟩) (tp_0_3 T) ?_
    refine r_loc dX11_couple_15 rfl ?_
    obtain ⟨v5, c4, hf⟩ := cal_inv hf
    have g6 := rf_X7_coupleIn (X := X) (d := d) (by omega) 27 x1 st_27 T c4
    refine r_virt (pre := [.int x1]) (rest := []) dX11_couple_16 ct_11_170 rfl ((sh_S st_27)) (Nat.le_of_ble_eq_true rfl) (Nat.le_of_ble_eq_true rfl) g6 ?_
    refine r_goto (q := 23) dX11_couple_19 rfl ?_
    cases hf
    exact r_ri T dX11_couple_23
def lp_X10_listen_2 (s1 : Nat) (p2 : Int32) : Nat → Int32 → am_H → Option (am_H)
  | 0, _, _ => none
  | n + 1, x3, h => if x3 < 8 then rdI h (s1 + 1) 8 x3 fun v1 => if v1 = 0 then lp_X10_listen_2 s1 p2 n (x3 + 1) h else rdI h (s1 + 4) 8 x3 fun v2 => if 0 < v2 then rdI h (s1 + 4) 8 x3 fun v16 => wrI h (s1 + 4) 8 x3 (v16 - 1) fun h17 => wrI h17 (s1 + 5) 8 x3 0 fun h20 => lp_X10_listen_2 s1 p2 n (x3 + 1) h20 else rdI h (s1 + 5) 8 x3 fun v3 => wrI h (s1 + 5) 8 x3 (v3 + 1) fun h4 => rdI h4 (s1 + 5) 8 x3 fun v7 => if v7 < p2 then lp_X10_listen_2 s1 p2 n (x3 + 1) h4 else cal (f_X7_remove s1 x3 h4) fun h9 => bnd (h9.1 35 3) fun v12 => ptI h9 35 3 (v12 ||| ((1 : Int32) <<< (x3 &&& 31))) fun h13 => lp_X10_listen_2 s1 p2 n (x3 + 1) h13 else some h
def f_X10_listen (s1 : Nat) (x2 : Int32) (h : am_H) : Option (am_H) := lp_X10_listen_2 s1 x2  4000 0 h
theorem rl_X10_listen_2 {X : am_X} {d : Nat} (hd : 1 ≤ d) (s1 : Nat) (p2 : Int32) (hs1 : s1 ∈ am_ST) {r : am_H} : ∀ (n : Nat) (x3 : Int32) (h : am_H), am_TP h.2.2 → lp_X10_listen_2 s1 p2 n x3 h = some r → am_G X d 10 false cX10_listen none 2 [some (.ref 35), some (.ref s1), some (.int p2), some (.int x3)] [] (am_SH, h) (none, (am_SH, r)) := by
  obtain ⟨d, rfl⟩ : ∃ e, d = e + 1 := ⟨d - 1, by omega⟩
  intro n
  induction n with
  | zero => intro x3 h T hf; cases hf
  | succ n ih =>
    intro x3 h T hf
    rw [lp_X10_listen_2] at hf
    refine r_loc dX10_listen_2 rfl ?_
    refine r_bipush (v := 8) dX10_listen_3 rfl ?_
    refine r_ge (q := 92) dX10_listen_5 rfl hf (fun hf => ?_) (fun hf => ?_)
    · cases hf
      exact r_ret T dX10_listen_92 rfl
    · refine r_loc dX10_listen_8 rfl ?_
      refine r_getR dX10_listen_9 fl_10_98 (sh_S hs1) (Or.inr ⟨_, rfl⟩) (tp_S_1 T hs1) ?_
      refine r_loc dX10_listen_12 rfl ?_
      refine r_iald dX10_listen_13 (sh_S_1 hs1) hf (fun v1 hf => ?_)
      refine r_ne0 (q := 20) dX10_listen_14 rfl hf (fun hf => ?_) (fun hf => ?_)
      · refine r_loc dX10_listen_20 rfl ?_
        refine r_getR dX10_listen_21 fl_10_116 (sh_S hs1) (Or.inr ⟨_, rfl⟩) (tp_S_4 T hs1) ?_
        refine r_loc dX10_listen_24 rfl ?_
        refine r_iald dX10_listen_25 (sh_S_4 hs1) hf (fun v2 hf => ?_)
        refine r_le0 (q := 49) dX10_listen_26 rfl hf (fun hf => ?_) (fun hf => ?_)
        · refine r_loc dX10_listen_49 rfl ?_
          refine r_getR dX10_listen_50 fl_10_119 (sh_S hs1) (Or.inr ⟨_, rfl⟩) (tp_S_5 T hs1) ?_
          refine r_loc dX10_listen_53 rfl ?_
          refine r_alu dX10_listen_54 rfl ?_
          refine r_iald dX10_listen_55 (sh_S_5 hs1) hf (fun v3 hf => ?_)
          refine r_iconst (v := 1) dX10_listen_56 rfl ?_
          refine r_alu dX10_listen_57 rfl ?_
          refine r_iast dX10_listen_58 (sh_S_5 hs1) hf (fun h4 e6 hf => ?_)
          have T5 := tp_eq e6 T
          refine r_loc dX10_listen_59 rfl ?_
          refine r_getR dX10_listen_60 fl_10_119 (sh_S hs1) (Or.inr ⟨_, rfl⟩) (tp_S_5 T5 hs1) ?_
          refine r_loc dX10_listen_63 rfl ?_
          refine r_iald dX10_listen_64 (sh_S_5 hs1) hf (fun v7 hf => ?_)
          refine r_loc dX10_listen_65 rfl ?_
          refine r_lt (q := 86) dX10_listen_66 rfl hf (fun hf => ?_) (fun hf => ?_)
          · refine r_loc (L' := [some (.ref 35), some (.ref s1), some (.int p2), some (.int (x3 + 1))]) dX10_listen_86 rfl ?_
            refine r_goto (q := 2) dX10_listen_89 rfl ?_
            exact ih (x3 + 1) h4 T5 hf
          · refine r_loc dX10_listen_69 rfl ?_
            refine r_loc dX10_listen_70 rfl ?_
            obtain ⟨h9, c8, hf⟩ := cal_inv hf
            have g11 := rf_X7_remove (X := X) (d := d) (by omega) s1 x3 hs1 T5 c8
            have T10 : am_TP h9.2.2 := g11.2
            refine r_virt (pre := [.int x3]) (rest := []) dX10_listen_71 ct_10_121 rfl ((sh_S hs1)) (Nat.le_of_ble_eq_true rfl) (Nat.le_of_ble_eq_true rfl) g11 ?_
            refine r_loc dX10_listen_74 rfl ?_
            refine r_alu dX10_listen_75 rfl ?_
            refine r_getI dX10_listen_76 fl_10_15 sh_35 rfl hf (fun v12 hf => ?_)
            refine r_iconst (v := 1) dX10_listen_79 rfl ?_
            refine r_loc dX10_listen_80 rfl ?_
            refine r_alu dX10_listen_81 rfl ?_
            refine r_alu dX10_listen_82 rfl ?_
            refine r_putI dX10_listen_83 fl_10_15 sh_35 ⟨rfl, rfl⟩ hf (fun h13 e15 hf => ?_)
            have T14 := tp_eq e15 T10
            refine r_loc (L' := [some (.ref 35), some (.ref s1), some (.int p2), some (.int (x3 + 1))]) dX10_listen_86 rfl ?_
            refine r_goto (q := 2) dX10_listen_89 rfl ?_
            exact ih (x3 + 1) h13 T14 hf
        · refine r_loc dX10_listen_29 rfl ?_
          refine r_getR dX10_listen_30 fl_10_116 (sh_S hs1) (Or.inr ⟨_, rfl⟩) (tp_S_4 T hs1) ?_
          refine r_loc dX10_listen_33 rfl ?_
          refine r_alu dX10_listen_34 rfl ?_
          refine r_iald dX10_listen_35 (sh_S_4 hs1) hf (fun v16 hf => ?_)
          refine r_iconst (v := 1) dX10_listen_36 rfl ?_
          refine r_alu dX10_listen_37 rfl ?_
          refine r_iast dX10_listen_38 (sh_S_4 hs1) hf (fun h17 e19 hf => ?_)
          have T18 := tp_eq e19 T
          refine r_loc dX10_listen_39 rfl ?_
          refine r_getR dX10_listen_40 fl_10_119 (sh_S hs1) (Or.inr ⟨_, rfl⟩) (tp_S_5 T18 hs1) ?_
          refine r_loc dX10_listen_43 rfl ?_
          refine r_iconst (v := 0) dX10_listen_44 rfl ?_
          refine r_iast dX10_listen_45 (sh_S_5 hs1) hf (fun h20 e22 hf => ?_)
          have T21 := tp_eq e22 T18
          refine r_goto (q := 86) dX10_listen_46 rfl ?_
          refine r_loc (L' := [some (.ref 35), some (.ref s1), some (.int p2), some (.int (x3 + 1))]) dX10_listen_86 rfl ?_
          refine r_goto (q := 2) dX10_listen_89 rfl ?_
          exact ih (x3 + 1) h20 T21 hf
      · refine r_goto (q := 86) dX10_listen_17 rfl ?_
        refine r_loc (L' := [some (.ref 35), some (.ref s1), some (.int p2), some (.int (x3 + 1))]) dX10_listen_86 rfl ?_
        refine r_goto (q := 2) dX10_listen_89 rfl ?_
        exact ih (x3 + 1) h T hf
theorem rf_X10_listen {X : am_X} {d : Nat} (hd : 1 ≤ d) (s1 : Nat) (x2 : Int32) (hs1 : s1 ∈ am_ST) {h : am_H} (T : am_TP h.2.2) {r : am_H} (hf : f_X10_listen s1 x2 h = some r) : am_G X d 10 false cX10_listen none 0 [some (.ref 35), some (.ref s1), some (.int x2), none] [] (am_SH, h) (none, (am_SH, r)) := by
  unfold f_X10_listen at hf
  obtain ⟨d, rfl⟩ : ∃ e, d = e + 1 := ⟨d - 1, by omega⟩
  refine r_iconst (v := 0) dX10_listen_0 rfl ?_
  refine r_loc (L' := [some (.ref 35), some (.ref s1), some (.int x2), some (.int 0)]) dX10_listen_1 rfl ?_
  refine rl_X10_listen_2 (by omega) s1 x2 hs1  4000 0 h T hf
def jn_X10_grow_42 (k_2 : Int32 → am_H → Option (am_H)) (s0 : Nat) (x1 : Int32) (y0 : Int32) (h : am_H) : Option (am_H) := if y0 = 0 then k_2 (x1 + 1) h else rdI h (s0 + 2) 8 x1 fun v2 => cal (f_X7_leftIn s0 v2 h) fun v4 => if v4 < 1 then k_2 (x1 + 1) h else rdI h (s0 + 1) 8 x1 fun v6 => wrI h (s0 + 1) 8 x1 (v6 + 1) fun h7 => k_2 (x1 + 1) h7
def jn_X10_grow_41 (k_2 : Int32 → am_H → Option (am_H)) (s0 : Nat) (x1 : Int32) (h : am_H) : Option (am_H) := jn_X10_grow_42 (k_2) s0 x1 0 h
def lp_X10_grow_2 (s0 : Nat) : Nat → Int32 → am_H → Option (am_H)
  | 0, _, _ => none
  | n + 1, x1, h => if x1 < 8 then rdI h (s0 + 1) 8 x1 fun v1 => if 0 < v1 then rdI h (s0 + 1) 8 x1 fun v10 => if v10 < 20 then rdI h (s0 + 5) 8 x1 fun v11 => if v11 = 0 then jn_X10_grow_42 (lp_X10_grow_2 s0 n) s0 x1 1 h else jn_X10_grow_41 (lp_X10_grow_2 s0 n) s0 x1 h else jn_X10_grow_41 (lp_X10_grow_2 s0 n) s0 x1 h else jn_X10_grow_41 (lp_X10_grow_2 s0 n) s0 x1 h else some h
def f_X10_grow (s0 : Nat) (h : am_H) : Option (am_H) := lp_X10_grow_2 s0  4000 0 h
theorem rj_X10_grow_42 {X : am_X} {d : Nat} (hd : 2 ≤ d) (k_2 : Int32 → am_H → Option (am_H)) (s0 : Nat) (x1 : Int32) (y0 : Int32) (hs0 : s0 ∈ am_ST) {h : am_H} (T : am_TP h.2.2) {r : am_H} (hk_2 : ∀ (x1 : Int32) (h : am_H), am_TP h.2.2 → k_2 x1 h = some r → am_G X d 10 false cX10_grow none 2 [some (.ref s0), some (.int x1), none] [] (am_SH, h) (none, (am_SH, r))) (hf : jn_X10_grow_42 k_2 s0 x1 y0 h = some r) : am_G X d 10 false cX10_grow none 42 [some (.ref s0), some (.int x1), none] [.int y0] (am_SH, h) (none, (am_SH, r)) := by
  obtain ⟨d, rfl⟩ : ∃ e, d = e + 1 := ⟨d - 1, by omega⟩
  unfold jn_X10_grow_42 at hf
  refine r_loc (L' := [some (.ref s0), some (.int x1), some (.int y0)]) dX10_grow_42 rfl ?_
  refine r_loc dX10_grow_43 rfl ?_
  refine r_eq0 (q := 71) dX10_grow_44 rfl hf (fun hf => ?_) (fun hf => ?_)
  · refine r_loc (L' := [some (.ref s0), some (.int (x1 + 1)), some (.int y0)]) dX10_grow_71 rfl ?_
    refine r_goto (q := 2) dX10_grow_74 rfl ?_
    refine r_weak (L := [some (.ref s0), some (.int (x1 + 1)), none]) (am_le_s (am_le_s (am_le_n am_le_0))) ?_
    exact hk_2 (x1 + 1) h T hf
  · refine r_loc dX10_grow_47 rfl ?_
    refine r_loc dX10_grow_48 rfl ?_
    refine r_getR dX10_grow_49 fl_10_69 (sh_S hs0) (Or.inr ⟨_, rfl⟩) (tp_S_2 T hs0) ?_
    refine r_loc dX10_grow_52 rfl ?_
    refine r_iald dX10_grow_53 (sh_S_2 hs0) hf (fun v2 hf => ?_)
    obtain ⟨v4, c3, hf⟩ := cal_inv hf
    have g5 := rf_X7_leftIn (X := X) (d := d) (by omega) s0 v2 hs0 T c3
    refine r_virt (pre := [.int v2]) (rest := []) dX10_grow_54 ct_10_83 rfl ((sh_S hs0)) (Nat.le_of_ble_eq_true rfl) (Nat.le_of_ble_eq_true rfl) g5 ?_
    refine r_iconst (v := 1) dX10_grow_57 rfl ?_
    refine r_lt (q := 71) dX10_grow_58 rfl hf (fun hf => ?_) (fun hf => ?_)
    · refine r_loc (L' := [some (.ref s0), some (.int (x1 + 1)), some (.int y0)]) dX10_grow_71 rfl ?_
      refine r_goto (q := 2) dX10_grow_74 rfl ?_
      refine r_weak (L := [some (.ref s0), some (.int (x1 + 1)), none]) (am_le_s (am_le_s (am_le_n am_le_0))) ?_
      exact hk_2 (x1 + 1) h T hf
    · refine r_loc dX10_grow_61 rfl ?_
      refine r_getR dX10_grow_62 fl_10_98 (sh_S hs0) (Or.inr ⟨_, rfl⟩) (tp_S_1 T hs0) ?_
      refine r_loc dX10_grow_65 rfl ?_
      refine r_alu dX10_grow_66 rfl ?_
      refine r_iald dX10_grow_67 (sh_S_1 hs0) hf (fun v6 hf => ?_)
      refine r_iconst (v := 1) dX10_grow_68 rfl ?_
      refine r_alu dX10_grow_69 rfl ?_
      refine r_iast dX10_grow_70 (sh_S_1 hs0) hf (fun h7 e9 hf => ?_)
      have T8 := tp_eq e9 T
      refine r_loc (L' := [some (.ref s0), some (.int (x1 + 1)), some (.int y0)]) dX10_grow_71 rfl ?_
      refine r_goto (q := 2) dX10_grow_74 rfl ?_
      refine r_weak (L := [some (.ref s0), some (.int (x1 + 1)), none]) (am_le_s (am_le_s (am_le_n am_le_0))) ?_
      exact hk_2 (x1 + 1) h7 T8 hf
theorem rj_X10_grow_41 {X : am_X} {d : Nat} (hd : 2 ≤ d) (k_2 : Int32 → am_H → Option (am_H)) (s0 : Nat) (x1 : Int32) (hs0 : s0 ∈ am_ST) {h : am_H} (T : am_TP h.2.2) {r : am_H} (hk_2 : ∀ (x1 : Int32) (h : am_H), am_TP h.2.2 → k_2 x1 h = some r → am_G X d 10 false cX10_grow none 2 [some (.ref s0), some (.int x1), none] [] (am_SH, h) (none, (am_SH, r))) (hf : jn_X10_grow_41 k_2 s0 x1 h = some r) : am_G X d 10 false cX10_grow none 41 [some (.ref s0), some (.int x1), none] [] (am_SH, h) (none, (am_SH, r)) := by
  obtain ⟨d, rfl⟩ : ∃ e, d = e + 1 := ⟨d - 1, by omega⟩
  unfold jn_X10_grow_41 at hf
  refine r_iconst (v := 0) dX10_grow_41 rfl ?_
  exact rj_X10_grow_42 (by omega) (k_2) s0 x1 0 hs0 T (hk_2) hf
theorem rl_X10_grow_2 {X : am_X} {d : Nat} (hd : 2 ≤ d) (s0 : Nat) (hs0 : s0 ∈ am_ST) {r : am_H} : ∀ (n : Nat) (x1 : Int32) (h : am_H), am_TP h.2.2 → lp_X10_grow_2 s0 n x1 h = some r → am_G X d 10 false cX10_grow none 2 [some (.ref s0), some (.int x1), none] [] (am_SH, h) (none, (am_SH, r)) := by
  obtain ⟨d, rfl⟩ : ∃ e, d = e + 1 := ⟨d - 1, by omega⟩
  intro n
  induction n with
  | zero => intro x1 h T hf; cases hf
  | succ n ih =>
    intro x1 h T hf
    rw [lp_X10_grow_2] at hf
    refine r_loc dX10_grow_2 rfl ?_
    refine r_bipush (v := 8) dX10_grow_3 rfl ?_
    refine r_ge (q := 77) dX10_grow_5 rfl hf (fun hf => ?_) (fun hf => ?_)
    · cases hf
      exact r_ret T dX10_grow_77 rfl
    · refine r_loc dX10_grow_8 rfl ?_
      refine r_getR dX10_grow_9 fl_10_98 (sh_S hs0) (Or.inr ⟨_, rfl⟩) (tp_S_1 T hs0) ?_
      refine r_loc dX10_grow_12 rfl ?_
      refine r_iald dX10_grow_13 (sh_S_1 hs0) hf (fun v1 hf => ?_)
      refine r_le0 (q := 41) dX10_grow_14 rfl hf (fun hf => ?_) (fun hf => ?_)
      · exact rj_X10_grow_41 (by omega) (lp_X10_grow_2 s0 n) s0 x1 hs0 T (ih) hf
      · refine r_loc dX10_grow_17 rfl ?_
        refine r_getR dX10_grow_18 fl_10_98 (sh_S hs0) (Or.inr ⟨_, rfl⟩) (tp_S_1 T hs0) ?_
        refine r_loc dX10_grow_21 rfl ?_
        refine r_iald dX10_grow_22 (sh_S_1 hs0) hf (fun v10 hf => ?_)
        refine r_bipush (v := 20) dX10_grow_23 rfl ?_
        refine r_ge (q := 41) dX10_grow_25 rfl hf (fun hf => ?_) (fun hf => ?_)
        · exact rj_X10_grow_41 (by omega) (lp_X10_grow_2 s0 n) s0 x1 hs0 T (ih) hf
        · refine r_loc dX10_grow_28 rfl ?_
          refine r_getR dX10_grow_29 fl_10_119 (sh_S hs0) (Or.inr ⟨_, rfl⟩) (tp_S_5 T hs0) ?_
          refine r_loc dX10_grow_32 rfl ?_
          refine r_iald dX10_grow_33 (sh_S_5 hs0) hf (fun v11 hf => ?_)
          refine r_ne0 (q := 41) dX10_grow_34 rfl hf (fun hf => ?_) (fun hf => ?_)
          · exact rj_X10_grow_41 (by omega) (lp_X10_grow_2 s0 n) s0 x1 hs0 T (ih) hf
          · refine r_iconst (v := 1) dX10_grow_37 rfl ?_
            refine r_goto (q := 42) dX10_grow_38 rfl ?_
            exact rj_X10_grow_42 (by omega) (lp_X10_grow_2 s0 n) s0 x1 1 hs0 T (ih) hf
theorem rf_X10_grow {X : am_X} {d : Nat} (hd : 2 ≤ d) (s0 : Nat) (hs0 : s0 ∈ am_ST) {h : am_H} (T : am_TP h.2.2) {r : am_H} (hf : f_X10_grow s0 h = some r) : am_G X d 10 false cX10_grow none 0 [some (.ref s0), none, none] [] (am_SH, h) (none, (am_SH, r)) := by
  unfold f_X10_grow at hf
  obtain ⟨d, rfl⟩ : ∃ e, d = e + 1 := ⟨d - 1, by omega⟩
  refine r_iconst (v := 0) dX10_grow_0 rfl ?_
  refine r_loc (L' := [some (.ref s0), some (.int 0), none]) dX10_grow_1 rfl ?_
  refine rl_X10_grow_2 (by omega) s0 hs0  4000 0 h T hf
def lp_X7_firstFree_2 (s0 : Nat) (h : am_H) : Nat → Int32 → Option (Int32)
  | 0, _ => none
  | n + 1, x1 => if x1 < 8 then rdI h (s0 + 1) 8 x1 fun v1 => if v1 = 0 then some x1 else lp_X7_firstFree_2 s0 h n (x1 + 1) else some (-1)
def f_X7_firstFree (s0 : Nat) (h : am_H) : Option (Int32) := lp_X7_firstFree_2 s0 h  4000 0
theorem rl_X7_firstFree_2 {X : am_X} {d : Nat} (hd : 0 ≤ d) (s0 : Nat) (hs0 : s0 ∈ am_ST) {h : am_H} (T : am_TP h.2.2) {r : Int32} : ∀ (n : Nat) (x1 : Int32) , lp_X7_firstFree_2 s0 h n x1 = some r → am_G X d 7 false cX7_firstFree (some .int) 2 [some (.ref s0), some (.int x1)] [] (am_SH, h) (some (.int r), (am_SH, h)) := by
  intro n
  induction n with
  | zero => intro x1 hf; cases hf
  | succ n ih =>
    intro x1 hf
    rw [lp_X7_firstFree_2] at hf
    refine r_loc dX7_firstFree_2 rfl ?_
    refine r_bipush (v := 8) dX7_firstFree_3 rfl ?_
    refine r_ge (q := 25) dX7_firstFree_5 rfl hf (fun hf => ?_) (fun hf => ?_)
    · refine r_iconst (v := (-1)) dX7_firstFree_25 rfl ?_
      cases hf
      exact r_ri T dX7_firstFree_26
    · refine r_loc dX7_firstFree_8 rfl ?_
      refine r_getR dX7_firstFree_9 fl_7_9 (sh_S hs0) (Or.inr ⟨_, rfl⟩) (tp_S_1 T hs0) ?_
      refine r_loc dX7_firstFree_12 rfl ?_
      refine r_iald dX7_firstFree_13 (sh_S_1 hs0) hf (fun v1 hf => ?_)
      refine r_ne0 (q := 19) dX7_firstFree_14 rfl hf (fun hf => ?_) (fun hf => ?_)
      · refine r_loc (L' := [some (.ref s0), some (.int (x1 + 1))]) dX7_firstFree_19 rfl ?_
        refine r_goto (q := 2) dX7_firstFree_22 rfl ?_
        exact ih (x1 + 1) hf
      · refine r_loc dX7_firstFree_17 rfl ?_
        cases hf
        exact r_ri T dX7_firstFree_18
theorem rf_X7_firstFree {X : am_X} {d : Nat} (hd : 0 ≤ d) (s0 : Nat) (hs0 : s0 ∈ am_ST) {h : am_H} (T : am_TP h.2.2) {r : Int32} (hf : f_X7_firstFree s0 h = some r) : am_G X d 7 false cX7_firstFree (some .int) 0 [some (.ref s0), none] [] (am_SH, h) (some (.int r), (am_SH, h)) := by
  unfold f_X7_firstFree at hf
  refine r_iconst (v := 0) dX7_firstFree_0 rfl ?_
  refine r_loc (L' := [some (.ref s0), some (.int 0)]) dX7_firstFree_1 rfl ?_
  refine rl_X7_firstFree_2 (by omega) s0 hs0 T  4000 0  hf
def f_X10_youngBulk (s0 : Nat) (x1 : Int32) (x2 : Int32) (h : am_H) : Option (Int32) := cal (f_X7_hasBoth s0 x1 x2 h) fun v2 => if v2 = 0 then some 1 else rdI h (s0 + 1) 8 x1 fun v4 => rdI h (s0 + 1) 8 x2 fun v5 => some (if 1 < ((v4 + v5) / 4) then ((v4 + v5) / 4) else 1)
theorem rf_X10_youngBulk {X : am_X} {d : Nat} (hd : 2 ≤ d) (s0 : Nat) (x1 : Int32) (x2 : Int32) (hs0 : s0 ∈ am_ST) {h : am_H} (T : am_TP h.2.2) {r : Int32} (hf : f_X10_youngBulk s0 x1 x2 h = some r) : am_G X d 10 false cX10_youngBulk (some .int) 0 [some (.ref s0), some (.int x1), some (.int x2)] [] (am_SH, h) (some (.int r), (am_SH, h)) := by
  unfold f_X10_youngBulk at hf
  obtain ⟨d, rfl⟩ : ∃ e, d = e + 1 := ⟨d - 1, by omega⟩
  refine r_loc dX10_youngBulk_0 rfl ?_
  refine r_loc dX10_youngBulk_1 rfl ?_
  refine r_loc dX10_youngBulk_2 rfl ?_
  obtain ⟨v2, c1, hf⟩ := cal_inv hf
  have g3 := rf_X7_hasBoth (X := X) (d := d) (by omega) s0 x1 x2 hs0 T c1
  refine r_virt (pre := [.int x2, .int x1]) (rest := []) dX10_youngBulk_3 ct_10_89 rfl ((sh_S hs0)) (Nat.le_of_ble_eq_true rfl) (Nat.le_of_ble_eq_true rfl) g3 ?_
  refine r_eq0 (q := 31) dX10_youngBulk_6 rfl hf (fun hf => ?_) (fun hf => ?_)
  · refine r_iconst (v := 1) dX10_youngBulk_31 rfl ?_
    cases hf
    exact r_ri T dX10_youngBulk_32
  · refine r_iconst (v := 1) dX10_youngBulk_9 rfl ?_
    refine r_loc dX10_youngBulk_10 rfl ?_
    refine r_getR dX10_youngBulk_11 fl_10_98 (sh_S hs0) (Or.inr ⟨_, rfl⟩) (tp_S_1 T hs0) ?_
    refine r_loc dX10_youngBulk_14 rfl ?_
    refine r_iald dX10_youngBulk_15 (sh_S_1 hs0) hf (fun v4 hf => ?_)
    refine r_loc dX10_youngBulk_16 rfl ?_
    refine r_getR dX10_youngBulk_17 fl_10_98 (sh_S hs0) (Or.inr ⟨_, rfl⟩) (tp_S_1 T hs0) ?_
    refine r_loc dX10_youngBulk_20 rfl ?_
    refine r_iald dX10_youngBulk_21 (sh_S_1 hs0) hf (fun v5 hf => ?_)
    refine r_alu dX10_youngBulk_22 rfl ?_
    refine r_iconst (v := 4) dX10_youngBulk_23 rfl ?_
    refine r_divc dX10_youngBulk_24 (by decide) ?_
    refine r_max dX10_youngBulk_25 ct_10_111 (Nat.le_of_ble_eq_true rfl) ?_
    refine r_goto (q := 32) dX10_youngBulk_28 rfl ?_
    cases hf
    exact r_ri T dX10_youngBulk_32
def f_X10_isRipe (s1 : Nat) (x2 : Int32) (h : am_H) : Option (Int32 × am_H) := cal (f_X7_coupleIn s1 x2 h) fun v2 => if v2 = (-1) then some (0, h) else cal (f_X7_firstFree s1 h) fun v5 => if v5 = (-1) then some (0, h) else cal (f_X10_youngBulk s1 (v2 / 8) (v2 - v2 / 8 * 8) h) fun v8 => cal (f_X7_leftIn s1 x2 h) fun v11 => if v11 < v8 then some (0, h) else cal2 (f_X10_broodOf s1 (v2 / 8) (v2 - v2 / 8 * 8) h) fun v14 h16 => if 0 < v14 then some (1, h16) else some (0, h16)
theorem rf_X10_isRipe {X : am_X} {d : Nat} (hd : 4 ≤ d) (s1 : Nat) (x2 : Int32) (hs1 : s1 ∈ am_ST) {h : am_H} (T : am_TP h.2.2) {r : Int32 × am_H} (hf : f_X10_isRipe s1 x2 h = some r) : am_G X d 10 false cX10_isRipe (some .boolean) 0 [some (.ref 35), some (.ref s1), some (.int x2), none, none, none] [] (am_SH, h) (some (.int r.1), (am_SH, r.2)) := by
  unfold f_X10_isRipe at hf
  obtain ⟨d, rfl⟩ : ∃ e, d = e + 1 := ⟨d - 1, by omega⟩
  refine r_loc dX10_isRipe_0 rfl ?_
  refine r_loc dX10_isRipe_1 rfl ?_
  obtain ⟨v2, c1, hf⟩ := cal_inv hf
  have g3 := rf_X7_coupleIn (X := X) (d := d) (by omega) s1 x2 hs1 T c1
  refine r_virt (pre := [.int x2]) (rest := []) dX10_isRipe_2 ct_10_48 rfl ((sh_S hs1)) (Nat.le_of_ble_eq_true rfl) (Nat.le_of_ble_eq_true rfl) g3 ?_
  refine r_loc (L' := [some (.ref 35), some (.ref s1), some (.int x2), some (.int v2), none, none]) dX10_isRipe_5 rfl ?_
  refine r_loc dX10_isRipe_6 rfl ?_
  refine r_iconst (v := (-1)) dX10_isRipe_7 rfl ?_
  refine r_eq (q := 19) dX10_isRipe_8 rfl hf (fun hf => ?_) (fun hf => ?_)
  · refine r_iconst (v := 0) dX10_isRipe_19 rfl ?_
    cases hf
    exact r_z0 T dX10_isRipe_20
  · refine r_loc dX10_isRipe_11 rfl ?_
    obtain ⟨v5, c4, hf⟩ := cal_inv hf
    have g6 := rf_X7_firstFree (X := X) (d := d) (by omega) s1 hs1 T c4
    refine r_virt (pre := []) (rest := []) dX10_isRipe_12 ct_10_52 rfl ((sh_S hs1)) (Nat.le_of_ble_eq_true rfl) (Nat.le_of_ble_eq_true rfl) g6 ?_
    refine r_iconst (v := (-1)) dX10_isRipe_15 rfl ?_
    refine r_ne (q := 21) dX10_isRipe_16 rfl hf (fun hf => ?_) (fun hf => ?_)
    · refine r_loc dX10_isRipe_21 rfl ?_
      refine r_bipush (v := 8) dX10_isRipe_22 rfl ?_
      refine r_divc dX10_isRipe_24 (by decide) ?_
      refine r_loc (L' := [some (.ref 35), some (.ref s1), some (.int x2), some (.int v2), some (.int (v2 / 8)), none]) dX10_isRipe_25 rfl ?_
      refine r_loc dX10_isRipe_27 rfl ?_
      refine r_bipush (v := 8) dX10_isRipe_28 rfl ?_
      refine r_remc dX10_isRipe_30 (by decide) ?_
      refine r_loc (L' := [some (.ref 35), some (.ref s1), some (.int x2), some (.int v2), some (.int (v2 / 8)), some (.int (v2 - v2 / 8 * 8))]) dX10_isRipe_31 rfl ?_
      refine r_loc dX10_isRipe_33 rfl ?_
      refine r_loc dX10_isRipe_34 rfl ?_
      refine r_loc dX10_isRipe_36 rfl ?_
      obtain ⟨v8, c7, hf⟩ := cal_inv hf
      have g9 := rf_X10_youngBulk (X := X) (d := d) (by omega) s1 (v2 / 8) (v2 - v2 / 8 * 8) hs1 T c7
      refine r_stat (pre := [.int (v2 - v2 / 8 * 8), .int (v2 / 8), .ref s1]) (rest := []) dX10_isRipe_38 ct_10_79 rfl (Nat.le_of_ble_eq_true rfl) (Nat.le_of_ble_eq_true rfl) g9 ?_
      refine r_loc dX10_isRipe_41 rfl ?_
      refine r_loc dX10_isRipe_42 rfl ?_
      obtain ⟨v11, c10, hf⟩ := cal_inv hf
      have g12 := rf_X7_leftIn (X := X) (d := d) (by omega) s1 x2 hs1 T c10
      refine r_virt (pre := [.int x2]) (rest := [.int v8]) dX10_isRipe_43 ct_10_83 rfl ((sh_S hs1)) (Nat.le_of_ble_eq_true rfl) (Nat.le_of_ble_eq_true rfl) g12 ?_
      refine r_gt (q := 65) dX10_isRipe_46 rfl hf (fun hf => ?_) (fun hf => ?_)
      · refine r_iconst (v := 0) dX10_isRipe_65 rfl ?_
        cases hf
        exact r_z0 T dX10_isRipe_66
      · refine r_loc dX10_isRipe_49 rfl ?_
        refine r_loc dX10_isRipe_50 rfl ?_
        refine r_loc dX10_isRipe_51 rfl ?_
        refine r_loc dX10_isRipe_53 rfl ?_
        obtain ⟨v14, h16, c13, hf⟩ := cal2_inv hf
        have g18 := rf_X10_broodOf (X := X) (d := d) (by omega) s1 (v2 / 8) (v2 - v2 / 8 * 8) hs1 T c13
        have T17 : am_TP h16.2.2 := g18.2
        refine r_virt (pre := [.int (v2 - v2 / 8 * 8), .int (v2 / 8), .ref s1]) (rest := []) dX10_isRipe_55 ct_10_86 rfl (sh_35) (Nat.le_of_ble_eq_true rfl) (Nat.le_of_ble_eq_true rfl) g18 ?_
        refine r_le0 (q := 65) dX10_isRipe_58 rfl hf (fun hf => ?_) (fun hf => ?_)
        · refine r_iconst (v := 0) dX10_isRipe_65 rfl ?_
          cases hf
          exact r_z0 T17 dX10_isRipe_66
        · refine r_iconst (v := 1) dX10_isRipe_61 rfl ?_
          refine r_goto (q := 66) dX10_isRipe_62 rfl ?_
          cases hf
          exact r_z1 T17 dX10_isRipe_66
    · refine r_iconst (v := 0) dX10_isRipe_19 rfl ?_
      cases hf
      exact r_z0 T dX10_isRipe_20
def f_X10_bringForth (s1 : Nat) (x2 : Int32) (x3 : Int32) (h : am_H) : Option (am_H) := cal (f_X7_hasBoth s1 (x2 / 8) (x2 - x2 / 8 * 8) h) fun v2 => if v2 = 0 then some h else if x3 < 0 then some h else if x3 < 8 then bnd (h.1 s1 10) fun v4 => ptI h s1 10 (((v4 * 137) + 71) - ((v4 * 137) + 71) / 1000 * 1000) fun h5 => bnd (h5.1 s1 10) fun v8 => rdI h5 (s1 + 3) 8 (x2 / 8) fun v9 => bnd (h5.1 s1 10) fun v10 => rdI h5 (s1 + 3) 8 (x2 - x2 / 8 * 8) fun v11 => cal (f_X10_youngBulk s1 (x2 / 8) (x2 - x2 / 8 * 8) h5) fun v13 => rdI h5 (s1 + 2) 8 (x2 / 8) fun v15 => cal (f_X7_add s1 x3 v13 v15 ((v8 &&& v9) ||| ((v10 ^^^ ((-1) : Int32)) &&& v11)) h5) fun h17 => wrI h17 (s1 + 6) 8 x3 (x2 / 8) fun h20 => wrI h20 (s1 + 7) 8 x3 (x2 - x2 / 8 * 8) fun h23 => bnd (h23.1 35 2) fun v26 => ptI h23 35 2 (v26 ||| ((1 : Int32) <<< (x3 &&& 31))) fun h27 => some h27 else some h
theorem rf_X10_bringForth {X : am_X} {d : Nat} (hd : 3 ≤ d) (s1 : Nat) (x2 : Int32) (x3 : Int32) (hs1 : s1 ∈ am_ST) {h : am_H} (T : am_TP h.2.2) {r : am_H} (hf : f_X10_bringForth s1 x2 x3 h = some r) : am_G X d 10 false cX10_bringForth none 0 [some (.ref 35), some (.ref s1), some (.int x2), some (.int x3), none, none, none] [] (am_SH, h) (none, (am_SH, r)) := by
  unfold f_X10_bringForth at hf
  obtain ⟨d, rfl⟩ : ∃ e, d = e + 1 := ⟨d - 1, by omega⟩
  refine r_loc dX10_bringForth_0 rfl ?_
  refine r_bipush (v := 8) dX10_bringForth_1 rfl ?_
  refine r_divc dX10_bringForth_3 (by decide) ?_
  refine r_loc (L' := [some (.ref 35), some (.ref s1), some (.int x2), some (.int x3), some (.int (x2 / 8)), none, none]) dX10_bringForth_4 rfl ?_
  refine r_loc dX10_bringForth_6 rfl ?_
  refine r_bipush (v := 8) dX10_bringForth_7 rfl ?_
  refine r_remc dX10_bringForth_9 (by decide) ?_
  refine r_loc (L' := [some (.ref 35), some (.ref s1), some (.int x2), some (.int x3), some (.int (x2 / 8)), some (.int (x2 - x2 / 8 * 8)), none]) dX10_bringForth_10 rfl ?_
  refine r_loc dX10_bringForth_12 rfl ?_
  refine r_loc dX10_bringForth_13 rfl ?_
  refine r_loc dX10_bringForth_15 rfl ?_
  obtain ⟨v2, c1, hf⟩ := cal_inv hf
  have g3 := rf_X7_hasBoth (X := X) (d := d) (by omega) s1 (x2 / 8) (x2 - x2 / 8 * 8) hs1 T c1
  refine r_virt (pre := [.int (x2 - x2 / 8 * 8), .int (x2 / 8)]) (rest := []) dX10_bringForth_17 ct_10_89 rfl ((sh_S hs1)) (Nat.le_of_ble_eq_true rfl) (Nat.le_of_ble_eq_true rfl) g3 ?_
  refine r_eq0 (q := 33) dX10_bringForth_20 rfl hf (fun hf => ?_) (fun hf => ?_)
  · cases hf
    exact r_ret T dX10_bringForth_33 rfl
  · refine r_loc dX10_bringForth_23 rfl ?_
    refine r_lt0 (q := 33) dX10_bringForth_24 rfl hf (fun hf => ?_) (fun hf => ?_)
    · cases hf
      exact r_ret T dX10_bringForth_33 rfl
    · refine r_loc dX10_bringForth_27 rfl ?_
      refine r_bipush (v := 8) dX10_bringForth_28 rfl ?_
      refine r_lt (q := 34) dX10_bringForth_30 rfl hf (fun hf => ?_) (fun hf => ?_)
      · refine r_loc dX10_bringForth_34 rfl ?_
        refine r_loc dX10_bringForth_35 rfl ?_
        refine r_getI dX10_bringForth_36 fl_10_125 (sh_S hs1) rfl hf (fun v4 hf => ?_)
        refine r_sipush (v := 137) dX10_bringForth_39 rfl ?_
        refine r_alu dX10_bringForth_42 rfl ?_
        refine r_bipush (v := 71) dX10_bringForth_43 rfl ?_
        refine r_alu dX10_bringForth_45 rfl ?_
        refine r_sipush (v := 1000) dX10_bringForth_46 rfl ?_
        refine r_remc dX10_bringForth_49 (by decide) ?_
        refine r_putI dX10_bringForth_50 fl_10_125 (sh_S hs1) ⟨rfl, rfl⟩ hf (fun h5 e7 hf => ?_)
        have T6 := tp_eq e7 T
        refine r_loc dX10_bringForth_53 rfl ?_
        refine r_getI dX10_bringForth_54 fl_10_125 (sh_S hs1) rfl hf (fun v8 hf => ?_)
        refine r_loc dX10_bringForth_57 rfl ?_
        refine r_getR dX10_bringForth_58 fl_10_128 (sh_S hs1) (Or.inr ⟨_, rfl⟩) (tp_S_3 T6 hs1) ?_
        refine r_loc dX10_bringForth_61 rfl ?_
        refine r_iald dX10_bringForth_63 (sh_S_3 hs1) hf (fun v9 hf => ?_)
        refine r_alu dX10_bringForth_64 rfl ?_
        refine r_loc dX10_bringForth_65 rfl ?_
        refine r_getI dX10_bringForth_66 fl_10_125 (sh_S hs1) rfl hf (fun v10 hf => ?_)
        refine r_iconst (v := (-1)) dX10_bringForth_69 rfl ?_
        refine r_alu dX10_bringForth_70 rfl ?_
        refine r_loc dX10_bringForth_71 rfl ?_
        refine r_getR dX10_bringForth_72 fl_10_128 (sh_S hs1) (Or.inr ⟨_, rfl⟩) (tp_S_3 T6 hs1) ?_
        refine r_loc dX10_bringForth_75 rfl ?_
        refine r_iald dX10_bringForth_77 (sh_S_3 hs1) hf (fun v11 hf => ?_)
        refine r_alu dX10_bringForth_78 rfl ?_
        refine r_alu dX10_bringForth_79 rfl ?_
        refine r_loc (L' := [some (.ref 35), some (.ref s1), some (.int x2), some (.int x3), some (.int (x2 / 8)), some (.int (x2 - x2 / 8 * 8)), some (.int ((v8 &&& v9) ||| ((v10 ^^^ ((-1) : Int32)) &&& v11)))]) dX10_bringForth_80 rfl ?_
        refine r_loc dX10_bringForth_82 rfl ?_
        refine r_loc dX10_bringForth_83 rfl ?_
        refine r_loc dX10_bringForth_84 rfl ?_
        refine r_loc dX10_bringForth_85 rfl ?_
        refine r_loc dX10_bringForth_87 rfl ?_
        obtain ⟨v13, c12, hf⟩ := cal_inv hf
        have g14 := rf_X10_youngBulk (X := X) (d := d) (by omega) s1 (x2 / 8) (x2 - x2 / 8 * 8) hs1 T6 c12
        refine r_stat (pre := [.int (x2 - x2 / 8 * 8), .int (x2 / 8), .ref s1]) (rest := [.int x3, .ref s1]) dX10_bringForth_89 ct_10_79 rfl (Nat.le_of_ble_eq_true rfl) (Nat.le_of_ble_eq_true rfl) g14 ?_
        refine r_loc dX10_bringForth_92 rfl ?_
        refine r_getR dX10_bringForth_93 fl_10_69 (sh_S hs1) (Or.inr ⟨_, rfl⟩) (tp_S_2 T6 hs1) ?_
        refine r_loc dX10_bringForth_96 rfl ?_
        refine r_iald dX10_bringForth_98 (sh_S_2 hs1) hf (fun v15 hf => ?_)
        refine r_loc dX10_bringForth_99 rfl ?_
        obtain ⟨h17, c16, hf⟩ := cal_inv hf
        have g19 := rf_X7_add (X := X) (d := d) (by omega) s1 x3 v13 v15 ((v8 &&& v9) ||| ((v10 ^^^ ((-1) : Int32)) &&& v11)) hs1 T6 c16
        have T18 : am_TP h17.2.2 := g19.2
        refine r_virt (pre := [.int ((v8 &&& v9) ||| ((v10 ^^^ ((-1) : Int32)) &&& v11)), .int v15, .int v13, .int x3]) (rest := []) dX10_bringForth_101 ct_10_131 rfl ((sh_S hs1)) (Nat.le_of_ble_eq_true rfl) (Nat.le_of_ble_eq_true rfl) g19 ?_
        refine r_loc dX10_bringForth_104 rfl ?_
        refine r_getR dX10_bringForth_105 fl_10_135 (sh_S hs1) (Or.inr ⟨_, rfl⟩) (tp_S_6 T18 hs1) ?_
        refine r_loc dX10_bringForth_108 rfl ?_
        refine r_loc dX10_bringForth_109 rfl ?_
        refine r_iast dX10_bringForth_111 (sh_S_6 hs1) hf (fun h20 e22 hf => ?_)
        have T21 := tp_eq e22 T18
        refine r_loc dX10_bringForth_112 rfl ?_
        refine r_getR dX10_bringForth_113 fl_10_138 (sh_S hs1) (Or.inr ⟨_, rfl⟩) (tp_S_7 T21 hs1) ?_
        refine r_loc dX10_bringForth_116 rfl ?_
        refine r_loc dX10_bringForth_117 rfl ?_
        refine r_iast dX10_bringForth_119 (sh_S_7 hs1) hf (fun h23 e25 hf => ?_)
        have T24 := tp_eq e25 T21
        refine r_loc dX10_bringForth_120 rfl ?_
        refine r_alu dX10_bringForth_121 rfl ?_
        refine r_getI dX10_bringForth_122 fl_10_9 sh_35 rfl hf (fun v26 hf => ?_)
        refine r_iconst (v := 1) dX10_bringForth_125 rfl ?_
        refine r_loc dX10_bringForth_126 rfl ?_
        refine r_alu dX10_bringForth_127 rfl ?_
        refine r_alu dX10_bringForth_128 rfl ?_
        refine r_putI dX10_bringForth_129 fl_10_9 sh_35 ⟨rfl, rfl⟩ hf (fun h27 e29 hf => ?_)
        have T28 := tp_eq e29 T24
        cases hf
        exact r_ret T28 dX10_bringForth_132 rfl
      · cases hf
        exact r_ret T dX10_bringForth_33 rfl
def lp_X10_pass_22 (s1 : Nat) (k_62 : am_H → Option (am_H)) : Nat → Int32 → am_H → Option (am_H)
  | 0, _, _ => none
  | n + 1, x3, h => bnd (h.1 4 6) fun v15 => if x3 < v15 then cal2 (f_X10_isRipe s1 x3 h) fun v17 h19 => if v17 = 0 then lp_X10_pass_22 s1 k_62 n (x3 + 1) h19 else cal (f_X7_coupleIn s1 x3 h19) fun v23 => cal (f_X7_firstFree s1 h19) fun v26 => cal (f_X10_bringForth s1 v23 v26 h19) fun h29 => lp_X10_pass_22 s1 k_62 n (x3 + 1) h29 else k_62  h
def f_X10_pass (s1 : Nat) (x2 : Int32) (h : am_H) : Option (am_H) := ptI h 35 2 0 fun h1 => ptI h1 35 3 0 fun h4 => cal (f_X10_listen s1 x2 h4) fun h8 => cal (f_X10_grow s1 h8) fun h12 => lp_X10_pass_22 s1 (fun h32 => bnd (h32.1 s1 9) fun v34 => ptI h32 s1 9 (v34 + 1) fun h35 => some h35) 4000 0 h12
theorem rl_X10_pass_22 {X : am_X} {d : Nat} (hd : 5 ≤ d) (s1 : Nat) (hs1 : s1 ∈ am_ST) (k_62 : am_H → Option (am_H)) {r : am_H} (hk_62 : ∀ (h : am_H), am_TP h.2.2 → k_62  h = some r → am_G X d 10 false cX10_pass none 62 [none, some (.ref s1), none, none] [] (am_SH, h) (none, (am_SH, r))) : ∀ (n : Nat) (x3 : Int32) (h : am_H), am_TP h.2.2 → lp_X10_pass_22 s1 k_62 n x3 h = some r → am_G X d 10 false cX10_pass none 22 [some (.ref 35), some (.ref s1), none, some (.int x3)] [] (am_SH, h) (none, (am_SH, r)) := by
  obtain ⟨d, rfl⟩ : ∃ e, d = e + 1 := ⟨d - 1, by omega⟩
  intro n
  induction n with
  | zero => intro x3 h T hf; cases hf
  | succ n ih =>
    intro x3 h T hf
    rw [lp_X10_pass_22] at hf
    refine r_loc dX10_pass_22 rfl ?_
    refine r_loc dX10_pass_23 rfl ?_
    refine r_getR dX10_pass_24 fl_10_18 sh_35 (Or.inl ⟨_, rfl⟩) (tp_35_0 T) ?_
    refine r_getI dX10_pass_27 fl_10_39 sh_4 rfl hf (fun v15 hf => ?_)
    refine r_ge (q := 62) dX10_pass_30 rfl hf (fun hf => ?_) (fun hf => ?_)
    · refine r_weak (L := [none, some (.ref s1), none, none]) (am_le_n (am_le_s (am_le_n (am_le_n am_le_0)))) ?_
      exact hk_62  h T hf
    · refine r_loc dX10_pass_33 rfl ?_
      refine r_loc dX10_pass_34 rfl ?_
      refine r_loc dX10_pass_35 rfl ?_
      obtain ⟨v17, h19, c16, hf⟩ := cal2_inv hf
      have g21 := rf_X10_isRipe (X := X) (d := d) (by omega) s1 x3 hs1 T c16
      have T20 : am_TP h19.2.2 := g21.2
      refine r_virt (pre := [.int x3, .ref s1]) (rest := []) dX10_pass_36 ct_10_44 rfl (sh_35) (Nat.le_of_ble_eq_true rfl) (Nat.le_of_ble_eq_true rfl) g21 ?_
      refine r_eq0 (q := 56) dX10_pass_39 rfl hf (fun hf => ?_) (fun hf => ?_)
      · refine r_loc (L' := [some (.ref 35), some (.ref s1), none, some (.int (x3 + 1))]) dX10_pass_56 rfl ?_
        refine r_goto (q := 22) dX10_pass_59 rfl ?_
        exact ih (x3 + 1) h19 T20 hf
      · refine r_loc dX10_pass_42 rfl ?_
        refine r_loc dX10_pass_43 rfl ?_
        refine r_loc dX10_pass_44 rfl ?_
        refine r_loc dX10_pass_45 rfl ?_
        obtain ⟨v23, c22, hf⟩ := cal_inv hf
        have g24 := rf_X7_coupleIn (X := X) (d := d) (by omega) s1 x3 hs1 T20 c22
        refine r_virt (pre := [.int x3]) (rest := [.ref s1, .ref 35]) dX10_pass_46 ct_10_48 rfl ((sh_S hs1)) (Nat.le_of_ble_eq_true rfl) (Nat.le_of_ble_eq_true rfl) g24 ?_
        refine r_loc dX10_pass_49 rfl ?_
        obtain ⟨v26, c25, hf⟩ := cal_inv hf
        have g27 := rf_X7_firstFree (X := X) (d := d) (by omega) s1 hs1 T20 c25
        refine r_virt (pre := []) (rest := [.int v23, .ref s1, .ref 35]) dX10_pass_50 ct_10_52 rfl ((sh_S hs1)) (Nat.le_of_ble_eq_true rfl) (Nat.le_of_ble_eq_true rfl) g27 ?_
        obtain ⟨h29, c28, hf⟩ := cal_inv hf
        have g31 := rf_X10_bringForth (X := X) (d := d) (by omega) s1 v23 v26 hs1 T20 c28
        have T30 : am_TP h29.2.2 := g31.2
        refine r_virt (pre := [.int v26, .int v23, .ref s1]) (rest := []) dX10_pass_53 ct_10_56 rfl (sh_35) (Nat.le_of_ble_eq_true rfl) (Nat.le_of_ble_eq_true rfl) g31 ?_
        refine r_loc (L' := [some (.ref 35), some (.ref s1), none, some (.int (x3 + 1))]) dX10_pass_56 rfl ?_
        refine r_goto (q := 22) dX10_pass_59 rfl ?_
        exact ih (x3 + 1) h29 T30 hf
theorem rf_X10_pass {X : am_X} {d : Nat} (hd : 5 ≤ d) (s1 : Nat) (x2 : Int32) (hs1 : s1 ∈ am_ST) {h : am_H} (T : am_TP h.2.2) {r : am_H} (hf : f_X10_pass s1 x2 h = some r) : am_G X d 10 false cX10_pass none 0 [some (.ref 35), some (.ref s1), some (.int x2), none] [] (am_SH, h) (none, (am_SH, r)) := by
  unfold f_X10_pass at hf
  obtain ⟨d, rfl⟩ : ∃ e, d = e + 1 := ⟨d - 1, by omega⟩
  refine r_loc dX10_pass_0 rfl ?_
  refine r_iconst (v := 0) dX10_pass_1 rfl ?_
  refine r_putI dX10_pass_2 fl_10_9 sh_35 ⟨rfl, rfl⟩ hf (fun h1 e3 hf => ?_)
  have T2 := tp_eq e3 T
  refine r_loc dX10_pass_5 rfl ?_
  refine r_iconst (v := 0) dX10_pass_6 rfl ?_
  refine r_putI dX10_pass_7 fl_10_15 sh_35 ⟨rfl, rfl⟩ hf (fun h4 e6 hf => ?_)
  have T5 := tp_eq e6 T2
  refine r_loc dX10_pass_10 rfl ?_
  refine r_loc dX10_pass_11 rfl ?_
  refine r_loc dX10_pass_12 rfl ?_
  obtain ⟨h8, c7, hf⟩ := cal_inv hf
  have g10 := rf_X10_listen (X := X) (d := d) (by omega) s1 x2 hs1 T5 c7
  have T9 : am_TP h8.2.2 := g10.2
  refine r_virt (pre := [.int x2, .ref s1]) (rest := []) dX10_pass_13 ct_10_31 rfl (sh_35) (Nat.le_of_ble_eq_true rfl) (Nat.le_of_ble_eq_true rfl) g10 ?_
  refine r_loc dX10_pass_16 rfl ?_
  obtain ⟨h12, c11, hf⟩ := cal_inv hf
  have g14 := rf_X10_grow (X := X) (d := d) (by omega) s1 hs1 T9 c11
  have T13 : am_TP h12.2.2 := g14.2
  refine r_stat (pre := [.ref s1]) (rest := []) dX10_pass_17 ct_10_35 rfl (Nat.le_of_ble_eq_true rfl) (Nat.le_of_ble_eq_true rfl) g14 ?_
  refine r_iconst (v := 0) dX10_pass_20 rfl ?_
  refine r_loc (L' := [some (.ref 35), some (.ref s1), some (.int x2), some (.int 0)]) dX10_pass_21 rfl ?_
  refine r_weak (L := [some (.ref 35), some (.ref s1), none, some (.int 0)]) (am_le_s (am_le_s (am_le_n (am_le_s am_le_0)))) ?_
  refine rl_X10_pass_22 (by omega) s1 hs1 _ ?_ 4000 0 h12 T13 hf
  · intro h32 T33 hf
    refine r_loc dX10_pass_62 rfl ?_
    refine r_alu dX10_pass_63 rfl ?_
    refine r_getI dX10_pass_64 fl_10_60 (sh_S hs1) rfl hf (fun v34 hf => ?_)
    refine r_iconst (v := 1) dX10_pass_67 rfl ?_
    refine r_alu dX10_pass_68 rfl ?_
    refine r_putI dX10_pass_69 fl_10_60 (sh_S hs1) ⟨rfl, rfl⟩ hf (fun h35 e37 hf => ?_)
    have T36 := tp_eq e37 T33
    cases hf
    exact r_ret T36 dX10_pass_72 rfl
def lp_X0_dropOldest_9 (s1 : Nat) (k_35 : am_H → Option (am_H)) : Nat → Int32 → am_H → Option (am_H)
  | 0, _, _ => none
  | n + 1, x2, h => if x2 < 40 then rdR h 45 41 (x2 + 1) fun u3 => wrR h 45 41 x2 u3 fun h5 => lp_X0_dropOldest_9 s1 k_35 n (x2 + 1) h5 else k_35  h
def f_X0_dropOldest  (h : am_H) : Option (am_H) := rdR h 45 41 0 fun u1 => lp_X0_dropOldest_9 u1 (fun h8 => wrR h8 45 41 40 u1 fun h10 => some h10) 4000 0 h
theorem rl_X0_dropOldest_9 {X : am_X} {d : Nat} (hd : 0 ≤ d) (s1 : Nat) (hs1 : s1 ∈ am_ST) (k_35 : am_H → Option (am_H)) {r : am_H} (hk_35 : ∀ (h : am_H), am_TP h.2.2 → k_35  h = some r → am_G X d 0 false cX0_dropOldest none 35 [some (.ref 44), some (.ref s1), none] [] (am_SH, h) (none, (am_SH, r))) : ∀ (n : Nat) (x2 : Int32) (h : am_H), am_TP h.2.2 → lp_X0_dropOldest_9 s1 k_35 n x2 h = some r → am_G X d 0 false cX0_dropOldest none 9 [some (.ref 44), some (.ref s1), some (.int x2)] [] (am_SH, h) (none, (am_SH, r)) := by
  intro n
  induction n with
  | zero => intro x2 h T hf; cases hf
  | succ n ih =>
    intro x2 h T hf
    rw [lp_X0_dropOldest_9] at hf
    refine r_loc dX0_dropOldest_9 rfl ?_
    refine r_bipush (v := 40) dX0_dropOldest_10 rfl ?_
    refine r_ge (q := 35) dX0_dropOldest_12 rfl hf (fun hf => ?_) (fun hf => ?_)
    · refine r_weak (L := [some (.ref 44), some (.ref s1), none]) (am_le_s (am_le_s (am_le_n am_le_0))) ?_
      exact hk_35  h T hf
    · refine r_loc dX0_dropOldest_15 rfl ?_
      refine r_getR dX0_dropOldest_16 fl_0_11 sh_44 (Or.inr ⟨_, rfl⟩) (tp_44_0 T) ?_
      refine r_loc dX0_dropOldest_19 rfl ?_
      refine r_loc dX0_dropOldest_20 rfl ?_
      refine r_getR dX0_dropOldest_21 fl_0_11 sh_44 (Or.inr ⟨_, rfl⟩) (tp_44_0 T) ?_
      refine r_loc dX0_dropOldest_24 rfl ?_
      refine r_iconst (v := 1) dX0_dropOldest_25 rfl ?_
      refine r_alu dX0_dropOldest_26 rfl ?_
      refine r_aald dX0_dropOldest_27 sh_45 hf (fun u3 hin hy hf => ?_)
      have q4 := tp_kept_45 T hin hy
      refine r_aast dX0_dropOldest_28 sh_45 (sh_S q4) hf (fun h5 hin e7 hf => ?_)
      have T6 := tp_set e7 T hin q4
      refine r_loc (L' := [some (.ref 44), some (.ref s1), some (.int (x2 + 1))]) dX0_dropOldest_29 rfl ?_
      refine r_goto (q := 9) dX0_dropOldest_32 rfl ?_
      exact ih (x2 + 1) h5 T6 hf
theorem rf_X0_dropOldest {X : am_X} {d : Nat} (hd : 0 ≤ d)  {h : am_H} (T : am_TP h.2.2) {r : am_H} (hf : f_X0_dropOldest  h = some r) : am_G X d 0 false cX0_dropOldest none 0 [some (.ref 44), none, none] [] (am_SH, h) (none, (am_SH, r)) := by
  unfold f_X0_dropOldest at hf
  refine r_loc dX0_dropOldest_0 rfl ?_
  refine r_getR dX0_dropOldest_1 fl_0_11 sh_44 (Or.inr ⟨_, rfl⟩) (tp_44_0 T) ?_
  refine r_iconst (v := 0) dX0_dropOldest_4 rfl ?_
  refine r_aald dX0_dropOldest_5 sh_45 hf (fun u1 hin hy hf => ?_)
  have q2 := tp_kept_45 T hin hy
  refine r_loc (L' := [some (.ref 44), some (.ref u1), none]) dX0_dropOldest_6 rfl ?_
  refine r_iconst (v := 0) dX0_dropOldest_7 rfl ?_
  refine r_loc (L' := [some (.ref 44), some (.ref u1), some (.int 0)]) dX0_dropOldest_8 rfl ?_
  refine rl_X0_dropOldest_9 (by omega) u1 q2 _ ?_ 4000 0 h T hf
  · intro h8 T9 hf
    refine r_loc dX0_dropOldest_35 rfl ?_
    refine r_getR dX0_dropOldest_36 fl_0_11 sh_44 (Or.inr ⟨_, rfl⟩) (tp_44_0 T9) ?_
    refine r_bipush (v := 40) dX0_dropOldest_39 rfl ?_
    refine r_loc dX0_dropOldest_41 rfl ?_
    refine r_aast dX0_dropOldest_42 sh_45 (sh_S q2) hf (fun h10 hin e12 hf => ?_)
    have T11 := tp_set e12 T9 hin q2
    cases hf
    exact r_ret T11 dX0_dropOldest_43 rfl
def jn_X0_keep_26 (s1 : Nat) (h : am_H) : Option (am_H) := bnd (h.1 44 1) fun v6 => ptI h 44 2 v6 fun h7 => bnd (h7.1 44 1) fun v10 => cal (f_X0_write v10 s1 h7) fun h12 => some h12
def f_X0_keep (s1 : Nat) (h : am_H) : Option (am_H) := bnd (h.1 44 1) fun v1 => if v1 < 40 then bnd (h.1 44 1) fun v15 => ptI h 44 1 (v15 + 1) fun h16 => jn_X0_keep_26 s1 h16 else cal (f_X0_dropOldest h) fun h3 => jn_X0_keep_26 s1 h3
theorem rj_X0_keep_26 {X : am_X} {d : Nat} (hd : 3 ≤ d) (s1 : Nat) (hs1 : s1 ∈ am_ST) {h : am_H} (T : am_TP h.2.2) {r : am_H} (hf : jn_X0_keep_26 s1 h = some r) : am_G X d 0 false cX0_keep none 26 [some (.ref 44), some (.ref s1)] [] (am_SH, h) (none, (am_SH, r)) := by
  obtain ⟨d, rfl⟩ : ∃ e, d = e + 1 := ⟨d - 1, by omega⟩
  unfold jn_X0_keep_26 at hf
  refine r_loc dX0_keep_26 rfl ?_
  refine r_loc dX0_keep_27 rfl ?_
  refine r_getI dX0_keep_28 fl_0_17 sh_44 rfl hf (fun v6 hf => ?_)
  refine r_putI dX0_keep_31 fl_0_21 sh_44 ⟨rfl, rfl⟩ hf (fun h7 e9 hf => ?_)
  have T8 := tp_eq e9 T
  refine r_loc dX0_keep_34 rfl ?_
  refine r_loc dX0_keep_35 rfl ?_
  refine r_getI dX0_keep_36 fl_0_17 sh_44 rfl hf (fun v10 hf => ?_)
  refine r_loc dX0_keep_39 rfl ?_
  obtain ⟨h12, c11, hf⟩ := cal_inv hf
  have g14 := rf_X0_write (X := X) (d := d) (by omega) v10 s1 hs1 T8 c11
  have T13 : am_TP h12.2.2 := g14.2
  refine r_virt (pre := [.ref s1, .int v10]) (rest := []) dX0_keep_40 ct_0_27 rfl (sh_44) (Nat.le_of_ble_eq_true rfl) (Nat.le_of_ble_eq_true rfl) g14 ?_
  cases hf
  exact r_ret T13 dX0_keep_43 rfl
theorem rf_X0_keep {X : am_X} {d : Nat} (hd : 3 ≤ d) (s1 : Nat) (hs1 : s1 ∈ am_ST) {h : am_H} (T : am_TP h.2.2) {r : am_H} (hf : f_X0_keep s1 h = some r) : am_G X d 0 false cX0_keep none 0 [some (.ref 44), some (.ref s1)] [] (am_SH, h) (none, (am_SH, r)) := by
  unfold f_X0_keep at hf
  obtain ⟨d, rfl⟩ : ∃ e, d = e + 1 := ⟨d - 1, by omega⟩
  refine r_loc dX0_keep_0 rfl ?_
  refine r_getI dX0_keep_1 fl_0_17 sh_44 rfl hf (fun v1 hf => ?_)
  refine r_bipush (v := 40) dX0_keep_4 rfl ?_
  refine r_ge (q := 22) dX0_keep_6 rfl hf (fun hf => ?_) (fun hf => ?_)
  · refine r_loc dX0_keep_22 rfl ?_
    obtain ⟨h3, c2, hf⟩ := cal_inv hf
    have g5 := rf_X0_dropOldest (X := X) (d := d) (by omega) T c2
    have T4 : am_TP h3.2.2 := g5.2
    refine r_virt (pre := []) (rest := []) dX0_keep_23 ct_0_31 rfl (sh_44) (Nat.le_of_ble_eq_true rfl) (Nat.le_of_ble_eq_true rfl) g5 ?_
    exact rj_X0_keep_26 (by omega) s1 hs1 T4 hf
  · refine r_loc dX0_keep_9 rfl ?_
    refine r_alu dX0_keep_10 rfl ?_
    refine r_getI dX0_keep_11 fl_0_17 sh_44 rfl hf (fun v15 hf => ?_)
    refine r_iconst (v := 1) dX0_keep_14 rfl ?_
    refine r_alu dX0_keep_15 rfl ?_
    refine r_putI dX0_keep_16 fl_0_17 sh_44 ⟨rfl, rfl⟩ hf (fun h16 e18 hf => ?_)
    have T17 := tp_eq e18 T
    refine r_goto (q := 26) dX0_keep_19 rfl ?_
    exact rj_X0_keep_26 (by omega) s1 hs1 T17 hf
def f_X11_year  (h : am_H) : Option (Int32 × am_H) := bnd (h.1 27 9) fun v1 => if v1 < 999 then bnd (h.1 4 8) fun v2 => cal (f_X10_pass 27 v2 h) fun h4 => cal (f_X0_keep 27 h4) fun h8 => bnd (h8.1 35 2) fun v11 => some (v11, h8) else some ((-1), h)
theorem rf_X11_year {X : am_X} {d : Nat} (hd : 6 ≤ d)  {h : am_H} (T : am_TP h.2.2) {r : Int32 × am_H} (hf : f_X11_year  h = some r) : am_G X d 11 false cX11_year (some .int) 0 [some (.ref 0)] [] (am_SH, h) (some (.int r.1), (am_SH, r.2)) := by
  unfold f_X11_year at hf
  obtain ⟨d, rfl⟩ : ∃ e, d = e + 1 := ⟨d - 1, by omega⟩
  refine r_loc dX11_year_0 rfl ?_
  refine r_getR dX11_year_1 fl_11_37 sh_0 (Or.inl ⟨_, rfl⟩) (tp_0_3 T) ?_
  refine r_getI dX11_year_4 fl_11_173 (sh_S st_27) rfl hf (fun v1 hf => ?_)
  refine r_sipush (v := 999) dX11_year_7 rfl ?_
  refine r_lt (q := 15) dX11_year_10 rfl hf (fun hf => ?_) (fun hf => ?_)
  · refine r_loc dX11_year_15 rfl ?_
    refine r_getR dX11_year_16 fl_11_44 sh_0 (Or.inl ⟨_, rfl⟩) (tp_0_4 T) ?_
    refine r_loc dX11_year_19 rfl ?_
    refine r_getR dX11_year_20 fl_11_37 sh_0 (Or.inl ⟨_, rfl⟩) (tp_0_3 T) ?_
    refine r_loc dX11_year_23 rfl ?_
    refine r_getR dX11_year_24 fl_11_19 sh_0 (Or.inl ⟨_, rfl⟩) (tp_0_1 T) ?_
    refine r_getI dX11_year_27 fl_11_176 sh_4 rfl hf (fun v2 hf => ?_)
    obtain ⟨h4, c3, hf⟩ := cal_inv hf
    have g6 := rf_X10_pass (X := X) (d := d) (by omega) 27 v2 st_27 T c3
    have T5 : am_TP h4.2.2 := g6.2
    refine r_virt (pre := [.int v2, .ref 27]) (rest := []) dX11_year_30 ct_11_178 rfl (sh_35) (Nat.le_of_ble_eq_true rfl) (Nat.le_of_ble_eq_true rfl) g6 ?_
    refine r_loc dX11_year_33 rfl ?_
    refine r_getR dX11_year_34 fl_11_51 sh_0 (Or.inl ⟨_, rfl⟩) (tp_0_5 T5) ?_
    refine r_loc dX11_year_37 rfl ?_
    refine r_getR dX11_year_38 fl_11_37 sh_0 (Or.inl ⟨_, rfl⟩) (tp_0_3 T5) ?_
    obtain ⟨h8, c7, hf⟩ := cal_inv hf
    have g10 := rf_X0_keep (X := X) (d := d) (by omega) 27 st_27 T5 c7
    have T9 : am_TP h8.2.2 := g10.2
    refine r_virt (pre := [.ref 27]) (rest := []) dX11_year_41 ct_11_182 rfl (sh_44) (Nat.le_of_ble_eq_true rfl) (Nat.le_of_ble_eq_true rfl) g10 ?_
    refine r_loc dX11_year_44 rfl ?_
    refine r_getR dX11_year_45 fl_11_44 sh_0 (Or.inl ⟨_, rfl⟩) (tp_0_4 T9) ?_
    refine r_getI dX11_year_48 fl_11_185 sh_35 rfl hf (fun v11 hf => ?_)
    cases hf
    exact r_ri T9 dX11_year_51
  · refine r_iconst (v := (-1)) dX11_year_13 rfl ?_
    cases hf
    exact r_ri T dX11_year_14
def f_X11_carry (x1 : Int32) (x2 : Int32) (h : am_H) : Option (Int32 × am_H) := cal (f_X7_has 27 x1 h) fun v2 => if v2 = 0 then some ((-1), h) else cal (f_X4_hasRoom_4 x2 h) fun v5 => if v5 = 0 then some ((-1), h) else rdI h (27 + 2) 8 x1 fun v7 => if v7 = x2 then some ((-1), h) else cal (f_X7_leftIn 27 x2 h) fun v9 => rdI h (27 + 1) 8 x1 fun v11 => if v9 < v11 then some ((-1), h) else wrI h (27 + 2) 8 x1 x2 fun h12 => cal (f_X0_keep 27 h12) fun h16 => some (v7, h16)
theorem rf_X11_carry {X : am_X} {d : Nat} (hd : 4 ≤ d) (x1 : Int32) (x2 : Int32) {h : am_H} (T : am_TP h.2.2) {r : Int32 × am_H} (hf : f_X11_carry x1 x2 h = some r) : am_G X d 11 false cX11_carry (some .int) 0 [some (.ref 0), some (.int x1), some (.int x2), none] [] (am_SH, h) (some (.int r.1), (am_SH, r.2)) := by
  unfold f_X11_carry at hf
  obtain ⟨d, rfl⟩ : ∃ e, d = e + 1 := ⟨d - 1, by omega⟩
  refine r_loc dX11_carry_0 rfl ?_
  refine r_getR dX11_carry_1 fl_11_37 sh_0 (Or.inl ⟨_, rfl⟩) (tp_0_3 T) ?_
  refine r_loc dX11_carry_4 rfl ?_
  obtain ⟨v2, c1, hf⟩ := cal_inv hf
  have g3 := rf_X7_has (X := X) (d := d) (by omega) 27 x1 st_27 T c1
  refine r_virt (pre := [.int x1]) (rest := []) dX11_carry_5 ct_11_137 rfl ((sh_S st_27)) (Nat.le_of_ble_eq_true rfl) (Nat.le_of_ble_eq_true rfl) g3 ?_
  refine r_eq0 (q := 22) dX11_carry_8 rfl hf (fun hf => ?_) (fun hf => ?_)
  · refine r_iconst (v := (-1)) dX11_carry_22 rfl ?_
    cases hf
    exact r_ri T dX11_carry_23
  · refine r_loc dX11_carry_11 rfl ?_
    refine r_getR dX11_carry_12 fl_11_19 sh_0 (Or.inl ⟨_, rfl⟩) (tp_0_1 T) ?_
    refine r_loc dX11_carry_15 rfl ?_
    obtain ⟨v5, c4, hf⟩ := cal_inv hf
    have g6 := rf_X4_hasRoom_4 (X := X) (d := d) (by omega) x2 T c4
    refine r_virt (pre := [.int x2]) (rest := []) dX11_carry_16 ct_11_123 rfl (sh_4) (Nat.le_of_ble_eq_true rfl) (Nat.le_of_ble_eq_true rfl) g6 ?_
    refine r_ne0 (q := 24) dX11_carry_19 rfl hf (fun hf => ?_) (fun hf => ?_)
    · refine r_loc dX11_carry_24 rfl ?_
      refine r_getR dX11_carry_25 fl_11_37 sh_0 (Or.inl ⟨_, rfl⟩) (tp_0_3 T) ?_
      refine r_getR dX11_carry_28 fl_11_143 (sh_S st_27) (Or.inr ⟨_, rfl⟩) (tp_S_2 T st_27) ?_
      refine r_loc dX11_carry_31 rfl ?_
      refine r_iald dX11_carry_32 (sh_S_2 st_27) hf (fun v7 hf => ?_)
      refine r_loc (L' := [some (.ref 0), some (.int x1), some (.int x2), some (.int v7)]) dX11_carry_33 rfl ?_
      refine r_loc dX11_carry_34 rfl ?_
      refine r_loc dX11_carry_35 rfl ?_
      refine r_eq (q := 59) dX11_carry_36 rfl hf (fun hf => ?_) (fun hf => ?_)
      · refine r_iconst (v := (-1)) dX11_carry_59 rfl ?_
        cases hf
        exact r_ri T dX11_carry_60
      · refine r_loc dX11_carry_39 rfl ?_
        refine r_getR dX11_carry_40 fl_11_37 sh_0 (Or.inl ⟨_, rfl⟩) (tp_0_3 T) ?_
        refine r_loc dX11_carry_43 rfl ?_
        obtain ⟨v9, c8, hf⟩ := cal_inv hf
        have g10 := rf_X7_leftIn (X := X) (d := d) (by omega) 27 x2 st_27 T c8
        refine r_virt (pre := [.int x2]) (rest := []) dX11_carry_44 ct_11_130 rfl ((sh_S st_27)) (Nat.le_of_ble_eq_true rfl) (Nat.le_of_ble_eq_true rfl) g10 ?_
        refine r_loc dX11_carry_47 rfl ?_
        refine r_getR dX11_carry_48 fl_11_37 sh_0 (Or.inl ⟨_, rfl⟩) (tp_0_3 T) ?_
        refine r_getR dX11_carry_51 fl_11_140 (sh_S st_27) (Or.inr ⟨_, rfl⟩) (tp_S_1 T st_27) ?_
        refine r_loc dX11_carry_54 rfl ?_
        refine r_iald dX11_carry_55 (sh_S_1 st_27) hf (fun v11 hf => ?_)
        refine r_ge (q := 61) dX11_carry_56 rfl hf (fun hf => ?_) (fun hf => ?_)
        · refine r_loc dX11_carry_61 rfl ?_
          refine r_getR dX11_carry_62 fl_11_37 sh_0 (Or.inl ⟨_, rfl⟩) (tp_0_3 T) ?_
          refine r_getR dX11_carry_65 fl_11_143 (sh_S st_27) (Or.inr ⟨_, rfl⟩) (tp_S_2 T st_27) ?_
          refine r_loc dX11_carry_68 rfl ?_
          refine r_loc dX11_carry_69 rfl ?_
          refine r_iast dX11_carry_70 (sh_S_2 st_27) hf (fun h12 e14 hf => ?_)
          have T13 := tp_eq e14 T
          refine r_loc dX11_carry_71 rfl ?_
          refine r_getR dX11_carry_72 fl_11_51 sh_0 (Or.inl ⟨_, rfl⟩) (tp_0_5 T13) ?_
          refine r_loc dX11_carry_75 rfl ?_
          refine r_getR dX11_carry_76 fl_11_37 sh_0 (Or.inl ⟨_, rfl⟩) (tp_0_3 T13) ?_
          obtain ⟨h16, c15, hf⟩ := cal_inv hf
          have g18 := rf_X0_keep (X := X) (d := d) (by omega) 27 st_27 T13 c15
          have T17 : am_TP h16.2.2 := g18.2
          refine r_virt (pre := [.ref 27]) (rest := []) dX11_carry_79 ct_11_182 rfl (sh_44) (Nat.le_of_ble_eq_true rfl) (Nat.le_of_ble_eq_true rfl) g18 ?_
          refine r_loc dX11_carry_82 rfl ?_
          cases hf
          exact r_ri T17 dX11_carry_83
        · refine r_iconst (v := (-1)) dX11_carry_59 rfl ?_
          cases hf
          exact r_ri T dX11_carry_60
    · refine r_iconst (v := (-1)) dX11_carry_22 rfl ?_
      cases hf
      exact r_ri T dX11_carry_23
def f_X11_tell (x1 : Int32) (h : am_H) : Option (Int32 × am_H) := cal (f_X7_has 27 x1 h) fun v2 => if v2 = 0 then some ((-1), h) else bnd (h.1 27 8) fun v4 => if v4 < 1 then some ((-1), h) else rdI h (27 + 4) 8 x1 fun v5 => if v5 < 9 then bnd (h.1 27 8) fun v6 => ptI h 27 8 (v6 - 1) fun h7 => rdI h7 (27 + 4) 8 x1 fun v10 => wrI h7 (27 + 4) 8 x1 (v10 + 1) fun h11 => cal (f_X0_keep 27 h11) fun h15 => rdI h15 (27 + 4) 8 x1 fun v18 => some (v18, h15) else some ((-1), h)
theorem rf_X11_tell {X : am_X} {d : Nat} (hd : 4 ≤ d) (x1 : Int32) {h : am_H} (T : am_TP h.2.2) {r : Int32 × am_H} (hf : f_X11_tell x1 h = some r) : am_G X d 11 false cX11_tell (some .int) 0 [some (.ref 0), some (.int x1)] [] (am_SH, h) (some (.int r.1), (am_SH, r.2)) := by
  unfold f_X11_tell at hf
  obtain ⟨d, rfl⟩ : ∃ e, d = e + 1 := ⟨d - 1, by omega⟩
  refine r_loc dX11_tell_0 rfl ?_
  refine r_getR dX11_tell_1 fl_11_37 sh_0 (Or.inl ⟨_, rfl⟩) (tp_0_3 T) ?_
  refine r_loc dX11_tell_4 rfl ?_
  obtain ⟨v2, c1, hf⟩ := cal_inv hf
  have g3 := rf_X7_has (X := X) (d := d) (by omega) 27 x1 st_27 T c1
  refine r_virt (pre := [.int x1]) (rest := []) dX11_tell_5 ct_11_137 rfl ((sh_S st_27)) (Nat.le_of_ble_eq_true rfl) (Nat.le_of_ble_eq_true rfl) g3 ?_
  refine r_eq0 (q := 36) dX11_tell_8 rfl hf (fun hf => ?_) (fun hf => ?_)
  · refine r_iconst (v := (-1)) dX11_tell_36 rfl ?_
    cases hf
    exact r_ri T dX11_tell_37
  · refine r_loc dX11_tell_11 rfl ?_
    refine r_getR dX11_tell_12 fl_11_37 sh_0 (Or.inl ⟨_, rfl⟩) (tp_0_3 T) ?_
    refine r_getI dX11_tell_15 fl_11_188 (sh_S st_27) rfl hf (fun v4 hf => ?_)
    refine r_iconst (v := 1) dX11_tell_18 rfl ?_
    refine r_lt (q := 36) dX11_tell_19 rfl hf (fun hf => ?_) (fun hf => ?_)
    · refine r_iconst (v := (-1)) dX11_tell_36 rfl ?_
      cases hf
      exact r_ri T dX11_tell_37
    · refine r_loc dX11_tell_22 rfl ?_
      refine r_getR dX11_tell_23 fl_11_37 sh_0 (Or.inl ⟨_, rfl⟩) (tp_0_3 T) ?_
      refine r_getR dX11_tell_26 fl_11_149 (sh_S st_27) (Or.inr ⟨_, rfl⟩) (tp_S_4 T st_27) ?_
      refine r_loc dX11_tell_29 rfl ?_
      refine r_iald dX11_tell_30 (sh_S_4 st_27) hf (fun v5 hf => ?_)
      refine r_bipush (v := 9) dX11_tell_31 rfl ?_
      refine r_lt (q := 38) dX11_tell_33 rfl hf (fun hf => ?_) (fun hf => ?_)
      · refine r_loc dX11_tell_38 rfl ?_
        refine r_getR dX11_tell_39 fl_11_37 sh_0 (Or.inl ⟨_, rfl⟩) (tp_0_3 T) ?_
        refine r_alu dX11_tell_42 rfl ?_
        refine r_getI dX11_tell_43 fl_11_188 (sh_S st_27) rfl hf (fun v6 hf => ?_)
        refine r_iconst (v := 1) dX11_tell_46 rfl ?_
        refine r_alu dX11_tell_47 rfl ?_
        refine r_putI dX11_tell_48 fl_11_188 (sh_S st_27) ⟨rfl, rfl⟩ hf (fun h7 e9 hf => ?_)
        have T8 := tp_eq e9 T
        refine r_loc dX11_tell_51 rfl ?_
        refine r_getR dX11_tell_52 fl_11_37 sh_0 (Or.inl ⟨_, rfl⟩) (tp_0_3 T8) ?_
        refine r_getR dX11_tell_55 fl_11_149 (sh_S st_27) (Or.inr ⟨_, rfl⟩) (tp_S_4 T8 st_27) ?_
        refine r_loc dX11_tell_58 rfl ?_
        refine r_alu dX11_tell_59 rfl ?_
        refine r_iald dX11_tell_60 (sh_S_4 st_27) hf (fun v10 hf => ?_)
        refine r_iconst (v := 1) dX11_tell_61 rfl ?_
        refine r_alu dX11_tell_62 rfl ?_
        refine r_iast dX11_tell_63 (sh_S_4 st_27) hf (fun h11 e13 hf => ?_)
        have T12 := tp_eq e13 T8
        refine r_loc dX11_tell_64 rfl ?_
        refine r_getR dX11_tell_65 fl_11_51 sh_0 (Or.inl ⟨_, rfl⟩) (tp_0_5 T12) ?_
        refine r_loc dX11_tell_68 rfl ?_
        refine r_getR dX11_tell_69 fl_11_37 sh_0 (Or.inl ⟨_, rfl⟩) (tp_0_3 T12) ?_
        obtain ⟨h15, c14, hf⟩ := cal_inv hf
        have g17 := rf_X0_keep (X := X) (d := d) (by omega) 27 st_27 T12 c14
        have T16 : am_TP h15.2.2 := g17.2
        refine r_virt (pre := [.ref 27]) (rest := []) dX11_tell_72 ct_11_182 rfl (sh_44) (Nat.le_of_ble_eq_true rfl) (Nat.le_of_ble_eq_true rfl) g17 ?_
        refine r_loc dX11_tell_75 rfl ?_
        refine r_getR dX11_tell_76 fl_11_37 sh_0 (Or.inl ⟨_, rfl⟩) (tp_0_3 T16) ?_
        refine r_getR dX11_tell_79 fl_11_149 (sh_S st_27) (Or.inr ⟨_, rfl⟩) (tp_S_4 T16 st_27) ?_
        refine r_loc dX11_tell_82 rfl ?_
        refine r_iald dX11_tell_83 (sh_S_4 st_27) hf (fun v18 hf => ?_)
        cases hf
        exact r_ri T16 dX11_tell_84
      · refine r_iconst (v := (-1)) dX11_tell_36 rfl ?_
        cases hf
        exact r_ri T dX11_tell_37
def f_X11_lose (x1 : Int32) (h : am_H) : Option (Int32 × am_H) := cal (f_X7_has 27 x1 h) fun v2 => if v2 = 0 then some ((-1), h) else rdI h (27 + 1) 8 x1 fun v4 => cal (f_X7_remove 27 x1 h) fun h6 => cal (f_X0_keep 27 h6) fun h10 => some (v4, h10)
theorem rf_X11_lose {X : am_X} {d : Nat} (hd : 4 ≤ d) (x1 : Int32) {h : am_H} (T : am_TP h.2.2) {r : Int32 × am_H} (hf : f_X11_lose x1 h = some r) : am_G X d 11 false cX11_lose (some .int) 0 [some (.ref 0), some (.int x1), none] [] (am_SH, h) (some (.int r.1), (am_SH, r.2)) := by
  unfold f_X11_lose at hf
  obtain ⟨d, rfl⟩ : ∃ e, d = e + 1 := ⟨d - 1, by omega⟩
  refine r_loc dX11_lose_0 rfl ?_
  refine r_getR dX11_lose_1 fl_11_37 sh_0 (Or.inl ⟨_, rfl⟩) (tp_0_3 T) ?_
  refine r_loc dX11_lose_4 rfl ?_
  obtain ⟨v2, c1, hf⟩ := cal_inv hf
  have g3 := rf_X7_has (X := X) (d := d) (by omega) 27 x1 st_27 T c1
  refine r_virt (pre := [.int x1]) (rest := []) dX11_lose_5 ct_11_137 rfl ((sh_S st_27)) (Nat.le_of_ble_eq_true rfl) (Nat.le_of_ble_eq_true rfl) g3 ?_
  refine r_ne0 (q := 13) dX11_lose_8 rfl hf (fun hf => ?_) (fun hf => ?_)
  · refine r_loc dX11_lose_13 rfl ?_
    refine r_getR dX11_lose_14 fl_11_37 sh_0 (Or.inl ⟨_, rfl⟩) (tp_0_3 T) ?_
    refine r_getR dX11_lose_17 fl_11_140 (sh_S st_27) (Or.inr ⟨_, rfl⟩) (tp_S_1 T st_27) ?_
    refine r_loc dX11_lose_20 rfl ?_
    refine r_iald dX11_lose_21 (sh_S_1 st_27) hf (fun v4 hf => ?_)
    refine r_loc (L' := [some (.ref 0), some (.int x1), some (.int v4)]) dX11_lose_22 rfl ?_
    refine r_loc dX11_lose_23 rfl ?_
    refine r_getR dX11_lose_24 fl_11_37 sh_0 (Or.inl ⟨_, rfl⟩) (tp_0_3 T) ?_
    refine r_loc dX11_lose_27 rfl ?_
    obtain ⟨h6, c5, hf⟩ := cal_inv hf
    have g8 := rf_X7_remove (X := X) (d := d) (by omega) 27 x1 st_27 T c5
    have T7 : am_TP h6.2.2 := g8.2
    refine r_virt (pre := [.int x1]) (rest := []) dX11_lose_28 ct_11_191 rfl ((sh_S st_27)) (Nat.le_of_ble_eq_true rfl) (Nat.le_of_ble_eq_true rfl) g8 ?_
    refine r_loc dX11_lose_31 rfl ?_
    refine r_getR dX11_lose_32 fl_11_51 sh_0 (Or.inl ⟨_, rfl⟩) (tp_0_5 T7) ?_
    refine r_loc dX11_lose_35 rfl ?_
    refine r_getR dX11_lose_36 fl_11_37 sh_0 (Or.inl ⟨_, rfl⟩) (tp_0_3 T7) ?_
    obtain ⟨h10, c9, hf⟩ := cal_inv hf
    have g12 := rf_X0_keep (X := X) (d := d) (by omega) 27 st_27 T7 c9
    have T11 : am_TP h10.2.2 := g12.2
    refine r_virt (pre := [.ref 27]) (rest := []) dX11_lose_39 ct_11_182 rfl (sh_44) (Nat.le_of_ble_eq_true rfl) (Nat.le_of_ble_eq_true rfl) g12 ?_
    refine r_loc dX11_lose_42 rfl ?_
    cases hf
    exact r_ri T11 dX11_lose_43
  · refine r_iconst (v := (-1)) dX11_lose_11 rfl ?_
    cases hf
    exact r_ri T dX11_lose_12
def jn_X0_read_19 (s2 : Nat) (h : am_H) : Option (am_H) := some h
def f_X0_read (x1 : Int32) (s2 : Nat) (h : am_H) : Option (am_H) := if x1 < 0 then jn_X0_read_19 s2 h else if 40 < x1 then jn_X0_read_19 s2 h else rdR h 45 41 x1 fun u1 => cal (f_X7_copyFrom s2 u1 h) fun h4 => some h4
theorem rj_X0_read_19 {X : am_X} {d : Nat} (hd : 2 ≤ d) (s2 : Nat) (hs2 : s2 ∈ am_ST) {h : am_H} (T : am_TP h.2.2) {r : am_H} (hf : jn_X0_read_19 s2 h = some r) : am_G X d 0 false cX0_read none 19 [none, none, some (.ref s2), none] [] (am_SH, h) (none, (am_SH, r)) := by
  obtain ⟨d, rfl⟩ : ∃ e, d = e + 1 := ⟨d - 1, by omega⟩
  unfold jn_X0_read_19 at hf
  refine r_alu dX0_read_19 rfl ?_
  refine r_loc (L' := [none, none, some (.ref s2), some (.null)]) dX0_read_20 rfl ?_
  refine r_loc dX0_read_21 rfl ?_
  refine r_nullN (q := 30) dX0_read_22 rfl ?_
  cases hf
  exact r_ret T dX0_read_30 rfl
theorem rf_X0_read {X : am_X} {d : Nat} (hd : 2 ≤ d) (x1 : Int32) (s2 : Nat) (hs2 : s2 ∈ am_ST) {h : am_H} (T : am_TP h.2.2) {r : am_H} (hf : f_X0_read x1 s2 h = some r) : am_G X d 0 false cX0_read none 0 [some (.ref 44), some (.int x1), some (.ref s2), none] [] (am_SH, h) (none, (am_SH, r)) := by
  unfold f_X0_read at hf
  obtain ⟨d, rfl⟩ : ∃ e, d = e + 1 := ⟨d - 1, by omega⟩
  refine r_loc dX0_read_0 rfl ?_
  refine r_lt0 (q := 19) dX0_read_1 rfl hf (fun hf => ?_) (fun hf => ?_)
  · refine r_weak (L := [none, none, some (.ref s2), none]) (am_le_n (am_le_n (am_le_s (am_le_n am_le_0)))) ?_
    exact rj_X0_read_19 (by omega) s2 hs2 T hf
  · refine r_loc dX0_read_4 rfl ?_
    refine r_bipush (v := 40) dX0_read_5 rfl ?_
    refine r_gt (q := 19) dX0_read_7 rfl hf (fun hf => ?_) (fun hf => ?_)
    · refine r_weak (L := [none, none, some (.ref s2), none]) (am_le_n (am_le_n (am_le_s (am_le_n am_le_0)))) ?_
      exact rj_X0_read_19 (by omega) s2 hs2 T hf
    · refine r_loc dX0_read_10 rfl ?_
      refine r_getR dX0_read_11 fl_0_11 sh_44 (Or.inr ⟨_, rfl⟩) (tp_44_0 T) ?_
      refine r_loc dX0_read_14 rfl ?_
      refine r_aald dX0_read_15 sh_45 hf (fun u1 hin hy hf => ?_)
      have q2 := tp_kept_45 T hin hy
      refine r_goto (q := 20) dX0_read_16 rfl ?_
      refine r_loc (L' := [some (.ref 44), some (.int x1), some (.ref s2), some (.ref u1)]) dX0_read_20 rfl ?_
      refine r_loc dX0_read_21 rfl ?_
      refine r_nullR (q := 30) dX0_read_22 rfl ?_
      refine r_loc dX0_read_25 rfl ?_
      refine r_loc dX0_read_26 rfl ?_
      obtain ⟨h4, c3, hf⟩ := cal_inv hf
      have g6 := rf_X7_copyFrom (X := X) (d := d) (by omega) s2 u1 hs2 q2 T c3
      have T5 : am_TP h4.2.2 := g6.2
      refine r_virt (pre := [.ref u1]) (rest := []) dX0_read_27 ct_0_37 rfl ((sh_S hs2)) (Nat.le_of_ble_eq_true rfl) (Nat.le_of_ble_eq_true rfl) g6 ?_
      cases hf
      exact r_ret T5 dX0_read_30 rfl
def f_X0_stepBack (s1 : Nat) (h : am_H) : Option (Int32 × am_H) := bnd (h.1 44 1) fun v1 => if v1 < 1 then some (0, h) else bnd (h.1 44 1) fun v2 => ptI h 44 1 (v2 - 1) fun h3 => bnd (h3.1 44 1) fun v6 => cal (f_X0_read v6 s1 h3) fun h8 => some (1, h8)
theorem rf_X0_stepBack {X : am_X} {d : Nat} (hd : 3 ≤ d) (s1 : Nat) (hs1 : s1 ∈ am_ST) {h : am_H} (T : am_TP h.2.2) {r : Int32 × am_H} (hf : f_X0_stepBack s1 h = some r) : am_G X d 0 false cX0_stepBack (some .boolean) 0 [some (.ref 44), some (.ref s1)] [] (am_SH, h) (some (.int r.1), (am_SH, r.2)) := by
  unfold f_X0_stepBack at hf
  obtain ⟨d, rfl⟩ : ∃ e, d = e + 1 := ⟨d - 1, by omega⟩
  refine r_loc dX0_stepBack_0 rfl ?_
  refine r_getI dX0_stepBack_1 fl_0_17 sh_44 rfl hf (fun v1 hf => ?_)
  refine r_iconst (v := 1) dX0_stepBack_4 rfl ?_
  refine r_ge (q := 10) dX0_stepBack_5 rfl hf (fun hf => ?_) (fun hf => ?_)
  · refine r_loc dX0_stepBack_10 rfl ?_
    refine r_alu dX0_stepBack_11 rfl ?_
    refine r_getI dX0_stepBack_12 fl_0_17 sh_44 rfl hf (fun v2 hf => ?_)
    refine r_iconst (v := 1) dX0_stepBack_15 rfl ?_
    refine r_alu dX0_stepBack_16 rfl ?_
    refine r_putI dX0_stepBack_17 fl_0_17 sh_44 ⟨rfl, rfl⟩ hf (fun h3 e5 hf => ?_)
    have T4 := tp_eq e5 T
    refine r_loc dX0_stepBack_20 rfl ?_
    refine r_loc dX0_stepBack_21 rfl ?_
    refine r_getI dX0_stepBack_22 fl_0_17 sh_44 rfl hf (fun v6 hf => ?_)
    refine r_loc dX0_stepBack_25 rfl ?_
    obtain ⟨h8, c7, hf⟩ := cal_inv hf
    have g10 := rf_X0_read (X := X) (d := d) (by omega) v6 s1 hs1 T4 c7
    have T9 : am_TP h8.2.2 := g10.2
    refine r_virt (pre := [.ref s1, .int v6]) (rest := []) dX0_stepBack_26 ct_0_34 rfl (sh_44) (Nat.le_of_ble_eq_true rfl) (Nat.le_of_ble_eq_true rfl) g10 ?_
    refine r_iconst (v := 1) dX0_stepBack_29 rfl ?_
    cases hf
    exact r_z1 T9 dX0_stepBack_30
  · refine r_iconst (v := 0) dX0_stepBack_8 rfl ?_
    cases hf
    exact r_z0 T dX0_stepBack_9
def f_X11_undo  (h : am_H) : Option (Int32 × am_H) := cal2 (f_X0_stepBack 27 h) fun v2 h4 => zrt v2 (some (v2, h4))
theorem rf_X11_undo {X : am_X} {d : Nat} (hd : 4 ≤ d)  {h : am_H} (T : am_TP h.2.2) {r : Int32 × am_H} (hf : f_X11_undo  h = some r) : am_G X d 11 false cX11_undo (some .boolean) 0 [some (.ref 0)] [] (am_SH, h) (some (.int r.1), (am_SH, r.2)) := by
  unfold f_X11_undo at hf
  obtain ⟨d, rfl⟩ : ∃ e, d = e + 1 := ⟨d - 1, by omega⟩
  refine r_loc dX11_undo_0 rfl ?_
  refine r_getR dX11_undo_1 fl_11_51 sh_0 (Or.inl ⟨_, rfl⟩) (tp_0_5 T) ?_
  refine r_loc dX11_undo_4 rfl ?_
  refine r_getR dX11_undo_5 fl_11_37 sh_0 (Or.inl ⟨_, rfl⟩) (tp_0_3 T) ?_
  obtain ⟨v2, h4, c1, hf⟩ := cal2_inv hf
  have g6 := rf_X0_stepBack (X := X) (d := d) (by omega) 27 st_27 T c1
  have T5 : am_TP h4.2.2 := g6.2
  refine r_virt (pre := [.ref 27]) (rest := []) dX11_undo_8 ct_11_194 rfl (sh_44) (Nat.le_of_ble_eq_true rfl) (Nat.le_of_ble_eq_true rfl) g6 ?_
  exact r_zret T5 dX11_undo_11 hf (fun hf => by cases hf; rfl)
def f_X0_stepOn (s1 : Nat) (h : am_H) : Option (Int32 × am_H) := bnd (h.1 44 1) fun v1 => bnd (h.1 44 2) fun v2 => if v1 < v2 then bnd (h.1 44 1) fun v3 => ptI h 44 1 (v3 + 1) fun h4 => bnd (h4.1 44 1) fun v7 => cal (f_X0_read v7 s1 h4) fun h9 => some (1, h9) else some (0, h)
theorem rf_X0_stepOn {X : am_X} {d : Nat} (hd : 3 ≤ d) (s1 : Nat) (hs1 : s1 ∈ am_ST) {h : am_H} (T : am_TP h.2.2) {r : Int32 × am_H} (hf : f_X0_stepOn s1 h = some r) : am_G X d 0 false cX0_stepOn (some .boolean) 0 [some (.ref 44), some (.ref s1)] [] (am_SH, h) (some (.int r.1), (am_SH, r.2)) := by
  unfold f_X0_stepOn at hf
  obtain ⟨d, rfl⟩ : ∃ e, d = e + 1 := ⟨d - 1, by omega⟩
  refine r_loc dX0_stepOn_0 rfl ?_
  refine r_getI dX0_stepOn_1 fl_0_17 sh_44 rfl hf (fun v1 hf => ?_)
  refine r_loc dX0_stepOn_4 rfl ?_
  refine r_getI dX0_stepOn_5 fl_0_21 sh_44 rfl hf (fun v2 hf => ?_)
  refine r_lt (q := 13) dX0_stepOn_8 rfl hf (fun hf => ?_) (fun hf => ?_)
  · refine r_loc dX0_stepOn_13 rfl ?_
    refine r_alu dX0_stepOn_14 rfl ?_
    refine r_getI dX0_stepOn_15 fl_0_17 sh_44 rfl hf (fun v3 hf => ?_)
    refine r_iconst (v := 1) dX0_stepOn_18 rfl ?_
    refine r_alu dX0_stepOn_19 rfl ?_
    refine r_putI dX0_stepOn_20 fl_0_17 sh_44 ⟨rfl, rfl⟩ hf (fun h4 e6 hf => ?_)
    have T5 := tp_eq e6 T
    refine r_loc dX0_stepOn_23 rfl ?_
    refine r_loc dX0_stepOn_24 rfl ?_
    refine r_getI dX0_stepOn_25 fl_0_17 sh_44 rfl hf (fun v7 hf => ?_)
    refine r_loc dX0_stepOn_28 rfl ?_
    obtain ⟨h9, c8, hf⟩ := cal_inv hf
    have g11 := rf_X0_read (X := X) (d := d) (by omega) v7 s1 hs1 T5 c8
    have T10 : am_TP h9.2.2 := g11.2
    refine r_virt (pre := [.ref s1, .int v7]) (rest := []) dX0_stepOn_29 ct_0_34 rfl (sh_44) (Nat.le_of_ble_eq_true rfl) (Nat.le_of_ble_eq_true rfl) g11 ?_
    refine r_iconst (v := 1) dX0_stepOn_32 rfl ?_
    cases hf
    exact r_z1 T10 dX0_stepOn_33
  · refine r_iconst (v := 0) dX0_stepOn_11 rfl ?_
    cases hf
    exact r_z0 T dX0_stepOn_12
def f_X11_redo  (h : am_H) : Option (Int32 × am_H) := cal2 (f_X0_stepOn 27 h) fun v2 h4 => zrt v2 (some (v2, h4))
theorem rf_X11_redo {X : am_X} {d : Nat} (hd : 4 ≤ d)  {h : am_H} (T : am_TP h.2.2) {r : Int32 × am_H} (hf : f_X11_redo  h = some r) : am_G X d 11 false cX11_redo (some .boolean) 0 [some (.ref 0)] [] (am_SH, h) (some (.int r.1), (am_SH, r.2)) := by
  unfold f_X11_redo at hf
  obtain ⟨d, rfl⟩ : ∃ e, d = e + 1 := ⟨d - 1, by omega⟩
  refine r_loc dX11_redo_0 rfl ?_
  refine r_getR dX11_redo_1 fl_11_51 sh_0 (Or.inl ⟨_, rfl⟩) (tp_0_5 T) ?_
  refine r_loc dX11_redo_4 rfl ?_
  refine r_getR dX11_redo_5 fl_11_37 sh_0 (Or.inl ⟨_, rfl⟩) (tp_0_3 T) ?_
  obtain ⟨v2, h4, c1, hf⟩ := cal2_inv hf
  have g6 := rf_X0_stepOn (X := X) (d := d) (by omega) 27 st_27 T c1
  have T5 : am_TP h4.2.2 := g6.2
  refine r_virt (pre := [.ref 27]) (rest := []) dX11_redo_8 ct_11_198 rfl (sh_44) (Nat.le_of_ble_eq_true rfl) (Nat.le_of_ble_eq_true rfl) g6 ?_
  exact r_zret T5 dX11_redo_11 hf (fun hf => by cases hf; rfl)
def f_X11_canLieAhead (x0 : Int32) (h : am_H) : Option (Int32) := if x0 < 0 then some 0 else if 30 < x0 then some 0 else some 1
theorem rf_X11_canLieAhead {X : am_X} {d : Nat} (hd : 0 ≤ d) (x0 : Int32) {h : am_H} (T : am_TP h.2.2) {r : Int32} (hf : f_X11_canLieAhead x0 h = some r) : am_G X d 11 false cX11_canLieAhead (some .boolean) 0 [some (.int x0)] [] (am_SH, h) (some (.int r), (am_SH, h)) := by
  unfold f_X11_canLieAhead at hf
  refine r_loc dX11_canLieAhead_0 rfl ?_
  refine r_lt0 (q := 14) dX11_canLieAhead_1 rfl hf (fun hf => ?_) (fun hf => ?_)
  · refine r_iconst (v := 0) dX11_canLieAhead_14 rfl ?_
    cases hf
    exact r_z0 T dX11_canLieAhead_15
  · refine r_loc dX11_canLieAhead_4 rfl ?_
    refine r_bipush (v := 30) dX11_canLieAhead_5 rfl ?_
    refine r_gt (q := 14) dX11_canLieAhead_7 rfl hf (fun hf => ?_) (fun hf => ?_)
    · refine r_iconst (v := 0) dX11_canLieAhead_14 rfl ?_
      cases hf
      exact r_z0 T dX11_canLieAhead_15
    · refine r_iconst (v := 1) dX11_canLieAhead_10 rfl ?_
      refine r_goto (q := 15) dX11_canLieAhead_11 rfl ?_
      cases hf
      exact r_z1 T dX11_canLieAhead_15
def lp_X10_behind_11 (p2 : Int32) (p3 : Int32) (k_32 : am_H → Option (am_H)) : Nat → Int32 → am_H → Option (am_H)
  | 0, _, _ => none
  | n + 1, x4, h => if x4 < p2 then cal (f_X10_pass 36 p3 h) fun h6 => lp_X10_behind_11 p2 p3 k_32 n (x4 + 1) h6 else k_32  h
def f_X10_behind (s1 : Nat) (x2 : Int32) (x3 : Int32) (h : am_H) : Option (am_H) := cal (f_X7_copyFrom 36 s1 h) fun h2 => lp_X10_behind_11 x2 x3 (fun h9 => some h9) 4000 0 h2
theorem rl_X10_behind_11 {X : am_X} {d : Nat} (hd : 6 ≤ d) (p2 : Int32) (p3 : Int32) (k_32 : am_H → Option (am_H)) {r : am_H} (hk_32 : ∀ (h : am_H), am_TP h.2.2 → k_32  h = some r → am_G X d 10 false cX10_behind (some (.object "TrunkLitters$State")) 32 [some (.ref 35), none, none, none, none] [] (am_SH, h) (some (.ref 36), (am_SH, r))) : ∀ (n : Nat) (x4 : Int32) (h : am_H), am_TP h.2.2 → lp_X10_behind_11 p2 p3 k_32 n x4 h = some r → am_G X d 10 false cX10_behind (some (.object "TrunkLitters$State")) 11 [some (.ref 35), none, some (.int p2), some (.int p3), some (.int x4)] [] (am_SH, h) (some (.ref 36), (am_SH, r)) := by
  obtain ⟨d, rfl⟩ : ∃ e, d = e + 1 := ⟨d - 1, by omega⟩
  intro n
  induction n with
  | zero => intro x4 h T hf; cases hf
  | succ n ih =>
    intro x4 h T hf
    rw [lp_X10_behind_11] at hf
    refine r_loc dX10_behind_11 rfl ?_
    refine r_loc dX10_behind_13 rfl ?_
    refine r_ge (q := 32) dX10_behind_14 rfl hf (fun hf => ?_) (fun hf => ?_)
    · refine r_weak (L := [some (.ref 35), none, none, none, none]) (am_le_s (am_le_n (am_le_n (am_le_n (am_le_n am_le_0))))) ?_
      exact hk_32  h T hf
    · refine r_loc dX10_behind_17 rfl ?_
      refine r_loc dX10_behind_18 rfl ?_
      refine r_getR dX10_behind_19 fl_10_27 sh_35 (Or.inl ⟨_, rfl⟩) (tp_35_1 T) ?_
      refine r_loc dX10_behind_22 rfl ?_
      obtain ⟨h6, c5, hf⟩ := cal_inv hf
      have g8 := rf_X10_pass (X := X) (d := d) (by omega) 36 p3 st_36 T c5
      have T7 : am_TP h6.2.2 := g8.2
      refine r_virt (pre := [.int p3, .ref 36]) (rest := []) dX10_behind_23 ct_10_66 rfl (sh_35) (Nat.le_of_ble_eq_true rfl) (Nat.le_of_ble_eq_true rfl) g8 ?_
      refine r_loc (L' := [some (.ref 35), none, some (.int p2), some (.int p3), some (.int (x4 + 1))]) dX10_behind_26 rfl ?_
      refine r_goto (q := 11) dX10_behind_29 rfl ?_
      exact ih (x4 + 1) h6 T7 hf
theorem rf_X10_behind {X : am_X} {d : Nat} (hd : 6 ≤ d) (s1 : Nat) (x2 : Int32) (x3 : Int32) (hs1 : s1 ∈ am_ST) {h : am_H} (T : am_TP h.2.2) {r : am_H} (hf : f_X10_behind s1 x2 x3 h = some r) : am_G X d 10 false cX10_behind (some (.object "TrunkLitters$State")) 0 [some (.ref 35), some (.ref s1), some (.int x2), some (.int x3), none] [] (am_SH, h) (some (.ref 36), (am_SH, r)) := by
  unfold f_X10_behind at hf
  obtain ⟨d, rfl⟩ : ∃ e, d = e + 1 := ⟨d - 1, by omega⟩
  refine r_loc dX10_behind_0 rfl ?_
  refine r_getR dX10_behind_1 fl_10_27 sh_35 (Or.inl ⟨_, rfl⟩) (tp_35_1 T) ?_
  refine r_loc dX10_behind_4 rfl ?_
  obtain ⟨h2, c1, hf⟩ := cal_inv hf
  have g4 := rf_X7_copyFrom (X := X) (d := d) (by omega) 36 s1 st_36 hs1 T c1
  have T3 : am_TP h2.2.2 := g4.2
  refine r_virt (pre := [.ref s1]) (rest := []) dX10_behind_5 ct_10_63 rfl ((sh_S st_36)) (Nat.le_of_ble_eq_true rfl) (Nat.le_of_ble_eq_true rfl) g4 ?_
  refine r_iconst (v := 0) dX10_behind_8 rfl ?_
  refine r_loc (L' := [some (.ref 35), some (.ref s1), some (.int x2), some (.int x3), some (.int 0)]) dX10_behind_9 rfl ?_
  refine r_weak (L := [some (.ref 35), none, some (.int x2), some (.int x3), some (.int 0)]) (am_le_s (am_le_n (am_le_s (am_le_s (am_le_s am_le_0))))) ?_
  refine rl_X10_behind_11 (by omega) x2 x3 _ ?_ 4000 0 h2 T3 hf
  · intro h9 T10 hf
    refine r_loc dX10_behind_32 rfl ?_
    refine r_getR dX10_behind_33 fl_10_27 sh_35 (Or.inl ⟨_, rfl⟩) (tp_35_1 T10) ?_
    cases hf
    exact r_ret T10 dX10_behind_36 rfl
def f_X11_will (x1 : Int32) (x2 : Int32) (x3 : Int32) (h : am_H) : Option (Int32 × am_H) := cal (f_X11_canLieAhead x2 h) fun v2 => if v2 = 0 then some ((-1), h) else if x3 < 0 then some ((-1), h) else if 1 < x3 then some ((-1), h) else bnd (h.1 4 8) fun v4 => cal (f_X10_behind 27 x2 v4 h) fun h6 => cal (f_X7_has 36 x1 h6) fun v10 => if v10 = 0 then some ((-1), h6) else if x3 = 0 then rdI h6 (36 + 1) 8 x1 fun v13 => some (v13, h6) else rdI h6 (36 + 3) 8 x1 fun v12 => some (v12, h6)
theorem rf_X11_will {X : am_X} {d : Nat} (hd : 7 ≤ d) (x1 : Int32) (x2 : Int32) (x3 : Int32) {h : am_H} (T : am_TP h.2.2) {r : Int32 × am_H} (hf : f_X11_will x1 x2 x3 h = some r) : am_G X d 11 false cX11_will (some .int) 0 [some (.ref 0), some (.int x1), some (.int x2), some (.int x3), none] [] (am_SH, h) (some (.int r.1), (am_SH, r.2)) := by
  unfold f_X11_will at hf
  obtain ⟨d, rfl⟩ : ∃ e, d = e + 1 := ⟨d - 1, by omega⟩
  refine r_loc dX11_will_0 rfl ?_
  obtain ⟨v2, c1, hf⟩ := cal_inv hf
  have g3 := rf_X11_canLieAhead (X := X) (d := d) (by omega) x2 T c1
  refine r_stat (pre := [.int x2]) (rest := []) dX11_will_1 ct_11_201 rfl (Nat.le_of_ble_eq_true rfl) (Nat.le_of_ble_eq_true rfl) g3 ?_
  refine r_eq0 (q := 16) dX11_will_4 rfl hf (fun hf => ?_) (fun hf => ?_)
  · refine r_iconst (v := (-1)) dX11_will_16 rfl ?_
    cases hf
    exact r_ri T dX11_will_17
  · refine r_loc dX11_will_7 rfl ?_
    refine r_lt0 (q := 16) dX11_will_8 rfl hf (fun hf => ?_) (fun hf => ?_)
    · refine r_iconst (v := (-1)) dX11_will_16 rfl ?_
      cases hf
      exact r_ri T dX11_will_17
    · refine r_loc dX11_will_11 rfl ?_
      refine r_iconst (v := 1) dX11_will_12 rfl ?_
      refine r_le (q := 18) dX11_will_13 rfl hf (fun hf => ?_) (fun hf => ?_)
      · refine r_loc dX11_will_18 rfl ?_
        refine r_getR dX11_will_19 fl_11_44 sh_0 (Or.inl ⟨_, rfl⟩) (tp_0_4 T) ?_
        refine r_loc dX11_will_22 rfl ?_
        refine r_getR dX11_will_23 fl_11_37 sh_0 (Or.inl ⟨_, rfl⟩) (tp_0_3 T) ?_
        refine r_loc dX11_will_26 rfl ?_
        refine r_loc dX11_will_27 rfl ?_
        refine r_getR dX11_will_28 fl_11_19 sh_0 (Or.inl ⟨_, rfl⟩) (tp_0_1 T) ?_
        refine r_getI dX11_will_31 fl_11_176 sh_4 rfl hf (fun v4 hf => ?_)
        obtain ⟨h6, c5, hf⟩ := cal_inv hf
        have g8 := rf_X10_behind (X := X) (d := d) (by omega) 27 x2 v4 st_27 T c5
        have T7 : am_TP h6.2.2 := g8.2
        refine r_virt (pre := [.int v4, .int x2, .ref 27]) (rest := []) dX11_will_34 ct_11_204 rfl (sh_35) (Nat.le_of_ble_eq_true rfl) (Nat.le_of_ble_eq_true rfl) g8 ?_
        refine r_loc (L' := [some (.ref 0), some (.int x1), some (.int x2), some (.int x3), some (.ref 36)]) dX11_will_37 rfl ?_
        refine r_loc dX11_will_39 rfl ?_
        refine r_loc dX11_will_41 rfl ?_
        obtain ⟨v10, c9, hf⟩ := cal_inv hf
        have g11 := rf_X7_has (X := X) (d := d) (by omega) 36 x1 st_36 T7 c9
        refine r_virt (pre := [.int x1]) (rest := []) dX11_will_42 ct_11_137 rfl ((sh_S st_36)) (Nat.le_of_ble_eq_true rfl) (Nat.le_of_ble_eq_true rfl) g11 ?_
        refine r_ne0 (q := 50) dX11_will_45 rfl hf (fun hf => ?_) (fun hf => ?_)
        · refine r_loc dX11_will_50 rfl ?_
          refine r_ne0 (q := 64) dX11_will_51 rfl hf (fun hf => ?_) (fun hf => ?_)
          · refine r_loc dX11_will_64 rfl ?_
            refine r_getR dX11_will_66 fl_11_146 (sh_S st_36) (Or.inr ⟨_, rfl⟩) (tp_S_3 T7 st_36) ?_
            refine r_loc dX11_will_69 rfl ?_
            refine r_iald dX11_will_70 (sh_S_3 st_36) hf (fun v12 hf => ?_)
            cases hf
            exact r_ri T7 dX11_will_71
          · refine r_loc dX11_will_54 rfl ?_
            refine r_getR dX11_will_56 fl_11_140 (sh_S st_36) (Or.inr ⟨_, rfl⟩) (tp_S_1 T7 st_36) ?_
            refine r_loc dX11_will_59 rfl ?_
            refine r_iald dX11_will_60 (sh_S_1 st_36) hf (fun v13 hf => ?_)
            refine r_goto (q := 71) dX11_will_61 rfl ?_
            cases hf
            exact r_ri T7 dX11_will_71
        · refine r_iconst (v := (-1)) dX11_will_48 rfl ?_
          cases hf
          exact r_ri T7 dX11_will_49
      · refine r_iconst (v := (-1)) dX11_will_16 rfl ?_
        cases hf
        exact r_ri T dX11_will_17
def f_X11_alive (x1 : Int32) (h : am_H) : Option (Int32 × am_H) := cal (f_X11_canLieAhead x1 h) fun v2 => if v2 = 0 then some ((-1), h) else bnd (h.1 4 8) fun v4 => cal (f_X10_behind 27 x1 v4 h) fun h6 => cal (f_X7_bits 36 h6) fun v10 => some (v10, h6)
theorem rf_X11_alive {X : am_X} {d : Nat} (hd : 7 ≤ d) (x1 : Int32) {h : am_H} (T : am_TP h.2.2) {r : Int32 × am_H} (hf : f_X11_alive x1 h = some r) : am_G X d 11 false cX11_alive (some .int) 0 [some (.ref 0), some (.int x1)] [] (am_SH, h) (some (.int r.1), (am_SH, r.2)) := by
  unfold f_X11_alive at hf
  obtain ⟨d, rfl⟩ : ∃ e, d = e + 1 := ⟨d - 1, by omega⟩
  refine r_loc dX11_alive_0 rfl ?_
  obtain ⟨v2, c1, hf⟩ := cal_inv hf
  have g3 := rf_X11_canLieAhead (X := X) (d := d) (by omega) x1 T c1
  refine r_stat (pre := [.int x1]) (rest := []) dX11_alive_1 ct_11_201 rfl (Nat.le_of_ble_eq_true rfl) (Nat.le_of_ble_eq_true rfl) g3 ?_
  refine r_eq0 (q := 32) dX11_alive_4 rfl hf (fun hf => ?_) (fun hf => ?_)
  · refine r_iconst (v := (-1)) dX11_alive_32 rfl ?_
    cases hf
    exact r_ri T dX11_alive_33
  · refine r_loc dX11_alive_7 rfl ?_
    refine r_getR dX11_alive_8 fl_11_44 sh_0 (Or.inl ⟨_, rfl⟩) (tp_0_4 T) ?_
    refine r_loc dX11_alive_11 rfl ?_
    refine r_getR dX11_alive_12 fl_11_37 sh_0 (Or.inl ⟨_, rfl⟩) (tp_0_3 T) ?_
    refine r_loc dX11_alive_15 rfl ?_
    refine r_loc dX11_alive_16 rfl ?_
    refine r_getR dX11_alive_17 fl_11_19 sh_0 (Or.inl ⟨_, rfl⟩) (tp_0_1 T) ?_
    refine r_getI dX11_alive_20 fl_11_176 sh_4 rfl hf (fun v4 hf => ?_)
    obtain ⟨h6, c5, hf⟩ := cal_inv hf
    have g8 := rf_X10_behind (X := X) (d := d) (by omega) 27 x1 v4 st_27 T c5
    have T7 : am_TP h6.2.2 := g8.2
    refine r_virt (pre := [.int v4, .int x1, .ref 27]) (rest := []) dX11_alive_23 ct_11_204 rfl (sh_35) (Nat.le_of_ble_eq_true rfl) (Nat.le_of_ble_eq_true rfl) g8 ?_
    obtain ⟨v10, c9, hf⟩ := cal_inv hf
    have g11 := rf_X7_bits (X := X) (d := d) (by omega) 36 st_36 T7 c9
    refine r_virt (pre := []) (rest := []) dX11_alive_26 ct_11_208 rfl ((sh_S st_36)) (Nat.le_of_ble_eq_true rfl) (Nat.le_of_ble_eq_true rfl) g11 ?_
    refine r_goto (q := 33) dX11_alive_29 rfl ?_
    cases hf
    exact r_ri T7 dX11_alive_33
def lp_X11_need_13 (p1 : Int32) (h : am_H) : Nat → Int32 → Int32 → Option (Int32)
  | 0, _, _ => none
  | n + 1, x2, x3 => if x3 < 8 then rdI h (27 + 1) 8 x3 fun v4 => if 0 < v4 then rdI h (27 + 4) 8 x3 fun v5 => lp_X11_need_13 p1 h n (x2 + (if 0 < (p1 - v5) then (p1 - v5) else 0)) (x3 + 1) else lp_X11_need_13 p1 h n x2 (x3 + 1) else some x2
def f_X11_need (x1 : Int32) (h : am_H) : Option (Int32) := cal (f_X11_canLieAhead x1 h) fun v2 => if v2 = 0 then some (-1) else lp_X11_need_13 x1 h  4000 0 0
theorem rl_X11_need_13 {X : am_X} {d : Nat} (hd : 1 ≤ d) (p1 : Int32) {h : am_H} (T : am_TP h.2.2) {r : Int32} : ∀ (n : Nat) (x2 : Int32) (x3 : Int32) , lp_X11_need_13 p1 h n x2 x3 = some r → am_G X d 11 false cX11_need (some .int) 13 [some (.ref 0), some (.int p1), some (.int x2), some (.int x3)] [] (am_SH, h) (some (.int r), (am_SH, h)) := by
  obtain ⟨d, rfl⟩ : ∃ e, d = e + 1 := ⟨d - 1, by omega⟩
  intro n
  induction n with
  | zero => intro x2 x3 hf; cases hf
  | succ n ih =>
    intro x2 x3 hf
    rw [lp_X11_need_13] at hf
    refine r_loc dX11_need_13 rfl ?_
    refine r_bipush (v := 8) dX11_need_14 rfl ?_
    refine r_ge (q := 55) dX11_need_16 rfl hf (fun hf => ?_) (fun hf => ?_)
    · refine r_loc dX11_need_55 rfl ?_
      cases hf
      exact r_ri T dX11_need_56
    · refine r_loc dX11_need_19 rfl ?_
      refine r_getR dX11_need_20 fl_11_37 sh_0 (Or.inl ⟨_, rfl⟩) (tp_0_3 T) ?_
      refine r_getR dX11_need_23 fl_11_140 (sh_S st_27) (Or.inr ⟨_, rfl⟩) (tp_S_1 T st_27) ?_
      refine r_loc dX11_need_26 rfl ?_
      refine r_iald dX11_need_27 (sh_S_1 st_27) hf (fun v4 hf => ?_)
      refine r_le0 (q := 49) dX11_need_28 rfl hf (fun hf => ?_) (fun hf => ?_)
      · refine r_loc (L' := [some (.ref 0), some (.int p1), some (.int x2), some (.int (x3 + 1))]) dX11_need_49 rfl ?_
        refine r_goto (q := 13) dX11_need_52 rfl ?_
        exact ih x2 (x3 + 1) hf
      · refine r_loc dX11_need_31 rfl ?_
        refine r_iconst (v := 0) dX11_need_32 rfl ?_
        refine r_loc dX11_need_33 rfl ?_
        refine r_loc dX11_need_34 rfl ?_
        refine r_getR dX11_need_35 fl_11_37 sh_0 (Or.inl ⟨_, rfl⟩) (tp_0_3 T) ?_
        refine r_getR dX11_need_38 fl_11_149 (sh_S st_27) (Or.inr ⟨_, rfl⟩) (tp_S_4 T st_27) ?_
        refine r_loc dX11_need_41 rfl ?_
        refine r_iald dX11_need_42 (sh_S_4 st_27) hf (fun v5 hf => ?_)
        refine r_alu dX11_need_43 rfl ?_
        refine r_max dX11_need_44 ct_11_212 (Nat.le_of_ble_eq_true rfl) ?_
        refine r_alu dX11_need_47 rfl ?_
        refine r_loc (L' := [some (.ref 0), some (.int p1), some (.int (x2 + (if 0 < (p1 - v5) then (p1 - v5) else 0))), some (.int x3)]) dX11_need_48 rfl ?_
        refine r_loc (L' := [some (.ref 0), some (.int p1), some (.int (x2 + (if 0 < (p1 - v5) then (p1 - v5) else 0))), some (.int (x3 + 1))]) dX11_need_49 rfl ?_
        refine r_goto (q := 13) dX11_need_52 rfl ?_
        exact ih (x2 + (if 0 < (p1 - v5) then (p1 - v5) else 0)) (x3 + 1) hf
theorem rf_X11_need {X : am_X} {d : Nat} (hd : 1 ≤ d) (x1 : Int32) {h : am_H} (T : am_TP h.2.2) {r : Int32} (hf : f_X11_need x1 h = some r) : am_G X d 11 false cX11_need (some .int) 0 [some (.ref 0), some (.int x1), none, none] [] (am_SH, h) (some (.int r), (am_SH, h)) := by
  unfold f_X11_need at hf
  obtain ⟨d, rfl⟩ : ∃ e, d = e + 1 := ⟨d - 1, by omega⟩
  refine r_loc dX11_need_0 rfl ?_
  obtain ⟨v2, c1, hf⟩ := cal_inv hf
  have g3 := rf_X11_canLieAhead (X := X) (d := d) (by omega) x1 T c1
  refine r_stat (pre := [.int x1]) (rest := []) dX11_need_1 ct_11_201 rfl (Nat.le_of_ble_eq_true rfl) (Nat.le_of_ble_eq_true rfl) g3 ?_
  refine r_ne0 (q := 9) dX11_need_4 rfl hf (fun hf => ?_) (fun hf => ?_)
  · refine r_iconst (v := 0) dX11_need_9 rfl ?_
    refine r_loc (L' := [some (.ref 0), some (.int x1), some (.int 0), none]) dX11_need_10 rfl ?_
    refine r_iconst (v := 0) dX11_need_11 rfl ?_
    refine r_loc (L' := [some (.ref 0), some (.int x1), some (.int 0), some (.int 0)]) dX11_need_12 rfl ?_
    refine rl_X11_need_13 (by omega) x1 T  4000 0 0  hf
  · refine r_iconst (v := (-1)) dX11_need_7 rfl ?_
    cases hf
    exact r_ri T dX11_need_8
def lp_X10_countIfCarried_31 (k_58 : am_H → Option (Int32 × am_H)) : Nat → Int32 → am_H → Option (Int32 × am_H)
  | 0, _, _ => none
  | n + 1, x4, h => if x4 < 5 then bnd (h.1 4 8) fun v5 => cal (f_X10_pass 36 v5 h) fun h7 => lp_X10_countIfCarried_31 k_58 n (x4 + 1) h7 else k_58  h
def f_X10_countIfCarried (s1 : Nat) (x2 : Int32) (x3 : Int32) (h : am_H) : Option (Int32 × am_H) := cal (f_X7_copyFrom 36 s1 h) fun h2 => if x2 < 0 then lp_X10_countIfCarried_31 (fun h10 => cal (f_X7_count 36 h10) fun v13 => some (v13, h10)) 4000 0 h2 else if x2 < 8 then wrI h2 (36 + 2) 8 x2 x3 fun h20 => lp_X10_countIfCarried_31 (fun h23 => cal (f_X7_count 36 h23) fun v26 => some (v26, h23)) 4000 0 h20 else lp_X10_countIfCarried_31 (fun h15 => cal (f_X7_count 36 h15) fun v18 => some (v18, h15)) 4000 0 h2
theorem rl_X10_countIfCarried_31 {X : am_X} {d : Nat} (hd : 6 ≤ d) (k_58 : am_H → Option (Int32 × am_H)) {r : Int32 × am_H} (hk_58 : ∀ (h : am_H), am_TP h.2.2 → k_58  h = some r → am_G X d 10 false cX10_countIfCarried (some .int) 58 [some (.ref 35), none, none, none, none] [] (am_SH, h) (some (.int r.1), (am_SH, r.2))) : ∀ (n : Nat) (x4 : Int32) (h : am_H), am_TP h.2.2 → lp_X10_countIfCarried_31 k_58 n x4 h = some r → am_G X d 10 false cX10_countIfCarried (some .int) 31 [some (.ref 35), none, none, none, some (.int x4)] [] (am_SH, h) (some (.int r.1), (am_SH, r.2)) := by
  obtain ⟨d, rfl⟩ : ∃ e, d = e + 1 := ⟨d - 1, by omega⟩
  intro n
  induction n with
  | zero => intro x4 h T hf; cases hf
  | succ n ih =>
    intro x4 h T hf
    rw [lp_X10_countIfCarried_31] at hf
    refine r_loc dX10_countIfCarried_31 rfl ?_
    refine r_iconst (v := 5) dX10_countIfCarried_33 rfl ?_
    refine r_ge (q := 58) dX10_countIfCarried_34 rfl hf (fun hf => ?_) (fun hf => ?_)
    · refine r_weak (L := [some (.ref 35), none, none, none, none]) (am_le_s (am_le_n (am_le_n (am_le_n (am_le_n am_le_0))))) ?_
      exact hk_58  h T hf
    · refine r_loc dX10_countIfCarried_37 rfl ?_
      refine r_loc dX10_countIfCarried_38 rfl ?_
      refine r_getR dX10_countIfCarried_39 fl_10_27 sh_35 (Or.inl ⟨_, rfl⟩) (tp_35_1 T) ?_
      refine r_loc dX10_countIfCarried_42 rfl ?_
      refine r_getR dX10_countIfCarried_43 fl_10_18 sh_35 (Or.inl ⟨_, rfl⟩) (tp_35_0 T) ?_
      refine r_getI dX10_countIfCarried_46 fl_10_73 sh_4 rfl hf (fun v5 hf => ?_)
      obtain ⟨h7, c6, hf⟩ := cal_inv hf
      have g9 := rf_X10_pass (X := X) (d := d) (by omega) 36 v5 st_36 T c6
      have T8 : am_TP h7.2.2 := g9.2
      refine r_virt (pre := [.int v5, .ref 36]) (rest := []) dX10_countIfCarried_49 ct_10_66 rfl (sh_35) (Nat.le_of_ble_eq_true rfl) (Nat.le_of_ble_eq_true rfl) g9 ?_
      refine r_loc (L' := [some (.ref 35), none, none, none, some (.int (x4 + 1))]) dX10_countIfCarried_52 rfl ?_
      refine r_goto (q := 31) dX10_countIfCarried_55 rfl ?_
      exact ih (x4 + 1) h7 T8 hf
theorem rf_X10_countIfCarried {X : am_X} {d : Nat} (hd : 6 ≤ d) (s1 : Nat) (x2 : Int32) (x3 : Int32) (hs1 : s1 ∈ am_ST) {h : am_H} (T : am_TP h.2.2) {r : Int32 × am_H} (hf : f_X10_countIfCarried s1 x2 x3 h = some r) : am_G X d 10 false cX10_countIfCarried (some .int) 0 [some (.ref 35), some (.ref s1), some (.int x2), some (.int x3), none] [] (am_SH, h) (some (.int r.1), (am_SH, r.2)) := by
  unfold f_X10_countIfCarried at hf
  obtain ⟨d, rfl⟩ : ∃ e, d = e + 1 := ⟨d - 1, by omega⟩
  refine r_loc dX10_countIfCarried_0 rfl ?_
  refine r_getR dX10_countIfCarried_1 fl_10_27 sh_35 (Or.inl ⟨_, rfl⟩) (tp_35_1 T) ?_
  refine r_loc dX10_countIfCarried_4 rfl ?_
  obtain ⟨h2, c1, hf⟩ := cal_inv hf
  have g4 := rf_X7_copyFrom (X := X) (d := d) (by omega) 36 s1 st_36 hs1 T c1
  have T3 : am_TP h2.2.2 := g4.2
  refine r_virt (pre := [.ref s1]) (rest := []) dX10_countIfCarried_5 ct_10_63 rfl ((sh_S st_36)) (Nat.le_of_ble_eq_true rfl) (Nat.le_of_ble_eq_true rfl) g4 ?_
  refine r_loc dX10_countIfCarried_8 rfl ?_
  refine r_lt0 (q := 28) dX10_countIfCarried_9 rfl hf (fun hf => ?_) (fun hf => ?_)
  · refine r_iconst (v := 0) dX10_countIfCarried_28 rfl ?_
    refine r_loc (L' := [some (.ref 35), some (.ref s1), some (.int x2), some (.int x3), some (.int 0)]) dX10_countIfCarried_29 rfl ?_
    refine r_weak (L := [some (.ref 35), none, none, none, some (.int 0)]) (am_le_s (am_le_n (am_le_n (am_le_n (am_le_s am_le_0))))) ?_
    refine rl_X10_countIfCarried_31 (by omega) _ ?_ 4000 0 h2 T3 hf
    · intro h10 T11 hf
      refine r_loc dX10_countIfCarried_58 rfl ?_
      refine r_getR dX10_countIfCarried_59 fl_10_27 sh_35 (Or.inl ⟨_, rfl⟩) (tp_35_1 T11) ?_
      obtain ⟨v13, c12, hf⟩ := cal_inv hf
      have g14 := rf_X7_count (X := X) (d := d) (by omega) 36 st_36 T11 c12
      refine r_virt (pre := []) (rest := []) dX10_countIfCarried_62 ct_10_76 rfl ((sh_S st_36)) (Nat.le_of_ble_eq_true rfl) (Nat.le_of_ble_eq_true rfl) g14 ?_
      cases hf
      exact r_ri T11 dX10_countIfCarried_65
  · refine r_loc dX10_countIfCarried_12 rfl ?_
    refine r_bipush (v := 8) dX10_countIfCarried_13 rfl ?_
    refine r_ge (q := 28) dX10_countIfCarried_15 rfl hf (fun hf => ?_) (fun hf => ?_)
    · refine r_iconst (v := 0) dX10_countIfCarried_28 rfl ?_
      refine r_loc (L' := [some (.ref 35), some (.ref s1), some (.int x2), some (.int x3), some (.int 0)]) dX10_countIfCarried_29 rfl ?_
      refine r_weak (L := [some (.ref 35), none, none, none, some (.int 0)]) (am_le_s (am_le_n (am_le_n (am_le_n (am_le_s am_le_0))))) ?_
      refine rl_X10_countIfCarried_31 (by omega) _ ?_ 4000 0 h2 T3 hf
      · intro h15 T16 hf
        refine r_loc dX10_countIfCarried_58 rfl ?_
        refine r_getR dX10_countIfCarried_59 fl_10_27 sh_35 (Or.inl ⟨_, rfl⟩) (tp_35_1 T16) ?_
        obtain ⟨v18, c17, hf⟩ := cal_inv hf
        have g19 := rf_X7_count (X := X) (d := d) (by omega) 36 st_36 T16 c17
        refine r_virt (pre := []) (rest := []) dX10_countIfCarried_62 ct_10_76 rfl ((sh_S st_36)) (Nat.le_of_ble_eq_true rfl) (Nat.le_of_ble_eq_true rfl) g19 ?_
        cases hf
        exact r_ri T16 dX10_countIfCarried_65
    · refine r_loc dX10_countIfCarried_18 rfl ?_
      refine r_getR dX10_countIfCarried_19 fl_10_27 sh_35 (Or.inl ⟨_, rfl⟩) (tp_35_1 T3) ?_
      refine r_getR dX10_countIfCarried_22 fl_10_69 (sh_S st_36) (Or.inr ⟨_, rfl⟩) (tp_S_2 T3 st_36) ?_
      refine r_loc dX10_countIfCarried_25 rfl ?_
      refine r_loc dX10_countIfCarried_26 rfl ?_
      refine r_iast dX10_countIfCarried_27 (sh_S_2 st_36) hf (fun h20 e22 hf => ?_)
      have T21 := tp_eq e22 T3
      refine r_iconst (v := 0) dX10_countIfCarried_28 rfl ?_
      refine r_loc (L' := [some (.ref 35), some (.ref s1), some (.int x2), some (.int x3), some (.int 0)]) dX10_countIfCarried_29 rfl ?_
      refine r_weak (L := [some (.ref 35), none, none, none, some (.int 0)]) (am_le_s (am_le_n (am_le_n (am_le_n (am_le_s am_le_0))))) ?_
      refine rl_X10_countIfCarried_31 (by omega) _ ?_ 4000 0 h20 T21 hf
      · intro h23 T24 hf
        refine r_loc dX10_countIfCarried_58 rfl ?_
        refine r_getR dX10_countIfCarried_59 fl_10_27 sh_35 (Or.inl ⟨_, rfl⟩) (tp_35_1 T24) ?_
        obtain ⟨v26, c25, hf⟩ := cal_inv hf
        have g27 := rf_X7_count (X := X) (d := d) (by omega) 36 st_36 T24 c25
        refine r_virt (pre := []) (rest := []) dX10_countIfCarried_62 ct_10_76 rfl ((sh_S st_36)) (Nat.le_of_ble_eq_true rfl) (Nat.le_of_ble_eq_true rfl) g27 ?_
        cases hf
        exact r_ri T24 dX10_countIfCarried_65
def jn_X11_best_77 (k_30 : Int32 → Int32 → Int32 → am_H → Option (Int32 × am_H)) (x1 : Int32) (x2 : Int32) (x3 : Int32) (x4 : Int32) (x5 : Int32) (h : am_H) : Option (Int32 × am_H) := cal2 (f_X10_countIfCarried 27 x1 x5 h) fun v7 h9 => if x4 < v7 then k_30 x5 v7 (x5 + 1) h9 else k_30 x3 x4 (x5 + 1) h9
def lp_X11_best_30 (p1 : Int32) (p2 : Int32) (k_113 : Int32 → Int32 → am_H → Option (Int32 × am_H)) : Nat → Int32 → Int32 → Int32 → am_H → Option (Int32 × am_H)
  | 0, _, _, _, _ => none
  | n + 1, x3, x4, x5, h => bnd (h.1 4 6) fun v4 => if x5 < v4 then rdI h (27 + 2) 8 p1 fun v5 => if x5 = v5 then jn_X11_best_77 (lp_X11_best_30 p1 p2 k_113 n) p1 p2 x3 x4 x5 h else cal (f_X7_leftIn 27 x5 h) fun v13 => rdI h (27 + 1) 8 p1 fun v15 => if v13 < v15 then lp_X11_best_30 p1 p2 k_113 n x3 x4 (x5 + 1) h else jn_X11_best_77 (lp_X11_best_30 p1 p2 k_113 n) p1 p2 x3 x4 x5 h else k_113 x3 x4 h
def f_X11_best (x1 : Int32) (x2 : Int32) (h : am_H) : Option (Int32 × am_H) := cal (f_X7_has 27 x1 h) fun v2 => if v2 = 0 then some ((-1), h) else if x2 < 0 then some ((-1), h) else if 1 < x2 then some ((-1), h) else lp_X11_best_30 x1 x2 (fun z16 z17 h18 => if x2 = 0 then some (z16, h18) else some (z17, h18)) 4000 (-1) (-1) 0 h
theorem rj_X11_best_77 {X : am_X} {d : Nat} (hd : 7 ≤ d) (k_30 : Int32 → Int32 → Int32 → am_H → Option (Int32 × am_H)) (x1 : Int32) (x2 : Int32) (x3 : Int32) (x4 : Int32) (x5 : Int32) {h : am_H} (T : am_TP h.2.2) {r : Int32 × am_H} (hk_30 : ∀ (x3 : Int32) (x4 : Int32) (x5 : Int32) (h : am_H), am_TP h.2.2 → k_30 x3 x4 x5 h = some r → am_G X d 11 false cX11_best (some .int) 30 [some (.ref 0), some (.int x1), some (.int x2), some (.int x3), some (.int x4), some (.int x5), none] [] (am_SH, h) (some (.int r.1), (am_SH, r.2))) (hf : jn_X11_best_77 k_30 x1 x2 x3 x4 x5 h = some r) : am_G X d 11 false cX11_best (some .int) 77 [some (.ref 0), some (.int x1), some (.int x2), some (.int x3), some (.int x4), some (.int x5), none] [] (am_SH, h) (some (.int r.1), (am_SH, r.2)) := by
  obtain ⟨d, rfl⟩ : ∃ e, d = e + 1 := ⟨d - 1, by omega⟩
  unfold jn_X11_best_77 at hf
  refine r_loc dX11_best_77 rfl ?_
  refine r_getR dX11_best_78 fl_11_44 sh_0 (Or.inl ⟨_, rfl⟩) (tp_0_4 T) ?_
  refine r_loc dX11_best_81 rfl ?_
  refine r_getR dX11_best_82 fl_11_37 sh_0 (Or.inl ⟨_, rfl⟩) (tp_0_3 T) ?_
  refine r_loc dX11_best_85 rfl ?_
  refine r_loc dX11_best_86 rfl ?_
  obtain ⟨v7, h9, c6, hf⟩ := cal2_inv hf
  have g11 := rf_X10_countIfCarried (X := X) (d := d) (by omega) 27 x1 x5 st_27 T c6
  have T10 : am_TP h9.2.2 := g11.2
  refine r_virt (pre := [.int x5, .int x1, .ref 27]) (rest := []) dX11_best_88 ct_11_221 rfl (sh_35) (Nat.le_of_ble_eq_true rfl) (Nat.le_of_ble_eq_true rfl) g11 ?_
  refine r_loc (L' := [some (.ref 0), some (.int x1), some (.int x2), some (.int x3), some (.int x4), some (.int x5), some (.int v7)]) dX11_best_91 rfl ?_
  refine r_loc dX11_best_93 rfl ?_
  refine r_loc dX11_best_95 rfl ?_
  refine r_le (q := 107) dX11_best_97 rfl hf (fun hf => ?_) (fun hf => ?_)
  · refine r_loc (L' := [some (.ref 0), some (.int x1), some (.int x2), some (.int x3), some (.int x4), some (.int (x5 + 1)), some (.int v7)]) dX11_best_107 rfl ?_
    refine r_goto (q := 30) dX11_best_110 rfl ?_
    refine r_weak (L := [some (.ref 0), some (.int x1), some (.int x2), some (.int x3), some (.int x4), some (.int (x5 + 1)), none]) (am_le_s (am_le_s (am_le_s (am_le_s (am_le_s (am_le_s (am_le_n am_le_0))))))) ?_
    exact hk_30 x3 x4 (x5 + 1) h9 T10 hf
  · refine r_loc dX11_best_100 rfl ?_
    refine r_loc (L' := [some (.ref 0), some (.int x1), some (.int x2), some (.int x5), some (.int x4), some (.int x5), some (.int v7)]) dX11_best_102 rfl ?_
    refine r_loc dX11_best_103 rfl ?_
    refine r_loc (L' := [some (.ref 0), some (.int x1), some (.int x2), some (.int x5), some (.int v7), some (.int x5), some (.int v7)]) dX11_best_105 rfl ?_
    refine r_loc (L' := [some (.ref 0), some (.int x1), some (.int x2), some (.int x5), some (.int v7), some (.int (x5 + 1)), some (.int v7)]) dX11_best_107 rfl ?_
    refine r_goto (q := 30) dX11_best_110 rfl ?_
    refine r_weak (L := [some (.ref 0), some (.int x1), some (.int x2), some (.int x5), some (.int v7), some (.int (x5 + 1)), none]) (am_le_s (am_le_s (am_le_s (am_le_s (am_le_s (am_le_s (am_le_n am_le_0))))))) ?_
    exact hk_30 x5 v7 (x5 + 1) h9 T10 hf
theorem rl_X11_best_30 {X : am_X} {d : Nat} (hd : 7 ≤ d) (p1 : Int32) (p2 : Int32) (k_113 : Int32 → Int32 → am_H → Option (Int32 × am_H)) {r : Int32 × am_H} (hk_113 : ∀ (z3 : Int32) (z4 : Int32) (h : am_H), am_TP h.2.2 → k_113 z3 z4 h = some r → am_G X d 11 false cX11_best (some .int) 113 [none, none, some (.int p2), some (.int z3), some (.int z4), none, none] [] (am_SH, h) (some (.int r.1), (am_SH, r.2))) : ∀ (n : Nat) (x3 : Int32) (x4 : Int32) (x5 : Int32) (h : am_H), am_TP h.2.2 → lp_X11_best_30 p1 p2 k_113 n x3 x4 x5 h = some r → am_G X d 11 false cX11_best (some .int) 30 [some (.ref 0), some (.int p1), some (.int p2), some (.int x3), some (.int x4), some (.int x5), none] [] (am_SH, h) (some (.int r.1), (am_SH, r.2)) := by
  obtain ⟨d, rfl⟩ : ∃ e, d = e + 1 := ⟨d - 1, by omega⟩
  intro n
  induction n with
  | zero => intro x3 x4 x5 h T hf; cases hf
  | succ n ih =>
    intro x3 x4 x5 h T hf
    rw [lp_X11_best_30] at hf
    refine r_loc dX11_best_30 rfl ?_
    refine r_loc dX11_best_32 rfl ?_
    refine r_getR dX11_best_33 fl_11_19 sh_0 (Or.inl ⟨_, rfl⟩) (tp_0_1 T) ?_
    refine r_getI dX11_best_36 fl_11_218 sh_4 rfl hf (fun v4 hf => ?_)
    refine r_ge (q := 113) dX11_best_39 rfl hf (fun hf => ?_) (fun hf => ?_)
    · refine r_weak (L := [none, none, some (.int p2), some (.int x3), some (.int x4), none, none]) (am_le_n (am_le_n (am_le_s (am_le_s (am_le_s (am_le_n (am_le_n am_le_0))))))) ?_
      exact hk_113 x3 x4 h T hf
    · refine r_loc dX11_best_42 rfl ?_
      refine r_loc dX11_best_44 rfl ?_
      refine r_getR dX11_best_45 fl_11_37 sh_0 (Or.inl ⟨_, rfl⟩) (tp_0_3 T) ?_
      refine r_getR dX11_best_48 fl_11_143 (sh_S st_27) (Or.inr ⟨_, rfl⟩) (tp_S_2 T st_27) ?_
      refine r_loc dX11_best_51 rfl ?_
      refine r_iald dX11_best_52 (sh_S_2 st_27) hf (fun v5 hf => ?_)
      refine r_eq (q := 77) dX11_best_53 rfl hf (fun hf => ?_) (fun hf => ?_)
      · exact rj_X11_best_77 (by omega) (lp_X11_best_30 p1 p2 k_113 n) p1 p2 x3 x4 x5 T (ih) hf
      · refine r_loc dX11_best_56 rfl ?_
        refine r_getR dX11_best_57 fl_11_37 sh_0 (Or.inl ⟨_, rfl⟩) (tp_0_3 T) ?_
        refine r_loc dX11_best_60 rfl ?_
        obtain ⟨v13, c12, hf⟩ := cal_inv hf
        have g14 := rf_X7_leftIn (X := X) (d := d) (by omega) 27 x5 st_27 T c12
        refine r_virt (pre := [.int x5]) (rest := []) dX11_best_62 ct_11_130 rfl ((sh_S st_27)) (Nat.le_of_ble_eq_true rfl) (Nat.le_of_ble_eq_true rfl) g14 ?_
        refine r_loc dX11_best_65 rfl ?_
        refine r_getR dX11_best_66 fl_11_37 sh_0 (Or.inl ⟨_, rfl⟩) (tp_0_3 T) ?_
        refine r_getR dX11_best_69 fl_11_140 (sh_S st_27) (Or.inr ⟨_, rfl⟩) (tp_S_1 T st_27) ?_
        refine r_loc dX11_best_72 rfl ?_
        refine r_iald dX11_best_73 (sh_S_1 st_27) hf (fun v15 hf => ?_)
        refine r_lt (q := 107) dX11_best_74 rfl hf (fun hf => ?_) (fun hf => ?_)
        · refine r_loc (L' := [some (.ref 0), some (.int p1), some (.int p2), some (.int x3), some (.int x4), some (.int (x5 + 1)), none]) dX11_best_107 rfl ?_
          refine r_goto (q := 30) dX11_best_110 rfl ?_
          exact ih x3 x4 (x5 + 1) h T hf
        · exact rj_X11_best_77 (by omega) (lp_X11_best_30 p1 p2 k_113 n) p1 p2 x3 x4 x5 T (ih) hf
theorem rf_X11_best {X : am_X} {d : Nat} (hd : 7 ≤ d) (x1 : Int32) (x2 : Int32) {h : am_H} (T : am_TP h.2.2) {r : Int32 × am_H} (hf : f_X11_best x1 x2 h = some r) : am_G X d 11 false cX11_best (some .int) 0 [some (.ref 0), some (.int x1), some (.int x2), none, none, none, none] [] (am_SH, h) (some (.int r.1), (am_SH, r.2)) := by
  unfold f_X11_best at hf
  obtain ⟨d, rfl⟩ : ∃ e, d = e + 1 := ⟨d - 1, by omega⟩
  refine r_loc dX11_best_0 rfl ?_
  refine r_getR dX11_best_1 fl_11_37 sh_0 (Or.inl ⟨_, rfl⟩) (tp_0_3 T) ?_
  refine r_loc dX11_best_4 rfl ?_
  obtain ⟨v2, c1, hf⟩ := cal_inv hf
  have g3 := rf_X7_has (X := X) (d := d) (by omega) 27 x1 st_27 T c1
  refine r_virt (pre := [.int x1]) (rest := []) dX11_best_5 ct_11_137 rfl ((sh_S st_27)) (Nat.le_of_ble_eq_true rfl) (Nat.le_of_ble_eq_true rfl) g3 ?_
  refine r_eq0 (q := 20) dX11_best_8 rfl hf (fun hf => ?_) (fun hf => ?_)
  · refine r_iconst (v := (-1)) dX11_best_20 rfl ?_
    cases hf
    exact r_ri T dX11_best_21
  · refine r_loc dX11_best_11 rfl ?_
    refine r_lt0 (q := 20) dX11_best_12 rfl hf (fun hf => ?_) (fun hf => ?_)
    · refine r_iconst (v := (-1)) dX11_best_20 rfl ?_
      cases hf
      exact r_ri T dX11_best_21
    · refine r_loc dX11_best_15 rfl ?_
      refine r_iconst (v := 1) dX11_best_16 rfl ?_
      refine r_le (q := 22) dX11_best_17 rfl hf (fun hf => ?_) (fun hf => ?_)
      · refine r_iconst (v := (-1)) dX11_best_22 rfl ?_
        refine r_loc (L' := [some (.ref 0), some (.int x1), some (.int x2), some (.int (-1)), none, none, none]) dX11_best_23 rfl ?_
        refine r_iconst (v := (-1)) dX11_best_24 rfl ?_
        refine r_loc (L' := [some (.ref 0), some (.int x1), some (.int x2), some (.int (-1)), some (.int (-1)), none, none]) dX11_best_25 rfl ?_
        refine r_iconst (v := 0) dX11_best_27 rfl ?_
        refine r_loc (L' := [some (.ref 0), some (.int x1), some (.int x2), some (.int (-1)), some (.int (-1)), some (.int 0), none]) dX11_best_28 rfl ?_
        refine rl_X11_best_30 (by omega) x1 x2 _ ?_ 4000 (-1) (-1) 0 h T hf
        · intro z16 z17 h18 T19 hf
          refine r_loc dX11_best_113 rfl ?_
          refine r_ne0 (q := 121) dX11_best_114 rfl hf (fun hf => ?_) (fun hf => ?_)
          · refine r_loc dX11_best_121 rfl ?_
            cases hf
            exact r_ri T19 dX11_best_123
          · refine r_loc dX11_best_117 rfl ?_
            refine r_goto (q := 123) dX11_best_118 rfl ?_
            cases hf
            exact r_ri T19 dX11_best_123
      · refine r_iconst (v := (-1)) dX11_best_20 rfl ?_
        cases hf
        exact r_ri T dX11_best_21
def lp_X7_allMarks_4 (s0 : Nat) (h : am_H) : Nat → Int32 → Int32 → Option (Int32)
  | 0, _, _ => none
  | n + 1, x1, x2 => if x2 < 8 then rdI h (s0 + 3) 8 x2 fun v1 => lp_X7_allMarks_4 s0 h n (x1 ||| v1) (x2 + 1) else some x1
def f_X7_allMarks (s0 : Nat) (h : am_H) : Option (Int32) := lp_X7_allMarks_4 s0 h  4000 0 0
theorem rl_X7_allMarks_4 {X : am_X} {d : Nat} (hd : 0 ≤ d) (s0 : Nat) (hs0 : s0 ∈ am_ST) {h : am_H} (T : am_TP h.2.2) {r : Int32} : ∀ (n : Nat) (x1 : Int32) (x2 : Int32) , lp_X7_allMarks_4 s0 h n x1 x2 = some r → am_G X d 7 false cX7_allMarks (some .int) 4 [some (.ref s0), some (.int x1), some (.int x2)] [] (am_SH, h) (some (.int r), (am_SH, h)) := by
  intro n
  induction n with
  | zero => intro x1 x2 hf; cases hf
  | succ n ih =>
    intro x1 x2 hf
    rw [lp_X7_allMarks_4] at hf
    refine r_loc dX7_allMarks_4 rfl ?_
    refine r_bipush (v := 8) dX7_allMarks_5 rfl ?_
    refine r_ge (q := 25) dX7_allMarks_7 rfl hf (fun hf => ?_) (fun hf => ?_)
    · refine r_loc dX7_allMarks_25 rfl ?_
      cases hf
      exact r_ri T dX7_allMarks_26
    · refine r_loc dX7_allMarks_10 rfl ?_
      refine r_loc dX7_allMarks_11 rfl ?_
      refine r_getR dX7_allMarks_12 fl_7_18 (sh_S hs0) (Or.inr ⟨_, rfl⟩) (tp_S_3 T hs0) ?_
      refine r_loc dX7_allMarks_15 rfl ?_
      refine r_iald dX7_allMarks_16 (sh_S_3 hs0) hf (fun v1 hf => ?_)
      refine r_alu dX7_allMarks_17 rfl ?_
      refine r_loc (L' := [some (.ref s0), some (.int (x1 ||| v1)), some (.int x2)]) dX7_allMarks_18 rfl ?_
      refine r_loc (L' := [some (.ref s0), some (.int (x1 ||| v1)), some (.int (x2 + 1))]) dX7_allMarks_19 rfl ?_
      refine r_goto (q := 4) dX7_allMarks_22 rfl ?_
      exact ih (x1 ||| v1) (x2 + 1) hf
theorem rf_X7_allMarks {X : am_X} {d : Nat} (hd : 0 ≤ d) (s0 : Nat) (hs0 : s0 ∈ am_ST) {h : am_H} (T : am_TP h.2.2) {r : Int32} (hf : f_X7_allMarks s0 h = some r) : am_G X d 7 false cX7_allMarks (some .int) 0 [some (.ref s0), none, none] [] (am_SH, h) (some (.int r), (am_SH, h)) := by
  unfold f_X7_allMarks at hf
  refine r_iconst (v := 0) dX7_allMarks_0 rfl ?_
  refine r_loc (L' := [some (.ref s0), some (.int 0), none]) dX7_allMarks_1 rfl ?_
  refine r_iconst (v := 0) dX7_allMarks_2 rfl ?_
  refine r_loc (L' := [some (.ref s0), some (.int 0), some (.int 0)]) dX7_allMarks_3 rfl ?_
  refine rl_X7_allMarks_4 (by omega) s0 hs0 T  4000 0 0  hf
def f_X11_fading (x1 : Int32) (h : am_H) : Option (Int32 × am_H) := cal (f_X11_canLieAhead x1 h) fun v2 => if v2 = 0 then some ((-1), h) else cal (f_X7_allMarks 27 h) fun v5 => bnd (h.1 4 8) fun v7 => cal (f_X10_behind 27 x1 v7 h) fun h9 => cal (f_X7_allMarks 36 h9) fun v13 => some ((v5 &&& (v13 ^^^ ((-1) : Int32))), h9)
theorem rf_X11_fading {X : am_X} {d : Nat} (hd : 7 ≤ d) (x1 : Int32) {h : am_H} (T : am_TP h.2.2) {r : Int32 × am_H} (hf : f_X11_fading x1 h = some r) : am_G X d 11 false cX11_fading (some .int) 0 [some (.ref 0), some (.int x1)] [] (am_SH, h) (some (.int r.1), (am_SH, r.2)) := by
  unfold f_X11_fading at hf
  obtain ⟨d, rfl⟩ : ∃ e, d = e + 1 := ⟨d - 1, by omega⟩
  refine r_loc dX11_fading_0 rfl ?_
  obtain ⟨v2, c1, hf⟩ := cal_inv hf
  have g3 := rf_X11_canLieAhead (X := X) (d := d) (by omega) x1 T c1
  refine r_stat (pre := [.int x1]) (rest := []) dX11_fading_1 ct_11_201 rfl (Nat.le_of_ble_eq_true rfl) (Nat.le_of_ble_eq_true rfl) g3 ?_
  refine r_eq0 (q := 42) dX11_fading_4 rfl hf (fun hf => ?_) (fun hf => ?_)
  · refine r_iconst (v := (-1)) dX11_fading_42 rfl ?_
    cases hf
    exact r_ri T dX11_fading_43
  · refine r_loc dX11_fading_7 rfl ?_
    refine r_getR dX11_fading_8 fl_11_37 sh_0 (Or.inl ⟨_, rfl⟩) (tp_0_3 T) ?_
    obtain ⟨v5, c4, hf⟩ := cal_inv hf
    have g6 := rf_X7_allMarks (X := X) (d := d) (by omega) 27 st_27 T c4
    refine r_virt (pre := []) (rest := []) dX11_fading_11 ct_11_224 rfl ((sh_S st_27)) (Nat.le_of_ble_eq_true rfl) (Nat.le_of_ble_eq_true rfl) g6 ?_
    refine r_loc dX11_fading_14 rfl ?_
    refine r_getR dX11_fading_15 fl_11_44 sh_0 (Or.inl ⟨_, rfl⟩) (tp_0_4 T) ?_
    refine r_loc dX11_fading_18 rfl ?_
    refine r_getR dX11_fading_19 fl_11_37 sh_0 (Or.inl ⟨_, rfl⟩) (tp_0_3 T) ?_
    refine r_loc dX11_fading_22 rfl ?_
    refine r_loc dX11_fading_23 rfl ?_
    refine r_getR dX11_fading_24 fl_11_19 sh_0 (Or.inl ⟨_, rfl⟩) (tp_0_1 T) ?_
    refine r_getI dX11_fading_27 fl_11_176 sh_4 rfl hf (fun v7 hf => ?_)
    obtain ⟨h9, c8, hf⟩ := cal_inv hf
    have g11 := rf_X10_behind (X := X) (d := d) (by omega) 27 x1 v7 st_27 T c8
    have T10 : am_TP h9.2.2 := g11.2
    refine r_virt (pre := [.int v7, .int x1, .ref 27]) (rest := [.int v5]) dX11_fading_30 ct_11_204 rfl (sh_35) (Nat.le_of_ble_eq_true rfl) (Nat.le_of_ble_eq_true rfl) g11 ?_
    obtain ⟨v13, c12, hf⟩ := cal_inv hf
    have g14 := rf_X7_allMarks (X := X) (d := d) (by omega) 36 st_36 T10 c12
    refine r_virt (pre := []) (rest := [.int v5]) dX11_fading_33 ct_11_224 rfl ((sh_S st_36)) (Nat.le_of_ble_eq_true rfl) (Nat.le_of_ble_eq_true rfl) g14 ?_
    refine r_iconst (v := (-1)) dX11_fading_36 rfl ?_
    refine r_alu dX11_fading_37 rfl ?_
    refine r_alu dX11_fading_38 rfl ?_
    refine r_goto (q := 43) dX11_fading_39 rfl ?_
    cases hf
    exact r_ri T10 dX11_fading_43
def lp_X11_ripe_4 : Nat → Int32 → Int32 → am_H → Option (Int32 × am_H)
  | 0, _, _, _ => none
  | n + 1, x1, x2, h => bnd (h.1 4 6) fun v1 => if x2 < v1 then cal2 (f_X10_isRipe 27 x2 h) fun v3 h5 => if v3 = 0 then lp_X11_ripe_4 n x1 (x2 + 1) h5 else lp_X11_ripe_4 n (x1 ||| ((1 : Int32) <<< (x2 &&& 31))) (x2 + 1) h5 else some (x1, h)
def f_X11_ripe  (h : am_H) : Option (Int32 × am_H) := lp_X11_ripe_4  4000 0 0 h
theorem rl_X11_ripe_4 {X : am_X} {d : Nat} (hd : 5 ≤ d) {r : Int32 × am_H} : ∀ (n : Nat) (x1 : Int32) (x2 : Int32) (h : am_H), am_TP h.2.2 → lp_X11_ripe_4 n x1 x2 h = some r → am_G X d 11 false cX11_ripe (some .int) 4 [some (.ref 0), some (.int x1), some (.int x2)] [] (am_SH, h) (some (.int r.1), (am_SH, r.2)) := by
  obtain ⟨d, rfl⟩ : ∃ e, d = e + 1 := ⟨d - 1, by omega⟩
  intro n
  induction n with
  | zero => intro x1 x2 h T hf; cases hf
  | succ n ih =>
    intro x1 x2 h T hf
    rw [lp_X11_ripe_4] at hf
    refine r_loc dX11_ripe_4 rfl ?_
    refine r_loc dX11_ripe_5 rfl ?_
    refine r_getR dX11_ripe_6 fl_11_19 sh_0 (Or.inl ⟨_, rfl⟩) (tp_0_1 T) ?_
    refine r_getI dX11_ripe_9 fl_11_218 sh_4 rfl hf (fun v1 hf => ?_)
    refine r_ge (q := 42) dX11_ripe_12 rfl hf (fun hf => ?_) (fun hf => ?_)
    · refine r_loc dX11_ripe_42 rfl ?_
      cases hf
      exact r_ri T dX11_ripe_43
    · refine r_loc dX11_ripe_15 rfl ?_
      refine r_getR dX11_ripe_16 fl_11_44 sh_0 (Or.inl ⟨_, rfl⟩) (tp_0_4 T) ?_
      refine r_loc dX11_ripe_19 rfl ?_
      refine r_getR dX11_ripe_20 fl_11_37 sh_0 (Or.inl ⟨_, rfl⟩) (tp_0_3 T) ?_
      refine r_loc dX11_ripe_23 rfl ?_
      obtain ⟨v3, h5, c2, hf⟩ := cal2_inv hf
      have g7 := rf_X10_isRipe (X := X) (d := d) (by omega) 27 x2 st_27 T c2
      have T6 : am_TP h5.2.2 := g7.2
      refine r_virt (pre := [.int x2, .ref 27]) (rest := []) dX11_ripe_24 ct_11_227 rfl (sh_35) (Nat.le_of_ble_eq_true rfl) (Nat.le_of_ble_eq_true rfl) g7 ?_
      refine r_eq0 (q := 36) dX11_ripe_27 rfl hf (fun hf => ?_) (fun hf => ?_)
      · refine r_loc (L' := [some (.ref 0), some (.int x1), some (.int (x2 + 1))]) dX11_ripe_36 rfl ?_
        refine r_goto (q := 4) dX11_ripe_39 rfl ?_
        exact ih x1 (x2 + 1) h5 T6 hf
      · refine r_loc dX11_ripe_30 rfl ?_
        refine r_iconst (v := 1) dX11_ripe_31 rfl ?_
        refine r_loc dX11_ripe_32 rfl ?_
        refine r_alu dX11_ripe_33 rfl ?_
        refine r_alu dX11_ripe_34 rfl ?_
        refine r_loc (L' := [some (.ref 0), some (.int (x1 ||| ((1 : Int32) <<< (x2 &&& 31)))), some (.int x2)]) dX11_ripe_35 rfl ?_
        refine r_loc (L' := [some (.ref 0), some (.int (x1 ||| ((1 : Int32) <<< (x2 &&& 31)))), some (.int (x2 + 1))]) dX11_ripe_36 rfl ?_
        refine r_goto (q := 4) dX11_ripe_39 rfl ?_
        exact ih (x1 ||| ((1 : Int32) <<< (x2 &&& 31))) (x2 + 1) h5 T6 hf
theorem rf_X11_ripe {X : am_X} {d : Nat} (hd : 5 ≤ d)  {h : am_H} (T : am_TP h.2.2) {r : Int32 × am_H} (hf : f_X11_ripe  h = some r) : am_G X d 11 false cX11_ripe (some .int) 0 [some (.ref 0), none, none] [] (am_SH, h) (some (.int r.1), (am_SH, r.2)) := by
  unfold f_X11_ripe at hf
  obtain ⟨d, rfl⟩ : ∃ e, d = e + 1 := ⟨d - 1, by omega⟩
  refine r_iconst (v := 0) dX11_ripe_0 rfl ?_
  refine r_loc (L' := [some (.ref 0), some (.int 0), none]) dX11_ripe_1 rfl ?_
  refine r_iconst (v := 0) dX11_ripe_2 rfl ?_
  refine r_loc (L' := [some (.ref 0), some (.int 0), some (.int 0)]) dX11_ripe_3 rfl ?_
  refine rl_X11_ripe_4 (by omega)  4000 0 0 h T hf
def f_X11_law (x1 : Int32) (x2 : Int32) (h : am_H) : Option (Int32 × am_H) := if x1 < 1 then some ((-1), h) else if 9 < x1 then some ((-1), h) else cal (f_X11_canLieAhead x2 h) fun v2 => if v2 = 0 then some ((-1), h) else cal (f_X10_behind 27 x2 x1 h) fun h5 => cal (f_X7_count 36 h5) fun v9 => some (v9, h5)
theorem rf_X11_law {X : am_X} {d : Nat} (hd : 7 ≤ d) (x1 : Int32) (x2 : Int32) {h : am_H} (T : am_TP h.2.2) {r : Int32 × am_H} (hf : f_X11_law x1 x2 h = some r) : am_G X d 11 false cX11_law (some .int) 0 [some (.ref 0), some (.int x1), some (.int x2)] [] (am_SH, h) (some (.int r.1), (am_SH, r.2)) := by
  unfold f_X11_law at hf
  obtain ⟨d, rfl⟩ : ∃ e, d = e + 1 := ⟨d - 1, by omega⟩
  refine r_loc dX11_law_0 rfl ?_
  refine r_iconst (v := 1) dX11_law_1 rfl ?_
  refine r_lt (q := 18) dX11_law_2 rfl hf (fun hf => ?_) (fun hf => ?_)
  · refine r_iconst (v := (-1)) dX11_law_18 rfl ?_
    cases hf
    exact r_ri T dX11_law_19
  · refine r_loc dX11_law_5 rfl ?_
    refine r_bipush (v := 9) dX11_law_6 rfl ?_
    refine r_gt (q := 18) dX11_law_8 rfl hf (fun hf => ?_) (fun hf => ?_)
    · refine r_iconst (v := (-1)) dX11_law_18 rfl ?_
      cases hf
      exact r_ri T dX11_law_19
    · refine r_loc dX11_law_11 rfl ?_
      obtain ⟨v2, c1, hf⟩ := cal_inv hf
      have g3 := rf_X11_canLieAhead (X := X) (d := d) (by omega) x2 T c1
      refine r_stat (pre := [.int x2]) (rest := []) dX11_law_12 ct_11_201 rfl (Nat.le_of_ble_eq_true rfl) (Nat.le_of_ble_eq_true rfl) g3 ?_
      refine r_ne0 (q := 20) dX11_law_15 rfl hf (fun hf => ?_) (fun hf => ?_)
      · refine r_loc dX11_law_20 rfl ?_
        refine r_getR dX11_law_21 fl_11_44 sh_0 (Or.inl ⟨_, rfl⟩) (tp_0_4 T) ?_
        refine r_loc dX11_law_24 rfl ?_
        refine r_getR dX11_law_25 fl_11_37 sh_0 (Or.inl ⟨_, rfl⟩) (tp_0_3 T) ?_
        refine r_loc dX11_law_28 rfl ?_
        refine r_loc dX11_law_29 rfl ?_
        obtain ⟨h5, c4, hf⟩ := cal_inv hf
        have g7 := rf_X10_behind (X := X) (d := d) (by omega) 27 x2 x1 st_27 T c4
        have T6 : am_TP h5.2.2 := g7.2
        refine r_virt (pre := [.int x1, .int x2, .ref 27]) (rest := []) dX11_law_30 ct_11_204 rfl (sh_35) (Nat.le_of_ble_eq_true rfl) (Nat.le_of_ble_eq_true rfl) g7 ?_
        obtain ⟨v9, c8, hf⟩ := cal_inv hf
        have g10 := rf_X7_count (X := X) (d := d) (by omega) 36 st_36 T6 c8
        refine r_virt (pre := []) (rest := []) dX11_law_33 ct_11_231 rfl ((sh_S st_36)) (Nat.le_of_ble_eq_true rfl) (Nat.le_of_ble_eq_true rfl) g10 ?_
        cases hf
        exact r_ri T6 dX11_law_36
      · refine r_iconst (v := (-1)) dX11_law_18 rfl ?_
        cases hf
        exact r_ri T dX11_law_19
def lp_X10_untilGone_10 (p2 : Int32) : Nat → Int32 → am_H → Option (Int32 × am_H)
  | 0, _, _ => none
  | n + 1, x3, h => if 30 < x3 then some ((-1), h) else bnd (h.1 4 8) fun v5 => cal (f_X10_pass 36 v5 h) fun h7 => bnd (h7.1 35 3) fun v10 => if ((v10 >>> (p2 &&& 31)) &&& 1) = 0 then lp_X10_untilGone_10 p2 n (x3 + 1) h7 else some (x3, h7)
def f_X10_untilGone (s1 : Nat) (x2 : Int32) (h : am_H) : Option (Int32 × am_H) := cal (f_X7_copyFrom 36 s1 h) fun h2 => lp_X10_untilGone_10 x2  4000 1 h2
theorem rl_X10_untilGone_10 {X : am_X} {d : Nat} (hd : 6 ≤ d) (p2 : Int32) {r : Int32 × am_H} : ∀ (n : Nat) (x3 : Int32) (h : am_H), am_TP h.2.2 → lp_X10_untilGone_10 p2 n x3 h = some r → am_G X d 10 false cX10_untilGone (some .int) 10 [some (.ref 35), none, some (.int p2), some (.int x3)] [] (am_SH, h) (some (.int r.1), (am_SH, r.2)) := by
  obtain ⟨d, rfl⟩ : ∃ e, d = e + 1 := ⟨d - 1, by omega⟩
  intro n
  induction n with
  | zero => intro x3 h T hf; cases hf
  | succ n ih =>
    intro x3 h T hf
    rw [lp_X10_untilGone_10] at hf
    refine r_loc dX10_untilGone_10 rfl ?_
    refine r_bipush (v := 30) dX10_untilGone_11 rfl ?_
    refine r_gt (q := 50) dX10_untilGone_13 rfl hf (fun hf => ?_) (fun hf => ?_)
    · refine r_iconst (v := (-1)) dX10_untilGone_50 rfl ?_
      cases hf
      exact r_ri T dX10_untilGone_51
    · refine r_loc dX10_untilGone_16 rfl ?_
      refine r_loc dX10_untilGone_17 rfl ?_
      refine r_getR dX10_untilGone_18 fl_10_27 sh_35 (Or.inl ⟨_, rfl⟩) (tp_35_1 T) ?_
      refine r_loc dX10_untilGone_21 rfl ?_
      refine r_getR dX10_untilGone_22 fl_10_18 sh_35 (Or.inl ⟨_, rfl⟩) (tp_35_0 T) ?_
      refine r_getI dX10_untilGone_25 fl_10_73 sh_4 rfl hf (fun v5 hf => ?_)
      obtain ⟨h7, c6, hf⟩ := cal_inv hf
      have g9 := rf_X10_pass (X := X) (d := d) (by omega) 36 v5 st_36 T c6
      have T8 : am_TP h7.2.2 := g9.2
      refine r_virt (pre := [.int v5, .ref 36]) (rest := []) dX10_untilGone_28 ct_10_66 rfl (sh_35) (Nat.le_of_ble_eq_true rfl) (Nat.le_of_ble_eq_true rfl) g9 ?_
      refine r_loc dX10_untilGone_31 rfl ?_
      refine r_getI dX10_untilGone_32 fl_10_15 sh_35 rfl hf (fun v10 hf => ?_)
      refine r_loc dX10_untilGone_35 rfl ?_
      refine r_alu dX10_untilGone_36 rfl ?_
      refine r_iconst (v := 1) dX10_untilGone_37 rfl ?_
      refine r_alu dX10_untilGone_38 rfl ?_
      refine r_eq0 (q := 44) dX10_untilGone_39 rfl hf (fun hf => ?_) (fun hf => ?_)
      · refine r_loc (L' := [some (.ref 35), none, some (.int p2), some (.int (x3 + 1))]) dX10_untilGone_44 rfl ?_
        refine r_goto (q := 10) dX10_untilGone_47 rfl ?_
        exact ih (x3 + 1) h7 T8 hf
      · refine r_loc dX10_untilGone_42 rfl ?_
        cases hf
        exact r_ri T8 dX10_untilGone_43
theorem rf_X10_untilGone {X : am_X} {d : Nat} (hd : 6 ≤ d) (s1 : Nat) (x2 : Int32) (hs1 : s1 ∈ am_ST) {h : am_H} (T : am_TP h.2.2) {r : Int32 × am_H} (hf : f_X10_untilGone s1 x2 h = some r) : am_G X d 10 false cX10_untilGone (some .int) 0 [some (.ref 35), some (.ref s1), some (.int x2), none] [] (am_SH, h) (some (.int r.1), (am_SH, r.2)) := by
  unfold f_X10_untilGone at hf
  obtain ⟨d, rfl⟩ : ∃ e, d = e + 1 := ⟨d - 1, by omega⟩
  refine r_loc dX10_untilGone_0 rfl ?_
  refine r_getR dX10_untilGone_1 fl_10_27 sh_35 (Or.inl ⟨_, rfl⟩) (tp_35_1 T) ?_
  refine r_loc dX10_untilGone_4 rfl ?_
  obtain ⟨h2, c1, hf⟩ := cal_inv hf
  have g4 := rf_X7_copyFrom (X := X) (d := d) (by omega) 36 s1 st_36 hs1 T c1
  have T3 : am_TP h2.2.2 := g4.2
  refine r_virt (pre := [.ref s1]) (rest := []) dX10_untilGone_5 ct_10_63 rfl ((sh_S st_36)) (Nat.le_of_ble_eq_true rfl) (Nat.le_of_ble_eq_true rfl) g4 ?_
  refine r_iconst (v := 1) dX10_untilGone_8 rfl ?_
  refine r_loc (L' := [some (.ref 35), some (.ref s1), some (.int x2), some (.int 1)]) dX10_untilGone_9 rfl ?_
  refine r_weak (L := [some (.ref 35), none, some (.int x2), some (.int 1)]) (am_le_s (am_le_n (am_le_s (am_le_s am_le_0)))) ?_
  refine rl_X10_untilGone_10 (by omega) x2  4000 1 h2 T3 hf
def f_X11_gone (x1 : Int32) (h : am_H) : Option (Int32 × am_H) := cal (f_X7_has 27 x1 h) fun v2 => if v2 = 0 then some ((-1), h) else cal2 (f_X10_untilGone 27 x1 h) fun v5 h7 => some (v5, h7)
theorem rf_X11_gone {X : am_X} {d : Nat} (hd : 7 ≤ d) (x1 : Int32) {h : am_H} (T : am_TP h.2.2) {r : Int32 × am_H} (hf : f_X11_gone x1 h = some r) : am_G X d 11 false cX11_gone (some .int) 0 [some (.ref 0), some (.int x1)] [] (am_SH, h) (some (.int r.1), (am_SH, r.2)) := by
  unfold f_X11_gone at hf
  obtain ⟨d, rfl⟩ : ∃ e, d = e + 1 := ⟨d - 1, by omega⟩
  refine r_loc dX11_gone_0 rfl ?_
  refine r_getR dX11_gone_1 fl_11_37 sh_0 (Or.inl ⟨_, rfl⟩) (tp_0_3 T) ?_
  refine r_loc dX11_gone_4 rfl ?_
  obtain ⟨v2, c1, hf⟩ := cal_inv hf
  have g3 := rf_X7_has (X := X) (d := d) (by omega) 27 x1 st_27 T c1
  refine r_virt (pre := [.int x1]) (rest := []) dX11_gone_5 ct_11_137 rfl ((sh_S st_27)) (Nat.le_of_ble_eq_true rfl) (Nat.le_of_ble_eq_true rfl) g3 ?_
  refine r_eq0 (q := 26) dX11_gone_8 rfl hf (fun hf => ?_) (fun hf => ?_)
  · refine r_iconst (v := (-1)) dX11_gone_26 rfl ?_
    cases hf
    exact r_ri T dX11_gone_27
  · refine r_loc dX11_gone_11 rfl ?_
    refine r_getR dX11_gone_12 fl_11_44 sh_0 (Or.inl ⟨_, rfl⟩) (tp_0_4 T) ?_
    refine r_loc dX11_gone_15 rfl ?_
    refine r_getR dX11_gone_16 fl_11_37 sh_0 (Or.inl ⟨_, rfl⟩) (tp_0_3 T) ?_
    refine r_loc dX11_gone_19 rfl ?_
    obtain ⟨v5, h7, c4, hf⟩ := cal2_inv hf
    have g9 := rf_X10_untilGone (X := X) (d := d) (by omega) 27 x1 st_27 T c4
    have T8 : am_TP h7.2.2 := g9.2
    refine r_virt (pre := [.int x1, .ref 27]) (rest := []) dX11_gone_20 ct_11_233 rfl (sh_35) (Nat.le_of_ble_eq_true rfl) (Nat.le_of_ble_eq_true rfl) g9 ?_
    refine r_goto (q := 27) dX11_gone_23 rfl ?_
    cases hf
    exact r_ri T8 dX11_gone_27
def f_X8_stowBehind (rp : Nat → Int32 → Int32 → Int32 → am_H → Option (Int32 × am_H)) (s1 : Nat) (x2 : Int32) (x3 : Int32) (x4 : Int32) (h : am_H) : Option (Int32 × am_H) := rdI h 403 8 x2 fun v1 => if v1 < 0 then some (0, h) else if v1 < 4 then rdI h 402 4 v1 fun v2 => rdI h (s1 + 1) 8 x2 fun v3 => wrI h 402 4 v1 (v2 - v3) fun h4 => cal2 (rp s1 (x2 + 1) x3 x4 h4) fun v8 h10 => if v8 = 0 then rdI h10 402 4 v1 fun v13 => rdI h10 (s1 + 1) 8 x2 fun v14 => wrI h10 402 4 v1 (v13 + v14) fun h15 => zrt v8 (some (v8, h15)) else zrt v8 (some (v8, h10)) else some (0, h)
theorem rf_X8_stowBehind {X : am_X} {d : Nat} (rp : Nat → Int32 → Int32 → Int32 → am_H → Option (Int32 × am_H)) {D : Nat} (hrp : ∀ {d : Nat}, D ≤ d → ∀ (a0 : Nat) (a1 : Int32) (a2 : Int32) (a3 : Int32), a0 ∈ am_ST → ∀ {h : am_H}, am_TP h.2.2 → ∀ {r : Int32 × am_H}, rp a0 a1 a2 a3 h = some r → am_G X d 8 false cX8_stowFrom (some .boolean) 0 [some (.ref 401), some (.ref a0), some (.int a1), some (.int a2), some (.int a3), none, none, none] [] (am_SH, h) (some (.int r.1), (am_SH, r.2))) (hd1 : D + 1 ≤ d) (hd : 0 ≤ d) (s1 : Nat) (x2 : Int32) (x3 : Int32) (x4 : Int32) (hs1 : s1 ∈ am_ST) {h : am_H} (T : am_TP h.2.2) {r : Int32 × am_H} (hf : f_X8_stowBehind rp s1 x2 x3 x4 h = some r) : am_G X d 8 false cX8_stowBehind (some .boolean) 0 [some (.ref 401), some (.ref s1), some (.int x2), some (.int x3), some (.int x4), none, none] [] (am_SH, h) (some (.int r.1), (am_SH, r.2)) := by
  unfold f_X8_stowBehind at hf
  obtain ⟨d, rfl⟩ : ∃ e, d = e + 1 := ⟨d - 1, by omega⟩
  refine r_loc dX8_stowBehind_0 rfl ?_
  refine r_getR dX8_stowBehind_1 fl_8_15 sh_401 (Or.inr ⟨_, rfl⟩) (tp_401_2 T) ?_
  refine r_loc dX8_stowBehind_4 rfl ?_
  refine r_iald dX8_stowBehind_5 sh_403 hf (fun v1 hf => ?_)
  refine r_loc (L' := [some (.ref 401), some (.ref s1), some (.int x2), some (.int x3), some (.int x4), some (.int v1), none]) dX8_stowBehind_6 rfl ?_
  refine r_loc dX8_stowBehind_8 rfl ?_
  refine r_lt0 (q := 19) dX8_stowBehind_10 rfl hf (fun hf => ?_) (fun hf => ?_)
  · refine r_iconst (v := 0) dX8_stowBehind_19 rfl ?_
    cases hf
    exact r_z0 T dX8_stowBehind_20
  · refine r_loc dX8_stowBehind_13 rfl ?_
    refine r_iconst (v := 4) dX8_stowBehind_15 rfl ?_
    refine r_lt (q := 21) dX8_stowBehind_16 rfl hf (fun hf => ?_) (fun hf => ?_)
    · refine r_loc dX8_stowBehind_21 rfl ?_
      refine r_getR dX8_stowBehind_22 fl_8_9 sh_401 (Or.inr ⟨_, rfl⟩) (tp_401_1 T) ?_
      refine r_loc dX8_stowBehind_25 rfl ?_
      refine r_alu dX8_stowBehind_27 rfl ?_
      refine r_iald dX8_stowBehind_28 sh_402 hf (fun v2 hf => ?_)
      refine r_loc dX8_stowBehind_29 rfl ?_
      refine r_getR dX8_stowBehind_30 fl_8_53 (sh_S hs1) (Or.inr ⟨_, rfl⟩) (tp_S_1 T hs1) ?_
      refine r_loc dX8_stowBehind_33 rfl ?_
      refine r_iald dX8_stowBehind_34 (sh_S_1 hs1) hf (fun v3 hf => ?_)
      refine r_alu dX8_stowBehind_35 rfl ?_
      refine r_iast dX8_stowBehind_36 sh_402 hf (fun h4 e6 hf => ?_)
      have T5 := tp_eq e6 T
      refine r_loc dX8_stowBehind_37 rfl ?_
      refine r_loc dX8_stowBehind_38 rfl ?_
      refine r_loc dX8_stowBehind_39 rfl ?_
      refine r_iconst (v := 1) dX8_stowBehind_40 rfl ?_
      refine r_alu dX8_stowBehind_41 rfl ?_
      refine r_loc dX8_stowBehind_42 rfl ?_
      refine r_loc dX8_stowBehind_43 rfl ?_
      obtain ⟨v8, h10, c7, hf⟩ := cal2_inv hf
      have g12 := hrp (d := d) (by omega) s1 (x2 + 1) x3 x4 hs1 T5 c7
      have T11 : am_TP h10.2.2 := g12.2
      refine r_virt (pre := [.int x4, .int x3, .int (x2 + 1), .ref s1]) (rest := []) dX8_stowBehind_45 ct_8_43 rfl (sh_401) (Nat.le_of_ble_eq_true rfl) (Nat.le_of_ble_eq_true rfl) g12 ?_
      refine r_loc (L' := [some (.ref 401), some (.ref s1), some (.int x2), some (.int x3), some (.int x4), some (.int v1), some (.int v8)]) dX8_stowBehind_48 rfl ?_
      refine r_loc dX8_stowBehind_50 rfl ?_
      refine r_ne0 (q := 71) dX8_stowBehind_52 rfl hf (fun hf => ?_) (fun hf => ?_)
      · refine r_loc dX8_stowBehind_71 rfl ?_
        exact r_zret T11 dX8_stowBehind_73 hf (fun hf => by cases hf; rfl)
      · refine r_loc dX8_stowBehind_55 rfl ?_
        refine r_getR dX8_stowBehind_56 fl_8_9 sh_401 (Or.inr ⟨_, rfl⟩) (tp_401_1 T11) ?_
        refine r_loc dX8_stowBehind_59 rfl ?_
        refine r_alu dX8_stowBehind_61 rfl ?_
        refine r_iald dX8_stowBehind_62 sh_402 hf (fun v13 hf => ?_)
        refine r_loc dX8_stowBehind_63 rfl ?_
        refine r_getR dX8_stowBehind_64 fl_8_53 (sh_S hs1) (Or.inr ⟨_, rfl⟩) (tp_S_1 T11 hs1) ?_
        refine r_loc dX8_stowBehind_67 rfl ?_
        refine r_iald dX8_stowBehind_68 (sh_S_1 hs1) hf (fun v14 hf => ?_)
        refine r_alu dX8_stowBehind_69 rfl ?_
        refine r_iast dX8_stowBehind_70 sh_402 hf (fun h15 e17 hf => ?_)
        have T16 := tp_eq e17 T11
        refine r_loc dX8_stowBehind_71 rfl ?_
        exact r_zret T16 dX8_stowBehind_73 hf (fun hf => by cases hf; rfl)
    · refine r_iconst (v := 0) dX8_stowBehind_19 rfl ?_
      cases hf
      exact r_z0 T dX8_stowBehind_20
def lp_X8_stowFrom_b_7 (rp : Nat → Int32 → Int32 → Int32 → am_H → Option (Int32 × am_H)) (s1 : Nat) (p3 : Int32) (p4 : Int32) (k_38 : Int32 → am_H → Option (Int32 × am_H)) : Nat → Int32 → am_H → Option (Int32 × am_H)
  | 0, _, _ => none
  | n + 1, x5, h => if x5 < 8 then rdI h (s1 + 1) 8 x5 fun v1 => if v1 = 0 then wrI h 403 8 x5 (-1) fun h2 => lp_X8_stowFrom_b_7 rp s1 p3 p4 k_38 n (x5 + 1) h2 else k_38 x5 h else k_38 x5 h
def lp_X8_stowFrom_b_50 (rp : Nat → Int32 → Int32 → Int32 → am_H → Option (Int32 × am_H)) (s1 : Nat) (p3 : Int32) (p4 : Int32) (p5 : Int32) : Nat → Int32 → am_H → Option (Int32 × am_H)
  | 0, _, _ => none
  | n + 1, x6, h => bnd (h.1 4 6) fun v8 => if x6 < v8 then if x6 < 4 then cal (f_J6_bitCount_0f7a4 (p3 ||| ((1 : Int32) <<< (x6 &&& 31))) h) fun v10 => if p4 < v10 then lp_X8_stowFrom_b_50 rp s1 p3 p4 p5 n (x6 + 1) h else rdI h 402 4 x6 fun v12 => rdI h (s1 + 1) 8 p5 fun v13 => if v12 < v13 then lp_X8_stowFrom_b_50 rp s1 p3 p4 p5 n (x6 + 1) h else wrI h 403 8 p5 x6 fun h14 => cal2 (f_X8_stowBehind rp s1 p5 (p3 ||| ((1 : Int32) <<< (x6 &&& 31))) p4 h14) fun v18 h20 => if v18 = 0 then lp_X8_stowFrom_b_50 rp s1 p3 p4 p5 n (x6 + 1) h20 else some (1, h20) else some (0, h) else some (0, h)
def jn_X8_stowFrom_b_38 (rp : Nat → Int32 → Int32 → Int32 → am_H → Option (Int32 × am_H)) (s1 : Nat) (x3 : Int32) (x4 : Int32) (x5 : Int32) (h : am_H) : Option (Int32 × am_H) := if x5 < 8 then lp_X8_stowFrom_b_50 rp s1 x3 x4 x5  4000 0 h else some (1, h)
def f_X8_stowFrom_b (rp : Nat → Int32 → Int32 → Int32 → am_H → Option (Int32 × am_H)) (s1 : Nat) (x2 : Int32) (x3 : Int32) (x4 : Int32) (h : am_H) : Option (Int32 × am_H) := lp_X8_stowFrom_b_7 rp s1 x3 x4 (fun z5 h6 => jn_X8_stowFrom_b_38 rp s1 x3 x4 z5 h6) 4000 (if x2 < 0 then 0 else x2) h
def f_X8_stowFrom : Nat → Nat → Int32 → Int32 → Int32 → am_H → Option (Int32 × am_H)
  | 0 => fun _ _ _ _ _ => none
  | n + 1 => f_X8_stowFrom_b (f_X8_stowFrom n)
theorem rl_X8_stowFrom_b_7 {X : am_X} {d : Nat} (rp : Nat → Int32 → Int32 → Int32 → am_H → Option (Int32 × am_H)) {D : Nat} (hrp : ∀ {d : Nat}, D ≤ d → ∀ (a0 : Nat) (a1 : Int32) (a2 : Int32) (a3 : Int32), a0 ∈ am_ST → ∀ {h : am_H}, am_TP h.2.2 → ∀ {r : Int32 × am_H}, rp a0 a1 a2 a3 h = some r → am_G X d 8 false cX8_stowFrom (some .boolean) 0 [some (.ref 401), some (.ref a0), some (.int a1), some (.int a2), some (.int a3), none, none, none] [] (am_SH, h) (some (.int r.1), (am_SH, r.2))) (hd1 : D + 2 ≤ d) (hd : 1 ≤ d) (s1 : Nat) (p3 : Int32) (p4 : Int32) (hs1 : s1 ∈ am_ST) (k_38 : Int32 → am_H → Option (Int32 × am_H)) {r : Int32 × am_H} (hk_38 : ∀ (z5 : Int32) (h : am_H), am_TP h.2.2 → k_38 z5 h = some r → am_G X d 8 false cX8_stowFrom (some .boolean) 38 [some (.ref 401), some (.ref s1), none, some (.int p3), some (.int p4), some (.int z5), none, none] [] (am_SH, h) (some (.int r.1), (am_SH, r.2))) : ∀ (n : Nat) (x5 : Int32) (h : am_H), am_TP h.2.2 → lp_X8_stowFrom_b_7 rp s1 p3 p4 k_38 n x5 h = some r → am_G X d 8 false cX8_stowFrom (some .boolean) 7 [some (.ref 401), some (.ref s1), none, some (.int p3), some (.int p4), some (.int x5), none, none] [] (am_SH, h) (some (.int r.1), (am_SH, r.2)) := by
  obtain ⟨d, rfl⟩ : ∃ e, d = e + 1 := ⟨d - 1, by omega⟩
  intro n
  induction n with
  | zero => intro x5 h T hf; cases hf
  | succ n ih =>
    intro x5 h T hf
    rw [lp_X8_stowFrom_b_7] at hf
    refine r_loc dX8_stowFrom_7 rfl ?_
    refine r_bipush (v := 8) dX8_stowFrom_9 rfl ?_
    refine r_ge (q := 38) dX8_stowFrom_11 rfl hf (fun hf => ?_) (fun hf => ?_)
    · exact hk_38 x5 h T hf
    · refine r_loc dX8_stowFrom_14 rfl ?_
      refine r_getR dX8_stowFrom_15 fl_8_53 (sh_S hs1) (Or.inr ⟨_, rfl⟩) (tp_S_1 T hs1) ?_
      refine r_loc dX8_stowFrom_18 rfl ?_
      refine r_iald dX8_stowFrom_20 (sh_S_1 hs1) hf (fun v1 hf => ?_)
      refine r_ne0 (q := 38) dX8_stowFrom_21 rfl hf (fun hf => ?_) (fun hf => ?_)
      · exact hk_38 x5 h T hf
      · refine r_loc dX8_stowFrom_24 rfl ?_
        refine r_getR dX8_stowFrom_25 fl_8_15 sh_401 (Or.inr ⟨_, rfl⟩) (tp_401_2 T) ?_
        refine r_loc dX8_stowFrom_28 rfl ?_
        refine r_iconst (v := (-1)) dX8_stowFrom_30 rfl ?_
        refine r_iast dX8_stowFrom_31 sh_403 hf (fun h2 e4 hf => ?_)
        have T3 := tp_eq e4 T
        refine r_loc (L' := [some (.ref 401), some (.ref s1), none, some (.int p3), some (.int p4), some (.int (x5 + 1)), none, none]) dX8_stowFrom_32 rfl ?_
        refine r_goto (q := 7) dX8_stowFrom_35 rfl ?_
        exact ih (x5 + 1) h2 T3 hf
theorem rl_X8_stowFrom_b_50 {X : am_X} {d : Nat} (rp : Nat → Int32 → Int32 → Int32 → am_H → Option (Int32 × am_H)) {D : Nat} (hrp : ∀ {d : Nat}, D ≤ d → ∀ (a0 : Nat) (a1 : Int32) (a2 : Int32) (a3 : Int32), a0 ∈ am_ST → ∀ {h : am_H}, am_TP h.2.2 → ∀ {r : Int32 × am_H}, rp a0 a1 a2 a3 h = some r → am_G X d 8 false cX8_stowFrom (some .boolean) 0 [some (.ref 401), some (.ref a0), some (.int a1), some (.int a2), some (.int a3), none, none, none] [] (am_SH, h) (some (.int r.1), (am_SH, r.2))) (hd1 : D + 2 ≤ d) (hd : 1 ≤ d) (s1 : Nat) (p3 : Int32) (p4 : Int32) (p5 : Int32) (hs1 : s1 ∈ am_ST) {r : Int32 × am_H} : ∀ (n : Nat) (x6 : Int32) (h : am_H), am_TP h.2.2 → lp_X8_stowFrom_b_50 rp s1 p3 p4 p5 n x6 h = some r → am_G X d 8 false cX8_stowFrom (some .boolean) 50 [some (.ref 401), some (.ref s1), none, some (.int p3), some (.int p4), some (.int p5), some (.int x6), none] [] (am_SH, h) (some (.int r.1), (am_SH, r.2)) := by
  obtain ⟨d, rfl⟩ : ∃ e, d = e + 1 := ⟨d - 1, by omega⟩
  intro n
  induction n with
  | zero => intro x6 h T hf; cases hf
  | succ n ih =>
    intro x6 h T hf
    rw [lp_X8_stowFrom_b_50] at hf
    refine r_loc dX8_stowFrom_50 rfl ?_
    refine r_loc dX8_stowFrom_52 rfl ?_
    refine r_getR dX8_stowFrom_53 fl_8_25 sh_401 (Or.inl ⟨_, rfl⟩) (tp_401_0 T) ?_
    refine r_getI dX8_stowFrom_56 fl_8_29 sh_4 rfl hf (fun v8 hf => ?_)
    refine r_ge (q := 134) dX8_stowFrom_59 rfl hf (fun hf => ?_) (fun hf => ?_)
    · refine r_iconst (v := 0) dX8_stowFrom_134 rfl ?_
      cases hf
      exact r_z0 T dX8_stowFrom_135
    · refine r_loc dX8_stowFrom_62 rfl ?_
      refine r_iconst (v := 4) dX8_stowFrom_64 rfl ?_
      refine r_ge (q := 134) dX8_stowFrom_65 rfl hf (fun hf => ?_) (fun hf => ?_)
      · refine r_iconst (v := 0) dX8_stowFrom_134 rfl ?_
        cases hf
        exact r_z0 T dX8_stowFrom_135
      · refine r_loc dX8_stowFrom_68 rfl ?_
        refine r_iconst (v := 1) dX8_stowFrom_69 rfl ?_
        refine r_loc dX8_stowFrom_70 rfl ?_
        refine r_alu dX8_stowFrom_72 rfl ?_
        refine r_alu dX8_stowFrom_73 rfl ?_
        refine r_loc (L' := [some (.ref 401), some (.ref s1), none, some (.int p3), some (.int p4), some (.int p5), some (.int x6), some (.int (p3 ||| ((1 : Int32) <<< (x6 &&& 31))))]) dX8_stowFrom_74 rfl ?_
        refine r_loc dX8_stowFrom_76 rfl ?_
        obtain ⟨v10, c9, hf⟩ := cal_inv hf
        have g11 := rf_J6_bitCount_0f7a4 (X := X) (d := d) (by omega) (p3 ||| ((1 : Int32) <<< (x6 &&& 31))) T c9
        refine r_stat (pre := [.int (p3 ||| ((1 : Int32) <<< (x6 &&& 31)))]) (rest := []) dX8_stowFrom_78 ct_8_58 rfl (Nat.le_of_ble_eq_true rfl) (Nat.le_of_ble_eq_true rfl) g11 ?_
        refine r_loc dX8_stowFrom_81 rfl ?_
        refine r_gt (q := 128) dX8_stowFrom_83 rfl hf (fun hf => ?_) (fun hf => ?_)
        · refine r_loc (L' := [some (.ref 401), some (.ref s1), none, some (.int p3), some (.int p4), some (.int p5), some (.int (x6 + 1)), some (.int (p3 ||| ((1 : Int32) <<< (x6 &&& 31))))]) dX8_stowFrom_128 rfl ?_
          refine r_goto (q := 50) dX8_stowFrom_131 rfl ?_
          refine r_weak (L := [some (.ref 401), some (.ref s1), none, some (.int p3), some (.int p4), some (.int p5), some (.int (x6 + 1)), none]) (am_le_s (am_le_s (am_le_n (am_le_s (am_le_s (am_le_s (am_le_s (am_le_n am_le_0)))))))) ?_
          exact ih (x6 + 1) h T hf
        · refine r_loc dX8_stowFrom_86 rfl ?_
          refine r_getR dX8_stowFrom_87 fl_8_9 sh_401 (Or.inr ⟨_, rfl⟩) (tp_401_1 T) ?_
          refine r_loc dX8_stowFrom_90 rfl ?_
          refine r_iald dX8_stowFrom_92 sh_402 hf (fun v12 hf => ?_)
          refine r_loc dX8_stowFrom_93 rfl ?_
          refine r_getR dX8_stowFrom_94 fl_8_53 (sh_S hs1) (Or.inr ⟨_, rfl⟩) (tp_S_1 T hs1) ?_
          refine r_loc dX8_stowFrom_97 rfl ?_
          refine r_iald dX8_stowFrom_99 (sh_S_1 hs1) hf (fun v13 hf => ?_)
          refine r_lt (q := 128) dX8_stowFrom_100 rfl hf (fun hf => ?_) (fun hf => ?_)
          · refine r_loc (L' := [some (.ref 401), some (.ref s1), none, some (.int p3), some (.int p4), some (.int p5), some (.int (x6 + 1)), some (.int (p3 ||| ((1 : Int32) <<< (x6 &&& 31))))]) dX8_stowFrom_128 rfl ?_
            refine r_goto (q := 50) dX8_stowFrom_131 rfl ?_
            refine r_weak (L := [some (.ref 401), some (.ref s1), none, some (.int p3), some (.int p4), some (.int p5), some (.int (x6 + 1)), none]) (am_le_s (am_le_s (am_le_n (am_le_s (am_le_s (am_le_s (am_le_s (am_le_n am_le_0)))))))) ?_
            exact ih (x6 + 1) h T hf
          · refine r_loc dX8_stowFrom_103 rfl ?_
            refine r_getR dX8_stowFrom_104 fl_8_15 sh_401 (Or.inr ⟨_, rfl⟩) (tp_401_2 T) ?_
            refine r_loc dX8_stowFrom_107 rfl ?_
            refine r_loc dX8_stowFrom_109 rfl ?_
            refine r_iast dX8_stowFrom_111 sh_403 hf (fun h14 e16 hf => ?_)
            have T15 := tp_eq e16 T
            refine r_loc dX8_stowFrom_112 rfl ?_
            refine r_loc dX8_stowFrom_113 rfl ?_
            refine r_loc dX8_stowFrom_114 rfl ?_
            refine r_loc dX8_stowFrom_116 rfl ?_
            refine r_loc dX8_stowFrom_118 rfl ?_
            obtain ⟨v18, h20, c17, hf⟩ := cal2_inv hf
            have g22 := rf_X8_stowBehind (X := X) (d := d) rp hrp (by omega) (by omega) s1 p5 (p3 ||| ((1 : Int32) <<< (x6 &&& 31))) p4 hs1 T15 c17
            have T21 : am_TP h20.2.2 := g22.2
            refine r_virt (pre := [.int p4, .int (p3 ||| ((1 : Int32) <<< (x6 &&& 31))), .int p5, .ref s1]) (rest := []) dX8_stowFrom_120 ct_8_64 rfl (sh_401) (Nat.le_of_ble_eq_true rfl) (Nat.le_of_ble_eq_true rfl) g22 ?_
            refine r_eq0 (q := 128) dX8_stowFrom_123 rfl hf (fun hf => ?_) (fun hf => ?_)
            · refine r_loc (L' := [some (.ref 401), some (.ref s1), none, some (.int p3), some (.int p4), some (.int p5), some (.int (x6 + 1)), some (.int (p3 ||| ((1 : Int32) <<< (x6 &&& 31))))]) dX8_stowFrom_128 rfl ?_
              refine r_goto (q := 50) dX8_stowFrom_131 rfl ?_
              refine r_weak (L := [some (.ref 401), some (.ref s1), none, some (.int p3), some (.int p4), some (.int p5), some (.int (x6 + 1)), none]) (am_le_s (am_le_s (am_le_n (am_le_s (am_le_s (am_le_s (am_le_s (am_le_n am_le_0)))))))) ?_
              exact ih (x6 + 1) h20 T21 hf
            · refine r_iconst (v := 1) dX8_stowFrom_126 rfl ?_
              cases hf
              exact r_z1 T21 dX8_stowFrom_127
theorem rj_X8_stowFrom_b_38 {X : am_X} {d : Nat} (rp : Nat → Int32 → Int32 → Int32 → am_H → Option (Int32 × am_H)) {D : Nat} (hrp : ∀ {d : Nat}, D ≤ d → ∀ (a0 : Nat) (a1 : Int32) (a2 : Int32) (a3 : Int32), a0 ∈ am_ST → ∀ {h : am_H}, am_TP h.2.2 → ∀ {r : Int32 × am_H}, rp a0 a1 a2 a3 h = some r → am_G X d 8 false cX8_stowFrom (some .boolean) 0 [some (.ref 401), some (.ref a0), some (.int a1), some (.int a2), some (.int a3), none, none, none] [] (am_SH, h) (some (.int r.1), (am_SH, r.2))) (hd1 : D + 2 ≤ d) (hd : 1 ≤ d) (s1 : Nat) (x3 : Int32) (x4 : Int32) (x5 : Int32) (hs1 : s1 ∈ am_ST) {h : am_H} (T : am_TP h.2.2) {r : Int32 × am_H} (hf : jn_X8_stowFrom_b_38 rp s1 x3 x4 x5 h = some r) : am_G X d 8 false cX8_stowFrom (some .boolean) 38 [some (.ref 401), some (.ref s1), none, some (.int x3), some (.int x4), some (.int x5), none, none] [] (am_SH, h) (some (.int r.1), (am_SH, r.2)) := by
  obtain ⟨d, rfl⟩ : ∃ e, d = e + 1 := ⟨d - 1, by omega⟩
  unfold jn_X8_stowFrom_b_38 at hf
  refine r_loc dX8_stowFrom_38 rfl ?_
  refine r_bipush (v := 8) dX8_stowFrom_40 rfl ?_
  refine r_lt (q := 47) dX8_stowFrom_42 rfl hf (fun hf => ?_) (fun hf => ?_)
  · refine r_iconst (v := 0) dX8_stowFrom_47 rfl ?_
    refine r_loc (L' := [some (.ref 401), some (.ref s1), none, some (.int x3), some (.int x4), some (.int x5), some (.int 0), none]) dX8_stowFrom_48 rfl ?_
    refine rl_X8_stowFrom_b_50 rp hrp (by omega) (by omega) s1 x3 x4 x5 hs1  4000 0 h T hf
  · refine r_iconst (v := 1) dX8_stowFrom_45 rfl ?_
    cases hf
    exact r_z1 T dX8_stowFrom_46
theorem rf_X8_stowFrom_b {X : am_X} {d : Nat} (rp : Nat → Int32 → Int32 → Int32 → am_H → Option (Int32 × am_H)) {D : Nat} (hrp : ∀ {d : Nat}, D ≤ d → ∀ (a0 : Nat) (a1 : Int32) (a2 : Int32) (a3 : Int32), a0 ∈ am_ST → ∀ {h : am_H}, am_TP h.2.2 → ∀ {r : Int32 × am_H}, rp a0 a1 a2 a3 h = some r → am_G X d 8 false cX8_stowFrom (some .boolean) 0 [some (.ref 401), some (.ref a0), some (.int a1), some (.int a2), some (.int a3), none, none, none] [] (am_SH, h) (some (.int r.1), (am_SH, r.2))) (hd1 : D + 2 ≤ d) (hd : 1 ≤ d) (s1 : Nat) (x2 : Int32) (x3 : Int32) (x4 : Int32) (hs1 : s1 ∈ am_ST) {h : am_H} (T : am_TP h.2.2) {r : Int32 × am_H} (hf : f_X8_stowFrom_b rp s1 x2 x3 x4 h = some r) : am_G X d 8 false cX8_stowFrom (some .boolean) 0 [some (.ref 401), some (.ref s1), some (.int x2), some (.int x3), some (.int x4), none, none, none] [] (am_SH, h) (some (.int r.1), (am_SH, r.2)) := by
  unfold f_X8_stowFrom_b at hf
  obtain ⟨d, rfl⟩ : ∃ e, d = e + 1 := ⟨d - 1, by omega⟩
  refine r_loc dX8_stowFrom_0 rfl ?_
  refine r_iconst (v := 0) dX8_stowFrom_1 rfl ?_
  refine r_max dX8_stowFrom_2 ct_8_47 (Nat.le_of_ble_eq_true rfl) ?_
  refine r_loc (L' := [some (.ref 401), some (.ref s1), some (.int x2), some (.int x3), some (.int x4), some (.int (if x2 < 0 then 0 else x2)), none, none]) dX8_stowFrom_5 rfl ?_
  refine r_weak (L := [some (.ref 401), some (.ref s1), none, some (.int x3), some (.int x4), some (.int (if x2 < 0 then 0 else x2)), none, none]) (am_le_s (am_le_s (am_le_n (am_le_s (am_le_s (am_le_s (am_le_n (am_le_n am_le_0)))))))) ?_
  refine rl_X8_stowFrom_b_7 rp hrp (by omega) (by omega) s1 x3 x4 hs1 _ ?_ 4000 (if x2 < 0 then 0 else x2) h T hf
  · intro z5 h6 T7 hf
    exact rj_X8_stowFrom_b_38 rp hrp (by omega) (by omega) s1 x3 x4 z5 hs1 T7 hf
theorem rf_X8_stowFrom {X : am_X} : ∀ (n : Nat) {d : Nat}, 3 * n + 22 ≤ d → ∀ (s1 : Nat) (x2 : Int32) (x3 : Int32) (x4 : Int32), s1 ∈ am_ST → ∀ {h : am_H}, am_TP h.2.2 → ∀ {r : Int32 × am_H}, f_X8_stowFrom n s1 x2 x3 x4 h = some r → am_G X d 8 false cX8_stowFrom (some .boolean) 0 [some (.ref 401), some (.ref s1), some (.int x2), some (.int x3), some (.int x4), none, none, none] [] (am_SH, h) (some (.int r.1), (am_SH, r.2)) := by
  intro n
  induction n with
  | zero => intro d hd s1 x2 x3 x4 hs1 h T r hf; cases hf
  | succ n ih =>
    intro d hd s1 x2 x3 x4 hs1 h T r hf
    rw [f_X8_stowFrom] at hf
    exact rf_X8_stowFrom_b (f_X8_stowFrom n) (D := 3 * n + 22) ih (by omega) (by omega) s1 x2 x3 x4 hs1 T hf
def lp_X8_packAll_2 (s1 : Nat) : Nat → Int32 → am_H → Option (Int32 × am_H)
  | 0, _, _ => none
  | n + 1, x2, h => bnd (h.1 4 6) fun v1 => if v1 < x2 then some ((-1), h) else if 4 < x2 then some ((-1), h) else cpI h 5 4 0 402 4 0 4 fun h2 => cal2 (f_X8_stowFrom 12 s1 0 0 x2 h2) fun v6 h8 => if v6 = 0 then lp_X8_packAll_2 s1 n (x2 + 1) h8 else some (x2, h8)
def f_X8_packAll (s1 : Nat) (h : am_H) : Option (Int32 × am_H) := lp_X8_packAll_2 s1  4000 0 h
theorem rl_X8_packAll_2 {X : am_X} {d : Nat} (hd : 59 ≤ d) (s1 : Nat) (hs1 : s1 ∈ am_ST) {r : Int32 × am_H} : ∀ (n : Nat) (x2 : Int32) (h : am_H), am_TP h.2.2 → lp_X8_packAll_2 s1 n x2 h = some r → am_G X d 8 false cX8_packAll (some .int) 2 [some (.ref 401), some (.ref s1), some (.int x2)] [] (am_SH, h) (some (.int r.1), (am_SH, r.2)) := by
  obtain ⟨d, rfl⟩ : ∃ e, d = e + 1 := ⟨d - 1, by omega⟩
  intro n
  induction n with
  | zero => intro x2 h T hf; cases hf
  | succ n ih =>
    intro x2 h T hf
    rw [lp_X8_packAll_2] at hf
    refine r_loc dX8_packAll_2 rfl ?_
    refine r_loc dX8_packAll_3 rfl ?_
    refine r_getR dX8_packAll_4 fl_8_25 sh_401 (Or.inl ⟨_, rfl⟩) (tp_401_0 T) ?_
    refine r_getI dX8_packAll_7 fl_8_29 sh_4 rfl hf (fun v1 hf => ?_)
    refine r_gt (q := 54) dX8_packAll_10 rfl hf (fun hf => ?_) (fun hf => ?_)
    · refine r_iconst (v := (-1)) dX8_packAll_54 rfl ?_
      cases hf
      exact r_ri T dX8_packAll_55
    · refine r_loc dX8_packAll_13 rfl ?_
      refine r_iconst (v := 4) dX8_packAll_14 rfl ?_
      refine r_gt (q := 54) dX8_packAll_15 rfl hf (fun hf => ?_) (fun hf => ?_)
      · refine r_iconst (v := (-1)) dX8_packAll_54 rfl ?_
        cases hf
        exact r_ri T dX8_packAll_55
      · refine r_loc dX8_packAll_18 rfl ?_
        refine r_getR dX8_packAll_19 fl_8_25 sh_401 (Or.inl ⟨_, rfl⟩) (tp_401_0 T) ?_
        refine r_getR dX8_packAll_22 fl_8_34 sh_4 (Or.inr ⟨_, rfl⟩) (tp_4_0 T) ?_
        refine r_iconst (v := 0) dX8_packAll_25 rfl ?_
        refine r_loc dX8_packAll_26 rfl ?_
        refine r_getR dX8_packAll_27 fl_8_9 sh_401 (Or.inr ⟨_, rfl⟩) (tp_401_1 T) ?_
        refine r_iconst (v := 0) dX8_packAll_30 rfl ?_
        refine r_iconst (v := 4) dX8_packAll_31 rfl ?_
        refine r_cpy dX8_packAll_32 ct_8_37 (Nat.le_of_ble_eq_true rfl) sh_5 sh_402 hf (fun h2 e4 hf => ?_)
        have T3 := tp_eq e4 T
        refine r_loc dX8_packAll_35 rfl ?_
        refine r_loc dX8_packAll_36 rfl ?_
        refine r_iconst (v := 0) dX8_packAll_37 rfl ?_
        refine r_iconst (v := 0) dX8_packAll_38 rfl ?_
        refine r_loc dX8_packAll_39 rfl ?_
        obtain ⟨v6, h8, c5, hf⟩ := cal2_inv hf
        have g10 := rf_X8_stowFrom (X := X) 12 (d := d) (by omega) s1 0 0 x2 hs1 T3 c5
        have T9 : am_TP h8.2.2 := g10.2
        refine r_virt (pre := [.int x2, .int 0, .int 0, .ref s1]) (rest := []) dX8_packAll_40 ct_8_43 rfl (sh_401) (Nat.le_of_ble_eq_true rfl) (Nat.le_of_ble_eq_true rfl) g10 ?_
        refine r_eq0 (q := 48) dX8_packAll_43 rfl hf (fun hf => ?_) (fun hf => ?_)
        · refine r_loc (L' := [some (.ref 401), some (.ref s1), some (.int (x2 + 1))]) dX8_packAll_48 rfl ?_
          refine r_goto (q := 2) dX8_packAll_51 rfl ?_
          exact ih (x2 + 1) h8 T9 hf
        · refine r_loc dX8_packAll_46 rfl ?_
          cases hf
          exact r_ri T9 dX8_packAll_47
theorem rf_X8_packAll {X : am_X} {d : Nat} (hd : 59 ≤ d) (s1 : Nat) (hs1 : s1 ∈ am_ST) {h : am_H} (T : am_TP h.2.2) {r : Int32 × am_H} (hf : f_X8_packAll s1 h = some r) : am_G X d 8 false cX8_packAll (some .int) 0 [some (.ref 401), some (.ref s1), none] [] (am_SH, h) (some (.int r.1), (am_SH, r.2)) := by
  unfold f_X8_packAll at hf
  obtain ⟨d, rfl⟩ : ∃ e, d = e + 1 := ⟨d - 1, by omega⟩
  refine r_iconst (v := 0) dX8_packAll_0 rfl ?_
  refine r_loc (L' := [some (.ref 401), some (.ref s1), some (.int 0)]) dX8_packAll_1 rfl ?_
  refine rl_X8_packAll_2 (by omega) s1 hs1  4000 0 h T hf
def f_X11_layDown (x1 : Int32) (h : am_H) : Option (am_H) := bnd (h.1 0 10) fun v1 => if v1 < 0 then some h else bnd (h.1 0 10) fun v2 => if v2 < 8 then bnd (h.1 0 10) fun v3 => wrI h 412 8 v3 x1 fun h4 => bnd (h4.1 0 10) fun v7 => ptI h4 0 10 (v7 + 1) fun h8 => some h8 else some h
theorem rf_X11_layDown {X : am_X} {d : Nat} (hd : 0 ≤ d) (x1 : Int32) {h : am_H} (T : am_TP h.2.2) {r : am_H} (hf : f_X11_layDown x1 h = some r) : am_G X d 11 false cX11_layDown none 0 [some (.ref 0), some (.int x1)] [] (am_SH, h) (none, (am_SH, r)) := by
  unfold f_X11_layDown at hf
  refine r_loc dX11_layDown_0 rfl ?_
  refine r_getI dX11_layDown_1 fl_11_80 sh_0 rfl hf (fun v1 hf => ?_)
  refine r_lt0 (q := 36) dX11_layDown_4 rfl hf (fun hf => ?_) (fun hf => ?_)
  · cases hf
    exact r_ret T dX11_layDown_36 rfl
  · refine r_loc dX11_layDown_7 rfl ?_
    refine r_getI dX11_layDown_8 fl_11_80 sh_0 rfl hf (fun v2 hf => ?_)
    refine r_bipush (v := 8) dX11_layDown_11 rfl ?_
    refine r_ge (q := 36) dX11_layDown_13 rfl hf (fun hf => ?_) (fun hf => ?_)
    · cases hf
      exact r_ret T dX11_layDown_36 rfl
    · refine r_loc dX11_layDown_16 rfl ?_
      refine r_getR dX11_layDown_17 fl_11_76 sh_0 (Or.inr ⟨_, rfl⟩) (tp_0_9 T) ?_
      refine r_loc dX11_layDown_20 rfl ?_
      refine r_getI dX11_layDown_21 fl_11_80 sh_0 rfl hf (fun v3 hf => ?_)
      refine r_loc dX11_layDown_24 rfl ?_
      refine r_iast dX11_layDown_25 sh_412 hf (fun h4 e6 hf => ?_)
      have T5 := tp_eq e6 T
      refine r_loc dX11_layDown_26 rfl ?_
      refine r_alu dX11_layDown_27 rfl ?_
      refine r_getI dX11_layDown_28 fl_11_80 sh_0 rfl hf (fun v7 hf => ?_)
      refine r_iconst (v := 1) dX11_layDown_31 rfl ?_
      refine r_alu dX11_layDown_32 rfl ?_
      refine r_putI dX11_layDown_33 fl_11_80 sh_0 ⟨rfl, rfl⟩ hf (fun h8 e10 hf => ?_)
      have T9 := tp_eq e10 T5
      cases hf
      exact r_ret T9 dX11_layDown_36 rfl
def lp_X11_pack_24 (p1 : Int32) : Nat → Int32 → am_H → Option (Int32 × am_H)
  | 0, _, _ => none
  | n + 1, x2, h => if x2 < 8 then rdI h 403 8 x2 fun v10 => cal (f_X11_layDown v10 h) fun h12 => lp_X11_pack_24 p1 n (x2 + 1) h12 else some (p1, h)
def f_X11_pack  (h : am_H) : Option (Int32 × am_H) := cal2 (f_X8_packAll 27 h) fun v2 h4 => ptI h4 0 10 0 fun h7 => if v2 = (-1) then some (v2, h7) else lp_X11_pack_24 v2  4000 0 h7
theorem rl_X11_pack_24 {X : am_X} {d : Nat} (hd : 60 ≤ d) (p1 : Int32) {r : Int32 × am_H} : ∀ (n : Nat) (x2 : Int32) (h : am_H), am_TP h.2.2 → lp_X11_pack_24 p1 n x2 h = some r → am_G X d 11 false cX11_pack (some .int) 24 [some (.ref 0), some (.int p1), some (.int x2)] [] (am_SH, h) (some (.int r.1), (am_SH, r.2)) := by
  obtain ⟨d, rfl⟩ : ∃ e, d = e + 1 := ⟨d - 1, by omega⟩
  intro n
  induction n with
  | zero => intro x2 h T hf; cases hf
  | succ n ih =>
    intro x2 h T hf
    rw [lp_X11_pack_24] at hf
    refine r_loc dX11_pack_24 rfl ?_
    refine r_bipush (v := 8) dX11_pack_25 rfl ?_
    refine r_ge (q := 49) dX11_pack_27 rfl hf (fun hf => ?_) (fun hf => ?_)
    · refine r_loc dX11_pack_49 rfl ?_
      cases hf
      exact r_ri T dX11_pack_50
    · refine r_loc dX11_pack_30 rfl ?_
      refine r_loc dX11_pack_31 rfl ?_
      refine r_getR dX11_pack_32 fl_11_65 sh_0 (Or.inl ⟨_, rfl⟩) (tp_0_7 T) ?_
      refine r_getR dX11_pack_35 fl_11_241 sh_401 (Or.inr ⟨_, rfl⟩) (tp_401_2 T) ?_
      refine r_loc dX11_pack_38 rfl ?_
      refine r_iald dX11_pack_39 sh_403 hf (fun v10 hf => ?_)
      obtain ⟨h12, c11, hf⟩ := cal_inv hf
      have g14 := rf_X11_layDown (X := X) (d := d) (by omega) v10 T c11
      have T13 : am_TP h12.2.2 := g14.2
      refine r_virt (pre := [.int v10]) (rest := []) dX11_pack_40 ct_11_244 rfl (sh_0) (Nat.le_of_ble_eq_true rfl) (Nat.le_of_ble_eq_true rfl) g14 ?_
      refine r_loc (L' := [some (.ref 0), some (.int p1), some (.int (x2 + 1))]) dX11_pack_43 rfl ?_
      refine r_goto (q := 24) dX11_pack_46 rfl ?_
      exact ih (x2 + 1) h12 T13 hf
theorem rf_X11_pack {X : am_X} {d : Nat} (hd : 60 ≤ d)  {h : am_H} (T : am_TP h.2.2) {r : Int32 × am_H} (hf : f_X11_pack  h = some r) : am_G X d 11 false cX11_pack (some .int) 0 [some (.ref 0), none, none] [] (am_SH, h) (some (.int r.1), (am_SH, r.2)) := by
  unfold f_X11_pack at hf
  obtain ⟨d, rfl⟩ : ∃ e, d = e + 1 := ⟨d - 1, by omega⟩
  refine r_loc dX11_pack_0 rfl ?_
  refine r_getR dX11_pack_1 fl_11_65 sh_0 (Or.inl ⟨_, rfl⟩) (tp_0_7 T) ?_
  refine r_loc dX11_pack_4 rfl ?_
  refine r_getR dX11_pack_5 fl_11_37 sh_0 (Or.inl ⟨_, rfl⟩) (tp_0_3 T) ?_
  obtain ⟨v2, h4, c1, hf⟩ := cal2_inv hf
  have g6 := rf_X8_packAll (X := X) (d := d) (by omega) 27 st_27 T c1
  have T5 : am_TP h4.2.2 := g6.2
  refine r_virt (pre := [.ref 27]) (rest := []) dX11_pack_8 ct_11_237 rfl (sh_401) (Nat.le_of_ble_eq_true rfl) (Nat.le_of_ble_eq_true rfl) g6 ?_
  refine r_loc (L' := [some (.ref 0), some (.int v2), none]) dX11_pack_11 rfl ?_
  refine r_loc dX11_pack_12 rfl ?_
  refine r_iconst (v := 0) dX11_pack_13 rfl ?_
  refine r_putI dX11_pack_14 fl_11_80 sh_0 ⟨rfl, rfl⟩ hf (fun h7 e9 hf => ?_)
  have T8 := tp_eq e9 T5
  refine r_loc dX11_pack_17 rfl ?_
  refine r_iconst (v := (-1)) dX11_pack_18 rfl ?_
  refine r_eq (q := 49) dX11_pack_19 rfl hf (fun hf => ?_) (fun hf => ?_)
  · refine r_loc dX11_pack_49 rfl ?_
    cases hf
    exact r_ri T8 dX11_pack_50
  · refine r_iconst (v := 0) dX11_pack_22 rfl ?_
    refine r_loc (L' := [some (.ref 0), some (.int v2), some (.int 0)]) dX11_pack_23 rfl ?_
    refine rl_X11_pack_24 (by omega) v2  4000 0 h7 T8 hf
def jn_X8_fullest_95 (k_40 : Int32 → Int32 → Int32 → Option (Int32)) (s1 : Nat) (x3 : Int32) (x4 : Int32) (x5 : Int32) (x6 : Int32) (x7 : Int32) (x8 : Int32) (y0 : Int32) (h : am_H) : Option (Int32) := if x3 < x8 then k_40 x5 x6 (x7 + 1) else if x6 < x8 then k_40 x7 x8 (x7 + 1) else if y0 = 0 then k_40 x5 x6 (x7 + 1) else k_40 x7 x8 (x7 + 1)
def jn_X8_fullest_94 (k_40 : Int32 → Int32 → Int32 → Option (Int32)) (s1 : Nat) (x3 : Int32) (x4 : Int32) (x5 : Int32) (x6 : Int32) (x7 : Int32) (x8 : Int32) (h : am_H) : Option (Int32) := jn_X8_fullest_95 (k_40) s1 x3 x4 x5 x6 x7 x8 0 h
def jn_X8_fullest_68 (k_40 : Int32 → Int32 → Int32 → Option (Int32)) (s1 : Nat) (x3 : Int32) (x4 : Int32) (x5 : Int32) (x6 : Int32) (x7 : Int32) (y0 : Int32) (h : am_H) : Option (Int32) := if y0 = x6 then cal (f_J6_bitCount_0f7a4 x7 h) fun v8 => cal (f_J6_bitCount_0f7a4 x5 h) fun v11 => if v8 < v11 then jn_X8_fullest_95 (k_40) s1 x3 x4 x5 x6 x7 y0 1 h else jn_X8_fullest_94 (k_40) s1 x3 x4 x5 x6 x7 y0 h else jn_X8_fullest_94 (k_40) s1 x3 x4 x5 x6 x7 y0 h
def lp_X8_fullest_40 (s1 : Nat) (p3 : Int32) (p4 : Int32) (h : am_H) : Nat → Int32 → Int32 → Int32 → Option (Int32)
  | 0, _, _, _ => none
  | n + 1, x5, x6, x7 => if x7 < 256 then if (x7 &&& (p4 ^^^ ((-1) : Int32))) = 0 then cal (f_X7_bulkOf s1 x7 h) fun v14 => jn_X8_fullest_68 (lp_X8_fullest_40 s1 p3 p4 h n) s1 p3 p4 x5 x6 x7 v14 h else jn_X8_fullest_68 (lp_X8_fullest_40 s1 p3 p4 h n) s1 p3 p4 x5 x6 x7 (-1) h else some x5
def jn_X8_fullest_24 (s1 : Nat) (y0 : Int32) (h : am_H) : Option (Int32) := cal (f_X7_bits s1 h) fun v5 => lp_X8_fullest_40 s1 y0 v5 h  4000 0 0 1
def f_X8_fullest (s1 : Nat) (x2 : Int32) (h : am_H) : Option (Int32) := cal (f_X4_hasRoom_4 x2 h) fun v2 => if v2 = 0 then jn_X8_fullest_24 s1 0 h else rdI h 5 4 x2 fun v16 => jn_X8_fullest_24 s1 v16 h
theorem rj_X8_fullest_95 {X : am_X} {d : Nat} (hd : 1 ≤ d) (k_40 : Int32 → Int32 → Int32 → Option (Int32)) (s1 : Nat) (x3 : Int32) (x4 : Int32) (x5 : Int32) (x6 : Int32) (x7 : Int32) (x8 : Int32) (y0 : Int32) (hs1 : s1 ∈ am_ST) {h : am_H} (T : am_TP h.2.2) {r : Int32} (hk_40 : ∀ (x5 : Int32) (x6 : Int32) (x7 : Int32) , k_40 x5 x6 x7 = some r → am_G X d 8 false cX8_fullest (some .int) 40 [none, some (.ref s1), none, some (.int x3), some (.int x4), some (.int x5), some (.int x6), some (.int x7), none, none] [] (am_SH, h) (some (.int r), (am_SH, h))) (hf : jn_X8_fullest_95 k_40 s1 x3 x4 x5 x6 x7 x8 y0 h = some r) : am_G X d 8 false cX8_fullest (some .int) 95 [none, some (.ref s1), none, some (.int x3), some (.int x4), some (.int x5), some (.int x6), some (.int x7), some (.int x8), none] [.int y0] (am_SH, h) (some (.int r), (am_SH, h)) := by
  obtain ⟨d, rfl⟩ : ∃ e, d = e + 1 := ⟨d - 1, by omega⟩
  unfold jn_X8_fullest_95 at hf
  refine r_loc (L' := [none, some (.ref s1), none, some (.int x3), some (.int x4), some (.int x5), some (.int x6), some (.int x7), some (.int x8), some (.int y0)]) dX8_fullest_95 rfl ?_
  refine r_loc dX8_fullest_97 rfl ?_
  refine r_loc dX8_fullest_99 rfl ?_
  refine r_gt (q := 123) dX8_fullest_100 rfl hf (fun hf => ?_) (fun hf => ?_)
  · refine r_loc (L' := [none, some (.ref s1), none, some (.int x3), some (.int x4), some (.int x5), some (.int x6), some (.int (x7 + 1)), some (.int x8), some (.int y0)]) dX8_fullest_123 rfl ?_
    refine r_goto (q := 40) dX8_fullest_126 rfl ?_
    refine r_weak (L := [none, some (.ref s1), none, some (.int x3), some (.int x4), some (.int x5), some (.int x6), some (.int (x7 + 1)), none, none]) (am_le_n (am_le_s (am_le_n (am_le_s (am_le_s (am_le_s (am_le_s (am_le_s (am_le_n (am_le_n am_le_0)))))))))) ?_
    exact hk_40 x5 x6 (x7 + 1) hf
  · refine r_loc dX8_fullest_103 rfl ?_
    refine r_loc dX8_fullest_105 rfl ?_
    refine r_gt (q := 115) dX8_fullest_107 rfl hf (fun hf => ?_) (fun hf => ?_)
    · refine r_loc dX8_fullest_115 rfl ?_
      refine r_loc (L' := [none, some (.ref s1), none, some (.int x3), some (.int x4), some (.int x7), some (.int x6), some (.int x7), some (.int x8), some (.int y0)]) dX8_fullest_117 rfl ?_
      refine r_loc dX8_fullest_119 rfl ?_
      refine r_loc (L' := [none, some (.ref s1), none, some (.int x3), some (.int x4), some (.int x7), some (.int x8), some (.int x7), some (.int x8), some (.int y0)]) dX8_fullest_121 rfl ?_
      refine r_loc (L' := [none, some (.ref s1), none, some (.int x3), some (.int x4), some (.int x7), some (.int x8), some (.int (x7 + 1)), some (.int x8), some (.int y0)]) dX8_fullest_123 rfl ?_
      refine r_goto (q := 40) dX8_fullest_126 rfl ?_
      refine r_weak (L := [none, some (.ref s1), none, some (.int x3), some (.int x4), some (.int x7), some (.int x8), some (.int (x7 + 1)), none, none]) (am_le_n (am_le_s (am_le_n (am_le_s (am_le_s (am_le_s (am_le_s (am_le_s (am_le_n (am_le_n am_le_0)))))))))) ?_
      exact hk_40 x7 x8 (x7 + 1) hf
    · refine r_loc dX8_fullest_110 rfl ?_
      refine r_eq0 (q := 123) dX8_fullest_112 rfl hf (fun hf => ?_) (fun hf => ?_)
      · refine r_loc (L' := [none, some (.ref s1), none, some (.int x3), some (.int x4), some (.int x5), some (.int x6), some (.int (x7 + 1)), some (.int x8), some (.int y0)]) dX8_fullest_123 rfl ?_
        refine r_goto (q := 40) dX8_fullest_126 rfl ?_
        refine r_weak (L := [none, some (.ref s1), none, some (.int x3), some (.int x4), some (.int x5), some (.int x6), some (.int (x7 + 1)), none, none]) (am_le_n (am_le_s (am_le_n (am_le_s (am_le_s (am_le_s (am_le_s (am_le_s (am_le_n (am_le_n am_le_0)))))))))) ?_
        exact hk_40 x5 x6 (x7 + 1) hf
      · refine r_loc dX8_fullest_115 rfl ?_
        refine r_loc (L' := [none, some (.ref s1), none, some (.int x3), some (.int x4), some (.int x7), some (.int x6), some (.int x7), some (.int x8), some (.int y0)]) dX8_fullest_117 rfl ?_
        refine r_loc dX8_fullest_119 rfl ?_
        refine r_loc (L' := [none, some (.ref s1), none, some (.int x3), some (.int x4), some (.int x7), some (.int x8), some (.int x7), some (.int x8), some (.int y0)]) dX8_fullest_121 rfl ?_
        refine r_loc (L' := [none, some (.ref s1), none, some (.int x3), some (.int x4), some (.int x7), some (.int x8), some (.int (x7 + 1)), some (.int x8), some (.int y0)]) dX8_fullest_123 rfl ?_
        refine r_goto (q := 40) dX8_fullest_126 rfl ?_
        refine r_weak (L := [none, some (.ref s1), none, some (.int x3), some (.int x4), some (.int x7), some (.int x8), some (.int (x7 + 1)), none, none]) (am_le_n (am_le_s (am_le_n (am_le_s (am_le_s (am_le_s (am_le_s (am_le_s (am_le_n (am_le_n am_le_0)))))))))) ?_
        exact hk_40 x7 x8 (x7 + 1) hf
theorem rj_X8_fullest_94 {X : am_X} {d : Nat} (hd : 1 ≤ d) (k_40 : Int32 → Int32 → Int32 → Option (Int32)) (s1 : Nat) (x3 : Int32) (x4 : Int32) (x5 : Int32) (x6 : Int32) (x7 : Int32) (x8 : Int32) (hs1 : s1 ∈ am_ST) {h : am_H} (T : am_TP h.2.2) {r : Int32} (hk_40 : ∀ (x5 : Int32) (x6 : Int32) (x7 : Int32) , k_40 x5 x6 x7 = some r → am_G X d 8 false cX8_fullest (some .int) 40 [none, some (.ref s1), none, some (.int x3), some (.int x4), some (.int x5), some (.int x6), some (.int x7), none, none] [] (am_SH, h) (some (.int r), (am_SH, h))) (hf : jn_X8_fullest_94 k_40 s1 x3 x4 x5 x6 x7 x8 h = some r) : am_G X d 8 false cX8_fullest (some .int) 94 [none, some (.ref s1), none, some (.int x3), some (.int x4), some (.int x5), some (.int x6), some (.int x7), some (.int x8), none] [] (am_SH, h) (some (.int r), (am_SH, h)) := by
  obtain ⟨d, rfl⟩ : ∃ e, d = e + 1 := ⟨d - 1, by omega⟩
  unfold jn_X8_fullest_94 at hf
  refine r_iconst (v := 0) dX8_fullest_94 rfl ?_
  exact rj_X8_fullest_95 (by omega) (k_40) s1 x3 x4 x5 x6 x7 x8 0 hs1 T (hk_40) hf
theorem rj_X8_fullest_68 {X : am_X} {d : Nat} (hd : 1 ≤ d) (k_40 : Int32 → Int32 → Int32 → Option (Int32)) (s1 : Nat) (x3 : Int32) (x4 : Int32) (x5 : Int32) (x6 : Int32) (x7 : Int32) (y0 : Int32) (hs1 : s1 ∈ am_ST) {h : am_H} (T : am_TP h.2.2) {r : Int32} (hk_40 : ∀ (x5 : Int32) (x6 : Int32) (x7 : Int32) , k_40 x5 x6 x7 = some r → am_G X d 8 false cX8_fullest (some .int) 40 [none, some (.ref s1), none, some (.int x3), some (.int x4), some (.int x5), some (.int x6), some (.int x7), none, none] [] (am_SH, h) (some (.int r), (am_SH, h))) (hf : jn_X8_fullest_68 k_40 s1 x3 x4 x5 x6 x7 y0 h = some r) : am_G X d 8 false cX8_fullest (some .int) 68 [none, some (.ref s1), none, some (.int x3), some (.int x4), some (.int x5), some (.int x6), some (.int x7), none, none] [.int y0] (am_SH, h) (some (.int r), (am_SH, h)) := by
  obtain ⟨d, rfl⟩ : ∃ e, d = e + 1 := ⟨d - 1, by omega⟩
  unfold jn_X8_fullest_68 at hf
  refine r_loc (L' := [none, some (.ref s1), none, some (.int x3), some (.int x4), some (.int x5), some (.int x6), some (.int x7), some (.int y0), none]) dX8_fullest_68 rfl ?_
  refine r_loc dX8_fullest_70 rfl ?_
  refine r_loc dX8_fullest_72 rfl ?_
  refine r_ne (q := 94) dX8_fullest_74 rfl hf (fun hf => ?_) (fun hf => ?_)
  · exact rj_X8_fullest_94 (by omega) (k_40) s1 x3 x4 x5 x6 x7 y0 hs1 T (hk_40) hf
  · refine r_loc dX8_fullest_77 rfl ?_
    obtain ⟨v8, c7, hf⟩ := cal_inv hf
    have g9 := rf_J6_bitCount_0f7a4 (X := X) (d := d) (by omega) x7 T c7
    refine r_stat (pre := [.int x7]) (rest := []) dX8_fullest_79 ct_8_58 rfl (Nat.le_of_ble_eq_true rfl) (Nat.le_of_ble_eq_true rfl) g9 ?_
    refine r_loc dX8_fullest_82 rfl ?_
    obtain ⟨v11, c10, hf⟩ := cal_inv hf
    have g12 := rf_J6_bitCount_0f7a4 (X := X) (d := d) (by omega) x5 T c10
    refine r_stat (pre := [.int x5]) (rest := [.int v8]) dX8_fullest_84 ct_8_58 rfl (Nat.le_of_ble_eq_true rfl) (Nat.le_of_ble_eq_true rfl) g12 ?_
    refine r_ge (q := 94) dX8_fullest_87 rfl hf (fun hf => ?_) (fun hf => ?_)
    · exact rj_X8_fullest_94 (by omega) (k_40) s1 x3 x4 x5 x6 x7 y0 hs1 T (hk_40) hf
    · refine r_iconst (v := 1) dX8_fullest_90 rfl ?_
      refine r_goto (q := 95) dX8_fullest_91 rfl ?_
      exact rj_X8_fullest_95 (by omega) (k_40) s1 x3 x4 x5 x6 x7 y0 1 hs1 T (hk_40) hf
theorem rl_X8_fullest_40 {X : am_X} {d : Nat} (hd : 1 ≤ d) (s1 : Nat) (p3 : Int32) (p4 : Int32) (hs1 : s1 ∈ am_ST) {h : am_H} (T : am_TP h.2.2) {r : Int32} : ∀ (n : Nat) (x5 : Int32) (x6 : Int32) (x7 : Int32) , lp_X8_fullest_40 s1 p3 p4 h n x5 x6 x7 = some r → am_G X d 8 false cX8_fullest (some .int) 40 [none, some (.ref s1), none, some (.int p3), some (.int p4), some (.int x5), some (.int x6), some (.int x7), none, none] [] (am_SH, h) (some (.int r), (am_SH, h)) := by
  obtain ⟨d, rfl⟩ : ∃ e, d = e + 1 := ⟨d - 1, by omega⟩
  intro n
  induction n with
  | zero => intro x5 x6 x7 hf; cases hf
  | succ n ih =>
    intro x5 x6 x7 hf
    rw [lp_X8_fullest_40] at hf
    refine r_loc dX8_fullest_40 rfl ?_
    refine r_sipush (v := 256) dX8_fullest_42 rfl ?_
    refine r_ge (q := 129) dX8_fullest_45 rfl hf (fun hf => ?_) (fun hf => ?_)
    · refine r_loc dX8_fullest_129 rfl ?_
      cases hf
      exact r_ri T dX8_fullest_131
    · refine r_loc dX8_fullest_48 rfl ?_
      refine r_loc dX8_fullest_50 rfl ?_
      refine r_iconst (v := (-1)) dX8_fullest_52 rfl ?_
      refine r_alu dX8_fullest_53 rfl ?_
      refine r_alu dX8_fullest_54 rfl ?_
      refine r_ne0 (q := 67) dX8_fullest_55 rfl hf (fun hf => ?_) (fun hf => ?_)
      · refine r_iconst (v := (-1)) dX8_fullest_67 rfl ?_
        exact rj_X8_fullest_68 (by omega) (lp_X8_fullest_40 s1 p3 p4 h n) s1 p3 p4 x5 x6 x7 (-1) hs1 T (ih) hf
      · refine r_loc dX8_fullest_58 rfl ?_
        refine r_loc dX8_fullest_59 rfl ?_
        obtain ⟨v14, c13, hf⟩ := cal_inv hf
        have g15 := rf_X7_bulkOf (X := X) (d := d) (by omega) s1 x7 hs1 T c13
        refine r_virt (pre := [.int x7]) (rest := []) dX8_fullest_61 ct_8_75 rfl ((sh_S hs1)) (Nat.le_of_ble_eq_true rfl) (Nat.le_of_ble_eq_true rfl) g15 ?_
        refine r_goto (q := 68) dX8_fullest_64 rfl ?_
        exact rj_X8_fullest_68 (by omega) (lp_X8_fullest_40 s1 p3 p4 h n) s1 p3 p4 x5 x6 x7 v14 hs1 T (ih) hf
theorem rj_X8_fullest_24 {X : am_X} {d : Nat} (hd : 1 ≤ d) (s1 : Nat) (y0 : Int32) (hs1 : s1 ∈ am_ST) {h : am_H} (T : am_TP h.2.2) {r : Int32} (hf : jn_X8_fullest_24 s1 y0 h = some r) : am_G X d 8 false cX8_fullest (some .int) 24 [none, some (.ref s1), none, none, none, none, none, none, none, none] [.int y0] (am_SH, h) (some (.int r), (am_SH, h)) := by
  obtain ⟨d, rfl⟩ : ∃ e, d = e + 1 := ⟨d - 1, by omega⟩
  unfold jn_X8_fullest_24 at hf
  refine r_loc (L' := [none, some (.ref s1), none, some (.int y0), none, none, none, none, none, none]) dX8_fullest_24 rfl ?_
  refine r_loc dX8_fullest_25 rfl ?_
  obtain ⟨v5, c4, hf⟩ := cal_inv hf
  have g6 := rf_X7_bits (X := X) (d := d) (by omega) s1 hs1 T c4
  refine r_virt (pre := []) (rest := []) dX8_fullest_26 ct_8_71 rfl ((sh_S hs1)) (Nat.le_of_ble_eq_true rfl) (Nat.le_of_ble_eq_true rfl) g6 ?_
  refine r_loc (L' := [none, some (.ref s1), none, some (.int y0), some (.int v5), none, none, none, none, none]) dX8_fullest_29 rfl ?_
  refine r_iconst (v := 0) dX8_fullest_31 rfl ?_
  refine r_loc (L' := [none, some (.ref s1), none, some (.int y0), some (.int v5), some (.int 0), none, none, none, none]) dX8_fullest_32 rfl ?_
  refine r_iconst (v := 0) dX8_fullest_34 rfl ?_
  refine r_loc (L' := [none, some (.ref s1), none, some (.int y0), some (.int v5), some (.int 0), some (.int 0), none, none, none]) dX8_fullest_35 rfl ?_
  refine r_iconst (v := 1) dX8_fullest_37 rfl ?_
  refine r_loc (L' := [none, some (.ref s1), none, some (.int y0), some (.int v5), some (.int 0), some (.int 0), some (.int 1), none, none]) dX8_fullest_38 rfl ?_
  refine rl_X8_fullest_40 (by omega) s1 y0 v5 hs1 T  4000 0 0 1  hf
theorem rf_X8_fullest {X : am_X} {d : Nat} (hd : 1 ≤ d) (s1 : Nat) (x2 : Int32) (hs1 : s1 ∈ am_ST) {h : am_H} (T : am_TP h.2.2) {r : Int32} (hf : f_X8_fullest s1 x2 h = some r) : am_G X d 8 false cX8_fullest (some .int) 0 [some (.ref 401), some (.ref s1), some (.int x2), none, none, none, none, none, none, none] [] (am_SH, h) (some (.int r), (am_SH, h)) := by
  unfold f_X8_fullest at hf
  obtain ⟨d, rfl⟩ : ∃ e, d = e + 1 := ⟨d - 1, by omega⟩
  refine r_loc dX8_fullest_0 rfl ?_
  refine r_getR dX8_fullest_1 fl_8_25 sh_401 (Or.inl ⟨_, rfl⟩) (tp_401_0 T) ?_
  refine r_loc dX8_fullest_4 rfl ?_
  obtain ⟨v2, c1, hf⟩ := cal_inv hf
  have g3 := rf_X4_hasRoom_4 (X := X) (d := d) (by omega) x2 T c1
  refine r_virt (pre := [.int x2]) (rest := []) dX8_fullest_5 ct_8_67 rfl (sh_4) (Nat.le_of_ble_eq_true rfl) (Nat.le_of_ble_eq_true rfl) g3 ?_
  refine r_eq0 (q := 23) dX8_fullest_8 rfl hf (fun hf => ?_) (fun hf => ?_)
  · refine r_iconst (v := 0) dX8_fullest_23 rfl ?_
    refine r_weak (L := [none, some (.ref s1), none, none, none, none, none, none, none, none]) (am_le_n (am_le_s (am_le_n (am_le_n (am_le_n (am_le_n (am_le_n (am_le_n (am_le_n (am_le_n am_le_0)))))))))) ?_
    exact rj_X8_fullest_24 (by omega) s1 0 hs1 T hf
  · refine r_loc dX8_fullest_11 rfl ?_
    refine r_getR dX8_fullest_12 fl_8_25 sh_401 (Or.inl ⟨_, rfl⟩) (tp_401_0 T) ?_
    refine r_getR dX8_fullest_15 fl_8_34 sh_4 (Or.inr ⟨_, rfl⟩) (tp_4_0 T) ?_
    refine r_loc dX8_fullest_18 rfl ?_
    refine r_iald dX8_fullest_19 sh_5 hf (fun v16 hf => ?_)
    refine r_goto (q := 24) dX8_fullest_20 rfl ?_
    refine r_weak (L := [none, some (.ref s1), none, none, none, none, none, none, none, none]) (am_le_n (am_le_s (am_le_n (am_le_n (am_le_n (am_le_n (am_le_n (am_le_n (am_le_n (am_le_n am_le_0)))))))))) ?_
    exact rj_X8_fullest_24 (by omega) s1 v16 hs1 T hf
def f_X11_fill (x1 : Int32) (x2 : Int32) (h : am_H) : Option (Int32) := cal (f_X4_hasRoom_4 x1 h) fun v2 => if v2 = 0 then some (-1) else if x2 < 0 then some (-1) else if 1 < x2 then some (-1) else cal (f_X8_fullest 27 x1 h) fun v5 => if x2 = 0 then cal (f_X7_bulkOf 27 v5 h) fun v8 => some v8 else some v5
theorem rf_X11_fill {X : am_X} {d : Nat} (hd : 2 ≤ d) (x1 : Int32) (x2 : Int32) {h : am_H} (T : am_TP h.2.2) {r : Int32} (hf : f_X11_fill x1 x2 h = some r) : am_G X d 11 false cX11_fill (some .int) 0 [some (.ref 0), some (.int x1), some (.int x2), none] [] (am_SH, h) (some (.int r), (am_SH, h)) := by
  unfold f_X11_fill at hf
  obtain ⟨d, rfl⟩ : ∃ e, d = e + 1 := ⟨d - 1, by omega⟩
  refine r_loc dX11_fill_0 rfl ?_
  refine r_getR dX11_fill_1 fl_11_19 sh_0 (Or.inl ⟨_, rfl⟩) (tp_0_1 T) ?_
  refine r_loc dX11_fill_4 rfl ?_
  obtain ⟨v2, c1, hf⟩ := cal_inv hf
  have g3 := rf_X4_hasRoom_4 (X := X) (d := d) (by omega) x1 T c1
  refine r_virt (pre := [.int x1]) (rest := []) dX11_fill_5 ct_11_123 rfl (sh_4) (Nat.le_of_ble_eq_true rfl) (Nat.le_of_ble_eq_true rfl) g3 ?_
  refine r_eq0 (q := 20) dX11_fill_8 rfl hf (fun hf => ?_) (fun hf => ?_)
  · refine r_iconst (v := (-1)) dX11_fill_20 rfl ?_
    cases hf
    exact r_ri T dX11_fill_21
  · refine r_loc dX11_fill_11 rfl ?_
    refine r_lt0 (q := 20) dX11_fill_12 rfl hf (fun hf => ?_) (fun hf => ?_)
    · refine r_iconst (v := (-1)) dX11_fill_20 rfl ?_
      cases hf
      exact r_ri T dX11_fill_21
    · refine r_loc dX11_fill_15 rfl ?_
      refine r_iconst (v := 1) dX11_fill_16 rfl ?_
      refine r_le (q := 22) dX11_fill_17 rfl hf (fun hf => ?_) (fun hf => ?_)
      · refine r_loc dX11_fill_22 rfl ?_
        refine r_getR dX11_fill_23 fl_11_65 sh_0 (Or.inl ⟨_, rfl⟩) (tp_0_7 T) ?_
        refine r_loc dX11_fill_26 rfl ?_
        refine r_getR dX11_fill_27 fl_11_37 sh_0 (Or.inl ⟨_, rfl⟩) (tp_0_3 T) ?_
        refine r_loc dX11_fill_30 rfl ?_
        obtain ⟨v5, c4, hf⟩ := cal_inv hf
        have g6 := rf_X8_fullest (X := X) (d := d) (by omega) 27 x1 st_27 T c4
        refine r_virt (pre := [.int x1, .ref 27]) (rest := []) dX11_fill_31 ct_11_247 rfl (sh_401) (Nat.le_of_ble_eq_true rfl) (Nat.le_of_ble_eq_true rfl) g6 ?_
        refine r_loc (L' := [some (.ref 0), some (.int x1), some (.int x2), some (.int v5)]) dX11_fill_34 rfl ?_
        refine r_loc dX11_fill_35 rfl ?_
        refine r_ne0 (q := 50) dX11_fill_36 rfl hf (fun hf => ?_) (fun hf => ?_)
        · refine r_loc dX11_fill_50 rfl ?_
          cases hf
          exact r_ri T dX11_fill_51
        · refine r_loc dX11_fill_39 rfl ?_
          refine r_getR dX11_fill_40 fl_11_37 sh_0 (Or.inl ⟨_, rfl⟩) (tp_0_3 T) ?_
          refine r_loc dX11_fill_43 rfl ?_
          obtain ⟨v8, c7, hf⟩ := cal_inv hf
          have g9 := rf_X7_bulkOf (X := X) (d := d) (by omega) 27 v5 st_27 T c7
          refine r_virt (pre := [.int v5]) (rest := []) dX11_fill_44 ct_11_250 rfl ((sh_S st_27)) (Nat.le_of_ble_eq_true rfl) (Nat.le_of_ble_eq_true rfl) g9 ?_
          refine r_goto (q := 51) dX11_fill_47 rfl ?_
          cases hf
          exact r_ri T dX11_fill_51
      · refine r_iconst (v := (-1)) dX11_fill_20 rfl ?_
        cases hf
        exact r_ri T dX11_fill_21
def f_X8_gainOf (x1 : Int32) (x2 : Int32) (x3 : Int32) (x4 : Int32) (h : am_H) : Option (Int32) := if x1 < 0 then some (-2) else if x1 < 4 then rdI h 402 4 x1 fun v1 => if v1 < x3 then some (-2) else rdI h 402 4 x1 fun v2 => if x1 = x2 then some (if (-1) < ((v2 - x3) - x4) then ((v2 - x3) - x4) else (-1)) else some (v2 - x3) else some (-2)
theorem rf_X8_gainOf {X : am_X} {d : Nat} (hd : 1 ≤ d) (x1 : Int32) (x2 : Int32) (x3 : Int32) (x4 : Int32) {h : am_H} (T : am_TP h.2.2) {r : Int32} (hf : f_X8_gainOf x1 x2 x3 x4 h = some r) : am_G X d 8 false cX8_gainOf (some .int) 0 [some (.ref 401), some (.int x1), some (.int x2), some (.int x3), some (.int x4), none] [] (am_SH, h) (some (.int r), (am_SH, h)) := by
  unfold f_X8_gainOf at hf
  obtain ⟨d, rfl⟩ : ∃ e, d = e + 1 := ⟨d - 1, by omega⟩
  refine r_loc dX8_gainOf_0 rfl ?_
  refine r_lt0 (q := 19) dX8_gainOf_1 rfl hf (fun hf => ?_) (fun hf => ?_)
  · refine r_bipush (v := (-2)) dX8_gainOf_19 rfl ?_
    cases hf
    exact r_ri T dX8_gainOf_21
  · refine r_loc dX8_gainOf_4 rfl ?_
    refine r_iconst (v := 4) dX8_gainOf_5 rfl ?_
    refine r_ge (q := 19) dX8_gainOf_6 rfl hf (fun hf => ?_) (fun hf => ?_)
    · refine r_bipush (v := (-2)) dX8_gainOf_19 rfl ?_
      cases hf
      exact r_ri T dX8_gainOf_21
    · refine r_loc dX8_gainOf_9 rfl ?_
      refine r_getR dX8_gainOf_10 fl_8_9 sh_401 (Or.inr ⟨_, rfl⟩) (tp_401_1 T) ?_
      refine r_loc dX8_gainOf_13 rfl ?_
      refine r_iald dX8_gainOf_14 sh_402 hf (fun v1 hf => ?_)
      refine r_loc dX8_gainOf_15 rfl ?_
      refine r_ge (q := 22) dX8_gainOf_16 rfl hf (fun hf => ?_) (fun hf => ?_)
      · refine r_loc dX8_gainOf_22 rfl ?_
        refine r_getR dX8_gainOf_23 fl_8_9 sh_401 (Or.inr ⟨_, rfl⟩) (tp_401_1 T) ?_
        refine r_loc dX8_gainOf_26 rfl ?_
        refine r_iald dX8_gainOf_27 sh_402 hf (fun v2 hf => ?_)
        refine r_loc dX8_gainOf_28 rfl ?_
        refine r_alu dX8_gainOf_29 rfl ?_
        refine r_loc (L' := [some (.ref 401), some (.int x1), some (.int x2), some (.int x3), some (.int x4), some (.int (v2 - x3))]) dX8_gainOf_30 rfl ?_
        refine r_loc dX8_gainOf_32 rfl ?_
        refine r_loc dX8_gainOf_33 rfl ?_
        refine r_ne (q := 49) dX8_gainOf_34 rfl hf (fun hf => ?_) (fun hf => ?_)
        · refine r_loc dX8_gainOf_49 rfl ?_
          cases hf
          exact r_ri T dX8_gainOf_51
        · refine r_iconst (v := (-1)) dX8_gainOf_37 rfl ?_
          refine r_loc dX8_gainOf_38 rfl ?_
          refine r_loc dX8_gainOf_40 rfl ?_
          refine r_alu dX8_gainOf_42 rfl ?_
          refine r_max dX8_gainOf_43 ct_8_47 (Nat.le_of_ble_eq_true rfl) ?_
          refine r_goto (q := 51) dX8_gainOf_46 rfl ?_
          cases hf
          exact r_ri T dX8_gainOf_51
      · refine r_bipush (v := (-2)) dX8_gainOf_19 rfl ?_
        cases hf
        exact r_ri T dX8_gainOf_21
def lp_X8_isContent_14 (p2 : Int32) (p3 : Int32) (p4 : Int32) (p5 : Int32) (h : am_H) (k_55 : Option (Int32)) : Nat → Int32 → Option (Int32)
  | 0, _ => none
  | n + 1, x6 => bnd (h.1 4 6) fun v4 => if x6 < v4 then if x6 < 4 then cal (f_X8_gainOf x6 p2 p3 p4 h) fun v6 => if p5 < v6 then some 0 else lp_X8_isContent_14 p2 p3 p4 p5 h k_55 n (x6 + 1) else k_55 else k_55
def jn_X8_isContent_55 (x5 : Int32) (h : am_H) : Option (Int32) := if x5 = (-2) then some 0 else some 1
def f_X8_isContent (x1 : Int32) (x2 : Int32) (x3 : Int32) (x4 : Int32) (h : am_H) : Option (Int32) := cal (f_X8_gainOf x1 x2 x3 x4 h) fun v2 => lp_X8_isContent_14 x2 x3 x4 v2 h (jn_X8_isContent_55 v2 h) 4000 0
theorem rl_X8_isContent_14 {X : am_X} {d : Nat} (hd : 2 ≤ d) (p2 : Int32) (p3 : Int32) (p4 : Int32) (p5 : Int32) {h : am_H} (T : am_TP h.2.2) (k_55 : Option (Int32)) {r : Int32} (hk_55 : k_55  = some r → am_G X d 8 false cX8_isContent (some .boolean) 55 [none, none, none, none, none, some (.int p5), none] [] (am_SH, h) (some (.int r), (am_SH, h))) : ∀ (n : Nat) (x6 : Int32) , lp_X8_isContent_14 p2 p3 p4 p5 h k_55 n x6 = some r → am_G X d 8 false cX8_isContent (some .boolean) 14 [some (.ref 401), none, some (.int p2), some (.int p3), some (.int p4), some (.int p5), some (.int x6)] [] (am_SH, h) (some (.int r), (am_SH, h)) := by
  obtain ⟨d, rfl⟩ : ∃ e, d = e + 1 := ⟨d - 1, by omega⟩
  intro n
  induction n with
  | zero => intro x6 hf; cases hf
  | succ n ih =>
    intro x6 hf
    rw [lp_X8_isContent_14] at hf
    refine r_loc dX8_isContent_14 rfl ?_
    refine r_loc dX8_isContent_16 rfl ?_
    refine r_getR dX8_isContent_17 fl_8_25 sh_401 (Or.inl ⟨_, rfl⟩) (tp_401_0 T) ?_
    refine r_getI dX8_isContent_20 fl_8_29 sh_4 rfl hf (fun v4 hf => ?_)
    refine r_ge (q := 55) dX8_isContent_23 rfl hf (fun hf => ?_) (fun hf => ?_)
    · refine r_weak (L := [none, none, none, none, none, some (.int p5), none]) (am_le_n (am_le_n (am_le_n (am_le_n (am_le_n (am_le_s (am_le_n am_le_0))))))) ?_
      exact hk_55  hf
    · refine r_loc dX8_isContent_26 rfl ?_
      refine r_iconst (v := 4) dX8_isContent_28 rfl ?_
      refine r_ge (q := 55) dX8_isContent_29 rfl hf (fun hf => ?_) (fun hf => ?_)
      · refine r_weak (L := [none, none, none, none, none, some (.int p5), none]) (am_le_n (am_le_n (am_le_n (am_le_n (am_le_n (am_le_s (am_le_n am_le_0))))))) ?_
        exact hk_55  hf
      · refine r_loc dX8_isContent_32 rfl ?_
        refine r_loc dX8_isContent_33 rfl ?_
        refine r_loc dX8_isContent_35 rfl ?_
        refine r_loc dX8_isContent_36 rfl ?_
        refine r_loc dX8_isContent_37 rfl ?_
        obtain ⟨v6, c5, hf⟩ := cal_inv hf
        have g7 := rf_X8_gainOf (X := X) (d := d) (by omega) x6 p2 p3 p4 T c5
        refine r_virt (pre := [.int p4, .int p3, .int p2, .int x6]) (rest := []) dX8_isContent_39 ct_8_95 rfl (sh_401) (Nat.le_of_ble_eq_true rfl) (Nat.le_of_ble_eq_true rfl) g7 ?_
        refine r_loc dX8_isContent_42 rfl ?_
        refine r_le (q := 49) dX8_isContent_44 rfl hf (fun hf => ?_) (fun hf => ?_)
        · refine r_loc (L' := [some (.ref 401), none, some (.int p2), some (.int p3), some (.int p4), some (.int p5), some (.int (x6 + 1))]) dX8_isContent_49 rfl ?_
          refine r_goto (q := 14) dX8_isContent_52 rfl ?_
          exact ih (x6 + 1) hf
        · refine r_iconst (v := 0) dX8_isContent_47 rfl ?_
          cases hf
          exact r_z0 T dX8_isContent_48
theorem rj_X8_isContent_55 {X : am_X} {d : Nat} (hd : 2 ≤ d) (x5 : Int32) {h : am_H} (T : am_TP h.2.2) {r : Int32} (hf : jn_X8_isContent_55 x5 h = some r) : am_G X d 8 false cX8_isContent (some .boolean) 55 [none, none, none, none, none, some (.int x5), none] [] (am_SH, h) (some (.int r), (am_SH, h)) := by
  obtain ⟨d, rfl⟩ : ∃ e, d = e + 1 := ⟨d - 1, by omega⟩
  unfold jn_X8_isContent_55 at hf
  refine r_loc dX8_isContent_55 rfl ?_
  refine r_bipush (v := (-2)) dX8_isContent_57 rfl ?_
  refine r_eq (q := 66) dX8_isContent_59 rfl hf (fun hf => ?_) (fun hf => ?_)
  · refine r_iconst (v := 0) dX8_isContent_66 rfl ?_
    cases hf
    exact r_z0 T dX8_isContent_67
  · refine r_iconst (v := 1) dX8_isContent_62 rfl ?_
    refine r_goto (q := 67) dX8_isContent_63 rfl ?_
    cases hf
    exact r_z1 T dX8_isContent_67
theorem rf_X8_isContent {X : am_X} {d : Nat} (hd : 2 ≤ d) (x1 : Int32) (x2 : Int32) (x3 : Int32) (x4 : Int32) {h : am_H} (T : am_TP h.2.2) {r : Int32} (hf : f_X8_isContent x1 x2 x3 x4 h = some r) : am_G X d 8 false cX8_isContent (some .boolean) 0 [some (.ref 401), some (.int x1), some (.int x2), some (.int x3), some (.int x4), none, none] [] (am_SH, h) (some (.int r), (am_SH, h)) := by
  unfold f_X8_isContent at hf
  obtain ⟨d, rfl⟩ : ∃ e, d = e + 1 := ⟨d - 1, by omega⟩
  refine r_loc dX8_isContent_0 rfl ?_
  refine r_loc dX8_isContent_1 rfl ?_
  refine r_loc dX8_isContent_2 rfl ?_
  refine r_loc dX8_isContent_3 rfl ?_
  refine r_loc dX8_isContent_4 rfl ?_
  obtain ⟨v2, c1, hf⟩ := cal_inv hf
  have g3 := rf_X8_gainOf (X := X) (d := d) (by omega) x1 x2 x3 x4 T c1
  refine r_virt (pre := [.int x4, .int x3, .int x2, .int x1]) (rest := []) dX8_isContent_6 ct_8_95 rfl (sh_401) (Nat.le_of_ble_eq_true rfl) (Nat.le_of_ble_eq_true rfl) g3 ?_
  refine r_loc (L' := [some (.ref 401), some (.int x1), some (.int x2), some (.int x3), some (.int x4), some (.int v2), none]) dX8_isContent_9 rfl ?_
  refine r_iconst (v := 0) dX8_isContent_11 rfl ?_
  refine r_loc (L' := [some (.ref 401), some (.int x1), some (.int x2), some (.int x3), some (.int x4), some (.int v2), some (.int 0)]) dX8_isContent_12 rfl ?_
  refine r_weak (L := [some (.ref 401), none, some (.int x2), some (.int x3), some (.int x4), some (.int v2), some (.int 0)]) (am_le_s (am_le_n (am_le_s (am_le_s (am_le_s (am_le_s (am_le_s am_le_0))))))) ?_
  refine rl_X8_isContent_14 (by omega) x2 x3 x4 v2 T _ ?_ 4000 0  hf
  · intro hf
    exact rj_X8_isContent_55 (by omega) v2 T hf
def lp_X8_countPairsAtRest_26 (p1 : Int32) (p2 : Int32) (p4 : Int32) (k_95 : Int32 → am_H → Option (Int32 × am_H)) : Nat → Int32 → Int32 → am_H → Option (Int32 × am_H)
  | 0, _, _, _ => none
  | n + 1, x3, x5, h => bnd (h.1 4 6) fun v2 => if x5 < v2 then if x5 < 4 then cal (f_X8_isContent p4 x5 p1 p2 h) fun v4 => if v4 = 0 then lp_X8_countPairsAtRest_26 p1 p2 p4 k_95 n x3 (x5 + 1) h else cal (f_X8_isContent x5 p4 p2 p1 h) fun v7 => if v7 = 0 then lp_X8_countPairsAtRest_26 p1 p2 p4 k_95 n x3 (x5 + 1) h else if x3 = 0 then ptI h 401 3 p4 fun h9 => ptI h9 401 4 x5 fun h12 => lp_X8_countPairsAtRest_26 p1 p2 p4 k_95 n (x3 + 1) (x5 + 1) h12 else lp_X8_countPairsAtRest_26 p1 p2 p4 k_95 n (x3 + 1) (x5 + 1) h else k_95 x3 h else k_95 x3 h
def lp_X8_countPairsAtRest_5 (p1 : Int32) (p2 : Int32) : Nat → Int32 → Int32 → am_H → Option (Int32 × am_H)
  | 0, _, _, _ => none
  | n + 1, x3, x4, h => bnd (h.1 4 6) fun v1 => if x4 < v1 then if x4 < 4 then lp_X8_countPairsAtRest_26 p1 p2 x4 (fun z15 h16 => lp_X8_countPairsAtRest_5 p1 p2 n z15 (x4 + 1) h16) 4000 x3 0 h else some (x3, h) else some (x3, h)
def f_X8_countPairsAtRest (x1 : Int32) (x2 : Int32) (h : am_H) : Option (Int32 × am_H) := lp_X8_countPairsAtRest_5 x1 x2  4000 0 0 h
theorem rl_X8_countPairsAtRest_26 {X : am_X} {d : Nat} (hd : 3 ≤ d) (p1 : Int32) (p2 : Int32) (p4 : Int32) (k_95 : Int32 → am_H → Option (Int32 × am_H)) {r : Int32 × am_H} (hk_95 : ∀ (z3 : Int32) (h : am_H), am_TP h.2.2 → k_95 z3 h = some r → am_G X d 8 false cX8_countPairsAtRest (some .int) 95 [some (.ref 401), some (.int p1), some (.int p2), some (.int z3), some (.int p4), none] [] (am_SH, h) (some (.int r.1), (am_SH, r.2))) : ∀ (n : Nat) (x3 : Int32) (x5 : Int32) (h : am_H), am_TP h.2.2 → lp_X8_countPairsAtRest_26 p1 p2 p4 k_95 n x3 x5 h = some r → am_G X d 8 false cX8_countPairsAtRest (some .int) 26 [some (.ref 401), some (.int p1), some (.int p2), some (.int x3), some (.int p4), some (.int x5)] [] (am_SH, h) (some (.int r.1), (am_SH, r.2)) := by
  obtain ⟨d, rfl⟩ : ∃ e, d = e + 1 := ⟨d - 1, by omega⟩
  intro n
  induction n with
  | zero => intro x3 x5 h T hf; cases hf
  | succ n ih =>
    intro x3 x5 h T hf
    rw [lp_X8_countPairsAtRest_26] at hf
    refine r_loc dX8_countPairsAtRest_26 rfl ?_
    refine r_loc dX8_countPairsAtRest_28 rfl ?_
    refine r_getR dX8_countPairsAtRest_29 fl_8_25 sh_401 (Or.inl ⟨_, rfl⟩) (tp_401_0 T) ?_
    refine r_getI dX8_countPairsAtRest_32 fl_8_29 sh_4 rfl hf (fun v2 hf => ?_)
    refine r_ge (q := 95) dX8_countPairsAtRest_35 rfl hf (fun hf => ?_) (fun hf => ?_)
    · refine r_weak (L := [some (.ref 401), some (.int p1), some (.int p2), some (.int x3), some (.int p4), none]) (am_le_s (am_le_s (am_le_s (am_le_s (am_le_s (am_le_n am_le_0)))))) ?_
      exact hk_95 x3 h T hf
    · refine r_loc dX8_countPairsAtRest_38 rfl ?_
      refine r_iconst (v := 4) dX8_countPairsAtRest_40 rfl ?_
      refine r_ge (q := 95) dX8_countPairsAtRest_41 rfl hf (fun hf => ?_) (fun hf => ?_)
      · refine r_weak (L := [some (.ref 401), some (.int p1), some (.int p2), some (.int x3), some (.int p4), none]) (am_le_s (am_le_s (am_le_s (am_le_s (am_le_s (am_le_n am_le_0)))))) ?_
        exact hk_95 x3 h T hf
      · refine r_loc dX8_countPairsAtRest_44 rfl ?_
        refine r_loc dX8_countPairsAtRest_45 rfl ?_
        refine r_loc dX8_countPairsAtRest_47 rfl ?_
        refine r_loc dX8_countPairsAtRest_49 rfl ?_
        refine r_loc dX8_countPairsAtRest_50 rfl ?_
        obtain ⟨v4, c3, hf⟩ := cal_inv hf
        have g5 := rf_X8_isContent (X := X) (d := d) (by omega) p4 x5 p1 p2 T c3
        refine r_virt (pre := [.int p2, .int p1, .int x5, .int p4]) (rest := []) dX8_countPairsAtRest_51 ct_8_91 rfl (sh_401) (Nat.le_of_ble_eq_true rfl) (Nat.le_of_ble_eq_true rfl) g5 ?_
        refine r_eq0 (q := 89) dX8_countPairsAtRest_54 rfl hf (fun hf => ?_) (fun hf => ?_)
        · refine r_loc (L' := [some (.ref 401), some (.int p1), some (.int p2), some (.int x3), some (.int p4), some (.int (x5 + 1))]) dX8_countPairsAtRest_89 rfl ?_
          refine r_goto (q := 26) dX8_countPairsAtRest_92 rfl ?_
          exact ih x3 (x5 + 1) h T hf
        · refine r_loc dX8_countPairsAtRest_57 rfl ?_
          refine r_loc dX8_countPairsAtRest_58 rfl ?_
          refine r_loc dX8_countPairsAtRest_60 rfl ?_
          refine r_loc dX8_countPairsAtRest_62 rfl ?_
          refine r_loc dX8_countPairsAtRest_63 rfl ?_
          obtain ⟨v7, c6, hf⟩ := cal_inv hf
          have g8 := rf_X8_isContent (X := X) (d := d) (by omega) x5 p4 p2 p1 T c6
          refine r_virt (pre := [.int p1, .int p2, .int p4, .int x5]) (rest := []) dX8_countPairsAtRest_64 ct_8_91 rfl (sh_401) (Nat.le_of_ble_eq_true rfl) (Nat.le_of_ble_eq_true rfl) g8 ?_
          refine r_eq0 (q := 89) dX8_countPairsAtRest_67 rfl hf (fun hf => ?_) (fun hf => ?_)
          · refine r_loc (L' := [some (.ref 401), some (.int p1), some (.int p2), some (.int x3), some (.int p4), some (.int (x5 + 1))]) dX8_countPairsAtRest_89 rfl ?_
            refine r_goto (q := 26) dX8_countPairsAtRest_92 rfl ?_
            exact ih x3 (x5 + 1) h T hf
          · refine r_loc dX8_countPairsAtRest_70 rfl ?_
            refine r_ne0 (q := 86) dX8_countPairsAtRest_71 rfl hf (fun hf => ?_) (fun hf => ?_)
            · refine r_loc (L' := [some (.ref 401), some (.int p1), some (.int p2), some (.int (x3 + 1)), some (.int p4), some (.int x5)]) dX8_countPairsAtRest_86 rfl ?_
              refine r_loc (L' := [some (.ref 401), some (.int p1), some (.int p2), some (.int (x3 + 1)), some (.int p4), some (.int (x5 + 1))]) dX8_countPairsAtRest_89 rfl ?_
              refine r_goto (q := 26) dX8_countPairsAtRest_92 rfl ?_
              exact ih (x3 + 1) (x5 + 1) h T hf
            · refine r_loc dX8_countPairsAtRest_74 rfl ?_
              refine r_loc dX8_countPairsAtRest_75 rfl ?_
              refine r_putI dX8_countPairsAtRest_77 fl_8_18 sh_401 ⟨rfl, rfl⟩ hf (fun h9 e11 hf => ?_)
              have T10 := tp_eq e11 T
              refine r_loc dX8_countPairsAtRest_80 rfl ?_
              refine r_loc dX8_countPairsAtRest_81 rfl ?_
              refine r_putI dX8_countPairsAtRest_83 fl_8_22 sh_401 ⟨rfl, rfl⟩ hf (fun h12 e14 hf => ?_)
              have T13 := tp_eq e14 T10
              refine r_loc (L' := [some (.ref 401), some (.int p1), some (.int p2), some (.int (x3 + 1)), some (.int p4), some (.int x5)]) dX8_countPairsAtRest_86 rfl ?_
              refine r_loc (L' := [some (.ref 401), some (.int p1), some (.int p2), some (.int (x3 + 1)), some (.int p4), some (.int (x5 + 1))]) dX8_countPairsAtRest_89 rfl ?_
              refine r_goto (q := 26) dX8_countPairsAtRest_92 rfl ?_
              exact ih (x3 + 1) (x5 + 1) h12 T13 hf
theorem rl_X8_countPairsAtRest_5 {X : am_X} {d : Nat} (hd : 3 ≤ d) (p1 : Int32) (p2 : Int32) {r : Int32 × am_H} : ∀ (n : Nat) (x3 : Int32) (x4 : Int32) (h : am_H), am_TP h.2.2 → lp_X8_countPairsAtRest_5 p1 p2 n x3 x4 h = some r → am_G X d 8 false cX8_countPairsAtRest (some .int) 5 [some (.ref 401), some (.int p1), some (.int p2), some (.int x3), some (.int x4), none] [] (am_SH, h) (some (.int r.1), (am_SH, r.2)) := by
  obtain ⟨d, rfl⟩ : ∃ e, d = e + 1 := ⟨d - 1, by omega⟩
  intro n
  induction n with
  | zero => intro x3 x4 h T hf; cases hf
  | succ n ih =>
    intro x3 x4 h T hf
    rw [lp_X8_countPairsAtRest_5] at hf
    refine r_loc dX8_countPairsAtRest_5 rfl ?_
    refine r_loc dX8_countPairsAtRest_7 rfl ?_
    refine r_getR dX8_countPairsAtRest_8 fl_8_25 sh_401 (Or.inl ⟨_, rfl⟩) (tp_401_0 T) ?_
    refine r_getI dX8_countPairsAtRest_11 fl_8_29 sh_4 rfl hf (fun v1 hf => ?_)
    refine r_ge (q := 101) dX8_countPairsAtRest_14 rfl hf (fun hf => ?_) (fun hf => ?_)
    · refine r_loc dX8_countPairsAtRest_101 rfl ?_
      cases hf
      exact r_ri T dX8_countPairsAtRest_102
    · refine r_loc dX8_countPairsAtRest_17 rfl ?_
      refine r_iconst (v := 4) dX8_countPairsAtRest_19 rfl ?_
      refine r_ge (q := 101) dX8_countPairsAtRest_20 rfl hf (fun hf => ?_) (fun hf => ?_)
      · refine r_loc dX8_countPairsAtRest_101 rfl ?_
        cases hf
        exact r_ri T dX8_countPairsAtRest_102
      · refine r_iconst (v := 0) dX8_countPairsAtRest_23 rfl ?_
        refine r_loc (L' := [some (.ref 401), some (.int p1), some (.int p2), some (.int x3), some (.int x4), some (.int 0)]) dX8_countPairsAtRest_24 rfl ?_
        refine rl_X8_countPairsAtRest_26 (by omega) p1 p2 x4 _ ?_ 4000 x3 0 h T hf
        · intro z15 h16 T17 hf
          refine r_loc (L' := [some (.ref 401), some (.int p1), some (.int p2), some (.int z15), some (.int (x4 + 1)), none]) dX8_countPairsAtRest_95 rfl ?_
          refine r_goto (q := 5) dX8_countPairsAtRest_98 rfl ?_
          exact ih z15 (x4 + 1) h16 T17 hf
theorem rf_X8_countPairsAtRest {X : am_X} {d : Nat} (hd : 3 ≤ d) (x1 : Int32) (x2 : Int32) {h : am_H} (T : am_TP h.2.2) {r : Int32 × am_H} (hf : f_X8_countPairsAtRest x1 x2 h = some r) : am_G X d 8 false cX8_countPairsAtRest (some .int) 0 [some (.ref 401), some (.int x1), some (.int x2), none, none, none] [] (am_SH, h) (some (.int r.1), (am_SH, r.2)) := by
  unfold f_X8_countPairsAtRest at hf
  obtain ⟨d, rfl⟩ : ∃ e, d = e + 1 := ⟨d - 1, by omega⟩
  refine r_iconst (v := 0) dX8_countPairsAtRest_0 rfl ?_
  refine r_loc (L' := [some (.ref 401), some (.int x1), some (.int x2), some (.int 0), none, none]) dX8_countPairsAtRest_1 rfl ?_
  refine r_iconst (v := 0) dX8_countPairsAtRest_2 rfl ?_
  refine r_loc (L' := [some (.ref 401), some (.int x1), some (.int x2), some (.int 0), some (.int 0), none]) dX8_countPairsAtRest_3 rfl ?_
  refine rl_X8_countPairsAtRest_5 (by omega) x1 x2  4000 0 0 h T hf
def jn_X8_countRests_122 (k_36 : Int32 → Int32 → Int32 → am_H → Option (Int32 × am_H)) (s1 : Nat) (x2 : Int32) (x3 : Int32) (x4 : Int32) (x5 : Int32) (x7 : Int32) (x8 : Int32) (y0 : Int32) (y1 : Int32) (h : am_H) : Option (Int32 × am_H) := rdI h 402 4 x8 fun v16 => if v16 < x5 then k_36 (y1 ||| y0) (x7 ||| 0) (x8 + 1) h else k_36 (y1 ||| y0) (x7 ||| 1) (x8 + 1) h
def lp_X8_countRests_36 (s1 : Nat) (p2 : Int32) (p3 : Int32) (p4 : Int32) (p5 : Int32) (k_153 : Int32 → Int32 → am_H → Option (Int32 × am_H)) : Nat → Int32 → Int32 → Int32 → am_H → Option (Int32 × am_H)
  | 0, _, _, _, _ => none
  | n + 1, x6, x7, x8, h => bnd (h.1 4 6) fun v6 => if x8 < v6 then if x8 < 4 then cal (f_X7_leftIn s1 x8 h) fun v8 => rdI h (s1 + 2) 8 p2 fun v10 => if v10 = x8 then rdI h (s1 + 2) 8 p3 fun v21 => if v21 = x8 then wrI h 402 4 x8 ((v8 + p4) + p5) fun h26 => rdI h26 402 4 x8 fun v29 => if v29 < p4 then jn_X8_countRests_122 (lp_X8_countRests_36 s1 p2 p3 p4 p5 k_153 n) s1 p2 p3 p4 p5 x7 x8 0 x6 h26 else jn_X8_countRests_122 (lp_X8_countRests_36 s1 p2 p3 p4 p5 k_153 n) s1 p2 p3 p4 p5 x7 x8 1 x6 h26 else wrI h 402 4 x8 ((v8 + p4) + 0) fun h22 => rdI h22 402 4 x8 fun v25 => if v25 < p4 then jn_X8_countRests_122 (lp_X8_countRests_36 s1 p2 p3 p4 p5 k_153 n) s1 p2 p3 p4 p5 x7 x8 0 x6 h22 else jn_X8_countRests_122 (lp_X8_countRests_36 s1 p2 p3 p4 p5 k_153 n) s1 p2 p3 p4 p5 x7 x8 1 x6 h22 else rdI h (s1 + 2) 8 p3 fun v11 => if v11 = x8 then wrI h 402 4 x8 ((v8 + 0) + p5) fun h17 => rdI h17 402 4 x8 fun v20 => if v20 < p4 then jn_X8_countRests_122 (lp_X8_countRests_36 s1 p2 p3 p4 p5 k_153 n) s1 p2 p3 p4 p5 x7 x8 0 x6 h17 else jn_X8_countRests_122 (lp_X8_countRests_36 s1 p2 p3 p4 p5 k_153 n) s1 p2 p3 p4 p5 x7 x8 1 x6 h17 else wrI h 402 4 x8 ((v8 + 0) + 0) fun h12 => rdI h12 402 4 x8 fun v15 => if v15 < p4 then jn_X8_countRests_122 (lp_X8_countRests_36 s1 p2 p3 p4 p5 k_153 n) s1 p2 p3 p4 p5 x7 x8 0 x6 h12 else jn_X8_countRests_122 (lp_X8_countRests_36 s1 p2 p3 p4 p5 k_153 n) s1 p2 p3 p4 p5 x7 x8 1 x6 h12 else k_153 x6 x7 h else k_153 x6 x7 h
def jn_X8_countRests_153 (x4 : Int32) (x5 : Int32) (x6 : Int32) (x7 : Int32) (h : am_H) : Option (Int32 × am_H) := if x6 = 0 then some ((-1), h) else if x7 = 0 then some ((-1), h) else cal2 (f_X8_countPairsAtRest x4 x5 h) fun v35 h37 => some (v35, h37)
def f_X8_countRests (s1 : Nat) (x2 : Int32) (x3 : Int32) (h : am_H) : Option (Int32 × am_H) := cal (f_X7_hasBoth s1 x2 x3 h) fun v2 => if v2 = 0 then some ((-1), h) else rdI h (s1 + 1) 8 x2 fun v4 => rdI h (s1 + 1) 8 x3 fun v5 => lp_X8_countRests_36 s1 x2 x3 v4 v5 (fun z30 z31 h32 => jn_X8_countRests_153 v4 v5 z30 z31 h32) 4000 0 0 0 h
theorem rj_X8_countRests_122 {X : am_X} {d : Nat} (hd : 4 ≤ d) (k_36 : Int32 → Int32 → Int32 → am_H → Option (Int32 × am_H)) (s1 : Nat) (x2 : Int32) (x3 : Int32) (x4 : Int32) (x5 : Int32) (x7 : Int32) (x8 : Int32) (y0 : Int32) (y1 : Int32) (hs1 : s1 ∈ am_ST) {h : am_H} (T : am_TP h.2.2) {r : Int32 × am_H} (hk_36 : ∀ (x6 : Int32) (x7 : Int32) (x8 : Int32) (h : am_H), am_TP h.2.2 → k_36 x6 x7 x8 h = some r → am_G X d 8 false cX8_countRests (some .int) 36 [some (.ref 401), some (.ref s1), some (.int x2), some (.int x3), some (.int x4), some (.int x5), some (.int x6), some (.int x7), some (.int x8)] [] (am_SH, h) (some (.int r.1), (am_SH, r.2))) (hf : jn_X8_countRests_122 k_36 s1 x2 x3 x4 x5 x7 x8 y0 y1 h = some r) : am_G X d 8 false cX8_countRests (some .int) 122 [some (.ref 401), some (.ref s1), some (.int x2), some (.int x3), some (.int x4), some (.int x5), none, some (.int x7), some (.int x8)] [.int y0, .int y1] (am_SH, h) (some (.int r.1), (am_SH, r.2)) := by
  obtain ⟨d, rfl⟩ : ∃ e, d = e + 1 := ⟨d - 1, by omega⟩
  unfold jn_X8_countRests_122 at hf
  refine r_alu dX8_countRests_122 rfl ?_
  refine r_loc (L' := [some (.ref 401), some (.ref s1), some (.int x2), some (.int x3), some (.int x4), some (.int x5), some (.int (y1 ||| y0)), some (.int x7), some (.int x8)]) dX8_countRests_123 rfl ?_
  refine r_loc dX8_countRests_125 rfl ?_
  refine r_loc dX8_countRests_127 rfl ?_
  refine r_getR dX8_countRests_128 fl_8_9 sh_401 (Or.inr ⟨_, rfl⟩) (tp_401_1 T) ?_
  refine r_loc dX8_countRests_131 rfl ?_
  refine r_iald dX8_countRests_133 sh_402 hf (fun v16 hf => ?_)
  refine r_loc dX8_countRests_134 rfl ?_
  refine r_lt (q := 143) dX8_countRests_136 rfl hf (fun hf => ?_) (fun hf => ?_)
  · refine r_iconst (v := 0) dX8_countRests_143 rfl ?_
    refine r_alu dX8_countRests_144 rfl ?_
    refine r_loc (L' := [some (.ref 401), some (.ref s1), some (.int x2), some (.int x3), some (.int x4), some (.int x5), some (.int (y1 ||| y0)), some (.int (x7 ||| 0)), some (.int x8)]) dX8_countRests_145 rfl ?_
    refine r_loc (L' := [some (.ref 401), some (.ref s1), some (.int x2), some (.int x3), some (.int x4), some (.int x5), some (.int (y1 ||| y0)), some (.int (x7 ||| 0)), some (.int (x8 + 1))]) dX8_countRests_147 rfl ?_
    refine r_goto (q := 36) dX8_countRests_150 rfl ?_
    exact hk_36 (y1 ||| y0) (x7 ||| 0) (x8 + 1) h T hf
  · refine r_iconst (v := 1) dX8_countRests_139 rfl ?_
    refine r_goto (q := 144) dX8_countRests_140 rfl ?_
    refine r_alu dX8_countRests_144 rfl ?_
    refine r_loc (L' := [some (.ref 401), some (.ref s1), some (.int x2), some (.int x3), some (.int x4), some (.int x5), some (.int (y1 ||| y0)), some (.int (x7 ||| 1)), some (.int x8)]) dX8_countRests_145 rfl ?_
    refine r_loc (L' := [some (.ref 401), some (.ref s1), some (.int x2), some (.int x3), some (.int x4), some (.int x5), some (.int (y1 ||| y0)), some (.int (x7 ||| 1)), some (.int (x8 + 1))]) dX8_countRests_147 rfl ?_
    refine r_goto (q := 36) dX8_countRests_150 rfl ?_
    exact hk_36 (y1 ||| y0) (x7 ||| 1) (x8 + 1) h T hf
theorem rl_X8_countRests_36 {X : am_X} {d : Nat} (hd : 4 ≤ d) (s1 : Nat) (p2 : Int32) (p3 : Int32) (p4 : Int32) (p5 : Int32) (hs1 : s1 ∈ am_ST) (k_153 : Int32 → Int32 → am_H → Option (Int32 × am_H)) {r : Int32 × am_H} (hk_153 : ∀ (z6 : Int32) (z7 : Int32) (h : am_H), am_TP h.2.2 → k_153 z6 z7 h = some r → am_G X d 8 false cX8_countRests (some .int) 153 [some (.ref 401), none, none, none, some (.int p4), some (.int p5), some (.int z6), some (.int z7), none] [] (am_SH, h) (some (.int r.1), (am_SH, r.2))) : ∀ (n : Nat) (x6 : Int32) (x7 : Int32) (x8 : Int32) (h : am_H), am_TP h.2.2 → lp_X8_countRests_36 s1 p2 p3 p4 p5 k_153 n x6 x7 x8 h = some r → am_G X d 8 false cX8_countRests (some .int) 36 [some (.ref 401), some (.ref s1), some (.int p2), some (.int p3), some (.int p4), some (.int p5), some (.int x6), some (.int x7), some (.int x8)] [] (am_SH, h) (some (.int r.1), (am_SH, r.2)) := by
  obtain ⟨d, rfl⟩ : ∃ e, d = e + 1 := ⟨d - 1, by omega⟩
  intro n
  induction n with
  | zero => intro x6 x7 x8 h T hf; cases hf
  | succ n ih =>
    intro x6 x7 x8 h T hf
    rw [lp_X8_countRests_36] at hf
    refine r_loc dX8_countRests_36 rfl ?_
    refine r_loc dX8_countRests_38 rfl ?_
    refine r_getR dX8_countRests_39 fl_8_25 sh_401 (Or.inl ⟨_, rfl⟩) (tp_401_0 T) ?_
    refine r_getI dX8_countRests_42 fl_8_29 sh_4 rfl hf (fun v6 hf => ?_)
    refine r_ge (q := 153) dX8_countRests_45 rfl hf (fun hf => ?_) (fun hf => ?_)
    · refine r_weak (L := [some (.ref 401), none, none, none, some (.int p4), some (.int p5), some (.int x6), some (.int x7), none]) (am_le_s (am_le_n (am_le_n (am_le_n (am_le_s (am_le_s (am_le_s (am_le_s (am_le_n am_le_0))))))))) ?_
      exact hk_153 x6 x7 h T hf
    · refine r_loc dX8_countRests_48 rfl ?_
      refine r_iconst (v := 4) dX8_countRests_50 rfl ?_
      refine r_ge (q := 153) dX8_countRests_51 rfl hf (fun hf => ?_) (fun hf => ?_)
      · refine r_weak (L := [some (.ref 401), none, none, none, some (.int p4), some (.int p5), some (.int x6), some (.int x7), none]) (am_le_s (am_le_n (am_le_n (am_le_n (am_le_s (am_le_s (am_le_s (am_le_s (am_le_n am_le_0))))))))) ?_
        exact hk_153 x6 x7 h T hf
      · refine r_loc dX8_countRests_54 rfl ?_
        refine r_getR dX8_countRests_55 fl_8_9 sh_401 (Or.inr ⟨_, rfl⟩) (tp_401_1 T) ?_
        refine r_loc dX8_countRests_58 rfl ?_
        refine r_loc dX8_countRests_60 rfl ?_
        refine r_loc dX8_countRests_61 rfl ?_
        obtain ⟨v8, c7, hf⟩ := cal_inv hf
        have g9 := rf_X7_leftIn (X := X) (d := d) (by omega) s1 x8 hs1 T c7
        refine r_virt (pre := [.int x8]) (rest := [.int x8, .ref 402]) dX8_countRests_63 ct_8_82 rfl ((sh_S hs1)) (Nat.le_of_ble_eq_true rfl) (Nat.le_of_ble_eq_true rfl) g9 ?_
        refine r_loc dX8_countRests_66 rfl ?_
        refine r_getR dX8_countRests_67 fl_8_85 (sh_S hs1) (Or.inr ⟨_, rfl⟩) (tp_S_2 T hs1) ?_
        refine r_loc dX8_countRests_70 rfl ?_
        refine r_iald dX8_countRests_71 (sh_S_2 hs1) hf (fun v10 hf => ?_)
        refine r_loc dX8_countRests_72 rfl ?_
        refine r_ne (q := 82) dX8_countRests_74 rfl hf (fun hf => ?_) (fun hf => ?_)
        · refine r_iconst (v := 0) dX8_countRests_82 rfl ?_
          refine r_alu dX8_countRests_83 rfl ?_
          refine r_loc dX8_countRests_84 rfl ?_
          refine r_getR dX8_countRests_85 fl_8_85 (sh_S hs1) (Or.inr ⟨_, rfl⟩) (tp_S_2 T hs1) ?_
          refine r_loc dX8_countRests_88 rfl ?_
          refine r_iald dX8_countRests_89 (sh_S_2 hs1) hf (fun v11 hf => ?_)
          refine r_loc dX8_countRests_90 rfl ?_
          refine r_ne (q := 100) dX8_countRests_92 rfl hf (fun hf => ?_) (fun hf => ?_)
          · refine r_iconst (v := 0) dX8_countRests_100 rfl ?_
            refine r_alu dX8_countRests_101 rfl ?_
            refine r_iast dX8_countRests_102 sh_402 hf (fun h12 e14 hf => ?_)
            have T13 := tp_eq e14 T
            refine r_loc dX8_countRests_103 rfl ?_
            refine r_loc dX8_countRests_105 rfl ?_
            refine r_getR dX8_countRests_106 fl_8_9 sh_401 (Or.inr ⟨_, rfl⟩) (tp_401_1 T13) ?_
            refine r_loc dX8_countRests_109 rfl ?_
            refine r_iald dX8_countRests_111 sh_402 hf (fun v15 hf => ?_)
            refine r_loc dX8_countRests_112 rfl ?_
            refine r_lt (q := 121) dX8_countRests_114 rfl hf (fun hf => ?_) (fun hf => ?_)
            · refine r_iconst (v := 0) dX8_countRests_121 rfl ?_
              refine r_weak (L := [some (.ref 401), some (.ref s1), some (.int p2), some (.int p3), some (.int p4), some (.int p5), none, some (.int x7), some (.int x8)]) (am_le_s (am_le_s (am_le_s (am_le_s (am_le_s (am_le_s (am_le_n (am_le_s (am_le_s am_le_0))))))))) ?_
              exact rj_X8_countRests_122 (by omega) (lp_X8_countRests_36 s1 p2 p3 p4 p5 k_153 n) s1 p2 p3 p4 p5 x7 x8 0 x6 hs1 T13 (ih) hf
            · refine r_iconst (v := 1) dX8_countRests_117 rfl ?_
              refine r_goto (q := 122) dX8_countRests_118 rfl ?_
              refine r_weak (L := [some (.ref 401), some (.ref s1), some (.int p2), some (.int p3), some (.int p4), some (.int p5), none, some (.int x7), some (.int x8)]) (am_le_s (am_le_s (am_le_s (am_le_s (am_le_s (am_le_s (am_le_n (am_le_s (am_le_s am_le_0))))))))) ?_
              exact rj_X8_countRests_122 (by omega) (lp_X8_countRests_36 s1 p2 p3 p4 p5 k_153 n) s1 p2 p3 p4 p5 x7 x8 1 x6 hs1 T13 (ih) hf
          · refine r_loc dX8_countRests_95 rfl ?_
            refine r_goto (q := 101) dX8_countRests_97 rfl ?_
            refine r_alu dX8_countRests_101 rfl ?_
            refine r_iast dX8_countRests_102 sh_402 hf (fun h17 e19 hf => ?_)
            have T18 := tp_eq e19 T
            refine r_loc dX8_countRests_103 rfl ?_
            refine r_loc dX8_countRests_105 rfl ?_
            refine r_getR dX8_countRests_106 fl_8_9 sh_401 (Or.inr ⟨_, rfl⟩) (tp_401_1 T18) ?_
            refine r_loc dX8_countRests_109 rfl ?_
            refine r_iald dX8_countRests_111 sh_402 hf (fun v20 hf => ?_)
            refine r_loc dX8_countRests_112 rfl ?_
            refine r_lt (q := 121) dX8_countRests_114 rfl hf (fun hf => ?_) (fun hf => ?_)
            · refine r_iconst (v := 0) dX8_countRests_121 rfl ?_
              refine r_weak (L := [some (.ref 401), some (.ref s1), some (.int p2), some (.int p3), some (.int p4), some (.int p5), none, some (.int x7), some (.int x8)]) (am_le_s (am_le_s (am_le_s (am_le_s (am_le_s (am_le_s (am_le_n (am_le_s (am_le_s am_le_0))))))))) ?_
              exact rj_X8_countRests_122 (by omega) (lp_X8_countRests_36 s1 p2 p3 p4 p5 k_153 n) s1 p2 p3 p4 p5 x7 x8 0 x6 hs1 T18 (ih) hf
            · refine r_iconst (v := 1) dX8_countRests_117 rfl ?_
              refine r_goto (q := 122) dX8_countRests_118 rfl ?_
              refine r_weak (L := [some (.ref 401), some (.ref s1), some (.int p2), some (.int p3), some (.int p4), some (.int p5), none, some (.int x7), some (.int x8)]) (am_le_s (am_le_s (am_le_s (am_le_s (am_le_s (am_le_s (am_le_n (am_le_s (am_le_s am_le_0))))))))) ?_
              exact rj_X8_countRests_122 (by omega) (lp_X8_countRests_36 s1 p2 p3 p4 p5 k_153 n) s1 p2 p3 p4 p5 x7 x8 1 x6 hs1 T18 (ih) hf
        · refine r_loc dX8_countRests_77 rfl ?_
          refine r_goto (q := 83) dX8_countRests_79 rfl ?_
          refine r_alu dX8_countRests_83 rfl ?_
          refine r_loc dX8_countRests_84 rfl ?_
          refine r_getR dX8_countRests_85 fl_8_85 (sh_S hs1) (Or.inr ⟨_, rfl⟩) (tp_S_2 T hs1) ?_
          refine r_loc dX8_countRests_88 rfl ?_
          refine r_iald dX8_countRests_89 (sh_S_2 hs1) hf (fun v21 hf => ?_)
          refine r_loc dX8_countRests_90 rfl ?_
          refine r_ne (q := 100) dX8_countRests_92 rfl hf (fun hf => ?_) (fun hf => ?_)
          · refine r_iconst (v := 0) dX8_countRests_100 rfl ?_
            refine r_alu dX8_countRests_101 rfl ?_
            refine r_iast dX8_countRests_102 sh_402 hf (fun h22 e24 hf => ?_)
            have T23 := tp_eq e24 T
            refine r_loc dX8_countRests_103 rfl ?_
            refine r_loc dX8_countRests_105 rfl ?_
            refine r_getR dX8_countRests_106 fl_8_9 sh_401 (Or.inr ⟨_, rfl⟩) (tp_401_1 T23) ?_
            refine r_loc dX8_countRests_109 rfl ?_
            refine r_iald dX8_countRests_111 sh_402 hf (fun v25 hf => ?_)
            refine r_loc dX8_countRests_112 rfl ?_
            refine r_lt (q := 121) dX8_countRests_114 rfl hf (fun hf => ?_) (fun hf => ?_)
            · refine r_iconst (v := 0) dX8_countRests_121 rfl ?_
              refine r_weak (L := [some (.ref 401), some (.ref s1), some (.int p2), some (.int p3), some (.int p4), some (.int p5), none, some (.int x7), some (.int x8)]) (am_le_s (am_le_s (am_le_s (am_le_s (am_le_s (am_le_s (am_le_n (am_le_s (am_le_s am_le_0))))))))) ?_
              exact rj_X8_countRests_122 (by omega) (lp_X8_countRests_36 s1 p2 p3 p4 p5 k_153 n) s1 p2 p3 p4 p5 x7 x8 0 x6 hs1 T23 (ih) hf
            · refine r_iconst (v := 1) dX8_countRests_117 rfl ?_
              refine r_goto (q := 122) dX8_countRests_118 rfl ?_
              refine r_weak (L := [some (.ref 401), some (.ref s1), some (.int p2), some (.int p3), some (.int p4), some (.int p5), none, some (.int x7), some (.int x8)]) (am_le_s (am_le_s (am_le_s (am_le_s (am_le_s (am_le_s (am_le_n (am_le_s (am_le_s am_le_0))))))))) ?_
              exact rj_X8_countRests_122 (by omega) (lp_X8_countRests_36 s1 p2 p3 p4 p5 k_153 n) s1 p2 p3 p4 p5 x7 x8 1 x6 hs1 T23 (ih) hf
          · refine r_loc dX8_countRests_95 rfl ?_
            refine r_goto (q := 101) dX8_countRests_97 rfl ?_
            refine r_alu dX8_countRests_101 rfl ?_
            refine r_iast dX8_countRests_102 sh_402 hf (fun h26 e28 hf => ?_)
            have T27 := tp_eq e28 T
            refine r_loc dX8_countRests_103 rfl ?_
            refine r_loc dX8_countRests_105 rfl ?_
            refine r_getR dX8_countRests_106 fl_8_9 sh_401 (Or.inr ⟨_, rfl⟩) (tp_401_1 T27) ?_
            refine r_loc dX8_countRests_109 rfl ?_
            refine r_iald dX8_countRests_111 sh_402 hf (fun v29 hf => ?_)
            refine r_loc dX8_countRests_112 rfl ?_
            refine r_lt (q := 121) dX8_countRests_114 rfl hf (fun hf => ?_) (fun hf => ?_)
            · refine r_iconst (v := 0) dX8_countRests_121 rfl ?_
              refine r_weak (L := [some (.ref 401), some (.ref s1), some (.int p2), some (.int p3), some (.int p4), some (.int p5), none, some (.int x7), some (.int x8)]) (am_le_s (am_le_s (am_le_s (am_le_s (am_le_s (am_le_s (am_le_n (am_le_s (am_le_s am_le_0))))))))) ?_
              exact rj_X8_countRests_122 (by omega) (lp_X8_countRests_36 s1 p2 p3 p4 p5 k_153 n) s1 p2 p3 p4 p5 x7 x8 0 x6 hs1 T27 (ih) hf
            · refine r_iconst (v := 1) dX8_countRests_117 rfl ?_
              refine r_goto (q := 122) dX8_countRests_118 rfl ?_
              refine r_weak (L := [some (.ref 401), some (.ref s1), some (.int p2), some (.int p3), some (.int p4), some (.int p5), none, some (.int x7), some (.int x8)]) (am_le_s (am_le_s (am_le_s (am_le_s (am_le_s (am_le_s (am_le_n (am_le_s (am_le_s am_le_0))))))))) ?_
              exact rj_X8_countRests_122 (by omega) (lp_X8_countRests_36 s1 p2 p3 p4 p5 k_153 n) s1 p2 p3 p4 p5 x7 x8 1 x6 hs1 T27 (ih) hf
theorem rj_X8_countRests_153 {X : am_X} {d : Nat} (hd : 4 ≤ d) (x4 : Int32) (x5 : Int32) (x6 : Int32) (x7 : Int32) {h : am_H} (T : am_TP h.2.2) {r : Int32 × am_H} (hf : jn_X8_countRests_153 x4 x5 x6 x7 h = some r) : am_G X d 8 false cX8_countRests (some .int) 153 [some (.ref 401), none, none, none, some (.int x4), some (.int x5), some (.int x6), some (.int x7), none] [] (am_SH, h) (some (.int r.1), (am_SH, r.2)) := by
  obtain ⟨d, rfl⟩ : ∃ e, d = e + 1 := ⟨d - 1, by omega⟩
  unfold jn_X8_countRests_153 at hf
  refine r_loc dX8_countRests_153 rfl ?_
  refine r_eq0 (q := 174) dX8_countRests_155 rfl hf (fun hf => ?_) (fun hf => ?_)
  · refine r_iconst (v := (-1)) dX8_countRests_174 rfl ?_
    cases hf
    exact r_ri T dX8_countRests_175
  · refine r_loc dX8_countRests_158 rfl ?_
    refine r_eq0 (q := 174) dX8_countRests_160 rfl hf (fun hf => ?_) (fun hf => ?_)
    · refine r_iconst (v := (-1)) dX8_countRests_174 rfl ?_
      cases hf
      exact r_ri T dX8_countRests_175
    · refine r_loc dX8_countRests_163 rfl ?_
      refine r_loc dX8_countRests_164 rfl ?_
      refine r_loc dX8_countRests_166 rfl ?_
      obtain ⟨v35, h37, c34, hf⟩ := cal2_inv hf
      have g39 := rf_X8_countPairsAtRest (X := X) (d := d) (by omega) x4 x5 T c34
      have T38 : am_TP h37.2.2 := g39.2
      refine r_virt (pre := [.int x5, .int x4]) (rest := []) dX8_countRests_168 ct_8_88 rfl (sh_401) (Nat.le_of_ble_eq_true rfl) (Nat.le_of_ble_eq_true rfl) g39 ?_
      refine r_goto (q := 175) dX8_countRests_171 rfl ?_
      cases hf
      exact r_ri T38 dX8_countRests_175
theorem rf_X8_countRests {X : am_X} {d : Nat} (hd : 4 ≤ d) (s1 : Nat) (x2 : Int32) (x3 : Int32) (hs1 : s1 ∈ am_ST) {h : am_H} (T : am_TP h.2.2) {r : Int32 × am_H} (hf : f_X8_countRests s1 x2 x3 h = some r) : am_G X d 8 false cX8_countRests (some .int) 0 [some (.ref 401), some (.ref s1), some (.int x2), some (.int x3), none, none, none, none, none] [] (am_SH, h) (some (.int r.1), (am_SH, r.2)) := by
  unfold f_X8_countRests at hf
  obtain ⟨d, rfl⟩ : ∃ e, d = e + 1 := ⟨d - 1, by omega⟩
  refine r_loc dX8_countRests_0 rfl ?_
  refine r_loc dX8_countRests_1 rfl ?_
  refine r_loc dX8_countRests_2 rfl ?_
  obtain ⟨v2, c1, hf⟩ := cal_inv hf
  have g3 := rf_X7_hasBoth (X := X) (d := d) (by omega) s1 x2 x3 hs1 T c1
  refine r_virt (pre := [.int x3, .int x2]) (rest := []) dX8_countRests_3 ct_8_78 rfl ((sh_S hs1)) (Nat.le_of_ble_eq_true rfl) (Nat.le_of_ble_eq_true rfl) g3 ?_
  refine r_ne0 (q := 11) dX8_countRests_6 rfl hf (fun hf => ?_) (fun hf => ?_)
  · refine r_loc dX8_countRests_11 rfl ?_
    refine r_getR dX8_countRests_12 fl_8_53 (sh_S hs1) (Or.inr ⟨_, rfl⟩) (tp_S_1 T hs1) ?_
    refine r_loc dX8_countRests_15 rfl ?_
    refine r_iald dX8_countRests_16 (sh_S_1 hs1) hf (fun v4 hf => ?_)
    refine r_loc (L' := [some (.ref 401), some (.ref s1), some (.int x2), some (.int x3), some (.int v4), none, none, none, none]) dX8_countRests_17 rfl ?_
    refine r_loc dX8_countRests_19 rfl ?_
    refine r_getR dX8_countRests_20 fl_8_53 (sh_S hs1) (Or.inr ⟨_, rfl⟩) (tp_S_1 T hs1) ?_
    refine r_loc dX8_countRests_23 rfl ?_
    refine r_iald dX8_countRests_24 (sh_S_1 hs1) hf (fun v5 hf => ?_)
    refine r_loc (L' := [some (.ref 401), some (.ref s1), some (.int x2), some (.int x3), some (.int v4), some (.int v5), none, none, none]) dX8_countRests_25 rfl ?_
    refine r_iconst (v := 0) dX8_countRests_27 rfl ?_
    refine r_loc (L' := [some (.ref 401), some (.ref s1), some (.int x2), some (.int x3), some (.int v4), some (.int v5), some (.int 0), none, none]) dX8_countRests_28 rfl ?_
    refine r_iconst (v := 0) dX8_countRests_30 rfl ?_
    refine r_loc (L' := [some (.ref 401), some (.ref s1), some (.int x2), some (.int x3), some (.int v4), some (.int v5), some (.int 0), some (.int 0), none]) dX8_countRests_31 rfl ?_
    refine r_iconst (v := 0) dX8_countRests_33 rfl ?_
    refine r_loc (L' := [some (.ref 401), some (.ref s1), some (.int x2), some (.int x3), some (.int v4), some (.int v5), some (.int 0), some (.int 0), some (.int 0)]) dX8_countRests_34 rfl ?_
    refine rl_X8_countRests_36 (by omega) s1 x2 x3 v4 v5 hs1 _ ?_ 4000 0 0 0 h T hf
    · intro z30 z31 h32 T33 hf
      exact rj_X8_countRests_153 (by omega) v4 v5 z30 z31 T33 hf
  · refine r_iconst (v := (-1)) dX8_countRests_9 rfl ?_
    cases hf
    exact r_ri T dX8_countRests_10
def f_X11_rivals (x1 : Int32) (x2 : Int32) (h : am_H) : Option (Int32 × am_H) := ptI h 0 10 0 fun h1 => if x1 = x2 then some ((-1), h1) else cal (f_X7_hasBoth 27 x1 x2 h1) fun v5 => if v5 = 0 then some ((-1), h1) else cal2 (f_X8_countRests 27 x1 x2 h1) fun v8 h10 => if 0 < v8 then bnd (h10.1 401 3) fun v13 => cal (f_X11_layDown v13 h10) fun h15 => bnd (h15.1 401 4) fun v18 => cal (f_X11_layDown v18 h15) fun h20 => some (v8, h20) else some (v8, h10)
theorem rf_X11_rivals {X : am_X} {d : Nat} (hd : 5 ≤ d) (x1 : Int32) (x2 : Int32) {h : am_H} (T : am_TP h.2.2) {r : Int32 × am_H} (hf : f_X11_rivals x1 x2 h = some r) : am_G X d 11 false cX11_rivals (some .int) 0 [some (.ref 0), some (.int x1), some (.int x2), none] [] (am_SH, h) (some (.int r.1), (am_SH, r.2)) := by
  unfold f_X11_rivals at hf
  obtain ⟨d, rfl⟩ : ∃ e, d = e + 1 := ⟨d - 1, by omega⟩
  refine r_loc dX11_rivals_0 rfl ?_
  refine r_iconst (v := 0) dX11_rivals_1 rfl ?_
  refine r_putI dX11_rivals_2 fl_11_80 sh_0 ⟨rfl, rfl⟩ hf (fun h1 e3 hf => ?_)
  have T2 := tp_eq e3 T
  refine r_loc dX11_rivals_5 rfl ?_
  refine r_loc dX11_rivals_6 rfl ?_
  refine r_eq (q := 22) dX11_rivals_7 rfl hf (fun hf => ?_) (fun hf => ?_)
  · refine r_iconst (v := (-1)) dX11_rivals_22 rfl ?_
    cases hf
    exact r_ri T2 dX11_rivals_23
  · refine r_loc dX11_rivals_10 rfl ?_
    refine r_getR dX11_rivals_11 fl_11_37 sh_0 (Or.inl ⟨_, rfl⟩) (tp_0_3 T2) ?_
    refine r_loc dX11_rivals_14 rfl ?_
    refine r_loc dX11_rivals_15 rfl ?_
    obtain ⟨v5, c4, hf⟩ := cal_inv hf
    have g6 := rf_X7_hasBoth (X := X) (d := d) (by omega) 27 x1 x2 st_27 T2 c4
    refine r_virt (pre := [.int x2, .int x1]) (rest := []) dX11_rivals_16 ct_11_161 rfl ((sh_S st_27)) (Nat.le_of_ble_eq_true rfl) (Nat.le_of_ble_eq_true rfl) g6 ?_
    refine r_ne0 (q := 24) dX11_rivals_19 rfl hf (fun hf => ?_) (fun hf => ?_)
    · refine r_loc dX11_rivals_24 rfl ?_
      refine r_getR dX11_rivals_25 fl_11_65 sh_0 (Or.inl ⟨_, rfl⟩) (tp_0_7 T2) ?_
      refine r_loc dX11_rivals_28 rfl ?_
      refine r_getR dX11_rivals_29 fl_11_37 sh_0 (Or.inl ⟨_, rfl⟩) (tp_0_3 T2) ?_
      refine r_loc dX11_rivals_32 rfl ?_
      refine r_loc dX11_rivals_33 rfl ?_
      obtain ⟨v8, h10, c7, hf⟩ := cal2_inv hf
      have g12 := rf_X8_countRests (X := X) (d := d) (by omega) 27 x1 x2 st_27 T2 c7
      have T11 : am_TP h10.2.2 := g12.2
      refine r_virt (pre := [.int x2, .int x1, .ref 27]) (rest := []) dX11_rivals_34 ct_11_253 rfl (sh_401) (Nat.le_of_ble_eq_true rfl) (Nat.le_of_ble_eq_true rfl) g12 ?_
      refine r_loc (L' := [some (.ref 0), some (.int x1), some (.int x2), some (.int v8)]) dX11_rivals_37 rfl ?_
      refine r_loc dX11_rivals_38 rfl ?_
      refine r_le0 (q := 64) dX11_rivals_39 rfl hf (fun hf => ?_) (fun hf => ?_)
      · refine r_loc dX11_rivals_64 rfl ?_
        cases hf
        exact r_ri T11 dX11_rivals_65
      · refine r_loc dX11_rivals_42 rfl ?_
        refine r_loc dX11_rivals_43 rfl ?_
        refine r_getR dX11_rivals_44 fl_11_65 sh_0 (Or.inl ⟨_, rfl⟩) (tp_0_7 T11) ?_
        refine r_getI dX11_rivals_47 fl_11_256 sh_401 rfl hf (fun v13 hf => ?_)
        obtain ⟨h15, c14, hf⟩ := cal_inv hf
        have g17 := rf_X11_layDown (X := X) (d := d) (by omega) v13 T11 c14
        have T16 : am_TP h15.2.2 := g17.2
        refine r_virt (pre := [.int v13]) (rest := []) dX11_rivals_50 ct_11_244 rfl (sh_0) (Nat.le_of_ble_eq_true rfl) (Nat.le_of_ble_eq_true rfl) g17 ?_
        refine r_loc dX11_rivals_53 rfl ?_
        refine r_loc dX11_rivals_54 rfl ?_
        refine r_getR dX11_rivals_55 fl_11_65 sh_0 (Or.inl ⟨_, rfl⟩) (tp_0_7 T16) ?_
        refine r_getI dX11_rivals_58 fl_11_259 sh_401 rfl hf (fun v18 hf => ?_)
        obtain ⟨h20, c19, hf⟩ := cal_inv hf
        have g22 := rf_X11_layDown (X := X) (d := d) (by omega) v18 T16 c19
        have T21 : am_TP h20.2.2 := g22.2
        refine r_virt (pre := [.int v18]) (rest := []) dX11_rivals_61 ct_11_244 rfl (sh_0) (Nat.le_of_ble_eq_true rfl) (Nat.le_of_ble_eq_true rfl) g22 ?_
        refine r_loc dX11_rivals_64 rfl ?_
        cases hf
        exact r_ri T21 dX11_rivals_65
    · refine r_iconst (v := (-1)) dX11_rivals_22 rfl ?_
      cases hf
      exact r_ri T2 dX11_rivals_23
def lp_X11_roomiest_6 (h : am_H) : Nat → Int32 → Int32 → Int32 → Option (Int32)
  | 0, _, _, _ => none
  | n + 1, x1, x2, x3 => bnd (h.1 4 6) fun v1 => if x3 < v1 then cal (f_X7_leftIn 27 x3 h) fun v3 => if x2 < v3 then lp_X11_roomiest_6 h n x3 v3 (x3 + 1) else lp_X11_roomiest_6 h n x1 x2 (x3 + 1) else some x1
def f_X11_roomiest  (h : am_H) : Option (Int32) := lp_X11_roomiest_6 h  4000 (-1) (-1) 0
theorem rl_X11_roomiest_6 {X : am_X} {d : Nat} (hd : 2 ≤ d) {h : am_H} (T : am_TP h.2.2) {r : Int32} : ∀ (n : Nat) (x1 : Int32) (x2 : Int32) (x3 : Int32) , lp_X11_roomiest_6 h n x1 x2 x3 = some r → am_G X d 11 false cX11_roomiest (some .int) 6 [some (.ref 0), some (.int x1), some (.int x2), some (.int x3), none] [] (am_SH, h) (some (.int r), (am_SH, h)) := by
  obtain ⟨d, rfl⟩ : ∃ e, d = e + 1 := ⟨d - 1, by omega⟩
  intro n
  induction n with
  | zero => intro x1 x2 x3 hf; cases hf
  | succ n ih =>
    intro x1 x2 x3 hf
    rw [lp_X11_roomiest_6] at hf
    refine r_loc dX11_roomiest_6 rfl ?_
    refine r_loc dX11_roomiest_7 rfl ?_
    refine r_getR dX11_roomiest_8 fl_11_19 sh_0 (Or.inl ⟨_, rfl⟩) (tp_0_1 T) ?_
    refine r_getI dX11_roomiest_11 fl_11_218 sh_4 rfl hf (fun v1 hf => ?_)
    refine r_ge (q := 44) dX11_roomiest_14 rfl hf (fun hf => ?_) (fun hf => ?_)
    · refine r_loc dX11_roomiest_44 rfl ?_
      cases hf
      exact r_ri T dX11_roomiest_45
    · refine r_loc dX11_roomiest_17 rfl ?_
      refine r_getR dX11_roomiest_18 fl_11_37 sh_0 (Or.inl ⟨_, rfl⟩) (tp_0_3 T) ?_
      refine r_loc dX11_roomiest_21 rfl ?_
      obtain ⟨v3, c2, hf⟩ := cal_inv hf
      have g4 := rf_X7_leftIn (X := X) (d := d) (by omega) 27 x3 st_27 T c2
      refine r_virt (pre := [.int x3]) (rest := []) dX11_roomiest_22 ct_11_130 rfl ((sh_S st_27)) (Nat.le_of_ble_eq_true rfl) (Nat.le_of_ble_eq_true rfl) g4 ?_
      refine r_loc (L' := [some (.ref 0), some (.int x1), some (.int x2), some (.int x3), some (.int v3)]) dX11_roomiest_25 rfl ?_
      refine r_loc dX11_roomiest_27 rfl ?_
      refine r_loc dX11_roomiest_29 rfl ?_
      refine r_le (q := 38) dX11_roomiest_30 rfl hf (fun hf => ?_) (fun hf => ?_)
      · refine r_loc (L' := [some (.ref 0), some (.int x1), some (.int x2), some (.int (x3 + 1)), some (.int v3)]) dX11_roomiest_38 rfl ?_
        refine r_goto (q := 6) dX11_roomiest_41 rfl ?_
        refine r_weak (L := [some (.ref 0), some (.int x1), some (.int x2), some (.int (x3 + 1)), none]) (am_le_s (am_le_s (am_le_s (am_le_s (am_le_n am_le_0))))) ?_
        exact ih x1 x2 (x3 + 1) hf
      · refine r_loc dX11_roomiest_33 rfl ?_
        refine r_loc (L' := [some (.ref 0), some (.int x3), some (.int x2), some (.int x3), some (.int v3)]) dX11_roomiest_34 rfl ?_
        refine r_loc dX11_roomiest_35 rfl ?_
        refine r_loc (L' := [some (.ref 0), some (.int x3), some (.int v3), some (.int x3), some (.int v3)]) dX11_roomiest_37 rfl ?_
        refine r_loc (L' := [some (.ref 0), some (.int x3), some (.int v3), some (.int (x3 + 1)), some (.int v3)]) dX11_roomiest_38 rfl ?_
        refine r_goto (q := 6) dX11_roomiest_41 rfl ?_
        refine r_weak (L := [some (.ref 0), some (.int x3), some (.int v3), some (.int (x3 + 1)), none]) (am_le_s (am_le_s (am_le_s (am_le_s (am_le_n am_le_0))))) ?_
        exact ih x3 v3 (x3 + 1) hf
theorem rf_X11_roomiest {X : am_X} {d : Nat} (hd : 2 ≤ d)  {h : am_H} (T : am_TP h.2.2) {r : Int32} (hf : f_X11_roomiest  h = some r) : am_G X d 11 false cX11_roomiest (some .int) 0 [some (.ref 0), none, none, none, none] [] (am_SH, h) (some (.int r), (am_SH, h)) := by
  unfold f_X11_roomiest at hf
  obtain ⟨d, rfl⟩ : ∃ e, d = e + 1 := ⟨d - 1, by omega⟩
  refine r_iconst (v := (-1)) dX11_roomiest_0 rfl ?_
  refine r_loc (L' := [some (.ref 0), some (.int (-1)), none, none, none]) dX11_roomiest_1 rfl ?_
  refine r_iconst (v := (-1)) dX11_roomiest_2 rfl ?_
  refine r_loc (L' := [some (.ref 0), some (.int (-1)), some (.int (-1)), none, none]) dX11_roomiest_3 rfl ?_
  refine r_iconst (v := 0) dX11_roomiest_4 rfl ?_
  refine r_loc (L' := [some (.ref 0), some (.int (-1)), some (.int (-1)), some (.int 0), none]) dX11_roomiest_5 rfl ?_
  refine rl_X11_roomiest_6 (by omega) T  4000 (-1) (-1) 0  hf
def f_X11_lies (x1 : Int32) (h : am_H) : Option (Int32) := if x1 < 0 then some (-2) else bnd (h.1 0 10) fun v1 => if x1 < v1 then if x1 < 8 then rdI h 412 8 x1 fun v2 => some v2 else some (-2) else some (-2)
theorem rf_X11_lies {X : am_X} {d : Nat} (hd : 0 ≤ d) (x1 : Int32) {h : am_H} (T : am_TP h.2.2) {r : Int32} (hf : f_X11_lies x1 h = some r) : am_G X d 11 false cX11_lies (some .int) 0 [some (.ref 0), some (.int x1)] [] (am_SH, h) (some (.int r), (am_SH, h)) := by
  unfold f_X11_lies at hf
  refine r_loc dX11_lies_0 rfl ?_
  refine r_lt0 (q := 27) dX11_lies_1 rfl hf (fun hf => ?_) (fun hf => ?_)
  · refine r_bipush (v := (-2)) dX11_lies_27 rfl ?_
    cases hf
    exact r_ri T dX11_lies_29
  · refine r_loc dX11_lies_4 rfl ?_
    refine r_loc dX11_lies_5 rfl ?_
    refine r_getI dX11_lies_6 fl_11_80 sh_0 rfl hf (fun v1 hf => ?_)
    refine r_ge (q := 27) dX11_lies_9 rfl hf (fun hf => ?_) (fun hf => ?_)
    · refine r_bipush (v := (-2)) dX11_lies_27 rfl ?_
      cases hf
      exact r_ri T dX11_lies_29
    · refine r_loc dX11_lies_12 rfl ?_
      refine r_bipush (v := 8) dX11_lies_13 rfl ?_
      refine r_ge (q := 27) dX11_lies_15 rfl hf (fun hf => ?_) (fun hf => ?_)
      · refine r_bipush (v := (-2)) dX11_lies_27 rfl ?_
        cases hf
        exact r_ri T dX11_lies_29
      · refine r_loc dX11_lies_18 rfl ?_
        refine r_getR dX11_lies_19 fl_11_76 sh_0 (Or.inr ⟨_, rfl⟩) (tp_0_9 T) ?_
        refine r_loc dX11_lies_22 rfl ?_
        refine r_iald dX11_lies_23 sh_412 hf (fun v2 hf => ?_)
        refine r_goto (q := 29) dX11_lies_24 rfl ?_
        cases hf
        exact r_ri T dX11_lies_29
def f_X6_marksInNeither (s0 : Nat) (x1 : Int32) (x2 : Int32) (x3 : Int32) (h : am_H) : Option (Int32) := cal (f_X7_has s0 x1 h) fun v2 => if v2 = 0 then some 0 else cal (f_X7_hasBoth s0 x2 x3 h) fun v5 => if v5 = 0 then some 0 else rdI h (s0 + 3) 8 x1 fun v7 => rdI h (s0 + 3) 8 x2 fun v8 => rdI h (s0 + 3) 8 x1 fun v9 => rdI h (s0 + 3) 8 x3 fun v10 => cal (f_J6_bitCount_0f7a4 ((v7 ^^^ v8) &&& (v9 ^^^ v10)) h) fun v12 => some v12
theorem rf_X6_marksInNeither {X : am_X} {d : Nat} (hd : 2 ≤ d) (s0 : Nat) (x1 : Int32) (x2 : Int32) (x3 : Int32) (hs0 : s0 ∈ am_ST) {h : am_H} (T : am_TP h.2.2) {r : Int32} (hf : f_X6_marksInNeither s0 x1 x2 x3 h = some r) : am_G X d 6 false cX6_marksInNeither (some .int) 0 [some (.ref s0), some (.int x1), some (.int x2), some (.int x3)] [] (am_SH, h) (some (.int r), (am_SH, h)) := by
  unfold f_X6_marksInNeither at hf
  obtain ⟨d, rfl⟩ : ∃ e, d = e + 1 := ⟨d - 1, by omega⟩
  refine r_loc dX6_marksInNeither_0 rfl ?_
  refine r_loc dX6_marksInNeither_1 rfl ?_
  obtain ⟨v2, c1, hf⟩ := cal_inv hf
  have g3 := rf_X7_has (X := X) (d := d) (by omega) s0 x1 hs0 T c1
  refine r_virt (pre := [.int x1]) (rest := []) dX6_marksInNeither_2 ct_6_21 rfl ((sh_S hs0)) (Nat.le_of_ble_eq_true rfl) (Nat.le_of_ble_eq_true rfl) g3 ?_
  refine r_eq0 (q := 17) dX6_marksInNeither_5 rfl hf (fun hf => ?_) (fun hf => ?_)
  · refine r_iconst (v := 0) dX6_marksInNeither_17 rfl ?_
    cases hf
    exact r_ri T dX6_marksInNeither_18
  · refine r_loc dX6_marksInNeither_8 rfl ?_
    refine r_loc dX6_marksInNeither_9 rfl ?_
    refine r_loc dX6_marksInNeither_10 rfl ?_
    obtain ⟨v5, c4, hf⟩ := cal_inv hf
    have g6 := rf_X7_hasBoth (X := X) (d := d) (by omega) s0 x2 x3 hs0 T c4
    refine r_virt (pre := [.int x3, .int x2]) (rest := []) dX6_marksInNeither_11 ct_6_9 rfl ((sh_S hs0)) (Nat.le_of_ble_eq_true rfl) (Nat.le_of_ble_eq_true rfl) g6 ?_
    refine r_ne0 (q := 19) dX6_marksInNeither_14 rfl hf (fun hf => ?_) (fun hf => ?_)
    · refine r_loc dX6_marksInNeither_19 rfl ?_
      refine r_getR dX6_marksInNeither_20 fl_6_25 (sh_S hs0) (Or.inr ⟨_, rfl⟩) (tp_S_3 T hs0) ?_
      refine r_loc dX6_marksInNeither_23 rfl ?_
      refine r_iald dX6_marksInNeither_24 (sh_S_3 hs0) hf (fun v7 hf => ?_)
      refine r_loc dX6_marksInNeither_25 rfl ?_
      refine r_getR dX6_marksInNeither_26 fl_6_25 (sh_S hs0) (Or.inr ⟨_, rfl⟩) (tp_S_3 T hs0) ?_
      refine r_loc dX6_marksInNeither_29 rfl ?_
      refine r_iald dX6_marksInNeither_30 (sh_S_3 hs0) hf (fun v8 hf => ?_)
      refine r_alu dX6_marksInNeither_31 rfl ?_
      refine r_loc dX6_marksInNeither_32 rfl ?_
      refine r_getR dX6_marksInNeither_33 fl_6_25 (sh_S hs0) (Or.inr ⟨_, rfl⟩) (tp_S_3 T hs0) ?_
      refine r_loc dX6_marksInNeither_36 rfl ?_
      refine r_iald dX6_marksInNeither_37 (sh_S_3 hs0) hf (fun v9 hf => ?_)
      refine r_loc dX6_marksInNeither_38 rfl ?_
      refine r_getR dX6_marksInNeither_39 fl_6_25 (sh_S hs0) (Or.inr ⟨_, rfl⟩) (tp_S_3 T hs0) ?_
      refine r_loc dX6_marksInNeither_42 rfl ?_
      refine r_iald dX6_marksInNeither_43 (sh_S_3 hs0) hf (fun v10 hf => ?_)
      refine r_alu dX6_marksInNeither_44 rfl ?_
      refine r_alu dX6_marksInNeither_45 rfl ?_
      obtain ⟨v12, c11, hf⟩ := cal_inv hf
      have g13 := rf_J6_bitCount_0f7a4 (X := X) (d := d) (by omega) ((v7 ^^^ v8) &&& (v9 ^^^ v10)) T c11
      refine r_stat (pre := [.int ((v7 ^^^ v8) &&& (v9 ^^^ v10))]) (rest := []) dX6_marksInNeither_46 ct_6_29 rfl (Nat.le_of_ble_eq_true rfl) (Nat.le_of_ble_eq_true rfl) g13 ?_
      cases hf
      exact r_ri T dX6_marksInNeither_49
    · refine r_iconst (v := 0) dX6_marksInNeither_17 rfl ?_
      cases hf
      exact r_ri T dX6_marksInNeither_18
