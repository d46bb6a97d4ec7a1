/-! Lifted methods, by program (wip/whole/lift.py, run1.py) -/
def lp_X12_span_39 (p1 : Int32) (p2 : Int32) (p3 : Int32) (h : am_H) (k_120 : Int32 → Int32 → Option (Int32)) : Nat → Int32 → Int32 → Int32 → Option (Int32)
  | 0, _, _, _ => none
  | n + 1, x4, x5, x6 => if x6 < 64 then cal (f_X12_bit p2 (x6 / 8) h) fun v5 => if v5 = 0 then lp_X12_span_39 p1 p2 p3 h k_120 n x4 x5 (x6 + 1) else cal (f_X12_bit p1 (x6 - x6 / 8 * 8) h) fun v8 => if v8 = 0 then lp_X12_span_39 p1 p2 p3 h k_120 n x4 x5 (x6 + 1) else cal (f_X12_alike (x6 / 8) (x6 - x6 / 8 * 8) h) fun v11 => if ((6 : Int32) - v11) < x5 then cal (f_X12_alike (x6 / 8) (x6 - x6 / 8 * 8) h) fun v14 => lp_X12_span_39 p1 p2 p3 h k_120 n (x6 - x6 / 8 * 8) ((6 : Int32) - v14) (x6 + 1) else lp_X12_span_39 p1 p2 p3 h k_120 n x4 x5 (x6 + 1) else k_120 x4 x5
def lp_X12_span_24 (h : am_H) : Nat → Int32 → Int32 → Int32 → Option (Int32)
  | 0, _, _, _ => none
  | n + 1, x1, x2, x3 => if x1 = 0 then some x3 else lp_X12_span_39 x1 x2 x3 h (fun z16 z17 => lp_X12_span_24 h n (x1 &&& (((1 : Int32) <<< (z16 &&& 31)) ^^^ ((-1) : Int32))) (x2 ||| ((1 : Int32) <<< (z16 &&& 31))) (x3 + z17)) 4000 (-1) 1000 0
def f_X12_span  (h : am_H) : Option (Int32) := cal (f_X12_those h) fun v2 => if v2 = 0 then some 0 else lp_X12_span_24 h  4000 (v2 &&& ((v2 &&& (-v2)) ^^^ ((-1) : Int32))) (v2 &&& (-v2)) 0
theorem rl_X12_span_39 {X : am_X} {d : Nat} (hd : 3 ≤ d) (p1 : Int32) (p2 : Int32) (p3 : Int32) {h : am_H} (T : am_TP h.2.2) (k_120 : Int32 → Int32 → Option (Int32)) {r : Int32} (hk_120 : ∀ (z4 : Int32) (z5 : Int32) , k_120 z4 z5 = some r → am_G X d 12 false cX12_span (some .int) 120 [some (.ref 413), some (.int p1), some (.int p2), some (.int p3), some (.int z4), some (.int z5), none, none, none] [] (am_SH, h) (some (.int r), (am_SH, h))) : ∀ (n : Nat) (x4 : Int32) (x5 : Int32) (x6 : Int32) , lp_X12_span_39 p1 p2 p3 h k_120 n x4 x5 x6 = some r → am_G X d 12 false cX12_span (some .int) 39 [some (.ref 413), some (.int p1), some (.int p2), some (.int p3), some (.int x4), some (.int x5), some (.int x6), none, none] [] (am_SH, h) (some (.int r), (am_SH, h)) := by
  obtain ⟨d, rfl⟩ : ∃ e, d = e + 1 := ⟨d - 1, by omega⟩
  intro n
  induction n with
  | zero => intro x4 x5 x6 hf; cases hf
  | succ n ih =>
    intro x4 x5 x6 hf
    rw [lp_X12_span_39] at hf
    refine r_loc dX12_span_39 rfl ?_
    refine r_bipush (v := 64) dX12_span_41 rfl ?_
    refine r_ge (q := 120) dX12_span_43 rfl hf (fun hf => ?_) (fun hf => ?_)
    · refine r_weak (L := [some (.ref 413), some (.int p1), some (.int p2), some (.int p3), some (.int x4), some (.int x5), none, none, none]) (am_le_s (am_le_s (am_le_s (am_le_s (am_le_s (am_le_s (am_le_n (am_le_n (am_le_n am_le_0))))))))) ?_
      exact hk_120 x4 x5 hf
    · refine r_loc dX12_span_46 rfl ?_
      refine r_bipush (v := 8) dX12_span_48 rfl ?_
      refine r_divc dX12_span_50 (by decide) ?_
      refine r_loc (L' := [some (.ref 413), some (.int p1), some (.int p2), some (.int p3), some (.int x4), some (.int x5), some (.int x6), some (.int (x6 / 8)), none]) dX12_span_51 rfl ?_
      refine r_loc dX12_span_53 rfl ?_
      refine r_bipush (v := 8) dX12_span_55 rfl ?_
      refine r_remc dX12_span_57 (by decide) ?_
      refine r_loc (L' := [some (.ref 413), some (.int p1), some (.int p2), some (.int p3), some (.int x4), some (.int x5), some (.int x6), some (.int (x6 / 8)), some (.int (x6 - x6 / 8 * 8))]) dX12_span_58 rfl ?_
      refine r_loc dX12_span_60 rfl ?_
      refine r_loc dX12_span_61 rfl ?_
      obtain ⟨v5, c4, hf⟩ := cal_inv hf
      have g6 := rf_X12_bit (X := X) (d := d) (by omega) p2 (x6 / 8) T c4
      refine r_stat (pre := [.int (x6 / 8), .int p2]) (rest := []) dX12_span_63 ct_12_250 rfl (Nat.le_of_ble_eq_true rfl) (Nat.le_of_ble_eq_true rfl) g6 ?_
      refine r_eq0 (q := 114) dX12_span_66 rfl hf (fun hf => ?_) (fun hf => ?_)
      · refine r_loc (L' := [some (.ref 413), some (.int p1), some (.int p2), some (.int p3), some (.int x4), some (.int x5), some (.int (x6 + 1)), some (.int (x6 / 8)), some (.int (x6 - x6 / 8 * 8))]) dX12_span_114 rfl ?_
        refine r_goto (q := 39) dX12_span_117 rfl ?_
        refine r_weak (L := [some (.ref 413), some (.int p1), some (.int p2), some (.int p3), some (.int x4), some (.int x5), some (.int (x6 + 1)), none, none]) (am_le_s (am_le_s (am_le_s (am_le_s (am_le_s (am_le_s (am_le_s (am_le_n (am_le_n am_le_0))))))))) ?_
        exact ih x4 x5 (x6 + 1) hf
      · refine r_loc dX12_span_69 rfl ?_
        refine r_loc dX12_span_70 rfl ?_
        obtain ⟨v8, c7, hf⟩ := cal_inv hf
        have g9 := rf_X12_bit (X := X) (d := d) (by omega) p1 (x6 - x6 / 8 * 8) T c7
        refine r_stat (pre := [.int (x6 - x6 / 8 * 8), .int p1]) (rest := []) dX12_span_72 ct_12_250 rfl (Nat.le_of_ble_eq_true rfl) (Nat.le_of_ble_eq_true rfl) g9 ?_
        refine r_eq0 (q := 114) dX12_span_75 rfl hf (fun hf => ?_) (fun hf => ?_)
        · refine r_loc (L' := [some (.ref 413), some (.int p1), some (.int p2), some (.int p3), some (.int x4), some (.int x5), some (.int (x6 + 1)), some (.int (x6 / 8)), some (.int (x6 - x6 / 8 * 8))]) dX12_span_114 rfl ?_
          refine r_goto (q := 39) dX12_span_117 rfl ?_
          refine r_weak (L := [some (.ref 413), some (.int p1), some (.int p2), some (.int p3), some (.int x4), some (.int x5), some (.int (x6 + 1)), none, none]) (am_le_s (am_le_s (am_le_s (am_le_s (am_le_s (am_le_s (am_le_s (am_le_n (am_le_n am_le_0))))))))) ?_
          exact ih x4 x5 (x6 + 1) hf
        · refine r_bipush (v := 6) dX12_span_78 rfl ?_
          refine r_loc dX12_span_80 rfl ?_
          refine r_loc dX12_span_81 rfl ?_
          refine r_loc dX12_span_83 rfl ?_
          obtain ⟨v11, c10, hf⟩ := cal_inv hf
          have g12 := rf_X12_alike (X := X) (d := d) (by omega) (x6 / 8) (x6 - x6 / 8 * 8) T c10
          refine r_virt (pre := [.int (x6 - x6 / 8 * 8), .int (x6 / 8)]) (rest := [.int 6]) dX12_span_85 ct_12_415 rfl (sh_413) (Nat.le_of_ble_eq_true rfl) (Nat.le_of_ble_eq_true rfl) g12 ?_
          refine r_alu dX12_span_88 rfl ?_
          refine r_loc dX12_span_89 rfl ?_
          refine r_lt (q := 97) dX12_span_91 rfl hf (fun hf => ?_) (fun hf => ?_)
          · refine r_loc dX12_span_97 rfl ?_
            refine r_loc (L' := [some (.ref 413), some (.int p1), some (.int p2), some (.int p3), some (.int (x6 - x6 / 8 * 8)), some (.int x5), some (.int x6), some (.int (x6 / 8)), some (.int (x6 - x6 / 8 * 8))]) dX12_span_99 rfl ?_
            refine r_bipush (v := 6) dX12_span_101 rfl ?_
            refine r_loc dX12_span_103 rfl ?_
            refine r_loc dX12_span_104 rfl ?_
            refine r_loc dX12_span_106 rfl ?_
            obtain ⟨v14, c13, hf⟩ := cal_inv hf
            have g15 := rf_X12_alike (X := X) (d := d) (by omega) (x6 / 8) (x6 - x6 / 8 * 8) T c13
            refine r_virt (pre := [.int (x6 - x6 / 8 * 8), .int (x6 / 8)]) (rest := [.int 6]) dX12_span_108 ct_12_415 rfl (sh_413) (Nat.le_of_ble_eq_true rfl) (Nat.le_of_ble_eq_true rfl) g15 ?_
            refine r_alu dX12_span_111 rfl ?_
            refine r_loc (L' := [some (.ref 413), some (.int p1), some (.int p2), some (.int p3), some (.int (x6 - x6 / 8 * 8)), some (.int ((6 : Int32) - v14)), some (.int x6), some (.int (x6 / 8)), some (.int (x6 - x6 / 8 * 8))]) dX12_span_112 rfl ?_
            refine r_loc (L' := [some (.ref 413), some (.int p1), some (.int p2), some (.int p3), some (.int (x6 - x6 / 8 * 8)), some (.int ((6 : Int32) - v14)), some (.int (x6 + 1)), some (.int (x6 / 8)), some (.int (x6 - x6 / 8 * 8))]) dX12_span_114 rfl ?_
            refine r_goto (q := 39) dX12_span_117 rfl ?_
            refine r_weak (L := [some (.ref 413), some (.int p1), some (.int p2), some (.int p3), some (.int (x6 - x6 / 8 * 8)), some (.int ((6 : Int32) - v14)), some (.int (x6 + 1)), none, none]) (am_le_s (am_le_s (am_le_s (am_le_s (am_le_s (am_le_s (am_le_s (am_le_n (am_le_n am_le_0))))))))) ?_
            exact ih (x6 - x6 / 8 * 8) ((6 : Int32) - v14) (x6 + 1) hf
          · refine r_goto (q := 114) dX12_span_94 rfl ?_
            refine r_loc (L' := [some (.ref 413), some (.int p1), some (.int p2), some (.int p3), some (.int x4), some (.int x5), some (.int (x6 + 1)), some (.int (x6 / 8)), some (.int (x6 - x6 / 8 * 8))]) dX12_span_114 rfl ?_
            refine r_goto (q := 39) dX12_span_117 rfl ?_
            refine r_weak (L := [some (.ref 413), some (.int p1), some (.int p2), some (.int p3), some (.int x4), some (.int x5), some (.int (x6 + 1)), none, none]) (am_le_s (am_le_s (am_le_s (am_le_s (am_le_s (am_le_s (am_le_s (am_le_n (am_le_n am_le_0))))))))) ?_
            exact ih x4 x5 (x6 + 1) hf
theorem rl_X12_span_24 {X : am_X} {d : Nat} (hd : 3 ≤ d) {h : am_H} (T : am_TP h.2.2) {r : Int32} : ∀ (n : Nat) (x1 : Int32) (x2 : Int32) (x3 : Int32) , lp_X12_span_24 h n x1 x2 x3 = some r → am_G X d 12 false cX12_span (some .int) 24 [some (.ref 413), some (.int x1), some (.int x2), some (.int x3), none, none, none, none, none] [] (am_SH, h) (some (.int r), (am_SH, h)) := by
  obtain ⟨d, rfl⟩ : ∃ e, d = e + 1 := ⟨d - 1, by omega⟩
  intro n
  induction n with
  | zero => intro x1 x2 x3 hf; cases hf
  | succ n ih =>
    intro x1 x2 x3 hf
    rw [lp_X12_span_24] at hf
    refine r_loc dX12_span_24 rfl ?_
    refine r_eq0 (q := 144) dX12_span_25 rfl hf (fun hf => ?_) (fun hf => ?_)
    · refine r_loc dX12_span_144 rfl ?_
      cases hf
      exact r_ri T dX12_span_145
    · refine r_iconst (v := (-1)) dX12_span_28 rfl ?_
      refine r_loc (L' := [some (.ref 413), some (.int x1), some (.int x2), some (.int x3), some (.int (-1)), none, none, none, none]) dX12_span_29 rfl ?_
      refine r_sipush (v := 1000) dX12_span_31 rfl ?_
      refine r_loc (L' := [some (.ref 413), some (.int x1), some (.int x2), some (.int x3), some (.int (-1)), some (.int 1000), none, none, none]) dX12_span_34 rfl ?_
      refine r_iconst (v := 0) dX12_span_36 rfl ?_
      refine r_loc (L' := [some (.ref 413), some (.int x1), some (.int x2), some (.int x3), some (.int (-1)), some (.int 1000), some (.int 0), none, none]) dX12_span_37 rfl ?_
      refine rl_X12_span_39 (by omega) x1 x2 x3 T _ ?_ 4000 (-1) 1000 0  hf
      · intro z16 z17 hf
        refine r_loc dX12_span_120 rfl ?_
        refine r_iconst (v := 1) dX12_span_121 rfl ?_
        refine r_loc dX12_span_122 rfl ?_
        refine r_alu dX12_span_124 rfl ?_
        refine r_alu dX12_span_125 rfl ?_
        refine r_loc (L' := [some (.ref 413), some (.int x1), some (.int (x2 ||| ((1 : Int32) <<< (z16 &&& 31)))), some (.int x3), some (.int z16), some (.int z17), none, none, none]) dX12_span_126 rfl ?_
        refine r_loc dX12_span_127 rfl ?_
        refine r_iconst (v := 1) dX12_span_128 rfl ?_
        refine r_loc dX12_span_129 rfl ?_
        refine r_alu dX12_span_131 rfl ?_
        refine r_iconst (v := (-1)) dX12_span_132 rfl ?_
        refine r_alu dX12_span_133 rfl ?_
        refine r_alu dX12_span_134 rfl ?_
        refine r_loc (L' := [some (.ref 413), some (.int (x1 &&& (((1 : Int32) <<< (z16 &&& 31)) ^^^ ((-1) : Int32)))), some (.int (x2 ||| ((1 : Int32) <<< (z16 &&& 31)))), some (.int x3), some (.int z16), some (.int z17), none, none, none]) dX12_span_135 rfl ?_
        refine r_loc dX12_span_136 rfl ?_
        refine r_loc dX12_span_137 rfl ?_
        refine r_alu dX12_span_139 rfl ?_
        refine r_loc (L' := [some (.ref 413), some (.int (x1 &&& (((1 : Int32) <<< (z16 &&& 31)) ^^^ ((-1) : Int32)))), some (.int (x2 ||| ((1 : Int32) <<< (z16 &&& 31)))), some (.int (x3 + z17)), some (.int z16), some (.int z17), none, none, none]) dX12_span_140 rfl ?_
        refine r_goto (q := 24) dX12_span_141 rfl ?_
        refine r_weak (L := [some (.ref 413), some (.int (x1 &&& (((1 : Int32) <<< (z16 &&& 31)) ^^^ ((-1) : Int32)))), some (.int (x2 ||| ((1 : Int32) <<< (z16 &&& 31)))), some (.int (x3 + z17)), none, none, none, none, none]) (am_le_s (am_le_s (am_le_s (am_le_s (am_le_n (am_le_n (am_le_n (am_le_n (am_le_n am_le_0))))))))) ?_
        exact ih (x1 &&& (((1 : Int32) <<< (z16 &&& 31)) ^^^ ((-1) : Int32))) (x2 ||| ((1 : Int32) <<< (z16 &&& 31))) (x3 + z17) hf
theorem rf_X12_span {X : am_X} {d : Nat} (hd : 3 ≤ d)  {h : am_H} (T : am_TP h.2.2) {r : Int32} (hf : f_X12_span  h = some r) : am_G X d 12 false cX12_span (some .int) 0 [some (.ref 413), none, none, none, none, none, none, none, none] [] (am_SH, h) (some (.int r), (am_SH, h)) := by
  unfold f_X12_span at hf
  obtain ⟨d, rfl⟩ : ∃ e, d = e + 1 := ⟨d - 1, by omega⟩
  refine r_loc dX12_span_0 rfl ?_
  obtain ⟨v2, c1, hf⟩ := cal_inv hf
  have g3 := rf_X12_those (X := X) (d := d) (by omega) T c1
  refine r_virt (pre := []) (rest := []) dX12_span_1 ct_12_331 rfl (sh_413) (Nat.le_of_ble_eq_true rfl) (Nat.le_of_ble_eq_true rfl) g3 ?_
  refine r_loc (L' := [some (.ref 413), some (.int v2), none, none, none, none, none, none, none]) dX12_span_4 rfl ?_
  refine r_loc dX12_span_5 rfl ?_
  refine r_ne0 (q := 11) dX12_span_6 rfl hf (fun hf => ?_) (fun hf => ?_)
  · refine r_loc dX12_span_11 rfl ?_
    refine r_loc dX12_span_12 rfl ?_
    refine r_alu dX12_span_13 rfl ?_
    refine r_alu dX12_span_14 rfl ?_
    refine r_loc (L' := [some (.ref 413), some (.int v2), some (.int (v2 &&& (-v2))), none, none, none, none, none, none]) dX12_span_15 rfl ?_
    refine r_loc dX12_span_16 rfl ?_
    refine r_loc dX12_span_17 rfl ?_
    refine r_iconst (v := (-1)) dX12_span_18 rfl ?_
    refine r_alu dX12_span_19 rfl ?_
    refine r_alu dX12_span_20 rfl ?_
    refine r_loc (L' := [some (.ref 413), some (.int (v2 &&& ((v2 &&& (-v2)) ^^^ ((-1) : Int32)))), some (.int (v2 &&& (-v2))), none, none, none, none, none, none]) dX12_span_21 rfl ?_
    refine r_iconst (v := 0) dX12_span_22 rfl ?_
    refine r_loc (L' := [some (.ref 413), some (.int (v2 &&& ((v2 &&& (-v2)) ^^^ ((-1) : Int32)))), some (.int (v2 &&& (-v2))), some (.int 0), none, none, none, none, none]) dX12_span_23 rfl ?_
    refine rl_X12_span_24 (by omega) T  4000 (v2 &&& ((v2 &&& (-v2)) ^^^ ((-1) : Int32))) (v2 &&& (-v2)) 0  hf
  · refine r_iconst (v := 0) dX12_span_9 rfl ?_
    cases hf
    exact r_ri T dX12_span_10
def jn_X12_parentsOf_47 (k_4 : Int32 → Int32 → Option (Int32)) (x1 : Int32) (x2 : Int32) (x3 : Int32) (h : am_H) : Option (Int32) := rdI h 437 59 ((48 : Int32) + x3) fun v5 => if v5 < 0 then k_4 x2 (x3 + 1) else rdI h 437 59 ((48 : Int32) + x3) fun v6 => k_4 (x2 ||| ((1 : Int32) <<< (v6 &&& 31))) (x3 + 1)
def lp_X12_parentsOf_4 (p1 : Int32) (h : am_H) : Nat → Int32 → Int32 → Option (Int32)
  | 0, _, _ => none
  | n + 1, x2, x3 => if x3 < 8 then cal (f_X12_bit p1 x3 h) fun v2 => if v2 = 0 then lp_X12_parentsOf_4 p1 h n x2 (x3 + 1) else rdI h 437 59 ((40 : Int32) + x3) fun v4 => if v4 < 0 then jn_X12_parentsOf_47 (lp_X12_parentsOf_4 p1 h n) p1 x2 x3 h else rdI h 437 59 ((40 : Int32) + x3) fun v7 => jn_X12_parentsOf_47 (lp_X12_parentsOf_4 p1 h n) p1 (x2 ||| ((1 : Int32) <<< (v7 &&& 31))) x3 h else some x2
def f_X12_parentsOf (x1 : Int32) (h : am_H) : Option (Int32) := lp_X12_parentsOf_4 x1 h  4000 0 0
theorem rj_X12_parentsOf_47 {X : am_X} {d : Nat} (hd : 1 ≤ d) (k_4 : Int32 → Int32 → Option (Int32)) (x1 : Int32) (x2 : Int32) (x3 : Int32) {h : am_H} (T : am_TP h.2.2) {r : Int32} (hk_4 : ∀ (x2 : Int32) (x3 : Int32) , k_4 x2 x3 = some r → am_G X d 12 false cX12_parentsOf (some .int) 4 [some (.ref 413), some (.int x1), some (.int x2), some (.int x3)] [] (am_SH, h) (some (.int r), (am_SH, h))) (hf : jn_X12_parentsOf_47 k_4 x1 x2 x3 h = some r) : am_G X d 12 false cX12_parentsOf (some .int) 47 [some (.ref 413), some (.int x1), some (.int x2), some (.int x3)] [] (am_SH, h) (some (.int r), (am_SH, h)) := by
  obtain ⟨d, rfl⟩ : ∃ e, d = e + 1 := ⟨d - 1, by omega⟩
  unfold jn_X12_parentsOf_47 at hf
  refine r_loc dX12_parentsOf_47 rfl ?_
  refine r_getR dX12_parentsOf_48 fl_12_85 sh_413 (Or.inr ⟨_, rfl⟩) (tp_413_40 T) ?_
  refine r_bipush (v := 48) dX12_parentsOf_51 rfl ?_
  refine r_loc dX12_parentsOf_53 rfl ?_
  refine r_alu dX12_parentsOf_54 rfl ?_
  refine r_iald dX12_parentsOf_55 sh_437 hf (fun v5 hf => ?_)
  refine r_lt0 (q := 73) dX12_parentsOf_56 rfl hf (fun hf => ?_) (fun hf => ?_)
  · refine r_loc (L' := [some (.ref 413), some (.int x1), some (.int x2), some (.int (x3 + 1))]) dX12_parentsOf_73 rfl ?_
    refine r_goto (q := 4) dX12_parentsOf_76 rfl ?_
    exact hk_4 x2 (x3 + 1) hf
  · refine r_loc dX12_parentsOf_59 rfl ?_
    refine r_iconst (v := 1) dX12_parentsOf_60 rfl ?_
    refine r_loc dX12_parentsOf_61 rfl ?_
    refine r_getR dX12_parentsOf_62 fl_12_85 sh_413 (Or.inr ⟨_, rfl⟩) (tp_413_40 T) ?_
    refine r_bipush (v := 48) dX12_parentsOf_65 rfl ?_
    refine r_loc dX12_parentsOf_67 rfl ?_
    refine r_alu dX12_parentsOf_68 rfl ?_
    refine r_iald dX12_parentsOf_69 sh_437 hf (fun v6 hf => ?_)
    refine r_alu dX12_parentsOf_70 rfl ?_
    refine r_alu dX12_parentsOf_71 rfl ?_
    refine r_loc (L' := [some (.ref 413), some (.int x1), some (.int (x2 ||| ((1 : Int32) <<< (v6 &&& 31)))), some (.int x3)]) dX12_parentsOf_72 rfl ?_
    refine r_loc (L' := [some (.ref 413), some (.int x1), some (.int (x2 ||| ((1 : Int32) <<< (v6 &&& 31)))), some (.int (x3 + 1))]) dX12_parentsOf_73 rfl ?_
    refine r_goto (q := 4) dX12_parentsOf_76 rfl ?_
    exact hk_4 (x2 ||| ((1 : Int32) <<< (v6 &&& 31))) (x3 + 1) hf
theorem rl_X12_parentsOf_4 {X : am_X} {d : Nat} (hd : 1 ≤ d) (p1 : Int32) {h : am_H} (T : am_TP h.2.2) {r : Int32} : ∀ (n : Nat) (x2 : Int32) (x3 : Int32) , lp_X12_parentsOf_4 p1 h n x2 x3 = some r → am_G X d 12 false cX12_parentsOf (some .int) 4 [some (.ref 413), some (.int p1), some (.int x2), some (.int x3)] [] (am_SH, h) (some (.int r), (am_SH, h)) := by
  obtain ⟨d, rfl⟩ : ∃ e, d = e + 1 := ⟨d - 1, by omega⟩
  intro n
  induction n with
  | zero => intro x2 x3 hf; cases hf
  | succ n ih =>
    intro x2 x3 hf
    rw [lp_X12_parentsOf_4] at hf
    refine r_loc dX12_parentsOf_4 rfl ?_
    refine r_bipush (v := 8) dX12_parentsOf_5 rfl ?_
    refine r_ge (q := 79) dX12_parentsOf_7 rfl hf (fun hf => ?_) (fun hf => ?_)
    · refine r_loc dX12_parentsOf_79 rfl ?_
      cases hf
      exact r_ri T dX12_parentsOf_80
    · refine r_loc dX12_parentsOf_10 rfl ?_
      refine r_loc dX12_parentsOf_11 rfl ?_
      obtain ⟨v2, c1, hf⟩ := cal_inv hf
      have g3 := rf_X12_bit (X := X) (d := d) (by omega) p1 x3 T c1
      refine r_stat (pre := [.int x3, .int p1]) (rest := []) dX12_parentsOf_12 ct_12_250 rfl (Nat.le_of_ble_eq_true rfl) (Nat.le_of_ble_eq_true rfl) g3 ?_
      refine r_ne0 (q := 21) dX12_parentsOf_15 rfl hf (fun hf => ?_) (fun hf => ?_)
      · refine r_loc dX12_parentsOf_21 rfl ?_
        refine r_getR dX12_parentsOf_22 fl_12_85 sh_413 (Or.inr ⟨_, rfl⟩) (tp_413_40 T) ?_
        refine r_bipush (v := 40) dX12_parentsOf_25 rfl ?_
        refine r_loc dX12_parentsOf_27 rfl ?_
        refine r_alu dX12_parentsOf_28 rfl ?_
        refine r_iald dX12_parentsOf_29 sh_437 hf (fun v4 hf => ?_)
        refine r_lt0 (q := 47) dX12_parentsOf_30 rfl hf (fun hf => ?_) (fun hf => ?_)
        · exact rj_X12_parentsOf_47 (by omega) (lp_X12_parentsOf_4 p1 h n) p1 x2 x3 T (ih) hf
        · refine r_loc dX12_parentsOf_33 rfl ?_
          refine r_iconst (v := 1) dX12_parentsOf_34 rfl ?_
          refine r_loc dX12_parentsOf_35 rfl ?_
          refine r_getR dX12_parentsOf_36 fl_12_85 sh_413 (Or.inr ⟨_, rfl⟩) (tp_413_40 T) ?_
          refine r_bipush (v := 40) dX12_parentsOf_39 rfl ?_
          refine r_loc dX12_parentsOf_41 rfl ?_
          refine r_alu dX12_parentsOf_42 rfl ?_
          refine r_iald dX12_parentsOf_43 sh_437 hf (fun v7 hf => ?_)
          refine r_alu dX12_parentsOf_44 rfl ?_
          refine r_alu dX12_parentsOf_45 rfl ?_
          refine r_loc (L' := [some (.ref 413), some (.int p1), some (.int (x2 ||| ((1 : Int32) <<< (v7 &&& 31)))), some (.int x3)]) dX12_parentsOf_46 rfl ?_
          exact rj_X12_parentsOf_47 (by omega) (lp_X12_parentsOf_4 p1 h n) p1 (x2 ||| ((1 : Int32) <<< (v7 &&& 31))) x3 T (ih) hf
      · refine r_goto (q := 73) dX12_parentsOf_18 rfl ?_
        refine r_loc (L' := [some (.ref 413), some (.int p1), some (.int x2), some (.int (x3 + 1))]) dX12_parentsOf_73 rfl ?_
        refine r_goto (q := 4) dX12_parentsOf_76 rfl ?_
        exact ih x2 (x3 + 1) hf
theorem rf_X12_parentsOf {X : am_X} {d : Nat} (hd : 1 ≤ d) (x1 : Int32) {h : am_H} (T : am_TP h.2.2) {r : Int32} (hf : f_X12_parentsOf x1 h = some r) : am_G X d 12 false cX12_parentsOf (some .int) 0 [some (.ref 413), some (.int x1), none, none] [] (am_SH, h) (some (.int r), (am_SH, h)) := by
  unfold f_X12_parentsOf at hf
  obtain ⟨d, rfl⟩ : ∃ e, d = e + 1 := ⟨d - 1, by omega⟩
  refine r_iconst (v := 0) dX12_parentsOf_0 rfl ?_
  refine r_loc (L' := [some (.ref 413), some (.int x1), some (.int 0), none]) dX12_parentsOf_1 rfl ?_
  refine r_iconst (v := 0) dX12_parentsOf_2 rfl ?_
  refine r_loc (L' := [some (.ref 413), some (.int x1), some (.int 0), some (.int 0)]) dX12_parentsOf_3 rfl ?_
  refine rl_X12_parentsOf_4 (by omega) x1 T  4000 0 0  hf
def lp_X12_line_20 (h : am_H) : Nat → Int32 → Int32 → Option (Int32)
  | 0, _, _ => none
  | n + 1, x2, x3 => if x3 < 8 then cal (f_X12_parentsOf x2 h) fun v8 => lp_X12_line_20 h n (x2 ||| v8) (x3 + 1) else some x2
def f_X12_line (x1 : Int32) (h : am_H) : Option (Int32) := cal (f_X12_isThere x1 h) fun v2 => if v2 = 0 then some (-1) else cal (f_X12_parentsOf ((1 : Int32) <<< (x1 &&& 31)) h) fun v5 => lp_X12_line_20 h  4000 v5 0
theorem rl_X12_line_20 {X : am_X} {d : Nat} (hd : 2 ≤ d) {h : am_H} (T : am_TP h.2.2) {r : Int32} : ∀ (n : Nat) (x2 : Int32) (x3 : Int32) , lp_X12_line_20 h n x2 x3 = some r → am_G X d 12 false cX12_line (some .int) 20 [some (.ref 413), none, some (.int x2), some (.int x3)] [] (am_SH, h) (some (.int r), (am_SH, h)) := by
  obtain ⟨d, rfl⟩ : ∃ e, d = e + 1 := ⟨d - 1, by omega⟩
  intro n
  induction n with
  | zero => intro x2 x3 hf; cases hf
  | succ n ih =>
    intro x2 x3 hf
    rw [lp_X12_line_20] at hf
    refine r_loc dX12_line_20 rfl ?_
    refine r_bipush (v := 8) dX12_line_21 rfl ?_
    refine r_ge (q := 40) dX12_line_23 rfl hf (fun hf => ?_) (fun hf => ?_)
    · refine r_loc dX12_line_40 rfl ?_
      cases hf
      exact r_ri T dX12_line_41
    · refine r_loc dX12_line_26 rfl ?_
      refine r_loc dX12_line_27 rfl ?_
      refine r_loc dX12_line_28 rfl ?_
      obtain ⟨v8, c7, hf⟩ := cal_inv hf
      have g9 := rf_X12_parentsOf (X := X) (d := d) (by omega) x2 T c7
      refine r_virt (pre := [.int x2]) (rest := [.int x2]) dX12_line_29 ct_12_466 rfl (sh_413) (Nat.le_of_ble_eq_true rfl) (Nat.le_of_ble_eq_true rfl) g9 ?_
      refine r_alu dX12_line_32 rfl ?_
      refine r_loc (L' := [some (.ref 413), none, some (.int (x2 ||| v8)), some (.int x3)]) dX12_line_33 rfl ?_
      refine r_loc (L' := [some (.ref 413), none, some (.int (x2 ||| v8)), some (.int (x3 + 1))]) dX12_line_34 rfl ?_
      refine r_goto (q := 20) dX12_line_37 rfl ?_
      exact ih (x2 ||| v8) (x3 + 1) hf
theorem rf_X12_line {X : am_X} {d : Nat} (hd : 2 ≤ d) (x1 : Int32) {h : am_H} (T : am_TP h.2.2) {r : Int32} (hf : f_X12_line x1 h = some r) : am_G X d 12 false cX12_line (some .int) 0 [some (.ref 413), some (.int x1), none, none] [] (am_SH, h) (some (.int r), (am_SH, h)) := by
  unfold f_X12_line at hf
  obtain ⟨d, rfl⟩ : ∃ e, d = e + 1 := ⟨d - 1, by omega⟩
  refine r_loc dX12_line_0 rfl ?_
  refine r_loc dX12_line_1 rfl ?_
  obtain ⟨v2, c1, hf⟩ := cal_inv hf
  have g3 := rf_X12_isThere (X := X) (d := d) (by omega) x1 T c1
  refine r_virt (pre := [.int x1]) (rest := []) dX12_line_2 ct_12_411 rfl (sh_413) (Nat.le_of_ble_eq_true rfl) (Nat.le_of_ble_eq_true rfl) g3 ?_
  refine r_ne0 (q := 10) dX12_line_5 rfl hf (fun hf => ?_) (fun hf => ?_)
  · refine r_loc dX12_line_10 rfl ?_
    refine r_iconst (v := 1) dX12_line_11 rfl ?_
    refine r_loc dX12_line_12 rfl ?_
    refine r_alu dX12_line_13 rfl ?_
    obtain ⟨v5, c4, hf⟩ := cal_inv hf
    have g6 := rf_X12_parentsOf (X := X) (d := d) (by omega) ((1 : Int32) <<< (x1 &&& 31)) T c4
    refine r_virt (pre := [.int ((1 : Int32) <<< (x1 &&& 31))]) (rest := []) dX12_line_14 ct_12_466 rfl (sh_413) (Nat.le_of_ble_eq_true rfl) (Nat.le_of_ble_eq_true rfl) g6 ?_
    refine r_loc (L' := [some (.ref 413), some (.int x1), some (.int v5), none]) dX12_line_17 rfl ?_
    refine r_iconst (v := 0) dX12_line_18 rfl ?_
    refine r_loc (L' := [some (.ref 413), some (.int x1), some (.int v5), some (.int 0)]) dX12_line_19 rfl ?_
    refine r_weak (L := [some (.ref 413), none, some (.int v5), some (.int 0)]) (am_le_s (am_le_n (am_le_s (am_le_s am_le_0)))) ?_
    refine rl_X12_line_20 (by omega) T  4000 v5 0  hf
  · refine r_iconst (v := (-1)) dX12_line_8 rfl ?_
    cases hf
    exact r_ri T dX12_line_9
def jn_X12_litter_46 (k_14 : Int32 → Int32 → Option (Int32)) (x1 : Int32) (x2 : Int32) (x3 : Int32) (h : am_H) : Option (Int32) := k_14 (x2 ||| ((1 : Int32) <<< (x3 &&& 31))) (x3 + 1)
def lp_X12_litter_14 (p1 : Int32) (h : am_H) : Nat → Int32 → Int32 → Option (Int32)
  | 0, _, _ => none
  | n + 1, x2, x3 => if x3 < 8 then rdI h 437 59 ((40 : Int32) + x3) fun v4 => if v4 = p1 then jn_X12_litter_46 (lp_X12_litter_14 p1 h n) p1 x2 x3 h else rdI h 437 59 ((48 : Int32) + x3) fun v5 => if v5 = p1 then jn_X12_litter_46 (lp_X12_litter_14 p1 h n) p1 x2 x3 h else lp_X12_litter_14 p1 h n x2 (x3 + 1) else some x2
def f_X12_litter (x1 : Int32) (h : am_H) : Option (Int32) := cal (f_X12_isThere x1 h) fun v2 => if v2 = 0 then some (-1) else lp_X12_litter_14 x1 h  4000 0 0
theorem rj_X12_litter_46 {X : am_X} {d : Nat} (hd : 2 ≤ d) (k_14 : Int32 → Int32 → Option (Int32)) (x1 : Int32) (x2 : Int32) (x3 : Int32) {h : am_H} (T : am_TP h.2.2) {r : Int32} (hk_14 : ∀ (x2 : Int32) (x3 : Int32) , k_14 x2 x3 = some r → am_G X d 12 false cX12_litter (some .int) 14 [some (.ref 413), some (.int x1), some (.int x2), some (.int x3)] [] (am_SH, h) (some (.int r), (am_SH, h))) (hf : jn_X12_litter_46 k_14 x1 x2 x3 h = some r) : am_G X d 12 false cX12_litter (some .int) 46 [some (.ref 413), some (.int x1), some (.int x2), some (.int x3)] [] (am_SH, h) (some (.int r), (am_SH, h)) := by
  obtain ⟨d, rfl⟩ : ∃ e, d = e + 1 := ⟨d - 1, by omega⟩
  unfold jn_X12_litter_46 at hf
  refine r_loc dX12_litter_46 rfl ?_
  refine r_iconst (v := 1) dX12_litter_47 rfl ?_
  refine r_loc dX12_litter_48 rfl ?_
  refine r_alu dX12_litter_49 rfl ?_
  refine r_alu dX12_litter_50 rfl ?_
  refine r_loc (L' := [some (.ref 413), some (.int x1), some (.int (x2 ||| ((1 : Int32) <<< (x3 &&& 31)))), some (.int x3)]) dX12_litter_51 rfl ?_
  refine r_loc (L' := [some (.ref 413), some (.int x1), some (.int (x2 ||| ((1 : Int32) <<< (x3 &&& 31)))), some (.int (x3 + 1))]) dX12_litter_52 rfl ?_
  refine r_goto (q := 14) dX12_litter_55 rfl ?_
  exact hk_14 (x2 ||| ((1 : Int32) <<< (x3 &&& 31))) (x3 + 1) hf
theorem rl_X12_litter_14 {X : am_X} {d : Nat} (hd : 2 ≤ d) (p1 : Int32) {h : am_H} (T : am_TP h.2.2) {r : Int32} : ∀ (n : Nat) (x2 : Int32) (x3 : Int32) , lp_X12_litter_14 p1 h n x2 x3 = some r → am_G X d 12 false cX12_litter (some .int) 14 [some (.ref 413), some (.int p1), some (.int x2), some (.int x3)] [] (am_SH, h) (some (.int r), (am_SH, h)) := by
  obtain ⟨d, rfl⟩ : ∃ e, d = e + 1 := ⟨d - 1, by omega⟩
  intro n
  induction n with
  | zero => intro x2 x3 hf; cases hf
  | succ n ih =>
    intro x2 x3 hf
    rw [lp_X12_litter_14] at hf
    refine r_loc dX12_litter_14 rfl ?_
    refine r_bipush (v := 8) dX12_litter_15 rfl ?_
    refine r_ge (q := 58) dX12_litter_17 rfl hf (fun hf => ?_) (fun hf => ?_)
    · refine r_loc dX12_litter_58 rfl ?_
      cases hf
      exact r_ri T dX12_litter_59
    · refine r_loc dX12_litter_20 rfl ?_
      refine r_getR dX12_litter_21 fl_12_85 sh_413 (Or.inr ⟨_, rfl⟩) (tp_413_40 T) ?_
      refine r_bipush (v := 40) dX12_litter_24 rfl ?_
      refine r_loc dX12_litter_26 rfl ?_
      refine r_alu dX12_litter_27 rfl ?_
      refine r_iald dX12_litter_28 sh_437 hf (fun v4 hf => ?_)
      refine r_loc dX12_litter_29 rfl ?_
      refine r_eq (q := 46) dX12_litter_30 rfl hf (fun hf => ?_) (fun hf => ?_)
      · exact rj_X12_litter_46 (by omega) (lp_X12_litter_14 p1 h n) p1 x2 x3 T (ih) hf
      · refine r_loc dX12_litter_33 rfl ?_
        refine r_getR dX12_litter_34 fl_12_85 sh_413 (Or.inr ⟨_, rfl⟩) (tp_413_40 T) ?_
        refine r_bipush (v := 48) dX12_litter_37 rfl ?_
        refine r_loc dX12_litter_39 rfl ?_
        refine r_alu dX12_litter_40 rfl ?_
        refine r_iald dX12_litter_41 sh_437 hf (fun v5 hf => ?_)
        refine r_loc dX12_litter_42 rfl ?_
        refine r_ne (q := 52) dX12_litter_43 rfl hf (fun hf => ?_) (fun hf => ?_)
        · refine r_loc (L' := [some (.ref 413), some (.int p1), some (.int x2), some (.int (x3 + 1))]) dX12_litter_52 rfl ?_
          refine r_goto (q := 14) dX12_litter_55 rfl ?_
          exact ih x2 (x3 + 1) hf
        · exact rj_X12_litter_46 (by omega) (lp_X12_litter_14 p1 h n) p1 x2 x3 T (ih) hf
theorem rf_X12_litter {X : am_X} {d : Nat} (hd : 2 ≤ d) (x1 : Int32) {h : am_H} (T : am_TP h.2.2) {r : Int32} (hf : f_X12_litter x1 h = some r) : am_G X d 12 false cX12_litter (some .int) 0 [some (.ref 413), some (.int x1), none, none] [] (am_SH, h) (some (.int r), (am_SH, h)) := by
  unfold f_X12_litter at hf
  obtain ⟨d, rfl⟩ : ∃ e, d = e + 1 := ⟨d - 1, by omega⟩
  refine r_loc dX12_litter_0 rfl ?_
  refine r_loc dX12_litter_1 rfl ?_
  obtain ⟨v2, c1, hf⟩ := cal_inv hf
  have g3 := rf_X12_isThere (X := X) (d := d) (by omega) x1 T c1
  refine r_virt (pre := [.int x1]) (rest := []) dX12_litter_2 ct_12_411 rfl (sh_413) (Nat.le_of_ble_eq_true rfl) (Nat.le_of_ble_eq_true rfl) g3 ?_
  refine r_ne0 (q := 10) dX12_litter_5 rfl hf (fun hf => ?_) (fun hf => ?_)
  · refine r_iconst (v := 0) dX12_litter_10 rfl ?_
    refine r_loc (L' := [some (.ref 413), some (.int x1), some (.int 0), none]) dX12_litter_11 rfl ?_
    refine r_iconst (v := 0) dX12_litter_12 rfl ?_
    refine r_loc (L' := [some (.ref 413), some (.int x1), some (.int 0), some (.int 0)]) dX12_litter_13 rfl ?_
    refine rl_X12_litter_14 (by omega) x1 T  4000 0 0  hf
  · refine r_iconst (v := (-1)) dX12_litter_8 rfl ?_
    cases hf
    exact r_ri T dX12_litter_9
def lp_X12_stepsUp_7 (p2 : Int32) (h : am_H) : Nat → Int32 → Int32 → Option (Int32)
  | 0, _, _ => none
  | n + 1, x3, x4 => if 8 < x4 then some 1000 else cal (f_X12_bit x3 p2 h) fun v2 => if v2 = 0 then cal (f_X12_parentsOf x3 h) fun v5 => lp_X12_stepsUp_7 p2 h n v5 (x4 + 1) else some x4
def f_X12_stepsUp (x1 : Int32) (x2 : Int32) (h : am_H) : Option (Int32) := lp_X12_stepsUp_7 x2 h  4000 ((1 : Int32) <<< (x1 &&& 31)) 0
theorem rl_X12_stepsUp_7 {X : am_X} {d : Nat} (hd : 2 ≤ d) (p2 : Int32) {h : am_H} (T : am_TP h.2.2) {r : Int32} : ∀ (n : Nat) (x3 : Int32) (x4 : Int32) , lp_X12_stepsUp_7 p2 h n x3 x4 = some r → am_G X d 12 false cX12_stepsUp (some .int) 7 [some (.ref 413), none, some (.int p2), some (.int x3), some (.int x4)] [] (am_SH, h) (some (.int r), (am_SH, h)) := by
  obtain ⟨d, rfl⟩ : ∃ e, d = e + 1 := ⟨d - 1, by omega⟩
  intro n
  induction n with
  | zero => intro x3 x4 hf; cases hf
  | succ n ih =>
    intro x3 x4 hf
    rw [lp_X12_stepsUp_7] at hf
    refine r_loc dX12_stepsUp_7 rfl ?_
    refine r_bipush (v := 8) dX12_stepsUp_9 rfl ?_
    refine r_gt (q := 37) dX12_stepsUp_11 rfl hf (fun hf => ?_) (fun hf => ?_)
    · refine r_sipush (v := 1000) dX12_stepsUp_37 rfl ?_
      cases hf
      exact r_ri T dX12_stepsUp_40
    · refine r_loc dX12_stepsUp_14 rfl ?_
      refine r_loc dX12_stepsUp_15 rfl ?_
      obtain ⟨v2, c1, hf⟩ := cal_inv hf
      have g3 := rf_X12_bit (X := X) (d := d) (by omega) x3 p2 T c1
      refine r_stat (pre := [.int p2, .int x3]) (rest := []) dX12_stepsUp_16 ct_12_250 rfl (Nat.le_of_ble_eq_true rfl) (Nat.le_of_ble_eq_true rfl) g3 ?_
      refine r_eq0 (q := 25) dX12_stepsUp_19 rfl hf (fun hf => ?_) (fun hf => ?_)
      · refine r_loc dX12_stepsUp_25 rfl ?_
        refine r_loc dX12_stepsUp_26 rfl ?_
        obtain ⟨v5, c4, hf⟩ := cal_inv hf
        have g6 := rf_X12_parentsOf (X := X) (d := d) (by omega) x3 T c4
        refine r_virt (pre := [.int x3]) (rest := []) dX12_stepsUp_27 ct_12_466 rfl (sh_413) (Nat.le_of_ble_eq_true rfl) (Nat.le_of_ble_eq_true rfl) g6 ?_
        refine r_loc (L' := [some (.ref 413), none, some (.int p2), some (.int v5), some (.int x4)]) dX12_stepsUp_30 rfl ?_
        refine r_loc (L' := [some (.ref 413), none, some (.int p2), some (.int v5), some (.int (x4 + 1))]) dX12_stepsUp_31 rfl ?_
        refine r_goto (q := 7) dX12_stepsUp_34 rfl ?_
        exact ih v5 (x4 + 1) hf
      · refine r_loc dX12_stepsUp_22 rfl ?_
        cases hf
        exact r_ri T dX12_stepsUp_24
theorem rf_X12_stepsUp {X : am_X} {d : Nat} (hd : 2 ≤ d) (x1 : Int32) (x2 : Int32) {h : am_H} (T : am_TP h.2.2) {r : Int32} (hf : f_X12_stepsUp x1 x2 h = some r) : am_G X d 12 false cX12_stepsUp (some .int) 0 [some (.ref 413), some (.int x1), some (.int x2), none, none] [] (am_SH, h) (some (.int r), (am_SH, h)) := by
  unfold f_X12_stepsUp at hf
  obtain ⟨d, rfl⟩ : ∃ e, d = e + 1 := ⟨d - 1, by omega⟩
  refine r_iconst (v := 1) dX12_stepsUp_0 rfl ?_
  refine r_loc dX12_stepsUp_1 rfl ?_
  refine r_alu dX12_stepsUp_2 rfl ?_
  refine r_loc (L' := [some (.ref 413), some (.int x1), some (.int x2), some (.int ((1 : Int32) <<< (x1 &&& 31))), none]) dX12_stepsUp_3 rfl ?_
  refine r_iconst (v := 0) dX12_stepsUp_4 rfl ?_
  refine r_loc (L' := [some (.ref 413), some (.int x1), some (.int x2), some (.int ((1 : Int32) <<< (x1 &&& 31))), some (.int 0)]) dX12_stepsUp_5 rfl ?_
  refine r_weak (L := [some (.ref 413), none, some (.int x2), some (.int ((1 : Int32) <<< (x1 &&& 31))), some (.int 0)]) (am_le_s (am_le_n (am_le_s (am_le_s (am_le_s am_le_0))))) ?_
  refine rl_X12_stepsUp_7 (by omega) x2 T  4000 ((1 : Int32) <<< (x1 &&& 31)) 0  hf
def lp_X12_kin_25 (p1 : Int32) (p2 : Int32) (h : am_H) (k_64 : Int32 → Option (Int32)) : Nat → Int32 → Int32 → Option (Int32)
  | 0, _, _ => none
  | n + 1, x3, x4 => if x4 < 8 then cal (f_X12_stepsUp p1 x4 h) fun v8 => cal (f_X12_stepsUp p2 x4 h) fun v11 => if (v8 + v11) < x3 then lp_X12_kin_25 p1 p2 h k_64 n (v8 + v11) (x4 + 1) else lp_X12_kin_25 p1 p2 h k_64 n x3 (x4 + 1) else k_64 x3
def f_X12_kin (x1 : Int32) (x2 : Int32) (h : am_H) : Option (Int32) := cal (f_X12_isThere x1 h) fun v2 => if v2 = 0 then some (-1) else cal (f_X12_isThere x2 h) fun v5 => if v5 = 0 then some (-1) else lp_X12_kin_25 x1 x2 h (fun z13 => if z13 < 1000 then some z13 else some (-1)) 4000 1000 0
theorem rl_X12_kin_25 {X : am_X} {d : Nat} (hd : 3 ≤ d) (p1 : Int32) (p2 : Int32) {h : am_H} (T : am_TP h.2.2) (k_64 : Int32 → Option (Int32)) {r : Int32} (hk_64 : ∀ (z3 : Int32) , k_64 z3 = some r → am_G X d 12 false cX12_kin (some .int) 64 [none, none, none, some (.int z3), none, none] [] (am_SH, h) (some (.int r), (am_SH, h))) : ∀ (n : Nat) (x3 : Int32) (x4 : Int32) , lp_X12_kin_25 p1 p2 h k_64 n x3 x4 = some r → am_G X d 12 false cX12_kin (some .int) 25 [some (.ref 413), some (.int p1), some (.int p2), some (.int x3), some (.int x4), none] [] (am_SH, h) (some (.int r), (am_SH, h)) := by
  obtain ⟨d, rfl⟩ : ∃ e, d = e + 1 := ⟨d - 1, by omega⟩
  intro n
  induction n with
  | zero => intro x3 x4 hf; cases hf
  | succ n ih =>
    intro x3 x4 hf
    rw [lp_X12_kin_25] at hf
    refine r_loc dX12_kin_25 rfl ?_
    refine r_bipush (v := 8) dX12_kin_27 rfl ?_
    refine r_ge (q := 64) dX12_kin_29 rfl hf (fun hf => ?_) (fun hf => ?_)
    · refine r_weak (L := [none, none, none, some (.int x3), none, none]) (am_le_n (am_le_n (am_le_n (am_le_s (am_le_n (am_le_n am_le_0)))))) ?_
      exact hk_64 x3 hf
    · refine r_loc dX12_kin_32 rfl ?_
      refine r_loc dX12_kin_33 rfl ?_
      refine r_loc dX12_kin_34 rfl ?_
      obtain ⟨v8, c7, hf⟩ := cal_inv hf
      have g9 := rf_X12_stepsUp (X := X) (d := d) (by omega) p1 x4 T c7
      refine r_virt (pre := [.int x4, .int p1]) (rest := []) dX12_kin_36 ct_12_469 rfl (sh_413) (Nat.le_of_ble_eq_true rfl) (Nat.le_of_ble_eq_true rfl) g9 ?_
      refine r_loc dX12_kin_39 rfl ?_
      refine r_loc dX12_kin_40 rfl ?_
      refine r_loc dX12_kin_41 rfl ?_
      obtain ⟨v11, c10, hf⟩ := cal_inv hf
      have g12 := rf_X12_stepsUp (X := X) (d := d) (by omega) p2 x4 T c10
      refine r_virt (pre := [.int x4, .int p2]) (rest := [.int v8]) dX12_kin_43 ct_12_469 rfl (sh_413) (Nat.le_of_ble_eq_true rfl) (Nat.le_of_ble_eq_true rfl) g12 ?_
      refine r_alu dX12_kin_46 rfl ?_
      refine r_loc (L' := [some (.ref 413), some (.int p1), some (.int p2), some (.int x3), some (.int x4), some (.int (v8 + v11))]) dX12_kin_47 rfl ?_
      refine r_loc dX12_kin_49 rfl ?_
      refine r_loc dX12_kin_51 rfl ?_
      refine r_ge (q := 58) dX12_kin_52 rfl hf (fun hf => ?_) (fun hf => ?_)
      · refine r_loc (L' := [some (.ref 413), some (.int p1), some (.int p2), some (.int x3), some (.int (x4 + 1)), some (.int (v8 + v11))]) dX12_kin_58 rfl ?_
        refine r_goto (q := 25) dX12_kin_61 rfl ?_
        refine r_weak (L := [some (.ref 413), some (.int p1), some (.int p2), some (.int x3), some (.int (x4 + 1)), none]) (am_le_s (am_le_s (am_le_s (am_le_s (am_le_s (am_le_n am_le_0)))))) ?_
        exact ih x3 (x4 + 1) hf
      · refine r_loc dX12_kin_55 rfl ?_
        refine r_loc (L' := [some (.ref 413), some (.int p1), some (.int p2), some (.int (v8 + v11)), some (.int x4), some (.int (v8 + v11))]) dX12_kin_57 rfl ?_
        refine r_loc (L' := [some (.ref 413), some (.int p1), some (.int p2), some (.int (v8 + v11)), some (.int (x4 + 1)), some (.int (v8 + v11))]) dX12_kin_58 rfl ?_
        refine r_goto (q := 25) dX12_kin_61 rfl ?_
        refine r_weak (L := [some (.ref 413), some (.int p1), some (.int p2), some (.int (v8 + v11)), some (.int (x4 + 1)), none]) (am_le_s (am_le_s (am_le_s (am_le_s (am_le_s (am_le_n am_le_0)))))) ?_
        exact ih (v8 + v11) (x4 + 1) hf
theorem rf_X12_kin {X : am_X} {d : Nat} (hd : 3 ≤ d) (x1 : Int32) (x2 : Int32) {h : am_H} (T : am_TP h.2.2) {r : Int32} (hf : f_X12_kin x1 x2 h = some r) : am_G X d 12 false cX12_kin (some .int) 0 [some (.ref 413), some (.int x1), some (.int x2), none, none, none] [] (am_SH, h) (some (.int r), (am_SH, h)) := by
  unfold f_X12_kin at hf
  obtain ⟨d, rfl⟩ : ∃ e, d = e + 1 := ⟨d - 1, by omega⟩
  refine r_loc dX12_kin_0 rfl ?_
  refine r_loc dX12_kin_1 rfl ?_
  obtain ⟨v2, c1, hf⟩ := cal_inv hf
  have g3 := rf_X12_isThere (X := X) (d := d) (by omega) x1 T c1
  refine r_virt (pre := [.int x1]) (rest := []) dX12_kin_2 ct_12_411 rfl (sh_413) (Nat.le_of_ble_eq_true rfl) (Nat.le_of_ble_eq_true rfl) g3 ?_
  refine r_eq0 (q := 16) dX12_kin_5 rfl hf (fun hf => ?_) (fun hf => ?_)
  · refine r_iconst (v := (-1)) dX12_kin_16 rfl ?_
    cases hf
    exact r_ri T dX12_kin_17
  · refine r_loc dX12_kin_8 rfl ?_
    refine r_loc dX12_kin_9 rfl ?_
    obtain ⟨v5, c4, hf⟩ := cal_inv hf
    have g6 := rf_X12_isThere (X := X) (d := d) (by omega) x2 T c4
    refine r_virt (pre := [.int x2]) (rest := []) dX12_kin_10 ct_12_411 rfl (sh_413) (Nat.le_of_ble_eq_true rfl) (Nat.le_of_ble_eq_true rfl) g6 ?_
    refine r_ne0 (q := 18) dX12_kin_13 rfl hf (fun hf => ?_) (fun hf => ?_)
    · refine r_sipush (v := 1000) dX12_kin_18 rfl ?_
      refine r_loc (L' := [some (.ref 413), some (.int x1), some (.int x2), some (.int 1000), none, none]) dX12_kin_21 rfl ?_
      refine r_iconst (v := 0) dX12_kin_22 rfl ?_
      refine r_loc (L' := [some (.ref 413), some (.int x1), some (.int x2), some (.int 1000), some (.int 0), none]) dX12_kin_23 rfl ?_
      refine rl_X12_kin_25 (by omega) x1 x2 T _ ?_ 4000 1000 0  hf
      · intro z13 hf
        refine r_loc dX12_kin_64 rfl ?_
        refine r_sipush (v := 1000) dX12_kin_65 rfl ?_
        refine r_ge (q := 75) dX12_kin_68 rfl hf (fun hf => ?_) (fun hf => ?_)
        · refine r_iconst (v := (-1)) dX12_kin_75 rfl ?_
          cases hf
          exact r_ri T dX12_kin_76
        · refine r_loc dX12_kin_71 rfl ?_
          refine r_goto (q := 76) dX12_kin_72 rfl ?_
          cases hf
          exact r_ri T dX12_kin_76
    · refine r_iconst (v := (-1)) dX12_kin_16 rfl ?_
      cases hf
      exact r_ri T dX12_kin_17
def f_X12_isOther (x1 : Int32) (h : am_H) : Option (Int32) := bnd (h.1 413 32) fun v1 => rdI h 417 2 v1 fun v2 => cal (f_X12_isIn x1 0 (v2 - 2) h) fun v4 => zrt v4 (some v4)
theorem rf_X12_isOther {X : am_X} {d : Nat} (hd : 1 ≤ d) (x1 : Int32) {h : am_H} (T : am_TP h.2.2) {r : Int32} (hf : f_X12_isOther x1 h = some r) : am_G X d 12 false cX12_isOther (some .boolean) 0 [some (.ref 413), some (.int x1)] [] (am_SH, h) (some (.int r), (am_SH, h)) := by
  unfold f_X12_isOther at hf
  obtain ⟨d, rfl⟩ : ∃ e, d = e + 1 := ⟨d - 1, by omega⟩
  refine r_loc dX12_isOther_0 rfl ?_
  refine r_iconst (v := 0) dX12_isOther_1 rfl ?_
  refine r_loc dX12_isOther_2 rfl ?_
  refine r_getR dX12_isOther_3 fl_12_24 sh_413 (Or.inr ⟨_, rfl⟩) (tp_413_12 T) ?_
  refine r_loc dX12_isOther_6 rfl ?_
  refine r_getI dX12_isOther_7 fl_12_244 sh_413 rfl hf (fun v1 hf => ?_)
  refine r_iald dX12_isOther_10 sh_417 hf (fun v2 hf => ?_)
  refine r_iconst (v := 2) dX12_isOther_11 rfl ?_
  refine r_alu dX12_isOther_12 rfl ?_
  obtain ⟨v4, c3, hf⟩ := cal_inv hf
  have g5 := rf_X12_isIn (X := X) (d := d) (by omega) x1 0 (v2 - 2) T c3
  refine r_stat (pre := [.int (v2 - 2), .int 0, .int x1]) (rest := []) dX12_isOther_13 ct_12_346 rfl (Nat.le_of_ble_eq_true rfl) (Nat.le_of_ble_eq_true rfl) g5 ?_
  exact r_zret T dX12_isOther_16 hf (fun hf => by cases hf; rfl)
def f_X12_held (x1 : Int32) (x2 : Int32) (x3 : Int32) (h : am_H) : Option (Int32 × am_H) := cal (f_X12_isOther x1 h) fun v2 => if v2 = 0 then some ((-1), h) else cal (f_X12_isIn x2 0 6 h) fun v5 => if v5 = 0 then some ((-1), h) else bnd (h.1 413 55) fun v7 => if v7 = 30 then some ((-1), h) else bnd (h.1 413 55) fun v8 => wrI h 441 30 v8 x1 fun h9 => bnd (h9.1 413 55) fun v12 => wrI h9 442 30 v12 x2 fun h13 => bnd (h13.1 413 55) fun v16 => if x3 = 0 then wrI h13 443 30 v16 0 fun h17 => bnd (h17.1 413 55) fun v20 => bnd (h17.1 413 56) fun v21 => wrI h17 444 30 v20 v21 fun h22 => bnd (h22.1 413 55) fun v25 => wrI h22 445 30 v25 (-1) fun h26 => bnd (h26.1 413 55) fun v29 => ptI h26 413 55 (v29 + 1) fun h30 => bnd (h30.1 413 55) fun v33 => some ((v33 - 1), h30) else wrI h13 443 30 v16 1 fun h34 => bnd (h34.1 413 55) fun v37 => bnd (h34.1 413 56) fun v38 => wrI h34 444 30 v37 v38 fun h39 => bnd (h39.1 413 55) fun v42 => wrI h39 445 30 v42 (-1) fun h43 => bnd (h43.1 413 55) fun v46 => ptI h43 413 55 (v46 + 1) fun h47 => bnd (h47.1 413 55) fun v50 => some ((v50 - 1), h47)
theorem rf_X12_held {X : am_X} {d : Nat} (hd : 2 ≤ d) (x1 : Int32) (x2 : Int32) (x3 : Int32) {h : am_H} (T : am_TP h.2.2) {r : Int32 × am_H} (hf : f_X12_held x1 x2 x3 h = some r) : am_G X d 12 false cX12_held (some .int) 0 [some (.ref 413), some (.int x1), some (.int x2), some (.int x3)] [] (am_SH, h) (some (.int r.1), (am_SH, r.2)) := by
  unfold f_X12_held at hf
  obtain ⟨d, rfl⟩ : ∃ e, d = e + 1 := ⟨d - 1, by omega⟩
  refine r_loc dX12_held_0 rfl ?_
  refine r_loc dX12_held_1 rfl ?_
  obtain ⟨v2, c1, hf⟩ := cal_inv hf
  have g3 := rf_X12_isOther (X := X) (d := d) (by omega) x1 T c1
  refine r_virt (pre := [.int x1]) (rest := []) dX12_held_2 ct_12_472 rfl (sh_413) (Nat.le_of_ble_eq_true rfl) (Nat.le_of_ble_eq_true rfl) g3 ?_
  refine r_eq0 (q := 27) dX12_held_5 rfl hf (fun hf => ?_) (fun hf => ?_)
  · refine r_iconst (v := (-1)) dX12_held_27 rfl ?_
    cases hf
    exact r_ri T dX12_held_28
  · refine r_loc dX12_held_8 rfl ?_
    refine r_iconst (v := 0) dX12_held_9 rfl ?_
    refine r_bipush (v := 6) dX12_held_10 rfl ?_
    obtain ⟨v5, c4, hf⟩ := cal_inv hf
    have g6 := rf_X12_isIn (X := X) (d := d) (by omega) x2 0 6 T c4
    refine r_stat (pre := [.int 6, .int 0, .int x2]) (rest := []) dX12_held_12 ct_12_346 rfl (Nat.le_of_ble_eq_true rfl) (Nat.le_of_ble_eq_true rfl) g6 ?_
    refine r_eq0 (q := 27) dX12_held_15 rfl hf (fun hf => ?_) (fun hf => ?_)
    · refine r_iconst (v := (-1)) dX12_held_27 rfl ?_
      cases hf
      exact r_ri T dX12_held_28
    · refine r_loc dX12_held_18 rfl ?_
      refine r_getI dX12_held_19 fl_12_369 sh_413 rfl hf (fun v7 hf => ?_)
      refine r_bipush (v := 30) dX12_held_22 rfl ?_
      refine r_ne (q := 29) dX12_held_24 rfl hf (fun hf => ?_) (fun hf => ?_)
      · refine r_loc dX12_held_29 rfl ?_
        refine r_getR dX12_held_30 fl_12_100 sh_413 (Or.inr ⟨_, rfl⟩) (tp_413_48 T) ?_
        refine r_loc dX12_held_33 rfl ?_
        refine r_getI dX12_held_34 fl_12_369 sh_413 rfl hf (fun v8 hf => ?_)
        refine r_loc dX12_held_37 rfl ?_
        refine r_iast dX12_held_38 sh_441 hf (fun h9 e11 hf => ?_)
        have T10 := tp_eq e11 T
        refine r_loc dX12_held_39 rfl ?_
        refine r_getR dX12_held_40 fl_12_103 sh_413 (Or.inr ⟨_, rfl⟩) (tp_413_49 T10) ?_
        refine r_loc dX12_held_43 rfl ?_
        refine r_getI dX12_held_44 fl_12_369 sh_413 rfl hf (fun v12 hf => ?_)
        refine r_loc dX12_held_47 rfl ?_
        refine r_iast dX12_held_48 sh_442 hf (fun h13 e15 hf => ?_)
        have T14 := tp_eq e15 T10
        refine r_loc dX12_held_49 rfl ?_
        refine r_getR dX12_held_50 fl_12_106 sh_413 (Or.inr ⟨_, rfl⟩) (tp_413_50 T14) ?_
        refine r_loc dX12_held_53 rfl ?_
        refine r_getI dX12_held_54 fl_12_369 sh_413 rfl hf (fun v16 hf => ?_)
        refine r_loc dX12_held_57 rfl ?_
        refine r_eq0 (q := 65) dX12_held_58 rfl hf (fun hf => ?_) (fun hf => ?_)
        · refine r_iconst (v := 0) dX12_held_65 rfl ?_
          refine r_iast dX12_held_66 sh_443 hf (fun h17 e19 hf => ?_)
          have T18 := tp_eq e19 T14
          refine r_loc dX12_held_67 rfl ?_
          refine r_getR dX12_held_68 fl_12_109 sh_413 (Or.inr ⟨_, rfl⟩) (tp_413_51 T18) ?_
          refine r_loc dX12_held_71 rfl ?_
          refine r_getI dX12_held_72 fl_12_369 sh_413 rfl hf (fun v20 hf => ?_)
          refine r_loc dX12_held_75 rfl ?_
          refine r_getI dX12_held_76 fl_12_475 sh_413 rfl hf (fun v21 hf => ?_)
          refine r_iast dX12_held_79 sh_444 hf (fun h22 e24 hf => ?_)
          have T23 := tp_eq e24 T18
          refine r_loc dX12_held_80 rfl ?_
          refine r_getR dX12_held_81 fl_12_112 sh_413 (Or.inr ⟨_, rfl⟩) (tp_413_52 T23) ?_
          refine r_loc dX12_held_84 rfl ?_
          refine r_getI dX12_held_85 fl_12_369 sh_413 rfl hf (fun v25 hf => ?_)
          refine r_iconst (v := (-1)) dX12_held_88 rfl ?_
          refine r_iast dX12_held_89 sh_445 hf (fun h26 e28 hf => ?_)
          have T27 := tp_eq e28 T23
          refine r_loc dX12_held_90 rfl ?_
          refine r_alu dX12_held_91 rfl ?_
          refine r_getI dX12_held_92 fl_12_369 sh_413 rfl hf (fun v29 hf => ?_)
          refine r_iconst (v := 1) dX12_held_95 rfl ?_
          refine r_alu dX12_held_96 rfl ?_
          refine r_putI dX12_held_97 fl_12_369 sh_413 ⟨rfl, rfl⟩ hf (fun h30 e32 hf => ?_)
          have T31 := tp_eq e32 T27
          refine r_loc dX12_held_100 rfl ?_
          refine r_getI dX12_held_101 fl_12_369 sh_413 rfl hf (fun v33 hf => ?_)
          refine r_iconst (v := 1) dX12_held_104 rfl ?_
          refine r_alu dX12_held_105 rfl ?_
          cases hf
          exact r_ri T31 dX12_held_106
        · refine r_iconst (v := 1) dX12_held_61 rfl ?_
          refine r_goto (q := 66) dX12_held_62 rfl ?_
          refine r_iast dX12_held_66 sh_443 hf (fun h34 e36 hf => ?_)
          have T35 := tp_eq e36 T14
          refine r_loc dX12_held_67 rfl ?_
          refine r_getR dX12_held_68 fl_12_109 sh_413 (Or.inr ⟨_, rfl⟩) (tp_413_51 T35) ?_
          refine r_loc dX12_held_71 rfl ?_
          refine r_getI dX12_held_72 fl_12_369 sh_413 rfl hf (fun v37 hf => ?_)
          refine r_loc dX12_held_75 rfl ?_
          refine r_getI dX12_held_76 fl_12_475 sh_413 rfl hf (fun v38 hf => ?_)
          refine r_iast dX12_held_79 sh_444 hf (fun h39 e41 hf => ?_)
          have T40 := tp_eq e41 T35
          refine r_loc dX12_held_80 rfl ?_
          refine r_getR dX12_held_81 fl_12_112 sh_413 (Or.inr ⟨_, rfl⟩) (tp_413_52 T40) ?_
          refine r_loc dX12_held_84 rfl ?_
          refine r_getI dX12_held_85 fl_12_369 sh_413 rfl hf (fun v42 hf => ?_)
          refine r_iconst (v := (-1)) dX12_held_88 rfl ?_
          refine r_iast dX12_held_89 sh_445 hf (fun h43 e45 hf => ?_)
          have T44 := tp_eq e45 T40
          refine r_loc dX12_held_90 rfl ?_
          refine r_alu dX12_held_91 rfl ?_
          refine r_getI dX12_held_92 fl_12_369 sh_413 rfl hf (fun v46 hf => ?_)
          refine r_iconst (v := 1) dX12_held_95 rfl ?_
          refine r_alu dX12_held_96 rfl ?_
          refine r_putI dX12_held_97 fl_12_369 sh_413 ⟨rfl, rfl⟩ hf (fun h47 e49 hf => ?_)
          have T48 := tp_eq e49 T44
          refine r_loc dX12_held_100 rfl ?_
          refine r_getI dX12_held_101 fl_12_369 sh_413 rfl hf (fun v50 hf => ?_)
          refine r_iconst (v := 1) dX12_held_104 rfl ?_
          refine r_alu dX12_held_105 rfl ?_
          cases hf
          exact r_ri T48 dX12_held_106
      · refine r_iconst (v := (-1)) dX12_held_27 rfl ?_
        cases hf
        exact r_ri T dX12_held_28
def f_X12_untell (x1 : Int32) (h : am_H) : Option (Int32 × am_H) := bnd (h.1 413 55) fun v1 => cal (f_X12_isIn x1 0 (v1 - 1) h) fun v3 => if v3 = 0 then some (0, h) else rdI h 445 30 x1 fun v5 => if v5 < 0 then bnd (h.1 413 56) fun v6 => wrI h 445 30 x1 v6 fun h7 => some (1, h7) else some (0, h)
theorem rf_X12_untell {X : am_X} {d : Nat} (hd : 1 ≤ d) (x1 : Int32) {h : am_H} (T : am_TP h.2.2) {r : Int32 × am_H} (hf : f_X12_untell x1 h = some r) : am_G X d 12 false cX12_untell (some .boolean) 0 [some (.ref 413), some (.int x1)] [] (am_SH, h) (some (.int r.1), (am_SH, r.2)) := by
  unfold f_X12_untell at hf
  obtain ⟨d, rfl⟩ : ∃ e, d = e + 1 := ⟨d - 1, by omega⟩
  refine r_loc dX12_untell_0 rfl ?_
  refine r_iconst (v := 0) dX12_untell_1 rfl ?_
  refine r_loc dX12_untell_2 rfl ?_
  refine r_getI dX12_untell_3 fl_12_369 sh_413 rfl hf (fun v1 hf => ?_)
  refine r_iconst (v := 1) dX12_untell_6 rfl ?_
  refine r_alu dX12_untell_7 rfl ?_
  obtain ⟨v3, c2, hf⟩ := cal_inv hf
  have g4 := rf_X12_isIn (X := X) (d := d) (by omega) x1 0 (v1 - 1) T c2
  refine r_stat (pre := [.int (v1 - 1), .int 0, .int x1]) (rest := []) dX12_untell_8 ct_12_346 rfl (Nat.le_of_ble_eq_true rfl) (Nat.le_of_ble_eq_true rfl) g4 ?_
  refine r_eq0 (q := 23) dX12_untell_11 rfl hf (fun hf => ?_) (fun hf => ?_)
  · refine r_iconst (v := 0) dX12_untell_23 rfl ?_
    cases hf
    exact r_z0 T dX12_untell_24
  · refine r_loc dX12_untell_14 rfl ?_
    refine r_getR dX12_untell_15 fl_12_112 sh_413 (Or.inr ⟨_, rfl⟩) (tp_413_52 T) ?_
    refine r_loc dX12_untell_18 rfl ?_
    refine r_iald dX12_untell_19 sh_445 hf (fun v5 hf => ?_)
    refine r_lt0 (q := 25) dX12_untell_20 rfl hf (fun hf => ?_) (fun hf => ?_)
    · refine r_loc dX12_untell_25 rfl ?_
      refine r_getR dX12_untell_26 fl_12_112 sh_413 (Or.inr ⟨_, rfl⟩) (tp_413_52 T) ?_
      refine r_loc dX12_untell_29 rfl ?_
      refine r_loc dX12_untell_30 rfl ?_
      refine r_getI dX12_untell_31 fl_12_475 sh_413 rfl hf (fun v6 hf => ?_)
      refine r_iast dX12_untell_34 sh_445 hf (fun h7 e9 hf => ?_)
      have T8 := tp_eq e9 T
      refine r_iconst (v := 1) dX12_untell_35 rfl ?_
      cases hf
      exact r_z1 T8 dX12_untell_36
    · refine r_iconst (v := 0) dX12_untell_23 rfl ?_
      cases hf
      exact r_z0 T dX12_untell_24
def f_X12_later (x1 : Int32) (h : am_H) : Option (Int32 × am_H) := cal (f_X12_isIn x1 0 1000 h) fun v2 => if v2 = 0 then some ((-1), h) else bnd (h.1 413 56) fun v4 => if 100000 < (v4 + x1) then some ((-1), h) else bnd (h.1 413 56) fun v5 => ptI h 413 56 (v5 + x1) fun h6 => bnd (h6.1 413 56) fun v9 => some (v9, h6)
theorem rf_X12_later {X : am_X} {d : Nat} (hd : 1 ≤ d) (x1 : Int32) {h : am_H} (T : am_TP h.2.2) {r : Int32 × am_H} (hf : f_X12_later x1 h = some r) : am_G X d 12 false cX12_later (some .int) 0 [some (.ref 413), some (.int x1)] [] (am_SH, h) (some (.int r.1), (am_SH, r.2)) := by
  unfold f_X12_later at hf
  obtain ⟨d, rfl⟩ : ∃ e, d = e + 1 := ⟨d - 1, by omega⟩
  refine r_loc dX12_later_0 rfl ?_
  refine r_iconst (v := 0) dX12_later_1 rfl ?_
  refine r_sipush (v := 1000) dX12_later_2 rfl ?_
  obtain ⟨v2, c1, hf⟩ := cal_inv hf
  have g3 := rf_X12_isIn (X := X) (d := d) (by omega) x1 0 1000 T c1
  refine r_stat (pre := [.int 1000, .int 0, .int x1]) (rest := []) dX12_later_5 ct_12_346 rfl (Nat.le_of_ble_eq_true rfl) (Nat.le_of_ble_eq_true rfl) g3 ?_
  refine r_eq0 (q := 23) dX12_later_8 rfl hf (fun hf => ?_) (fun hf => ?_)
  · refine r_iconst (v := (-1)) dX12_later_23 rfl ?_
    cases hf
    exact r_ri T dX12_later_24
  · refine r_loc dX12_later_11 rfl ?_
    refine r_getI dX12_later_12 fl_12_475 sh_413 rfl hf (fun v4 hf => ?_)
    refine r_loc dX12_later_15 rfl ?_
    refine r_alu dX12_later_16 rfl ?_
    refine r_ldcw dX12_later_17 k32_12_478 ?_
    refine r_le (q := 25) dX12_later_20 rfl hf (fun hf => ?_) (fun hf => ?_)
    · refine r_loc dX12_later_25 rfl ?_
      refine r_alu dX12_later_26 rfl ?_
      refine r_getI dX12_later_27 fl_12_475 sh_413 rfl hf (fun v5 hf => ?_)
      refine r_loc dX12_later_30 rfl ?_
      refine r_alu dX12_later_31 rfl ?_
      refine r_putI dX12_later_32 fl_12_475 sh_413 ⟨rfl, rfl⟩ hf (fun h6 e8 hf => ?_)
      have T7 := tp_eq e8 T
      refine r_loc dX12_later_35 rfl ?_
      refine r_getI dX12_later_36 fl_12_475 sh_413 rfl hf (fun v9 hf => ?_)
      cases hf
      exact r_ri T7 dX12_later_39
    · refine r_iconst (v := (-1)) dX12_later_23 rfl ?_
      cases hf
      exact r_ri T dX12_later_24
def f_X12_sharedIf (x1 : Int32) (x2 : Int32) (h : am_H) : Option (Int32) := bnd (h.1 413 32) fun v1 => rdI h 426 12 (((6 : Int32) * v1) + x2) fun v2 => cal (f_X12_sharedBy x1 v2 h) fun v4 => some v4
theorem rf_X12_sharedIf {X : am_X} {d : Nat} (hd : 2 ≤ d) (x1 : Int32) (x2 : Int32) {h : am_H} (T : am_TP h.2.2) {r : Int32} (hf : f_X12_sharedIf x1 x2 h = some r) : am_G X d 12 false cX12_sharedIf (some .int) 0 [some (.ref 413), some (.int x1), some (.int x2)] [] (am_SH, h) (some (.int r), (am_SH, h)) := by
  unfold f_X12_sharedIf at hf
  obtain ⟨d, rfl⟩ : ∃ e, d = e + 1 := ⟨d - 1, by omega⟩
  refine r_loc dX12_sharedIf_0 rfl ?_
  refine r_loc dX12_sharedIf_1 rfl ?_
  refine r_getR dX12_sharedIf_2 fl_12_51 sh_413 (Or.inr ⟨_, rfl⟩) (tp_413_21 T) ?_
  refine r_bipush (v := 6) dX12_sharedIf_5 rfl ?_
  refine r_loc dX12_sharedIf_7 rfl ?_
  refine r_getI dX12_sharedIf_8 fl_12_244 sh_413 rfl hf (fun v1 hf => ?_)
  refine r_alu dX12_sharedIf_11 rfl ?_
  refine r_loc dX12_sharedIf_12 rfl ?_
  refine r_alu dX12_sharedIf_13 rfl ?_
  refine r_iald dX12_sharedIf_14 sh_426 hf (fun v2 hf => ?_)
  obtain ⟨v4, c3, hf⟩ := cal_inv hf
  have g5 := rf_X12_sharedBy (X := X) (d := d) (by omega) x1 v2 T c3
  refine r_stat (pre := [.int v2, .int x1]) (rest := []) dX12_sharedIf_15 ct_12_325 rfl (Nat.le_of_ble_eq_true rfl) (Nat.le_of_ble_eq_true rfl) g5 ?_
  cases hf
  exact r_ri T dX12_sharedIf_18
def jn_X12_doesFit_67 (k_2 : Int32 → Option (Int32)) (x1 : Int32) (x2 : Int32) (x3 : Int32) (y0 : Int32) (h : am_H) : Option (Int32) := rdI h 443 30 x3 fun v9 => if y0 = v9 then k_2 (x3 + 1) else some 0
def jn_X12_doesFit_42 (k_2 : Int32 → Option (Int32)) (x1 : Int32) (x2 : Int32) (x3 : Int32) (h : am_H) : Option (Int32) := rdI h 441 30 x3 fun v4 => cal (f_X12_sharedIf x1 v4 h) fun v6 => rdI h 442 30 x3 fun v8 => if v6 < v8 then jn_X12_doesFit_67 (k_2) x1 x2 x3 0 h else jn_X12_doesFit_67 (k_2) x1 x2 x3 1 h
def lp_X12_doesFit_2 (p1 : Int32) (p2 : Int32) (h : am_H) : Nat → Int32 → Option (Int32)
  | 0, _ => none
  | n + 1, x3 => bnd (h.1 413 55) fun v1 => if x3 < v1 then rdI h 444 30 x3 fun v2 => if p2 < v2 then lp_X12_doesFit_2 p1 p2 h n (x3 + 1) else rdI h 445 30 x3 fun v3 => if v3 < 0 then jn_X12_doesFit_42 (lp_X12_doesFit_2 p1 p2 h n) p1 p2 x3 h else rdI h 445 30 x3 fun v10 => if p2 < v10 then jn_X12_doesFit_42 (lp_X12_doesFit_2 p1 p2 h n) p1 p2 x3 h else lp_X12_doesFit_2 p1 p2 h n (x3 + 1) else some 1
def f_X12_doesFit (x1 : Int32) (x2 : Int32) (h : am_H) : Option (Int32) := lp_X12_doesFit_2 x1 x2 h  4000 0
theorem rj_X12_doesFit_67 {X : am_X} {d : Nat} (hd : 3 ≤ d) (k_2 : Int32 → Option (Int32)) (x1 : Int32) (x2 : Int32) (x3 : Int32) (y0 : Int32) {h : am_H} (T : am_TP h.2.2) {r : Int32} (hk_2 : ∀ (x3 : Int32) , k_2 x3 = some r → am_G X d 12 false cX12_doesFit (some .boolean) 2 [some (.ref 413), some (.int x1), some (.int x2), some (.int x3), none] [] (am_SH, h) (some (.int r), (am_SH, h))) (hf : jn_X12_doesFit_67 k_2 x1 x2 x3 y0 h = some r) : am_G X d 12 false cX12_doesFit (some .boolean) 67 [some (.ref 413), some (.int x1), some (.int x2), some (.int x3), none] [.int y0] (am_SH, h) (some (.int r), (am_SH, h)) := by
  obtain ⟨d, rfl⟩ : ∃ e, d = e + 1 := ⟨d - 1, by omega⟩
  unfold jn_X12_doesFit_67 at hf
  refine r_loc (L' := [some (.ref 413), some (.int x1), some (.int x2), some (.int x3), some (.int y0)]) dX12_doesFit_67 rfl ?_
  refine r_loc dX12_doesFit_69 rfl ?_
  refine r_loc dX12_doesFit_71 rfl ?_
  refine r_getR dX12_doesFit_72 fl_12_106 sh_413 (Or.inr ⟨_, rfl⟩) (tp_413_50 T) ?_
  refine r_loc dX12_doesFit_75 rfl ?_
  refine r_iald dX12_doesFit_76 sh_443 hf (fun v9 hf => ?_)
  refine r_eq (q := 82) dX12_doesFit_77 rfl hf (fun hf => ?_) (fun hf => ?_)
  · refine r_loc (L' := [some (.ref 413), some (.int x1), some (.int x2), some (.int (x3 + 1)), some (.int y0)]) dX12_doesFit_82 rfl ?_
    refine r_goto (q := 2) dX12_doesFit_85 rfl ?_
    refine r_weak (L := [some (.ref 413), some (.int x1), some (.int x2), some (.int (x3 + 1)), none]) (am_le_s (am_le_s (am_le_s (am_le_s (am_le_n am_le_0))))) ?_
    exact hk_2 (x3 + 1) hf
  · refine r_iconst (v := 0) dX12_doesFit_80 rfl ?_
    cases hf
    exact r_z0 T dX12_doesFit_81
theorem rj_X12_doesFit_42 {X : am_X} {d : Nat} (hd : 3 ≤ d) (k_2 : Int32 → Option (Int32)) (x1 : Int32) (x2 : Int32) (x3 : Int32) {h : am_H} (T : am_TP h.2.2) {r : Int32} (hk_2 : ∀ (x3 : Int32) , k_2 x3 = some r → am_G X d 12 false cX12_doesFit (some .boolean) 2 [some (.ref 413), some (.int x1), some (.int x2), some (.int x3), none] [] (am_SH, h) (some (.int r), (am_SH, h))) (hf : jn_X12_doesFit_42 k_2 x1 x2 x3 h = some r) : am_G X d 12 false cX12_doesFit (some .boolean) 42 [some (.ref 413), some (.int x1), some (.int x2), some (.int x3), none] [] (am_SH, h) (some (.int r), (am_SH, h)) := by
  obtain ⟨d, rfl⟩ : ∃ e, d = e + 1 := ⟨d - 1, by omega⟩
  unfold jn_X12_doesFit_42 at hf
  refine r_loc dX12_doesFit_42 rfl ?_
  refine r_loc dX12_doesFit_43 rfl ?_
  refine r_loc dX12_doesFit_44 rfl ?_
  refine r_getR dX12_doesFit_45 fl_12_100 sh_413 (Or.inr ⟨_, rfl⟩) (tp_413_48 T) ?_
  refine r_loc dX12_doesFit_48 rfl ?_
  refine r_iald dX12_doesFit_49 sh_441 hf (fun v4 hf => ?_)
  obtain ⟨v6, c5, hf⟩ := cal_inv hf
  have g7 := rf_X12_sharedIf (X := X) (d := d) (by omega) x1 v4 T c5
  refine r_virt (pre := [.int v4, .int x1]) (rest := []) dX12_doesFit_50 ct_12_479 rfl (sh_413) (Nat.le_of_ble_eq_true rfl) (Nat.le_of_ble_eq_true rfl) g7 ?_
  refine r_loc dX12_doesFit_53 rfl ?_
  refine r_getR dX12_doesFit_54 fl_12_103 sh_413 (Or.inr ⟨_, rfl⟩) (tp_413_49 T) ?_
  refine r_loc dX12_doesFit_57 rfl ?_
  refine r_iald dX12_doesFit_58 sh_442 hf (fun v8 hf => ?_)
  refine r_lt (q := 66) dX12_doesFit_59 rfl hf (fun hf => ?_) (fun hf => ?_)
  · refine r_iconst (v := 0) dX12_doesFit_66 rfl ?_
    exact rj_X12_doesFit_67 (by omega) (k_2) x1 x2 x3 0 T (hk_2) hf
  · refine r_iconst (v := 1) dX12_doesFit_62 rfl ?_
    refine r_goto (q := 67) dX12_doesFit_63 rfl ?_
    exact rj_X12_doesFit_67 (by omega) (k_2) x1 x2 x3 1 T (hk_2) hf
theorem rl_X12_doesFit_2 {X : am_X} {d : Nat} (hd : 3 ≤ d) (p1 : Int32) (p2 : Int32) {h : am_H} (T : am_TP h.2.2) {r : Int32} : ∀ (n : Nat) (x3 : Int32) , lp_X12_doesFit_2 p1 p2 h n x3 = some r → am_G X d 12 false cX12_doesFit (some .boolean) 2 [some (.ref 413), some (.int p1), some (.int p2), some (.int x3), none] [] (am_SH, h) (some (.int r), (am_SH, h)) := by
  obtain ⟨d, rfl⟩ : ∃ e, d = e + 1 := ⟨d - 1, by omega⟩
  intro n
  induction n with
  | zero => intro x3 hf; cases hf
  | succ n ih =>
    intro x3 hf
    rw [lp_X12_doesFit_2] at hf
    refine r_loc dX12_doesFit_2 rfl ?_
    refine r_loc dX12_doesFit_3 rfl ?_
    refine r_getI dX12_doesFit_4 fl_12_369 sh_413 rfl hf (fun v1 hf => ?_)
    refine r_ge (q := 88) dX12_doesFit_7 rfl hf (fun hf => ?_) (fun hf => ?_)
    · refine r_iconst (v := 1) dX12_doesFit_88 rfl ?_
      cases hf
      exact r_z1 T dX12_doesFit_89
    · refine r_loc dX12_doesFit_10 rfl ?_
      refine r_getR dX12_doesFit_11 fl_12_109 sh_413 (Or.inr ⟨_, rfl⟩) (tp_413_51 T) ?_
      refine r_loc dX12_doesFit_14 rfl ?_
      refine r_iald dX12_doesFit_15 sh_444 hf (fun v2 hf => ?_)
      refine r_loc dX12_doesFit_16 rfl ?_
      refine r_gt (q := 82) dX12_doesFit_17 rfl hf (fun hf => ?_) (fun hf => ?_)
      · refine r_loc (L' := [some (.ref 413), some (.int p1), some (.int p2), some (.int (x3 + 1)), none]) dX12_doesFit_82 rfl ?_
        refine r_goto (q := 2) dX12_doesFit_85 rfl ?_
        exact ih (x3 + 1) hf
      · refine r_loc dX12_doesFit_20 rfl ?_
        refine r_getR dX12_doesFit_21 fl_12_112 sh_413 (Or.inr ⟨_, rfl⟩) (tp_413_52 T) ?_
        refine r_loc dX12_doesFit_24 rfl ?_
        refine r_iald dX12_doesFit_25 sh_445 hf (fun v3 hf => ?_)
        refine r_lt0 (q := 42) dX12_doesFit_26 rfl hf (fun hf => ?_) (fun hf => ?_)
        · exact rj_X12_doesFit_42 (by omega) (lp_X12_doesFit_2 p1 p2 h n) p1 p2 x3 T (ih) hf
        · refine r_loc dX12_doesFit_29 rfl ?_
          refine r_getR dX12_doesFit_30 fl_12_112 sh_413 (Or.inr ⟨_, rfl⟩) (tp_413_52 T) ?_
          refine r_loc dX12_doesFit_33 rfl ?_
          refine r_iald dX12_doesFit_34 sh_445 hf (fun v10 hf => ?_)
          refine r_loc dX12_doesFit_35 rfl ?_
          refine r_gt (q := 42) dX12_doesFit_36 rfl hf (fun hf => ?_) (fun hf => ?_)
          · exact rj_X12_doesFit_42 (by omega) (lp_X12_doesFit_2 p1 p2 h n) p1 p2 x3 T (ih) hf
          · refine r_goto (q := 82) dX12_doesFit_39 rfl ?_
            refine r_loc (L' := [some (.ref 413), some (.int p1), some (.int p2), some (.int (x3 + 1)), none]) dX12_doesFit_82 rfl ?_
            refine r_goto (q := 2) dX12_doesFit_85 rfl ?_
            exact ih (x3 + 1) hf
theorem rf_X12_doesFit {X : am_X} {d : Nat} (hd : 3 ≤ d) (x1 : Int32) (x2 : Int32) {h : am_H} (T : am_TP h.2.2) {r : Int32} (hf : f_X12_doesFit x1 x2 h = some r) : am_G X d 12 false cX12_doesFit (some .boolean) 0 [some (.ref 413), some (.int x1), some (.int x2), none, none] [] (am_SH, h) (some (.int r), (am_SH, h)) := by
  unfold f_X12_doesFit at hf
  obtain ⟨d, rfl⟩ : ∃ e, d = e + 1 := ⟨d - 1, by omega⟩
  refine r_iconst (v := 0) dX12_doesFit_0 rfl ?_
  refine r_loc (L' := [some (.ref 413), some (.int x1), some (.int x2), some (.int 0), none]) dX12_doesFit_1 rfl ?_
  refine rl_X12_doesFit_2 (by omega) x1 x2 T  4000 0  hf
def lp_X12_fits_7 (p1 : Int32) (k_66 : am_H → Option (Int32 × am_H)) : Nat → Int32 → am_H → Option (Int32 × am_H)
  | 0, _, _ => none
  | n + 1, x2, h => if x2 < 64 then bnd (h.1 413 32) fun v4 => rdI h 417 2 v4 fun v5 => if 0 < v5 then cal (f_X12_doesFit x2 p1 h) fun v7 => wrI h 447 64 x2 (vp_nar .boolean v7) fun h9 => bnd (h9.1 413 57) fun v12 => rdI h9 447 64 x2 fun v13 => if v13 = 0 then ptI h9 413 57 (v12 + 0) fun h14 => lp_X12_fits_7 p1 k_66 n (x2 + 1) h14 else ptI h9 413 57 (v12 + 1) fun h17 => lp_X12_fits_7 p1 k_66 n (x2 + 1) h17 else k_66  h else k_66  h
def f_X12_fits (x1 : Int32) (h : am_H) : Option (Int32 × am_H) := ptI h 413 57 0 fun h1 => lp_X12_fits_7 x1 (fun h20 => bnd (h20.1 413 57) fun v22 => some (v22, h20)) 4000 0 h1
theorem rl_X12_fits_7 {X : am_X} {d : Nat} (hd : 4 ≤ d) (p1 : Int32) (k_66 : am_H → Option (Int32 × am_H)) {r : Int32 × am_H} (hk_66 : ∀ (h : am_H), am_TP h.2.2 → k_66  h = some r → am_G X d 12 false cX12_fits (some .int) 66 [some (.ref 413), none, none] [] (am_SH, h) (some (.int r.1), (am_SH, r.2))) : ∀ (n : Nat) (x2 : Int32) (h : am_H), am_TP h.2.2 → lp_X12_fits_7 p1 k_66 n x2 h = some r → am_G X d 12 false cX12_fits (some .int) 7 [some (.ref 413), some (.int p1), some (.int x2)] [] (am_SH, h) (some (.int r.1), (am_SH, r.2)) := by
  obtain ⟨d, rfl⟩ : ∃ e, d = e + 1 := ⟨d - 1, by omega⟩
  intro n
  induction n with
  | zero => intro x2 h T hf; cases hf
  | succ n ih =>
    intro x2 h T hf
    rw [lp_X12_fits_7] at hf
    refine r_loc dX12_fits_7 rfl ?_
    refine r_bipush (v := 64) dX12_fits_8 rfl ?_
    refine r_ge (q := 66) dX12_fits_10 rfl hf (fun hf => ?_) (fun hf => ?_)
    · refine r_weak (L := [some (.ref 413), none, none]) (am_le_s (am_le_n (am_le_n am_le_0))) ?_
      exact hk_66  h T hf
    · refine r_loc dX12_fits_13 rfl ?_
      refine r_getR dX12_fits_14 fl_12_24 sh_413 (Or.inr ⟨_, rfl⟩) (tp_413_12 T) ?_
      refine r_loc dX12_fits_17 rfl ?_
      refine r_getI dX12_fits_18 fl_12_244 sh_413 rfl hf (fun v4 hf => ?_)
      refine r_iald dX12_fits_21 sh_417 hf (fun v5 hf => ?_)
      refine r_le0 (q := 66) dX12_fits_22 rfl hf (fun hf => ?_) (fun hf => ?_)
      · refine r_weak (L := [some (.ref 413), none, none]) (am_le_s (am_le_n (am_le_n am_le_0))) ?_
        exact hk_66  h T hf
      · refine r_loc dX12_fits_25 rfl ?_
        refine r_getR dX12_fits_26 fl_12_118 sh_413 (Or.inr ⟨_, rfl⟩) (tp_413_54 T) ?_
        refine r_loc dX12_fits_29 rfl ?_
        refine r_loc dX12_fits_30 rfl ?_
        refine r_loc dX12_fits_31 rfl ?_
        refine r_loc dX12_fits_32 rfl ?_
        obtain ⟨v7, c6, hf⟩ := cal_inv hf
        have g8 := rf_X12_doesFit (X := X) (d := d) (by omega) x2 p1 T c6
        refine r_virt (pre := [.int p1, .int x2]) (rest := [.int x2, .ref 447]) dX12_fits_33 ct_12_485 rfl (sh_413) (Nat.le_of_ble_eq_true rfl) (Nat.le_of_ble_eq_true rfl) g8 ?_
        refine r_bast dX12_fits_36 sh_447 rfl hf (fun h9 e11 hf => ?_)
        have T10 := tp_eq e11 T
        refine r_loc dX12_fits_37 rfl ?_
        refine r_alu dX12_fits_38 rfl ?_
        refine r_getI dX12_fits_39 fl_12_482 sh_413 rfl hf (fun v12 hf => ?_)
        refine r_loc dX12_fits_42 rfl ?_
        refine r_getR dX12_fits_43 fl_12_118 sh_413 (Or.inr ⟨_, rfl⟩) (tp_413_54 T10) ?_
        refine r_loc dX12_fits_46 rfl ?_
        refine r_bald dX12_fits_47 sh_447 rfl hf (fun v13 hf => ?_)
        refine r_eq0 (q := 55) dX12_fits_48 rfl hf (fun hf => ?_) (fun hf => ?_)
        · refine r_iconst (v := 0) dX12_fits_55 rfl ?_
          refine r_alu dX12_fits_56 rfl ?_
          refine r_putI dX12_fits_57 fl_12_482 sh_413 ⟨rfl, rfl⟩ hf (fun h14 e16 hf => ?_)
          have T15 := tp_eq e16 T10
          refine r_loc (L' := [some (.ref 413), some (.int p1), some (.int (x2 + 1))]) dX12_fits_60 rfl ?_
          refine r_goto (q := 7) dX12_fits_63 rfl ?_
          exact ih (x2 + 1) h14 T15 hf
        · refine r_iconst (v := 1) dX12_fits_51 rfl ?_
          refine r_goto (q := 56) dX12_fits_52 rfl ?_
          refine r_alu dX12_fits_56 rfl ?_
          refine r_putI dX12_fits_57 fl_12_482 sh_413 ⟨rfl, rfl⟩ hf (fun h17 e19 hf => ?_)
          have T18 := tp_eq e19 T10
          refine r_loc (L' := [some (.ref 413), some (.int p1), some (.int (x2 + 1))]) dX12_fits_60 rfl ?_
          refine r_goto (q := 7) dX12_fits_63 rfl ?_
          exact ih (x2 + 1) h17 T18 hf
theorem rf_X12_fits {X : am_X} {d : Nat} (hd : 4 ≤ d) (x1 : Int32) {h : am_H} (T : am_TP h.2.2) {r : Int32 × am_H} (hf : f_X12_fits x1 h = some r) : am_G X d 12 false cX12_fits (some .int) 0 [some (.ref 413), some (.int x1), none] [] (am_SH, h) (some (.int r.1), (am_SH, r.2)) := by
  unfold f_X12_fits at hf
  obtain ⟨d, rfl⟩ : ∃ e, d = e + 1 := ⟨d - 1, by omega⟩
  refine r_loc dX12_fits_0 rfl ?_
  refine r_iconst (v := 0) dX12_fits_1 rfl ?_
  refine r_putI dX12_fits_2 fl_12_482 sh_413 ⟨rfl, rfl⟩ hf (fun h1 e3 hf => ?_)
  have T2 := tp_eq e3 T
  refine r_iconst (v := 0) dX12_fits_5 rfl ?_
  refine r_loc (L' := [some (.ref 413), some (.int x1), some (.int 0)]) dX12_fits_6 rfl ?_
  refine rl_X12_fits_7 (by omega) x1 _ ?_ 4000 0 h1 T2 hf
  · intro h20 T21 hf
    refine r_loc dX12_fits_66 rfl ?_
    refine r_getI dX12_fits_67 fl_12_482 sh_413 rfl hf (fun v22 hf => ?_)
    cases hf
    exact r_ri T21 dX12_fits_70
def lp_X12_sure_27 (p1 : Int32) (p3 : Int32) (k_65 : Int32 → am_H → Option (Int32 × am_H)) : Nat → Int32 → Int32 → am_H → Option (Int32 × am_H)
  | 0, _, _, _ => none
  | n + 1, x4, x5, h => if x5 < 64 then rdI h 447 64 x5 fun v10 => if v10 = 0 then lp_X12_sure_27 p1 p3 k_65 n (x4 + 0) (x5 + 1) h else lp_X12_sure_27 p1 p3 k_65 n (x4 + ((x5 >>> (p1 &&& 31)) &&& 1)) (x5 + 1) h else k_65 x4 h
def f_X12_sure (x1 : Int32) (x2 : Int32) (h : am_H) : Option (Int32 × am_H) := cal2 (f_X12_fits x2 h) fun v2 h4 => cal (f_X12_isIn x1 0 5 h4) fun v8 => if v8 = 0 then some ((-1), h4) else if v2 = 0 then some ((-1), h4) else lp_X12_sure_27 x1 v2 (fun z11 h12 => if z11 = v2 then some (1, h12) else if z11 = 0 then some (0, h12) else some ((-2), h12)) 4000 0 0 h4
theorem rl_X12_sure_27 {X : am_X} {d : Nat} (hd : 5 ≤ d) (p1 : Int32) (p3 : Int32) (k_65 : Int32 → am_H → Option (Int32 × am_H)) {r : Int32 × am_H} (hk_65 : ∀ (z4 : Int32) (h : am_H), am_TP h.2.2 → k_65 z4 h = some r → am_G X d 12 false cX12_sure (some .int) 65 [none, none, none, some (.int p3), some (.int z4), none] [] (am_SH, h) (some (.int r.1), (am_SH, r.2))) : ∀ (n : Nat) (x4 : Int32) (x5 : Int32) (h : am_H), am_TP h.2.2 → lp_X12_sure_27 p1 p3 k_65 n x4 x5 h = some r → am_G X d 12 false cX12_sure (some .int) 27 [some (.ref 413), some (.int p1), none, some (.int p3), some (.int x4), some (.int x5)] [] (am_SH, h) (some (.int r.1), (am_SH, r.2)) := by
  obtain ⟨d, rfl⟩ : ∃ e, d = e + 1 := ⟨d - 1, by omega⟩
  intro n
  induction n with
  | zero => intro x4 x5 h T hf; cases hf
  | succ n ih =>
    intro x4 x5 h T hf
    rw [lp_X12_sure_27] at hf
    refine r_loc dX12_sure_27 rfl ?_
    refine r_bipush (v := 64) dX12_sure_29 rfl ?_
    refine r_ge (q := 65) dX12_sure_31 rfl hf (fun hf => ?_) (fun hf => ?_)
    · refine r_weak (L := [none, none, none, some (.int p3), some (.int x4), none]) (am_le_n (am_le_n (am_le_n (am_le_s (am_le_s (am_le_n am_le_0)))))) ?_
      exact hk_65 x4 h T hf
    · refine r_loc dX12_sure_34 rfl ?_
      refine r_loc dX12_sure_36 rfl ?_
      refine r_getR dX12_sure_37 fl_12_118 sh_413 (Or.inr ⟨_, rfl⟩) (tp_413_54 T) ?_
      refine r_loc dX12_sure_40 rfl ?_
      refine r_bald dX12_sure_42 sh_447 rfl hf (fun v10 hf => ?_)
      refine r_eq0 (q := 55) dX12_sure_43 rfl hf (fun hf => ?_) (fun hf => ?_)
      · refine r_iconst (v := 0) dX12_sure_55 rfl ?_
        refine r_alu dX12_sure_56 rfl ?_
        refine r_loc (L' := [some (.ref 413), some (.int p1), none, some (.int p3), some (.int (x4 + 0)), some (.int x5)]) dX12_sure_57 rfl ?_
        refine r_loc (L' := [some (.ref 413), some (.int p1), none, some (.int p3), some (.int (x4 + 0)), some (.int (x5 + 1))]) dX12_sure_59 rfl ?_
        refine r_goto (q := 27) dX12_sure_62 rfl ?_
        exact ih (x4 + 0) (x5 + 1) h T hf
      · refine r_loc dX12_sure_46 rfl ?_
        refine r_loc dX12_sure_48 rfl ?_
        refine r_alu dX12_sure_49 rfl ?_
        refine r_iconst (v := 1) dX12_sure_50 rfl ?_
        refine r_alu dX12_sure_51 rfl ?_
        refine r_goto (q := 56) dX12_sure_52 rfl ?_
        refine r_alu dX12_sure_56 rfl ?_
        refine r_loc (L' := [some (.ref 413), some (.int p1), none, some (.int p3), some (.int (x4 + ((x5 >>> (p1 &&& 31)) &&& 1))), some (.int x5)]) dX12_sure_57 rfl ?_
        refine r_loc (L' := [some (.ref 413), some (.int p1), none, some (.int p3), some (.int (x4 + ((x5 >>> (p1 &&& 31)) &&& 1))), some (.int (x5 + 1))]) dX12_sure_59 rfl ?_
        refine r_goto (q := 27) dX12_sure_62 rfl ?_
        exact ih (x4 + ((x5 >>> (p1 &&& 31)) &&& 1)) (x5 + 1) h T hf
theorem rf_X12_sure {X : am_X} {d : Nat} (hd : 5 ≤ d) (x1 : Int32) (x2 : Int32) {h : am_H} (T : am_TP h.2.2) {r : Int32 × am_H} (hf : f_X12_sure x1 x2 h = some r) : am_G X d 12 false cX12_sure (some .int) 0 [some (.ref 413), some (.int x1), some (.int x2), none, none, none] [] (am_SH, h) (some (.int r.1), (am_SH, r.2)) := by
  unfold f_X12_sure at hf
  obtain ⟨d, rfl⟩ : ∃ e, d = e + 1 := ⟨d - 1, by omega⟩
  refine r_loc dX12_sure_0 rfl ?_
  refine r_loc dX12_sure_1 rfl ?_
  obtain ⟨v2, h4, c1, hf⟩ := cal2_inv hf
  have g6 := rf_X12_fits (X := X) (d := d) (by omega) x2 T c1
  have T5 : am_TP h4.2.2 := g6.2
  refine r_virt (pre := [.int x2]) (rest := []) dX12_sure_2 ct_12_488 rfl (sh_413) (Nat.le_of_ble_eq_true rfl) (Nat.le_of_ble_eq_true rfl) g6 ?_
  refine r_loc (L' := [some (.ref 413), some (.int x1), some (.int x2), some (.int v2), none, none]) dX12_sure_5 rfl ?_
  refine r_loc dX12_sure_6 rfl ?_
  refine r_iconst (v := 0) dX12_sure_7 rfl ?_
  refine r_iconst (v := 5) dX12_sure_8 rfl ?_
  obtain ⟨v8, c7, hf⟩ := cal_inv hf
  have g9 := rf_X12_isIn (X := X) (d := d) (by omega) x1 0 5 T5 c7
  refine r_stat (pre := [.int 5, .int 0, .int x1]) (rest := []) dX12_sure_9 ct_12_346 rfl (Nat.le_of_ble_eq_true rfl) (Nat.le_of_ble_eq_true rfl) g9 ?_
  refine r_eq0 (q := 19) dX12_sure_12 rfl hf (fun hf => ?_) (fun hf => ?_)
  · refine r_iconst (v := (-1)) dX12_sure_19 rfl ?_
    cases hf
    exact r_ri T5 dX12_sure_20
  · refine r_loc dX12_sure_15 rfl ?_
    refine r_ne0 (q := 21) dX12_sure_16 rfl hf (fun hf => ?_) (fun hf => ?_)
    · refine r_iconst (v := 0) dX12_sure_21 rfl ?_
      refine r_loc (L' := [some (.ref 413), some (.int x1), some (.int x2), some (.int v2), some (.int 0), none]) dX12_sure_22 rfl ?_
      refine r_iconst (v := 0) dX12_sure_24 rfl ?_
      refine r_loc (L' := [some (.ref 413), some (.int x1), some (.int x2), some (.int v2), some (.int 0), some (.int 0)]) dX12_sure_25 rfl ?_
      refine r_weak (L := [some (.ref 413), some (.int x1), none, some (.int v2), some (.int 0), some (.int 0)]) (am_le_s (am_le_s (am_le_n (am_le_s (am_le_s (am_le_s am_le_0)))))) ?_
      refine rl_X12_sure_27 (by omega) x1 v2 _ ?_ 4000 0 0 h4 T5 hf
      · intro z11 h12 T13 hf
        refine r_loc dX12_sure_65 rfl ?_
        refine r_loc dX12_sure_67 rfl ?_
        refine r_ne (q := 75) dX12_sure_68 rfl hf (fun hf => ?_) (fun hf => ?_)
        · refine r_loc dX12_sure_75 rfl ?_
          refine r_ne0 (q := 84) dX12_sure_77 rfl hf (fun hf => ?_) (fun hf => ?_)
          · refine r_bipush (v := (-2)) dX12_sure_84 rfl ?_
            cases hf
            exact r_ri T13 dX12_sure_86
          · refine r_iconst (v := 0) dX12_sure_80 rfl ?_
            refine r_goto (q := 86) dX12_sure_81 rfl ?_
            cases hf
            exact r_ri T13 dX12_sure_86
        · refine r_iconst (v := 1) dX12_sure_71 rfl ?_
          refine r_goto (q := 86) dX12_sure_72 rfl ?_
          cases hf
          exact r_ri T13 dX12_sure_86
    · refine r_iconst (v := (-1)) dX12_sure_19 rfl ?_
      cases hf
      exact r_ri T5 dX12_sure_20
def lp_X12_mostBy_2 (p1 : Int32) (k_21 : am_H → Option (Int32 × am_H)) : Nat → Int32 → am_H → Option (Int32 × am_H)
  | 0, _, _ => none
  | n + 1, x2, h => if 6 < x2 then k_21  h else wrI h 446 7 x2 0 fun h1 => lp_X12_mostBy_2 p1 k_21 n (x2 + 1) h1
def lp_X12_mostBy_25 (p1 : Int32) : Nat → Int32 → Int32 → am_H → Option (Int32 × am_H)
  | 0, _, _, _ => none
  | n + 1, x2, x3, h => if x3 < 64 then rdI h 447 64 x3 fun v6 => if v6 = 0 then lp_X12_mostBy_25 p1 n x2 (x3 + 1) h else cal (f_X12_sharedIf x3 p1 h) fun v8 => rdI h 446 7 v8 fun v10 => wrI h 446 7 v8 (v10 + 1) fun h11 => rdI h11 446 7 v8 fun v14 => if x2 < v14 then rdI h11 446 7 v8 fun v15 => lp_X12_mostBy_25 p1 n v15 (x3 + 1) h11 else lp_X12_mostBy_25 p1 n x2 (x3 + 1) h11 else some (x2, h)
def f_X12_mostBy (x1 : Int32) (h : am_H) : Option (Int32 × am_H) := lp_X12_mostBy_2 x1 (fun h4 => lp_X12_mostBy_25 x1  4000 0 0 h4) 4000 0 h
theorem rl_X12_mostBy_2 {X : am_X} {d : Nat} (hd : 3 ≤ d) (p1 : Int32) (k_21 : am_H → Option (Int32 × am_H)) {r : Int32 × am_H} (hk_21 : ∀ (h : am_H), am_TP h.2.2 → k_21  h = some r → am_G X d 12 false cX12_mostBy (some .int) 21 [some (.ref 413), some (.int p1), none, none, none] [] (am_SH, h) (some (.int r.1), (am_SH, r.2))) : ∀ (n : Nat) (x2 : Int32) (h : am_H), am_TP h.2.2 → lp_X12_mostBy_2 p1 k_21 n x2 h = some r → am_G X d 12 false cX12_mostBy (some .int) 2 [some (.ref 413), some (.int p1), some (.int x2), none, none] [] (am_SH, h) (some (.int r.1), (am_SH, r.2)) := by
  obtain ⟨d, rfl⟩ : ∃ e, d = e + 1 := ⟨d - 1, by omega⟩
  intro n
  induction n with
  | zero => intro x2 h T hf; cases hf
  | succ n ih =>
    intro x2 h T hf
    rw [lp_X12_mostBy_2] at hf
    refine r_loc dX12_mostBy_2 rfl ?_
    refine r_bipush (v := 6) dX12_mostBy_3 rfl ?_
    refine r_gt (q := 21) dX12_mostBy_5 rfl hf (fun hf => ?_) (fun hf => ?_)
    · refine r_weak (L := [some (.ref 413), some (.int p1), none, none, none]) (am_le_s (am_le_s (am_le_n (am_le_n (am_le_n am_le_0))))) ?_
      exact hk_21  h T hf
    · refine r_loc dX12_mostBy_8 rfl ?_
      refine r_getR dX12_mostBy_9 fl_12_115 sh_413 (Or.inr ⟨_, rfl⟩) (tp_413_53 T) ?_
      refine r_loc dX12_mostBy_12 rfl ?_
      refine r_iconst (v := 0) dX12_mostBy_13 rfl ?_
      refine r_iast dX12_mostBy_14 sh_446 hf (fun h1 e3 hf => ?_)
      have T2 := tp_eq e3 T
      refine r_loc (L' := [some (.ref 413), some (.int p1), some (.int (x2 + 1)), none, none]) dX12_mostBy_15 rfl ?_
      refine r_goto (q := 2) dX12_mostBy_18 rfl ?_
      exact ih (x2 + 1) h1 T2 hf
theorem rl_X12_mostBy_25 {X : am_X} {d : Nat} (hd : 3 ≤ d) (p1 : Int32) {r : Int32 × am_H} : ∀ (n : Nat) (x2 : Int32) (x3 : Int32) (h : am_H), am_TP h.2.2 → lp_X12_mostBy_25 p1 n x2 x3 h = some r → am_G X d 12 false cX12_mostBy (some .int) 25 [some (.ref 413), some (.int p1), some (.int x2), some (.int x3), none] [] (am_SH, h) (some (.int r.1), (am_SH, r.2)) := by
  obtain ⟨d, rfl⟩ : ∃ e, d = e + 1 := ⟨d - 1, by omega⟩
  intro n
  induction n with
  | zero => intro x2 x3 h T hf; cases hf
  | succ n ih =>
    intro x2 x3 h T hf
    rw [lp_X12_mostBy_25] at hf
    refine r_loc dX12_mostBy_25 rfl ?_
    refine r_bipush (v := 64) dX12_mostBy_26 rfl ?_
    refine r_ge (q := 87) dX12_mostBy_28 rfl hf (fun hf => ?_) (fun hf => ?_)
    · refine r_loc dX12_mostBy_87 rfl ?_
      cases hf
      exact r_ri T dX12_mostBy_88
    · refine r_loc dX12_mostBy_31 rfl ?_
      refine r_getR dX12_mostBy_32 fl_12_118 sh_413 (Or.inr ⟨_, rfl⟩) (tp_413_54 T) ?_
      refine r_loc dX12_mostBy_35 rfl ?_
      refine r_bald dX12_mostBy_36 sh_447 rfl hf (fun v6 hf => ?_)
      refine r_ne0 (q := 43) dX12_mostBy_37 rfl hf (fun hf => ?_) (fun hf => ?_)
      · refine r_loc dX12_mostBy_43 rfl ?_
        refine r_loc dX12_mostBy_44 rfl ?_
        refine r_loc dX12_mostBy_45 rfl ?_
        obtain ⟨v8, c7, hf⟩ := cal_inv hf
        have g9 := rf_X12_sharedIf (X := X) (d := d) (by omega) x3 p1 T c7
        refine r_virt (pre := [.int p1, .int x3]) (rest := []) dX12_mostBy_46 ct_12_479 rfl (sh_413) (Nat.le_of_ble_eq_true rfl) (Nat.le_of_ble_eq_true rfl) g9 ?_
        refine r_loc (L' := [some (.ref 413), some (.int p1), some (.int x2), some (.int x3), some (.int v8)]) dX12_mostBy_49 rfl ?_
        refine r_loc dX12_mostBy_51 rfl ?_
        refine r_getR dX12_mostBy_52 fl_12_115 sh_413 (Or.inr ⟨_, rfl⟩) (tp_413_53 T) ?_
        refine r_loc dX12_mostBy_55 rfl ?_
        refine r_alu dX12_mostBy_57 rfl ?_
        refine r_iald dX12_mostBy_58 sh_446 hf (fun v10 hf => ?_)
        refine r_iconst (v := 1) dX12_mostBy_59 rfl ?_
        refine r_alu dX12_mostBy_60 rfl ?_
        refine r_iast dX12_mostBy_61 sh_446 hf (fun h11 e13 hf => ?_)
        have T12 := tp_eq e13 T
        refine r_loc dX12_mostBy_62 rfl ?_
        refine r_getR dX12_mostBy_63 fl_12_115 sh_413 (Or.inr ⟨_, rfl⟩) (tp_413_53 T12) ?_
        refine r_loc dX12_mostBy_66 rfl ?_
        refine r_iald dX12_mostBy_68 sh_446 hf (fun v14 hf => ?_)
        refine r_loc dX12_mostBy_69 rfl ?_
        refine r_le (q := 81) dX12_mostBy_70 rfl hf (fun hf => ?_) (fun hf => ?_)
        · refine r_loc (L' := [some (.ref 413), some (.int p1), some (.int x2), some (.int (x3 + 1)), some (.int v8)]) dX12_mostBy_81 rfl ?_
          refine r_goto (q := 25) dX12_mostBy_84 rfl ?_
          refine r_weak (L := [some (.ref 413), some (.int p1), some (.int x2), some (.int (x3 + 1)), none]) (am_le_s (am_le_s (am_le_s (am_le_s (am_le_n am_le_0))))) ?_
          exact ih x2 (x3 + 1) h11 T12 hf
        · refine r_loc dX12_mostBy_73 rfl ?_
          refine r_getR dX12_mostBy_74 fl_12_115 sh_413 (Or.inr ⟨_, rfl⟩) (tp_413_53 T12) ?_
          refine r_loc dX12_mostBy_77 rfl ?_
          refine r_iald dX12_mostBy_79 sh_446 hf (fun v15 hf => ?_)
          refine r_loc (L' := [some (.ref 413), some (.int p1), some (.int v15), some (.int x3), some (.int v8)]) dX12_mostBy_80 rfl ?_
          refine r_loc (L' := [some (.ref 413), some (.int p1), some (.int v15), some (.int (x3 + 1)), some (.int v8)]) dX12_mostBy_81 rfl ?_
          refine r_goto (q := 25) dX12_mostBy_84 rfl ?_
          refine r_weak (L := [some (.ref 413), some (.int p1), some (.int v15), some (.int (x3 + 1)), none]) (am_le_s (am_le_s (am_le_s (am_le_s (am_le_n am_le_0))))) ?_
          exact ih v15 (x3 + 1) h11 T12 hf
      · refine r_goto (q := 81) dX12_mostBy_40 rfl ?_
        refine r_loc (L' := [some (.ref 413), some (.int p1), some (.int x2), some (.int (x3 + 1)), none]) dX12_mostBy_81 rfl ?_
        refine r_goto (q := 25) dX12_mostBy_84 rfl ?_
        exact ih x2 (x3 + 1) h T hf
theorem rf_X12_mostBy {X : am_X} {d : Nat} (hd : 3 ≤ d) (x1 : Int32) {h : am_H} (T : am_TP h.2.2) {r : Int32 × am_H} (hf : f_X12_mostBy x1 h = some r) : am_G X d 12 false cX12_mostBy (some .int) 0 [some (.ref 413), some (.int x1), none, none, none] [] (am_SH, h) (some (.int r.1), (am_SH, r.2)) := by
  unfold f_X12_mostBy at hf
  obtain ⟨d, rfl⟩ : ∃ e, d = e + 1 := ⟨d - 1, by omega⟩
  refine r_iconst (v := 0) dX12_mostBy_0 rfl ?_
  refine r_loc (L' := [some (.ref 413), some (.int x1), some (.int 0), none, none]) dX12_mostBy_1 rfl ?_
  refine rl_X12_mostBy_2 (by omega) x1 _ ?_ 4000 0 h T hf
  · intro h4 T5 hf
    refine r_iconst (v := 0) dX12_mostBy_21 rfl ?_
    refine r_loc (L' := [some (.ref 413), some (.int x1), some (.int 0), none, none]) dX12_mostBy_22 rfl ?_
    refine r_iconst (v := 0) dX12_mostBy_23 rfl ?_
    refine r_loc (L' := [some (.ref 413), some (.int x1), some (.int 0), some (.int 0), none]) dX12_mostBy_24 rfl ?_
    refine rl_X12_mostBy_25 (by omega) x1  4000 0 0 h4 T5 hf
def lp_X12_ask_40 (p1 : Int32) (k_81 : Int32 → am_H → Option (Int32 × am_H)) : Nat → Int32 → Int32 → am_H → Option (Int32 × am_H)
  | 0, _, _, _ => none
  | n + 1, x4, x5, h => bnd (h.1 413 32) fun v12 => rdI h 417 2 v12 fun v13 => if x5 < (v13 - 1) then cal2 (f_X12_mostBy x5 h) fun v15 h17 => cal2 (f_X12_mostBy x4 h17) fun v21 h23 => if v15 < v21 then lp_X12_ask_40 p1 k_81 n x5 (x5 + 1) h23 else lp_X12_ask_40 p1 k_81 n x4 (x5 + 1) h23 else k_81 x4 h
def f_X12_ask (x1 : Int32) (x2 : Int32) (h : am_H) : Option (Int32 × am_H) := cal2 (f_X12_fits x2 h) fun v2 h4 => cal (f_X12_isIn x1 0 1 h4) fun v8 => if v8 = 0 then some ((-1), h4) else if v2 = 0 then some ((-1), h4) else bnd (h4.1 413 32) fun v10 => rdI h4 417 2 v10 fun v11 => if v11 < 2 then some ((-1), h4) else lp_X12_ask_40 x1 (fun z26 h27 => if x1 = 0 then some (z26, h27) else cal2 (f_X12_mostBy z26 h27) fun v30 h32 => some (v30, h32)) 4000 0 1 h4
theorem rl_X12_ask_40 {X : am_X} {d : Nat} (hd : 5 ≤ d) (p1 : Int32) (k_81 : Int32 → am_H → Option (Int32 × am_H)) {r : Int32 × am_H} (hk_81 : ∀ (z4 : Int32) (h : am_H), am_TP h.2.2 → k_81 z4 h = some r → am_G X d 12 false cX12_ask (some .int) 81 [some (.ref 413), some (.int p1), none, none, some (.int z4), none] [] (am_SH, h) (some (.int r.1), (am_SH, r.2))) : ∀ (n : Nat) (x4 : Int32) (x5 : Int32) (h : am_H), am_TP h.2.2 → lp_X12_ask_40 p1 k_81 n x4 x5 h = some r → am_G X d 12 false cX12_ask (some .int) 40 [some (.ref 413), some (.int p1), none, none, some (.int x4), some (.int x5)] [] (am_SH, h) (some (.int r.1), (am_SH, r.2)) := by
  obtain ⟨d, rfl⟩ : ∃ e, d = e + 1 := ⟨d - 1, by omega⟩
  intro n
  induction n with
  | zero => intro x4 x5 h T hf; cases hf
  | succ n ih =>
    intro x4 x5 h T hf
    rw [lp_X12_ask_40] at hf
    refine r_loc dX12_ask_40 rfl ?_
    refine r_loc dX12_ask_42 rfl ?_
    refine r_getR dX12_ask_43 fl_12_24 sh_413 (Or.inr ⟨_, rfl⟩) (tp_413_12 T) ?_
    refine r_loc dX12_ask_46 rfl ?_
    refine r_getI dX12_ask_47 fl_12_244 sh_413 rfl hf (fun v12 hf => ?_)
    refine r_iald dX12_ask_50 sh_417 hf (fun v13 hf => ?_)
    refine r_iconst (v := 1) dX12_ask_51 rfl ?_
    refine r_alu dX12_ask_52 rfl ?_
    refine r_ge (q := 81) dX12_ask_53 rfl hf (fun hf => ?_) (fun hf => ?_)
    · refine r_weak (L := [some (.ref 413), some (.int p1), none, none, some (.int x4), none]) (am_le_s (am_le_s (am_le_n (am_le_n (am_le_s (am_le_n am_le_0)))))) ?_
      exact hk_81 x4 h T hf
    · refine r_loc dX12_ask_56 rfl ?_
      refine r_loc dX12_ask_57 rfl ?_
      obtain ⟨v15, h17, c14, hf⟩ := cal2_inv hf
      have g19 := rf_X12_mostBy (X := X) (d := d) (by omega) x5 T c14
      have T18 : am_TP h17.2.2 := g19.2
      refine r_virt (pre := [.int x5]) (rest := []) dX12_ask_59 ct_12_491 rfl (sh_413) (Nat.le_of_ble_eq_true rfl) (Nat.le_of_ble_eq_true rfl) g19 ?_
      refine r_loc dX12_ask_62 rfl ?_
      refine r_loc dX12_ask_63 rfl ?_
      obtain ⟨v21, h23, c20, hf⟩ := cal2_inv hf
      have g25 := rf_X12_mostBy (X := X) (d := d) (by omega) x4 T18 c20
      have T24 : am_TP h23.2.2 := g25.2
      refine r_virt (pre := [.int x4]) (rest := [.int v15]) dX12_ask_65 ct_12_491 rfl (sh_413) (Nat.le_of_ble_eq_true rfl) (Nat.le_of_ble_eq_true rfl) g25 ?_
      refine r_ge (q := 75) dX12_ask_68 rfl hf (fun hf => ?_) (fun hf => ?_)
      · refine r_loc (L' := [some (.ref 413), some (.int p1), none, none, some (.int x4), some (.int (x5 + 1))]) dX12_ask_75 rfl ?_
        refine r_goto (q := 40) dX12_ask_78 rfl ?_
        exact ih x4 (x5 + 1) h23 T24 hf
      · refine r_loc dX12_ask_71 rfl ?_
        refine r_loc (L' := [some (.ref 413), some (.int p1), none, none, some (.int x5), some (.int x5)]) dX12_ask_73 rfl ?_
        refine r_loc (L' := [some (.ref 413), some (.int p1), none, none, some (.int x5), some (.int (x5 + 1))]) dX12_ask_75 rfl ?_
        refine r_goto (q := 40) dX12_ask_78 rfl ?_
        exact ih x5 (x5 + 1) h23 T24 hf
theorem rf_X12_ask {X : am_X} {d : Nat} (hd : 5 ≤ d) (x1 : Int32) (x2 : Int32) {h : am_H} (T : am_TP h.2.2) {r : Int32 × am_H} (hf : f_X12_ask x1 x2 h = some r) : am_G X d 12 false cX12_ask (some .int) 0 [some (.ref 413), some (.int x1), some (.int x2), none, none, none] [] (am_SH, h) (some (.int r.1), (am_SH, r.2)) := by
  unfold f_X12_ask at hf
  obtain ⟨d, rfl⟩ : ∃ e, d = e + 1 := ⟨d - 1, by omega⟩
  refine r_loc dX12_ask_0 rfl ?_
  refine r_loc dX12_ask_1 rfl ?_
  obtain ⟨v2, h4, c1, hf⟩ := cal2_inv hf
  have g6 := rf_X12_fits (X := X) (d := d) (by omega) x2 T c1
  have T5 : am_TP h4.2.2 := g6.2
  refine r_virt (pre := [.int x2]) (rest := []) dX12_ask_2 ct_12_488 rfl (sh_413) (Nat.le_of_ble_eq_true rfl) (Nat.le_of_ble_eq_true rfl) g6 ?_
  refine r_loc (L' := [some (.ref 413), some (.int x1), some (.int x2), some (.int v2), none, none]) dX12_ask_5 rfl ?_
  refine r_loc dX12_ask_6 rfl ?_
  refine r_iconst (v := 0) dX12_ask_7 rfl ?_
  refine r_iconst (v := 1) dX12_ask_8 rfl ?_
  obtain ⟨v8, c7, hf⟩ := cal_inv hf
  have g9 := rf_X12_isIn (X := X) (d := d) (by omega) x1 0 1 T5 c7
  refine r_stat (pre := [.int 1, .int 0, .int x1]) (rest := []) dX12_ask_9 ct_12_346 rfl (Nat.le_of_ble_eq_true rfl) (Nat.le_of_ble_eq_true rfl) g9 ?_
  refine r_eq0 (q := 32) dX12_ask_12 rfl hf (fun hf => ?_) (fun hf => ?_)
  · refine r_iconst (v := (-1)) dX12_ask_32 rfl ?_
    cases hf
    exact r_ri T5 dX12_ask_33
  · refine r_loc dX12_ask_15 rfl ?_
    refine r_eq0 (q := 32) dX12_ask_16 rfl hf (fun hf => ?_) (fun hf => ?_)
    · refine r_iconst (v := (-1)) dX12_ask_32 rfl ?_
      cases hf
      exact r_ri T5 dX12_ask_33
    · refine r_loc dX12_ask_19 rfl ?_
      refine r_getR dX12_ask_20 fl_12_24 sh_413 (Or.inr ⟨_, rfl⟩) (tp_413_12 T5) ?_
      refine r_loc dX12_ask_23 rfl ?_
      refine r_getI dX12_ask_24 fl_12_244 sh_413 rfl hf (fun v10 hf => ?_)
      refine r_iald dX12_ask_27 sh_417 hf (fun v11 hf => ?_)
      refine r_iconst (v := 2) dX12_ask_28 rfl ?_
      refine r_ge (q := 34) dX12_ask_29 rfl hf (fun hf => ?_) (fun hf => ?_)
      · refine r_iconst (v := 0) dX12_ask_34 rfl ?_
        refine r_loc (L' := [some (.ref 413), some (.int x1), some (.int x2), some (.int v2), some (.int 0), none]) dX12_ask_35 rfl ?_
        refine r_iconst (v := 1) dX12_ask_37 rfl ?_
        refine r_loc (L' := [some (.ref 413), some (.int x1), some (.int x2), some (.int v2), some (.int 0), some (.int 1)]) dX12_ask_38 rfl ?_
        refine r_weak (L := [some (.ref 413), some (.int x1), none, none, some (.int 0), some (.int 1)]) (am_le_s (am_le_s (am_le_n (am_le_n (am_le_s (am_le_s am_le_0)))))) ?_
        refine rl_X12_ask_40 (by omega) x1 _ ?_ 4000 0 1 h4 T5 hf
        · intro z26 h27 T28 hf
          refine r_loc dX12_ask_81 rfl ?_
          refine r_ne0 (q := 90) dX12_ask_82 rfl hf (fun hf => ?_) (fun hf => ?_)
          · refine r_loc dX12_ask_90 rfl ?_
            refine r_loc dX12_ask_91 rfl ?_
            obtain ⟨v30, h32, c29, hf⟩ := cal2_inv hf
            have g34 := rf_X12_mostBy (X := X) (d := d) (by omega) z26 T28 c29
            have T33 : am_TP h32.2.2 := g34.2
            refine r_virt (pre := [.int z26]) (rest := []) dX12_ask_93 ct_12_491 rfl (sh_413) (Nat.le_of_ble_eq_true rfl) (Nat.le_of_ble_eq_true rfl) g34 ?_
            cases hf
            exact r_ri T33 dX12_ask_96
          · refine r_loc dX12_ask_85 rfl ?_
            refine r_goto (q := 96) dX12_ask_87 rfl ?_
            cases hf
            exact r_ri T28 dX12_ask_96
      · refine r_iconst (v := (-1)) dX12_ask_32 rfl ?_
        cases hf
        exact r_ri T5 dX12_ask_33
def lp_X12_image_13 (p1 : Int32) (k_42 : am_H → Option (Int32 × am_H)) : Nat → Int32 → am_H → Option (Int32 × am_H)
  | 0, _, _ => none
  | n + 1, x2, h => if x2 < 59 then rdI h 437 59 x2 fun v4 => wrI h 448 177 (((59 : Int32) * p1) + x2) v4 fun h5 => lp_X12_image_13 p1 k_42 n (x2 + 1) h5 else k_42  h
def f_X12_image (x1 : Int32) (h : am_H) : Option (Int32 × am_H) := cal (f_X12_isIn x1 0 2 h) fun v2 => if v2 = 0 then some ((-1), h) else lp_X12_image_13 x1 (fun h8 => wrI h8 449 3 x1 (vp_nar .boolean 1) fun h10 => rdI h10 437 59 57 fun v13 => some (v13, h10)) 4000 0 h
theorem rl_X12_image_13 {X : am_X} {d : Nat} (hd : 1 ≤ d) (p1 : Int32) (k_42 : am_H → Option (Int32 × am_H)) {r : Int32 × am_H} (hk_42 : ∀ (h : am_H), am_TP h.2.2 → k_42  h = some r → am_G X d 12 false cX12_image (some .int) 42 [some (.ref 413), some (.int p1), none] [] (am_SH, h) (some (.int r.1), (am_SH, r.2))) : ∀ (n : Nat) (x2 : Int32) (h : am_H), am_TP h.2.2 → lp_X12_image_13 p1 k_42 n x2 h = some r → am_G X d 12 false cX12_image (some .int) 13 [some (.ref 413), some (.int p1), some (.int x2)] [] (am_SH, h) (some (.int r.1), (am_SH, r.2)) := by
  obtain ⟨d, rfl⟩ : ∃ e, d = e + 1 := ⟨d - 1, by omega⟩
  intro n
  induction n with
  | zero => intro x2 h T hf; cases hf
  | succ n ih =>
    intro x2 h T hf
    rw [lp_X12_image_13] at hf
    refine r_loc dX12_image_13 rfl ?_
    refine r_bipush (v := 59) dX12_image_14 rfl ?_
    refine r_ge (q := 42) dX12_image_16 rfl hf (fun hf => ?_) (fun hf => ?_)
    · refine r_weak (L := [some (.ref 413), some (.int p1), none]) (am_le_s (am_le_s (am_le_n am_le_0))) ?_
      exact hk_42  h T hf
    · refine r_loc dX12_image_19 rfl ?_
      refine r_getR dX12_image_20 fl_12_122 sh_413 (Or.inr ⟨_, rfl⟩) (tp_413_58 T) ?_
      refine r_bipush (v := 59) dX12_image_23 rfl ?_
      refine r_loc dX12_image_25 rfl ?_
      refine r_alu dX12_image_26 rfl ?_
      refine r_loc dX12_image_27 rfl ?_
      refine r_alu dX12_image_28 rfl ?_
      refine r_loc dX12_image_29 rfl ?_
      refine r_getR dX12_image_30 fl_12_85 sh_413 (Or.inr ⟨_, rfl⟩) (tp_413_40 T) ?_
      refine r_loc dX12_image_33 rfl ?_
      refine r_iald dX12_image_34 sh_437 hf (fun v4 hf => ?_)
      refine r_iast dX12_image_35 sh_448 hf (fun h5 e7 hf => ?_)
      have T6 := tp_eq e7 T
      refine r_loc (L' := [some (.ref 413), some (.int p1), some (.int (x2 + 1))]) dX12_image_36 rfl ?_
      refine r_goto (q := 13) dX12_image_39 rfl ?_
      exact ih (x2 + 1) h5 T6 hf
theorem rf_X12_image {X : am_X} {d : Nat} (hd : 1 ≤ d) (x1 : Int32) {h : am_H} (T : am_TP h.2.2) {r : Int32 × am_H} (hf : f_X12_image x1 h = some r) : am_G X d 12 false cX12_image (some .int) 0 [some (.ref 413), some (.int x1), none] [] (am_SH, h) (some (.int r.1), (am_SH, r.2)) := by
  unfold f_X12_image at hf
  obtain ⟨d, rfl⟩ : ∃ e, d = e + 1 := ⟨d - 1, by omega⟩
  refine r_loc dX12_image_0 rfl ?_
  refine r_iconst (v := 0) dX12_image_1 rfl ?_
  refine r_iconst (v := 2) dX12_image_2 rfl ?_
  obtain ⟨v2, c1, hf⟩ := cal_inv hf
  have g3 := rf_X12_isIn (X := X) (d := d) (by omega) x1 0 2 T c1
  refine r_stat (pre := [.int 2, .int 0, .int x1]) (rest := []) dX12_image_3 ct_12_346 rfl (Nat.le_of_ble_eq_true rfl) (Nat.le_of_ble_eq_true rfl) g3 ?_
  refine r_ne0 (q := 11) dX12_image_6 rfl hf (fun hf => ?_) (fun hf => ?_)
  · refine r_iconst (v := 0) dX12_image_11 rfl ?_
    refine r_loc (L' := [some (.ref 413), some (.int x1), some (.int 0)]) dX12_image_12 rfl ?_
    refine rl_X12_image_13 (by omega) x1 _ ?_ 4000 0 h T hf
    · intro h8 T9 hf
      refine r_loc dX12_image_42 rfl ?_
      refine r_getR dX12_image_43 fl_12_125 sh_413 (Or.inr ⟨_, rfl⟩) (tp_413_59 T9) ?_
      refine r_loc dX12_image_46 rfl ?_
      refine r_iconst (v := 1) dX12_image_47 rfl ?_
      refine r_bast dX12_image_48 sh_449 rfl hf (fun h10 e12 hf => ?_)
      have T11 := tp_eq e12 T9
      refine r_loc dX12_image_49 rfl ?_
      refine r_getR dX12_image_50 fl_12_85 sh_413 (Or.inr ⟨_, rfl⟩) (tp_413_40 T11) ?_
      refine r_bipush (v := 57) dX12_image_53 rfl ?_
      refine r_iald dX12_image_55 sh_437 hf (fun v13 hf => ?_)
      cases hf
      exact r_ri T11 dX12_image_56
  · refine r_iconst (v := (-1)) dX12_image_9 rfl ?_
    cases hf
    exact r_ri T dX12_image_10
def lp_X12_back_22 (p1 : Int32) (k_51 : am_H → Option (Int32 × am_H)) : Nat → Int32 → am_H → Option (Int32 × am_H)
  | 0, _, _ => none
  | n + 1, x2, h => if x2 < 59 then rdI h 448 177 (((59 : Int32) * p1) + x2) fun v5 => wrI h 437 59 x2 v5 fun h6 => lp_X12_back_22 p1 k_51 n (x2 + 1) h6 else k_51  h
def f_X12_back (x1 : Int32) (h : am_H) : Option (Int32 × am_H) := cal (f_X12_isIn x1 0 2 h) fun v2 => if v2 = 0 then some ((-1), h) else rdI h 449 3 x1 fun v4 => if v4 = 0 then some ((-1), h) else lp_X12_back_22 x1 (fun h9 => ptI h9 413 44 0 fun h11 => ptI h11 413 45 0 fun h14 => rdI h14 437 59 57 fun v17 => some (v17, h14)) 4000 0 h
theorem rl_X12_back_22 {X : am_X} {d : Nat} (hd : 1 ≤ d) (p1 : Int32) (k_51 : am_H → Option (Int32 × am_H)) {r : Int32 × am_H} (hk_51 : ∀ (h : am_H), am_TP h.2.2 → k_51  h = some r → am_G X d 12 false cX12_back (some .int) 51 [some (.ref 413), none, none] [] (am_SH, h) (some (.int r.1), (am_SH, r.2))) : ∀ (n : Nat) (x2 : Int32) (h : am_H), am_TP h.2.2 → lp_X12_back_22 p1 k_51 n x2 h = some r → am_G X d 12 false cX12_back (some .int) 22 [some (.ref 413), some (.int p1), some (.int x2)] [] (am_SH, h) (some (.int r.1), (am_SH, r.2)) := by
  obtain ⟨d, rfl⟩ : ∃ e, d = e + 1 := ⟨d - 1, by omega⟩
  intro n
  induction n with
  | zero => intro x2 h T hf; cases hf
  | succ n ih =>
    intro x2 h T hf
    rw [lp_X12_back_22] at hf
    refine r_loc dX12_back_22 rfl ?_
    refine r_bipush (v := 59) dX12_back_23 rfl ?_
    refine r_ge (q := 51) dX12_back_25 rfl hf (fun hf => ?_) (fun hf => ?_)
    · refine r_weak (L := [some (.ref 413), none, none]) (am_le_s (am_le_n (am_le_n am_le_0))) ?_
      exact hk_51  h T hf
    · refine r_loc dX12_back_28 rfl ?_
      refine r_getR dX12_back_29 fl_12_85 sh_413 (Or.inr ⟨_, rfl⟩) (tp_413_40 T) ?_
      refine r_loc dX12_back_32 rfl ?_
      refine r_loc dX12_back_33 rfl ?_
      refine r_getR dX12_back_34 fl_12_122 sh_413 (Or.inr ⟨_, rfl⟩) (tp_413_58 T) ?_
      refine r_bipush (v := 59) dX12_back_37 rfl ?_
      refine r_loc dX12_back_39 rfl ?_
      refine r_alu dX12_back_40 rfl ?_
      refine r_loc dX12_back_41 rfl ?_
      refine r_alu dX12_back_42 rfl ?_
      refine r_iald dX12_back_43 sh_448 hf (fun v5 hf => ?_)
      refine r_iast dX12_back_44 sh_437 hf (fun h6 e8 hf => ?_)
      have T7 := tp_eq e8 T
      refine r_loc (L' := [some (.ref 413), some (.int p1), some (.int (x2 + 1))]) dX12_back_45 rfl ?_
      refine r_goto (q := 22) dX12_back_48 rfl ?_
      exact ih (x2 + 1) h6 T7 hf
theorem rf_X12_back {X : am_X} {d : Nat} (hd : 1 ≤ d) (x1 : Int32) {h : am_H} (T : am_TP h.2.2) {r : Int32 × am_H} (hf : f_X12_back x1 h = some r) : am_G X d 12 false cX12_back (some .int) 0 [some (.ref 413), some (.int x1), none] [] (am_SH, h) (some (.int r.1), (am_SH, r.2)) := by
  unfold f_X12_back at hf
  obtain ⟨d, rfl⟩ : ∃ e, d = e + 1 := ⟨d - 1, by omega⟩
  refine r_loc dX12_back_0 rfl ?_
  refine r_iconst (v := 0) dX12_back_1 rfl ?_
  refine r_iconst (v := 2) dX12_back_2 rfl ?_
  obtain ⟨v2, c1, hf⟩ := cal_inv hf
  have g3 := rf_X12_isIn (X := X) (d := d) (by omega) x1 0 2 T c1
  refine r_stat (pre := [.int 2, .int 0, .int x1]) (rest := []) dX12_back_3 ct_12_346 rfl (Nat.le_of_ble_eq_true rfl) (Nat.le_of_ble_eq_true rfl) g3 ?_
  refine r_eq0 (q := 18) dX12_back_6 rfl hf (fun hf => ?_) (fun hf => ?_)
  · refine r_iconst (v := (-1)) dX12_back_18 rfl ?_
    cases hf
    exact r_ri T dX12_back_19
  · refine r_loc dX12_back_9 rfl ?_
    refine r_getR dX12_back_10 fl_12_125 sh_413 (Or.inr ⟨_, rfl⟩) (tp_413_59 T) ?_
    refine r_loc dX12_back_13 rfl ?_
    refine r_bald dX12_back_14 sh_449 rfl hf (fun v4 hf => ?_)
    refine r_ne0 (q := 20) dX12_back_15 rfl hf (fun hf => ?_) (fun hf => ?_)
    · refine r_iconst (v := 0) dX12_back_20 rfl ?_
      refine r_loc (L' := [some (.ref 413), some (.int x1), some (.int 0)]) dX12_back_21 rfl ?_
      refine rl_X12_back_22 (by omega) x1 _ ?_ 4000 0 h T hf
      · intro h9 T10 hf
        refine r_loc dX12_back_51 rfl ?_
        refine r_iconst (v := 0) dX12_back_52 rfl ?_
        refine r_putI dX12_back_53 fl_12_363 sh_413 ⟨rfl, rfl⟩ hf (fun h11 e13 hf => ?_)
        have T12 := tp_eq e13 T10
        refine r_loc dX12_back_56 rfl ?_
        refine r_iconst (v := 0) dX12_back_57 rfl ?_
        refine r_putI dX12_back_58 fl_12_366 sh_413 ⟨rfl, rfl⟩ hf (fun h14 e16 hf => ?_)
        have T15 := tp_eq e16 T12
        refine r_loc dX12_back_61 rfl ?_
        refine r_getR dX12_back_62 fl_12_85 sh_413 (Or.inr ⟨_, rfl⟩) (tp_413_40 T15) ?_
        refine r_bipush (v := 57) dX12_back_65 rfl ?_
        refine r_iald dX12_back_67 sh_437 hf (fun v17 hf => ?_)
        cases hf
        exact r_ri T15 dX12_back_68
    · refine r_iconst (v := (-1)) dX12_back_18 rfl ?_
      cases hf
      exact r_ri T dX12_back_19
def f_X12_about (x1 : Int32) (h : am_H) : Option (Int32) := if x1 = 0 then cal (f_X12_those h) fun v2 => cal (f_X12_bitsOf v2 h) fun v5 => some v5 else if x1 = 1 then cal (f_X12_chambers h) fun v8 => some v8 else if x1 = 2 then cal (f_X12_those h) fun v11 => some v11 else if x1 = 3 then rdI h 437 59 56 fun v13 => some v13 else if x1 = 4 then rdI h 437 59 57 fun v14 => some v14 else if x1 = 5 then rdI h 437 59 58 fun v15 => some v15 else if x1 = 6 then bnd (h.1 413 44) fun v16 => some v16 else if x1 = 7 then bnd (h.1 413 45) fun v17 => some v17 else if x1 = 8 then bnd (h.1 413 55) fun v18 => some v18 else if x1 = 9 then bnd (h.1 413 56) fun v19 => some v19 else if x1 = 10 then bnd (h.1 413 2) fun v20 => some v20 else if x1 = 11 then bnd (h.1 413 32) fun v21 => rdI h 418 2 v21 fun v22 => some v22 else if x1 = 12 then bnd (h.1 413 47) fun v23 => some v23 else if x1 = 13 then bnd (h.1 413 32) fun v24 => rdI h 419 2 v24 fun v25 => some v25 else if x1 = 14 then bnd (h.1 413 32) fun v26 => rdI h 417 2 v26 fun v27 => some v27 else some (-1)
theorem rf_X12_about {X : am_X} {d : Nat} (hd : 1 ≤ d) (x1 : Int32) {h : am_H} (T : am_TP h.2.2) {r : Int32} (hf : f_X12_about x1 h = some r) : am_G X d 12 false cX12_about (some .int) 0 [some (.ref 413), some (.int x1)] [] (am_SH, h) (some (.int r), (am_SH, h)) := by
  unfold f_X12_about at hf
  obtain ⟨d, rfl⟩ : ∃ e, d = e + 1 := ⟨d - 1, by omega⟩
  refine r_loc dX12_about_0 rfl ?_
  refine r_swc (x := x1) (v := 0) (off := 75) (q := 76) dX12_about_1 rfl rfl hf (fun hf => ?_) (fun n0 hf => ?_)
  · refine r_loc dX12_about_76 rfl ?_
    obtain ⟨v2, c1, hf⟩ := cal_inv hf
    have g3 := rf_X12_those (X := X) (d := d) (by omega) T c1
    refine r_virt (pre := []) (rest := []) dX12_about_77 ct_12_331 rfl (sh_413) (Nat.le_of_ble_eq_true rfl) (Nat.le_of_ble_eq_true rfl) g3 ?_
    obtain ⟨v5, c4, hf⟩ := cal_inv hf
    have g6 := rf_X12_bitsOf (X := X) (d := d) (by omega) v2 T c4
    refine r_stat (pre := [.int v2]) (rest := []) dX12_about_80 ct_12_334 rfl (Nat.le_of_ble_eq_true rfl) (Nat.le_of_ble_eq_true rfl) g6 ?_
    cases hf
    exact r_ri T dX12_about_83
  refine r_swc (x := x1) (v := 1) (off := 83) (q := 84) dX12_about_1 rfl rfl hf (fun hf => ?_) (fun n1 hf => ?_)
  · refine r_loc dX12_about_84 rfl ?_
    obtain ⟨v8, c7, hf⟩ := cal_inv hf
    have g9 := rf_X12_chambers (X := X) (d := d) (by omega) T c7
    refine r_virt (pre := []) (rest := []) dX12_about_85 ct_12_343 rfl (sh_413) (Nat.le_of_ble_eq_true rfl) (Nat.le_of_ble_eq_true rfl) g9 ?_
    cases hf
    exact r_ri T dX12_about_88
  refine r_swc (x := x1) (v := 2) (off := 88) (q := 89) dX12_about_1 rfl rfl hf (fun hf => ?_) (fun n2 hf => ?_)
  · refine r_loc dX12_about_89 rfl ?_
    obtain ⟨v11, c10, hf⟩ := cal_inv hf
    have g12 := rf_X12_those (X := X) (d := d) (by omega) T c10
    refine r_virt (pre := []) (rest := []) dX12_about_90 ct_12_331 rfl (sh_413) (Nat.le_of_ble_eq_true rfl) (Nat.le_of_ble_eq_true rfl) g12 ?_
    cases hf
    exact r_ri T dX12_about_93
  refine r_swc (x := x1) (v := 3) (off := 93) (q := 94) dX12_about_1 rfl rfl hf (fun hf => ?_) (fun n3 hf => ?_)
  · refine r_loc dX12_about_94 rfl ?_
    refine r_getR dX12_about_95 fl_12_85 sh_413 (Or.inr ⟨_, rfl⟩) (tp_413_40 T) ?_
    refine r_bipush (v := 56) dX12_about_98 rfl ?_
    refine r_iald dX12_about_100 sh_437 hf (fun v13 hf => ?_)
    cases hf
    exact r_ri T dX12_about_101
  refine r_swc (x := x1) (v := 4) (off := 101) (q := 102) dX12_about_1 rfl rfl hf (fun hf => ?_) (fun n4 hf => ?_)
  · refine r_loc dX12_about_102 rfl ?_
    refine r_getR dX12_about_103 fl_12_85 sh_413 (Or.inr ⟨_, rfl⟩) (tp_413_40 T) ?_
    refine r_bipush (v := 57) dX12_about_106 rfl ?_
    refine r_iald dX12_about_108 sh_437 hf (fun v14 hf => ?_)
    cases hf
    exact r_ri T dX12_about_109
  refine r_swc (x := x1) (v := 5) (off := 109) (q := 110) dX12_about_1 rfl rfl hf (fun hf => ?_) (fun n5 hf => ?_)
  · refine r_loc dX12_about_110 rfl ?_
    refine r_getR dX12_about_111 fl_12_85 sh_413 (Or.inr ⟨_, rfl⟩) (tp_413_40 T) ?_
    refine r_bipush (v := 58) dX12_about_114 rfl ?_
    refine r_iald dX12_about_116 sh_437 hf (fun v15 hf => ?_)
    cases hf
    exact r_ri T dX12_about_117
  refine r_swc (x := x1) (v := 6) (off := 117) (q := 118) dX12_about_1 rfl rfl hf (fun hf => ?_) (fun n6 hf => ?_)
  · refine r_loc dX12_about_118 rfl ?_
    refine r_getI dX12_about_119 fl_12_363 sh_413 rfl hf (fun v16 hf => ?_)
    cases hf
    exact r_ri T dX12_about_122
  refine r_swc (x := x1) (v := 7) (off := 122) (q := 123) dX12_about_1 rfl rfl hf (fun hf => ?_) (fun n7 hf => ?_)
  · refine r_loc dX12_about_123 rfl ?_
    refine r_getI dX12_about_124 fl_12_366 sh_413 rfl hf (fun v17 hf => ?_)
    cases hf
    exact r_ri T dX12_about_127
  refine r_swc (x := x1) (v := 8) (off := 127) (q := 128) dX12_about_1 rfl rfl hf (fun hf => ?_) (fun n8 hf => ?_)
  · refine r_loc dX12_about_128 rfl ?_
    refine r_getI dX12_about_129 fl_12_369 sh_413 rfl hf (fun v18 hf => ?_)
    cases hf
    exact r_ri T dX12_about_132
  refine r_swc (x := x1) (v := 9) (off := 132) (q := 133) dX12_about_1 rfl rfl hf (fun hf => ?_) (fun n9 hf => ?_)
  · refine r_loc dX12_about_133 rfl ?_
    refine r_getI dX12_about_134 fl_12_475 sh_413 rfl hf (fun v19 hf => ?_)
    cases hf
    exact r_ri T dX12_about_137
  refine r_swc (x := x1) (v := 10) (off := 137) (q := 138) dX12_about_1 rfl rfl hf (fun hf => ?_) (fun n10 hf => ?_)
  · refine r_loc dX12_about_138 rfl ?_
    refine r_getI dX12_about_139 fl_12_241 sh_413 rfl hf (fun v20 hf => ?_)
    cases hf
    exact r_ri T dX12_about_142
  refine r_swc (x := x1) (v := 11) (off := 142) (q := 143) dX12_about_1 rfl rfl hf (fun hf => ?_) (fun n11 hf => ?_)
  · refine r_loc dX12_about_143 rfl ?_
    refine r_getR dX12_about_144 fl_12_27 sh_413 (Or.inr ⟨_, rfl⟩) (tp_413_13 T) ?_
    refine r_loc dX12_about_147 rfl ?_
    refine r_getI dX12_about_148 fl_12_244 sh_413 rfl hf (fun v21 hf => ?_)
    refine r_iald dX12_about_151 sh_418 hf (fun v22 hf => ?_)
    cases hf
    exact r_ri T dX12_about_152
  refine r_swc (x := x1) (v := 12) (off := 152) (q := 153) dX12_about_1 rfl rfl hf (fun hf => ?_) (fun n12 hf => ?_)
  · refine r_loc dX12_about_153 rfl ?_
    refine r_getI dX12_about_154 fl_12_372 sh_413 rfl hf (fun v23 hf => ?_)
    cases hf
    exact r_ri T dX12_about_157
  refine r_swc (x := x1) (v := 13) (off := 157) (q := 158) dX12_about_1 rfl rfl hf (fun hf => ?_) (fun n13 hf => ?_)
  · refine r_loc dX12_about_158 rfl ?_
    refine r_getR dX12_about_159 fl_12_30 sh_413 (Or.inr ⟨_, rfl⟩) (tp_413_14 T) ?_
    refine r_loc dX12_about_162 rfl ?_
    refine r_getI dX12_about_163 fl_12_244 sh_413 rfl hf (fun v24 hf => ?_)
    refine r_iald dX12_about_166 sh_419 hf (fun v25 hf => ?_)
    cases hf
    exact r_ri T dX12_about_167
  refine r_swc (x := x1) (v := 14) (off := 167) (q := 168) dX12_about_1 rfl rfl hf (fun hf => ?_) (fun n14 hf => ?_)
  · refine r_loc dX12_about_168 rfl ?_
    refine r_getR dX12_about_169 fl_12_24 sh_413 (Or.inr ⟨_, rfl⟩) (tp_413_12 T) ?_
    refine r_loc dX12_about_172 rfl ?_
    refine r_getI dX12_about_173 fl_12_244 sh_413 rfl hf (fun v26 hf => ?_)
    refine r_iald dX12_about_176 sh_417 hf (fun v27 hf => ?_)
    cases hf
    exact r_ri T dX12_about_177
  refine r_swdt (q := 178) dX12_about_1 (by decide) ⟨Or.inr n0, Or.inr n1, Or.inr n2, Or.inr n3, Or.inr n4, Or.inr n5, Or.inr n6, Or.inr n7, Or.inr n8, Or.inr n9, Or.inr n10, Or.inr n11, Or.inr n12, Or.inr n13, Or.inr n14, trivial⟩ rfl ?_
  refine r_iconst (v := (-1)) dX12_about_178 rfl ?_
  cases hf
  exact r_ri T dX12_about_179
def jn_X12_feed_71 (k_18 : Int32 → am_H → Option (Int32 × am_H)) (x1 : Int32) (x2 : Int32) (x3 : Int32) (x4 : Int32) (x5 : Int32) (x6 : Int32) (y0 : Int32) (h : am_H) : Option (Int32 × am_H) := bnd (h.1 413 2) fun v2 => wrI h 414 1620 (v2 + x6) (vp_nar .byte ((Int32.toInt8 (y0 >>> (((24 : Int32) - ((8 : Int32) * (x6 &&& 3))) &&& 31))).toInt32)) fun h3 => k_18 (x6 + 1) h3
def lp_X12_feed_18 (p1 : Int32) (p2 : Int32) (p3 : Int32) (p4 : Int32) (p5 : Int32) (k_105 : am_H → Option (Int32 × am_H)) : Nat → Int32 → am_H → Option (Int32 × am_H)
  | 0, _, _ => none
  | n + 1, x6, h => if x6 < 20 then if x6 < 4 then jn_X12_feed_71 (lp_X12_feed_18 p1 p2 p3 p4 p5 k_105 n) p1 p2 p3 p4 p5 x6 p1 h else if x6 < 8 then jn_X12_feed_71 (lp_X12_feed_18 p1 p2 p3 p4 p5 k_105 n) p1 p2 p3 p4 p5 x6 p2 h else if x6 < 12 then jn_X12_feed_71 (lp_X12_feed_18 p1 p2 p3 p4 p5 k_105 n) p1 p2 p3 p4 p5 x6 p3 h else if x6 < 16 then jn_X12_feed_71 (lp_X12_feed_18 p1 p2 p3 p4 p5 k_105 n) p1 p2 p3 p4 p5 x6 p4 h else jn_X12_feed_71 (lp_X12_feed_18 p1 p2 p3 p4 p5 k_105 n) p1 p2 p3 p4 p5 x6 p5 h else k_105  h
def f_X12_feed (x1 : Int32) (x2 : Int32) (x3 : Int32) (x4 : Int32) (x5 : Int32) (h : am_H) : Option (Int32 × am_H) := bnd (h.1 413 2) fun v1 => if 1600 < (v1 + 20) then some ((-1), h) else lp_X12_feed_18 x1 x2 x3 x4 x5 (fun h6 => bnd (h6.1 413 2) fun v8 => ptI h6 413 2 (v8 + 20) fun h9 => bnd (h9.1 413 2) fun v12 => some (v12, h9)) 4000 0 h
theorem rj_X12_feed_71 {X : am_X} {d : Nat} (hd : 0 ≤ d) (k_18 : Int32 → am_H → Option (Int32 × am_H)) (x1 : Int32) (x2 : Int32) (x3 : Int32) (x4 : Int32) (x5 : Int32) (x6 : Int32) (y0 : Int32) {h : am_H} (T : am_TP h.2.2) {r : Int32 × am_H} (hk_18 : ∀ (x6 : Int32) (h : am_H), am_TP h.2.2 → k_18 x6 h = some r → am_G X d 12 false cX12_feed (some .int) 18 [some (.ref 413), some (.int x1), some (.int x2), some (.int x3), some (.int x4), some (.int x5), some (.int x6), none] [] (am_SH, h) (some (.int r.1), (am_SH, r.2))) (hf : jn_X12_feed_71 k_18 x1 x2 x3 x4 x5 x6 y0 h = some r) : am_G X d 12 false cX12_feed (some .int) 71 [some (.ref 413), some (.int x1), some (.int x2), some (.int x3), some (.int x4), some (.int x5), some (.int x6), none] [.int y0] (am_SH, h) (some (.int r.1), (am_SH, r.2)) := by
  unfold jn_X12_feed_71 at hf
  refine r_loc (L' := [some (.ref 413), some (.int x1), some (.int x2), some (.int x3), some (.int x4), some (.int x5), some (.int x6), some (.int y0)]) dX12_feed_71 rfl ?_
  refine r_loc dX12_feed_73 rfl ?_
  refine r_getR dX12_feed_74 fl_12_7 sh_413 (Or.inr ⟨_, rfl⟩) (tp_413_0 T) ?_
  refine r_loc dX12_feed_77 rfl ?_
  refine r_getI dX12_feed_78 fl_12_241 sh_413 rfl hf (fun v2 hf => ?_)
  refine r_loc dX12_feed_81 rfl ?_
  refine r_alu dX12_feed_83 rfl ?_
  refine r_loc dX12_feed_84 rfl ?_
  refine r_bipush (v := 24) dX12_feed_86 rfl ?_
  refine r_bipush (v := 8) dX12_feed_88 rfl ?_
  refine r_loc dX12_feed_90 rfl ?_
  refine r_iconst (v := 3) dX12_feed_92 rfl ?_
  refine r_alu dX12_feed_93 rfl ?_
  refine r_alu dX12_feed_94 rfl ?_
  refine r_alu dX12_feed_95 rfl ?_
  refine r_alu dX12_feed_96 rfl ?_
  refine r_alu dX12_feed_97 rfl ?_
  refine r_bast dX12_feed_98 sh_414 rfl hf (fun h3 e5 hf => ?_)
  have T4 := tp_eq e5 T
  refine r_loc (L' := [some (.ref 413), some (.int x1), some (.int x2), some (.int x3), some (.int x4), some (.int x5), some (.int (x6 + 1)), some (.int y0)]) dX12_feed_99 rfl ?_
  refine r_goto (q := 18) dX12_feed_102 rfl ?_
  refine r_weak (L := [some (.ref 413), some (.int x1), some (.int x2), some (.int x3), some (.int x4), some (.int x5), some (.int (x6 + 1)), none]) (am_le_s (am_le_s (am_le_s (am_le_s (am_le_s (am_le_s (am_le_s (am_le_n am_le_0)))))))) ?_
  exact hk_18 (x6 + 1) h3 T4 hf
theorem rl_X12_feed_18 {X : am_X} {d : Nat} (hd : 0 ≤ d) (p1 : Int32) (p2 : Int32) (p3 : Int32) (p4 : Int32) (p5 : Int32) (k_105 : am_H → Option (Int32 × am_H)) {r : Int32 × am_H} (hk_105 : ∀ (h : am_H), am_TP h.2.2 → k_105  h = some r → am_G X d 12 false cX12_feed (some .int) 105 [some (.ref 413), none, none, none, none, none, none, none] [] (am_SH, h) (some (.int r.1), (am_SH, r.2))) : ∀ (n : Nat) (x6 : Int32) (h : am_H), am_TP h.2.2 → lp_X12_feed_18 p1 p2 p3 p4 p5 k_105 n x6 h = some r → am_G X d 12 false cX12_feed (some .int) 18 [some (.ref 413), some (.int p1), some (.int p2), some (.int p3), some (.int p4), some (.int p5), some (.int x6), none] [] (am_SH, h) (some (.int r.1), (am_SH, r.2)) := by
  intro n
  induction n with
  | zero => intro x6 h T hf; cases hf
  | succ n ih =>
    intro x6 h T hf
    rw [lp_X12_feed_18] at hf
    refine r_loc dX12_feed_18 rfl ?_
    refine r_bipush (v := 20) dX12_feed_20 rfl ?_
    refine r_ge (q := 105) dX12_feed_22 rfl hf (fun hf => ?_) (fun hf => ?_)
    · refine r_weak (L := [some (.ref 413), none, none, none, none, none, none, none]) (am_le_s (am_le_n (am_le_n (am_le_n (am_le_n (am_le_n (am_le_n (am_le_n am_le_0)))))))) ?_
      exact hk_105  h T hf
    · refine r_loc dX12_feed_25 rfl ?_
      refine r_iconst (v := 4) dX12_feed_27 rfl ?_
      refine r_ge (q := 35) dX12_feed_28 rfl hf (fun hf => ?_) (fun hf => ?_)
      · refine r_loc dX12_feed_35 rfl ?_
        refine r_bipush (v := 8) dX12_feed_37 rfl ?_
        refine r_ge (q := 46) dX12_feed_39 rfl hf (fun hf => ?_) (fun hf => ?_)
        · refine r_loc dX12_feed_46 rfl ?_
          refine r_bipush (v := 12) dX12_feed_48 rfl ?_
          refine r_ge (q := 57) dX12_feed_50 rfl hf (fun hf => ?_) (fun hf => ?_)
          · refine r_loc dX12_feed_57 rfl ?_
            refine r_bipush (v := 16) dX12_feed_59 rfl ?_
            refine r_ge (q := 69) dX12_feed_61 rfl hf (fun hf => ?_) (fun hf => ?_)
            · refine r_loc dX12_feed_69 rfl ?_
              exact rj_X12_feed_71 (by omega) (lp_X12_feed_18 p1 p2 p3 p4 p5 k_105 n) p1 p2 p3 p4 p5 x6 p5 T (ih) hf
            · refine r_loc dX12_feed_64 rfl ?_
              refine r_goto (q := 71) dX12_feed_66 rfl ?_
              exact rj_X12_feed_71 (by omega) (lp_X12_feed_18 p1 p2 p3 p4 p5 k_105 n) p1 p2 p3 p4 p5 x6 p4 T (ih) hf
          · refine r_loc dX12_feed_53 rfl ?_
            refine r_goto (q := 71) dX12_feed_54 rfl ?_
            exact rj_X12_feed_71 (by omega) (lp_X12_feed_18 p1 p2 p3 p4 p5 k_105 n) p1 p2 p3 p4 p5 x6 p3 T (ih) hf
        · refine r_loc dX12_feed_42 rfl ?_
          refine r_goto (q := 71) dX12_feed_43 rfl ?_
          exact rj_X12_feed_71 (by omega) (lp_X12_feed_18 p1 p2 p3 p4 p5 k_105 n) p1 p2 p3 p4 p5 x6 p2 T (ih) hf
      · refine r_loc dX12_feed_31 rfl ?_
        refine r_goto (q := 71) dX12_feed_32 rfl ?_
        exact rj_X12_feed_71 (by omega) (lp_X12_feed_18 p1 p2 p3 p4 p5 k_105 n) p1 p2 p3 p4 p5 x6 p1 T (ih) hf
theorem rf_X12_feed {X : am_X} {d : Nat} (hd : 0 ≤ d) (x1 : Int32) (x2 : Int32) (x3 : Int32) (x4 : Int32) (x5 : Int32) {h : am_H} (T : am_TP h.2.2) {r : Int32 × am_H} (hf : f_X12_feed x1 x2 x3 x4 x5 h = some r) : am_G X d 12 false cX12_feed (some .int) 0 [some (.ref 413), some (.int x1), some (.int x2), some (.int x3), some (.int x4), some (.int x5), none, none] [] (am_SH, h) (some (.int r.1), (am_SH, r.2)) := by
  unfold f_X12_feed at hf
  refine r_loc dX12_feed_0 rfl ?_
  refine r_getI dX12_feed_1 fl_12_241 sh_413 rfl hf (fun v1 hf => ?_)
  refine r_bipush (v := 20) dX12_feed_4 rfl ?_
  refine r_alu dX12_feed_6 rfl ?_
  refine r_sipush (v := 1600) dX12_feed_7 rfl ?_
  refine r_le (q := 15) dX12_feed_10 rfl hf (fun hf => ?_) (fun hf => ?_)
  · refine r_iconst (v := 0) dX12_feed_15 rfl ?_
    refine r_loc (L' := [some (.ref 413), some (.int x1), some (.int x2), some (.int x3), some (.int x4), some (.int x5), some (.int 0), none]) dX12_feed_16 rfl ?_
    refine rl_X12_feed_18 (by omega) x1 x2 x3 x4 x5 _ ?_ 4000 0 h T hf
    · intro h6 T7 hf
      refine r_loc dX12_feed_105 rfl ?_
      refine r_alu dX12_feed_106 rfl ?_
      refine r_getI dX12_feed_107 fl_12_241 sh_413 rfl hf (fun v8 hf => ?_)
      refine r_bipush (v := 20) dX12_feed_110 rfl ?_
      refine r_alu dX12_feed_112 rfl ?_
      refine r_putI dX12_feed_113 fl_12_241 sh_413 ⟨rfl, rfl⟩ hf (fun h9 e11 hf => ?_)
      have T10 := tp_eq e11 T7
      refine r_loc dX12_feed_116 rfl ?_
      refine r_getI dX12_feed_117 fl_12_241 sh_413 rfl hf (fun v12 hf => ?_)
      cases hf
      exact r_ri T10 dX12_feed_120
  · refine r_iconst (v := (-1)) dX12_feed_13 rfl ?_
    cases hf
    exact r_ri T dX12_feed_14
def f_X12_end (x1 : Int32) (h : am_H) : Option (Int32 × am_H) := if x1 < 0 then some ((-1), h) else bnd (h.1 413 2) fun v1 => if v1 < x1 then some ((-1), h) else ptI h 413 2 x1 fun h2 => some (x1, h2)
theorem rf_X12_end {X : am_X} {d : Nat} (hd : 0 ≤ d) (x1 : Int32) {h : am_H} (T : am_TP h.2.2) {r : Int32 × am_H} (hf : f_X12_end x1 h = some r) : am_G X d 12 false cX12_end (some .int) 0 [some (.ref 413), some (.int x1)] [] (am_SH, h) (some (.int r.1), (am_SH, r.2)) := by
  unfold f_X12_end at hf
  refine r_loc dX12_end_0 rfl ?_
  refine r_lt0 (q := 12) dX12_end_1 rfl hf (fun hf => ?_) (fun hf => ?_)
  · refine r_iconst (v := (-1)) dX12_end_12 rfl ?_
    cases hf
    exact r_ri T dX12_end_13
  · refine r_loc dX12_end_4 rfl ?_
    refine r_loc dX12_end_5 rfl ?_
    refine r_getI dX12_end_6 fl_12_241 sh_413 rfl hf (fun v1 hf => ?_)
    refine r_le (q := 14) dX12_end_9 rfl hf (fun hf => ?_) (fun hf => ?_)
    · refine r_loc dX12_end_14 rfl ?_
      refine r_loc dX12_end_15 rfl ?_
      refine r_putI dX12_end_16 fl_12_241 sh_413 ⟨rfl, rfl⟩ hf (fun h2 e4 hf => ?_)
      have T3 := tp_eq e4 T
      refine r_loc dX12_end_19 rfl ?_
      cases hf
      exact r_ri T3 dX12_end_20
    · refine r_iconst (v := (-1)) dX12_end_12 rfl ?_
      cases hf
      exact r_ri T dX12_end_13
def lp_L_law_18 (X : am_X) : Nat → Int32 → am_H → Option (Int32 × am_H)
  | 0, _, _ => none
  | n + 1, x3, h => if ((Int32.ofNat X.1) - 6) < x3 then some (1, h) else rdX X x3 fun v1 => if (v1 &&& 63) = 0 then rdX X (x3 + 1) fun v2 => rdX X (x3 + 2) fun v3 => rdX X (x3 + 3) fun v4 => rdX X (x3 + 4) fun v5 => rdX X (x3 + 5) fun v6 => cal2 (f_X11_feed v2 v3 v4 v5 v6 h) fun v8 h10 => rdX X (x3 + 1) fun v13 => rdX X (x3 + 2) fun v14 => rdX X (x3 + 3) fun v15 => rdX X (x3 + 4) fun v16 => rdX X (x3 + 5) fun v17 => cal2 (f_X12_feed v13 v14 v15 v16 v17 h10) fun v19 h21 => if v8 = v19 then lp_L_law_18 X n (x3 + 6) h21 else some (0, h21) else if (v1 &&& 63) = 1 then rdX X (x3 + 1) fun v24 => cal2 (f_X11_end v24 h) fun v26 h28 => rdX X (x3 + 1) fun v31 => cal2 (f_X12_end v31 h28) fun v33 h35 => if v26 = v33 then lp_L_law_18 X n (x3 + 6) h35 else some (0, h35) else if (v1 &&& 63) = 2 then cal2 (f_X11_house h) fun v39 h41 => cal2 (f_X12_house h41) fun v45 h47 => if v39 = v45 then lp_L_law_18 X n (x3 + 6) h47 else some (0, h47) else if (v1 &&& 63) = 3 then rdX X (x3 + 1) fun v50 => cal (f_X11_fault v50 h) fun v52 => rdX X (x3 + 1) fun v54 => cal (f_X12_fault v54 h) fun v56 => if v52 = v56 then lp_L_law_18 X n (x3 + 6) h else some (0, h) else if (v1 &&& 63) = 4 then rdX X (x3 + 1) fun v58 => rdX X (x3 + 2) fun v59 => cal (f_X11_room v58 v59 h) fun v61 => rdX X (x3 + 1) fun v63 => rdX X (x3 + 2) fun v64 => cal (f_X12_room v63 v64 h) fun v66 => if v61 = v66 then lp_L_law_18 X n (x3 + 6) h else some (0, h) else if (v1 &&& 63) = 5 then rdX X (x3 + 1) fun v68 => rdX X (x3 + 2) fun v69 => cal (f_X11_trunk v68 v69 h) fun v71 => rdX X (x3 + 1) fun v73 => rdX X (x3 + 2) fun v74 => cal (f_X12_trunk v73 v74 h) fun v76 => if v71 = v76 then lp_L_law_18 X n (x3 + 6) h else some (0, h) else if (v1 &&& 63) = 6 then rdX X (x3 + 1) fun v78 => rdX X (x3 + 2) fun v79 => cal2 (f_X11_brood v78 v79 h) fun v81 h83 => rdX X (x3 + 1) fun v86 => rdX X (x3 + 2) fun v87 => cal2 (f_X12_brood v86 v87 h83) fun v89 h91 => if v81 = v89 then lp_L_law_18 X n (x3 + 6) h91 else some (0, h91) else if (v1 &&& 63) = 7 then rdX X (x3 + 1) fun v94 => cal (f_X11_couple v94 h) fun v96 => rdX X (x3 + 1) fun v98 => cal (f_X12_couple v98 h) fun v100 => if v96 = v100 then lp_L_law_18 X n (x3 + 6) h else some (0, h) else if (v1 &&& 63) = 8 then cal2 (f_X11_year h) fun v103 h105 => cal2 (f_X12_year h105) fun v109 h111 => if v103 = v109 then lp_L_law_18 X n (x3 + 6) h111 else some (0, h111) else if (v1 &&& 63) = 9 then rdX X (x3 + 1) fun v114 => rdX X (x3 + 2) fun v115 => cal2 (f_X11_carry v114 v115 h) fun v117 h119 => rdX X (x3 + 1) fun v122 => rdX X (x3 + 2) fun v123 => cal2 (f_X12_carry v122 v123 h119) fun v125 h127 => if v117 = v125 then lp_L_law_18 X n (x3 + 6) h127 else some (0, h127) else if (v1 &&& 63) = 10 then rdX X (x3 + 1) fun v130 => cal2 (f_X11_tell v130 h) fun v132 h134 => rdX X (x3 + 1) fun v137 => cal2 (f_X12_tell v137 h134) fun v139 h141 => if v132 = v139 then lp_L_law_18 X n (x3 + 6) h141 else some (0, h141) else if (v1 &&& 63) = 11 then rdX X (x3 + 1) fun v144 => cal2 (f_X11_lose v144 h) fun v146 h148 => rdX X (x3 + 1) fun v151 => cal2 (f_X12_lose v151 h148) fun v153 h155 => if v146 = v153 then lp_L_law_18 X n (x3 + 6) h155 else some (0, h155) else if (v1 &&& 63) = 12 then cal2 (f_X11_undo h) fun v159 h161 => cal2 (f_X12_undo h161) fun v165 h167 => if v159 = v165 then lp_L_law_18 X n (x3 + 6) h167 else some (0, h167) else if (v1 &&& 63) = 13 then cal2 (f_X11_redo h) fun v171 h173 => cal2 (f_X12_redo h173) fun v177 h179 => if v171 = v177 then lp_L_law_18 X n (x3 + 6) h179 else some (0, h179) else if (v1 &&& 63) = 14 then rdX X (x3 + 1) fun v182 => rdX X (x3 + 2) fun v183 => rdX X (x3 + 3) fun v184 => cal2 (f_X11_will v182 v183 v184 h) fun v186 h188 => rdX X (x3 + 1) fun v191 => rdX X (x3 + 2) fun v192 => rdX X (x3 + 3) fun v193 => cal2 (f_X12_will v191 v192 v193 h188) fun v195 h197 => if v186 = v195 then lp_L_law_18 X n (x3 + 6) h197 else some (0, h197) else if (v1 &&& 63) = 15 then rdX X (x3 + 1) fun v200 => cal2 (f_X11_alive v200 h) fun v202 h204 => rdX X (x3 + 1) fun v207 => cal2 (f_X12_alive v207 h204) fun v209 h211 => if v202 = v209 then lp_L_law_18 X n (x3 + 6) h211 else some (0, h211) else if (v1 &&& 63) = 16 then cal2 (f_X11_pack h) fun v215 h217 => cal2 (f_X12_pack h217) fun v221 h223 => if v215 = v221 then lp_L_law_18 X n (x3 + 6) h223 else some (0, h223) else if (v1 &&& 63) = 17 then rdX X (x3 + 1) fun v226 => rdX X (x3 + 2) fun v227 => cal (f_X11_fill v226 v227 h) fun v229 => rdX X (x3 + 1) fun v231 => rdX X (x3 + 2) fun v232 => cal (f_X12_fill v231 v232 h) fun v234 => if v229 = v234 then lp_L_law_18 X n (x3 + 6) h else some (0, h) else if (v1 &&& 63) = 18 then rdX X (x3 + 1) fun v236 => rdX X (x3 + 2) fun v237 => cal (f_X11_sires v236 v237 h) fun v239 => rdX X (x3 + 1) fun v241 => rdX X (x3 + 2) fun v242 => cal (f_X12_sires v241 v242 h) fun v244 => if v239 = v244 then lp_L_law_18 X n (x3 + 6) h else some (0, h) else if (v1 &&& 63) = 19 then rdX X (x3 + 1) fun v246 => rdX X (x3 + 2) fun v247 => rdX X (x3 + 3) fun v248 => rdX X (x3 + 4) fun v249 => rdX X (x3 + 5) fun v250 => cal (f_X11_quartet v246 v247 v248 v249 v250 h) fun v252 => rdX X (x3 + 1) fun v254 => rdX X (x3 + 2) fun v255 => rdX X (x3 + 3) fun v256 => rdX X (x3 + 4) fun v257 => rdX X (x3 + 5) fun v258 => cal (f_X12_quartet v254 v255 v256 v257 v258 h) fun v260 => if v252 = v260 then lp_L_law_18 X n (x3 + 6) h else some (0, h) else if (v1 &&& 63) = 20 then cal (f_X11_span h) fun v263 => cal (f_X12_span h) fun v266 => if v263 = v266 then lp_L_law_18 X n (x3 + 6) h else some (0, h) else if (v1 &&& 63) = 21 then rdX X (x3 + 1) fun v268 => cal (f_X11_line v268 h) fun v270 => rdX X (x3 + 1) fun v272 => cal (f_X12_line v272 h) fun v274 => if v270 = v274 then lp_L_law_18 X n (x3 + 6) h else some (0, h) else if (v1 &&& 63) = 22 then rdX X (x3 + 1) fun v276 => cal (f_X11_litter v276 h) fun v278 => rdX X (x3 + 1) fun v280 => cal (f_X12_litter v280 h) fun v282 => if v278 = v282 then lp_L_law_18 X n (x3 + 6) h else some (0, h) else if (v1 &&& 63) = 23 then rdX X (x3 + 1) fun v284 => rdX X (x3 + 2) fun v285 => cal (f_X11_kin v284 v285 h) fun v287 => rdX X (x3 + 1) fun v289 => rdX X (x3 + 2) fun v290 => cal (f_X12_kin v289 v290 h) fun v292 => if v287 = v292 then lp_L_law_18 X n (x3 + 6) h else some (0, h) else if (v1 &&& 63) = 24 then rdX X (x3 + 1) fun v294 => cal (f_X11_need v294 h) fun v296 => rdX X (x3 + 1) fun v298 => cal (f_X12_need v298 h) fun v300 => if v296 = v300 then lp_L_law_18 X n (x3 + 6) h else some (0, h) else if (v1 &&& 63) = 25 then rdX X (x3 + 1) fun v302 => rdX X (x3 + 2) fun v303 => cal2 (f_X11_best v302 v303 h) fun v305 h307 => rdX X (x3 + 1) fun v310 => rdX X (x3 + 2) fun v311 => cal2 (f_X12_best v310 v311 h307) fun v313 h315 => if v305 = v313 then lp_L_law_18 X n (x3 + 6) h315 else some (0, h315) else if (v1 &&& 63) = 26 then rdX X (x3 + 1) fun v318 => rdX X (x3 + 2) fun v319 => cal2 (f_X11_rivals v318 v319 h) fun v321 h323 => rdX X (x3 + 1) fun v326 => rdX X (x3 + 2) fun v327 => cal2 (f_X12_rivals v326 v327 h323) fun v329 h331 => if v321 = v329 then lp_L_law_18 X n (x3 + 6) h331 else some (0, h331) else if (v1 &&& 63) = 27 then rdX X (x3 + 1) fun v334 => cal2 (f_X11_fading v334 h) fun v336 h338 => rdX X (x3 + 1) fun v341 => cal2 (f_X12_fading v341 h338) fun v343 h345 => if v336 = v343 then lp_L_law_18 X n (x3 + 6) h345 else some (0, h345) else if (v1 &&& 63) = 28 then rdX X (x3 + 1) fun v348 => rdX X (x3 + 2) fun v349 => cal (f_X11_alike v348 v349 h) fun v351 => rdX X (x3 + 1) fun v353 => rdX X (x3 + 2) fun v354 => cal (f_X12_alike v353 v354 h) fun v356 => if v351 = v356 then lp_L_law_18 X n (x3 + 6) h else some (0, h) else if (v1 &&& 63) = 29 then rdX X (x3 + 1) fun v358 => cal (f_X11_like v358 h) fun v360 => rdX X (x3 + 1) fun v362 => cal (f_X12_like v362 h) fun v364 => if v360 = v364 then lp_L_law_18 X n (x3 + 6) h else some (0, h) else if (v1 &&& 63) = 30 then cal (f_X11_odd h) fun v367 => cal (f_X12_odd h) fun v370 => if v367 = v370 then lp_L_law_18 X n (x3 + 6) h else some (0, h) else if (v1 &&& 63) = 31 then rdX X (x3 + 1) fun v372 => cal (f_X11_bearers v372 h) fun v374 => rdX X (x3 + 1) fun v376 => cal (f_X12_bearers v376 h) fun v378 => if v374 = v378 then lp_L_law_18 X n (x3 + 6) h else some (0, h) else if (v1 &&& 63) = 32 then cal (f_X11_roomiest h) fun v381 => cal (f_X12_roomiest h) fun v384 => if v381 = v384 then lp_L_law_18 X n (x3 + 6) h else some (0, h) else if (v1 &&& 63) = 33 then cal2 (f_X11_ripe h) fun v387 h389 => cal2 (f_X12_ripe h389) fun v393 h395 => if v387 = v393 then lp_L_law_18 X n (x3 + 6) h395 else some (0, h395) else if (v1 &&& 63) = 34 then rdX X (x3 + 1) fun v398 => rdX X (x3 + 2) fun v399 => cal2 (f_X11_law v398 v399 h) fun v401 h403 => rdX X (x3 + 1) fun v406 => rdX X (x3 + 2) fun v407 => cal2 (f_X12_law v406 v407 h403) fun v409 h411 => if v401 = v409 then lp_L_law_18 X n (x3 + 6) h411 else some (0, h411) else if (v1 &&& 63) = 35 then cal (f_X11_pining h) fun v415 => cal (f_X12_pining h) fun v418 => if v415 = v418 then lp_L_law_18 X n (x3 + 6) h else some (0, h) else if (v1 &&& 63) = 36 then rdX X (x3 + 1) fun v420 => cal2 (f_X11_gone v420 h) fun v422 h424 => rdX X (x3 + 1) fun v427 => cal2 (f_X12_gone v427 h424) fun v429 h431 => if v422 = v429 then lp_L_law_18 X n (x3 + 6) h431 else some (0, h431) else if (v1 &&& 63) = 37 then rdX X (x3 + 1) fun v434 => cal (f_X11_lies v434 h) fun v436 => rdX X (x3 + 1) fun v438 => cal (f_X12_lies v438 h) fun v440 => if v436 = v440 then lp_L_law_18 X n (x3 + 6) h else some (0, h) else if (v1 &&& 63) = 38 then rdX X (x3 + 1) fun v442 => rdX X (x3 + 2) fun v443 => rdX X (x3 + 3) fun v444 => if v444 = 0 then cal2 (f_X11_held v442 v443 0 h) fun v446 h448 => rdX X (x3 + 1) fun v451 => rdX X (x3 + 2) fun v452 => rdX X (x3 + 3) fun v453 => if v453 = 0 then cal2 (f_X12_held v451 v452 0 h448) fun v455 h457 => if v446 = v455 then lp_L_law_18 X n (x3 + 6) h457 else some (0, h457) else cal2 (f_X12_held v451 v452 1 h448) fun v461 h463 => if v446 = v461 then lp_L_law_18 X n (x3 + 6) h463 else some (0, h463) else cal2 (f_X11_held v442 v443 1 h) fun v467 h469 => rdX X (x3 + 1) fun v472 => rdX X (x3 + 2) fun v473 => rdX X (x3 + 3) fun v474 => if v474 = 0 then cal2 (f_X12_held v472 v473 0 h469) fun v476 h478 => if v467 = v476 then lp_L_law_18 X n (x3 + 6) h478 else some (0, h478) else cal2 (f_X12_held v472 v473 1 h469) fun v482 h484 => if v467 = v482 then lp_L_law_18 X n (x3 + 6) h484 else some (0, h484) else if (v1 &&& 63) = 39 then rdX X (x3 + 1) fun v487 => cal2 (f_X11_untell v487 h) fun v489 h491 => rdX X (x3 + 1) fun v494 => cal2 (f_X12_untell v494 h491) fun v496 h498 => if v489 = v496 then lp_L_law_18 X n (x3 + 6) h498 else some (0, h498) else if (v1 &&& 63) = 40 then rdX X (x3 + 1) fun v501 => cal2 (f_X11_later v501 h) fun v503 h505 => rdX X (x3 + 1) fun v508 => cal2 (f_X12_later v508 h505) fun v510 h512 => if v503 = v510 then lp_L_law_18 X n (x3 + 6) h512 else some (0, h512) else if (v1 &&& 63) = 41 then rdX X (x3 + 1) fun v515 => cal (f_X11_fits v515 h) fun v517 => rdX X (x3 + 1) fun v519 => cal2 (f_X12_fits v519 h) fun v521 h523 => if v517 = v521 then lp_L_law_18 X n (x3 + 6) h523 else some (0, h523) else if (v1 &&& 63) = 42 then rdX X (x3 + 1) fun v526 => rdX X (x3 + 2) fun v527 => cal (f_X11_sure v526 v527 h) fun v529 => rdX X (x3 + 1) fun v531 => rdX X (x3 + 2) fun v532 => cal2 (f_X12_sure v531 v532 h) fun v534 h536 => if v529 = v534 then lp_L_law_18 X n (x3 + 6) h536 else some (0, h536) else if (v1 &&& 63) = 43 then rdX X (x3 + 1) fun v539 => rdX X (x3 + 2) fun v540 => cal2 (f_X11_ask v539 v540 h) fun v542 h544 => rdX X (x3 + 1) fun v547 => rdX X (x3 + 2) fun v548 => cal2 (f_X12_ask v547 v548 h544) fun v550 h552 => if v542 = v550 then lp_L_law_18 X n (x3 + 6) h552 else some (0, h552) else if (v1 &&& 63) = 44 then rdX X (x3 + 1) fun v555 => cal2 (f_X11_image v555 h) fun v557 h559 => rdX X (x3 + 1) fun v562 => cal2 (f_X12_image v562 h559) fun v564 h566 => if v557 = v564 then lp_L_law_18 X n (x3 + 6) h566 else some (0, h566) else if (v1 &&& 63) = 45 then rdX X (x3 + 1) fun v569 => cal2 (f_X11_back v569 h) fun v571 h573 => rdX X (x3 + 1) fun v576 => cal2 (f_X12_back v576 h573) fun v578 h580 => if v571 = v578 then lp_L_law_18 X n (x3 + 6) h580 else some (0, h580) else if (v1 &&& 63) = 46 then rdX X (x3 + 1) fun v583 => cal (f_X11_about v583 h) fun v585 => rdX X (x3 + 1) fun v587 => cal (f_X12_about v587 h) fun v589 => if v585 = v589 then lp_L_law_18 X n (x3 + 6) h else some (0, h) else lp_L_law_18 X n (x3 + 6) h
def f_L_law (X : am_X) (h : am_H) : Option (Int32 × am_H) := lp_L_law_18 X  4000 0 h
theorem rl_L_law_18 {X : am_X} {d : Nat} (hd : 209 ≤ d) {r : Int32 × am_H} : ∀ (n : Nat) (x3 : Int32) (h : am_H), am_TP h.2.2 → lp_L_law_18 X n x3 h = some r → am_G X d 13 false cL_law (some .boolean) 18 [some (.retAddr 0), some (.ref 0), some (.ref 413), some (.int x3)] [] (am_SH, h) (some (.int r.1), (am_SH, r.2)) := by
  obtain ⟨d, rfl⟩ : ∃ e, d = e + 1 := ⟨d - 1, by omega⟩
  intro n
  induction n with
  | zero => intro x3 h T hf; cases hf
  | succ n ih =>
    intro x3 h T hf
    rw [lp_L_law_18] at hf
    refine r_loc dL_law_18 rfl ?_
    refine r_loc dL_law_19 rfl ?_
    refine r_slen dL_law_20 ?_
    refine r_bipush (v := 6) dL_law_21 rfl ?_
    refine r_alu dL_law_23 rfl ?_
    refine r_gt (q := 1489) dL_law_24 rfl hf (fun hf => ?_) (fun hf => ?_)
    · refine r_iconst (v := 1) dL_law_1489 rfl ?_
      cases hf
      exact r_z1 T dL_law_1490
    · refine r_loc dL_law_27 rfl ?_
      refine r_loc dL_law_28 rfl ?_
      refine r_sld dL_law_29 hf (fun v1 hf => ?_)
      refine r_bipush (v := 63) dL_law_30 rfl ?_
      refine r_alu dL_law_32 rfl ?_
      refine r_swc (x := (v1 &&& 63)) (v := 0) (off := 203) (q := 236) dL_law_33 rfl rfl hf (fun hf => ?_) (fun n0 hf => ?_)
      · refine r_loc dL_law_236 rfl ?_
        refine r_loc dL_law_237 rfl ?_
        refine r_loc dL_law_238 rfl ?_
        refine r_iconst (v := 1) dL_law_239 rfl ?_
        refine r_alu dL_law_240 rfl ?_
        refine r_sld dL_law_241 hf (fun v2 hf => ?_)
        refine r_loc dL_law_242 rfl ?_
        refine r_loc dL_law_243 rfl ?_
        refine r_iconst (v := 2) dL_law_244 rfl ?_
        refine r_alu dL_law_245 rfl ?_
        refine r_sld dL_law_246 hf (fun v3 hf => ?_)
        refine r_loc dL_law_247 rfl ?_
        refine r_loc dL_law_248 rfl ?_
        refine r_iconst (v := 3) dL_law_249 rfl ?_
        refine r_alu dL_law_250 rfl ?_
        refine r_sld dL_law_251 hf (fun v4 hf => ?_)
        refine r_loc dL_law_252 rfl ?_
        refine r_loc dL_law_253 rfl ?_
        refine r_iconst (v := 4) dL_law_254 rfl ?_
        refine r_alu dL_law_255 rfl ?_
        refine r_sld dL_law_256 hf (fun v5 hf => ?_)
        refine r_loc dL_law_257 rfl ?_
        refine r_loc dL_law_258 rfl ?_
        refine r_iconst (v := 5) dL_law_259 rfl ?_
        refine r_alu dL_law_260 rfl ?_
        refine r_sld dL_law_261 hf (fun v6 hf => ?_)
        obtain ⟨v8, h10, c7, hf⟩ := cal2_inv hf
        have g12 := rf_X11_feed (X := X) (d := d) (by omega) v2 v3 v4 v5 v6 T c7
        have T11 : am_TP h10.2.2 := g12.2
        refine r_virt (pre := [.int v6, .int v5, .int v4, .int v3, .int v2]) (rest := []) dL_law_262 ct_13_13 rfl (sh_0) (Nat.le_of_ble_eq_true rfl) (Nat.le_of_ble_eq_true rfl) g12 ?_
        refine r_loc dL_law_265 rfl ?_
        refine r_loc dL_law_266 rfl ?_
        refine r_loc dL_law_267 rfl ?_
        refine r_iconst (v := 1) dL_law_268 rfl ?_
        refine r_alu dL_law_269 rfl ?_
        refine r_sld dL_law_270 hf (fun v13 hf => ?_)
        refine r_loc dL_law_271 rfl ?_
        refine r_loc dL_law_272 rfl ?_
        refine r_iconst (v := 2) dL_law_273 rfl ?_
        refine r_alu dL_law_274 rfl ?_
        refine r_sld dL_law_275 hf (fun v14 hf => ?_)
        refine r_loc dL_law_276 rfl ?_
        refine r_loc dL_law_277 rfl ?_
        refine r_iconst (v := 3) dL_law_278 rfl ?_
        refine r_alu dL_law_279 rfl ?_
        refine r_sld dL_law_280 hf (fun v15 hf => ?_)
        refine r_loc dL_law_281 rfl ?_
        refine r_loc dL_law_282 rfl ?_
        refine r_iconst (v := 4) dL_law_283 rfl ?_
        refine r_alu dL_law_284 rfl ?_
        refine r_sld dL_law_285 hf (fun v16 hf => ?_)
        refine r_loc dL_law_286 rfl ?_
        refine r_loc dL_law_287 rfl ?_
        refine r_iconst (v := 5) dL_law_288 rfl ?_
        refine r_alu dL_law_289 rfl ?_
        refine r_sld dL_law_290 hf (fun v17 hf => ?_)
        obtain ⟨v19, h21, c18, hf⟩ := cal2_inv hf
        have g23 := rf_X12_feed (X := X) (d := d) (by omega) v13 v14 v15 v16 v17 T11 c18
        have T22 : am_TP h21.2.2 := g23.2
        refine r_virt (pre := [.int v17, .int v16, .int v15, .int v14, .int v13]) (rest := [.int v8]) dL_law_291 ct_13_17 rfl (sh_413) (Nat.le_of_ble_eq_true rfl) (Nat.le_of_ble_eq_true rfl) g23 ?_
        refine r_eq (q := 1483) dL_law_294 rfl hf (fun hf => ?_) (fun hf => ?_)
        · refine r_loc (L' := [some (.retAddr 0), some (.ref 0), some (.ref 413), some (.int (x3 + 6))]) dL_law_1483 rfl ?_
          refine r_goto (q := 18) dL_law_1486 rfl ?_
          exact ih (x3 + 6) h21 T22 hf
        · refine r_iconst (v := 0) dL_law_297 rfl ?_
          cases hf
          exact r_z0 T22 dL_law_298
      refine r_swc (x := (v1 &&& 63)) (v := 1) (off := 266) (q := 299) dL_law_33 rfl rfl hf (fun hf => ?_) (fun n1 hf => ?_)
      · refine r_loc dL_law_299 rfl ?_
        refine r_loc dL_law_300 rfl ?_
        refine r_loc dL_law_301 rfl ?_
        refine r_iconst (v := 1) dL_law_302 rfl ?_
        refine r_alu dL_law_303 rfl ?_
        refine r_sld dL_law_304 hf (fun v24 hf => ?_)
        obtain ⟨v26, h28, c25, hf⟩ := cal2_inv hf
        have g30 := rf_X11_end (X := X) (d := d) (by omega) v24 T c25
        have T29 : am_TP h28.2.2 := g30.2
        refine r_virt (pre := [.int v24]) (rest := []) dL_law_305 ct_13_18 rfl (sh_0) (Nat.le_of_ble_eq_true rfl) (Nat.le_of_ble_eq_true rfl) g30 ?_
        refine r_loc dL_law_308 rfl ?_
        refine r_loc dL_law_309 rfl ?_
        refine r_loc dL_law_310 rfl ?_
        refine r_iconst (v := 1) dL_law_311 rfl ?_
        refine r_alu dL_law_312 rfl ?_
        refine r_sld dL_law_313 hf (fun v31 hf => ?_)
        obtain ⟨v33, h35, c32, hf⟩ := cal2_inv hf
        have g37 := rf_X12_end (X := X) (d := d) (by omega) v31 T29 c32
        have T36 : am_TP h35.2.2 := g37.2
        refine r_virt (pre := [.int v31]) (rest := [.int v26]) dL_law_314 ct_13_22 rfl (sh_413) (Nat.le_of_ble_eq_true rfl) (Nat.le_of_ble_eq_true rfl) g37 ?_
        refine r_eq (q := 1483) dL_law_317 rfl hf (fun hf => ?_) (fun hf => ?_)
        · refine r_loc (L' := [some (.retAddr 0), some (.ref 0), some (.ref 413), some (.int (x3 + 6))]) dL_law_1483 rfl ?_
          refine r_goto (q := 18) dL_law_1486 rfl ?_
          exact ih (x3 + 6) h35 T36 hf
        · refine r_iconst (v := 0) dL_law_320 rfl ?_
          cases hf
          exact r_z0 T36 dL_law_321
      refine r_swc (x := (v1 &&& 63)) (v := 2) (off := 289) (q := 322) dL_law_33 rfl rfl hf (fun hf => ?_) (fun n2 hf => ?_)
      · refine r_loc dL_law_322 rfl ?_
        obtain ⟨v39, h41, c38, hf⟩ := cal2_inv hf
        have g43 := rf_X11_house (X := X) (d := d) (by omega) T c38
        have T42 : am_TP h41.2.2 := g43.2
        refine r_virt (pre := []) (rest := []) dL_law_323 ct_13_23 rfl (sh_0) (Nat.le_of_ble_eq_true rfl) (Nat.le_of_ble_eq_true rfl) g43 ?_
        refine r_loc dL_law_326 rfl ?_
        obtain ⟨v45, h47, c44, hf⟩ := cal2_inv hf
        have g49 := rf_X12_house (X := X) (d := d) (by omega) T42 c44
        have T48 : am_TP h47.2.2 := g49.2
        refine r_virt (pre := []) (rest := [.int v39]) dL_law_327 ct_13_27 rfl (sh_413) (Nat.le_of_ble_eq_true rfl) (Nat.le_of_ble_eq_true rfl) g49 ?_
        refine r_eq (q := 1483) dL_law_330 rfl hf (fun hf => ?_) (fun hf => ?_)
        · refine r_loc (L' := [some (.retAddr 0), some (.ref 0), some (.ref 413), some (.int (x3 + 6))]) dL_law_1483 rfl ?_
          refine r_goto (q := 18) dL_law_1486 rfl ?_
          exact ih (x3 + 6) h47 T48 hf
        · refine r_iconst (v := 0) dL_law_333 rfl ?_
          cases hf
          exact r_z0 T48 dL_law_334
      refine r_swc (x := (v1 &&& 63)) (v := 3) (off := 302) (q := 335) dL_law_33 rfl rfl hf (fun hf => ?_) (fun n3 hf => ?_)
      · refine r_loc dL_law_335 rfl ?_
        refine r_loc dL_law_336 rfl ?_
        refine r_loc dL_law_337 rfl ?_
        refine r_iconst (v := 1) dL_law_338 rfl ?_
        refine r_alu dL_law_339 rfl ?_
        refine r_sld dL_law_340 hf (fun v50 hf => ?_)
        obtain ⟨v52, c51, hf⟩ := cal_inv hf
        have g53 := rf_X11_fault (X := X) (d := d) (by omega) v50 T c51
        refine r_virt (pre := [.int v50]) (rest := []) dL_law_341 ct_13_28 rfl (sh_0) (Nat.le_of_ble_eq_true rfl) (Nat.le_of_ble_eq_true rfl) g53 ?_
        refine r_loc dL_law_344 rfl ?_
        refine r_loc dL_law_345 rfl ?_
        refine r_loc dL_law_346 rfl ?_
        refine r_iconst (v := 1) dL_law_347 rfl ?_
        refine r_alu dL_law_348 rfl ?_
        refine r_sld dL_law_349 hf (fun v54 hf => ?_)
        obtain ⟨v56, c55, hf⟩ := cal_inv hf
        have g57 := rf_X12_fault (X := X) (d := d) (by omega) v54 T c55
        refine r_virt (pre := [.int v54]) (rest := [.int v52]) dL_law_350 ct_13_31 rfl (sh_413) (Nat.le_of_ble_eq_true rfl) (Nat.le_of_ble_eq_true rfl) g57 ?_
        refine r_eq (q := 1483) dL_law_353 rfl hf (fun hf => ?_) (fun hf => ?_)
        · refine r_loc (L' := [some (.retAddr 0), some (.ref 0), some (.ref 413), some (.int (x3 + 6))]) dL_law_1483 rfl ?_
          refine r_goto (q := 18) dL_law_1486 rfl ?_
          exact ih (x3 + 6) h T hf
        · refine r_iconst (v := 0) dL_law_356 rfl ?_
          cases hf
          exact r_z0 T dL_law_357
      refine r_swc (x := (v1 &&& 63)) (v := 4) (off := 325) (q := 358) dL_law_33 rfl rfl hf (fun hf => ?_) (fun n4 hf => ?_)
      · refine r_loc dL_law_358 rfl ?_
        refine r_loc dL_law_359 rfl ?_
        refine r_loc dL_law_360 rfl ?_
        refine r_iconst (v := 1) dL_law_361 rfl ?_
        refine r_alu dL_law_362 rfl ?_
        refine r_sld dL_law_363 hf (fun v58 hf => ?_)
        refine r_loc dL_law_364 rfl ?_
        refine r_loc dL_law_365 rfl ?_
        refine r_iconst (v := 2) dL_law_366 rfl ?_
        refine r_alu dL_law_367 rfl ?_
        refine r_sld dL_law_368 hf (fun v59 hf => ?_)
        obtain ⟨v61, c60, hf⟩ := cal_inv hf
        have g62 := rf_X11_room (X := X) (d := d) (by omega) v58 v59 T c60
        refine r_virt (pre := [.int v59, .int v58]) (rest := []) dL_law_369 ct_13_32 rfl (sh_0) (Nat.le_of_ble_eq_true rfl) (Nat.le_of_ble_eq_true rfl) g62 ?_
        refine r_loc dL_law_372 rfl ?_
        refine r_loc dL_law_373 rfl ?_
        refine r_loc dL_law_374 rfl ?_
        refine r_iconst (v := 1) dL_law_375 rfl ?_
        refine r_alu dL_law_376 rfl ?_
        refine r_sld dL_law_377 hf (fun v63 hf => ?_)
        refine r_loc dL_law_378 rfl ?_
        refine r_loc dL_law_379 rfl ?_
        refine r_iconst (v := 2) dL_law_380 rfl ?_
        refine r_alu dL_law_381 rfl ?_
        refine r_sld dL_law_382 hf (fun v64 hf => ?_)
        obtain ⟨v66, c65, hf⟩ := cal_inv hf
        have g67 := rf_X12_room (X := X) (d := d) (by omega) v63 v64 T c65
        refine r_virt (pre := [.int v64, .int v63]) (rest := [.int v61]) dL_law_383 ct_13_36 rfl (sh_413) (Nat.le_of_ble_eq_true rfl) (Nat.le_of_ble_eq_true rfl) g67 ?_
        refine r_eq (q := 1483) dL_law_386 rfl hf (fun hf => ?_) (fun hf => ?_)
        · refine r_loc (L' := [some (.retAddr 0), some (.ref 0), some (.ref 413), some (.int (x3 + 6))]) dL_law_1483 rfl ?_
          refine r_goto (q := 18) dL_law_1486 rfl ?_
          exact ih (x3 + 6) h T hf
        · refine r_iconst (v := 0) dL_law_389 rfl ?_
          cases hf
          exact r_z0 T dL_law_390
      refine r_swc (x := (v1 &&& 63)) (v := 5) (off := 358) (q := 391) dL_law_33 rfl rfl hf (fun hf => ?_) (fun n5 hf => ?_)
      · refine r_loc dL_law_391 rfl ?_
        refine r_loc dL_law_392 rfl ?_
        refine r_loc dL_law_393 rfl ?_
        refine r_iconst (v := 1) dL_law_394 rfl ?_
        refine r_alu dL_law_395 rfl ?_
        refine r_sld dL_law_396 hf (fun v68 hf => ?_)
        refine r_loc dL_law_397 rfl ?_
        refine r_loc dL_law_398 rfl ?_
        refine r_iconst (v := 2) dL_law_399 rfl ?_
        refine r_alu dL_law_400 rfl ?_
        refine r_sld dL_law_401 hf (fun v69 hf => ?_)
        obtain ⟨v71, c70, hf⟩ := cal_inv hf
        have g72 := rf_X11_trunk (X := X) (d := d) (by omega) v68 v69 T c70
        refine r_virt (pre := [.int v69, .int v68]) (rest := []) dL_law_402 ct_13_37 rfl (sh_0) (Nat.le_of_ble_eq_true rfl) (Nat.le_of_ble_eq_true rfl) g72 ?_
        refine r_loc dL_law_405 rfl ?_
        refine r_loc dL_law_406 rfl ?_
        refine r_loc dL_law_407 rfl ?_
        refine r_iconst (v := 1) dL_law_408 rfl ?_
        refine r_alu dL_law_409 rfl ?_
        refine r_sld dL_law_410 hf (fun v73 hf => ?_)
        refine r_loc dL_law_411 rfl ?_
        refine r_loc dL_law_412 rfl ?_
        refine r_iconst (v := 2) dL_law_413 rfl ?_
        refine r_alu dL_law_414 rfl ?_
        refine r_sld dL_law_415 hf (fun v74 hf => ?_)
        obtain ⟨v76, c75, hf⟩ := cal_inv hf
        have g77 := rf_X12_trunk (X := X) (d := d) (by omega) v73 v74 T c75
        refine r_virt (pre := [.int v74, .int v73]) (rest := [.int v71]) dL_law_416 ct_13_40 rfl (sh_413) (Nat.le_of_ble_eq_true rfl) (Nat.le_of_ble_eq_true rfl) g77 ?_
        refine r_eq (q := 1483) dL_law_419 rfl hf (fun hf => ?_) (fun hf => ?_)
        · refine r_loc (L' := [some (.retAddr 0), some (.ref 0), some (.ref 413), some (.int (x3 + 6))]) dL_law_1483 rfl ?_
          refine r_goto (q := 18) dL_law_1486 rfl ?_
          exact ih (x3 + 6) h T hf
        · refine r_iconst (v := 0) dL_law_422 rfl ?_
          cases hf
          exact r_z0 T dL_law_423
      refine r_swc (x := (v1 &&& 63)) (v := 6) (off := 391) (q := 424) dL_law_33 rfl rfl hf (fun hf => ?_) (fun n6 hf => ?_)
      · refine r_loc dL_law_424 rfl ?_
        refine r_loc dL_law_425 rfl ?_
        refine r_loc dL_law_426 rfl ?_
        refine r_iconst (v := 1) dL_law_427 rfl ?_
        refine r_alu dL_law_428 rfl ?_
        refine r_sld dL_law_429 hf (fun v78 hf => ?_)
        refine r_loc dL_law_430 rfl ?_
        refine r_loc dL_law_431 rfl ?_
        refine r_iconst (v := 2) dL_law_432 rfl ?_
        refine r_alu dL_law_433 rfl ?_
        refine r_sld dL_law_434 hf (fun v79 hf => ?_)
        obtain ⟨v81, h83, c80, hf⟩ := cal2_inv hf
        have g85 := rf_X11_brood (X := X) (d := d) (by omega) v78 v79 T c80
        have T84 : am_TP h83.2.2 := g85.2
        refine r_virt (pre := [.int v79, .int v78]) (rest := []) dL_law_435 ct_13_41 rfl (sh_0) (Nat.le_of_ble_eq_true rfl) (Nat.le_of_ble_eq_true rfl) g85 ?_
        refine r_loc dL_law_438 rfl ?_
        refine r_loc dL_law_439 rfl ?_
        refine r_loc dL_law_440 rfl ?_
        refine r_iconst (v := 1) dL_law_441 rfl ?_
        refine r_alu dL_law_442 rfl ?_
        refine r_sld dL_law_443 hf (fun v86 hf => ?_)
        refine r_loc dL_law_444 rfl ?_
        refine r_loc dL_law_445 rfl ?_
        refine r_iconst (v := 2) dL_law_446 rfl ?_
        refine r_alu dL_law_447 rfl ?_
        refine r_sld dL_law_448 hf (fun v87 hf => ?_)
        obtain ⟨v89, h91, c88, hf⟩ := cal2_inv hf
        have g93 := rf_X12_brood (X := X) (d := d) (by omega) v86 v87 T84 c88
        have T92 : am_TP h91.2.2 := g93.2
        refine r_virt (pre := [.int v87, .int v86]) (rest := [.int v81]) dL_law_449 ct_13_44 rfl (sh_413) (Nat.le_of_ble_eq_true rfl) (Nat.le_of_ble_eq_true rfl) g93 ?_
        refine r_eq (q := 1483) dL_law_452 rfl hf (fun hf => ?_) (fun hf => ?_)
        · refine r_loc (L' := [some (.retAddr 0), some (.ref 0), some (.ref 413), some (.int (x3 + 6))]) dL_law_1483 rfl ?_
          refine r_goto (q := 18) dL_law_1486 rfl ?_
          exact ih (x3 + 6) h91 T92 hf
        · refine r_iconst (v := 0) dL_law_455 rfl ?_
          cases hf
          exact r_z0 T92 dL_law_456
      refine r_swc (x := (v1 &&& 63)) (v := 7) (off := 424) (q := 457) dL_law_33 rfl rfl hf (fun hf => ?_) (fun n7 hf => ?_)
      · refine r_loc dL_law_457 rfl ?_
        refine r_loc dL_law_458 rfl ?_
        refine r_loc dL_law_459 rfl ?_
        refine r_iconst (v := 1) dL_law_460 rfl ?_
        refine r_alu dL_law_461 rfl ?_
        refine r_sld dL_law_462 hf (fun v94 hf => ?_)
        obtain ⟨v96, c95, hf⟩ := cal_inv hf
        have g97 := rf_X11_couple (X := X) (d := d) (by omega) v94 T c95
        refine r_virt (pre := [.int v94]) (rest := []) dL_law_463 ct_13_45 rfl (sh_0) (Nat.le_of_ble_eq_true rfl) (Nat.le_of_ble_eq_true rfl) g97 ?_
        refine r_loc dL_law_466 rfl ?_
        refine r_loc dL_law_467 rfl ?_
        refine r_loc dL_law_468 rfl ?_
        refine r_iconst (v := 1) dL_law_469 rfl ?_
        refine r_alu dL_law_470 rfl ?_
        refine r_sld dL_law_471 hf (fun v98 hf => ?_)
        obtain ⟨v100, c99, hf⟩ := cal_inv hf
        have g101 := rf_X12_couple (X := X) (d := d) (by omega) v98 T c99
        refine r_virt (pre := [.int v98]) (rest := [.int v96]) dL_law_472 ct_13_48 rfl (sh_413) (Nat.le_of_ble_eq_true rfl) (Nat.le_of_ble_eq_true rfl) g101 ?_
        refine r_eq (q := 1483) dL_law_475 rfl hf (fun hf => ?_) (fun hf => ?_)
        · refine r_loc (L' := [some (.retAddr 0), some (.ref 0), some (.ref 413), some (.int (x3 + 6))]) dL_law_1483 rfl ?_
          refine r_goto (q := 18) dL_law_1486 rfl ?_
          exact ih (x3 + 6) h T hf
        · refine r_iconst (v := 0) dL_law_478 rfl ?_
          cases hf
          exact r_z0 T dL_law_479
      refine r_swc (x := (v1 &&& 63)) (v := 8) (off := 447) (q := 480) dL_law_33 rfl rfl hf (fun hf => ?_) (fun n8 hf => ?_)
      · refine r_loc dL_law_480 rfl ?_
        obtain ⟨v103, h105, c102, hf⟩ := cal2_inv hf
        have g107 := rf_X11_year (X := X) (d := d) (by omega) T c102
        have T106 : am_TP h105.2.2 := g107.2
        refine r_virt (pre := []) (rest := []) dL_law_481 ct_13_49 rfl (sh_0) (Nat.le_of_ble_eq_true rfl) (Nat.le_of_ble_eq_true rfl) g107 ?_
        refine r_loc dL_law_484 rfl ?_
        obtain ⟨v109, h111, c108, hf⟩ := cal2_inv hf
        have g113 := rf_X12_year (X := X) (d := d) (by omega) T106 c108
        have T112 : am_TP h111.2.2 := g113.2
        refine r_virt (pre := []) (rest := [.int v103]) dL_law_485 ct_13_52 rfl (sh_413) (Nat.le_of_ble_eq_true rfl) (Nat.le_of_ble_eq_true rfl) g113 ?_
        refine r_eq (q := 1483) dL_law_488 rfl hf (fun hf => ?_) (fun hf => ?_)
        · refine r_loc (L' := [some (.retAddr 0), some (.ref 0), some (.ref 413), some (.int (x3 + 6))]) dL_law_1483 rfl ?_
          refine r_goto (q := 18) dL_law_1486 rfl ?_
          exact ih (x3 + 6) h111 T112 hf
        · refine r_iconst (v := 0) dL_law_491 rfl ?_
          cases hf
          exact r_z0 T112 dL_law_492
      refine r_swc (x := (v1 &&& 63)) (v := 9) (off := 460) (q := 493) dL_law_33 rfl rfl hf (fun hf => ?_) (fun n9 hf => ?_)
      · refine r_loc dL_law_493 rfl ?_
        refine r_loc dL_law_494 rfl ?_
        refine r_loc dL_law_495 rfl ?_
        refine r_iconst (v := 1) dL_law_496 rfl ?_
        refine r_alu dL_law_497 rfl ?_
        refine r_sld dL_law_498 hf (fun v114 hf => ?_)
        refine r_loc dL_law_499 rfl ?_
        refine r_loc dL_law_500 rfl ?_
        refine r_iconst (v := 2) dL_law_501 rfl ?_
        refine r_alu dL_law_502 rfl ?_
        refine r_sld dL_law_503 hf (fun v115 hf => ?_)
        obtain ⟨v117, h119, c116, hf⟩ := cal2_inv hf
        have g121 := rf_X11_carry (X := X) (d := d) (by omega) v114 v115 T c116
        have T120 : am_TP h119.2.2 := g121.2
        refine r_virt (pre := [.int v115, .int v114]) (rest := []) dL_law_504 ct_13_53 rfl (sh_0) (Nat.le_of_ble_eq_true rfl) (Nat.le_of_ble_eq_true rfl) g121 ?_
        refine r_loc dL_law_507 rfl ?_
        refine r_loc dL_law_508 rfl ?_
        refine r_loc dL_law_509 rfl ?_
        refine r_iconst (v := 1) dL_law_510 rfl ?_
        refine r_alu dL_law_511 rfl ?_
        refine r_sld dL_law_512 hf (fun v122 hf => ?_)
        refine r_loc dL_law_513 rfl ?_
        refine r_loc dL_law_514 rfl ?_
        refine r_iconst (v := 2) dL_law_515 rfl ?_
        refine r_alu dL_law_516 rfl ?_
        refine r_sld dL_law_517 hf (fun v123 hf => ?_)
        obtain ⟨v125, h127, c124, hf⟩ := cal2_inv hf
        have g129 := rf_X12_carry (X := X) (d := d) (by omega) v122 v123 T120 c124
        have T128 : am_TP h127.2.2 := g129.2
        refine r_virt (pre := [.int v123, .int v122]) (rest := [.int v117]) dL_law_518 ct_13_56 rfl (sh_413) (Nat.le_of_ble_eq_true rfl) (Nat.le_of_ble_eq_true rfl) g129 ?_
        refine r_eq (q := 1483) dL_law_521 rfl hf (fun hf => ?_) (fun hf => ?_)
        · refine r_loc (L' := [some (.retAddr 0), some (.ref 0), some (.ref 413), some (.int (x3 + 6))]) dL_law_1483 rfl ?_
          refine r_goto (q := 18) dL_law_1486 rfl ?_
          exact ih (x3 + 6) h127 T128 hf
        · refine r_iconst (v := 0) dL_law_524 rfl ?_
          cases hf
          exact r_z0 T128 dL_law_525
      refine r_swc (x := (v1 &&& 63)) (v := 10) (off := 493) (q := 526) dL_law_33 rfl rfl hf (fun hf => ?_) (fun n10 hf => ?_)
      · refine r_loc dL_law_526 rfl ?_
        refine r_loc dL_law_527 rfl ?_
        refine r_loc dL_law_528 rfl ?_
        refine r_iconst (v := 1) dL_law_529 rfl ?_
        refine r_alu dL_law_530 rfl ?_
        refine r_sld dL_law_531 hf (fun v130 hf => ?_)
        obtain ⟨v132, h134, c131, hf⟩ := cal2_inv hf
        have g136 := rf_X11_tell (X := X) (d := d) (by omega) v130 T c131
        have T135 : am_TP h134.2.2 := g136.2
        refine r_virt (pre := [.int v130]) (rest := []) dL_law_532 ct_13_57 rfl (sh_0) (Nat.le_of_ble_eq_true rfl) (Nat.le_of_ble_eq_true rfl) g136 ?_
        refine r_loc dL_law_535 rfl ?_
        refine r_loc dL_law_536 rfl ?_
        refine r_loc dL_law_537 rfl ?_
        refine r_iconst (v := 1) dL_law_538 rfl ?_
        refine r_alu dL_law_539 rfl ?_
        refine r_sld dL_law_540 hf (fun v137 hf => ?_)
        obtain ⟨v139, h141, c138, hf⟩ := cal2_inv hf
        have g143 := rf_X12_tell (X := X) (d := d) (by omega) v137 T135 c138
        have T142 : am_TP h141.2.2 := g143.2
        refine r_virt (pre := [.int v137]) (rest := [.int v132]) dL_law_541 ct_13_60 rfl (sh_413) (Nat.le_of_ble_eq_true rfl) (Nat.le_of_ble_eq_true rfl) g143 ?_
        refine r_eq (q := 1483) dL_law_544 rfl hf (fun hf => ?_) (fun hf => ?_)
        · refine r_loc (L' := [some (.retAddr 0), some (.ref 0), some (.ref 413), some (.int (x3 + 6))]) dL_law_1483 rfl ?_
          refine r_goto (q := 18) dL_law_1486 rfl ?_
          exact ih (x3 + 6) h141 T142 hf
        · refine r_iconst (v := 0) dL_law_547 rfl ?_
          cases hf
          exact r_z0 T142 dL_law_548
      refine r_swc (x := (v1 &&& 63)) (v := 11) (off := 516) (q := 549) dL_law_33 rfl rfl hf (fun hf => ?_) (fun n11 hf => ?_)
      · refine r_loc dL_law_549 rfl ?_
        refine r_loc dL_law_550 rfl ?_
        refine r_loc dL_law_551 rfl ?_
        refine r_iconst (v := 1) dL_law_552 rfl ?_
        refine r_alu dL_law_553 rfl ?_
        refine r_sld dL_law_554 hf (fun v144 hf => ?_)
        obtain ⟨v146, h148, c145, hf⟩ := cal2_inv hf
        have g150 := rf_X11_lose (X := X) (d := d) (by omega) v144 T c145
        have T149 : am_TP h148.2.2 := g150.2
        refine r_virt (pre := [.int v144]) (rest := []) dL_law_555 ct_13_61 rfl (sh_0) (Nat.le_of_ble_eq_true rfl) (Nat.le_of_ble_eq_true rfl) g150 ?_
        refine r_loc dL_law_558 rfl ?_
        refine r_loc dL_law_559 rfl ?_
        refine r_loc dL_law_560 rfl ?_
        refine r_iconst (v := 1) dL_law_561 rfl ?_
        refine r_alu dL_law_562 rfl ?_
        refine r_sld dL_law_563 hf (fun v151 hf => ?_)
        obtain ⟨v153, h155, c152, hf⟩ := cal2_inv hf
        have g157 := rf_X12_lose (X := X) (d := d) (by omega) v151 T149 c152
        have T156 : am_TP h155.2.2 := g157.2
        refine r_virt (pre := [.int v151]) (rest := [.int v146]) dL_law_564 ct_13_64 rfl (sh_413) (Nat.le_of_ble_eq_true rfl) (Nat.le_of_ble_eq_true rfl) g157 ?_
        refine r_eq (q := 1483) dL_law_567 rfl hf (fun hf => ?_) (fun hf => ?_)
        · refine r_loc (L' := [some (.retAddr 0), some (.ref 0), some (.ref 413), some (.int (x3 + 6))]) dL_law_1483 rfl ?_
          refine r_goto (q := 18) dL_law_1486 rfl ?_
          exact ih (x3 + 6) h155 T156 hf
        · refine r_iconst (v := 0) dL_law_570 rfl ?_
          cases hf
          exact r_z0 T156 dL_law_571
      refine r_swc (x := (v1 &&& 63)) (v := 12) (off := 539) (q := 572) dL_law_33 rfl rfl hf (fun hf => ?_) (fun n12 hf => ?_)
      · refine r_loc dL_law_572 rfl ?_
        obtain ⟨v159, h161, c158, hf⟩ := cal2_inv hf
        have g163 := rf_X11_undo (X := X) (d := d) (by omega) T c158
        have T162 : am_TP h161.2.2 := g163.2
        refine r_virt (pre := []) (rest := []) dL_law_573 ct_13_65 rfl (sh_0) (Nat.le_of_ble_eq_true rfl) (Nat.le_of_ble_eq_true rfl) g163 ?_
        refine r_loc dL_law_576 rfl ?_
        obtain ⟨v165, h167, c164, hf⟩ := cal2_inv hf
        have g169 := rf_X12_undo (X := X) (d := d) (by omega) T162 c164
        have T168 : am_TP h167.2.2 := g169.2
        refine r_virt (pre := []) (rest := [.int v159]) dL_law_577 ct_13_69 rfl (sh_413) (Nat.le_of_ble_eq_true rfl) (Nat.le_of_ble_eq_true rfl) g169 ?_
        refine r_eq (q := 1483) dL_law_580 rfl hf (fun hf => ?_) (fun hf => ?_)
        · refine r_loc (L' := [some (.retAddr 0), some (.ref 0), some (.ref 413), some (.int (x3 + 6))]) dL_law_1483 rfl ?_
          refine r_goto (q := 18) dL_law_1486 rfl ?_
          exact ih (x3 + 6) h167 T168 hf
        · refine r_iconst (v := 0) dL_law_583 rfl ?_
          cases hf
          exact r_z0 T168 dL_law_584
      refine r_swc (x := (v1 &&& 63)) (v := 13) (off := 552) (q := 585) dL_law_33 rfl rfl hf (fun hf => ?_) (fun n13 hf => ?_)
      · refine r_loc dL_law_585 rfl ?_
        obtain ⟨v171, h173, c170, hf⟩ := cal2_inv hf
        have g175 := rf_X11_redo (X := X) (d := d) (by omega) T c170
        have T174 : am_TP h173.2.2 := g175.2
        refine r_virt (pre := []) (rest := []) dL_law_586 ct_13_70 rfl (sh_0) (Nat.le_of_ble_eq_true rfl) (Nat.le_of_ble_eq_true rfl) g175 ?_
        refine r_loc dL_law_589 rfl ?_
        obtain ⟨v177, h179, c176, hf⟩ := cal2_inv hf
        have g181 := rf_X12_redo (X := X) (d := d) (by omega) T174 c176
        have T180 : am_TP h179.2.2 := g181.2
        refine r_virt (pre := []) (rest := [.int v171]) dL_law_590 ct_13_73 rfl (sh_413) (Nat.le_of_ble_eq_true rfl) (Nat.le_of_ble_eq_true rfl) g181 ?_
        refine r_eq (q := 1483) dL_law_593 rfl hf (fun hf => ?_) (fun hf => ?_)
        · refine r_loc (L' := [some (.retAddr 0), some (.ref 0), some (.ref 413), some (.int (x3 + 6))]) dL_law_1483 rfl ?_
          refine r_goto (q := 18) dL_law_1486 rfl ?_
          exact ih (x3 + 6) h179 T180 hf
        · refine r_iconst (v := 0) dL_law_596 rfl ?_
          cases hf
          exact r_z0 T180 dL_law_597
      refine r_swc (x := (v1 &&& 63)) (v := 14) (off := 565) (q := 598) dL_law_33 rfl rfl hf (fun hf => ?_) (fun n14 hf => ?_)
      · refine r_loc dL_law_598 rfl ?_
        refine r_loc dL_law_599 rfl ?_
        refine r_loc dL_law_600 rfl ?_
        refine r_iconst (v := 1) dL_law_601 rfl ?_
        refine r_alu dL_law_602 rfl ?_
        refine r_sld dL_law_603 hf (fun v182 hf => ?_)
        refine r_loc dL_law_604 rfl ?_
        refine r_loc dL_law_605 rfl ?_
        refine r_iconst (v := 2) dL_law_606 rfl ?_
        refine r_alu dL_law_607 rfl ?_
        refine r_sld dL_law_608 hf (fun v183 hf => ?_)
        refine r_loc dL_law_609 rfl ?_
        refine r_loc dL_law_610 rfl ?_
        refine r_iconst (v := 3) dL_law_611 rfl ?_
        refine r_alu dL_law_612 rfl ?_
        refine r_sld dL_law_613 hf (fun v184 hf => ?_)
        obtain ⟨v186, h188, c185, hf⟩ := cal2_inv hf
        have g190 := rf_X11_will (X := X) (d := d) (by omega) v182 v183 v184 T c185
        have T189 : am_TP h188.2.2 := g190.2
        refine r_virt (pre := [.int v184, .int v183, .int v182]) (rest := []) dL_law_614 ct_13_74 rfl (sh_0) (Nat.le_of_ble_eq_true rfl) (Nat.le_of_ble_eq_true rfl) g190 ?_
        refine r_loc dL_law_617 rfl ?_
        refine r_loc dL_law_618 rfl ?_
        refine r_loc dL_law_619 rfl ?_
        refine r_iconst (v := 1) dL_law_620 rfl ?_
        refine r_alu dL_law_621 rfl ?_
        refine r_sld dL_law_622 hf (fun v191 hf => ?_)
        refine r_loc dL_law_623 rfl ?_
        refine r_loc dL_law_624 rfl ?_
        refine r_iconst (v := 2) dL_law_625 rfl ?_
        refine r_alu dL_law_626 rfl ?_
        refine r_sld dL_law_627 hf (fun v192 hf => ?_)
        refine r_loc dL_law_628 rfl ?_
        refine r_loc dL_law_629 rfl ?_
        refine r_iconst (v := 3) dL_law_630 rfl ?_
        refine r_alu dL_law_631 rfl ?_
        refine r_sld dL_law_632 hf (fun v193 hf => ?_)
        obtain ⟨v195, h197, c194, hf⟩ := cal2_inv hf
        have g199 := rf_X12_will (X := X) (d := d) (by omega) v191 v192 v193 T189 c194
        have T198 : am_TP h197.2.2 := g199.2
        refine r_virt (pre := [.int v193, .int v192, .int v191]) (rest := [.int v186]) dL_law_633 ct_13_78 rfl (sh_413) (Nat.le_of_ble_eq_true rfl) (Nat.le_of_ble_eq_true rfl) g199 ?_
        refine r_eq (q := 1483) dL_law_636 rfl hf (fun hf => ?_) (fun hf => ?_)
        · refine r_loc (L' := [some (.retAddr 0), some (.ref 0), some (.ref 413), some (.int (x3 + 6))]) dL_law_1483 rfl ?_
          refine r_goto (q := 18) dL_law_1486 rfl ?_
          exact ih (x3 + 6) h197 T198 hf
        · refine r_iconst (v := 0) dL_law_639 rfl ?_
          cases hf
          exact r_z0 T198 dL_law_640
      refine r_swc (x := (v1 &&& 63)) (v := 15) (off := 608) (q := 641) dL_law_33 rfl rfl hf (fun hf => ?_) (fun n15 hf => ?_)
      · refine r_loc dL_law_641 rfl ?_
        refine r_loc dL_law_642 rfl ?_
        refine r_loc dL_law_643 rfl ?_
        refine r_iconst (v := 1) dL_law_644 rfl ?_
        refine r_alu dL_law_645 rfl ?_
        refine r_sld dL_law_646 hf (fun v200 hf => ?_)
        obtain ⟨v202, h204, c201, hf⟩ := cal2_inv hf
        have g206 := rf_X11_alive (X := X) (d := d) (by omega) v200 T c201
        have T205 : am_TP h204.2.2 := g206.2
        refine r_virt (pre := [.int v200]) (rest := []) dL_law_647 ct_13_79 rfl (sh_0) (Nat.le_of_ble_eq_true rfl) (Nat.le_of_ble_eq_true rfl) g206 ?_
        refine r_loc dL_law_650 rfl ?_
        refine r_loc dL_law_651 rfl ?_
        refine r_loc dL_law_652 rfl ?_
        refine r_iconst (v := 1) dL_law_653 rfl ?_
        refine r_alu dL_law_654 rfl ?_
        refine r_sld dL_law_655 hf (fun v207 hf => ?_)
        obtain ⟨v209, h211, c208, hf⟩ := cal2_inv hf
        have g213 := rf_X12_alive (X := X) (d := d) (by omega) v207 T205 c208
        have T212 : am_TP h211.2.2 := g213.2
        refine r_virt (pre := [.int v207]) (rest := [.int v202]) dL_law_656 ct_13_82 rfl (sh_413) (Nat.le_of_ble_eq_true rfl) (Nat.le_of_ble_eq_true rfl) g213 ?_
        refine r_eq (q := 1483) dL_law_659 rfl hf (fun hf => ?_) (fun hf => ?_)
        · refine r_loc (L' := [some (.retAddr 0), some (.ref 0), some (.ref 413), some (.int (x3 + 6))]) dL_law_1483 rfl ?_
          refine r_goto (q := 18) dL_law_1486 rfl ?_
          exact ih (x3 + 6) h211 T212 hf
        · refine r_iconst (v := 0) dL_law_662 rfl ?_
          cases hf
          exact r_z0 T212 dL_law_663
      refine r_swc (x := (v1 &&& 63)) (v := 16) (off := 631) (q := 664) dL_law_33 rfl rfl hf (fun hf => ?_) (fun n16 hf => ?_)
      · refine r_loc dL_law_664 rfl ?_
        obtain ⟨v215, h217, c214, hf⟩ := cal2_inv hf
        have g219 := rf_X11_pack (X := X) (d := d) (by omega) T c214
        have T218 : am_TP h217.2.2 := g219.2
        refine r_virt (pre := []) (rest := []) dL_law_665 ct_13_83 rfl (sh_0) (Nat.le_of_ble_eq_true rfl) (Nat.le_of_ble_eq_true rfl) g219 ?_
        refine r_loc dL_law_668 rfl ?_
        obtain ⟨v221, h223, c220, hf⟩ := cal2_inv hf
        have g225 := rf_X12_pack (X := X) (d := d) (by omega) T218 c220
        have T224 : am_TP h223.2.2 := g225.2
        refine r_virt (pre := []) (rest := [.int v215]) dL_law_669 ct_13_86 rfl (sh_413) (Nat.le_of_ble_eq_true rfl) (Nat.le_of_ble_eq_true rfl) g225 ?_
        refine r_eq (q := 1483) dL_law_672 rfl hf (fun hf => ?_) (fun hf => ?_)
        · refine r_loc (L' := [some (.retAddr 0), some (.ref 0), some (.ref 413), some (.int (x3 + 6))]) dL_law_1483 rfl ?_
          refine r_goto (q := 18) dL_law_1486 rfl ?_
          exact ih (x3 + 6) h223 T224 hf
        · refine r_iconst (v := 0) dL_law_675 rfl ?_
          cases hf
          exact r_z0 T224 dL_law_676
      refine r_swc (x := (v1 &&& 63)) (v := 17) (off := 644) (q := 677) dL_law_33 rfl rfl hf (fun hf => ?_) (fun n17 hf => ?_)
      · refine r_loc dL_law_677 rfl ?_
        refine r_loc dL_law_678 rfl ?_
        refine r_loc dL_law_679 rfl ?_
        refine r_iconst (v := 1) dL_law_680 rfl ?_
        refine r_alu dL_law_681 rfl ?_
        refine r_sld dL_law_682 hf (fun v226 hf => ?_)
        refine r_loc dL_law_683 rfl ?_
        refine r_loc dL_law_684 rfl ?_
        refine r_iconst (v := 2) dL_law_685 rfl ?_
        refine r_alu dL_law_686 rfl ?_
        refine r_sld dL_law_687 hf (fun v227 hf => ?_)
        obtain ⟨v229, c228, hf⟩ := cal_inv hf
        have g230 := rf_X11_fill (X := X) (d := d) (by omega) v226 v227 T c228
        refine r_virt (pre := [.int v227, .int v226]) (rest := []) dL_law_688 ct_13_87 rfl (sh_0) (Nat.le_of_ble_eq_true rfl) (Nat.le_of_ble_eq_true rfl) g230 ?_
        refine r_loc dL_law_691 rfl ?_
        refine r_loc dL_law_692 rfl ?_
        refine r_loc dL_law_693 rfl ?_
        refine r_iconst (v := 1) dL_law_694 rfl ?_
        refine r_alu dL_law_695 rfl ?_
        refine r_sld dL_law_696 hf (fun v231 hf => ?_)
        refine r_loc dL_law_697 rfl ?_
        refine r_loc dL_law_698 rfl ?_
        refine r_iconst (v := 2) dL_law_699 rfl ?_
        refine r_alu dL_law_700 rfl ?_
        refine r_sld dL_law_701 hf (fun v232 hf => ?_)
        obtain ⟨v234, c233, hf⟩ := cal_inv hf
        have g235 := rf_X12_fill (X := X) (d := d) (by omega) v231 v232 T c233
        refine r_virt (pre := [.int v232, .int v231]) (rest := [.int v229]) dL_law_702 ct_13_90 rfl (sh_413) (Nat.le_of_ble_eq_true rfl) (Nat.le_of_ble_eq_true rfl) g235 ?_
        refine r_eq (q := 1483) dL_law_705 rfl hf (fun hf => ?_) (fun hf => ?_)
        · refine r_loc (L' := [some (.retAddr 0), some (.ref 0), some (.ref 413), some (.int (x3 + 6))]) dL_law_1483 rfl ?_
          refine r_goto (q := 18) dL_law_1486 rfl ?_
          exact ih (x3 + 6) h T hf
        · refine r_iconst (v := 0) dL_law_708 rfl ?_
          cases hf
          exact r_z0 T dL_law_709
      refine r_swc (x := (v1 &&& 63)) (v := 18) (off := 677) (q := 710) dL_law_33 rfl rfl hf (fun hf => ?_) (fun n18 hf => ?_)
      · refine r_loc dL_law_710 rfl ?_
        refine r_loc dL_law_711 rfl ?_
        refine r_loc dL_law_712 rfl ?_
        refine r_iconst (v := 1) dL_law_713 rfl ?_
        refine r_alu dL_law_714 rfl ?_
        refine r_sld dL_law_715 hf (fun v236 hf => ?_)
        refine r_loc dL_law_716 rfl ?_
        refine r_loc dL_law_717 rfl ?_
        refine r_iconst (v := 2) dL_law_718 rfl ?_
        refine r_alu dL_law_719 rfl ?_
        refine r_sld dL_law_720 hf (fun v237 hf => ?_)
        obtain ⟨v239, c238, hf⟩ := cal_inv hf
        have g240 := rf_X11_sires (X := X) (d := d) (by omega) v236 v237 T c238
        refine r_virt (pre := [.int v237, .int v236]) (rest := []) dL_law_721 ct_13_91 rfl (sh_0) (Nat.le_of_ble_eq_true rfl) (Nat.le_of_ble_eq_true rfl) g240 ?_
        refine r_loc dL_law_724 rfl ?_
        refine r_loc dL_law_725 rfl ?_
        refine r_loc dL_law_726 rfl ?_
        refine r_iconst (v := 1) dL_law_727 rfl ?_
        refine r_alu dL_law_728 rfl ?_
        refine r_sld dL_law_729 hf (fun v241 hf => ?_)
        refine r_loc dL_law_730 rfl ?_
        refine r_loc dL_law_731 rfl ?_
        refine r_iconst (v := 2) dL_law_732 rfl ?_
        refine r_alu dL_law_733 rfl ?_
        refine r_sld dL_law_734 hf (fun v242 hf => ?_)
        obtain ⟨v244, c243, hf⟩ := cal_inv hf
        have g245 := rf_X12_sires (X := X) (d := d) (by omega) v241 v242 T c243
        refine r_virt (pre := [.int v242, .int v241]) (rest := [.int v239]) dL_law_735 ct_13_94 rfl (sh_413) (Nat.le_of_ble_eq_true rfl) (Nat.le_of_ble_eq_true rfl) g245 ?_
        refine r_eq (q := 1483) dL_law_738 rfl hf (fun hf => ?_) (fun hf => ?_)
        · refine r_loc (L' := [some (.retAddr 0), some (.ref 0), some (.ref 413), some (.int (x3 + 6))]) dL_law_1483 rfl ?_
          refine r_goto (q := 18) dL_law_1486 rfl ?_
          exact ih (x3 + 6) h T hf
        · refine r_iconst (v := 0) dL_law_741 rfl ?_
          cases hf
          exact r_z0 T dL_law_742
      refine r_swc (x := (v1 &&& 63)) (v := 19) (off := 710) (q := 743) dL_law_33 rfl rfl hf (fun hf => ?_) (fun n19 hf => ?_)
      · refine r_loc dL_law_743 rfl ?_
        refine r_loc dL_law_744 rfl ?_
        refine r_loc dL_law_745 rfl ?_
        refine r_iconst (v := 1) dL_law_746 rfl ?_
        refine r_alu dL_law_747 rfl ?_
        refine r_sld dL_law_748 hf (fun v246 hf => ?_)
        refine r_loc dL_law_749 rfl ?_
        refine r_loc dL_law_750 rfl ?_
        refine r_iconst (v := 2) dL_law_751 rfl ?_
        refine r_alu dL_law_752 rfl ?_
        refine r_sld dL_law_753 hf (fun v247 hf => ?_)
        refine r_loc dL_law_754 rfl ?_
        refine r_loc dL_law_755 rfl ?_
        refine r_iconst (v := 3) dL_law_756 rfl ?_
        refine r_alu dL_law_757 rfl ?_
        refine r_sld dL_law_758 hf (fun v248 hf => ?_)
        refine r_loc dL_law_759 rfl ?_
        refine r_loc dL_law_760 rfl ?_
        refine r_iconst (v := 4) dL_law_761 rfl ?_
        refine r_alu dL_law_762 rfl ?_
        refine r_sld dL_law_763 hf (fun v249 hf => ?_)
        refine r_loc dL_law_764 rfl ?_
        refine r_loc dL_law_765 rfl ?_
        refine r_iconst (v := 5) dL_law_766 rfl ?_
        refine r_alu dL_law_767 rfl ?_
        refine r_sld dL_law_768 hf (fun v250 hf => ?_)
        obtain ⟨v252, c251, hf⟩ := cal_inv hf
        have g253 := rf_X11_quartet (X := X) (d := d) (by omega) v246 v247 v248 v249 v250 T c251
        refine r_virt (pre := [.int v250, .int v249, .int v248, .int v247, .int v246]) (rest := []) dL_law_769 ct_13_95 rfl (sh_0) (Nat.le_of_ble_eq_true rfl) (Nat.le_of_ble_eq_true rfl) g253 ?_
        refine r_loc dL_law_772 rfl ?_
        refine r_loc dL_law_773 rfl ?_
        refine r_loc dL_law_774 rfl ?_
        refine r_iconst (v := 1) dL_law_775 rfl ?_
        refine r_alu dL_law_776 rfl ?_
        refine r_sld dL_law_777 hf (fun v254 hf => ?_)
        refine r_loc dL_law_778 rfl ?_
        refine r_loc dL_law_779 rfl ?_
        refine r_iconst (v := 2) dL_law_780 rfl ?_
        refine r_alu dL_law_781 rfl ?_
        refine r_sld dL_law_782 hf (fun v255 hf => ?_)
        refine r_loc dL_law_783 rfl ?_
        refine r_loc dL_law_784 rfl ?_
        refine r_iconst (v := 3) dL_law_785 rfl ?_
        refine r_alu dL_law_786 rfl ?_
        refine r_sld dL_law_787 hf (fun v256 hf => ?_)
        refine r_loc dL_law_788 rfl ?_
        refine r_loc dL_law_789 rfl ?_
        refine r_iconst (v := 4) dL_law_790 rfl ?_
        refine r_alu dL_law_791 rfl ?_
        refine r_sld dL_law_792 hf (fun v257 hf => ?_)
        refine r_loc dL_law_793 rfl ?_
        refine r_loc dL_law_794 rfl ?_
        refine r_iconst (v := 5) dL_law_795 rfl ?_
        refine r_alu dL_law_796 rfl ?_
        refine r_sld dL_law_797 hf (fun v258 hf => ?_)
        obtain ⟨v260, c259, hf⟩ := cal_inv hf
        have g261 := rf_X12_quartet (X := X) (d := d) (by omega) v254 v255 v256 v257 v258 T c259
        refine r_virt (pre := [.int v258, .int v257, .int v256, .int v255, .int v254]) (rest := [.int v252]) dL_law_798 ct_13_98 rfl (sh_413) (Nat.le_of_ble_eq_true rfl) (Nat.le_of_ble_eq_true rfl) g261 ?_
        refine r_eq (q := 1483) dL_law_801 rfl hf (fun hf => ?_) (fun hf => ?_)
        · refine r_loc (L' := [some (.retAddr 0), some (.ref 0), some (.ref 413), some (.int (x3 + 6))]) dL_law_1483 rfl ?_
          refine r_goto (q := 18) dL_law_1486 rfl ?_
          exact ih (x3 + 6) h T hf
        · refine r_iconst (v := 0) dL_law_804 rfl ?_
          cases hf
          exact r_z0 T dL_law_805
      refine r_swc (x := (v1 &&& 63)) (v := 20) (off := 773) (q := 806) dL_law_33 rfl rfl hf (fun hf => ?_) (fun n20 hf => ?_)
      · refine r_loc dL_law_806 rfl ?_
        obtain ⟨v263, c262, hf⟩ := cal_inv hf
        have g264 := rf_X11_span (X := X) (d := d) (by omega) T c262
        refine r_virt (pre := []) (rest := []) dL_law_807 ct_13_99 rfl (sh_0) (Nat.le_of_ble_eq_true rfl) (Nat.le_of_ble_eq_true rfl) g264 ?_
        refine r_loc dL_law_810 rfl ?_
        obtain ⟨v266, c265, hf⟩ := cal_inv hf
        have g267 := rf_X12_span (X := X) (d := d) (by omega) T c265
        refine r_virt (pre := []) (rest := [.int v263]) dL_law_811 ct_13_102 rfl (sh_413) (Nat.le_of_ble_eq_true rfl) (Nat.le_of_ble_eq_true rfl) g267 ?_
        refine r_eq (q := 1483) dL_law_814 rfl hf (fun hf => ?_) (fun hf => ?_)
        · refine r_loc (L' := [some (.retAddr 0), some (.ref 0), some (.ref 413), some (.int (x3 + 6))]) dL_law_1483 rfl ?_
          refine r_goto (q := 18) dL_law_1486 rfl ?_
          exact ih (x3 + 6) h T hf
        · refine r_iconst (v := 0) dL_law_817 rfl ?_
          cases hf
          exact r_z0 T dL_law_818
      refine r_swc (x := (v1 &&& 63)) (v := 21) (off := 786) (q := 819) dL_law_33 rfl rfl hf (fun hf => ?_) (fun n21 hf => ?_)
      · refine r_loc dL_law_819 rfl ?_
        refine r_loc dL_law_820 rfl ?_
        refine r_loc dL_law_821 rfl ?_
        refine r_iconst (v := 1) dL_law_822 rfl ?_
        refine r_alu dL_law_823 rfl ?_
        refine r_sld dL_law_824 hf (fun v268 hf => ?_)
        obtain ⟨v270, c269, hf⟩ := cal_inv hf
        have g271 := rf_X11_line (X := X) (d := d) (by omega) v268 T c269
        refine r_virt (pre := [.int v268]) (rest := []) dL_law_825 ct_13_103 rfl (sh_0) (Nat.le_of_ble_eq_true rfl) (Nat.le_of_ble_eq_true rfl) g271 ?_
        refine r_loc dL_law_828 rfl ?_
        refine r_loc dL_law_829 rfl ?_
        refine r_loc dL_law_830 rfl ?_
        refine r_iconst (v := 1) dL_law_831 rfl ?_
        refine r_alu dL_law_832 rfl ?_
        refine r_sld dL_law_833 hf (fun v272 hf => ?_)
        obtain ⟨v274, c273, hf⟩ := cal_inv hf
        have g275 := rf_X12_line (X := X) (d := d) (by omega) v272 T c273
        refine r_virt (pre := [.int v272]) (rest := [.int v270]) dL_law_834 ct_13_106 rfl (sh_413) (Nat.le_of_ble_eq_true rfl) (Nat.le_of_ble_eq_true rfl) g275 ?_
        refine r_eq (q := 1483) dL_law_837 rfl hf (fun hf => ?_) (fun hf => ?_)
        · refine r_loc (L' := [some (.retAddr 0), some (.ref 0), some (.ref 413), some (.int (x3 + 6))]) dL_law_1483 rfl ?_
          refine r_goto (q := 18) dL_law_1486 rfl ?_
          exact ih (x3 + 6) h T hf
        · refine r_iconst (v := 0) dL_law_840 rfl ?_
          cases hf
          exact r_z0 T dL_law_841
      refine r_swc (x := (v1 &&& 63)) (v := 22) (off := 809) (q := 842) dL_law_33 rfl rfl hf (fun hf => ?_) (fun n22 hf => ?_)
      · refine r_loc dL_law_842 rfl ?_
        refine r_loc dL_law_843 rfl ?_
        refine r_loc dL_law_844 rfl ?_
        refine r_iconst (v := 1) dL_law_845 rfl ?_
        refine r_alu dL_law_846 rfl ?_
        refine r_sld dL_law_847 hf (fun v276 hf => ?_)
        obtain ⟨v278, c277, hf⟩ := cal_inv hf
        have g279 := rf_X11_litter (X := X) (d := d) (by omega) v276 T c277
        refine r_virt (pre := [.int v276]) (rest := []) dL_law_848 ct_13_107 rfl (sh_0) (Nat.le_of_ble_eq_true rfl) (Nat.le_of_ble_eq_true rfl) g279 ?_
        refine r_loc dL_law_851 rfl ?_
        refine r_loc dL_law_852 rfl ?_
        refine r_loc dL_law_853 rfl ?_
        refine r_iconst (v := 1) dL_law_854 rfl ?_
        refine r_alu dL_law_855 rfl ?_
        refine r_sld dL_law_856 hf (fun v280 hf => ?_)
        obtain ⟨v282, c281, hf⟩ := cal_inv hf
        have g283 := rf_X12_litter (X := X) (d := d) (by omega) v280 T c281
        refine r_virt (pre := [.int v280]) (rest := [.int v278]) dL_law_857 ct_13_110 rfl (sh_413) (Nat.le_of_ble_eq_true rfl) (Nat.le_of_ble_eq_true rfl) g283 ?_
        refine r_eq (q := 1483) dL_law_860 rfl hf (fun hf => ?_) (fun hf => ?_)
        · refine r_loc (L' := [some (.retAddr 0), some (.ref 0), some (.ref 413), some (.int (x3 + 6))]) dL_law_1483 rfl ?_
          refine r_goto (q := 18) dL_law_1486 rfl ?_
          exact ih (x3 + 6) h T hf
        · refine r_iconst (v := 0) dL_law_863 rfl ?_
          cases hf
          exact r_z0 T dL_law_864
      refine r_swc (x := (v1 &&& 63)) (v := 23) (off := 832) (q := 865) dL_law_33 rfl rfl hf (fun hf => ?_) (fun n23 hf => ?_)
      · refine r_loc dL_law_865 rfl ?_
        refine r_loc dL_law_866 rfl ?_
        refine r_loc dL_law_867 rfl ?_
        refine r_iconst (v := 1) dL_law_868 rfl ?_
        refine r_alu dL_law_869 rfl ?_
        refine r_sld dL_law_870 hf (fun v284 hf => ?_)
        refine r_loc dL_law_871 rfl ?_
        refine r_loc dL_law_872 rfl ?_
        refine r_iconst (v := 2) dL_law_873 rfl ?_
        refine r_alu dL_law_874 rfl ?_
        refine r_sld dL_law_875 hf (fun v285 hf => ?_)
        obtain ⟨v287, c286, hf⟩ := cal_inv hf
        have g288 := rf_X11_kin (X := X) (d := d) (by omega) v284 v285 T c286
        refine r_virt (pre := [.int v285, .int v284]) (rest := []) dL_law_876 ct_13_111 rfl (sh_0) (Nat.le_of_ble_eq_true rfl) (Nat.le_of_ble_eq_true rfl) g288 ?_
        refine r_loc dL_law_879 rfl ?_
        refine r_loc dL_law_880 rfl ?_
        refine r_loc dL_law_881 rfl ?_
        refine r_iconst (v := 1) dL_law_882 rfl ?_
        refine r_alu dL_law_883 rfl ?_
        refine r_sld dL_law_884 hf (fun v289 hf => ?_)
        refine r_loc dL_law_885 rfl ?_
        refine r_loc dL_law_886 rfl ?_
        refine r_iconst (v := 2) dL_law_887 rfl ?_
        refine r_alu dL_law_888 rfl ?_
        refine r_sld dL_law_889 hf (fun v290 hf => ?_)
        obtain ⟨v292, c291, hf⟩ := cal_inv hf
        have g293 := rf_X12_kin (X := X) (d := d) (by omega) v289 v290 T c291
        refine r_virt (pre := [.int v290, .int v289]) (rest := [.int v287]) dL_law_890 ct_13_114 rfl (sh_413) (Nat.le_of_ble_eq_true rfl) (Nat.le_of_ble_eq_true rfl) g293 ?_
        refine r_eq (q := 1483) dL_law_893 rfl hf (fun hf => ?_) (fun hf => ?_)
        · refine r_loc (L' := [some (.retAddr 0), some (.ref 0), some (.ref 413), some (.int (x3 + 6))]) dL_law_1483 rfl ?_
          refine r_goto (q := 18) dL_law_1486 rfl ?_
          exact ih (x3 + 6) h T hf
        · refine r_iconst (v := 0) dL_law_896 rfl ?_
          cases hf
          exact r_z0 T dL_law_897
      refine r_swc (x := (v1 &&& 63)) (v := 24) (off := 865) (q := 898) dL_law_33 rfl rfl hf (fun hf => ?_) (fun n24 hf => ?_)
      · refine r_loc dL_law_898 rfl ?_
        refine r_loc dL_law_899 rfl ?_
        refine r_loc dL_law_900 rfl ?_
        refine r_iconst (v := 1) dL_law_901 rfl ?_
        refine r_alu dL_law_902 rfl ?_
        refine r_sld dL_law_903 hf (fun v294 hf => ?_)
        obtain ⟨v296, c295, hf⟩ := cal_inv hf
        have g297 := rf_X11_need (X := X) (d := d) (by omega) v294 T c295
        refine r_virt (pre := [.int v294]) (rest := []) dL_law_904 ct_13_115 rfl (sh_0) (Nat.le_of_ble_eq_true rfl) (Nat.le_of_ble_eq_true rfl) g297 ?_
        refine r_loc dL_law_907 rfl ?_
        refine r_loc dL_law_908 rfl ?_
        refine r_loc dL_law_909 rfl ?_
        refine r_iconst (v := 1) dL_law_910 rfl ?_
        refine r_alu dL_law_911 rfl ?_
        refine r_sld dL_law_912 hf (fun v298 hf => ?_)
        obtain ⟨v300, c299, hf⟩ := cal_inv hf
        have g301 := rf_X12_need (X := X) (d := d) (by omega) v298 T c299
        refine r_virt (pre := [.int v298]) (rest := [.int v296]) dL_law_913 ct_13_118 rfl (sh_413) (Nat.le_of_ble_eq_true rfl) (Nat.le_of_ble_eq_true rfl) g301 ?_
        refine r_eq (q := 1483) dL_law_916 rfl hf (fun hf => ?_) (fun hf => ?_)
        · refine r_loc (L' := [some (.retAddr 0), some (.ref 0), some (.ref 413), some (.int (x3 + 6))]) dL_law_1483 rfl ?_
          refine r_goto (q := 18) dL_law_1486 rfl ?_
          exact ih (x3 + 6) h T hf
        · refine r_iconst (v := 0) dL_law_919 rfl ?_
          cases hf
          exact r_z0 T dL_law_920
      refine r_swc (x := (v1 &&& 63)) (v := 25) (off := 888) (q := 921) dL_law_33 rfl rfl hf (fun hf => ?_) (fun n25 hf => ?_)
      · refine r_loc dL_law_921 rfl ?_
        refine r_loc dL_law_922 rfl ?_
        refine r_loc dL_law_923 rfl ?_
        refine r_iconst (v := 1) dL_law_924 rfl ?_
        refine r_alu dL_law_925 rfl ?_
        refine r_sld dL_law_926 hf (fun v302 hf => ?_)
        refine r_loc dL_law_927 rfl ?_
        refine r_loc dL_law_928 rfl ?_
        refine r_iconst (v := 2) dL_law_929 rfl ?_
        refine r_alu dL_law_930 rfl ?_
        refine r_sld dL_law_931 hf (fun v303 hf => ?_)
        obtain ⟨v305, h307, c304, hf⟩ := cal2_inv hf
        have g309 := rf_X11_best (X := X) (d := d) (by omega) v302 v303 T c304
        have T308 : am_TP h307.2.2 := g309.2
        refine r_virt (pre := [.int v303, .int v302]) (rest := []) dL_law_932 ct_13_119 rfl (sh_0) (Nat.le_of_ble_eq_true rfl) (Nat.le_of_ble_eq_true rfl) g309 ?_
        refine r_loc dL_law_935 rfl ?_
        refine r_loc dL_law_936 rfl ?_
        refine r_loc dL_law_937 rfl ?_
        refine r_iconst (v := 1) dL_law_938 rfl ?_
        refine r_alu dL_law_939 rfl ?_
        refine r_sld dL_law_940 hf (fun v310 hf => ?_)
        refine r_loc dL_law_941 rfl ?_
        refine r_loc dL_law_942 rfl ?_
        refine r_iconst (v := 2) dL_law_943 rfl ?_
        refine r_alu dL_law_944 rfl ?_
        refine r_sld dL_law_945 hf (fun v311 hf => ?_)
        obtain ⟨v313, h315, c312, hf⟩ := cal2_inv hf
        have g317 := rf_X12_best (X := X) (d := d) (by omega) v310 v311 T308 c312
        have T316 : am_TP h315.2.2 := g317.2
        refine r_virt (pre := [.int v311, .int v310]) (rest := [.int v305]) dL_law_946 ct_13_122 rfl (sh_413) (Nat.le_of_ble_eq_true rfl) (Nat.le_of_ble_eq_true rfl) g317 ?_
        refine r_eq (q := 1483) dL_law_949 rfl hf (fun hf => ?_) (fun hf => ?_)
        · refine r_loc (L' := [some (.retAddr 0), some (.ref 0), some (.ref 413), some (.int (x3 + 6))]) dL_law_1483 rfl ?_
          refine r_goto (q := 18) dL_law_1486 rfl ?_
          exact ih (x3 + 6) h315 T316 hf
        · refine r_iconst (v := 0) dL_law_952 rfl ?_
          cases hf
          exact r_z0 T316 dL_law_953
      refine r_swc (x := (v1 &&& 63)) (v := 26) (off := 921) (q := 954) dL_law_33 rfl rfl hf (fun hf => ?_) (fun n26 hf => ?_)
      · refine r_loc dL_law_954 rfl ?_
        refine r_loc dL_law_955 rfl ?_
        refine r_loc dL_law_956 rfl ?_
        refine r_iconst (v := 1) dL_law_957 rfl ?_
        refine r_alu dL_law_958 rfl ?_
        refine r_sld dL_law_959 hf (fun v318 hf => ?_)
        refine r_loc dL_law_960 rfl ?_
        refine r_loc dL_law_961 rfl ?_
        refine r_iconst (v := 2) dL_law_962 rfl ?_
        refine r_alu dL_law_963 rfl ?_
        refine r_sld dL_law_964 hf (fun v319 hf => ?_)
        obtain ⟨v321, h323, c320, hf⟩ := cal2_inv hf
        have g325 := rf_X11_rivals (X := X) (d := d) (by omega) v318 v319 T c320
        have T324 : am_TP h323.2.2 := g325.2
        refine r_virt (pre := [.int v319, .int v318]) (rest := []) dL_law_965 ct_13_123 rfl (sh_0) (Nat.le_of_ble_eq_true rfl) (Nat.le_of_ble_eq_true rfl) g325 ?_
        refine r_loc dL_law_968 rfl ?_
        refine r_loc dL_law_969 rfl ?_
        refine r_loc dL_law_970 rfl ?_
        refine r_iconst (v := 1) dL_law_971 rfl ?_
        refine r_alu dL_law_972 rfl ?_
        refine r_sld dL_law_973 hf (fun v326 hf => ?_)
        refine r_loc dL_law_974 rfl ?_
        refine r_loc dL_law_975 rfl ?_
        refine r_iconst (v := 2) dL_law_976 rfl ?_
        refine r_alu dL_law_977 rfl ?_
        refine r_sld dL_law_978 hf (fun v327 hf => ?_)
        obtain ⟨v329, h331, c328, hf⟩ := cal2_inv hf
        have g333 := rf_X12_rivals (X := X) (d := d) (by omega) v326 v327 T324 c328
        have T332 : am_TP h331.2.2 := g333.2
        refine r_virt (pre := [.int v327, .int v326]) (rest := [.int v321]) dL_law_979 ct_13_126 rfl (sh_413) (Nat.le_of_ble_eq_true rfl) (Nat.le_of_ble_eq_true rfl) g333 ?_
        refine r_eq (q := 1483) dL_law_982 rfl hf (fun hf => ?_) (fun hf => ?_)
        · refine r_loc (L' := [some (.retAddr 0), some (.ref 0), some (.ref 413), some (.int (x3 + 6))]) dL_law_1483 rfl ?_
          refine r_goto (q := 18) dL_law_1486 rfl ?_
          exact ih (x3 + 6) h331 T332 hf
        · refine r_iconst (v := 0) dL_law_985 rfl ?_
          cases hf
          exact r_z0 T332 dL_law_986
      refine r_swc (x := (v1 &&& 63)) (v := 27) (off := 954) (q := 987) dL_law_33 rfl rfl hf (fun hf => ?_) (fun n27 hf => ?_)
      · refine r_loc dL_law_987 rfl ?_
        refine r_loc dL_law_988 rfl ?_
        refine r_loc dL_law_989 rfl ?_
        refine r_iconst (v := 1) dL_law_990 rfl ?_
        refine r_alu dL_law_991 rfl ?_
        refine r_sld dL_law_992 hf (fun v334 hf => ?_)
        obtain ⟨v336, h338, c335, hf⟩ := cal2_inv hf
        have g340 := rf_X11_fading (X := X) (d := d) (by omega) v334 T c335
        have T339 : am_TP h338.2.2 := g340.2
        refine r_virt (pre := [.int v334]) (rest := []) dL_law_993 ct_13_127 rfl (sh_0) (Nat.le_of_ble_eq_true rfl) (Nat.le_of_ble_eq_true rfl) g340 ?_
        refine r_loc dL_law_996 rfl ?_
        refine r_loc dL_law_997 rfl ?_
        refine r_loc dL_law_998 rfl ?_
        refine r_iconst (v := 1) dL_law_999 rfl ?_
        refine r_alu dL_law_1000 rfl ?_
        refine r_sld dL_law_1001 hf (fun v341 hf => ?_)
        obtain ⟨v343, h345, c342, hf⟩ := cal2_inv hf
        have g347 := rf_X12_fading (X := X) (d := d) (by omega) v341 T339 c342
        have T346 : am_TP h345.2.2 := g347.2
        refine r_virt (pre := [.int v341]) (rest := [.int v336]) dL_law_1002 ct_13_130 rfl (sh_413) (Nat.le_of_ble_eq_true rfl) (Nat.le_of_ble_eq_true rfl) g347 ?_
        refine r_eq (q := 1483) dL_law_1005 rfl hf (fun hf => ?_) (fun hf => ?_)
        · refine r_loc (L' := [some (.retAddr 0), some (.ref 0), some (.ref 413), some (.int (x3 + 6))]) dL_law_1483 rfl ?_
          refine r_goto (q := 18) dL_law_1486 rfl ?_
          exact ih (x3 + 6) h345 T346 hf
        · refine r_iconst (v := 0) dL_law_1008 rfl ?_
          cases hf
          exact r_z0 T346 dL_law_1009
      refine r_swc (x := (v1 &&& 63)) (v := 28) (off := 977) (q := 1010) dL_law_33 rfl rfl hf (fun hf => ?_) (fun n28 hf => ?_)
      · refine r_loc dL_law_1010 rfl ?_
        refine r_loc dL_law_1011 rfl ?_
        refine r_loc dL_law_1012 rfl ?_
        refine r_iconst (v := 1) dL_law_1013 rfl ?_
        refine r_alu dL_law_1014 rfl ?_
        refine r_sld dL_law_1015 hf (fun v348 hf => ?_)
        refine r_loc dL_law_1016 rfl ?_
        refine r_loc dL_law_1017 rfl ?_
        refine r_iconst (v := 2) dL_law_1018 rfl ?_
        refine r_alu dL_law_1019 rfl ?_
        refine r_sld dL_law_1020 hf (fun v349 hf => ?_)
        obtain ⟨v351, c350, hf⟩ := cal_inv hf
        have g352 := rf_X11_alike (X := X) (d := d) (by omega) v348 v349 T c350
        refine r_virt (pre := [.int v349, .int v348]) (rest := []) dL_law_1021 ct_13_131 rfl (sh_0) (Nat.le_of_ble_eq_true rfl) (Nat.le_of_ble_eq_true rfl) g352 ?_
        refine r_loc dL_law_1024 rfl ?_
        refine r_loc dL_law_1025 rfl ?_
        refine r_loc dL_law_1026 rfl ?_
        refine r_iconst (v := 1) dL_law_1027 rfl ?_
        refine r_alu dL_law_1028 rfl ?_
        refine r_sld dL_law_1029 hf (fun v353 hf => ?_)
        refine r_loc dL_law_1030 rfl ?_
        refine r_loc dL_law_1031 rfl ?_
        refine r_iconst (v := 2) dL_law_1032 rfl ?_
        refine r_alu dL_law_1033 rfl ?_
        refine r_sld dL_law_1034 hf (fun v354 hf => ?_)
        obtain ⟨v356, c355, hf⟩ := cal_inv hf
        have g357 := rf_X12_alike (X := X) (d := d) (by omega) v353 v354 T c355
        refine r_virt (pre := [.int v354, .int v353]) (rest := [.int v351]) dL_law_1035 ct_13_134 rfl (sh_413) (Nat.le_of_ble_eq_true rfl) (Nat.le_of_ble_eq_true rfl) g357 ?_
        refine r_eq (q := 1483) dL_law_1038 rfl hf (fun hf => ?_) (fun hf => ?_)
        · refine r_loc (L' := [some (.retAddr 0), some (.ref 0), some (.ref 413), some (.int (x3 + 6))]) dL_law_1483 rfl ?_
          refine r_goto (q := 18) dL_law_1486 rfl ?_
          exact ih (x3 + 6) h T hf
        · refine r_iconst (v := 0) dL_law_1041 rfl ?_
          cases hf
          exact r_z0 T dL_law_1042
      refine r_swc (x := (v1 &&& 63)) (v := 29) (off := 1010) (q := 1043) dL_law_33 rfl rfl hf (fun hf => ?_) (fun n29 hf => ?_)
      · refine r_loc dL_law_1043 rfl ?_
        refine r_loc dL_law_1044 rfl ?_
        refine r_loc dL_law_1045 rfl ?_
        refine r_iconst (v := 1) dL_law_1046 rfl ?_
        refine r_alu dL_law_1047 rfl ?_
        refine r_sld dL_law_1048 hf (fun v358 hf => ?_)
        obtain ⟨v360, c359, hf⟩ := cal_inv hf
        have g361 := rf_X11_like (X := X) (d := d) (by omega) v358 T c359
        refine r_virt (pre := [.int v358]) (rest := []) dL_law_1049 ct_13_135 rfl (sh_0) (Nat.le_of_ble_eq_true rfl) (Nat.le_of_ble_eq_true rfl) g361 ?_
        refine r_loc dL_law_1052 rfl ?_
        refine r_loc dL_law_1053 rfl ?_
        refine r_loc dL_law_1054 rfl ?_
        refine r_iconst (v := 1) dL_law_1055 rfl ?_
        refine r_alu dL_law_1056 rfl ?_
        refine r_sld dL_law_1057 hf (fun v362 hf => ?_)
        obtain ⟨v364, c363, hf⟩ := cal_inv hf
        have g365 := rf_X12_like (X := X) (d := d) (by omega) v362 T c363
        refine r_virt (pre := [.int v362]) (rest := [.int v360]) dL_law_1058 ct_13_138 rfl (sh_413) (Nat.le_of_ble_eq_true rfl) (Nat.le_of_ble_eq_true rfl) g365 ?_
        refine r_eq (q := 1483) dL_law_1061 rfl hf (fun hf => ?_) (fun hf => ?_)
        · refine r_loc (L' := [some (.retAddr 0), some (.ref 0), some (.ref 413), some (.int (x3 + 6))]) dL_law_1483 rfl ?_
          refine r_goto (q := 18) dL_law_1486 rfl ?_
          exact ih (x3 + 6) h T hf
        · refine r_iconst (v := 0) dL_law_1064 rfl ?_
          cases hf
          exact r_z0 T dL_law_1065
      refine r_swc (x := (v1 &&& 63)) (v := 30) (off := 1033) (q := 1066) dL_law_33 rfl rfl hf (fun hf => ?_) (fun n30 hf => ?_)
      · refine r_loc dL_law_1066 rfl ?_
        obtain ⟨v367, c366, hf⟩ := cal_inv hf
        have g368 := rf_X11_odd (X := X) (d := d) (by omega) T c366
        refine r_virt (pre := []) (rest := []) dL_law_1067 ct_13_139 rfl (sh_0) (Nat.le_of_ble_eq_true rfl) (Nat.le_of_ble_eq_true rfl) g368 ?_
        refine r_loc dL_law_1070 rfl ?_
        obtain ⟨v370, c369, hf⟩ := cal_inv hf
        have g371 := rf_X12_odd (X := X) (d := d) (by omega) T c369
        refine r_virt (pre := []) (rest := [.int v367]) dL_law_1071 ct_13_142 rfl (sh_413) (Nat.le_of_ble_eq_true rfl) (Nat.le_of_ble_eq_true rfl) g371 ?_
        refine r_eq (q := 1483) dL_law_1074 rfl hf (fun hf => ?_) (fun hf => ?_)
        · refine r_loc (L' := [some (.retAddr 0), some (.ref 0), some (.ref 413), some (.int (x3 + 6))]) dL_law_1483 rfl ?_
          refine r_goto (q := 18) dL_law_1486 rfl ?_
          exact ih (x3 + 6) h T hf
        · refine r_iconst (v := 0) dL_law_1077 rfl ?_
          cases hf
          exact r_z0 T dL_law_1078
      refine r_swc (x := (v1 &&& 63)) (v := 31) (off := 1046) (q := 1079) dL_law_33 rfl rfl hf (fun hf => ?_) (fun n31 hf => ?_)
      · refine r_loc dL_law_1079 rfl ?_
        refine r_loc dL_law_1080 rfl ?_
        refine r_loc dL_law_1081 rfl ?_
        refine r_iconst (v := 1) dL_law_1082 rfl ?_
        refine r_alu dL_law_1083 rfl ?_
        refine r_sld dL_law_1084 hf (fun v372 hf => ?_)
        obtain ⟨v374, c373, hf⟩ := cal_inv hf
        have g375 := rf_X11_bearers (X := X) (d := d) (by omega) v372 T c373
        refine r_virt (pre := [.int v372]) (rest := []) dL_law_1085 ct_13_143 rfl (sh_0) (Nat.le_of_ble_eq_true rfl) (Nat.le_of_ble_eq_true rfl) g375 ?_
        refine r_loc dL_law_1088 rfl ?_
        refine r_loc dL_law_1089 rfl ?_
        refine r_loc dL_law_1090 rfl ?_
        refine r_iconst (v := 1) dL_law_1091 rfl ?_
        refine r_alu dL_law_1092 rfl ?_
        refine r_sld dL_law_1093 hf (fun v376 hf => ?_)
        obtain ⟨v378, c377, hf⟩ := cal_inv hf
        have g379 := rf_X12_bearers (X := X) (d := d) (by omega) v376 T c377
        refine r_virt (pre := [.int v376]) (rest := [.int v374]) dL_law_1094 ct_13_146 rfl (sh_413) (Nat.le_of_ble_eq_true rfl) (Nat.le_of_ble_eq_true rfl) g379 ?_
        refine r_eq (q := 1483) dL_law_1097 rfl hf (fun hf => ?_) (fun hf => ?_)
        · refine r_loc (L' := [some (.retAddr 0), some (.ref 0), some (.ref 413), some (.int (x3 + 6))]) dL_law_1483 rfl ?_
          refine r_goto (q := 18) dL_law_1486 rfl ?_
          exact ih (x3 + 6) h T hf
        · refine r_iconst (v := 0) dL_law_1100 rfl ?_
          cases hf
          exact r_z0 T dL_law_1101
      refine r_swc (x := (v1 &&& 63)) (v := 32) (off := 1069) (q := 1102) dL_law_33 rfl rfl hf (fun hf => ?_) (fun n32 hf => ?_)
      · refine r_loc dL_law_1102 rfl ?_
        obtain ⟨v381, c380, hf⟩ := cal_inv hf
        have g382 := rf_X11_roomiest (X := X) (d := d) (by omega) T c380
        refine r_virt (pre := []) (rest := []) dL_law_1103 ct_13_147 rfl (sh_0) (Nat.le_of_ble_eq_true rfl) (Nat.le_of_ble_eq_true rfl) g382 ?_
        refine r_loc dL_law_1106 rfl ?_
        obtain ⟨v384, c383, hf⟩ := cal_inv hf
        have g385 := rf_X12_roomiest (X := X) (d := d) (by omega) T c383
        refine r_virt (pre := []) (rest := [.int v381]) dL_law_1107 ct_13_150 rfl (sh_413) (Nat.le_of_ble_eq_true rfl) (Nat.le_of_ble_eq_true rfl) g385 ?_
        refine r_eq (q := 1483) dL_law_1110 rfl hf (fun hf => ?_) (fun hf => ?_)
        · refine r_loc (L' := [some (.retAddr 0), some (.ref 0), some (.ref 413), some (.int (x3 + 6))]) dL_law_1483 rfl ?_
          refine r_goto (q := 18) dL_law_1486 rfl ?_
          exact ih (x3 + 6) h T hf
        · refine r_iconst (v := 0) dL_law_1113 rfl ?_
          cases hf
          exact r_z0 T dL_law_1114
      refine r_swc (x := (v1 &&& 63)) (v := 33) (off := 1082) (q := 1115) dL_law_33 rfl rfl hf (fun hf => ?_) (fun n33 hf => ?_)
      · refine r_loc dL_law_1115 rfl ?_
        obtain ⟨v387, h389, c386, hf⟩ := cal2_inv hf
        have g391 := rf_X11_ripe (X := X) (d := d) (by omega) T c386
        have T390 : am_TP h389.2.2 := g391.2
        refine r_virt (pre := []) (rest := []) dL_law_1116 ct_13_151 rfl (sh_0) (Nat.le_of_ble_eq_true rfl) (Nat.le_of_ble_eq_true rfl) g391 ?_
        refine r_loc dL_law_1119 rfl ?_
        obtain ⟨v393, h395, c392, hf⟩ := cal2_inv hf
        have g397 := rf_X12_ripe (X := X) (d := d) (by omega) T390 c392
        have T396 : am_TP h395.2.2 := g397.2
        refine r_virt (pre := []) (rest := [.int v387]) dL_law_1120 ct_13_154 rfl (sh_413) (Nat.le_of_ble_eq_true rfl) (Nat.le_of_ble_eq_true rfl) g397 ?_
        refine r_eq (q := 1483) dL_law_1123 rfl hf (fun hf => ?_) (fun hf => ?_)
        · refine r_loc (L' := [some (.retAddr 0), some (.ref 0), some (.ref 413), some (.int (x3 + 6))]) dL_law_1483 rfl ?_
          refine r_goto (q := 18) dL_law_1486 rfl ?_
          exact ih (x3 + 6) h395 T396 hf
        · refine r_iconst (v := 0) dL_law_1126 rfl ?_
          cases hf
          exact r_z0 T396 dL_law_1127
      refine r_swc (x := (v1 &&& 63)) (v := 34) (off := 1095) (q := 1128) dL_law_33 rfl rfl hf (fun hf => ?_) (fun n34 hf => ?_)
      · refine r_loc dL_law_1128 rfl ?_
        refine r_loc dL_law_1129 rfl ?_
        refine r_loc dL_law_1130 rfl ?_
        refine r_iconst (v := 1) dL_law_1131 rfl ?_
        refine r_alu dL_law_1132 rfl ?_
        refine r_sld dL_law_1133 hf (fun v398 hf => ?_)
        refine r_loc dL_law_1134 rfl ?_
        refine r_loc dL_law_1135 rfl ?_
        refine r_iconst (v := 2) dL_law_1136 rfl ?_
        refine r_alu dL_law_1137 rfl ?_
        refine r_sld dL_law_1138 hf (fun v399 hf => ?_)
        obtain ⟨v401, h403, c400, hf⟩ := cal2_inv hf
        have g405 := rf_X11_law (X := X) (d := d) (by omega) v398 v399 T c400
        have T404 : am_TP h403.2.2 := g405.2
        refine r_virt (pre := [.int v399, .int v398]) (rest := []) dL_law_1139 ct_13_155 rfl (sh_0) (Nat.le_of_ble_eq_true rfl) (Nat.le_of_ble_eq_true rfl) g405 ?_
        refine r_loc dL_law_1142 rfl ?_
        refine r_loc dL_law_1143 rfl ?_
        refine r_loc dL_law_1144 rfl ?_
        refine r_iconst (v := 1) dL_law_1145 rfl ?_
        refine r_alu dL_law_1146 rfl ?_
        refine r_sld dL_law_1147 hf (fun v406 hf => ?_)
        refine r_loc dL_law_1148 rfl ?_
        refine r_loc dL_law_1149 rfl ?_
        refine r_iconst (v := 2) dL_law_1150 rfl ?_
        refine r_alu dL_law_1151 rfl ?_
        refine r_sld dL_law_1152 hf (fun v407 hf => ?_)
        obtain ⟨v409, h411, c408, hf⟩ := cal2_inv hf
        have g413 := rf_X12_law (X := X) (d := d) (by omega) v406 v407 T404 c408
        have T412 : am_TP h411.2.2 := g413.2
        refine r_virt (pre := [.int v407, .int v406]) (rest := [.int v401]) dL_law_1153 ct_13_158 rfl (sh_413) (Nat.le_of_ble_eq_true rfl) (Nat.le_of_ble_eq_true rfl) g413 ?_
        refine r_eq (q := 1483) dL_law_1156 rfl hf (fun hf => ?_) (fun hf => ?_)
        · refine r_loc (L' := [some (.retAddr 0), some (.ref 0), some (.ref 413), some (.int (x3 + 6))]) dL_law_1483 rfl ?_
          refine r_goto (q := 18) dL_law_1486 rfl ?_
          exact ih (x3 + 6) h411 T412 hf
        · refine r_iconst (v := 0) dL_law_1159 rfl ?_
          cases hf
          exact r_z0 T412 dL_law_1160
      refine r_swc (x := (v1 &&& 63)) (v := 35) (off := 1128) (q := 1161) dL_law_33 rfl rfl hf (fun hf => ?_) (fun n35 hf => ?_)
      · refine r_loc dL_law_1161 rfl ?_
        obtain ⟨v415, c414, hf⟩ := cal_inv hf
        have g416 := rf_X11_pining (X := X) (d := d) (by omega) T c414
        refine r_virt (pre := []) (rest := []) dL_law_1162 ct_13_159 rfl (sh_0) (Nat.le_of_ble_eq_true rfl) (Nat.le_of_ble_eq_true rfl) g416 ?_
        refine r_loc dL_law_1165 rfl ?_
        obtain ⟨v418, c417, hf⟩ := cal_inv hf
        have g419 := rf_X12_pining (X := X) (d := d) (by omega) T c417
        refine r_virt (pre := []) (rest := [.int v415]) dL_law_1166 ct_13_162 rfl (sh_413) (Nat.le_of_ble_eq_true rfl) (Nat.le_of_ble_eq_true rfl) g419 ?_
        refine r_eq (q := 1483) dL_law_1169 rfl hf (fun hf => ?_) (fun hf => ?_)
        · refine r_loc (L' := [some (.retAddr 0), some (.ref 0), some (.ref 413), some (.int (x3 + 6))]) dL_law_1483 rfl ?_
          refine r_goto (q := 18) dL_law_1486 rfl ?_
          exact ih (x3 + 6) h T hf
        · refine r_iconst (v := 0) dL_law_1172 rfl ?_
          cases hf
          exact r_z0 T dL_law_1173
      refine r_swc (x := (v1 &&& 63)) (v := 36) (off := 1141) (q := 1174) dL_law_33 rfl rfl hf (fun hf => ?_) (fun n36 hf => ?_)
      · refine r_loc dL_law_1174 rfl ?_
        refine r_loc dL_law_1175 rfl ?_
        refine r_loc dL_law_1176 rfl ?_
        refine r_iconst (v := 1) dL_law_1177 rfl ?_
        refine r_alu dL_law_1178 rfl ?_
        refine r_sld dL_law_1179 hf (fun v420 hf => ?_)
        obtain ⟨v422, h424, c421, hf⟩ := cal2_inv hf
        have g426 := rf_X11_gone (X := X) (d := d) (by omega) v420 T c421
        have T425 : am_TP h424.2.2 := g426.2
        refine r_virt (pre := [.int v420]) (rest := []) dL_law_1180 ct_13_163 rfl (sh_0) (Nat.le_of_ble_eq_true rfl) (Nat.le_of_ble_eq_true rfl) g426 ?_
        refine r_loc dL_law_1183 rfl ?_
        refine r_loc dL_law_1184 rfl ?_
        refine r_loc dL_law_1185 rfl ?_
        refine r_iconst (v := 1) dL_law_1186 rfl ?_
        refine r_alu dL_law_1187 rfl ?_
        refine r_sld dL_law_1188 hf (fun v427 hf => ?_)
        obtain ⟨v429, h431, c428, hf⟩ := cal2_inv hf
        have g433 := rf_X12_gone (X := X) (d := d) (by omega) v427 T425 c428
        have T432 : am_TP h431.2.2 := g433.2
        refine r_virt (pre := [.int v427]) (rest := [.int v422]) dL_law_1189 ct_13_166 rfl (sh_413) (Nat.le_of_ble_eq_true rfl) (Nat.le_of_ble_eq_true rfl) g433 ?_
        refine r_eq (q := 1483) dL_law_1192 rfl hf (fun hf => ?_) (fun hf => ?_)
        · refine r_loc (L' := [some (.retAddr 0), some (.ref 0), some (.ref 413), some (.int (x3 + 6))]) dL_law_1483 rfl ?_
          refine r_goto (q := 18) dL_law_1486 rfl ?_
          exact ih (x3 + 6) h431 T432 hf
        · refine r_iconst (v := 0) dL_law_1195 rfl ?_
          cases hf
          exact r_z0 T432 dL_law_1196
      refine r_swc (x := (v1 &&& 63)) (v := 37) (off := 1164) (q := 1197) dL_law_33 rfl rfl hf (fun hf => ?_) (fun n37 hf => ?_)
      · refine r_loc dL_law_1197 rfl ?_
        refine r_loc dL_law_1198 rfl ?_
        refine r_loc dL_law_1199 rfl ?_
        refine r_iconst (v := 1) dL_law_1200 rfl ?_
        refine r_alu dL_law_1201 rfl ?_
        refine r_sld dL_law_1202 hf (fun v434 hf => ?_)
        obtain ⟨v436, c435, hf⟩ := cal_inv hf
        have g437 := rf_X11_lies (X := X) (d := d) (by omega) v434 T c435
        refine r_virt (pre := [.int v434]) (rest := []) dL_law_1203 ct_13_167 rfl (sh_0) (Nat.le_of_ble_eq_true rfl) (Nat.le_of_ble_eq_true rfl) g437 ?_
        refine r_loc dL_law_1206 rfl ?_
        refine r_loc dL_law_1207 rfl ?_
        refine r_loc dL_law_1208 rfl ?_
        refine r_iconst (v := 1) dL_law_1209 rfl ?_
        refine r_alu dL_law_1210 rfl ?_
        refine r_sld dL_law_1211 hf (fun v438 hf => ?_)
        obtain ⟨v440, c439, hf⟩ := cal_inv hf
        have g441 := rf_X12_lies (X := X) (d := d) (by omega) v438 T c439
        refine r_virt (pre := [.int v438]) (rest := [.int v436]) dL_law_1212 ct_13_170 rfl (sh_413) (Nat.le_of_ble_eq_true rfl) (Nat.le_of_ble_eq_true rfl) g441 ?_
        refine r_eq (q := 1483) dL_law_1215 rfl hf (fun hf => ?_) (fun hf => ?_)
        · refine r_loc (L' := [some (.retAddr 0), some (.ref 0), some (.ref 413), some (.int (x3 + 6))]) dL_law_1483 rfl ?_
          refine r_goto (q := 18) dL_law_1486 rfl ?_
          exact ih (x3 + 6) h T hf
        · refine r_iconst (v := 0) dL_law_1218 rfl ?_
          cases hf
          exact r_z0 T dL_law_1219
      refine r_swc (x := (v1 &&& 63)) (v := 38) (off := 1187) (q := 1220) dL_law_33 rfl rfl hf (fun hf => ?_) (fun n38 hf => ?_)
      · refine r_loc dL_law_1220 rfl ?_
        refine r_loc dL_law_1221 rfl ?_
        refine r_loc dL_law_1222 rfl ?_
        refine r_iconst (v := 1) dL_law_1223 rfl ?_
        refine r_alu dL_law_1224 rfl ?_
        refine r_sld dL_law_1225 hf (fun v442 hf => ?_)
        refine r_loc dL_law_1226 rfl ?_
        refine r_loc dL_law_1227 rfl ?_
        refine r_iconst (v := 2) dL_law_1228 rfl ?_
        refine r_alu dL_law_1229 rfl ?_
        refine r_sld dL_law_1230 hf (fun v443 hf => ?_)
        refine r_loc dL_law_1231 rfl ?_
        refine r_loc dL_law_1232 rfl ?_
        refine r_iconst (v := 3) dL_law_1233 rfl ?_
        refine r_alu dL_law_1234 rfl ?_
        refine r_sld dL_law_1235 hf (fun v444 hf => ?_)
        refine r_eq0 (q := 1243) dL_law_1236 rfl hf (fun hf => ?_) (fun hf => ?_)
        · refine r_iconst (v := 0) dL_law_1243 rfl ?_
          obtain ⟨v446, h448, c445, hf⟩ := cal2_inv hf
          have g450 := rf_X11_held (X := X) (d := d) (by omega) v442 v443 0 T c445
          have T449 : am_TP h448.2.2 := g450.2
          refine r_virt (pre := [.int 0, .int v443, .int v442]) (rest := []) dL_law_1244 ct_13_171 rfl (sh_0) (Nat.le_of_ble_eq_true rfl) (Nat.le_of_ble_eq_true rfl) g450 ?_
          refine r_loc dL_law_1247 rfl ?_
          refine r_loc dL_law_1248 rfl ?_
          refine r_loc dL_law_1249 rfl ?_
          refine r_iconst (v := 1) dL_law_1250 rfl ?_
          refine r_alu dL_law_1251 rfl ?_
          refine r_sld dL_law_1252 hf (fun v451 hf => ?_)
          refine r_loc dL_law_1253 rfl ?_
          refine r_loc dL_law_1254 rfl ?_
          refine r_iconst (v := 2) dL_law_1255 rfl ?_
          refine r_alu dL_law_1256 rfl ?_
          refine r_sld dL_law_1257 hf (fun v452 hf => ?_)
          refine r_loc dL_law_1258 rfl ?_
          refine r_loc dL_law_1259 rfl ?_
          refine r_iconst (v := 3) dL_law_1260 rfl ?_
          refine r_alu dL_law_1261 rfl ?_
          refine r_sld dL_law_1262 hf (fun v453 hf => ?_)
          refine r_eq0 (q := 1270) dL_law_1263 rfl hf (fun hf => ?_) (fun hf => ?_)
          · refine r_iconst (v := 0) dL_law_1270 rfl ?_
            obtain ⟨v455, h457, c454, hf⟩ := cal2_inv hf
            have g459 := rf_X12_held (X := X) (d := d) (by omega) v451 v452 0 T449 c454
            have T458 : am_TP h457.2.2 := g459.2
            refine r_virt (pre := [.int 0, .int v452, .int v451]) (rest := [.int v446]) dL_law_1271 ct_13_175 rfl (sh_413) (Nat.le_of_ble_eq_true rfl) (Nat.le_of_ble_eq_true rfl) g459 ?_
            refine r_eq (q := 1483) dL_law_1274 rfl hf (fun hf => ?_) (fun hf => ?_)
            · refine r_loc (L' := [some (.retAddr 0), some (.ref 0), some (.ref 413), some (.int (x3 + 6))]) dL_law_1483 rfl ?_
              refine r_goto (q := 18) dL_law_1486 rfl ?_
              exact ih (x3 + 6) h457 T458 hf
            · refine r_iconst (v := 0) dL_law_1277 rfl ?_
              cases hf
              exact r_z0 T458 dL_law_1278
          · refine r_iconst (v := 1) dL_law_1266 rfl ?_
            refine r_goto (q := 1271) dL_law_1267 rfl ?_
            obtain ⟨v461, h463, c460, hf⟩ := cal2_inv hf
            have g465 := rf_X12_held (X := X) (d := d) (by omega) v451 v452 1 T449 c460
            have T464 : am_TP h463.2.2 := g465.2
            refine r_virt (pre := [.int 1, .int v452, .int v451]) (rest := [.int v446]) dL_law_1271 ct_13_175 rfl (sh_413) (Nat.le_of_ble_eq_true rfl) (Nat.le_of_ble_eq_true rfl) g465 ?_
            refine r_eq (q := 1483) dL_law_1274 rfl hf (fun hf => ?_) (fun hf => ?_)
            · refine r_loc (L' := [some (.retAddr 0), some (.ref 0), some (.ref 413), some (.int (x3 + 6))]) dL_law_1483 rfl ?_
              refine r_goto (q := 18) dL_law_1486 rfl ?_
              exact ih (x3 + 6) h463 T464 hf
            · refine r_iconst (v := 0) dL_law_1277 rfl ?_
              cases hf
              exact r_z0 T464 dL_law_1278
        · refine r_iconst (v := 1) dL_law_1239 rfl ?_
          refine r_goto (q := 1244) dL_law_1240 rfl ?_
          obtain ⟨v467, h469, c466, hf⟩ := cal2_inv hf
          have g471 := rf_X11_held (X := X) (d := d) (by omega) v442 v443 1 T c466
          have T470 : am_TP h469.2.2 := g471.2
          refine r_virt (pre := [.int 1, .int v443, .int v442]) (rest := []) dL_law_1244 ct_13_171 rfl (sh_0) (Nat.le_of_ble_eq_true rfl) (Nat.le_of_ble_eq_true rfl) g471 ?_
          refine r_loc dL_law_1247 rfl ?_
          refine r_loc dL_law_1248 rfl ?_
          refine r_loc dL_law_1249 rfl ?_
          refine r_iconst (v := 1) dL_law_1250 rfl ?_
          refine r_alu dL_law_1251 rfl ?_
          refine r_sld dL_law_1252 hf (fun v472 hf => ?_)
          refine r_loc dL_law_1253 rfl ?_
          refine r_loc dL_law_1254 rfl ?_
          refine r_iconst (v := 2) dL_law_1255 rfl ?_
          refine r_alu dL_law_1256 rfl ?_
          refine r_sld dL_law_1257 hf (fun v473 hf => ?_)
          refine r_loc dL_law_1258 rfl ?_
          refine r_loc dL_law_1259 rfl ?_
          refine r_iconst (v := 3) dL_law_1260 rfl ?_
          refine r_alu dL_law_1261 rfl ?_
          refine r_sld dL_law_1262 hf (fun v474 hf => ?_)
          refine r_eq0 (q := 1270) dL_law_1263 rfl hf (fun hf => ?_) (fun hf => ?_)
          · refine r_iconst (v := 0) dL_law_1270 rfl ?_
            obtain ⟨v476, h478, c475, hf⟩ := cal2_inv hf
            have g480 := rf_X12_held (X := X) (d := d) (by omega) v472 v473 0 T470 c475
            have T479 : am_TP h478.2.2 := g480.2
            refine r_virt (pre := [.int 0, .int v473, .int v472]) (rest := [.int v467]) dL_law_1271 ct_13_175 rfl (sh_413) (Nat.le_of_ble_eq_true rfl) (Nat.le_of_ble_eq_true rfl) g480 ?_
            refine r_eq (q := 1483) dL_law_1274 rfl hf (fun hf => ?_) (fun hf => ?_)
            · refine r_loc (L' := [some (.retAddr 0), some (.ref 0), some (.ref 413), some (.int (x3 + 6))]) dL_law_1483 rfl ?_
              refine r_goto (q := 18) dL_law_1486 rfl ?_
              exact ih (x3 + 6) h478 T479 hf
            · refine r_iconst (v := 0) dL_law_1277 rfl ?_
              cases hf
              exact r_z0 T479 dL_law_1278
          · refine r_iconst (v := 1) dL_law_1266 rfl ?_
            refine r_goto (q := 1271) dL_law_1267 rfl ?_
            obtain ⟨v482, h484, c481, hf⟩ := cal2_inv hf
            have g486 := rf_X12_held (X := X) (d := d) (by omega) v472 v473 1 T470 c481
            have T485 : am_TP h484.2.2 := g486.2
            refine r_virt (pre := [.int 1, .int v473, .int v472]) (rest := [.int v467]) dL_law_1271 ct_13_175 rfl (sh_413) (Nat.le_of_ble_eq_true rfl) (Nat.le_of_ble_eq_true rfl) g486 ?_
            refine r_eq (q := 1483) dL_law_1274 rfl hf (fun hf => ?_) (fun hf => ?_)
            · refine r_loc (L' := [some (.retAddr 0), some (.ref 0), some (.ref 413), some (.int (x3 + 6))]) dL_law_1483 rfl ?_
              refine r_goto (q := 18) dL_law_1486 rfl ?_
              exact ih (x3 + 6) h484 T485 hf
            · refine r_iconst (v := 0) dL_law_1277 rfl ?_
              cases hf
              exact r_z0 T485 dL_law_1278
      refine r_swc (x := (v1 &&& 63)) (v := 39) (off := 1246) (q := 1279) dL_law_33 rfl rfl hf (fun hf => ?_) (fun n39 hf => ?_)
      · refine r_loc dL_law_1279 rfl ?_
        refine r_loc dL_law_1280 rfl ?_
        refine r_loc dL_law_1281 rfl ?_
        refine r_iconst (v := 1) dL_law_1282 rfl ?_
        refine r_alu dL_law_1283 rfl ?_
        refine r_sld dL_law_1284 hf (fun v487 hf => ?_)
        obtain ⟨v489, h491, c488, hf⟩ := cal2_inv hf
        have g493 := rf_X11_untell (X := X) (d := d) (by omega) v487 T c488
        have T492 : am_TP h491.2.2 := g493.2
        refine r_virt (pre := [.int v487]) (rest := []) dL_law_1285 ct_13_176 rfl (sh_0) (Nat.le_of_ble_eq_true rfl) (Nat.le_of_ble_eq_true rfl) g493 ?_
        refine r_loc dL_law_1288 rfl ?_
        refine r_loc dL_law_1289 rfl ?_
        refine r_loc dL_law_1290 rfl ?_
        refine r_iconst (v := 1) dL_law_1291 rfl ?_
        refine r_alu dL_law_1292 rfl ?_
        refine r_sld dL_law_1293 hf (fun v494 hf => ?_)
        obtain ⟨v496, h498, c495, hf⟩ := cal2_inv hf
        have g500 := rf_X12_untell (X := X) (d := d) (by omega) v494 T492 c495
        have T499 : am_TP h498.2.2 := g500.2
        refine r_virt (pre := [.int v494]) (rest := [.int v489]) dL_law_1294 ct_13_180 rfl (sh_413) (Nat.le_of_ble_eq_true rfl) (Nat.le_of_ble_eq_true rfl) g500 ?_
        refine r_eq (q := 1483) dL_law_1297 rfl hf (fun hf => ?_) (fun hf => ?_)
        · refine r_loc (L' := [some (.retAddr 0), some (.ref 0), some (.ref 413), some (.int (x3 + 6))]) dL_law_1483 rfl ?_
          refine r_goto (q := 18) dL_law_1486 rfl ?_
          exact ih (x3 + 6) h498 T499 hf
        · refine r_iconst (v := 0) dL_law_1300 rfl ?_
          cases hf
          exact r_z0 T499 dL_law_1301
      refine r_swc (x := (v1 &&& 63)) (v := 40) (off := 1269) (q := 1302) dL_law_33 rfl rfl hf (fun hf => ?_) (fun n40 hf => ?_)
      · refine r_loc dL_law_1302 rfl ?_
        refine r_loc dL_law_1303 rfl ?_
        refine r_loc dL_law_1304 rfl ?_
        refine r_iconst (v := 1) dL_law_1305 rfl ?_
        refine r_alu dL_law_1306 rfl ?_
        refine r_sld dL_law_1307 hf (fun v501 hf => ?_)
        obtain ⟨v503, h505, c502, hf⟩ := cal2_inv hf
        have g507 := rf_X11_later (X := X) (d := d) (by omega) v501 T c502
        have T506 : am_TP h505.2.2 := g507.2
        refine r_virt (pre := [.int v501]) (rest := []) dL_law_1308 ct_13_181 rfl (sh_0) (Nat.le_of_ble_eq_true rfl) (Nat.le_of_ble_eq_true rfl) g507 ?_
        refine r_loc dL_law_1311 rfl ?_
        refine r_loc dL_law_1312 rfl ?_
        refine r_loc dL_law_1313 rfl ?_
        refine r_iconst (v := 1) dL_law_1314 rfl ?_
        refine r_alu dL_law_1315 rfl ?_
        refine r_sld dL_law_1316 hf (fun v508 hf => ?_)
        obtain ⟨v510, h512, c509, hf⟩ := cal2_inv hf
        have g514 := rf_X12_later (X := X) (d := d) (by omega) v508 T506 c509
        have T513 : am_TP h512.2.2 := g514.2
        refine r_virt (pre := [.int v508]) (rest := [.int v503]) dL_law_1317 ct_13_184 rfl (sh_413) (Nat.le_of_ble_eq_true rfl) (Nat.le_of_ble_eq_true rfl) g514 ?_
        refine r_eq (q := 1483) dL_law_1320 rfl hf (fun hf => ?_) (fun hf => ?_)
        · refine r_loc (L' := [some (.retAddr 0), some (.ref 0), some (.ref 413), some (.int (x3 + 6))]) dL_law_1483 rfl ?_
          refine r_goto (q := 18) dL_law_1486 rfl ?_
          exact ih (x3 + 6) h512 T513 hf
        · refine r_iconst (v := 0) dL_law_1323 rfl ?_
          cases hf
          exact r_z0 T513 dL_law_1324
      refine r_swc (x := (v1 &&& 63)) (v := 41) (off := 1292) (q := 1325) dL_law_33 rfl rfl hf (fun hf => ?_) (fun n41 hf => ?_)
      · refine r_loc dL_law_1325 rfl ?_
        refine r_loc dL_law_1326 rfl ?_
        refine r_loc dL_law_1327 rfl ?_
        refine r_iconst (v := 1) dL_law_1328 rfl ?_
        refine r_alu dL_law_1329 rfl ?_
        refine r_sld dL_law_1330 hf (fun v515 hf => ?_)
        obtain ⟨v517, c516, hf⟩ := cal_inv hf
        have g518 := rf_X11_fits (X := X) (d := d) (by omega) v515 T c516
        refine r_virt (pre := [.int v515]) (rest := []) dL_law_1331 ct_13_185 rfl (sh_0) (Nat.le_of_ble_eq_true rfl) (Nat.le_of_ble_eq_true rfl) g518 ?_
        refine r_loc dL_law_1334 rfl ?_
        refine r_loc dL_law_1335 rfl ?_
        refine r_loc dL_law_1336 rfl ?_
        refine r_iconst (v := 1) dL_law_1337 rfl ?_
        refine r_alu dL_law_1338 rfl ?_
        refine r_sld dL_law_1339 hf (fun v519 hf => ?_)
        obtain ⟨v521, h523, c520, hf⟩ := cal2_inv hf
        have g525 := rf_X12_fits (X := X) (d := d) (by omega) v519 T c520
        have T524 : am_TP h523.2.2 := g525.2
        refine r_virt (pre := [.int v519]) (rest := [.int v517]) dL_law_1340 ct_13_188 rfl (sh_413) (Nat.le_of_ble_eq_true rfl) (Nat.le_of_ble_eq_true rfl) g525 ?_
        refine r_eq (q := 1483) dL_law_1343 rfl hf (fun hf => ?_) (fun hf => ?_)
        · refine r_loc (L' := [some (.retAddr 0), some (.ref 0), some (.ref 413), some (.int (x3 + 6))]) dL_law_1483 rfl ?_
          refine r_goto (q := 18) dL_law_1486 rfl ?_
          exact ih (x3 + 6) h523 T524 hf
        · refine r_iconst (v := 0) dL_law_1346 rfl ?_
          cases hf
          exact r_z0 T524 dL_law_1347
      refine r_swc (x := (v1 &&& 63)) (v := 42) (off := 1315) (q := 1348) dL_law_33 rfl rfl hf (fun hf => ?_) (fun n42 hf => ?_)
      · refine r_loc dL_law_1348 rfl ?_
        refine r_loc dL_law_1349 rfl ?_
        refine r_loc dL_law_1350 rfl ?_
        refine r_iconst (v := 1) dL_law_1351 rfl ?_
        refine r_alu dL_law_1352 rfl ?_
        refine r_sld dL_law_1353 hf (fun v526 hf => ?_)
        refine r_loc dL_law_1354 rfl ?_
        refine r_loc dL_law_1355 rfl ?_
        refine r_iconst (v := 2) dL_law_1356 rfl ?_
        refine r_alu dL_law_1357 rfl ?_
        refine r_sld dL_law_1358 hf (fun v527 hf => ?_)
        obtain ⟨v529, c528, hf⟩ := cal_inv hf
        have g530 := rf_X11_sure (X := X) (d := d) (by omega) v526 v527 T c528
        refine r_virt (pre := [.int v527, .int v526]) (rest := []) dL_law_1359 ct_13_189 rfl (sh_0) (Nat.le_of_ble_eq_true rfl) (Nat.le_of_ble_eq_true rfl) g530 ?_
        refine r_loc dL_law_1362 rfl ?_
        refine r_loc dL_law_1363 rfl ?_
        refine r_loc dL_law_1364 rfl ?_
        refine r_iconst (v := 1) dL_law_1365 rfl ?_
        refine r_alu dL_law_1366 rfl ?_
        refine r_sld dL_law_1367 hf (fun v531 hf => ?_)
        refine r_loc dL_law_1368 rfl ?_
        refine r_loc dL_law_1369 rfl ?_
        refine r_iconst (v := 2) dL_law_1370 rfl ?_
        refine r_alu dL_law_1371 rfl ?_
        refine r_sld dL_law_1372 hf (fun v532 hf => ?_)
        obtain ⟨v534, h536, c533, hf⟩ := cal2_inv hf
        have g538 := rf_X12_sure (X := X) (d := d) (by omega) v531 v532 T c533
        have T537 : am_TP h536.2.2 := g538.2
        refine r_virt (pre := [.int v532, .int v531]) (rest := [.int v529]) dL_law_1373 ct_13_192 rfl (sh_413) (Nat.le_of_ble_eq_true rfl) (Nat.le_of_ble_eq_true rfl) g538 ?_
        refine r_eq (q := 1483) dL_law_1376 rfl hf (fun hf => ?_) (fun hf => ?_)
        · refine r_loc (L' := [some (.retAddr 0), some (.ref 0), some (.ref 413), some (.int (x3 + 6))]) dL_law_1483 rfl ?_
          refine r_goto (q := 18) dL_law_1486 rfl ?_
          exact ih (x3 + 6) h536 T537 hf
        · refine r_iconst (v := 0) dL_law_1379 rfl ?_
          cases hf
          exact r_z0 T537 dL_law_1380
      refine r_swc (x := (v1 &&& 63)) (v := 43) (off := 1348) (q := 1381) dL_law_33 rfl rfl hf (fun hf => ?_) (fun n43 hf => ?_)
      · refine r_loc dL_law_1381 rfl ?_
        refine r_loc dL_law_1382 rfl ?_
        refine r_loc dL_law_1383 rfl ?_
        refine r_iconst (v := 1) dL_law_1384 rfl ?_
        refine r_alu dL_law_1385 rfl ?_
        refine r_sld dL_law_1386 hf (fun v539 hf => ?_)
        refine r_loc dL_law_1387 rfl ?_
        refine r_loc dL_law_1388 rfl ?_
        refine r_iconst (v := 2) dL_law_1389 rfl ?_
        refine r_alu dL_law_1390 rfl ?_
        refine r_sld dL_law_1391 hf (fun v540 hf => ?_)
        obtain ⟨v542, h544, c541, hf⟩ := cal2_inv hf
        have g546 := rf_X11_ask (X := X) (d := d) (by omega) v539 v540 T c541
        have T545 : am_TP h544.2.2 := g546.2
        refine r_virt (pre := [.int v540, .int v539]) (rest := []) dL_law_1392 ct_13_193 rfl (sh_0) (Nat.le_of_ble_eq_true rfl) (Nat.le_of_ble_eq_true rfl) g546 ?_
        refine r_loc dL_law_1395 rfl ?_
        refine r_loc dL_law_1396 rfl ?_
        refine r_loc dL_law_1397 rfl ?_
        refine r_iconst (v := 1) dL_law_1398 rfl ?_
        refine r_alu dL_law_1399 rfl ?_
        refine r_sld dL_law_1400 hf (fun v547 hf => ?_)
        refine r_loc dL_law_1401 rfl ?_
        refine r_loc dL_law_1402 rfl ?_
        refine r_iconst (v := 2) dL_law_1403 rfl ?_
        refine r_alu dL_law_1404 rfl ?_
        refine r_sld dL_law_1405 hf (fun v548 hf => ?_)
        obtain ⟨v550, h552, c549, hf⟩ := cal2_inv hf
        have g554 := rf_X12_ask (X := X) (d := d) (by omega) v547 v548 T545 c549
        have T553 : am_TP h552.2.2 := g554.2
        refine r_virt (pre := [.int v548, .int v547]) (rest := [.int v542]) dL_law_1406 ct_13_196 rfl (sh_413) (Nat.le_of_ble_eq_true rfl) (Nat.le_of_ble_eq_true rfl) g554 ?_
        refine r_eq (q := 1483) dL_law_1409 rfl hf (fun hf => ?_) (fun hf => ?_)
        · refine r_loc (L' := [some (.retAddr 0), some (.ref 0), some (.ref 413), some (.int (x3 + 6))]) dL_law_1483 rfl ?_
          refine r_goto (q := 18) dL_law_1486 rfl ?_
          exact ih (x3 + 6) h552 T553 hf
        · refine r_iconst (v := 0) dL_law_1412 rfl ?_
          cases hf
          exact r_z0 T553 dL_law_1413
      refine r_swc (x := (v1 &&& 63)) (v := 44) (off := 1381) (q := 1414) dL_law_33 rfl rfl hf (fun hf => ?_) (fun n44 hf => ?_)
      · refine r_loc dL_law_1414 rfl ?_
        refine r_loc dL_law_1415 rfl ?_
        refine r_loc dL_law_1416 rfl ?_
        refine r_iconst (v := 1) dL_law_1417 rfl ?_
        refine r_alu dL_law_1418 rfl ?_
        refine r_sld dL_law_1419 hf (fun v555 hf => ?_)
        obtain ⟨v557, h559, c556, hf⟩ := cal2_inv hf
        have g561 := rf_X11_image (X := X) (d := d) (by omega) v555 T c556
        have T560 : am_TP h559.2.2 := g561.2
        refine r_virt (pre := [.int v555]) (rest := []) dL_law_1420 ct_13_197 rfl (sh_0) (Nat.le_of_ble_eq_true rfl) (Nat.le_of_ble_eq_true rfl) g561 ?_
        refine r_loc dL_law_1423 rfl ?_
        refine r_loc dL_law_1424 rfl ?_
        refine r_loc dL_law_1425 rfl ?_
        refine r_iconst (v := 1) dL_law_1426 rfl ?_
        refine r_alu dL_law_1427 rfl ?_
        refine r_sld dL_law_1428 hf (fun v562 hf => ?_)
        obtain ⟨v564, h566, c563, hf⟩ := cal2_inv hf
        have g568 := rf_X12_image (X := X) (d := d) (by omega) v562 T560 c563
        have T567 : am_TP h566.2.2 := g568.2
        refine r_virt (pre := [.int v562]) (rest := [.int v557]) dL_law_1429 ct_13_200 rfl (sh_413) (Nat.le_of_ble_eq_true rfl) (Nat.le_of_ble_eq_true rfl) g568 ?_
        refine r_eq (q := 1483) dL_law_1432 rfl hf (fun hf => ?_) (fun hf => ?_)
        · refine r_loc (L' := [some (.retAddr 0), some (.ref 0), some (.ref 413), some (.int (x3 + 6))]) dL_law_1483 rfl ?_
          refine r_goto (q := 18) dL_law_1486 rfl ?_
          exact ih (x3 + 6) h566 T567 hf
        · refine r_iconst (v := 0) dL_law_1435 rfl ?_
          cases hf
          exact r_z0 T567 dL_law_1436
      refine r_swc (x := (v1 &&& 63)) (v := 45) (off := 1404) (q := 1437) dL_law_33 rfl rfl hf (fun hf => ?_) (fun n45 hf => ?_)
      · refine r_loc dL_law_1437 rfl ?_
        refine r_loc dL_law_1438 rfl ?_
        refine r_loc dL_law_1439 rfl ?_
        refine r_iconst (v := 1) dL_law_1440 rfl ?_
        refine r_alu dL_law_1441 rfl ?_
        refine r_sld dL_law_1442 hf (fun v569 hf => ?_)
        obtain ⟨v571, h573, c570, hf⟩ := cal2_inv hf
        have g575 := rf_X11_back (X := X) (d := d) (by omega) v569 T c570
        have T574 : am_TP h573.2.2 := g575.2
        refine r_virt (pre := [.int v569]) (rest := []) dL_law_1443 ct_13_201 rfl (sh_0) (Nat.le_of_ble_eq_true rfl) (Nat.le_of_ble_eq_true rfl) g575 ?_
        refine r_loc dL_law_1446 rfl ?_
        refine r_loc dL_law_1447 rfl ?_
        refine r_loc dL_law_1448 rfl ?_
        refine r_iconst (v := 1) dL_law_1449 rfl ?_
        refine r_alu dL_law_1450 rfl ?_
        refine r_sld dL_law_1451 hf (fun v576 hf => ?_)
        obtain ⟨v578, h580, c577, hf⟩ := cal2_inv hf
        have g582 := rf_X12_back (X := X) (d := d) (by omega) v576 T574 c577
        have T581 : am_TP h580.2.2 := g582.2
        refine r_virt (pre := [.int v576]) (rest := [.int v571]) dL_law_1452 ct_13_204 rfl (sh_413) (Nat.le_of_ble_eq_true rfl) (Nat.le_of_ble_eq_true rfl) g582 ?_
        refine r_eq (q := 1483) dL_law_1455 rfl hf (fun hf => ?_) (fun hf => ?_)
        · refine r_loc (L' := [some (.retAddr 0), some (.ref 0), some (.ref 413), some (.int (x3 + 6))]) dL_law_1483 rfl ?_
          refine r_goto (q := 18) dL_law_1486 rfl ?_
          exact ih (x3 + 6) h580 T581 hf
        · refine r_iconst (v := 0) dL_law_1458 rfl ?_
          cases hf
          exact r_z0 T581 dL_law_1459
      refine r_swc (x := (v1 &&& 63)) (v := 46) (off := 1427) (q := 1460) dL_law_33 rfl rfl hf (fun hf => ?_) (fun n46 hf => ?_)
      · refine r_loc dL_law_1460 rfl ?_
        refine r_loc dL_law_1461 rfl ?_
        refine r_loc dL_law_1462 rfl ?_
        refine r_iconst (v := 1) dL_law_1463 rfl ?_
        refine r_alu dL_law_1464 rfl ?_
        refine r_sld dL_law_1465 hf (fun v583 hf => ?_)
        obtain ⟨v585, c584, hf⟩ := cal_inv hf
        have g586 := rf_X11_about (X := X) (d := d) (by omega) v583 T c584
        refine r_virt (pre := [.int v583]) (rest := []) dL_law_1466 ct_13_205 rfl (sh_0) (Nat.le_of_ble_eq_true rfl) (Nat.le_of_ble_eq_true rfl) g586 ?_
        refine r_loc dL_law_1469 rfl ?_
        refine r_loc dL_law_1470 rfl ?_
        refine r_loc dL_law_1471 rfl ?_
        refine r_iconst (v := 1) dL_law_1472 rfl ?_
        refine r_alu dL_law_1473 rfl ?_
        refine r_sld dL_law_1474 hf (fun v587 hf => ?_)
        obtain ⟨v589, c588, hf⟩ := cal_inv hf
        have g590 := rf_X12_about (X := X) (d := d) (by omega) v587 T c588
        refine r_virt (pre := [.int v587]) (rest := [.int v585]) dL_law_1475 ct_13_208 rfl (sh_413) (Nat.le_of_ble_eq_true rfl) (Nat.le_of_ble_eq_true rfl) g590 ?_
        refine r_eq (q := 1483) dL_law_1478 rfl hf (fun hf => ?_) (fun hf => ?_)
        · refine r_loc (L' := [some (.retAddr 0), some (.ref 0), some (.ref 413), some (.int (x3 + 6))]) dL_law_1483 rfl ?_
          refine r_goto (q := 18) dL_law_1486 rfl ?_
          exact ih (x3 + 6) h T hf
        · refine r_iconst (v := 0) dL_law_1481 rfl ?_
          cases hf
          exact r_z0 T dL_law_1482
      refine r_swdt (q := 1483) dL_law_33 (by decide) ⟨Or.inr n0, Or.inr n1, Or.inr n2, Or.inr n3, Or.inr n4, Or.inr n5, Or.inr n6, Or.inr n7, Or.inr n8, Or.inr n9, Or.inr n10, Or.inr n11, Or.inr n12, Or.inr n13, Or.inr n14, Or.inr n15, Or.inr n16, Or.inr n17, Or.inr n18, Or.inr n19, Or.inr n20, Or.inr n21, Or.inr n22, Or.inr n23, Or.inr n24, Or.inr n25, Or.inr n26, Or.inr n27, Or.inr n28, Or.inr n29, Or.inr n30, Or.inr n31, Or.inr n32, Or.inr n33, Or.inr n34, Or.inr n35, Or.inr n36, Or.inr n37, Or.inr n38, Or.inr n39, Or.inr n40, Or.inr n41, Or.inr n42, Or.inr n43, Or.inr n44, Or.inr n45, Or.inr n46, trivial⟩ rfl ?_
      refine r_loc (L' := [some (.retAddr 0), some (.ref 0), some (.ref 413), some (.int (x3 + 6))]) dL_law_1483 rfl ?_
      refine r_goto (q := 18) dL_law_1486 rfl ?_
      exact ih (x3 + 6) h T hf
theorem rf_L_law {X : am_X} {d : Nat} (hd : 209 ≤ d) {h : am_H} (T : am_TP h.2.2) {r : Int32 × am_H} (hf : f_L_law X h = some r) : am_G X d 13 false cL_law (some .boolean) 18 [some (.retAddr 0), some (.ref 0), some (.ref 413), some (.int 0)] [] (am_SH, h) (some (.int r.1), (am_SH, r.2)) := by
  obtain ⟨d, rfl⟩ : ∃ e, d = e + 1 := ⟨d - 1, by omega⟩
  unfold f_L_law at hf
  refine rl_L_law_18 (by omega)  4000 0 h T hf
