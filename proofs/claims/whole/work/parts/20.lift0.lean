/-! Lifted methods, by program (wip/whole/lift.py, run1.py) -/
def f_X9_withLetter (x0 : Int64) (x2 : Int32) (h : am_H) : Option (Int64) := some ((x0 * 32) + (Int32.toInt64 ((x2 - 97) + 1)))
theorem rf_X9_withLetter {X : am_X} {d : Nat} (hd : 0 ≤ d) (x0 : Int64) (x2 : Int32) {h : am_H} (T : am_TP h.2.2) {r : Int64} (hf : f_X9_withLetter x0 x2 h = some r) : am_G X d 9 false cX9_withLetter (some .long) 0 [some (.long x0), none, some (.int x2)] [] (am_SH, h) (some (.long r), (am_SH, h)) := by
  unfold f_X9_withLetter at hf
  refine r_loc dX9_withLetter_0 rfl ?_
  refine r_ldc2 dX9_withLetter_1 k64_9_84 ?_
  refine r_alu dX9_withLetter_4 rfl ?_
  refine r_loc dX9_withLetter_5 rfl ?_
  refine r_bipush (v := 97) dX9_withLetter_6 rfl ?_
  refine r_alu dX9_withLetter_8 rfl ?_
  refine r_iconst (v := 1) dX9_withLetter_9 rfl ?_
  refine r_alu dX9_withLetter_10 rfl ?_
  refine r_alu dX9_withLetter_11 rfl ?_
  refine r_alu dX9_withLetter_12 rfl ?_
  cases hf
  exact r_ret T dX9_withLetter_13 rfl
def jn_X7_remove_85 (k_62 : Int32 → am_H → Option (am_H)) (s0 : Nat) (x1 : Int32) (x2 : Int32) (h : am_H) : Option (am_H) := rdI h (s0 + 7) 8 x2 fun v23 => if v23 = x1 then wrI h (s0 + 7) 8 x2 (-1) fun h24 => k_62 (x2 + 1) h24 else k_62 (x2 + 1) h
def lp_X7_remove_62 (s0 : Nat) (p1 : Int32) : Nat → Int32 → am_H → Option (am_H)
  | 0, _, _ => none
  | n + 1, x2, h => if x2 < 8 then rdI h (s0 + 6) 8 x2 fun v22 => if v22 = p1 then wrI h (s0 + 6) 8 x2 (-1) fun h27 => jn_X7_remove_85 (lp_X7_remove_62 s0 p1 n) s0 p1 x2 h27 else jn_X7_remove_85 (lp_X7_remove_62 s0 p1 n) s0 p1 x2 h else some h
def f_X7_remove (s0 : Nat) (x1 : Int32) (h : am_H) : Option (am_H) := if x1 < 0 then some h else if x1 < 8 then wrI h (s0 + 1) 8 x1 0 fun h1 => wrI h1 (s0 + 2) 8 x1 (-1) fun h4 => wrI h4 (s0 + 3) 8 x1 0 fun h7 => wrI h7 (s0 + 4) 8 x1 0 fun h10 => wrI h10 (s0 + 5) 8 x1 0 fun h13 => wrI h13 (s0 + 6) 8 x1 (-1) fun h16 => wrI h16 (s0 + 7) 8 x1 (-1) fun h19 => lp_X7_remove_62 s0 x1  4000 0 h19 else some h
theorem rj_X7_remove_85 {X : am_X} {d : Nat} (hd : 0 ≤ d) (k_62 : Int32 → am_H → Option (am_H)) (s0 : Nat) (x1 : Int32) (x2 : Int32) (hs0 : s0 ∈ am_ST) {h : am_H} (T : am_TP h.2.2) {r : am_H} (hk_62 : ∀ (x2 : Int32) (h : am_H), am_TP h.2.2 → k_62 x2 h = some r → am_G X d 7 false cX7_remove none 62 [some (.ref s0), some (.int x1), some (.int x2)] [] (am_SH, h) (none, (am_SH, r))) (hf : jn_X7_remove_85 k_62 s0 x1 x2 h = some r) : am_G X d 7 false cX7_remove none 85 [some (.ref s0), some (.int x1), some (.int x2)] [] (am_SH, h) (none, (am_SH, r)) := by
  unfold jn_X7_remove_85 at hf
  refine r_loc dX7_remove_85 rfl ?_
  refine r_getR dX7_remove_86 fl_7_30 (sh_S hs0) (Or.inr ⟨_, rfl⟩) (tp_S_7 T hs0) ?_
  refine r_loc dX7_remove_89 rfl ?_
  refine r_iald dX7_remove_90 (sh_S_7 hs0) hf (fun v23 hf => ?_)
  refine r_loc dX7_remove_91 rfl ?_
  refine r_ne (q := 102) dX7_remove_92 rfl hf (fun hf => ?_) (fun hf => ?_)
  · refine r_loc (L' := [some (.ref s0), some (.int x1), some (.int (x2 + 1))]) dX7_remove_102 rfl ?_
    refine r_goto (q := 62) dX7_remove_105 rfl ?_
    exact hk_62 (x2 + 1) h T hf
  · refine r_loc dX7_remove_95 rfl ?_
    refine r_getR dX7_remove_96 fl_7_30 (sh_S hs0) (Or.inr ⟨_, rfl⟩) (tp_S_7 T hs0) ?_
    refine r_loc dX7_remove_99 rfl ?_
    refine r_iconst (v := (-1)) dX7_remove_100 rfl ?_
    refine r_iast dX7_remove_101 (sh_S_7 hs0) hf (fun h24 e26 hf => ?_)
    have T25 := tp_eq e26 T
    refine r_loc (L' := [some (.ref s0), some (.int x1), some (.int (x2 + 1))]) dX7_remove_102 rfl ?_
    refine r_goto (q := 62) dX7_remove_105 rfl ?_
    exact hk_62 (x2 + 1) h24 T25 hf
theorem rl_X7_remove_62 {X : am_X} {d : Nat} (hd : 0 ≤ d) (s0 : Nat) (p1 : Int32) (hs0 : s0 ∈ am_ST) {r : am_H} : ∀ (n : Nat) (x2 : Int32) (h : am_H), am_TP h.2.2 → lp_X7_remove_62 s0 p1 n x2 h = some r → am_G X d 7 false cX7_remove none 62 [some (.ref s0), some (.int p1), some (.int x2)] [] (am_SH, h) (none, (am_SH, r)) := by
  intro n
  induction n with
  | zero => intro x2 h T hf; cases hf
  | succ n ih =>
    intro x2 h T hf
    rw [lp_X7_remove_62] at hf
    refine r_loc dX7_remove_62 rfl ?_
    refine r_bipush (v := 8) dX7_remove_63 rfl ?_
    refine r_ge (q := 108) dX7_remove_65 rfl hf (fun hf => ?_) (fun hf => ?_)
    · cases hf
      exact r_ret T dX7_remove_108 rfl
    · refine r_loc dX7_remove_68 rfl ?_
      refine r_getR dX7_remove_69 fl_7_27 (sh_S hs0) (Or.inr ⟨_, rfl⟩) (tp_S_6 T hs0) ?_
      refine r_loc dX7_remove_72 rfl ?_
      refine r_iald dX7_remove_73 (sh_S_6 hs0) hf (fun v22 hf => ?_)
      refine r_loc dX7_remove_74 rfl ?_
      refine r_ne (q := 85) dX7_remove_75 rfl hf (fun hf => ?_) (fun hf => ?_)
      · exact rj_X7_remove_85 (by omega) (lp_X7_remove_62 s0 p1 n) s0 p1 x2 hs0 T (ih) hf
      · refine r_loc dX7_remove_78 rfl ?_
        refine r_getR dX7_remove_79 fl_7_27 (sh_S hs0) (Or.inr ⟨_, rfl⟩) (tp_S_6 T hs0) ?_
        refine r_loc dX7_remove_82 rfl ?_
        refine r_iconst (v := (-1)) dX7_remove_83 rfl ?_
        refine r_iast dX7_remove_84 (sh_S_6 hs0) hf (fun h27 e29 hf => ?_)
        have T28 := tp_eq e29 T
        exact rj_X7_remove_85 (by omega) (lp_X7_remove_62 s0 p1 n) s0 p1 x2 hs0 T28 (ih) hf
theorem rf_X7_remove {X : am_X} {d : Nat} (hd : 0 ≤ d) (s0 : Nat) (x1 : Int32) (hs0 : s0 ∈ am_ST) {h : am_H} (T : am_TP h.2.2) {r : am_H} (hf : f_X7_remove s0 x1 h = some r) : am_G X d 7 false cX7_remove none 0 [some (.ref s0), some (.int x1), none] [] (am_SH, h) (none, (am_SH, r)) := by
  unfold f_X7_remove at hf
  refine r_loc dX7_remove_0 rfl ?_
  refine r_lt0 (q := 10) dX7_remove_1 rfl hf (fun hf => ?_) (fun hf => ?_)
  · cases hf
    exact r_ret T dX7_remove_10 rfl
  · refine r_loc dX7_remove_4 rfl ?_
    refine r_bipush (v := 8) dX7_remove_5 rfl ?_
    refine r_lt (q := 11) dX7_remove_7 rfl hf (fun hf => ?_) (fun hf => ?_)
    · refine r_loc dX7_remove_11 rfl ?_
      refine r_getR dX7_remove_12 fl_7_9 (sh_S hs0) (Or.inr ⟨_, rfl⟩) (tp_S_1 T hs0) ?_
      refine r_loc dX7_remove_15 rfl ?_
      refine r_iconst (v := 0) dX7_remove_16 rfl ?_
      refine r_iast dX7_remove_17 (sh_S_1 hs0) hf (fun h1 e3 hf => ?_)
      have T2 := tp_eq e3 T
      refine r_loc dX7_remove_18 rfl ?_
      refine r_getR dX7_remove_19 fl_7_15 (sh_S hs0) (Or.inr ⟨_, rfl⟩) (tp_S_2 T2 hs0) ?_
      refine r_loc dX7_remove_22 rfl ?_
      refine r_iconst (v := (-1)) dX7_remove_23 rfl ?_
      refine r_iast dX7_remove_24 (sh_S_2 hs0) hf (fun h4 e6 hf => ?_)
      have T5 := tp_eq e6 T2
      refine r_loc dX7_remove_25 rfl ?_
      refine r_getR dX7_remove_26 fl_7_18 (sh_S hs0) (Or.inr ⟨_, rfl⟩) (tp_S_3 T5 hs0) ?_
      refine r_loc dX7_remove_29 rfl ?_
      refine r_iconst (v := 0) dX7_remove_30 rfl ?_
      refine r_iast dX7_remove_31 (sh_S_3 hs0) hf (fun h7 e9 hf => ?_)
      have T8 := tp_eq e9 T5
      refine r_loc dX7_remove_32 rfl ?_
      refine r_getR dX7_remove_33 fl_7_21 (sh_S hs0) (Or.inr ⟨_, rfl⟩) (tp_S_4 T8 hs0) ?_
      refine r_loc dX7_remove_36 rfl ?_
      refine r_iconst (v := 0) dX7_remove_37 rfl ?_
      refine r_iast dX7_remove_38 (sh_S_4 hs0) hf (fun h10 e12 hf => ?_)
      have T11 := tp_eq e12 T8
      refine r_loc dX7_remove_39 rfl ?_
      refine r_getR dX7_remove_40 fl_7_24 (sh_S hs0) (Or.inr ⟨_, rfl⟩) (tp_S_5 T11 hs0) ?_
      refine r_loc dX7_remove_43 rfl ?_
      refine r_iconst (v := 0) dX7_remove_44 rfl ?_
      refine r_iast dX7_remove_45 (sh_S_5 hs0) hf (fun h13 e15 hf => ?_)
      have T14 := tp_eq e15 T11
      refine r_loc dX7_remove_46 rfl ?_
      refine r_getR dX7_remove_47 fl_7_27 (sh_S hs0) (Or.inr ⟨_, rfl⟩) (tp_S_6 T14 hs0) ?_
      refine r_loc dX7_remove_50 rfl ?_
      refine r_iconst (v := (-1)) dX7_remove_51 rfl ?_
      refine r_iast dX7_remove_52 (sh_S_6 hs0) hf (fun h16 e18 hf => ?_)
      have T17 := tp_eq e18 T14
      refine r_loc dX7_remove_53 rfl ?_
      refine r_getR dX7_remove_54 fl_7_30 (sh_S hs0) (Or.inr ⟨_, rfl⟩) (tp_S_7 T17 hs0) ?_
      refine r_loc dX7_remove_57 rfl ?_
      refine r_iconst (v := (-1)) dX7_remove_58 rfl ?_
      refine r_iast dX7_remove_59 (sh_S_7 hs0) hf (fun h19 e21 hf => ?_)
      have T20 := tp_eq e21 T17
      refine r_iconst (v := 0) dX7_remove_60 rfl ?_
      refine r_loc (L' := [some (.ref s0), some (.int x1), some (.int 0)]) dX7_remove_61 rfl ?_
      refine rl_X7_remove_62 (by omega) s0 x1 hs0  4000 0 h19 T20 hf
    · cases hf
      exact r_ret T dX7_remove_10 rfl
def lp_X9_put_3 (p1 : Int32) : Nat → Int32 → am_H → Option (am_H)
  | 0, _, _ => none
  | n + 1, x2, h => if x2 < 0 then some h else bnd (h.1 1 3) fun v1 => if v1 < 0 then lp_X9_put_3 p1 n (x2 + (-8)) h else bnd (h.1 1 3) fun v2 => if v2 < 1600 then bnd (h.1 1 3) fun v3 => wrI h 2 1600 v3 ((p1 >>> (x2 &&& 31)) &&& 255) fun h4 => bnd (h4.1 1 3) fun v7 => ptI h4 1 3 (v7 + 1) fun h8 => lp_X9_put_3 p1 n (x2 + (-8)) h8 else lp_X9_put_3 p1 n (x2 + (-8)) h
def f_X9_put (x1 : Int32) (h : am_H) : Option (am_H) := lp_X9_put_3 x1  4000 24 h
theorem rl_X9_put_3 {X : am_X} {d : Nat} (hd : 0 ≤ d) (p1 : Int32) {r : am_H} : ∀ (n : Nat) (x2 : Int32) (h : am_H), am_TP h.2.2 → lp_X9_put_3 p1 n x2 h = some r → am_G X d 9 false cX9_put none 3 [some (.ref 1), some (.int p1), some (.int x2)] [] (am_SH, h) (none, (am_SH, r)) := by
  intro n
  induction n with
  | zero => intro x2 h T hf; cases hf
  | succ n ih =>
    intro x2 h T hf
    rw [lp_X9_put_3] at hf
    refine r_loc dX9_put_3 rfl ?_
    refine r_lt0 (q := 56) dX9_put_4 rfl hf (fun hf => ?_) (fun hf => ?_)
    · cases hf
      exact r_ret T dX9_put_56 rfl
    · refine r_loc dX9_put_7 rfl ?_
      refine r_getI dX9_put_8 fl_9_23 sh_1 rfl hf (fun v1 hf => ?_)
      refine r_lt0 (q := 50) dX9_put_11 rfl hf (fun hf => ?_) (fun hf => ?_)
      · refine r_loc (L' := [some (.ref 1), some (.int p1), some (.int (x2 + (-8)))]) dX9_put_50 rfl ?_
        refine r_goto (q := 3) dX9_put_53 rfl ?_
        exact ih (x2 + (-8)) h T hf
      · refine r_loc dX9_put_14 rfl ?_
        refine r_getI dX9_put_15 fl_9_23 sh_1 rfl hf (fun v2 hf => ?_)
        refine r_sipush (v := 1600) dX9_put_18 rfl ?_
        refine r_ge (q := 50) dX9_put_21 rfl hf (fun hf => ?_) (fun hf => ?_)
        · refine r_loc (L' := [some (.ref 1), some (.int p1), some (.int (x2 + (-8)))]) dX9_put_50 rfl ?_
          refine r_goto (q := 3) dX9_put_53 rfl ?_
          exact ih (x2 + (-8)) h T hf
        · refine r_loc dX9_put_24 rfl ?_
          refine r_getR dX9_put_25 fl_9_9 sh_1 (Or.inr ⟨_, rfl⟩) (tp_1_0 T) ?_
          refine r_loc dX9_put_28 rfl ?_
          refine r_getI dX9_put_29 fl_9_23 sh_1 rfl hf (fun v3 hf => ?_)
          refine r_loc dX9_put_32 rfl ?_
          refine r_loc dX9_put_33 rfl ?_
          refine r_alu dX9_put_34 rfl ?_
          refine r_sipush (v := 255) dX9_put_35 rfl ?_
          refine r_alu dX9_put_38 rfl ?_
          refine r_iast dX9_put_39 sh_2 hf (fun h4 e6 hf => ?_)
          have T5 := tp_eq e6 T
          refine r_loc dX9_put_40 rfl ?_
          refine r_alu dX9_put_41 rfl ?_
          refine r_getI dX9_put_42 fl_9_23 sh_1 rfl hf (fun v7 hf => ?_)
          refine r_iconst (v := 1) dX9_put_45 rfl ?_
          refine r_alu dX9_put_46 rfl ?_
          refine r_putI dX9_put_47 fl_9_23 sh_1 ⟨rfl, rfl⟩ hf (fun h8 e10 hf => ?_)
          have T9 := tp_eq e10 T5
          refine r_loc (L' := [some (.ref 1), some (.int p1), some (.int (x2 + (-8)))]) dX9_put_50 rfl ?_
          refine r_goto (q := 3) dX9_put_53 rfl ?_
          exact ih (x2 + (-8)) h8 T9 hf
theorem rf_X9_put {X : am_X} {d : Nat} (hd : 0 ≤ d) (x1 : Int32) {h : am_H} (T : am_TP h.2.2) {r : am_H} (hf : f_X9_put x1 h = some r) : am_G X d 9 false cX9_put none 0 [some (.ref 1), some (.int x1), none] [] (am_SH, h) (none, (am_SH, r)) := by
  unfold f_X9_put at hf
  refine r_bipush (v := 24) dX9_put_0 rfl ?_
  refine r_loc (L' := [some (.ref 1), some (.int x1), some (.int 24)]) dX9_put_2 rfl ?_
  refine rl_X9_put_3 (by omega) x1  4000 24 h T hf
def f_X11_feed (x1 : Int32) (x2 : Int32) (x3 : Int32) (x4 : Int32) (x5 : Int32) (h : am_H) : Option (Int32 × am_H) := bnd (h.1 1 3) fun v1 => if 1580 < v1 then some ((-1), h) else cal (f_X9_put x1 h) fun h3 => cal (f_X9_put x2 h3) fun h7 => cal (f_X9_put x3 h7) fun h11 => cal (f_X9_put x4 h11) fun h15 => cal (f_X9_put x5 h15) fun h19 => bnd (h19.1 1 3) fun v22 => some (v22, h19)
theorem rf_X11_feed {X : am_X} {d : Nat} (hd : 1 ≤ d) (x1 : Int32) (x2 : Int32) (x3 : Int32) (x4 : Int32) (x5 : Int32) {h : am_H} (T : am_TP h.2.2) {r : Int32 × am_H} (hf : f_X11_feed x1 x2 x3 x4 x5 h = some r) : am_G X d 11 false cX11_feed (some .int) 0 [some (.ref 0), some (.int x1), some (.int x2), some (.int x3), some (.int x4), some (.int x5)] [] (am_SH, h) (some (.int r.1), (am_SH, r.2)) := by
  unfold f_X11_feed at hf
  obtain ⟨d, rfl⟩ : ∃ e, d = e + 1 := ⟨d - 1, by omega⟩
  refine r_loc dX11_feed_0 rfl ?_
  refine r_getR dX11_feed_1 fl_11_12 sh_0 (Or.inl ⟨_, rfl⟩) (tp_0_0 T) ?_
  refine r_getI dX11_feed_4 fl_11_84 sh_1 rfl hf (fun v1 hf => ?_)
  refine r_sipush (v := 1580) dX11_feed_7 rfl ?_
  refine r_le (q := 15) dX11_feed_10 rfl hf (fun hf => ?_) (fun hf => ?_)
  · refine r_loc dX11_feed_15 rfl ?_
    refine r_getR dX11_feed_16 fl_11_12 sh_0 (Or.inl ⟨_, rfl⟩) (tp_0_0 T) ?_
    refine r_loc dX11_feed_19 rfl ?_
    obtain ⟨h3, c2, hf⟩ := cal_inv hf
    have g5 := rf_X9_put (X := X) (d := d) (by omega) x1 T c2
    have T4 : am_TP h3.2.2 := g5.2
    refine r_virt (pre := [.int x1]) (rest := []) dX11_feed_20 ct_11_87 rfl (sh_1) (Nat.le_of_ble_eq_true rfl) (Nat.le_of_ble_eq_true rfl) g5 ?_
    refine r_loc dX11_feed_23 rfl ?_
    refine r_getR dX11_feed_24 fl_11_12 sh_0 (Or.inl ⟨_, rfl⟩) (tp_0_0 T4) ?_
    refine r_loc dX11_feed_27 rfl ?_
    obtain ⟨h7, c6, hf⟩ := cal_inv hf
    have g9 := rf_X9_put (X := X) (d := d) (by omega) x2 T4 c6
    have T8 : am_TP h7.2.2 := g9.2
    refine r_virt (pre := [.int x2]) (rest := []) dX11_feed_28 ct_11_87 rfl (sh_1) (Nat.le_of_ble_eq_true rfl) (Nat.le_of_ble_eq_true rfl) g9 ?_
    refine r_loc dX11_feed_31 rfl ?_
    refine r_getR dX11_feed_32 fl_11_12 sh_0 (Or.inl ⟨_, rfl⟩) (tp_0_0 T8) ?_
    refine r_loc dX11_feed_35 rfl ?_
    obtain ⟨h11, c10, hf⟩ := cal_inv hf
    have g13 := rf_X9_put (X := X) (d := d) (by omega) x3 T8 c10
    have T12 : am_TP h11.2.2 := g13.2
    refine r_virt (pre := [.int x3]) (rest := []) dX11_feed_36 ct_11_87 rfl (sh_1) (Nat.le_of_ble_eq_true rfl) (Nat.le_of_ble_eq_true rfl) g13 ?_
    refine r_loc dX11_feed_39 rfl ?_
    refine r_getR dX11_feed_40 fl_11_12 sh_0 (Or.inl ⟨_, rfl⟩) (tp_0_0 T12) ?_
    refine r_loc dX11_feed_43 rfl ?_
    obtain ⟨h15, c14, hf⟩ := cal_inv hf
    have g17 := rf_X9_put (X := X) (d := d) (by omega) x4 T12 c14
    have T16 : am_TP h15.2.2 := g17.2
    refine r_virt (pre := [.int x4]) (rest := []) dX11_feed_45 ct_11_87 rfl (sh_1) (Nat.le_of_ble_eq_true rfl) (Nat.le_of_ble_eq_true rfl) g17 ?_
    refine r_loc dX11_feed_48 rfl ?_
    refine r_getR dX11_feed_49 fl_11_12 sh_0 (Or.inl ⟨_, rfl⟩) (tp_0_0 T16) ?_
    refine r_loc dX11_feed_52 rfl ?_
    obtain ⟨h19, c18, hf⟩ := cal_inv hf
    have g21 := rf_X9_put (X := X) (d := d) (by omega) x5 T16 c18
    have T20 : am_TP h19.2.2 := g21.2
    refine r_virt (pre := [.int x5]) (rest := []) dX11_feed_54 ct_11_87 rfl (sh_1) (Nat.le_of_ble_eq_true rfl) (Nat.le_of_ble_eq_true rfl) g21 ?_
    refine r_loc dX11_feed_57 rfl ?_
    refine r_getR dX11_feed_58 fl_11_12 sh_0 (Or.inl ⟨_, rfl⟩) (tp_0_0 T20) ?_
    refine r_getI dX11_feed_61 fl_11_84 sh_1 rfl hf (fun v22 hf => ?_)
    cases hf
    exact r_ri T20 dX11_feed_64
  · refine r_iconst (v := (-1)) dX11_feed_13 rfl ?_
    cases hf
    exact r_ri T dX11_feed_14
def f_X11_end (x1 : Int32) (h : am_H) : Option (Int32 × am_H) := if x1 < 0 then some ((-1), h) else bnd (h.1 1 3) fun v1 => if v1 < x1 then some ((-1), h) else ptI h 1 3 x1 fun h2 => some (x1, h2)
theorem rf_X11_end {X : am_X} {d : Nat} (hd : 0 ≤ d) (x1 : Int32) {h : am_H} (T : am_TP h.2.2) {r : Int32 × am_H} (hf : f_X11_end x1 h = some r) : am_G X d 11 false cX11_end (some .int) 0 [some (.ref 0), some (.int x1)] [] (am_SH, h) (some (.int r.1), (am_SH, r.2)) := by
  unfold f_X11_end at hf
  refine r_loc dX11_end_0 rfl ?_
  refine r_lt0 (q := 15) dX11_end_1 rfl hf (fun hf => ?_) (fun hf => ?_)
  · refine r_iconst (v := (-1)) dX11_end_15 rfl ?_
    cases hf
    exact r_ri T dX11_end_16
  · refine r_loc dX11_end_4 rfl ?_
    refine r_loc dX11_end_5 rfl ?_
    refine r_getR dX11_end_6 fl_11_12 sh_0 (Or.inl ⟨_, rfl⟩) (tp_0_0 T) ?_
    refine r_getI dX11_end_9 fl_11_84 sh_1 rfl hf (fun v1 hf => ?_)
    refine r_le (q := 17) dX11_end_12 rfl hf (fun hf => ?_) (fun hf => ?_)
    · refine r_loc dX11_end_17 rfl ?_
      refine r_getR dX11_end_18 fl_11_12 sh_0 (Or.inl ⟨_, rfl⟩) (tp_0_0 T) ?_
      refine r_loc dX11_end_21 rfl ?_
      refine r_putI dX11_end_22 fl_11_84 sh_1 ⟨rfl, rfl⟩ hf (fun h2 e4 hf => ?_)
      have T3 := tp_eq e4 T
      refine r_loc dX11_end_25 rfl ?_
      cases hf
      exact r_ri T3 dX11_end_26
    · refine r_iconst (v := (-1)) dX11_end_15 rfl ?_
      cases hf
      exact r_ri T dX11_end_16
def f_X2_clear_23  (h : am_H) : Option (am_H) := ptI h 23 3 0 fun h1 => ptI h1 23 4 0 fun h4 => some h4
theorem rf_X2_clear_23 {X : am_X} {d : Nat} (hd : 0 ≤ d)  {h : am_H} (T : am_TP h.2.2) {r : am_H} (hf : f_X2_clear_23  h = some r) : am_G X d 2 false cX2_clear none 0 [some (.ref 23)] [] (am_SH, h) (none, (am_SH, r)) := by
  unfold f_X2_clear_23 at hf
  refine r_loc dX2_clear_0 rfl ?_
  refine r_iconst (v := 0) dX2_clear_1 rfl ?_
  refine r_putI dX2_clear_2 fl_2_21 sh_23 ⟨rfl, rfl⟩ hf (fun h1 e3 hf => ?_)
  have T2 := tp_eq e3 T
  refine r_loc dX2_clear_5 rfl ?_
  refine r_iconst (v := 0) dX2_clear_6 rfl ?_
  refine r_putI dX2_clear_7 fl_2_25 sh_23 ⟨rfl, rfl⟩ hf (fun h4 e6 hf => ?_)
  have T5 := tp_eq e6 T2
  cases hf
  exact r_ret T5 dX2_clear_10 rfl
def f_X2_addStep_23 (x1 : Int32) (x2 : Int32) (h : am_H) : Option (am_H) := bnd (h.1 23 3) fun v1 => if v1 < 0 then some h else bnd (h.1 23 3) fun v2 => if v2 < 300 then bnd (h.1 23 3) fun v3 => wrI h 24 300 v3 x1 fun h4 => bnd (h4.1 23 3) fun v7 => wrI h4 25 300 v7 x2 fun h8 => bnd (h8.1 23 3) fun v11 => ptI h8 23 3 (v11 + 1) fun h12 => some h12 else some h
theorem rf_X2_addStep_23 {X : am_X} {d : Nat} (hd : 0 ≤ d) (x1 : Int32) (x2 : Int32) {h : am_H} (T : am_TP h.2.2) {r : am_H} (hf : f_X2_addStep_23 x1 x2 h = some r) : am_G X d 2 false cX2_addStep none 0 [some (.ref 23), some (.int x1), some (.int x2)] [] (am_SH, h) (none, (am_SH, r)) := by
  unfold f_X2_addStep_23 at hf
  refine r_loc dX2_addStep_0 rfl ?_
  refine r_getI dX2_addStep_1 fl_2_21 sh_23 rfl hf (fun v1 hf => ?_)
  refine r_lt0 (q := 47) dX2_addStep_4 rfl hf (fun hf => ?_) (fun hf => ?_)
  · cases hf
    exact r_ret T dX2_addStep_47 rfl
  · refine r_loc dX2_addStep_7 rfl ?_
    refine r_getI dX2_addStep_8 fl_2_21 sh_23 rfl hf (fun v2 hf => ?_)
    refine r_sipush (v := 300) dX2_addStep_11 rfl ?_
    refine r_ge (q := 47) dX2_addStep_14 rfl hf (fun hf => ?_) (fun hf => ?_)
    · cases hf
      exact r_ret T dX2_addStep_47 rfl
    · refine r_loc dX2_addStep_17 rfl ?_
      refine r_getR dX2_addStep_18 fl_2_9 sh_23 (Or.inr ⟨_, rfl⟩) (tp_23_0 T) ?_
      refine r_loc dX2_addStep_21 rfl ?_
      refine r_getI dX2_addStep_22 fl_2_21 sh_23 rfl hf (fun v3 hf => ?_)
      refine r_loc dX2_addStep_25 rfl ?_
      refine r_iast dX2_addStep_26 sh_24 hf (fun h4 e6 hf => ?_)
      have T5 := tp_eq e6 T
      refine r_loc dX2_addStep_27 rfl ?_
      refine r_getR dX2_addStep_28 fl_2_15 sh_23 (Or.inr ⟨_, rfl⟩) (tp_23_1 T5) ?_
      refine r_loc dX2_addStep_31 rfl ?_
      refine r_getI dX2_addStep_32 fl_2_21 sh_23 rfl hf (fun v7 hf => ?_)
      refine r_loc dX2_addStep_35 rfl ?_
      refine r_iast dX2_addStep_36 sh_25 hf (fun h8 e10 hf => ?_)
      have T9 := tp_eq e10 T5
      refine r_loc dX2_addStep_37 rfl ?_
      refine r_alu dX2_addStep_38 rfl ?_
      refine r_getI dX2_addStep_39 fl_2_21 sh_23 rfl hf (fun v11 hf => ?_)
      refine r_iconst (v := 1) dX2_addStep_42 rfl ?_
      refine r_alu dX2_addStep_43 rfl ?_
      refine r_putI dX2_addStep_44 fl_2_21 sh_23 ⟨rfl, rfl⟩ hf (fun h12 e14 hf => ?_)
      have T13 := tp_eq e14 T9
      cases hf
      exact r_ret T13 dX2_addStep_47 rfl
def f_X2_beAsUntold_23  (h : am_H) : Option (am_H) := cal (f_X2_clear_23 h) fun h2 => cal (f_X2_addStep_23 14 0 h2) fun h6 => cal (f_X2_addStep_23 16 0 h6) fun h10 => cal (f_X2_addStep_23 25 0 h10) fun h14 => some h14
theorem rf_X2_beAsUntold_23 {X : am_X} {d : Nat} (hd : 1 ≤ d)  {h : am_H} (T : am_TP h.2.2) {r : am_H} (hf : f_X2_beAsUntold_23  h = some r) : am_G X d 2 false cX2_beAsUntold none 0 [some (.ref 23)] [] (am_SH, h) (none, (am_SH, r)) := by
  unfold f_X2_beAsUntold_23 at hf
  obtain ⟨d, rfl⟩ : ∃ e, d = e + 1 := ⟨d - 1, by omega⟩
  refine r_loc dX2_beAsUntold_0 rfl ?_
  obtain ⟨h2, c1, hf⟩ := cal_inv hf
  have g4 := rf_X2_clear_23 (X := X) (d := d) (by omega) T c1
  have T3 : am_TP h2.2.2 := g4.2
  refine r_virt (pre := []) (rest := []) dX2_beAsUntold_1 ct_2_28 rfl (sh_23) (Nat.le_of_ble_eq_true rfl) (Nat.le_of_ble_eq_true rfl) g4 ?_
  refine r_loc dX2_beAsUntold_4 rfl ?_
  refine r_bipush (v := 14) dX2_beAsUntold_5 rfl ?_
  refine r_iconst (v := 0) dX2_beAsUntold_7 rfl ?_
  obtain ⟨h6, c5, hf⟩ := cal_inv hf
  have g8 := rf_X2_addStep_23 (X := X) (d := d) (by omega) 14 0 T3 c5
  have T7 : am_TP h6.2.2 := g8.2
  refine r_virt (pre := [.int 0, .int 14]) (rest := []) dX2_beAsUntold_8 ct_2_31 rfl (sh_23) (Nat.le_of_ble_eq_true rfl) (Nat.le_of_ble_eq_true rfl) g8 ?_
  refine r_loc dX2_beAsUntold_11 rfl ?_
  refine r_bipush (v := 16) dX2_beAsUntold_12 rfl ?_
  refine r_iconst (v := 0) dX2_beAsUntold_14 rfl ?_
  obtain ⟨h10, c9, hf⟩ := cal_inv hf
  have g12 := rf_X2_addStep_23 (X := X) (d := d) (by omega) 16 0 T7 c9
  have T11 : am_TP h10.2.2 := g12.2
  refine r_virt (pre := [.int 0, .int 16]) (rest := []) dX2_beAsUntold_15 ct_2_31 rfl (sh_23) (Nat.le_of_ble_eq_true rfl) (Nat.le_of_ble_eq_true rfl) g12 ?_
  refine r_loc dX2_beAsUntold_18 rfl ?_
  refine r_bipush (v := 25) dX2_beAsUntold_19 rfl ?_
  refine r_iconst (v := 0) dX2_beAsUntold_21 rfl ?_
  obtain ⟨h14, c13, hf⟩ := cal_inv hf
  have g16 := rf_X2_addStep_23 (X := X) (d := d) (by omega) 25 0 T11 c13
  have T15 : am_TP h14.2.2 := g16.2
  refine r_virt (pre := [.int 0, .int 25]) (rest := []) dX2_beAsUntold_22 ct_2_31 rfl (sh_23) (Nat.le_of_ble_eq_true rfl) (Nat.le_of_ble_eq_true rfl) g16 ?_
  cases hf
  exact r_ret T15 dX2_beAsUntold_25 rfl
def f_X4_clear_17  (h : am_H) : Option (am_H) := ptI h 17 6 0 fun h1 => ptI h1 17 7 0 fun h4 => ptI h4 17 8 3 fun h7 => ptI h7 17 9 0 fun h10 => ptI h10 17 10 0 fun h13 => cal (f_X2_beAsUntold_23 h13) fun h17 => some h17
theorem rf_X4_clear_17 {X : am_X} {d : Nat} (hd : 2 ≤ d)  {h : am_H} (T : am_TP h.2.2) {r : am_H} (hf : f_X4_clear_17  h = some r) : am_G X d 4 false cX4_clear none 0 [some (.ref 17)] [] (am_SH, h) (none, (am_SH, r)) := by
  unfold f_X4_clear_17 at hf
  obtain ⟨d, rfl⟩ : ∃ e, d = e + 1 := ⟨d - 1, by omega⟩
  refine r_loc dX4_clear_0 rfl ?_
  refine r_iconst (v := 0) dX4_clear_1 rfl ?_
  refine r_putI dX4_clear_2 fl_4_34 sh_17 ⟨rfl, rfl⟩ hf (fun h1 e3 hf => ?_)
  have T2 := tp_eq e3 T
  refine r_loc dX4_clear_5 rfl ?_
  refine r_iconst (v := 0) dX4_clear_6 rfl ?_
  refine r_putI dX4_clear_7 fl_4_38 sh_17 ⟨rfl, rfl⟩ hf (fun h4 e6 hf => ?_)
  have T5 := tp_eq e6 T2
  refine r_loc dX4_clear_10 rfl ?_
  refine r_iconst (v := 3) dX4_clear_11 rfl ?_
  refine r_putI dX4_clear_12 fl_4_41 sh_17 ⟨rfl, rfl⟩ hf (fun h7 e9 hf => ?_)
  have T8 := tp_eq e9 T5
  refine r_loc dX4_clear_15 rfl ?_
  refine r_iconst (v := 0) dX4_clear_16 rfl ?_
  refine r_putI dX4_clear_17 fl_4_44 sh_17 ⟨rfl, rfl⟩ hf (fun h10 e12 hf => ?_)
  have T11 := tp_eq e12 T8
  refine r_loc dX4_clear_20 rfl ?_
  refine r_iconst (v := 0) dX4_clear_21 rfl ?_
  refine r_putI dX4_clear_22 fl_4_47 sh_17 ⟨rfl, rfl⟩ hf (fun h13 e15 hf => ?_)
  have T14 := tp_eq e15 T11
  refine r_loc dX4_clear_25 rfl ?_
  refine r_getR dX4_clear_26 fl_4_30 sh_17 (Or.inl ⟨_, rfl⟩) (tp_17_5 T14) ?_
  obtain ⟨h17, c16, hf⟩ := cal_inv hf
  have g19 := rf_X2_beAsUntold_23 (X := X) (d := d) (by omega) T14 c16
  have T18 : am_TP h17.2.2 := g19.2
  refine r_virt (pre := []) (rest := []) dX4_clear_29 ct_4_50 rfl (sh_23) (Nat.le_of_ble_eq_true rfl) (Nat.le_of_ble_eq_true rfl) g19 ?_
  cases hf
  exact r_ret T18 dX4_clear_32 rfl
def f_X9_look  (h : am_H) : Option (Int32) := bnd (h.1 1 2) fun v1 => if v1 < 0 then some (-1) else bnd (h.1 1 2) fun v2 => bnd (h.1 1 3) fun v3 => if v2 < v3 then bnd (h.1 1 2) fun v4 => if v4 < 1600 then bnd (h.1 1 2) fun v5 => rdI h 2 1600 v5 fun v6 => some v6 else some (-1) else some (-1)
theorem rf_X9_look {X : am_X} {d : Nat} (hd : 0 ≤ d)  {h : am_H} (T : am_TP h.2.2) {r : Int32} (hf : f_X9_look  h = some r) : am_G X d 9 false cX9_look (some .int) 0 [some (.ref 1)] [] (am_SH, h) (some (.int r), (am_SH, h)) := by
  unfold f_X9_look at hf
  refine r_loc dX9_look_0 rfl ?_
  refine r_getI dX9_look_1 fl_9_19 sh_1 rfl hf (fun v1 hf => ?_)
  refine r_lt0 (q := 40) dX9_look_4 rfl hf (fun hf => ?_) (fun hf => ?_)
  · refine r_iconst (v := (-1)) dX9_look_40 rfl ?_
    cases hf
    exact r_ri T dX9_look_41
  · refine r_loc dX9_look_7 rfl ?_
    refine r_getI dX9_look_8 fl_9_19 sh_1 rfl hf (fun v2 hf => ?_)
    refine r_loc dX9_look_11 rfl ?_
    refine r_getI dX9_look_12 fl_9_23 sh_1 rfl hf (fun v3 hf => ?_)
    refine r_ge (q := 40) dX9_look_15 rfl hf (fun hf => ?_) (fun hf => ?_)
    · refine r_iconst (v := (-1)) dX9_look_40 rfl ?_
      cases hf
      exact r_ri T dX9_look_41
    · refine r_loc dX9_look_18 rfl ?_
      refine r_getI dX9_look_19 fl_9_19 sh_1 rfl hf (fun v4 hf => ?_)
      refine r_sipush (v := 1600) dX9_look_22 rfl ?_
      refine r_ge (q := 40) dX9_look_25 rfl hf (fun hf => ?_) (fun hf => ?_)
      · refine r_iconst (v := (-1)) dX9_look_40 rfl ?_
        cases hf
        exact r_ri T dX9_look_41
      · refine r_loc dX9_look_28 rfl ?_
        refine r_getR dX9_look_29 fl_9_9 sh_1 (Or.inr ⟨_, rfl⟩) (tp_1_0 T) ?_
        refine r_loc dX9_look_32 rfl ?_
        refine r_getI dX9_look_33 fl_9_19 sh_1 rfl hf (fun v5 hf => ?_)
        refine r_iald dX9_look_36 sh_2 hf (fun v6 hf => ?_)
        refine r_goto (q := 41) dX9_look_37 rfl ?_
        cases hf
        exact r_ri T dX9_look_41
def f_X9_isBlank (x0 : Int32) (h : am_H) : Option (Int32) := if x0 = 32 then some 1 else if x0 = 10 then some 1 else some 0
theorem rf_X9_isBlank {X : am_X} {d : Nat} (hd : 0 ≤ d) (x0 : Int32) {h : am_H} (T : am_TP h.2.2) {r : Int32} (hf : f_X9_isBlank x0 h = some r) : am_G X d 9 false cX9_isBlank (some .boolean) 0 [some (.int x0)] [] (am_SH, h) (some (.int r), (am_SH, h)) := by
  unfold f_X9_isBlank at hf
  refine r_loc dX9_isBlank_0 rfl ?_
  refine r_bipush (v := 32) dX9_isBlank_1 rfl ?_
  refine r_eq (q := 12) dX9_isBlank_3 rfl hf (fun hf => ?_) (fun hf => ?_)
  · refine r_iconst (v := 1) dX9_isBlank_12 rfl ?_
    refine r_goto (q := 17) dX9_isBlank_13 rfl ?_
    cases hf
    exact r_z1 T dX9_isBlank_17
  · refine r_loc dX9_isBlank_6 rfl ?_
    refine r_bipush (v := 10) dX9_isBlank_7 rfl ?_
    refine r_ne (q := 16) dX9_isBlank_9 rfl hf (fun hf => ?_) (fun hf => ?_)
    · refine r_iconst (v := 0) dX9_isBlank_16 rfl ?_
      cases hf
      exact r_z0 T dX9_isBlank_17
    · refine r_iconst (v := 1) dX9_isBlank_12 rfl ?_
      refine r_goto (q := 17) dX9_isBlank_13 rfl ?_
      cases hf
      exact r_z1 T dX9_isBlank_17
def f_X9_isLetter (x0 : Int32) (h : am_H) : Option (Int32) := if x0 < 97 then some 0 else if 122 < x0 then some 0 else some 1
theorem rf_X9_isLetter {X : am_X} {d : Nat} (hd : 0 ≤ d) (x0 : Int32) {h : am_H} (T : am_TP h.2.2) {r : Int32} (hf : f_X9_isLetter x0 h = some r) : am_G X d 9 false cX9_isLetter (some .boolean) 0 [some (.int x0)] [] (am_SH, h) (some (.int r), (am_SH, h)) := by
  unfold f_X9_isLetter at hf
  refine r_loc dX9_isLetter_0 rfl ?_
  refine r_bipush (v := 97) dX9_isLetter_1 rfl ?_
  refine r_lt (q := 16) dX9_isLetter_3 rfl hf (fun hf => ?_) (fun hf => ?_)
  · refine r_iconst (v := 0) dX9_isLetter_16 rfl ?_
    cases hf
    exact r_z0 T dX9_isLetter_17
  · refine r_loc dX9_isLetter_6 rfl ?_
    refine r_bipush (v := 122) dX9_isLetter_7 rfl ?_
    refine r_gt (q := 16) dX9_isLetter_9 rfl hf (fun hf => ?_) (fun hf => ?_)
    · refine r_iconst (v := 0) dX9_isLetter_16 rfl ?_
      cases hf
      exact r_z0 T dX9_isLetter_17
    · refine r_iconst (v := 1) dX9_isLetter_12 rfl ?_
      refine r_goto (q := 17) dX9_isLetter_13 rfl ?_
      cases hf
      exact r_z1 T dX9_isLetter_17
def f_X9_isDigit (x0 : Int32) (h : am_H) : Option (Int32) := if x0 < 48 then some 0 else if 57 < x0 then some 0 else some 1
theorem rf_X9_isDigit {X : am_X} {d : Nat} (hd : 0 ≤ d) (x0 : Int32) {h : am_H} (T : am_TP h.2.2) {r : Int32} (hf : f_X9_isDigit x0 h = some r) : am_G X d 9 false cX9_isDigit (some .boolean) 0 [some (.int x0)] [] (am_SH, h) (some (.int r), (am_SH, h)) := by
  unfold f_X9_isDigit at hf
  refine r_loc dX9_isDigit_0 rfl ?_
  refine r_bipush (v := 48) dX9_isDigit_1 rfl ?_
  refine r_lt (q := 16) dX9_isDigit_3 rfl hf (fun hf => ?_) (fun hf => ?_)
  · refine r_iconst (v := 0) dX9_isDigit_16 rfl ?_
    cases hf
    exact r_z0 T dX9_isDigit_17
  · refine r_loc dX9_isDigit_6 rfl ?_
    refine r_bipush (v := 57) dX9_isDigit_7 rfl ?_
    refine r_gt (q := 16) dX9_isDigit_9 rfl hf (fun hf => ?_) (fun hf => ?_)
    · refine r_iconst (v := 0) dX9_isDigit_16 rfl ?_
      cases hf
      exact r_z0 T dX9_isDigit_17
    · refine r_iconst (v := 1) dX9_isDigit_12 rfl ?_
      refine r_goto (q := 17) dX9_isDigit_13 rfl ?_
      cases hf
      exact r_z1 T dX9_isDigit_17
def f_X9_signKind (x0 : Int32) (h : am_H) : Option (Int32) := if x0 = 37 then some 28 else if x0 = 40 then some 19 else if x0 = 41 then some 20 else if x0 = 42 then some 26 else if x0 = 43 then some 24 else if x0 = 45 then some 25 else if x0 = 47 then some 27 else if x0 = 59 then some 18 else if x0 = 60 then some 21 else if x0 = 61 then some 23 else if x0 = 62 then some 22 else some 32
theorem rf_X9_signKind {X : am_X} {d : Nat} (hd : 0 ≤ d) (x0 : Int32) {h : am_H} (T : am_TP h.2.2) {r : Int32} (hf : f_X9_signKind x0 h = some r) : am_G X d 9 false cX9_signKind (some .int) 0 [some (.int x0)] [] (am_SH, h) (some (.int r), (am_SH, h)) := by
  unfold f_X9_signKind at hf
  refine r_loc dX9_signKind_0 rfl ?_
  refine r_swc (x := x0) (v := 37) (off := 149) (q := 150) dX9_signKind_1 rfl rfl hf (fun hf => ?_) (fun n37 hf => ?_)
  · refine r_bipush (v := 28) dX9_signKind_150 rfl ?_
    cases hf
    exact r_ri T dX9_signKind_152
  refine r_swc (x := x0) (v := 40) (off := 122) (q := 123) dX9_signKind_1 rfl rfl hf (fun hf => ?_) (fun n40 hf => ?_)
  · refine r_bipush (v := 19) dX9_signKind_123 rfl ?_
    cases hf
    exact r_ri T dX9_signKind_125
  refine r_swc (x := x0) (v := 41) (off := 125) (q := 126) dX9_signKind_1 rfl rfl hf (fun hf => ?_) (fun n41 hf => ?_)
  · refine r_bipush (v := 20) dX9_signKind_126 rfl ?_
    cases hf
    exact r_ri T dX9_signKind_128
  refine r_swc (x := x0) (v := 42) (off := 143) (q := 144) dX9_signKind_1 rfl rfl hf (fun hf => ?_) (fun n42 hf => ?_)
  · refine r_bipush (v := 26) dX9_signKind_144 rfl ?_
    cases hf
    exact r_ri T dX9_signKind_146
  refine r_swc (x := x0) (v := 43) (off := 137) (q := 138) dX9_signKind_1 rfl rfl hf (fun hf => ?_) (fun n43 hf => ?_)
  · refine r_bipush (v := 24) dX9_signKind_138 rfl ?_
    cases hf
    exact r_ri T dX9_signKind_140
  refine r_swc (x := x0) (v := 45) (off := 140) (q := 141) dX9_signKind_1 rfl rfl hf (fun hf => ?_) (fun n45 hf => ?_)
  · refine r_bipush (v := 25) dX9_signKind_141 rfl ?_
    cases hf
    exact r_ri T dX9_signKind_143
  refine r_swc (x := x0) (v := 47) (off := 146) (q := 147) dX9_signKind_1 rfl rfl hf (fun hf => ?_) (fun n47 hf => ?_)
  · refine r_bipush (v := 27) dX9_signKind_147 rfl ?_
    cases hf
    exact r_ri T dX9_signKind_149
  refine r_swc (x := x0) (v := 59) (off := 119) (q := 120) dX9_signKind_1 rfl rfl hf (fun hf => ?_) (fun n59 hf => ?_)
  · refine r_bipush (v := 18) dX9_signKind_120 rfl ?_
    cases hf
    exact r_ri T dX9_signKind_122
  refine r_swc (x := x0) (v := 60) (off := 128) (q := 129) dX9_signKind_1 rfl rfl hf (fun hf => ?_) (fun n60 hf => ?_)
  · refine r_bipush (v := 21) dX9_signKind_129 rfl ?_
    cases hf
    exact r_ri T dX9_signKind_131
  refine r_swc (x := x0) (v := 61) (off := 134) (q := 135) dX9_signKind_1 rfl rfl hf (fun hf => ?_) (fun n61 hf => ?_)
  · refine r_bipush (v := 23) dX9_signKind_135 rfl ?_
    cases hf
    exact r_ri T dX9_signKind_137
  refine r_swc (x := x0) (v := 62) (off := 131) (q := 132) dX9_signKind_1 rfl rfl hf (fun hf => ?_) (fun n62 hf => ?_)
  · refine r_bipush (v := 22) dX9_signKind_132 rfl ?_
    cases hf
    exact r_ri T dX9_signKind_134
  refine r_swdt (q := 153) dX9_signKind_1 (by decide) ⟨Or.inr n37, Or.inl rfl, Or.inl rfl, Or.inr n40, Or.inr n41, Or.inr n42, Or.inr n43, Or.inl rfl, Or.inr n45, Or.inl rfl, Or.inr n47, Or.inl rfl, Or.inl rfl, Or.inl rfl, Or.inl rfl, Or.inl rfl, Or.inl rfl, Or.inl rfl, Or.inl rfl, Or.inl rfl, Or.inl rfl, Or.inl rfl, Or.inr n59, Or.inr n60, Or.inr n61, Or.inr n62, trivial⟩ rfl ?_
  refine r_bipush (v := 32) dX9_signKind_153 rfl ?_
  cases hf
  exact r_ri T dX9_signKind_155
def lp_X9_takeNumber_9 (k_64 : Int32 → am_H → Option (am_H)) : Nat → Int32 → Int32 → am_H → Option (am_H)
  | 0, _, _, _ => none
  | n + 1, x1, x2, h => if x2 < 1600 then cal (f_X9_look h) fun v5 => cal (f_X9_isDigit v5 h) fun v8 => if v8 = 0 then k_64 x1 h else bnd (h.1 1 6) fun v10 => cal (f_X9_look h) fun v12 => ptI h 1 6 (((v10 * 10) + v12) - 48) fun h14 => bnd (h14.1 1 2) fun v17 => ptI h14 1 2 (v17 + 1) fun h18 => lp_X9_takeNumber_9 k_64 n (x1 + 1) (x2 + 1) h18 else k_64 x1 h
def jn_X9_takeNumber_64 (x1 : Int32) (h : am_H) : Option (am_H) := if 4 < x1 then ptI h 1 4 32 fun h24 => some h24 else cal (f_X9_look h) fun v28 => cal (f_X9_isLetter v28 h) fun v31 => if v31 = 0 then ptI h 1 4 29 fun h33 => some h33 else ptI h 1 4 32 fun h36 => some h36
def f_X9_takeNumber  (h : am_H) : Option (am_H) := ptI h 1 6 0 fun h1 => lp_X9_takeNumber_9 (fun z21 h22 => jn_X9_takeNumber_64 z21 h22) 4000 0 0 h1
theorem rl_X9_takeNumber_9 {X : am_X} {d : Nat} (hd : 1 ≤ d) (k_64 : Int32 → am_H → Option (am_H)) {r : am_H} (hk_64 : ∀ (z1 : Int32) (h : am_H), am_TP h.2.2 → k_64 z1 h = some r → am_G X d 9 false cX9_takeNumber none 64 [some (.ref 1), some (.int z1), none] [] (am_SH, h) (none, (am_SH, r))) : ∀ (n : Nat) (x1 : Int32) (x2 : Int32) (h : am_H), am_TP h.2.2 → lp_X9_takeNumber_9 k_64 n x1 x2 h = some r → am_G X d 9 false cX9_takeNumber none 9 [some (.ref 1), some (.int x1), some (.int x2)] [] (am_SH, h) (none, (am_SH, r)) := by
  obtain ⟨d, rfl⟩ : ∃ e, d = e + 1 := ⟨d - 1, by omega⟩
  intro n
  induction n with
  | zero => intro x1 x2 h T hf; cases hf
  | succ n ih =>
    intro x1 x2 h T hf
    rw [lp_X9_takeNumber_9] at hf
    refine r_loc dX9_takeNumber_9 rfl ?_
    refine r_sipush (v := 1600) dX9_takeNumber_10 rfl ?_
    refine r_ge (q := 64) dX9_takeNumber_13 rfl hf (fun hf => ?_) (fun hf => ?_)
    · refine r_weak (L := [some (.ref 1), some (.int x1), none]) (am_le_s (am_le_s (am_le_n am_le_0))) ?_
      exact hk_64 x1 h T hf
    · refine r_loc dX9_takeNumber_16 rfl ?_
      obtain ⟨v5, c4, hf⟩ := cal_inv hf
      have g6 := rf_X9_look (X := X) (d := d) (by omega) T c4
      refine r_virt (pre := []) (rest := []) dX9_takeNumber_17 ct_9_57 rfl (sh_1) (Nat.le_of_ble_eq_true rfl) (Nat.le_of_ble_eq_true rfl) g6 ?_
      obtain ⟨v8, c7, hf⟩ := cal_inv hf
      have g9 := rf_X9_isDigit (X := X) (d := d) (by omega) v5 T c7
      refine r_stat (pre := [.int v5]) (rest := []) dX9_takeNumber_20 ct_9_70 rfl (Nat.le_of_ble_eq_true rfl) (Nat.le_of_ble_eq_true rfl) g9 ?_
      refine r_eq0 (q := 64) dX9_takeNumber_23 rfl hf (fun hf => ?_) (fun hf => ?_)
      · refine r_weak (L := [some (.ref 1), some (.int x1), none]) (am_le_s (am_le_s (am_le_n am_le_0))) ?_
        exact hk_64 x1 h T hf
      · refine r_loc dX9_takeNumber_26 rfl ?_
        refine r_loc dX9_takeNumber_27 rfl ?_
        refine r_getI dX9_takeNumber_28 fl_9_32 sh_1 rfl hf (fun v10 hf => ?_)
        refine r_bipush (v := 10) dX9_takeNumber_31 rfl ?_
        refine r_alu dX9_takeNumber_33 rfl ?_
        refine r_loc dX9_takeNumber_34 rfl ?_
        obtain ⟨v12, c11, hf⟩ := cal_inv hf
        have g13 := rf_X9_look (X := X) (d := d) (by omega) T c11
        refine r_virt (pre := []) (rest := [.int (v10 * 10), .ref 1]) dX9_takeNumber_35 ct_9_57 rfl (sh_1) (Nat.le_of_ble_eq_true rfl) (Nat.le_of_ble_eq_true rfl) g13 ?_
        refine r_alu dX9_takeNumber_38 rfl ?_
        refine r_bipush (v := 48) dX9_takeNumber_39 rfl ?_
        refine r_alu dX9_takeNumber_41 rfl ?_
        refine r_putI dX9_takeNumber_42 fl_9_32 sh_1 ⟨rfl, rfl⟩ hf (fun h14 e16 hf => ?_)
        have T15 := tp_eq e16 T
        refine r_loc (L' := [some (.ref 1), some (.int (x1 + 1)), some (.int x2)]) dX9_takeNumber_45 rfl ?_
        refine r_loc dX9_takeNumber_48 rfl ?_
        refine r_alu dX9_takeNumber_49 rfl ?_
        refine r_getI dX9_takeNumber_50 fl_9_19 sh_1 rfl hf (fun v17 hf => ?_)
        refine r_iconst (v := 1) dX9_takeNumber_53 rfl ?_
        refine r_alu dX9_takeNumber_54 rfl ?_
        refine r_putI dX9_takeNumber_55 fl_9_19 sh_1 ⟨rfl, rfl⟩ hf (fun h18 e20 hf => ?_)
        have T19 := tp_eq e20 T15
        refine r_loc (L' := [some (.ref 1), some (.int (x1 + 1)), some (.int (x2 + 1))]) dX9_takeNumber_58 rfl ?_
        refine r_goto (q := 9) dX9_takeNumber_61 rfl ?_
        exact ih (x1 + 1) (x2 + 1) h18 T19 hf
theorem rj_X9_takeNumber_64 {X : am_X} {d : Nat} (hd : 1 ≤ d) (x1 : Int32) {h : am_H} (T : am_TP h.2.2) {r : am_H} (hf : jn_X9_takeNumber_64 x1 h = some r) : am_G X d 9 false cX9_takeNumber none 64 [some (.ref 1), some (.int x1), none] [] (am_SH, h) (none, (am_SH, r)) := by
  obtain ⟨d, rfl⟩ : ∃ e, d = e + 1 := ⟨d - 1, by omega⟩
  unfold jn_X9_takeNumber_64 at hf
  refine r_loc dX9_takeNumber_64 rfl ?_
  refine r_loc dX9_takeNumber_65 rfl ?_
  refine r_iconst (v := 4) dX9_takeNumber_66 rfl ?_
  refine r_gt (q := 80) dX9_takeNumber_67 rfl hf (fun hf => ?_) (fun hf => ?_)
  · refine r_bipush (v := 32) dX9_takeNumber_80 rfl ?_
    refine r_goto (q := 87) dX9_takeNumber_82 rfl ?_
    refine r_putI dX9_takeNumber_87 fl_9_26 sh_1 ⟨rfl, rfl⟩ hf (fun h24 e26 hf => ?_)
    have T25 := tp_eq e26 T
    cases hf
    exact r_ret T25 dX9_takeNumber_90 rfl
  · refine r_loc dX9_takeNumber_70 rfl ?_
    obtain ⟨v28, c27, hf⟩ := cal_inv hf
    have g29 := rf_X9_look (X := X) (d := d) (by omega) T c27
    refine r_virt (pre := []) (rest := [.ref 1]) dX9_takeNumber_71 ct_9_57 rfl (sh_1) (Nat.le_of_ble_eq_true rfl) (Nat.le_of_ble_eq_true rfl) g29 ?_
    obtain ⟨v31, c30, hf⟩ := cal_inv hf
    have g32 := rf_X9_isLetter (X := X) (d := d) (by omega) v28 T c30
    refine r_stat (pre := [.int v28]) (rest := [.ref 1]) dX9_takeNumber_74 ct_9_64 rfl (Nat.le_of_ble_eq_true rfl) (Nat.le_of_ble_eq_true rfl) g32 ?_
    refine r_eq0 (q := 85) dX9_takeNumber_77 rfl hf (fun hf => ?_) (fun hf => ?_)
    · refine r_bipush (v := 29) dX9_takeNumber_85 rfl ?_
      refine r_putI dX9_takeNumber_87 fl_9_26 sh_1 ⟨rfl, rfl⟩ hf (fun h33 e35 hf => ?_)
      have T34 := tp_eq e35 T
      cases hf
      exact r_ret T34 dX9_takeNumber_90 rfl
    · refine r_bipush (v := 32) dX9_takeNumber_80 rfl ?_
      refine r_goto (q := 87) dX9_takeNumber_82 rfl ?_
      refine r_putI dX9_takeNumber_87 fl_9_26 sh_1 ⟨rfl, rfl⟩ hf (fun h36 e38 hf => ?_)
      have T37 := tp_eq e38 T
      cases hf
      exact r_ret T37 dX9_takeNumber_90 rfl
theorem rf_X9_takeNumber {X : am_X} {d : Nat} (hd : 1 ≤ d)  {h : am_H} (T : am_TP h.2.2) {r : am_H} (hf : f_X9_takeNumber  h = some r) : am_G X d 9 false cX9_takeNumber none 0 [some (.ref 1), none, none] [] (am_SH, h) (none, (am_SH, r)) := by
  unfold f_X9_takeNumber at hf
  obtain ⟨d, rfl⟩ : ∃ e, d = e + 1 := ⟨d - 1, by omega⟩
  refine r_iconst (v := 0) dX9_takeNumber_0 rfl ?_
  refine r_loc (L' := [some (.ref 1), some (.int 0), none]) dX9_takeNumber_1 rfl ?_
  refine r_loc dX9_takeNumber_2 rfl ?_
  refine r_iconst (v := 0) dX9_takeNumber_3 rfl ?_
  refine r_putI dX9_takeNumber_4 fl_9_32 sh_1 ⟨rfl, rfl⟩ hf (fun h1 e3 hf => ?_)
  have T2 := tp_eq e3 T
  refine r_iconst (v := 0) dX9_takeNumber_7 rfl ?_
  refine r_loc (L' := [some (.ref 1), some (.int 0), some (.int 0)]) dX9_takeNumber_8 rfl ?_
  refine rl_X9_takeNumber_9 (by omega) _ ?_ 4000 0 0 h1 T2 hf
  · intro z21 h22 T23 hf
    exact rj_X9_takeNumber_64 (by omega) z21 T23 hf
def lp_X9_wordKind_2 (p1 : Int64) (h : am_H) : Nat → Int32 → Option (Int32)
  | 0, _ => none
  | n + 1, x3 => if x3 < 18 then rdL h 3 18 x3 fun v1 => if (lg_cmp v1 p1) = 0 then some x3 else lp_X9_wordKind_2 p1 h n (x3 + 1) else some 30
def f_X9_wordKind (x1 : Int64) (h : am_H) : Option (Int32) := lp_X9_wordKind_2 x1 h  4000 0
theorem rl_X9_wordKind_2 {X : am_X} {d : Nat} (hd : 0 ≤ d) (p1 : Int64) {h : am_H} (T : am_TP h.2.2) {r : Int32} : ∀ (n : Nat) (x3 : Int32) , lp_X9_wordKind_2 p1 h n x3 = some r → am_G X d 9 false cX9_wordKind (some .int) 2 [some (.ref 1), some (.long p1), none, some (.int x3)] [] (am_SH, h) (some (.int r), (am_SH, h)) := by
  intro n
  induction n with
  | zero => intro x3 hf; cases hf
  | succ n ih =>
    intro x3 hf
    rw [lp_X9_wordKind_2] at hf
    refine r_loc dX9_wordKind_2 rfl ?_
    refine r_bipush (v := 18) dX9_wordKind_3 rfl ?_
    refine r_ge (q := 27) dX9_wordKind_5 rfl hf (fun hf => ?_) (fun hf => ?_)
    · refine r_bipush (v := 30) dX9_wordKind_27 rfl ?_
      cases hf
      exact r_ri T dX9_wordKind_29
    · refine r_loc dX9_wordKind_8 rfl ?_
      refine r_getR dX9_wordKind_9 fl_9_15 sh_1 (Or.inr ⟨_, rfl⟩) (tp_1_1 T) ?_
      refine r_loc dX9_wordKind_12 rfl ?_
      refine r_lald dX9_wordKind_13 sh_3 hf (fun v1 hf => ?_)
      refine r_loc dX9_wordKind_14 rfl ?_
      refine r_alu dX9_wordKind_15 rfl ?_
      refine r_ne0 (q := 21) dX9_wordKind_16 rfl hf (fun hf => ?_) (fun hf => ?_)
      · refine r_loc (L' := [some (.ref 1), some (.long p1), none, some (.int (x3 + 1))]) dX9_wordKind_21 rfl ?_
        refine r_goto (q := 2) dX9_wordKind_24 rfl ?_
        exact ih (x3 + 1) hf
      · refine r_loc dX9_wordKind_19 rfl ?_
        cases hf
        exact r_ri T dX9_wordKind_20
theorem rf_X9_wordKind {X : am_X} {d : Nat} (hd : 0 ≤ d) (x1 : Int64) {h : am_H} (T : am_TP h.2.2) {r : Int32} (hf : f_X9_wordKind x1 h = some r) : am_G X d 9 false cX9_wordKind (some .int) 0 [some (.ref 1), some (.long x1), none, none] [] (am_SH, h) (some (.int r), (am_SH, h)) := by
  unfold f_X9_wordKind at hf
  refine r_iconst (v := 0) dX9_wordKind_0 rfl ?_
  refine r_loc (L' := [some (.ref 1), some (.long x1), none, some (.int 0)]) dX9_wordKind_1 rfl ?_
  refine rl_X9_wordKind_2 (by omega) x1 T  4000 0  hf
def lp_X9_takeWord_9 (k_60 : Int32 → am_H → Option (am_H)) : Nat → Int32 → Int32 → am_H → Option (am_H)
  | 0, _, _, _ => none
  | n + 1, x1, x2, h => if x2 < 1600 then cal (f_X9_look h) fun v5 => cal (f_X9_isLetter v5 h) fun v8 => if v8 = 0 then k_60 x1 h else bnd (h.2.1 1 7) fun v10 => cal (f_X9_look h) fun v12 => cal (f_X9_withLetter v10 v12 h) fun v15 => ptL h 1 7 v15 fun h17 => bnd (h17.1 1 2) fun v20 => ptI h17 1 2 (v20 + 1) fun h21 => lp_X9_takeWord_9 k_60 n (x1 + 1) (x2 + 1) h21 else k_60 x1 h
def jn_X9_takeWord_60 (x1 : Int32) (h : am_H) : Option (am_H) := if 8 < x1 then ptI h 1 4 32 fun h34 => some h34 else bnd (h.2.1 1 7) fun v27 => cal (f_X9_wordKind v27 h) fun v29 => ptI h 1 4 v29 fun h31 => some h31
def f_X9_takeWord  (h : am_H) : Option (am_H) := ptL h 1 7 0 fun h1 => lp_X9_takeWord_9 (fun z24 h25 => jn_X9_takeWord_60 z24 h25) 4000 0 0 h1
theorem rl_X9_takeWord_9 {X : am_X} {d : Nat} (hd : 1 ≤ d) (k_60 : Int32 → am_H → Option (am_H)) {r : am_H} (hk_60 : ∀ (z1 : Int32) (h : am_H), am_TP h.2.2 → k_60 z1 h = some r → am_G X d 9 false cX9_takeWord none 60 [some (.ref 1), some (.int z1), none] [] (am_SH, h) (none, (am_SH, r))) : ∀ (n : Nat) (x1 : Int32) (x2 : Int32) (h : am_H), am_TP h.2.2 → lp_X9_takeWord_9 k_60 n x1 x2 h = some r → am_G X d 9 false cX9_takeWord none 9 [some (.ref 1), some (.int x1), some (.int x2)] [] (am_SH, h) (none, (am_SH, r)) := by
  obtain ⟨d, rfl⟩ : ∃ e, d = e + 1 := ⟨d - 1, by omega⟩
  intro n
  induction n with
  | zero => intro x1 x2 h T hf; cases hf
  | succ n ih =>
    intro x1 x2 h T hf
    rw [lp_X9_takeWord_9] at hf
    refine r_loc dX9_takeWord_9 rfl ?_
    refine r_sipush (v := 1600) dX9_takeWord_10 rfl ?_
    refine r_ge (q := 60) dX9_takeWord_13 rfl hf (fun hf => ?_) (fun hf => ?_)
    · refine r_weak (L := [some (.ref 1), some (.int x1), none]) (am_le_s (am_le_s (am_le_n am_le_0))) ?_
      exact hk_60 x1 h T hf
    · refine r_loc dX9_takeWord_16 rfl ?_
      obtain ⟨v5, c4, hf⟩ := cal_inv hf
      have g6 := rf_X9_look (X := X) (d := d) (by omega) T c4
      refine r_virt (pre := []) (rest := []) dX9_takeWord_17 ct_9_57 rfl (sh_1) (Nat.le_of_ble_eq_true rfl) (Nat.le_of_ble_eq_true rfl) g6 ?_
      obtain ⟨v8, c7, hf⟩ := cal_inv hf
      have g9 := rf_X9_isLetter (X := X) (d := d) (by omega) v5 T c7
      refine r_stat (pre := [.int v5]) (rest := []) dX9_takeWord_20 ct_9_64 rfl (Nat.le_of_ble_eq_true rfl) (Nat.le_of_ble_eq_true rfl) g9 ?_
      refine r_eq0 (q := 60) dX9_takeWord_23 rfl hf (fun hf => ?_) (fun hf => ?_)
      · refine r_weak (L := [some (.ref 1), some (.int x1), none]) (am_le_s (am_le_s (am_le_n am_le_0))) ?_
        exact hk_60 x1 h T hf
      · refine r_loc dX9_takeWord_26 rfl ?_
        refine r_loc dX9_takeWord_27 rfl ?_
        refine r_getL dX9_takeWord_28 fl_9_35 sh_1 rfl hf (fun v10 hf => ?_)
        refine r_loc dX9_takeWord_31 rfl ?_
        obtain ⟨v12, c11, hf⟩ := cal_inv hf
        have g13 := rf_X9_look (X := X) (d := d) (by omega) T c11
        refine r_virt (pre := []) (rest := [.long v10, .ref 1]) dX9_takeWord_32 ct_9_57 rfl (sh_1) (Nat.le_of_ble_eq_true rfl) (Nat.le_of_ble_eq_true rfl) g13 ?_
        obtain ⟨v15, c14, hf⟩ := cal_inv hf
        have g16 := rf_X9_withLetter (X := X) (d := d) (by omega) v10 v12 T c14
        refine r_stat (pre := [.int v12, .long v10]) (rest := [.ref 1]) dX9_takeWord_35 ct_9_50 rfl (Nat.le_of_ble_eq_true rfl) (Nat.le_of_ble_eq_true rfl) g16 ?_
        refine r_putL dX9_takeWord_38 fl_9_35 sh_1 ⟨rfl, rfl⟩ hf (fun h17 e19 hf => ?_)
        have T18 := tp_eq e19 T
        refine r_loc (L' := [some (.ref 1), some (.int (x1 + 1)), some (.int x2)]) dX9_takeWord_41 rfl ?_
        refine r_loc dX9_takeWord_44 rfl ?_
        refine r_alu dX9_takeWord_45 rfl ?_
        refine r_getI dX9_takeWord_46 fl_9_19 sh_1 rfl hf (fun v20 hf => ?_)
        refine r_iconst (v := 1) dX9_takeWord_49 rfl ?_
        refine r_alu dX9_takeWord_50 rfl ?_
        refine r_putI dX9_takeWord_51 fl_9_19 sh_1 ⟨rfl, rfl⟩ hf (fun h21 e23 hf => ?_)
        have T22 := tp_eq e23 T18
        refine r_loc (L' := [some (.ref 1), some (.int (x1 + 1)), some (.int (x2 + 1))]) dX9_takeWord_54 rfl ?_
        refine r_goto (q := 9) dX9_takeWord_57 rfl ?_
        exact ih (x1 + 1) (x2 + 1) h21 T22 hf
theorem rj_X9_takeWord_60 {X : am_X} {d : Nat} (hd : 1 ≤ d) (x1 : Int32) {h : am_H} (T : am_TP h.2.2) {r : am_H} (hf : jn_X9_takeWord_60 x1 h = some r) : am_G X d 9 false cX9_takeWord none 60 [some (.ref 1), some (.int x1), none] [] (am_SH, h) (none, (am_SH, r)) := by
  obtain ⟨d, rfl⟩ : ∃ e, d = e + 1 := ⟨d - 1, by omega⟩
  unfold jn_X9_takeWord_60 at hf
  refine r_loc dX9_takeWord_60 rfl ?_
  refine r_loc dX9_takeWord_61 rfl ?_
  refine r_bipush (v := 8) dX9_takeWord_62 rfl ?_
  refine r_le (q := 72) dX9_takeWord_64 rfl hf (fun hf => ?_) (fun hf => ?_)
  · refine r_loc dX9_takeWord_72 rfl ?_
    refine r_loc dX9_takeWord_73 rfl ?_
    refine r_getL dX9_takeWord_74 fl_9_35 sh_1 rfl hf (fun v27 hf => ?_)
    obtain ⟨v29, c28, hf⟩ := cal_inv hf
    have g30 := rf_X9_wordKind (X := X) (d := d) (by omega) v27 T c28
    refine r_virt (pre := [.long v27]) (rest := [.ref 1]) dX9_takeWord_77 ct_9_80 rfl (sh_1) (Nat.le_of_ble_eq_true rfl) (Nat.le_of_ble_eq_true rfl) g30 ?_
    refine r_putI dX9_takeWord_80 fl_9_26 sh_1 ⟨rfl, rfl⟩ hf (fun h31 e33 hf => ?_)
    have T32 := tp_eq e33 T
    cases hf
    exact r_ret T32 dX9_takeWord_83 rfl
  · refine r_bipush (v := 32) dX9_takeWord_67 rfl ?_
    refine r_goto (q := 80) dX9_takeWord_69 rfl ?_
    refine r_putI dX9_takeWord_80 fl_9_26 sh_1 ⟨rfl, rfl⟩ hf (fun h34 e36 hf => ?_)
    have T35 := tp_eq e36 T
    cases hf
    exact r_ret T35 dX9_takeWord_83 rfl
theorem rf_X9_takeWord {X : am_X} {d : Nat} (hd : 1 ≤ d)  {h : am_H} (T : am_TP h.2.2) {r : am_H} (hf : f_X9_takeWord  h = some r) : am_G X d 9 false cX9_takeWord none 0 [some (.ref 1), none, none] [] (am_SH, h) (none, (am_SH, r)) := by
  unfold f_X9_takeWord at hf
  obtain ⟨d, rfl⟩ : ∃ e, d = e + 1 := ⟨d - 1, by omega⟩
  refine r_iconst (v := 0) dX9_takeWord_0 rfl ?_
  refine r_loc (L' := [some (.ref 1), some (.int 0), none]) dX9_takeWord_1 rfl ?_
  refine r_loc dX9_takeWord_2 rfl ?_
  refine r_alu (st' := [.long 0, .ref 1]) dX9_takeWord_3 rfl ?_
  refine r_putL dX9_takeWord_4 fl_9_35 sh_1 ⟨rfl, rfl⟩ hf (fun h1 e3 hf => ?_)
  have T2 := tp_eq e3 T
  refine r_iconst (v := 0) dX9_takeWord_7 rfl ?_
  refine r_loc (L' := [some (.ref 1), some (.int 0), some (.int 0)]) dX9_takeWord_8 rfl ?_
  refine rl_X9_takeWord_9 (by omega) _ ?_ 4000 0 0 h1 T2 hf
  · intro z24 h25 T26 hf
    exact rj_X9_takeWord_60 (by omega) z24 T26 hf
def lp_X9_advance_2 (k_35 : am_H → Option (am_H)) : Nat → Int32 → am_H → Option (am_H)
  | 0, _, _ => none
  | n + 1, x1, h => if x1 < 1600 then cal (f_X9_look h) fun v2 => cal (f_X9_isBlank v2 h) fun v5 => if v5 = 0 then k_35  h else bnd (h.1 1 2) fun v7 => ptI h 1 2 (v7 + 1) fun h8 => lp_X9_advance_2 k_35 n (x1 + 1) h8 else k_35  h
def jn_X9_advance_35  (h : am_H) : Option (am_H) := bnd (h.1 1 2) fun v13 => ptI h 1 5 v13 fun h14 => cal (f_X9_look h14) fun v18 => if v18 = (-1) then ptI h14 1 4 31 fun h44 => some h44 else cal (f_X9_isLetter v18 h14) fun v21 => if v21 = 0 then cal (f_X9_isDigit v18 h14) fun v24 => if v24 = 0 then cal (f_X9_signKind v18 h14) fun v27 => ptI h14 1 4 v27 fun h29 => bnd (h29.1 1 2) fun v32 => ptI h29 1 2 (v32 + 1) fun h33 => some h33 else cal (f_X9_takeNumber h14) fun h37 => some h37 else cal (f_X9_takeWord h14) fun h41 => some h41
def f_X9_advance  (h : am_H) : Option (am_H) := lp_X9_advance_2 (fun h11 => jn_X9_advance_35  h11) 4000 0 h
theorem rl_X9_advance_2 {X : am_X} {d : Nat} (hd : 2 ≤ d) (k_35 : am_H → Option (am_H)) {r : am_H} (hk_35 : ∀ (h : am_H), am_TP h.2.2 → k_35  h = some r → am_G X d 9 false cX9_advance none 35 [some (.ref 1), none] [] (am_SH, h) (none, (am_SH, r))) : ∀ (n : Nat) (x1 : Int32) (h : am_H), am_TP h.2.2 → lp_X9_advance_2 k_35 n x1 h = some r → am_G X d 9 false cX9_advance none 2 [some (.ref 1), some (.int x1)] [] (am_SH, h) (none, (am_SH, r)) := by
  obtain ⟨d, rfl⟩ : ∃ e, d = e + 1 := ⟨d - 1, by omega⟩
  intro n
  induction n with
  | zero => intro x1 h T hf; cases hf
  | succ n ih =>
    intro x1 h T hf
    rw [lp_X9_advance_2] at hf
    refine r_loc dX9_advance_2 rfl ?_
    refine r_sipush (v := 1600) dX9_advance_3 rfl ?_
    refine r_ge (q := 35) dX9_advance_6 rfl hf (fun hf => ?_) (fun hf => ?_)
    · refine r_weak (L := [some (.ref 1), none]) (am_le_s (am_le_n am_le_0)) ?_
      exact hk_35  h T hf
    · refine r_loc dX9_advance_9 rfl ?_
      obtain ⟨v2, c1, hf⟩ := cal_inv hf
      have g3 := rf_X9_look (X := X) (d := d) (by omega) T c1
      refine r_virt (pre := []) (rest := []) dX9_advance_10 ct_9_57 rfl (sh_1) (Nat.le_of_ble_eq_true rfl) (Nat.le_of_ble_eq_true rfl) g3 ?_
      obtain ⟨v5, c4, hf⟩ := cal_inv hf
      have g6 := rf_X9_isBlank (X := X) (d := d) (by omega) v2 T c4
      refine r_stat (pre := [.int v2]) (rest := []) dX9_advance_13 ct_9_60 rfl (Nat.le_of_ble_eq_true rfl) (Nat.le_of_ble_eq_true rfl) g6 ?_
      refine r_eq0 (q := 35) dX9_advance_16 rfl hf (fun hf => ?_) (fun hf => ?_)
      · refine r_weak (L := [some (.ref 1), none]) (am_le_s (am_le_n am_le_0)) ?_
        exact hk_35  h T hf
      · refine r_loc dX9_advance_19 rfl ?_
        refine r_alu dX9_advance_20 rfl ?_
        refine r_getI dX9_advance_21 fl_9_19 sh_1 rfl hf (fun v7 hf => ?_)
        refine r_iconst (v := 1) dX9_advance_24 rfl ?_
        refine r_alu dX9_advance_25 rfl ?_
        refine r_putI dX9_advance_26 fl_9_19 sh_1 ⟨rfl, rfl⟩ hf (fun h8 e10 hf => ?_)
        have T9 := tp_eq e10 T
        refine r_loc (L' := [some (.ref 1), some (.int (x1 + 1))]) dX9_advance_29 rfl ?_
        refine r_goto (q := 2) dX9_advance_32 rfl ?_
        exact ih (x1 + 1) h8 T9 hf
theorem rj_X9_advance_35 {X : am_X} {d : Nat} (hd : 2 ≤ d)  {h : am_H} (T : am_TP h.2.2) {r : am_H} (hf : jn_X9_advance_35  h = some r) : am_G X d 9 false cX9_advance none 35 [some (.ref 1), none] [] (am_SH, h) (none, (am_SH, r)) := by
  obtain ⟨d, rfl⟩ : ∃ e, d = e + 1 := ⟨d - 1, by omega⟩
  unfold jn_X9_advance_35 at hf
  refine r_loc dX9_advance_35 rfl ?_
  refine r_loc dX9_advance_36 rfl ?_
  refine r_getI dX9_advance_37 fl_9_19 sh_1 rfl hf (fun v13 hf => ?_)
  refine r_putI dX9_advance_40 fl_9_29 sh_1 ⟨rfl, rfl⟩ hf (fun h14 e16 hf => ?_)
  have T15 := tp_eq e16 T
  refine r_loc dX9_advance_43 rfl ?_
  obtain ⟨v18, c17, hf⟩ := cal_inv hf
  have g19 := rf_X9_look (X := X) (d := d) (by omega) T15 c17
  refine r_virt (pre := []) (rest := []) dX9_advance_44 ct_9_57 rfl (sh_1) (Nat.le_of_ble_eq_true rfl) (Nat.le_of_ble_eq_true rfl) g19 ?_
  refine r_loc (L' := [some (.ref 1), some (.int v18)]) dX9_advance_47 rfl ?_
  refine r_loc dX9_advance_48 rfl ?_
  refine r_iconst (v := (-1)) dX9_advance_49 rfl ?_
  refine r_ne (q := 62) dX9_advance_50 rfl hf (fun hf => ?_) (fun hf => ?_)
  · refine r_loc dX9_advance_62 rfl ?_
    obtain ⟨v21, c20, hf⟩ := cal_inv hf
    have g22 := rf_X9_isLetter (X := X) (d := d) (by omega) v18 T15 c20
    refine r_stat (pre := [.int v18]) (rest := []) dX9_advance_63 ct_9_64 rfl (Nat.le_of_ble_eq_true rfl) (Nat.le_of_ble_eq_true rfl) g22 ?_
    refine r_eq0 (q := 76) dX9_advance_66 rfl hf (fun hf => ?_) (fun hf => ?_)
    · refine r_loc dX9_advance_76 rfl ?_
      obtain ⟨v24, c23, hf⟩ := cal_inv hf
      have g25 := rf_X9_isDigit (X := X) (d := d) (by omega) v18 T15 c23
      refine r_stat (pre := [.int v18]) (rest := []) dX9_advance_77 ct_9_70 rfl (Nat.le_of_ble_eq_true rfl) (Nat.le_of_ble_eq_true rfl) g25 ?_
      refine r_eq0 (q := 90) dX9_advance_80 rfl hf (fun hf => ?_) (fun hf => ?_)
      · refine r_loc dX9_advance_90 rfl ?_
        refine r_loc dX9_advance_91 rfl ?_
        obtain ⟨v27, c26, hf⟩ := cal_inv hf
        have g28 := rf_X9_signKind (X := X) (d := d) (by omega) v18 T15 c26
        refine r_stat (pre := [.int v18]) (rest := [.ref 1]) dX9_advance_92 ct_9_76 rfl (Nat.le_of_ble_eq_true rfl) (Nat.le_of_ble_eq_true rfl) g28 ?_
        refine r_putI dX9_advance_95 fl_9_26 sh_1 ⟨rfl, rfl⟩ hf (fun h29 e31 hf => ?_)
        have T30 := tp_eq e31 T15
        refine r_loc dX9_advance_98 rfl ?_
        refine r_alu dX9_advance_99 rfl ?_
        refine r_getI dX9_advance_100 fl_9_19 sh_1 rfl hf (fun v32 hf => ?_)
        refine r_iconst (v := 1) dX9_advance_103 rfl ?_
        refine r_alu dX9_advance_104 rfl ?_
        refine r_putI dX9_advance_105 fl_9_19 sh_1 ⟨rfl, rfl⟩ hf (fun h33 e35 hf => ?_)
        have T34 := tp_eq e35 T30
        cases hf
        exact r_ret T34 dX9_advance_108 rfl
      · refine r_loc dX9_advance_83 rfl ?_
        obtain ⟨h37, c36, hf⟩ := cal_inv hf
        have g39 := rf_X9_takeNumber (X := X) (d := d) (by omega) T15 c36
        have T38 : am_TP h37.2.2 := g39.2
        refine r_virt (pre := []) (rest := []) dX9_advance_84 ct_9_73 rfl (sh_1) (Nat.le_of_ble_eq_true rfl) (Nat.le_of_ble_eq_true rfl) g39 ?_
        refine r_goto (q := 108) dX9_advance_87 rfl ?_
        cases hf
        exact r_ret T38 dX9_advance_108 rfl
    · refine r_loc dX9_advance_69 rfl ?_
      obtain ⟨h41, c40, hf⟩ := cal_inv hf
      have g43 := rf_X9_takeWord (X := X) (d := d) (by omega) T15 c40
      have T42 : am_TP h41.2.2 := g43.2
      refine r_virt (pre := []) (rest := []) dX9_advance_70 ct_9_67 rfl (sh_1) (Nat.le_of_ble_eq_true rfl) (Nat.le_of_ble_eq_true rfl) g43 ?_
      refine r_goto (q := 108) dX9_advance_73 rfl ?_
      cases hf
      exact r_ret T42 dX9_advance_108 rfl
  · refine r_loc dX9_advance_53 rfl ?_
    refine r_bipush (v := 31) dX9_advance_54 rfl ?_
    refine r_putI dX9_advance_56 fl_9_26 sh_1 ⟨rfl, rfl⟩ hf (fun h44 e46 hf => ?_)
    have T45 := tp_eq e46 T15
    refine r_goto (q := 108) dX9_advance_59 rfl ?_
    cases hf
    exact r_ret T45 dX9_advance_108 rfl
theorem rf_X9_advance {X : am_X} {d : Nat} (hd : 2 ≤ d)  {h : am_H} (T : am_TP h.2.2) {r : am_H} (hf : f_X9_advance  h = some r) : am_G X d 9 false cX9_advance none 0 [some (.ref 1), none] [] (am_SH, h) (none, (am_SH, r)) := by
  unfold f_X9_advance at hf
  obtain ⟨d, rfl⟩ : ∃ e, d = e + 1 := ⟨d - 1, by omega⟩
  refine r_iconst (v := 0) dX9_advance_0 rfl ?_
  refine r_loc (L' := [some (.ref 1), some (.int 0)]) dX9_advance_1 rfl ?_
  refine rl_X9_advance_2 (by omega) _ ?_ 4000 0 h T hf
  · intro h11 T12 hf
    exact rj_X9_advance_35 (by omega)  T12 hf
def f_X9_rewind  (h : am_H) : Option (am_H) := ptI h 1 2 0 fun h1 => cal (f_X9_advance h1) fun h5 => some h5
theorem rf_X9_rewind {X : am_X} {d : Nat} (hd : 3 ≤ d)  {h : am_H} (T : am_TP h.2.2) {r : am_H} (hf : f_X9_rewind  h = some r) : am_G X d 9 false cX9_rewind none 0 [some (.ref 1)] [] (am_SH, h) (none, (am_SH, r)) := by
  unfold f_X9_rewind at hf
  obtain ⟨d, rfl⟩ : ∃ e, d = e + 1 := ⟨d - 1, by omega⟩
  refine r_loc dX9_rewind_0 rfl ?_
  refine r_iconst (v := 0) dX9_rewind_1 rfl ?_
  refine r_putI dX9_rewind_2 fl_9_19 sh_1 ⟨rfl, rfl⟩ hf (fun h1 e3 hf => ?_)
  have T2 := tp_eq e3 T
  refine r_loc dX9_rewind_5 rfl ?_
  obtain ⟨h5, c4, hf⟩ := cal_inv hf
  have g7 := rf_X9_advance (X := X) (d := d) (by omega) T2 c4
  have T6 : am_TP h5.2.2 := g7.2
  refine r_virt (pre := []) (rest := []) dX9_rewind_6 ct_9_54 rfl (sh_1) (Nat.le_of_ble_eq_true rfl) (Nat.le_of_ble_eq_true rfl) g7 ?_
  cases hf
  exact r_ret T6 dX9_rewind_9 rfl
def f_X5_failAs (x1 : Int32) (h : am_H) : Option (Int32 × am_H) := ptI h 14 6 x1 fun h1 => bnd (h1.1 1 5) fun v4 => ptI h1 14 7 v4 fun h5 => some (0, h5)
theorem rf_X5_failAs {X : am_X} {d : Nat} (hd : 0 ≤ d) (x1 : Int32) {h : am_H} (T : am_TP h.2.2) {r : Int32 × am_H} (hf : f_X5_failAs x1 h = some r) : am_G X d 5 false cX5_failAs (some .boolean) 0 [some (.ref 14), some (.int x1)] [] (am_SH, h) (some (.int r.1), (am_SH, r.2)) := by
  unfold f_X5_failAs at hf
  refine r_loc dX5_failAs_0 rfl ?_
  refine r_loc dX5_failAs_1 rfl ?_
  refine r_putI dX5_failAs_2 fl_5_32 sh_14 ⟨rfl, rfl⟩ hf (fun h1 e3 hf => ?_)
  have T2 := tp_eq e3 T
  refine r_loc dX5_failAs_5 rfl ?_
  refine r_loc dX5_failAs_6 rfl ?_
  refine r_getR dX5_failAs_7 fl_5_38 sh_14 (Or.inl ⟨_, rfl⟩) (tp_14_0 T2) ?_
  refine r_getI dX5_failAs_10 fl_5_165 sh_1 rfl hf (fun v4 hf => ?_)
  refine r_putI dX5_failAs_13 fl_5_35 sh_14 ⟨rfl, rfl⟩ hf (fun h5 e7 hf => ?_)
  have T6 := tp_eq e7 T2
  refine r_iconst (v := 0) dX5_failAs_16 rfl ?_
  cases hf
  exact r_z0 T6 dX5_failAs_17
def f_X5_cannotStand  (h : am_H) : Option (Int32 × am_H) := bnd (h.1 1 4) fun v1 => if v1 = 32 then cal2 (f_X5_failAs 1 h) fun v9 h11 => zrt v9 (some (v9, h11)) else cal2 (f_X5_failAs 2 h) fun v3 h5 => zrt v3 (some (v3, h5))
theorem rf_X5_cannotStand {X : am_X} {d : Nat} (hd : 1 ≤ d)  {h : am_H} (T : am_TP h.2.2) {r : Int32 × am_H} (hf : f_X5_cannotStand  h = some r) : am_G X d 5 false cX5_cannotStand (some .boolean) 0 [some (.ref 14)] [] (am_SH, h) (some (.int r.1), (am_SH, r.2)) := by
  unfold f_X5_cannotStand at hf
  obtain ⟨d, rfl⟩ : ∃ e, d = e + 1 := ⟨d - 1, by omega⟩
  refine r_loc dX5_cannotStand_0 rfl ?_
  refine r_loc dX5_cannotStand_1 rfl ?_
  refine r_getR dX5_cannotStand_2 fl_5_38 sh_14 (Or.inl ⟨_, rfl⟩) (tp_14_0 T) ?_
  refine r_getI dX5_cannotStand_5 fl_5_50 sh_1 rfl hf (fun v1 hf => ?_)
  refine r_bipush (v := 32) dX5_cannotStand_8 rfl ?_
  refine r_ne (q := 17) dX5_cannotStand_10 rfl hf (fun hf => ?_) (fun hf => ?_)
  · refine r_iconst (v := 2) dX5_cannotStand_17 rfl ?_
    obtain ⟨v3, h5, c2, hf⟩ := cal2_inv hf
    have g7 := rf_X5_failAs (X := X) (d := d) (by omega) 2 T c2
    have T6 : am_TP h5.2.2 := g7.2
    refine r_virt (pre := [.int 2]) (rest := []) dX5_cannotStand_18 ct_5_136 rfl (sh_14) (Nat.le_of_ble_eq_true rfl) (Nat.le_of_ble_eq_true rfl) g7 ?_
    exact r_zret T6 dX5_cannotStand_21 hf (fun hf => by cases hf; rfl)
  · refine r_iconst (v := 1) dX5_cannotStand_13 rfl ?_
    refine r_goto (q := 18) dX5_cannotStand_14 rfl ?_
    obtain ⟨v9, h11, c8, hf⟩ := cal2_inv hf
    have g13 := rf_X5_failAs (X := X) (d := d) (by omega) 1 T c8
    have T12 : am_TP h11.2.2 := g13.2
    refine r_virt (pre := [.int 1]) (rest := []) dX5_cannotStand_18 ct_5_136 rfl (sh_14) (Nat.le_of_ble_eq_true rfl) (Nat.le_of_ble_eq_true rfl) g13 ?_
    exact r_zret T12 dX5_cannotStand_21 hf (fun hf => by cases hf; rfl)
def lp_X5_find_15_3 (p1 : Int32) (p2 : Int64) (h : am_H) : Nat → Int32 → Option (Int32)
  | 0, _ => none
  | n + 1, x4 => if x4 < p1 then if x4 < 4 then rdL h 15 4 x4 fun v1 => if (lg_cmp v1 p2) = 0 then some x4 else lp_X5_find_15_3 p1 p2 h n (x4 + 1) else some (-1) else some (-1)
def f_X5_find_15 (x1 : Int32) (x2 : Int64) (h : am_H) : Option (Int32) := lp_X5_find_15_3 x1 x2 h  4000 0
theorem rl_X5_find_15_3 {X : am_X} {d : Nat} (hd : 0 ≤ d) (p1 : Int32) (p2 : Int64) {h : am_H} (T : am_TP h.2.2) {r : Int32} : ∀ (n : Nat) (x4 : Int32) , lp_X5_find_15_3 p1 p2 h n x4 = some r → am_G X d 5 false cX5_find (some .int) 3 [some (.ref 15), some (.int p1), some (.long p2), none, some (.int x4)] [] (am_SH, h) (some (.int r), (am_SH, h)) := by
  intro n
  induction n with
  | zero => intro x4 hf; cases hf
  | succ n ih =>
    intro x4 hf
    rw [lp_X5_find_15_3] at hf
    refine r_loc dX5_find_3 rfl ?_
    refine r_loc dX5_find_5 rfl ?_
    refine r_ge (q := 34) dX5_find_6 rfl hf (fun hf => ?_) (fun hf => ?_)
    · refine r_iconst (v := (-1)) dX5_find_34 rfl ?_
      cases hf
      exact r_ri T dX5_find_35
    · refine r_loc dX5_find_9 rfl ?_
      refine r_loc dX5_find_11 rfl ?_
      refine r_alen2 (v := 4) dX5_find_12 sh_15 rfl rfl ?_
      refine r_ge (q := 34) dX5_find_13 rfl hf (fun hf => ?_) (fun hf => ?_)
      · refine r_iconst (v := (-1)) dX5_find_34 rfl ?_
        cases hf
        exact r_ri T dX5_find_35
      · refine r_loc dX5_find_16 rfl ?_
        refine r_loc dX5_find_17 rfl ?_
        refine r_lald dX5_find_19 sh_15 hf (fun v1 hf => ?_)
        refine r_loc dX5_find_20 rfl ?_
        refine r_alu dX5_find_21 rfl ?_
        refine r_ne0 (q := 28) dX5_find_22 rfl hf (fun hf => ?_) (fun hf => ?_)
        · refine r_loc (L' := [some (.ref 15), some (.int p1), some (.long p2), none, some (.int (x4 + 1))]) dX5_find_28 rfl ?_
          refine r_goto (q := 3) dX5_find_31 rfl ?_
          exact ih (x4 + 1) hf
        · refine r_loc dX5_find_25 rfl ?_
          cases hf
          exact r_ri T dX5_find_27
theorem rf_X5_find_15 {X : am_X} {d : Nat} (hd : 0 ≤ d) (x1 : Int32) (x2 : Int64) {h : am_H} (T : am_TP h.2.2) {r : Int32} (hf : f_X5_find_15 x1 x2 h = some r) : am_G X d 5 false cX5_find (some .int) 0 [some (.ref 15), some (.int x1), some (.long x2), none, none] [] (am_SH, h) (some (.int r), (am_SH, h)) := by
  unfold f_X5_find_15 at hf
  refine r_iconst (v := 0) dX5_find_0 rfl ?_
  refine r_loc (L' := [some (.ref 15), some (.int x1), some (.long x2), none, some (.int 0)]) dX5_find_1 rfl ?_
  refine rl_X5_find_15_3 (by omega) x1 x2 T  4000 0  hf
def f_X5_readNewName_14_15 (x2 : Int32) (h : am_H) : Option (Int32 × am_H) := bnd (h.1 1 4) fun v1 => if v1 = 30 then bnd (h.2.1 1 7) fun v2 => cal (f_X5_find_15 x2 v2 h) fun v4 => if v4 = (-1) then if x2 < 0 then cal (f_X9_advance h) fun h7 => some (1, h7) else if x2 < 4 then bnd (h.2.1 1 7) fun v14 => wrL h 15 4 x2 v14 fun h15 => cal (f_X9_advance h15) fun h19 => some (1, h19) else cal (f_X9_advance h) fun h11 => some (1, h11) else cal2 (f_X5_failAs 3 h) fun v23 h25 => zrt v23 (some (v23, h25)) else cal2 (f_X5_cannotStand h) fun v29 h31 => zrt v29 (some (v29, h31))
theorem rf_X5_readNewName_14_15 {X : am_X} {d : Nat} (hd : 3 ≤ d) (x2 : Int32) {h : am_H} (T : am_TP h.2.2) {r : Int32 × am_H} (hf : f_X5_readNewName_14_15 x2 h = some r) : am_G X d 5 false cX5_readNewName (some .boolean) 0 [some (.ref 14), some (.ref 15), some (.int x2)] [] (am_SH, h) (some (.int r.1), (am_SH, r.2)) := by
  unfold f_X5_readNewName_14_15 at hf
  obtain ⟨d, rfl⟩ : ∃ e, d = e + 1 := ⟨d - 1, by omega⟩
  refine r_loc dX5_readNewName_0 rfl ?_
  refine r_getR dX5_readNewName_1 fl_5_38 sh_14 (Or.inl ⟨_, rfl⟩) (tp_14_0 T) ?_
  refine r_getI dX5_readNewName_4 fl_5_50 sh_1 rfl hf (fun v1 hf => ?_)
  refine r_bipush (v := 30) dX5_readNewName_7 rfl ?_
  refine r_eq (q := 17) dX5_readNewName_9 rfl hf (fun hf => ?_) (fun hf => ?_)
  · refine r_loc dX5_readNewName_17 rfl ?_
    refine r_loc dX5_readNewName_18 rfl ?_
    refine r_loc dX5_readNewName_19 rfl ?_
    refine r_getR dX5_readNewName_20 fl_5_38 sh_14 (Or.inl ⟨_, rfl⟩) (tp_14_0 T) ?_
    refine r_getL dX5_readNewName_23 fl_5_128 sh_1 rfl hf (fun v2 hf => ?_)
    obtain ⟨v4, c3, hf⟩ := cal_inv hf
    have g5 := rf_X5_find_15 (X := X) (d := d) (by omega) x2 v2 T c3
    refine r_stat (pre := [.long v2, .int x2, .ref 15]) (rest := []) dX5_readNewName_26 ct_5_132 rfl (Nat.le_of_ble_eq_true rfl) (Nat.le_of_ble_eq_true rfl) g5 ?_
    refine r_iconst (v := (-1)) dX5_readNewName_29 rfl ?_
    refine r_eq (q := 39) dX5_readNewName_30 rfl hf (fun hf => ?_) (fun hf => ?_)
    · refine r_loc dX5_readNewName_39 rfl ?_
      refine r_lt0 (q := 59) dX5_readNewName_40 rfl hf (fun hf => ?_) (fun hf => ?_)
      · refine r_loc dX5_readNewName_59 rfl ?_
        refine r_getR dX5_readNewName_60 fl_5_38 sh_14 (Or.inl ⟨_, rfl⟩) (tp_14_0 T) ?_
        obtain ⟨h7, c6, hf⟩ := cal_inv hf
        have g9 := rf_X9_advance (X := X) (d := d) (by omega) T c6
        have T8 : am_TP h7.2.2 := g9.2
        refine r_virt (pre := []) (rest := []) dX5_readNewName_63 ct_5_99 rfl (sh_1) (Nat.le_of_ble_eq_true rfl) (Nat.le_of_ble_eq_true rfl) g9 ?_
        refine r_iconst (v := 1) dX5_readNewName_66 rfl ?_
        cases hf
        exact r_z1 T8 dX5_readNewName_67
      · refine r_loc dX5_readNewName_43 rfl ?_
        refine r_loc dX5_readNewName_44 rfl ?_
        refine r_alen2 (v := 4) dX5_readNewName_45 sh_15 rfl rfl ?_
        refine r_ge (q := 59) dX5_readNewName_46 rfl hf (fun hf => ?_) (fun hf => ?_)
        · refine r_loc dX5_readNewName_59 rfl ?_
          refine r_getR dX5_readNewName_60 fl_5_38 sh_14 (Or.inl ⟨_, rfl⟩) (tp_14_0 T) ?_
          obtain ⟨h11, c10, hf⟩ := cal_inv hf
          have g13 := rf_X9_advance (X := X) (d := d) (by omega) T c10
          have T12 : am_TP h11.2.2 := g13.2
          refine r_virt (pre := []) (rest := []) dX5_readNewName_63 ct_5_99 rfl (sh_1) (Nat.le_of_ble_eq_true rfl) (Nat.le_of_ble_eq_true rfl) g13 ?_
          refine r_iconst (v := 1) dX5_readNewName_66 rfl ?_
          cases hf
          exact r_z1 T12 dX5_readNewName_67
        · refine r_loc dX5_readNewName_49 rfl ?_
          refine r_loc dX5_readNewName_50 rfl ?_
          refine r_loc dX5_readNewName_51 rfl ?_
          refine r_getR dX5_readNewName_52 fl_5_38 sh_14 (Or.inl ⟨_, rfl⟩) (tp_14_0 T) ?_
          refine r_getL dX5_readNewName_55 fl_5_128 sh_1 rfl hf (fun v14 hf => ?_)
          refine r_last dX5_readNewName_58 sh_15 hf (fun h15 e17 hf => ?_)
          have T16 := tp_eq e17 T
          refine r_loc dX5_readNewName_59 rfl ?_
          refine r_getR dX5_readNewName_60 fl_5_38 sh_14 (Or.inl ⟨_, rfl⟩) (tp_14_0 T16) ?_
          obtain ⟨h19, c18, hf⟩ := cal_inv hf
          have g21 := rf_X9_advance (X := X) (d := d) (by omega) T16 c18
          have T20 : am_TP h19.2.2 := g21.2
          refine r_virt (pre := []) (rest := []) dX5_readNewName_63 ct_5_99 rfl (sh_1) (Nat.le_of_ble_eq_true rfl) (Nat.le_of_ble_eq_true rfl) g21 ?_
          refine r_iconst (v := 1) dX5_readNewName_66 rfl ?_
          cases hf
          exact r_z1 T20 dX5_readNewName_67
    · refine r_loc dX5_readNewName_33 rfl ?_
      refine r_iconst (v := 3) dX5_readNewName_34 rfl ?_
      obtain ⟨v23, h25, c22, hf⟩ := cal2_inv hf
      have g27 := rf_X5_failAs (X := X) (d := d) (by omega) 3 T c22
      have T26 : am_TP h25.2.2 := g27.2
      refine r_virt (pre := [.int 3]) (rest := []) dX5_readNewName_35 ct_5_136 rfl (sh_14) (Nat.le_of_ble_eq_true rfl) (Nat.le_of_ble_eq_true rfl) g27 ?_
      exact r_zret T26 dX5_readNewName_38 hf (fun hf => by cases hf; rfl)
  · refine r_loc dX5_readNewName_12 rfl ?_
    obtain ⟨v29, h31, c28, hf⟩ := cal2_inv hf
    have g33 := rf_X5_cannotStand (X := X) (d := d) (by omega) T c28
    have T32 : am_TP h31.2.2 := g33.2
    refine r_virt (pre := []) (rest := []) dX5_readNewName_13 ct_5_93 rfl (sh_14) (Nat.le_of_ble_eq_true rfl) (Nat.le_of_ble_eq_true rfl) g33 ?_
    exact r_zret T32 dX5_readNewName_16 hf (fun hf => by cases hf; rfl)
def f_X5_take (x1 : Int32) (h : am_H) : Option (Int32 × am_H) := bnd (h.1 1 4) fun v1 => if v1 = x1 then cal (f_X9_advance h) fun h3 => some (1, h3) else cal2 (f_X5_cannotStand h) fun v7 h9 => zrt v7 (some (v7, h9))
theorem rf_X5_take {X : am_X} {d : Nat} (hd : 3 ≤ d) (x1 : Int32) {h : am_H} (T : am_TP h.2.2) {r : Int32 × am_H} (hf : f_X5_take x1 h = some r) : am_G X d 5 false cX5_take (some .boolean) 0 [some (.ref 14), some (.int x1)] [] (am_SH, h) (some (.int r.1), (am_SH, r.2)) := by
  unfold f_X5_take at hf
  obtain ⟨d, rfl⟩ : ∃ e, d = e + 1 := ⟨d - 1, by omega⟩
  refine r_loc dX5_take_0 rfl ?_
  refine r_getR dX5_take_1 fl_5_38 sh_14 (Or.inl ⟨_, rfl⟩) (tp_14_0 T) ?_
  refine r_getI dX5_take_4 fl_5_50 sh_1 rfl hf (fun v1 hf => ?_)
  refine r_loc dX5_take_7 rfl ?_
  refine r_eq (q := 16) dX5_take_8 rfl hf (fun hf => ?_) (fun hf => ?_)
  · refine r_loc dX5_take_16 rfl ?_
    refine r_getR dX5_take_17 fl_5_38 sh_14 (Or.inl ⟨_, rfl⟩) (tp_14_0 T) ?_
    obtain ⟨h3, c2, hf⟩ := cal_inv hf
    have g5 := rf_X9_advance (X := X) (d := d) (by omega) T c2
    have T4 : am_TP h3.2.2 := g5.2
    refine r_virt (pre := []) (rest := []) dX5_take_20 ct_5_99 rfl (sh_1) (Nat.le_of_ble_eq_true rfl) (Nat.le_of_ble_eq_true rfl) g5 ?_
    refine r_iconst (v := 1) dX5_take_23 rfl ?_
    cases hf
    exact r_z1 T4 dX5_take_24
  · refine r_loc dX5_take_11 rfl ?_
    obtain ⟨v7, h9, c6, hf⟩ := cal2_inv hf
    have g11 := rf_X5_cannotStand (X := X) (d := d) (by omega) T c6
    have T10 : am_TP h9.2.2 := g11.2
    refine r_virt (pre := []) (rest := []) dX5_take_12 ct_5_93 rfl (sh_14) (Nat.le_of_ble_eq_true rfl) (Nat.le_of_ble_eq_true rfl) g11 ?_
    exact r_zret T10 dX5_take_15 hf (fun hf => by cases hf; rfl)
def f_X5_readNumber (x1 : Int32) (x2 : Int32) (h : am_H) : Option (Int32 × am_H) := bnd (h.1 1 4) fun v1 => if v1 = 29 then bnd (h.1 1 6) fun v2 => if v2 < x1 then cal2 (f_X5_failAs 4 h) fun v4 h6 => zrt v4 (some (v4, h6)) else bnd (h.1 1 6) fun v9 => if x2 < v9 then cal2 (f_X5_failAs 4 h) fun v19 h21 => zrt v19 (some (v19, h21)) else bnd (h.1 1 6) fun v10 => ptI h 14 4 v10 fun h11 => cal (f_X9_advance h11) fun h15 => some (1, h15) else cal2 (f_X5_cannotStand h) fun v25 h27 => zrt v25 (some (v25, h27))
theorem rf_X5_readNumber {X : am_X} {d : Nat} (hd : 3 ≤ d) (x1 : Int32) (x2 : Int32) {h : am_H} (T : am_TP h.2.2) {r : Int32 × am_H} (hf : f_X5_readNumber x1 x2 h = some r) : am_G X d 5 false cX5_readNumber (some .boolean) 0 [some (.ref 14), some (.int x1), some (.int x2)] [] (am_SH, h) (some (.int r.1), (am_SH, r.2)) := by
  unfold f_X5_readNumber at hf
  obtain ⟨d, rfl⟩ : ∃ e, d = e + 1 := ⟨d - 1, by omega⟩
  refine r_loc dX5_readNumber_0 rfl ?_
  refine r_getR dX5_readNumber_1 fl_5_38 sh_14 (Or.inl ⟨_, rfl⟩) (tp_14_0 T) ?_
  refine r_getI dX5_readNumber_4 fl_5_50 sh_1 rfl hf (fun v1 hf => ?_)
  refine r_bipush (v := 29) dX5_readNumber_7 rfl ?_
  refine r_eq (q := 17) dX5_readNumber_9 rfl hf (fun hf => ?_) (fun hf => ?_)
  · refine r_loc dX5_readNumber_17 rfl ?_
    refine r_getR dX5_readNumber_18 fl_5_38 sh_14 (Or.inl ⟨_, rfl⟩) (tp_14_0 T) ?_
    refine r_getI dX5_readNumber_21 fl_5_143 sh_1 rfl hf (fun v2 hf => ?_)
    refine r_loc dX5_readNumber_24 rfl ?_
    refine r_lt (q := 39) dX5_readNumber_25 rfl hf (fun hf => ?_) (fun hf => ?_)
    · refine r_loc dX5_readNumber_39 rfl ?_
      refine r_iconst (v := 4) dX5_readNumber_40 rfl ?_
      obtain ⟨v4, h6, c3, hf⟩ := cal2_inv hf
      have g8 := rf_X5_failAs (X := X) (d := d) (by omega) 4 T c3
      have T7 : am_TP h6.2.2 := g8.2
      refine r_virt (pre := [.int 4]) (rest := []) dX5_readNumber_41 ct_5_136 rfl (sh_14) (Nat.le_of_ble_eq_true rfl) (Nat.le_of_ble_eq_true rfl) g8 ?_
      exact r_zret T7 dX5_readNumber_44 hf (fun hf => by cases hf; rfl)
    · refine r_loc dX5_readNumber_28 rfl ?_
      refine r_getR dX5_readNumber_29 fl_5_38 sh_14 (Or.inl ⟨_, rfl⟩) (tp_14_0 T) ?_
      refine r_getI dX5_readNumber_32 fl_5_143 sh_1 rfl hf (fun v9 hf => ?_)
      refine r_loc dX5_readNumber_35 rfl ?_
      refine r_le (q := 45) dX5_readNumber_36 rfl hf (fun hf => ?_) (fun hf => ?_)
      · refine r_loc dX5_readNumber_45 rfl ?_
        refine r_loc dX5_readNumber_46 rfl ?_
        refine r_getR dX5_readNumber_47 fl_5_38 sh_14 (Or.inl ⟨_, rfl⟩) (tp_14_0 T) ?_
        refine r_getI dX5_readNumber_50 fl_5_143 sh_1 rfl hf (fun v10 hf => ?_)
        refine r_putI dX5_readNumber_53 fl_5_22 sh_14 ⟨rfl, rfl⟩ hf (fun h11 e13 hf => ?_)
        have T12 := tp_eq e13 T
        refine r_loc dX5_readNumber_56 rfl ?_
        refine r_getR dX5_readNumber_57 fl_5_38 sh_14 (Or.inl ⟨_, rfl⟩) (tp_14_0 T12) ?_
        obtain ⟨h15, c14, hf⟩ := cal_inv hf
        have g17 := rf_X9_advance (X := X) (d := d) (by omega) T12 c14
        have T16 : am_TP h15.2.2 := g17.2
        refine r_virt (pre := []) (rest := []) dX5_readNumber_60 ct_5_99 rfl (sh_1) (Nat.le_of_ble_eq_true rfl) (Nat.le_of_ble_eq_true rfl) g17 ?_
        refine r_iconst (v := 1) dX5_readNumber_63 rfl ?_
        cases hf
        exact r_z1 T16 dX5_readNumber_64
      · refine r_loc dX5_readNumber_39 rfl ?_
        refine r_iconst (v := 4) dX5_readNumber_40 rfl ?_
        obtain ⟨v19, h21, c18, hf⟩ := cal2_inv hf
        have g23 := rf_X5_failAs (X := X) (d := d) (by omega) 4 T c18
        have T22 : am_TP h21.2.2 := g23.2
        refine r_virt (pre := [.int 4]) (rest := []) dX5_readNumber_41 ct_5_136 rfl (sh_14) (Nat.le_of_ble_eq_true rfl) (Nat.le_of_ble_eq_true rfl) g23 ?_
        exact r_zret T22 dX5_readNumber_44 hf (fun hf => by cases hf; rfl)
  · refine r_loc dX5_readNumber_12 rfl ?_
    obtain ⟨v25, h27, c24, hf⟩ := cal2_inv hf
    have g29 := rf_X5_cannotStand (X := X) (d := d) (by omega) T c24
    have T28 : am_TP h27.2.2 := g29.2
    refine r_virt (pre := []) (rest := []) dX5_readNumber_13 ct_5_93 rfl (sh_14) (Nat.le_of_ble_eq_true rfl) (Nat.le_of_ble_eq_true rfl) g29 ?_
    exact r_zret T28 dX5_readNumber_16 hf (fun hf => by cases hf; rfl)
def f_X5_readRoom  (h : am_H) : Option (Int32 × am_H) := bnd (h.1 17 6) fun v1 => if v1 < 0 then cal2 (f_X5_cannotStand h) fun v3 h5 => zrt v3 (some (v3, h5)) else if v1 < 4 then cal (f_X9_advance h) fun h9 => cal2 (f_X5_readNewName_14_15 v1 h9) fun v13 h15 => if v13 = 0 then some (0, h15) else cal2 (f_X5_take 1 h15) fun v19 h21 => if v19 = 0 then some (0, h21) else cal2 (f_X5_readNumber 0 99 h21) fun v25 h27 => if v25 = 0 then some (0, h27) else bnd (h27.1 14 4) fun v30 => wrI h27 18 4 v1 v30 fun h31 => ptI h31 17 6 (v1 + 1) fun h34 => cal2 (f_X5_take 18 h34) fun v38 h40 => zrt v38 (some (v38, h40)) else cal2 (f_X5_cannotStand h) fun v44 h46 => zrt v44 (some (v44, h46))
theorem rf_X5_readRoom {X : am_X} {d : Nat} (hd : 4 ≤ d)  {h : am_H} (T : am_TP h.2.2) {r : Int32 × am_H} (hf : f_X5_readRoom  h = some r) : am_G X d 5 false cX5_readRoom (some .boolean) 0 [some (.ref 14), none] [] (am_SH, h) (some (.int r.1), (am_SH, r.2)) := by
  unfold f_X5_readRoom at hf
  obtain ⟨d, rfl⟩ : ∃ e, d = e + 1 := ⟨d - 1, by omega⟩
  refine r_loc dX5_readRoom_0 rfl ?_
  refine r_getR dX5_readRoom_1 fl_5_28 sh_14 (Or.inl ⟨_, rfl⟩) (tp_14_5 T) ?_
  refine r_getI dX5_readRoom_4 fl_5_96 sh_17 rfl hf (fun v1 hf => ?_)
  refine r_loc (L' := [some (.ref 14), some (.int v1)]) dX5_readRoom_7 rfl ?_
  refine r_loc dX5_readRoom_8 rfl ?_
  refine r_lt0 (q := 17) dX5_readRoom_9 rfl hf (fun hf => ?_) (fun hf => ?_)
  · refine r_loc dX5_readRoom_17 rfl ?_
    obtain ⟨v3, h5, c2, hf⟩ := cal2_inv hf
    have g7 := rf_X5_cannotStand (X := X) (d := d) (by omega) T c2
    have T6 : am_TP h5.2.2 := g7.2
    refine r_virt (pre := []) (rest := []) dX5_readRoom_18 ct_5_93 rfl (sh_14) (Nat.le_of_ble_eq_true rfl) (Nat.le_of_ble_eq_true rfl) g7 ?_
    exact r_zret T6 dX5_readRoom_21 hf (fun hf => by cases hf; rfl)
  · refine r_loc dX5_readRoom_12 rfl ?_
    refine r_iconst (v := 4) dX5_readRoom_13 rfl ?_
    refine r_lt (q := 22) dX5_readRoom_14 rfl hf (fun hf => ?_) (fun hf => ?_)
    · refine r_loc dX5_readRoom_22 rfl ?_
      refine r_getR dX5_readRoom_23 fl_5_38 sh_14 (Or.inl ⟨_, rfl⟩) (tp_14_0 T) ?_
      obtain ⟨h9, c8, hf⟩ := cal_inv hf
      have g11 := rf_X9_advance (X := X) (d := d) (by omega) T c8
      have T10 : am_TP h9.2.2 := g11.2
      refine r_virt (pre := []) (rest := []) dX5_readRoom_26 ct_5_99 rfl (sh_1) (Nat.le_of_ble_eq_true rfl) (Nat.le_of_ble_eq_true rfl) g11 ?_
      refine r_loc dX5_readRoom_29 rfl ?_
      refine r_loc dX5_readRoom_30 rfl ?_
      refine r_getR dX5_readRoom_31 fl_5_9 sh_14 (Or.inr ⟨_, rfl⟩) (tp_14_1 T10) ?_
      refine r_loc dX5_readRoom_34 rfl ?_
      obtain ⟨v13, h15, c12, hf⟩ := cal2_inv hf
      have g17 := rf_X5_readNewName_14_15 (X := X) (d := d) (by omega) v1 T10 c12
      have T16 : am_TP h15.2.2 := g17.2
      refine r_virt (pre := [.int v1, .ref 15]) (rest := []) dX5_readRoom_35 ct_5_102 rfl (sh_14) (Nat.le_of_ble_eq_true rfl) (Nat.le_of_ble_eq_true rfl) g17 ?_
      refine r_eq0 (q := 59) dX5_readRoom_38 rfl hf (fun hf => ?_) (fun hf => ?_)
      · refine r_iconst (v := 0) dX5_readRoom_59 rfl ?_
        cases hf
        exact r_z0 T16 dX5_readRoom_60
      · refine r_loc dX5_readRoom_41 rfl ?_
        refine r_iconst (v := 1) dX5_readRoom_42 rfl ?_
        obtain ⟨v19, h21, c18, hf⟩ := cal2_inv hf
        have g23 := rf_X5_take (X := X) (d := d) (by omega) 1 T16 c18
        have T22 : am_TP h21.2.2 := g23.2
        refine r_virt (pre := [.int 1]) (rest := []) dX5_readRoom_43 ct_5_78 rfl (sh_14) (Nat.le_of_ble_eq_true rfl) (Nat.le_of_ble_eq_true rfl) g23 ?_
        refine r_eq0 (q := 59) dX5_readRoom_46 rfl hf (fun hf => ?_) (fun hf => ?_)
        · refine r_iconst (v := 0) dX5_readRoom_59 rfl ?_
          cases hf
          exact r_z0 T22 dX5_readRoom_60
        · refine r_loc dX5_readRoom_49 rfl ?_
          refine r_iconst (v := 0) dX5_readRoom_50 rfl ?_
          refine r_bipush (v := 99) dX5_readRoom_51 rfl ?_
          obtain ⟨v25, h27, c24, hf⟩ := cal2_inv hf
          have g29 := rf_X5_readNumber (X := X) (d := d) (by omega) 0 99 T22 c24
          have T28 : am_TP h27.2.2 := g29.2
          refine r_virt (pre := [.int 99, .int 0]) (rest := []) dX5_readRoom_53 ct_5_81 rfl (sh_14) (Nat.le_of_ble_eq_true rfl) (Nat.le_of_ble_eq_true rfl) g29 ?_
          refine r_ne0 (q := 61) dX5_readRoom_56 rfl hf (fun hf => ?_) (fun hf => ?_)
          · refine r_loc dX5_readRoom_61 rfl ?_
            refine r_getR dX5_readRoom_62 fl_5_28 sh_14 (Or.inl ⟨_, rfl⟩) (tp_14_5 T28) ?_
            refine r_getR dX5_readRoom_65 fl_5_106 sh_17 (Or.inr ⟨_, rfl⟩) (tp_17_0 T28) ?_
            refine r_loc dX5_readRoom_68 rfl ?_
            refine r_loc dX5_readRoom_69 rfl ?_
            refine r_getI dX5_readRoom_70 fl_5_22 sh_14 rfl hf (fun v30 hf => ?_)
            refine r_iast dX5_readRoom_73 sh_18 hf (fun h31 e33 hf => ?_)
            have T32 := tp_eq e33 T28
            refine r_loc dX5_readRoom_74 rfl ?_
            refine r_getR dX5_readRoom_75 fl_5_28 sh_14 (Or.inl ⟨_, rfl⟩) (tp_14_5 T32) ?_
            refine r_loc dX5_readRoom_78 rfl ?_
            refine r_iconst (v := 1) dX5_readRoom_79 rfl ?_
            refine r_alu dX5_readRoom_80 rfl ?_
            refine r_putI dX5_readRoom_81 fl_5_96 sh_17 ⟨rfl, rfl⟩ hf (fun h34 e36 hf => ?_)
            have T35 := tp_eq e36 T32
            refine r_loc dX5_readRoom_84 rfl ?_
            refine r_bipush (v := 18) dX5_readRoom_85 rfl ?_
            obtain ⟨v38, h40, c37, hf⟩ := cal2_inv hf
            have g42 := rf_X5_take (X := X) (d := d) (by omega) 18 T35 c37
            have T41 : am_TP h40.2.2 := g42.2
            refine r_virt (pre := [.int 18]) (rest := []) dX5_readRoom_87 ct_5_78 rfl (sh_14) (Nat.le_of_ble_eq_true rfl) (Nat.le_of_ble_eq_true rfl) g42 ?_
            exact r_zret T41 dX5_readRoom_90 hf (fun hf => by cases hf; rfl)
          · refine r_iconst (v := 0) dX5_readRoom_59 rfl ?_
            cases hf
            exact r_z0 T28 dX5_readRoom_60
    · refine r_loc dX5_readRoom_17 rfl ?_
      obtain ⟨v44, h46, c43, hf⟩ := cal2_inv hf
      have g48 := rf_X5_cannotStand (X := X) (d := d) (by omega) T c43
      have T47 : am_TP h46.2.2 := g48.2
      refine r_virt (pre := []) (rest := []) dX5_readRoom_18 ct_5_93 rfl (sh_14) (Nat.le_of_ble_eq_true rfl) (Nat.le_of_ble_eq_true rfl) g48 ?_
      exact r_zret T47 dX5_readRoom_21 hf (fun hf => by cases hf; rfl)
def lp_X5_find_16_3 (p1 : Int32) (p2 : Int64) (h : am_H) : Nat → Int32 → Option (Int32)
  | 0, _ => none
  | n + 1, x4 => if x4 < p1 then if x4 < 6 then rdL h 16 6 x4 fun v1 => if (lg_cmp v1 p2) = 0 then some x4 else lp_X5_find_16_3 p1 p2 h n (x4 + 1) else some (-1) else some (-1)
def f_X5_find_16 (x1 : Int32) (x2 : Int64) (h : am_H) : Option (Int32) := lp_X5_find_16_3 x1 x2 h  4000 0
theorem rl_X5_find_16_3 {X : am_X} {d : Nat} (hd : 0 ≤ d) (p1 : Int32) (p2 : Int64) {h : am_H} (T : am_TP h.2.2) {r : Int32} : ∀ (n : Nat) (x4 : Int32) , lp_X5_find_16_3 p1 p2 h n x4 = some r → am_G X d 5 false cX5_find (some .int) 3 [some (.ref 16), some (.int p1), some (.long p2), none, some (.int x4)] [] (am_SH, h) (some (.int r), (am_SH, h)) := by
  intro n
  induction n with
  | zero => intro x4 hf; cases hf
  | succ n ih =>
    intro x4 hf
    rw [lp_X5_find_16_3] at hf
    refine r_loc dX5_find_3 rfl ?_
    refine r_loc dX5_find_5 rfl ?_
    refine r_ge (q := 34) dX5_find_6 rfl hf (fun hf => ?_) (fun hf => ?_)
    · refine r_iconst (v := (-1)) dX5_find_34 rfl ?_
      cases hf
      exact r_ri T dX5_find_35
    · refine r_loc dX5_find_9 rfl ?_
      refine r_loc dX5_find_11 rfl ?_
      refine r_alen2 (v := 6) dX5_find_12 sh_16 rfl rfl ?_
      refine r_ge (q := 34) dX5_find_13 rfl hf (fun hf => ?_) (fun hf => ?_)
      · refine r_iconst (v := (-1)) dX5_find_34 rfl ?_
        cases hf
        exact r_ri T dX5_find_35
      · refine r_loc dX5_find_16 rfl ?_
        refine r_loc dX5_find_17 rfl ?_
        refine r_lald dX5_find_19 sh_16 hf (fun v1 hf => ?_)
        refine r_loc dX5_find_20 rfl ?_
        refine r_alu dX5_find_21 rfl ?_
        refine r_ne0 (q := 28) dX5_find_22 rfl hf (fun hf => ?_) (fun hf => ?_)
        · refine r_loc (L' := [some (.ref 16), some (.int p1), some (.long p2), none, some (.int (x4 + 1))]) dX5_find_28 rfl ?_
          refine r_goto (q := 3) dX5_find_31 rfl ?_
          exact ih (x4 + 1) hf
        · refine r_loc dX5_find_25 rfl ?_
          cases hf
          exact r_ri T dX5_find_27
theorem rf_X5_find_16 {X : am_X} {d : Nat} (hd : 0 ≤ d) (x1 : Int32) (x2 : Int64) {h : am_H} (T : am_TP h.2.2) {r : Int32} (hf : f_X5_find_16 x1 x2 h = some r) : am_G X d 5 false cX5_find (some .int) 0 [some (.ref 16), some (.int x1), some (.long x2), none, none] [] (am_SH, h) (some (.int r), (am_SH, h)) := by
  unfold f_X5_find_16 at hf
  refine r_iconst (v := 0) dX5_find_0 rfl ?_
  refine r_loc (L' := [some (.ref 16), some (.int x1), some (.long x2), none, some (.int 0)]) dX5_find_1 rfl ?_
  refine rl_X5_find_16_3 (by omega) x1 x2 T  4000 0  hf
def f_X5_readNewName_14_16 (x2 : Int32) (h : am_H) : Option (Int32 × am_H) := bnd (h.1 1 4) fun v1 => if v1 = 30 then bnd (h.2.1 1 7) fun v2 => cal (f_X5_find_16 x2 v2 h) fun v4 => if v4 = (-1) then if x2 < 0 then cal (f_X9_advance h) fun h7 => some (1, h7) else if x2 < 6 then bnd (h.2.1 1 7) fun v14 => wrL h 16 6 x2 v14 fun h15 => cal (f_X9_advance h15) fun h19 => some (1, h19) else cal (f_X9_advance h) fun h11 => some (1, h11) else cal2 (f_X5_failAs 3 h) fun v23 h25 => zrt v23 (some (v23, h25)) else cal2 (f_X5_cannotStand h) fun v29 h31 => zrt v29 (some (v29, h31))
theorem rf_X5_readNewName_14_16 {X : am_X} {d : Nat} (hd : 3 ≤ d) (x2 : Int32) {h : am_H} (T : am_TP h.2.2) {r : Int32 × am_H} (hf : f_X5_readNewName_14_16 x2 h = some r) : am_G X d 5 false cX5_readNewName (some .boolean) 0 [some (.ref 14), some (.ref 16), some (.int x2)] [] (am_SH, h) (some (.int r.1), (am_SH, r.2)) := by
  unfold f_X5_readNewName_14_16 at hf
  obtain ⟨d, rfl⟩ : ∃ e, d = e + 1 := ⟨d - 1, by omega⟩
  refine r_loc dX5_readNewName_0 rfl ?_
  refine r_getR dX5_readNewName_1 fl_5_38 sh_14 (Or.inl ⟨_, rfl⟩) (tp_14_0 T) ?_
  refine r_getI dX5_readNewName_4 fl_5_50 sh_1 rfl hf (fun v1 hf => ?_)
  refine r_bipush (v := 30) dX5_readNewName_7 rfl ?_
  refine r_eq (q := 17) dX5_readNewName_9 rfl hf (fun hf => ?_) (fun hf => ?_)
  · refine r_loc dX5_readNewName_17 rfl ?_
    refine r_loc dX5_readNewName_18 rfl ?_
    refine r_loc dX5_readNewName_19 rfl ?_
    refine r_getR dX5_readNewName_20 fl_5_38 sh_14 (Or.inl ⟨_, rfl⟩) (tp_14_0 T) ?_
    refine r_getL dX5_readNewName_23 fl_5_128 sh_1 rfl hf (fun v2 hf => ?_)
    obtain ⟨v4, c3, hf⟩ := cal_inv hf
    have g5 := rf_X5_find_16 (X := X) (d := d) (by omega) x2 v2 T c3
    refine r_stat (pre := [.long v2, .int x2, .ref 16]) (rest := []) dX5_readNewName_26 ct_5_132 rfl (Nat.le_of_ble_eq_true rfl) (Nat.le_of_ble_eq_true rfl) g5 ?_
    refine r_iconst (v := (-1)) dX5_readNewName_29 rfl ?_
    refine r_eq (q := 39) dX5_readNewName_30 rfl hf (fun hf => ?_) (fun hf => ?_)
    · refine r_loc dX5_readNewName_39 rfl ?_
      refine r_lt0 (q := 59) dX5_readNewName_40 rfl hf (fun hf => ?_) (fun hf => ?_)
      · refine r_loc dX5_readNewName_59 rfl ?_
        refine r_getR dX5_readNewName_60 fl_5_38 sh_14 (Or.inl ⟨_, rfl⟩) (tp_14_0 T) ?_
        obtain ⟨h7, c6, hf⟩ := cal_inv hf
        have g9 := rf_X9_advance (X := X) (d := d) (by omega) T c6
        have T8 : am_TP h7.2.2 := g9.2
        refine r_virt (pre := []) (rest := []) dX5_readNewName_63 ct_5_99 rfl (sh_1) (Nat.le_of_ble_eq_true rfl) (Nat.le_of_ble_eq_true rfl) g9 ?_
        refine r_iconst (v := 1) dX5_readNewName_66 rfl ?_
        cases hf
        exact r_z1 T8 dX5_readNewName_67
      · refine r_loc dX5_readNewName_43 rfl ?_
        refine r_loc dX5_readNewName_44 rfl ?_
        refine r_alen2 (v := 6) dX5_readNewName_45 sh_16 rfl rfl ?_
        refine r_ge (q := 59) dX5_readNewName_46 rfl hf (fun hf => ?_) (fun hf => ?_)
        · refine r_loc dX5_readNewName_59 rfl ?_
          refine r_getR dX5_readNewName_60 fl_5_38 sh_14 (Or.inl ⟨_, rfl⟩) (tp_14_0 T) ?_
          obtain ⟨h11, c10, hf⟩ := cal_inv hf
          have g13 := rf_X9_advance (X := X) (d := d) (by omega) T c10
          have T12 : am_TP h11.2.2 := g13.2
          refine r_virt (pre := []) (rest := []) dX5_readNewName_63 ct_5_99 rfl (sh_1) (Nat.le_of_ble_eq_true rfl) (Nat.le_of_ble_eq_true rfl) g13 ?_
          refine r_iconst (v := 1) dX5_readNewName_66 rfl ?_
          cases hf
          exact r_z1 T12 dX5_readNewName_67
        · refine r_loc dX5_readNewName_49 rfl ?_
          refine r_loc dX5_readNewName_50 rfl ?_
          refine r_loc dX5_readNewName_51 rfl ?_
          refine r_getR dX5_readNewName_52 fl_5_38 sh_14 (Or.inl ⟨_, rfl⟩) (tp_14_0 T) ?_
          refine r_getL dX5_readNewName_55 fl_5_128 sh_1 rfl hf (fun v14 hf => ?_)
          refine r_last dX5_readNewName_58 sh_16 hf (fun h15 e17 hf => ?_)
          have T16 := tp_eq e17 T
          refine r_loc dX5_readNewName_59 rfl ?_
          refine r_getR dX5_readNewName_60 fl_5_38 sh_14 (Or.inl ⟨_, rfl⟩) (tp_14_0 T16) ?_
          obtain ⟨h19, c18, hf⟩ := cal_inv hf
          have g21 := rf_X9_advance (X := X) (d := d) (by omega) T16 c18
          have T20 : am_TP h19.2.2 := g21.2
          refine r_virt (pre := []) (rest := []) dX5_readNewName_63 ct_5_99 rfl (sh_1) (Nat.le_of_ble_eq_true rfl) (Nat.le_of_ble_eq_true rfl) g21 ?_
          refine r_iconst (v := 1) dX5_readNewName_66 rfl ?_
          cases hf
          exact r_z1 T20 dX5_readNewName_67
    · refine r_loc dX5_readNewName_33 rfl ?_
      refine r_iconst (v := 3) dX5_readNewName_34 rfl ?_
      obtain ⟨v23, h25, c22, hf⟩ := cal2_inv hf
      have g27 := rf_X5_failAs (X := X) (d := d) (by omega) 3 T c22
      have T26 : am_TP h25.2.2 := g27.2
      refine r_virt (pre := [.int 3]) (rest := []) dX5_readNewName_35 ct_5_136 rfl (sh_14) (Nat.le_of_ble_eq_true rfl) (Nat.le_of_ble_eq_true rfl) g27 ?_
      exact r_zret T26 dX5_readNewName_38 hf (fun hf => by cases hf; rfl)
  · refine r_loc dX5_readNewName_12 rfl ?_
    obtain ⟨v29, h31, c28, hf⟩ := cal2_inv hf
    have g33 := rf_X5_cannotStand (X := X) (d := d) (by omega) T c28
    have T32 : am_TP h31.2.2 := g33.2
    refine r_virt (pre := []) (rest := []) dX5_readNewName_13 ct_5_93 rfl (sh_14) (Nat.le_of_ble_eq_true rfl) (Nat.le_of_ble_eq_true rfl) g33 ?_
    exact r_zret T32 dX5_readNewName_16 hf (fun hf => by cases hf; rfl)
def f_X4_hasRoom_17 (x1 : Int32) (h : am_H) : Option (Int32) := if x1 < 0 then some 0 else bnd (h.1 17 6) fun v1 => if x1 < v1 then if x1 < 4 then some 1 else some 0 else some 0
theorem rf_X4_hasRoom_17 {X : am_X} {d : Nat} (hd : 0 ≤ d) (x1 : Int32) {h : am_H} (T : am_TP h.2.2) {r : Int32} (hf : f_X4_hasRoom_17 x1 h = some r) : am_G X d 4 false cX4_hasRoom (some .boolean) 0 [some (.ref 17), some (.int x1)] [] (am_SH, h) (some (.int r), (am_SH, h)) := by
  unfold f_X4_hasRoom_17 at hf
  refine r_loc dX4_hasRoom_0 rfl ?_
  refine r_lt0 (q := 21) dX4_hasRoom_1 rfl hf (fun hf => ?_) (fun hf => ?_)
  · refine r_iconst (v := 0) dX4_hasRoom_21 rfl ?_
    cases hf
    exact r_z0 T dX4_hasRoom_22
  · refine r_loc dX4_hasRoom_4 rfl ?_
    refine r_loc dX4_hasRoom_5 rfl ?_
    refine r_getI dX4_hasRoom_6 fl_4_34 sh_17 rfl hf (fun v1 hf => ?_)
    refine r_ge (q := 21) dX4_hasRoom_9 rfl hf (fun hf => ?_) (fun hf => ?_)
    · refine r_iconst (v := 0) dX4_hasRoom_21 rfl ?_
      cases hf
      exact r_z0 T dX4_hasRoom_22
    · refine r_loc dX4_hasRoom_12 rfl ?_
      refine r_iconst (v := 4) dX4_hasRoom_13 rfl ?_
      refine r_ge (q := 21) dX4_hasRoom_14 rfl hf (fun hf => ?_) (fun hf => ?_)
      · refine r_iconst (v := 0) dX4_hasRoom_21 rfl ?_
        cases hf
        exact r_z0 T dX4_hasRoom_22
      · refine r_iconst (v := 1) dX4_hasRoom_17 rfl ?_
        refine r_goto (q := 22) dX4_hasRoom_18 rfl ?_
        cases hf
        exact r_z1 T dX4_hasRoom_22
def lp_X4_leftIn_17_21 (p1 : Int32) (h : am_H) : Nat → Int32 → Int32 → Option (Int32)
  | 0, _, _ => none
  | n + 1, x2, x3 => bnd (h.1 17 7) fun v4 => if x3 < v4 then if x3 < 6 then rdI h 20 6 x3 fun v5 => if v5 = p1 then rdI h 19 6 x3 fun v6 => lp_X4_leftIn_17_21 p1 h n (x2 - v6) (x3 + 1) else lp_X4_leftIn_17_21 p1 h n x2 (x3 + 1) else some x2 else some x2
def f_X4_leftIn_17 (x1 : Int32) (h : am_H) : Option (Int32) := cal (f_X4_hasRoom_17 x1 h) fun v2 => if v2 = 0 then lp_X4_leftIn_17_21 x1 h  4000 0 0 else rdI h 18 4 x1 fun v7 => lp_X4_leftIn_17_21 x1 h  4000 v7 0
theorem rl_X4_leftIn_17_21 {X : am_X} {d : Nat} (hd : 1 ≤ d) (p1 : Int32) {h : am_H} (T : am_TP h.2.2) {r : Int32} : ∀ (n : Nat) (x2 : Int32) (x3 : Int32) , lp_X4_leftIn_17_21 p1 h n x2 x3 = some r → am_G X d 4 false cX4_leftIn (some .int) 21 [some (.ref 17), some (.int p1), some (.int x2), some (.int x3)] [] (am_SH, h) (some (.int r), (am_SH, h)) := by
  obtain ⟨d, rfl⟩ : ∃ e, d = e + 1 := ⟨d - 1, by omega⟩
  intro n
  induction n with
  | zero => intro x2 x3 hf; cases hf
  | succ n ih =>
    intro x2 x3 hf
    rw [lp_X4_leftIn_17_21] at hf
    refine r_loc dX4_leftIn_21 rfl ?_
    refine r_loc dX4_leftIn_22 rfl ?_
    refine r_getI dX4_leftIn_23 fl_4_38 sh_17 rfl hf (fun v4 hf => ?_)
    refine r_ge (q := 60) dX4_leftIn_26 rfl hf (fun hf => ?_) (fun hf => ?_)
    · refine r_loc dX4_leftIn_60 rfl ?_
      cases hf
      exact r_ri T dX4_leftIn_61
    · refine r_loc dX4_leftIn_29 rfl ?_
      refine r_bipush (v := 6) dX4_leftIn_30 rfl ?_
      refine r_ge (q := 60) dX4_leftIn_32 rfl hf (fun hf => ?_) (fun hf => ?_)
      · refine r_loc dX4_leftIn_60 rfl ?_
        cases hf
        exact r_ri T dX4_leftIn_61
      · refine r_loc dX4_leftIn_35 rfl ?_
        refine r_getR dX4_leftIn_36 fl_4_18 sh_17 (Or.inr ⟨_, rfl⟩) (tp_17_2 T) ?_
        refine r_loc dX4_leftIn_39 rfl ?_
        refine r_iald dX4_leftIn_40 sh_20 hf (fun v5 hf => ?_)
        refine r_loc dX4_leftIn_41 rfl ?_
        refine r_ne (q := 54) dX4_leftIn_42 rfl hf (fun hf => ?_) (fun hf => ?_)
        · refine r_loc (L' := [some (.ref 17), some (.int p1), some (.int x2), some (.int (x3 + 1))]) dX4_leftIn_54 rfl ?_
          refine r_goto (q := 21) dX4_leftIn_57 rfl ?_
          exact ih x2 (x3 + 1) hf
        · refine r_loc dX4_leftIn_45 rfl ?_
          refine r_loc dX4_leftIn_46 rfl ?_
          refine r_getR dX4_leftIn_47 fl_4_15 sh_17 (Or.inr ⟨_, rfl⟩) (tp_17_1 T) ?_
          refine r_loc dX4_leftIn_50 rfl ?_
          refine r_iald dX4_leftIn_51 sh_19 hf (fun v6 hf => ?_)
          refine r_alu dX4_leftIn_52 rfl ?_
          refine r_loc (L' := [some (.ref 17), some (.int p1), some (.int (x2 - v6)), some (.int x3)]) dX4_leftIn_53 rfl ?_
          refine r_loc (L' := [some (.ref 17), some (.int p1), some (.int (x2 - v6)), some (.int (x3 + 1))]) dX4_leftIn_54 rfl ?_
          refine r_goto (q := 21) dX4_leftIn_57 rfl ?_
          exact ih (x2 - v6) (x3 + 1) hf
theorem rf_X4_leftIn_17 {X : am_X} {d : Nat} (hd : 1 ≤ d) (x1 : Int32) {h : am_H} (T : am_TP h.2.2) {r : Int32} (hf : f_X4_leftIn_17 x1 h = some r) : am_G X d 4 false cX4_leftIn (some .int) 0 [some (.ref 17), some (.int x1), none, none] [] (am_SH, h) (some (.int r), (am_SH, h)) := by
  unfold f_X4_leftIn_17 at hf
  obtain ⟨d, rfl⟩ : ∃ e, d = e + 1 := ⟨d - 1, by omega⟩
  refine r_loc dX4_leftIn_0 rfl ?_
  refine r_loc dX4_leftIn_1 rfl ?_
  obtain ⟨v2, c1, hf⟩ := cal_inv hf
  have g3 := rf_X4_hasRoom_17 (X := X) (d := d) (by omega) x1 T c1
  refine r_virt (pre := [.int x1]) (rest := []) dX4_leftIn_2 ct_4_63 rfl (sh_17) (Nat.le_of_ble_eq_true rfl) (Nat.le_of_ble_eq_true rfl) g3 ?_
  refine r_eq0 (q := 17) dX4_leftIn_5 rfl hf (fun hf => ?_) (fun hf => ?_)
  · refine r_iconst (v := 0) dX4_leftIn_17 rfl ?_
    refine r_loc (L' := [some (.ref 17), some (.int x1), some (.int 0), none]) dX4_leftIn_18 rfl ?_
    refine r_iconst (v := 0) dX4_leftIn_19 rfl ?_
    refine r_loc (L' := [some (.ref 17), some (.int x1), some (.int 0), some (.int 0)]) dX4_leftIn_20 rfl ?_
    refine rl_X4_leftIn_17_21 (by omega) x1 T  4000 0 0  hf
  · refine r_loc dX4_leftIn_8 rfl ?_
    refine r_getR dX4_leftIn_9 fl_4_9 sh_17 (Or.inr ⟨_, rfl⟩) (tp_17_0 T) ?_
    refine r_loc dX4_leftIn_12 rfl ?_
    refine r_iald dX4_leftIn_13 sh_18 hf (fun v7 hf => ?_)
    refine r_goto (q := 18) dX4_leftIn_14 rfl ?_
    refine r_loc (L' := [some (.ref 17), some (.int x1), some (.int v7), none]) dX4_leftIn_18 rfl ?_
    refine r_iconst (v := 0) dX4_leftIn_19 rfl ?_
    refine r_loc (L' := [some (.ref 17), some (.int x1), some (.int v7), some (.int 0)]) dX4_leftIn_20 rfl ?_
    refine rl_X4_leftIn_17_21 (by omega) x1 T  4000 v7 0  hf
def f_X5_readRoomFor (x1 : Int32) (h : am_H) : Option (Int32 × am_H) := bnd (h.1 1 4) fun v1 => if v1 = 30 then bnd (h.1 17 6) fun v2 => bnd (h.2.1 1 7) fun v3 => cal (f_X5_find_15 v2 v3 h) fun v5 => if v5 = (-1) then cal2 (f_X5_failAs 5 h) fun v24 h26 => zrt v24 (some (v24, h26)) else cal (f_X4_leftIn_17 v5 h) fun v8 => if v8 < x1 then cal2 (f_X5_failAs 3 h) fun v18 h20 => zrt v18 (some (v18, h20)) else ptI h 14 4 v5 fun h10 => cal (f_X9_advance h10) fun h14 => some (1, h14) else cal2 (f_X5_cannotStand h) fun v30 h32 => zrt v30 (some (v30, h32))
theorem rf_X5_readRoomFor {X : am_X} {d : Nat} (hd : 3 ≤ d) (x1 : Int32) {h : am_H} (T : am_TP h.2.2) {r : Int32 × am_H} (hf : f_X5_readRoomFor x1 h = some r) : am_G X d 5 false cX5_readRoomFor (some .boolean) 0 [some (.ref 14), some (.int x1), none] [] (am_SH, h) (some (.int r.1), (am_SH, r.2)) := by
  unfold f_X5_readRoomFor at hf
  obtain ⟨d, rfl⟩ : ∃ e, d = e + 1 := ⟨d - 1, by omega⟩
  refine r_loc dX5_readRoomFor_0 rfl ?_
  refine r_getR dX5_readRoomFor_1 fl_5_38 sh_14 (Or.inl ⟨_, rfl⟩) (tp_14_0 T) ?_
  refine r_getI dX5_readRoomFor_4 fl_5_50 sh_1 rfl hf (fun v1 hf => ?_)
  refine r_bipush (v := 30) dX5_readRoomFor_7 rfl ?_
  refine r_eq (q := 17) dX5_readRoomFor_9 rfl hf (fun hf => ?_) (fun hf => ?_)
  · refine r_loc dX5_readRoomFor_17 rfl ?_
    refine r_getR dX5_readRoomFor_18 fl_5_9 sh_14 (Or.inr ⟨_, rfl⟩) (tp_14_1 T) ?_
    refine r_loc dX5_readRoomFor_21 rfl ?_
    refine r_getR dX5_readRoomFor_22 fl_5_28 sh_14 (Or.inl ⟨_, rfl⟩) (tp_14_5 T) ?_
    refine r_getI dX5_readRoomFor_25 fl_5_96 sh_17 rfl hf (fun v2 hf => ?_)
    refine r_loc dX5_readRoomFor_28 rfl ?_
    refine r_getR dX5_readRoomFor_29 fl_5_38 sh_14 (Or.inl ⟨_, rfl⟩) (tp_14_0 T) ?_
    refine r_getL dX5_readRoomFor_32 fl_5_128 sh_1 rfl hf (fun v3 hf => ?_)
    obtain ⟨v5, c4, hf⟩ := cal_inv hf
    have g6 := rf_X5_find_15 (X := X) (d := d) (by omega) v2 v3 T c4
    refine r_stat (pre := [.long v3, .int v2, .ref 15]) (rest := []) dX5_readRoomFor_35 ct_5_132 rfl (Nat.le_of_ble_eq_true rfl) (Nat.le_of_ble_eq_true rfl) g6 ?_
    refine r_loc (L' := [some (.ref 14), some (.int x1), some (.int v5)]) dX5_readRoomFor_38 rfl ?_
    refine r_loc dX5_readRoomFor_39 rfl ?_
    refine r_iconst (v := (-1)) dX5_readRoomFor_40 rfl ?_
    refine r_ne (q := 50) dX5_readRoomFor_41 rfl hf (fun hf => ?_) (fun hf => ?_)
    · refine r_loc dX5_readRoomFor_50 rfl ?_
      refine r_getR dX5_readRoomFor_51 fl_5_28 sh_14 (Or.inl ⟨_, rfl⟩) (tp_14_5 T) ?_
      refine r_loc dX5_readRoomFor_54 rfl ?_
      obtain ⟨v8, c7, hf⟩ := cal_inv hf
      have g9 := rf_X4_leftIn_17 (X := X) (d := d) (by omega) v5 T c7
      refine r_virt (pre := [.int v5]) (rest := []) dX5_readRoomFor_55 ct_5_139 rfl (sh_17) (Nat.le_of_ble_eq_true rfl) (Nat.le_of_ble_eq_true rfl) g9 ?_
      refine r_loc dX5_readRoomFor_58 rfl ?_
      refine r_ge (q := 68) dX5_readRoomFor_59 rfl hf (fun hf => ?_) (fun hf => ?_)
      · refine r_loc dX5_readRoomFor_68 rfl ?_
        refine r_loc dX5_readRoomFor_69 rfl ?_
        refine r_putI dX5_readRoomFor_70 fl_5_22 sh_14 ⟨rfl, rfl⟩ hf (fun h10 e12 hf => ?_)
        have T11 := tp_eq e12 T
        refine r_loc dX5_readRoomFor_73 rfl ?_
        refine r_getR dX5_readRoomFor_74 fl_5_38 sh_14 (Or.inl ⟨_, rfl⟩) (tp_14_0 T11) ?_
        obtain ⟨h14, c13, hf⟩ := cal_inv hf
        have g16 := rf_X9_advance (X := X) (d := d) (by omega) T11 c13
        have T15 : am_TP h14.2.2 := g16.2
        refine r_virt (pre := []) (rest := []) dX5_readRoomFor_77 ct_5_99 rfl (sh_1) (Nat.le_of_ble_eq_true rfl) (Nat.le_of_ble_eq_true rfl) g16 ?_
        refine r_iconst (v := 1) dX5_readRoomFor_80 rfl ?_
        cases hf
        exact r_z1 T15 dX5_readRoomFor_81
      · refine r_loc dX5_readRoomFor_62 rfl ?_
        refine r_iconst (v := 3) dX5_readRoomFor_63 rfl ?_
        obtain ⟨v18, h20, c17, hf⟩ := cal2_inv hf
        have g22 := rf_X5_failAs (X := X) (d := d) (by omega) 3 T c17
        have T21 : am_TP h20.2.2 := g22.2
        refine r_virt (pre := [.int 3]) (rest := []) dX5_readRoomFor_64 ct_5_136 rfl (sh_14) (Nat.le_of_ble_eq_true rfl) (Nat.le_of_ble_eq_true rfl) g22 ?_
        exact r_zret T21 dX5_readRoomFor_67 hf (fun hf => by cases hf; rfl)
    · refine r_loc dX5_readRoomFor_44 rfl ?_
      refine r_iconst (v := 5) dX5_readRoomFor_45 rfl ?_
      obtain ⟨v24, h26, c23, hf⟩ := cal2_inv hf
      have g28 := rf_X5_failAs (X := X) (d := d) (by omega) 5 T c23
      have T27 : am_TP h26.2.2 := g28.2
      refine r_virt (pre := [.int 5]) (rest := []) dX5_readRoomFor_46 ct_5_136 rfl (sh_14) (Nat.le_of_ble_eq_true rfl) (Nat.le_of_ble_eq_true rfl) g28 ?_
      exact r_zret T27 dX5_readRoomFor_49 hf (fun hf => by cases hf; rfl)
  · refine r_loc dX5_readRoomFor_12 rfl ?_
    obtain ⟨v30, h32, c29, hf⟩ := cal2_inv hf
    have g34 := rf_X5_cannotStand (X := X) (d := d) (by omega) T c29
    have T33 : am_TP h32.2.2 := g34.2
    refine r_virt (pre := []) (rest := []) dX5_readRoomFor_13 ct_5_93 rfl (sh_14) (Nat.le_of_ble_eq_true rfl) (Nat.le_of_ble_eq_true rfl) g34 ?_
    exact r_zret T33 dX5_readRoomFor_16 hf (fun hf => by cases hf; rfl)
def jn_X5_readTrunk_201 (x1 : Int32) (h : am_H) : Option (Int32 × am_H) := ptI h 17 7 (x1 + 1) fun h71 => cal2 (f_X5_take 18 h71) fun v75 h77 => zrt v75 (some (v75, h77))
def f_X5_readTrunk  (h : am_H) : Option (Int32 × am_H) := bnd (h.1 17 7) fun v1 => if v1 < 0 then cal2 (f_X5_cannotStand h) fun v3 h5 => zrt v3 (some (v3, h5)) else if v1 < 6 then cal (f_X9_advance h) fun h9 => cal2 (f_X5_readNewName_14_16 v1 h9) fun v13 h15 => if v13 = 0 then some (0, h15) else cal2 (f_X5_take 3 h15) fun v19 h21 => if v19 = 0 then some (0, h21) else cal2 (f_X5_readNumber 1 20 h21) fun v25 h27 => if v25 = 0 then some (0, h27) else bnd (h27.1 14 4) fun v30 => wrI h27 19 6 v1 v30 fun h31 => cal2 (f_X5_take 4 h31) fun v35 h37 => if v35 = 0 then some (0, h37) else rdI h37 19 6 v1 fun v40 => cal2 (f_X5_readRoomFor v40 h37) fun v42 h44 => if v42 = 0 then some (0, h44) else bnd (h44.1 14 4) fun v47 => wrI h44 20 6 v1 v47 fun h48 => cal2 (f_X5_take 5 h48) fun v52 h54 => if v52 = 0 then some (0, h54) else cal2 (f_X5_readNumber 0 63 h54) fun v58 h60 => if v58 = 0 then some (0, h60) else bnd (h60.1 14 4) fun v63 => wrI h60 21 6 v1 v63 fun h64 => wrI h64 22 6 v1 0 fun h67 => bnd (h67.1 1 4) fun v70 => if v70 = 6 then cal (f_X9_advance h67) fun h81 => cal2 (f_X5_readNumber 0 9 h81) fun v85 h87 => if v85 = 0 then some (0, h87) else bnd (h87.1 14 4) fun v90 => wrI h87 22 6 v1 v90 fun h91 => jn_X5_readTrunk_201 v1 h91 else jn_X5_readTrunk_201 v1 h67 else cal2 (f_X5_cannotStand h) fun v95 h97 => zrt v95 (some (v95, h97))
theorem rj_X5_readTrunk_201 {X : am_X} {d : Nat} (hd : 4 ≤ d) (x1 : Int32) {h : am_H} (T : am_TP h.2.2) {r : Int32 × am_H} (hf : jn_X5_readTrunk_201 x1 h = some r) : am_G X d 5 false cX5_readTrunk (some .boolean) 201 [some (.ref 14), some (.int x1)] [] (am_SH, h) (some (.int r.1), (am_SH, r.2)) := by
  obtain ⟨d, rfl⟩ : ∃ e, d = e + 1 := ⟨d - 1, by omega⟩
  unfold jn_X5_readTrunk_201 at hf
  refine r_loc dX5_readTrunk_201 rfl ?_
  refine r_getR dX5_readTrunk_202 fl_5_28 sh_14 (Or.inl ⟨_, rfl⟩) (tp_14_5 T) ?_
  refine r_loc dX5_readTrunk_205 rfl ?_
  refine r_iconst (v := 1) dX5_readTrunk_206 rfl ?_
  refine r_alu dX5_readTrunk_207 rfl ?_
  refine r_putI dX5_readTrunk_208 fl_5_110 sh_17 ⟨rfl, rfl⟩ hf (fun h71 e73 hf => ?_)
  have T72 := tp_eq e73 T
  refine r_loc dX5_readTrunk_211 rfl ?_
  refine r_bipush (v := 18) dX5_readTrunk_212 rfl ?_
  obtain ⟨v75, h77, c74, hf⟩ := cal2_inv hf
  have g79 := rf_X5_take (X := X) (d := d) (by omega) 18 T72 c74
  have T78 : am_TP h77.2.2 := g79.2
  refine r_virt (pre := [.int 18]) (rest := []) dX5_readTrunk_214 ct_5_78 rfl (sh_14) (Nat.le_of_ble_eq_true rfl) (Nat.le_of_ble_eq_true rfl) g79 ?_
  exact r_zret T78 dX5_readTrunk_217 hf (fun hf => by cases hf; rfl)
theorem rf_X5_readTrunk {X : am_X} {d : Nat} (hd : 4 ≤ d)  {h : am_H} (T : am_TP h.2.2) {r : Int32 × am_H} (hf : f_X5_readTrunk  h = some r) : am_G X d 5 false cX5_readTrunk (some .boolean) 0 [some (.ref 14), none] [] (am_SH, h) (some (.int r.1), (am_SH, r.2)) := by
  unfold f_X5_readTrunk at hf
  obtain ⟨d, rfl⟩ : ∃ e, d = e + 1 := ⟨d - 1, by omega⟩
  refine r_loc dX5_readTrunk_0 rfl ?_
  refine r_getR dX5_readTrunk_1 fl_5_28 sh_14 (Or.inl ⟨_, rfl⟩) (tp_14_5 T) ?_
  refine r_getI dX5_readTrunk_4 fl_5_110 sh_17 rfl hf (fun v1 hf => ?_)
  refine r_loc (L' := [some (.ref 14), some (.int v1)]) dX5_readTrunk_7 rfl ?_
  refine r_loc dX5_readTrunk_8 rfl ?_
  refine r_lt0 (q := 18) dX5_readTrunk_9 rfl hf (fun hf => ?_) (fun hf => ?_)
  · refine r_loc dX5_readTrunk_18 rfl ?_
    obtain ⟨v3, h5, c2, hf⟩ := cal2_inv hf
    have g7 := rf_X5_cannotStand (X := X) (d := d) (by omega) T c2
    have T6 : am_TP h5.2.2 := g7.2
    refine r_virt (pre := []) (rest := []) dX5_readTrunk_19 ct_5_93 rfl (sh_14) (Nat.le_of_ble_eq_true rfl) (Nat.le_of_ble_eq_true rfl) g7 ?_
    exact r_zret T6 dX5_readTrunk_22 hf (fun hf => by cases hf; rfl)
  · refine r_loc dX5_readTrunk_12 rfl ?_
    refine r_bipush (v := 6) dX5_readTrunk_13 rfl ?_
    refine r_lt (q := 23) dX5_readTrunk_15 rfl hf (fun hf => ?_) (fun hf => ?_)
    · refine r_loc dX5_readTrunk_23 rfl ?_
      refine r_getR dX5_readTrunk_24 fl_5_38 sh_14 (Or.inl ⟨_, rfl⟩) (tp_14_0 T) ?_
      obtain ⟨h9, c8, hf⟩ := cal_inv hf
      have g11 := rf_X9_advance (X := X) (d := d) (by omega) T c8
      have T10 : am_TP h9.2.2 := g11.2
      refine r_virt (pre := []) (rest := []) dX5_readTrunk_27 ct_5_99 rfl (sh_1) (Nat.le_of_ble_eq_true rfl) (Nat.le_of_ble_eq_true rfl) g11 ?_
      refine r_loc dX5_readTrunk_30 rfl ?_
      refine r_loc dX5_readTrunk_31 rfl ?_
      refine r_getR dX5_readTrunk_32 fl_5_15 sh_14 (Or.inr ⟨_, rfl⟩) (tp_14_2 T10) ?_
      refine r_loc dX5_readTrunk_35 rfl ?_
      obtain ⟨v13, h15, c12, hf⟩ := cal2_inv hf
      have g17 := rf_X5_readNewName_14_16 (X := X) (d := d) (by omega) v1 T10 c12
      have T16 : am_TP h15.2.2 := g17.2
      refine r_virt (pre := [.int v1, .ref 16]) (rest := []) dX5_readTrunk_36 ct_5_102 rfl (sh_14) (Nat.le_of_ble_eq_true rfl) (Nat.le_of_ble_eq_true rfl) g17 ?_
      refine r_eq0 (q := 60) dX5_readTrunk_39 rfl hf (fun hf => ?_) (fun hf => ?_)
      · refine r_iconst (v := 0) dX5_readTrunk_60 rfl ?_
        cases hf
        exact r_z0 T16 dX5_readTrunk_61
      · refine r_loc dX5_readTrunk_42 rfl ?_
        refine r_iconst (v := 3) dX5_readTrunk_43 rfl ?_
        obtain ⟨v19, h21, c18, hf⟩ := cal2_inv hf
        have g23 := rf_X5_take (X := X) (d := d) (by omega) 3 T16 c18
        have T22 : am_TP h21.2.2 := g23.2
        refine r_virt (pre := [.int 3]) (rest := []) dX5_readTrunk_44 ct_5_78 rfl (sh_14) (Nat.le_of_ble_eq_true rfl) (Nat.le_of_ble_eq_true rfl) g23 ?_
        refine r_eq0 (q := 60) dX5_readTrunk_47 rfl hf (fun hf => ?_) (fun hf => ?_)
        · refine r_iconst (v := 0) dX5_readTrunk_60 rfl ?_
          cases hf
          exact r_z0 T22 dX5_readTrunk_61
        · refine r_loc dX5_readTrunk_50 rfl ?_
          refine r_iconst (v := 1) dX5_readTrunk_51 rfl ?_
          refine r_bipush (v := 20) dX5_readTrunk_52 rfl ?_
          obtain ⟨v25, h27, c24, hf⟩ := cal2_inv hf
          have g29 := rf_X5_readNumber (X := X) (d := d) (by omega) 1 20 T22 c24
          have T28 : am_TP h27.2.2 := g29.2
          refine r_virt (pre := [.int 20, .int 1]) (rest := []) dX5_readTrunk_54 ct_5_81 rfl (sh_14) (Nat.le_of_ble_eq_true rfl) (Nat.le_of_ble_eq_true rfl) g29 ?_
          refine r_ne0 (q := 62) dX5_readTrunk_57 rfl hf (fun hf => ?_) (fun hf => ?_)
          · refine r_loc dX5_readTrunk_62 rfl ?_
            refine r_getR dX5_readTrunk_63 fl_5_28 sh_14 (Or.inl ⟨_, rfl⟩) (tp_14_5 T28) ?_
            refine r_getR dX5_readTrunk_66 fl_5_113 sh_17 (Or.inr ⟨_, rfl⟩) (tp_17_1 T28) ?_
            refine r_loc dX5_readTrunk_69 rfl ?_
            refine r_loc dX5_readTrunk_70 rfl ?_
            refine r_getI dX5_readTrunk_71 fl_5_22 sh_14 rfl hf (fun v30 hf => ?_)
            refine r_iast dX5_readTrunk_74 sh_19 hf (fun h31 e33 hf => ?_)
            have T32 := tp_eq e33 T28
            refine r_loc dX5_readTrunk_75 rfl ?_
            refine r_iconst (v := 4) dX5_readTrunk_76 rfl ?_
            obtain ⟨v35, h37, c34, hf⟩ := cal2_inv hf
            have g39 := rf_X5_take (X := X) (d := d) (by omega) 4 T32 c34
            have T38 : am_TP h37.2.2 := g39.2
            refine r_virt (pre := [.int 4]) (rest := []) dX5_readTrunk_77 ct_5_78 rfl (sh_14) (Nat.le_of_ble_eq_true rfl) (Nat.le_of_ble_eq_true rfl) g39 ?_
            refine r_eq0 (q := 99) dX5_readTrunk_80 rfl hf (fun hf => ?_) (fun hf => ?_)
            · refine r_iconst (v := 0) dX5_readTrunk_99 rfl ?_
              cases hf
              exact r_z0 T38 dX5_readTrunk_100
            · refine r_loc dX5_readTrunk_83 rfl ?_
              refine r_loc dX5_readTrunk_84 rfl ?_
              refine r_getR dX5_readTrunk_85 fl_5_28 sh_14 (Or.inl ⟨_, rfl⟩) (tp_14_5 T38) ?_
              refine r_getR dX5_readTrunk_88 fl_5_113 sh_17 (Or.inr ⟨_, rfl⟩) (tp_17_1 T38) ?_
              refine r_loc dX5_readTrunk_91 rfl ?_
              refine r_iald dX5_readTrunk_92 sh_19 hf (fun v40 hf => ?_)
              obtain ⟨v42, h44, c41, hf⟩ := cal2_inv hf
              have g46 := rf_X5_readRoomFor (X := X) (d := d) (by omega) v40 T38 c41
              have T45 : am_TP h44.2.2 := g46.2
              refine r_virt (pre := [.int v40]) (rest := []) dX5_readTrunk_93 ct_5_116 rfl (sh_14) (Nat.le_of_ble_eq_true rfl) (Nat.le_of_ble_eq_true rfl) g46 ?_
              refine r_ne0 (q := 101) dX5_readTrunk_96 rfl hf (fun hf => ?_) (fun hf => ?_)
              · refine r_loc dX5_readTrunk_101 rfl ?_
                refine r_getR dX5_readTrunk_102 fl_5_28 sh_14 (Or.inl ⟨_, rfl⟩) (tp_14_5 T45) ?_
                refine r_getR dX5_readTrunk_105 fl_5_119 sh_17 (Or.inr ⟨_, rfl⟩) (tp_17_2 T45) ?_
                refine r_loc dX5_readTrunk_108 rfl ?_
                refine r_loc dX5_readTrunk_109 rfl ?_
                refine r_getI dX5_readTrunk_110 fl_5_22 sh_14 rfl hf (fun v47 hf => ?_)
                refine r_iast dX5_readTrunk_113 sh_20 hf (fun h48 e50 hf => ?_)
                have T49 := tp_eq e50 T45
                refine r_loc dX5_readTrunk_114 rfl ?_
                refine r_iconst (v := 5) dX5_readTrunk_115 rfl ?_
                obtain ⟨v52, h54, c51, hf⟩ := cal2_inv hf
                have g56 := rf_X5_take (X := X) (d := d) (by omega) 5 T49 c51
                have T55 : am_TP h54.2.2 := g56.2
                refine r_virt (pre := [.int 5]) (rest := []) dX5_readTrunk_116 ct_5_78 rfl (sh_14) (Nat.le_of_ble_eq_true rfl) (Nat.le_of_ble_eq_true rfl) g56 ?_
                refine r_eq0 (q := 132) dX5_readTrunk_119 rfl hf (fun hf => ?_) (fun hf => ?_)
                · refine r_iconst (v := 0) dX5_readTrunk_132 rfl ?_
                  cases hf
                  exact r_z0 T55 dX5_readTrunk_133
                · refine r_loc dX5_readTrunk_122 rfl ?_
                  refine r_iconst (v := 0) dX5_readTrunk_123 rfl ?_
                  refine r_bipush (v := 63) dX5_readTrunk_124 rfl ?_
                  obtain ⟨v58, h60, c57, hf⟩ := cal2_inv hf
                  have g62 := rf_X5_readNumber (X := X) (d := d) (by omega) 0 63 T55 c57
                  have T61 : am_TP h60.2.2 := g62.2
                  refine r_virt (pre := [.int 63, .int 0]) (rest := []) dX5_readTrunk_126 ct_5_81 rfl (sh_14) (Nat.le_of_ble_eq_true rfl) (Nat.le_of_ble_eq_true rfl) g62 ?_
                  refine r_ne0 (q := 134) dX5_readTrunk_129 rfl hf (fun hf => ?_) (fun hf => ?_)
                  · refine r_loc dX5_readTrunk_134 rfl ?_
                    refine r_getR dX5_readTrunk_135 fl_5_28 sh_14 (Or.inl ⟨_, rfl⟩) (tp_14_5 T61) ?_
                    refine r_getR dX5_readTrunk_138 fl_5_122 sh_17 (Or.inr ⟨_, rfl⟩) (tp_17_3 T61) ?_
                    refine r_loc dX5_readTrunk_141 rfl ?_
                    refine r_loc dX5_readTrunk_142 rfl ?_
                    refine r_getI dX5_readTrunk_143 fl_5_22 sh_14 rfl hf (fun v63 hf => ?_)
                    refine r_iast dX5_readTrunk_146 sh_21 hf (fun h64 e66 hf => ?_)
                    have T65 := tp_eq e66 T61
                    refine r_loc dX5_readTrunk_147 rfl ?_
                    refine r_getR dX5_readTrunk_148 fl_5_28 sh_14 (Or.inl ⟨_, rfl⟩) (tp_14_5 T65) ?_
                    refine r_getR dX5_readTrunk_151 fl_5_125 sh_17 (Or.inr ⟨_, rfl⟩) (tp_17_4 T65) ?_
                    refine r_loc dX5_readTrunk_154 rfl ?_
                    refine r_iconst (v := 0) dX5_readTrunk_155 rfl ?_
                    refine r_iast dX5_readTrunk_156 sh_22 hf (fun h67 e69 hf => ?_)
                    have T68 := tp_eq e69 T65
                    refine r_loc dX5_readTrunk_157 rfl ?_
                    refine r_getR dX5_readTrunk_158 fl_5_38 sh_14 (Or.inl ⟨_, rfl⟩) (tp_14_0 T68) ?_
                    refine r_getI dX5_readTrunk_161 fl_5_50 sh_1 rfl hf (fun v70 hf => ?_)
                    refine r_bipush (v := 6) dX5_readTrunk_164 rfl ?_
                    refine r_ne (q := 201) dX5_readTrunk_166 rfl hf (fun hf => ?_) (fun hf => ?_)
                    · exact rj_X5_readTrunk_201 (by omega) v1 T68 hf
                    · refine r_loc dX5_readTrunk_169 rfl ?_
                      refine r_getR dX5_readTrunk_170 fl_5_38 sh_14 (Or.inl ⟨_, rfl⟩) (tp_14_0 T68) ?_
                      obtain ⟨h81, c80, hf⟩ := cal_inv hf
                      have g83 := rf_X9_advance (X := X) (d := d) (by omega) T68 c80
                      have T82 : am_TP h81.2.2 := g83.2
                      refine r_virt (pre := []) (rest := []) dX5_readTrunk_173 ct_5_99 rfl (sh_1) (Nat.le_of_ble_eq_true rfl) (Nat.le_of_ble_eq_true rfl) g83 ?_
                      refine r_loc dX5_readTrunk_176 rfl ?_
                      refine r_iconst (v := 0) dX5_readTrunk_177 rfl ?_
                      refine r_bipush (v := 9) dX5_readTrunk_178 rfl ?_
                      obtain ⟨v85, h87, c84, hf⟩ := cal2_inv hf
                      have g89 := rf_X5_readNumber (X := X) (d := d) (by omega) 0 9 T82 c84
                      have T88 : am_TP h87.2.2 := g89.2
                      refine r_virt (pre := [.int 9, .int 0]) (rest := []) dX5_readTrunk_180 ct_5_81 rfl (sh_14) (Nat.le_of_ble_eq_true rfl) (Nat.le_of_ble_eq_true rfl) g89 ?_
                      refine r_ne0 (q := 188) dX5_readTrunk_183 rfl hf (fun hf => ?_) (fun hf => ?_)
                      · refine r_loc dX5_readTrunk_188 rfl ?_
                        refine r_getR dX5_readTrunk_189 fl_5_28 sh_14 (Or.inl ⟨_, rfl⟩) (tp_14_5 T88) ?_
                        refine r_getR dX5_readTrunk_192 fl_5_125 sh_17 (Or.inr ⟨_, rfl⟩) (tp_17_4 T88) ?_
                        refine r_loc dX5_readTrunk_195 rfl ?_
                        refine r_loc dX5_readTrunk_196 rfl ?_
                        refine r_getI dX5_readTrunk_197 fl_5_22 sh_14 rfl hf (fun v90 hf => ?_)
                        refine r_iast dX5_readTrunk_200 sh_22 hf (fun h91 e93 hf => ?_)
                        have T92 := tp_eq e93 T88
                        exact rj_X5_readTrunk_201 (by omega) v1 T92 hf
                      · refine r_iconst (v := 0) dX5_readTrunk_186 rfl ?_
                        cases hf
                        exact r_z0 T88 dX5_readTrunk_187
                  · refine r_iconst (v := 0) dX5_readTrunk_132 rfl ?_
                    cases hf
                    exact r_z0 T61 dX5_readTrunk_133
              · refine r_iconst (v := 0) dX5_readTrunk_99 rfl ?_
                cases hf
                exact r_z0 T45 dX5_readTrunk_100
          · refine r_iconst (v := 0) dX5_readTrunk_60 rfl ?_
            cases hf
            exact r_z0 T28 dX5_readTrunk_61
    · refine r_loc dX5_readTrunk_18 rfl ?_
      obtain ⟨v95, h97, c94, hf⟩ := cal2_inv hf
      have g99 := rf_X5_cannotStand (X := X) (d := d) (by omega) T c94
      have T98 : am_TP h97.2.2 := g99.2
      refine r_virt (pre := []) (rest := []) dX5_readTrunk_19 ct_5_93 rfl (sh_14) (Nat.le_of_ble_eq_true rfl) (Nat.le_of_ble_eq_true rfl) g99 ?_
      exact r_zret T98 dX5_readTrunk_22 hf (fun hf => by cases hf; rfl)
def f_X5_isFirst (x1 : Int32) (h : am_H) : Option (Int32 × am_H) := bnd (h.1 14 3) fun v1 => if (v1 &&& ((1 : Int32) <<< (x1 &&& 31))) = 0 then bnd (h.1 14 3) fun v2 => ptI h 14 3 (v2 ||| ((1 : Int32) <<< (x1 &&& 31))) fun h3 => cal (f_X9_advance h3) fun h7 => some (1, h7) else cal2 (f_X5_cannotStand h) fun v11 h13 => zrt v11 (some (v11, h13))
theorem rf_X5_isFirst {X : am_X} {d : Nat} (hd : 3 ≤ d) (x1 : Int32) {h : am_H} (T : am_TP h.2.2) {r : Int32 × am_H} (hf : f_X5_isFirst x1 h = some r) : am_G X d 5 false cX5_isFirst (some .boolean) 0 [some (.ref 14), some (.int x1), none] [] (am_SH, h) (some (.int r.1), (am_SH, r.2)) := by
  unfold f_X5_isFirst at hf
  obtain ⟨d, rfl⟩ : ∃ e, d = e + 1 := ⟨d - 1, by omega⟩
  refine r_iconst (v := 1) dX5_isFirst_0 rfl ?_
  refine r_loc dX5_isFirst_1 rfl ?_
  refine r_alu dX5_isFirst_2 rfl ?_
  refine r_loc (L' := [some (.ref 14), some (.int x1), some (.int ((1 : Int32) <<< (x1 &&& 31)))]) dX5_isFirst_3 rfl ?_
  refine r_loc dX5_isFirst_4 rfl ?_
  refine r_getI dX5_isFirst_5 fl_5_18 sh_14 rfl hf (fun v1 hf => ?_)
  refine r_loc dX5_isFirst_8 rfl ?_
  refine r_alu dX5_isFirst_9 rfl ?_
  refine r_eq0 (q := 18) dX5_isFirst_10 rfl hf (fun hf => ?_) (fun hf => ?_)
  · refine r_loc dX5_isFirst_18 rfl ?_
    refine r_alu dX5_isFirst_19 rfl ?_
    refine r_getI dX5_isFirst_20 fl_5_18 sh_14 rfl hf (fun v2 hf => ?_)
    refine r_loc dX5_isFirst_23 rfl ?_
    refine r_alu dX5_isFirst_24 rfl ?_
    refine r_putI dX5_isFirst_25 fl_5_18 sh_14 ⟨rfl, rfl⟩ hf (fun h3 e5 hf => ?_)
    have T4 := tp_eq e5 T
    refine r_loc dX5_isFirst_28 rfl ?_
    refine r_getR dX5_isFirst_29 fl_5_38 sh_14 (Or.inl ⟨_, rfl⟩) (tp_14_0 T4) ?_
    obtain ⟨h7, c6, hf⟩ := cal_inv hf
    have g9 := rf_X9_advance (X := X) (d := d) (by omega) T4 c6
    have T8 : am_TP h7.2.2 := g9.2
    refine r_virt (pre := []) (rest := []) dX5_isFirst_32 ct_5_99 rfl (sh_1) (Nat.le_of_ble_eq_true rfl) (Nat.le_of_ble_eq_true rfl) g9 ?_
    refine r_iconst (v := 1) dX5_isFirst_35 rfl ?_
    cases hf
    exact r_z1 T8 dX5_isFirst_36
  · refine r_loc dX5_isFirst_13 rfl ?_
    obtain ⟨v11, h13, c10, hf⟩ := cal2_inv hf
    have g15 := rf_X5_cannotStand (X := X) (d := d) (by omega) T c10
    have T14 : am_TP h13.2.2 := g15.2
    refine r_virt (pre := []) (rest := []) dX5_isFirst_14 ct_5_93 rfl (sh_14) (Nat.le_of_ble_eq_true rfl) (Nat.le_of_ble_eq_true rfl) g15 ?_
    exact r_zret T14 dX5_isFirst_17 hf (fun hf => by cases hf; rfl)
def f_X5_levelOf (x0 : Int32) (h : am_H) : Option (Int32) := if x0 = 11 then some 1 else if x0 = 12 then some 2 else if x0 = 21 then some 3 else if x0 = 22 then some 3 else if x0 = 23 then some 3 else if x0 = 24 then some 4 else if x0 = 25 then some 4 else if x0 = 26 then some 5 else if x0 = 27 then some 5 else if x0 = 28 then some 5 else some 6
theorem rf_X5_levelOf {X : am_X} {d : Nat} (hd : 0 ≤ d) (x0 : Int32) {h : am_H} (T : am_TP h.2.2) {r : Int32} (hf : f_X5_levelOf x0 h = some r) : am_G X d 5 false cX5_levelOf (some .int) 0 [some (.int x0)] [] (am_SH, h) (some (.int r), (am_SH, h)) := by
  unfold f_X5_levelOf at hf
  refine r_loc dX5_levelOf_0 rfl ?_
  refine r_swc (x := x0) (v := 11) (off := 87) (q := 88) dX5_levelOf_1 rfl rfl hf (fun hf => ?_) (fun n11 hf => ?_)
  · refine r_iconst (v := 1) dX5_levelOf_88 rfl ?_
    cases hf
    exact r_ri T dX5_levelOf_89
  refine r_swc (x := x0) (v := 12) (off := 89) (q := 90) dX5_levelOf_1 rfl rfl hf (fun hf => ?_) (fun n12 hf => ?_)
  · refine r_iconst (v := 2) dX5_levelOf_90 rfl ?_
    cases hf
    exact r_ri T dX5_levelOf_91
  refine r_swc (x := x0) (v := 21) (off := 91) (q := 92) dX5_levelOf_1 rfl rfl hf (fun hf => ?_) (fun n21 hf => ?_)
  · refine r_iconst (v := 3) dX5_levelOf_92 rfl ?_
    cases hf
    exact r_ri T dX5_levelOf_93
  refine r_swc (x := x0) (v := 22) (off := 91) (q := 92) dX5_levelOf_1 rfl rfl hf (fun hf => ?_) (fun n22 hf => ?_)
  · refine r_iconst (v := 3) dX5_levelOf_92 rfl ?_
    cases hf
    exact r_ri T dX5_levelOf_93
  refine r_swc (x := x0) (v := 23) (off := 91) (q := 92) dX5_levelOf_1 rfl rfl hf (fun hf => ?_) (fun n23 hf => ?_)
  · refine r_iconst (v := 3) dX5_levelOf_92 rfl ?_
    cases hf
    exact r_ri T dX5_levelOf_93
  refine r_swc (x := x0) (v := 24) (off := 93) (q := 94) dX5_levelOf_1 rfl rfl hf (fun hf => ?_) (fun n24 hf => ?_)
  · refine r_iconst (v := 4) dX5_levelOf_94 rfl ?_
    cases hf
    exact r_ri T dX5_levelOf_95
  refine r_swc (x := x0) (v := 25) (off := 93) (q := 94) dX5_levelOf_1 rfl rfl hf (fun hf => ?_) (fun n25 hf => ?_)
  · refine r_iconst (v := 4) dX5_levelOf_94 rfl ?_
    cases hf
    exact r_ri T dX5_levelOf_95
  refine r_swc (x := x0) (v := 26) (off := 95) (q := 96) dX5_levelOf_1 rfl rfl hf (fun hf => ?_) (fun n26 hf => ?_)
  · refine r_iconst (v := 5) dX5_levelOf_96 rfl ?_
    cases hf
    exact r_ri T dX5_levelOf_97
  refine r_swc (x := x0) (v := 27) (off := 95) (q := 96) dX5_levelOf_1 rfl rfl hf (fun hf => ?_) (fun n27 hf => ?_)
  · refine r_iconst (v := 5) dX5_levelOf_96 rfl ?_
    cases hf
    exact r_ri T dX5_levelOf_97
  refine r_swc (x := x0) (v := 28) (off := 95) (q := 96) dX5_levelOf_1 rfl rfl hf (fun hf => ?_) (fun n28 hf => ?_)
  · refine r_iconst (v := 5) dX5_levelOf_96 rfl ?_
    cases hf
    exact r_ri T dX5_levelOf_97
  refine r_swdt (q := 98) dX5_levelOf_1 (by decide) ⟨Or.inr n11, Or.inr n12, Or.inl rfl, Or.inl rfl, Or.inl rfl, Or.inl rfl, Or.inl rfl, Or.inl rfl, Or.inl rfl, Or.inl rfl, Or.inr n21, Or.inr n22, Or.inr n23, Or.inr n24, Or.inr n25, Or.inr n26, Or.inr n27, Or.inr n28, trivial⟩ rfl ?_
  refine r_bipush (v := 6) dX5_levelOf_98 rfl ?_
  cases hf
  exact r_ri T dX5_levelOf_100
def lp_X5_readJoined_28 (rp : Int32 → Int32 → am_H → Option (Int32 × am_H)) (p1 : Int32) (p2 : Int32) (p3 : Int32) : Nat → Int32 → am_H → Option (Int32 × am_H)
  | 0, _, _ => none
  | n + 1, x4, h => if x4 < p3 then bnd (h.1 1 4) fun v7 => cal (f_X5_levelOf v7 h) fun v9 => if v9 = p1 then bnd (h.1 1 4) fun v11 => cal (f_X9_advance h) fun h13 => cal2 (rp (p1 + 1) p2 h13) fun v17 h19 => if v17 = 0 then some (0, h19) else cal (f_X2_addStep_23 v11 0 h19) fun h23 => lp_X5_readJoined_28 rp p1 p2 p3 n (x4 + 1) h23 else some (1, h) else some (1, h)
def f_X5_readJoined (rp : Int32 → Int32 → am_H → Option (Int32 × am_H)) (x1 : Int32) (x2 : Int32) (h : am_H) : Option (Int32 × am_H) := cal2 (rp (x1 + 1) x2 h) fun v2 h4 => if v2 = 0 then some (0, h4) else if x1 = 3 then lp_X5_readJoined_28 rp x1 x2 1  4000 0 h4 else lp_X5_readJoined_28 rp x1 x2 30  4000 0 h4
theorem rl_X5_readJoined_28 {X : am_X} {d : Nat} (rp : Int32 → Int32 → am_H → Option (Int32 × am_H)) {D : Nat} (hrp : ∀ {d : Nat}, D ≤ d → ∀ (a0 : Int32) (a1 : Int32), ∀ {h : am_H}, am_TP h.2.2 → ∀ {r : Int32 × am_H}, rp a0 a1 h = some r → am_G X d 5 false cX5_readPart (some .boolean) 0 [some (.ref 14), some (.int a0), some (.int a1)] [] (am_SH, h) (some (.int r.1), (am_SH, r.2))) (hd1 : D + 1 ≤ d) (hd : 3 ≤ d) (p1 : Int32) (p2 : Int32) (p3 : Int32) {r : Int32 × am_H} : ∀ (n : Nat) (x4 : Int32) (h : am_H), am_TP h.2.2 → lp_X5_readJoined_28 rp p1 p2 p3 n x4 h = some r → am_G X d 5 false cX5_readJoined (some .boolean) 28 [some (.ref 14), some (.int p1), some (.int p2), some (.int p3), some (.int x4), none] [] (am_SH, h) (some (.int r.1), (am_SH, r.2)) := by
  obtain ⟨d, rfl⟩ : ∃ e, d = e + 1 := ⟨d - 1, by omega⟩
  intro n
  induction n with
  | zero => intro x4 h T hf; cases hf
  | succ n ih =>
    intro x4 h T hf
    rw [lp_X5_readJoined_28] at hf
    refine r_loc dX5_readJoined_28 rfl ?_
    refine r_loc dX5_readJoined_30 rfl ?_
    refine r_ge (q := 96) dX5_readJoined_31 rfl hf (fun hf => ?_) (fun hf => ?_)
    · refine r_iconst (v := 1) dX5_readJoined_96 rfl ?_
      cases hf
      exact r_z1 T dX5_readJoined_97
    · refine r_loc dX5_readJoined_34 rfl ?_
      refine r_getR dX5_readJoined_35 fl_5_38 sh_14 (Or.inl ⟨_, rfl⟩) (tp_14_0 T) ?_
      refine r_getI dX5_readJoined_38 fl_5_50 sh_1 rfl hf (fun v7 hf => ?_)
      obtain ⟨v9, c8, hf⟩ := cal_inv hf
      have g10 := rf_X5_levelOf (X := X) (d := d) (by omega) v7 T c8
      refine r_stat (pre := [.int v7]) (rest := []) dX5_readJoined_41 ct_5_155 rfl (Nat.le_of_ble_eq_true rfl) (Nat.le_of_ble_eq_true rfl) g10 ?_
      refine r_loc dX5_readJoined_44 rfl ?_
      refine r_ne (q := 96) dX5_readJoined_45 rfl hf (fun hf => ?_) (fun hf => ?_)
      · refine r_iconst (v := 1) dX5_readJoined_96 rfl ?_
        cases hf
        exact r_z1 T dX5_readJoined_97
      · refine r_loc dX5_readJoined_48 rfl ?_
        refine r_getR dX5_readJoined_49 fl_5_38 sh_14 (Or.inl ⟨_, rfl⟩) (tp_14_0 T) ?_
        refine r_getI dX5_readJoined_52 fl_5_50 sh_1 rfl hf (fun v11 hf => ?_)
        refine r_loc (L' := [some (.ref 14), some (.int p1), some (.int p2), some (.int p3), some (.int x4), some (.int v11)]) dX5_readJoined_55 rfl ?_
        refine r_loc dX5_readJoined_57 rfl ?_
        refine r_getR dX5_readJoined_58 fl_5_38 sh_14 (Or.inl ⟨_, rfl⟩) (tp_14_0 T) ?_
        obtain ⟨h13, c12, hf⟩ := cal_inv hf
        have g15 := rf_X9_advance (X := X) (d := d) (by omega) T c12
        have T14 : am_TP h13.2.2 := g15.2
        refine r_virt (pre := []) (rest := []) dX5_readJoined_61 ct_5_99 rfl (sh_1) (Nat.le_of_ble_eq_true rfl) (Nat.le_of_ble_eq_true rfl) g15 ?_
        refine r_loc dX5_readJoined_64 rfl ?_
        refine r_loc dX5_readJoined_65 rfl ?_
        refine r_iconst (v := 1) dX5_readJoined_66 rfl ?_
        refine r_alu dX5_readJoined_67 rfl ?_
        refine r_loc dX5_readJoined_68 rfl ?_
        obtain ⟨v17, h19, c16, hf⟩ := cal2_inv hf
        have g21 := hrp (d := d) (by omega) (p1 + 1) p2 T14 c16
        have T20 : am_TP h19.2.2 := g21.2
        refine r_virt (pre := [.int p2, .int (p1 + 1)]) (rest := []) dX5_readJoined_69 ct_5_74 rfl (sh_14) (Nat.le_of_ble_eq_true rfl) (Nat.le_of_ble_eq_true rfl) g21 ?_
        refine r_ne0 (q := 77) dX5_readJoined_72 rfl hf (fun hf => ?_) (fun hf => ?_)
        · refine r_loc dX5_readJoined_77 rfl ?_
          refine r_getR dX5_readJoined_78 fl_5_28 sh_14 (Or.inl ⟨_, rfl⟩) (tp_14_5 T20) ?_
          refine r_getR dX5_readJoined_81 fl_5_63 sh_17 (Or.inl ⟨_, rfl⟩) (tp_17_5 T20) ?_
          refine r_loc dX5_readJoined_84 rfl ?_
          refine r_iconst (v := 0) dX5_readJoined_86 rfl ?_
          obtain ⟨h23, c22, hf⟩ := cal_inv hf
          have g25 := rf_X2_addStep_23 (X := X) (d := d) (by omega) v11 0 T20 c22
          have T24 : am_TP h23.2.2 := g25.2
          refine r_virt (pre := [.int 0, .int v11]) (rest := []) dX5_readJoined_87 ct_5_158 rfl (sh_23) (Nat.le_of_ble_eq_true rfl) (Nat.le_of_ble_eq_true rfl) g25 ?_
          refine r_loc (L' := [some (.ref 14), some (.int p1), some (.int p2), some (.int p3), some (.int (x4 + 1)), some (.int v11)]) dX5_readJoined_90 rfl ?_
          refine r_goto (q := 28) dX5_readJoined_93 rfl ?_
          refine r_weak (L := [some (.ref 14), some (.int p1), some (.int p2), some (.int p3), some (.int (x4 + 1)), none]) (am_le_s (am_le_s (am_le_s (am_le_s (am_le_s (am_le_n am_le_0)))))) ?_
          exact ih (x4 + 1) h23 T24 hf
        · refine r_iconst (v := 0) dX5_readJoined_75 rfl ?_
          cases hf
          exact r_z0 T20 dX5_readJoined_76
theorem rf_X5_readJoined {X : am_X} {d : Nat} (rp : Int32 → Int32 → am_H → Option (Int32 × am_H)) {D : Nat} (hrp : ∀ {d : Nat}, D ≤ d → ∀ (a0 : Int32) (a1 : Int32), ∀ {h : am_H}, am_TP h.2.2 → ∀ {r : Int32 × am_H}, rp a0 a1 h = some r → am_G X d 5 false cX5_readPart (some .boolean) 0 [some (.ref 14), some (.int a0), some (.int a1)] [] (am_SH, h) (some (.int r.1), (am_SH, r.2))) (hd1 : D + 1 ≤ d) (hd : 3 ≤ d) (x1 : Int32) (x2 : Int32) {h : am_H} (T : am_TP h.2.2) {r : Int32 × am_H} (hf : f_X5_readJoined rp x1 x2 h = some r) : am_G X d 5 false cX5_readJoined (some .boolean) 0 [some (.ref 14), some (.int x1), some (.int x2), none, none, none] [] (am_SH, h) (some (.int r.1), (am_SH, r.2)) := by
  unfold f_X5_readJoined at hf
  obtain ⟨d, rfl⟩ : ∃ e, d = e + 1 := ⟨d - 1, by omega⟩
  refine r_loc dX5_readJoined_0 rfl ?_
  refine r_loc dX5_readJoined_1 rfl ?_
  refine r_iconst (v := 1) dX5_readJoined_2 rfl ?_
  refine r_alu dX5_readJoined_3 rfl ?_
  refine r_loc dX5_readJoined_4 rfl ?_
  obtain ⟨v2, h4, c1, hf⟩ := cal2_inv hf
  have g6 := hrp (d := d) (by omega) (x1 + 1) x2 T c1
  have T5 : am_TP h4.2.2 := g6.2
  refine r_virt (pre := [.int x2, .int (x1 + 1)]) (rest := []) dX5_readJoined_5 ct_5_74 rfl (sh_14) (Nat.le_of_ble_eq_true rfl) (Nat.le_of_ble_eq_true rfl) g6 ?_
  refine r_ne0 (q := 13) dX5_readJoined_8 rfl hf (fun hf => ?_) (fun hf => ?_)
  · refine r_loc dX5_readJoined_13 rfl ?_
    refine r_iconst (v := 3) dX5_readJoined_14 rfl ?_
    refine r_ne (q := 22) dX5_readJoined_15 rfl hf (fun hf => ?_) (fun hf => ?_)
    · refine r_bipush (v := 30) dX5_readJoined_22 rfl ?_
      refine r_loc (L' := [some (.ref 14), some (.int x1), some (.int x2), some (.int 30), none, none]) dX5_readJoined_24 rfl ?_
      refine r_iconst (v := 0) dX5_readJoined_25 rfl ?_
      refine r_loc (L' := [some (.ref 14), some (.int x1), some (.int x2), some (.int 30), some (.int 0), none]) dX5_readJoined_26 rfl ?_
      refine rl_X5_readJoined_28 rp hrp (by omega) (by omega) x1 x2 30  4000 0 h4 T5 hf
    · refine r_iconst (v := 1) dX5_readJoined_18 rfl ?_
      refine r_goto (q := 24) dX5_readJoined_19 rfl ?_
      refine r_loc (L' := [some (.ref 14), some (.int x1), some (.int x2), some (.int 1), none, none]) dX5_readJoined_24 rfl ?_
      refine r_iconst (v := 0) dX5_readJoined_25 rfl ?_
      refine r_loc (L' := [some (.ref 14), some (.int x1), some (.int x2), some (.int 1), some (.int 0), none]) dX5_readJoined_26 rfl ?_
      refine rl_X5_readJoined_28 rp hrp (by omega) (by omega) x1 x2 1  4000 0 h4 T5 hf
  · refine r_iconst (v := 0) dX5_readJoined_11 rfl ?_
    cases hf
    exact r_z0 T5 dX5_readJoined_12
def f_X5_readNot (rp : Int32 → Int32 → am_H → Option (Int32 × am_H)) (x1 : Int32) (h : am_H) : Option (Int32 × am_H) := if 6 < x1 then cal2 (f_X5_cannotStand h) fun v16 h18 => zrt v16 (some (v16, h18)) else cal (f_X9_advance h) fun h2 => cal2 (rp 3 (x1 + 1) h2) fun v6 h8 => if v6 = 0 then some (0, h8) else cal (f_X2_addStep_23 13 0 h8) fun h12 => some (1, h12)
theorem rf_X5_readNot {X : am_X} {d : Nat} (rp : Int32 → Int32 → am_H → Option (Int32 × am_H)) {D : Nat} (hrp : ∀ {d : Nat}, D ≤ d → ∀ (a0 : Int32) (a1 : Int32), ∀ {h : am_H}, am_TP h.2.2 → ∀ {r : Int32 × am_H}, rp a0 a1 h = some r → am_G X d 5 false cX5_readPart (some .boolean) 0 [some (.ref 14), some (.int a0), some (.int a1)] [] (am_SH, h) (some (.int r.1), (am_SH, r.2))) (hd1 : D + 1 ≤ d) (hd : 3 ≤ d) (x1 : Int32) {h : am_H} (T : am_TP h.2.2) {r : Int32 × am_H} (hf : f_X5_readNot rp x1 h = some r) : am_G X d 5 false cX5_readNot (some .boolean) 0 [some (.ref 14), some (.int x1)] [] (am_SH, h) (some (.int r.1), (am_SH, r.2)) := by
  unfold f_X5_readNot at hf
  obtain ⟨d, rfl⟩ : ∃ e, d = e + 1 := ⟨d - 1, by omega⟩
  refine r_loc dX5_readNot_0 rfl ?_
  refine r_bipush (v := 6) dX5_readNot_1 rfl ?_
  refine r_le (q := 11) dX5_readNot_3 rfl hf (fun hf => ?_) (fun hf => ?_)
  · refine r_loc dX5_readNot_11 rfl ?_
    refine r_getR dX5_readNot_12 fl_5_38 sh_14 (Or.inl ⟨_, rfl⟩) (tp_14_0 T) ?_
    obtain ⟨h2, c1, hf⟩ := cal_inv hf
    have g4 := rf_X9_advance (X := X) (d := d) (by omega) T c1
    have T3 : am_TP h2.2.2 := g4.2
    refine r_virt (pre := []) (rest := []) dX5_readNot_15 ct_5_99 rfl (sh_1) (Nat.le_of_ble_eq_true rfl) (Nat.le_of_ble_eq_true rfl) g4 ?_
    refine r_loc dX5_readNot_18 rfl ?_
    refine r_iconst (v := 3) dX5_readNot_19 rfl ?_
    refine r_loc dX5_readNot_20 rfl ?_
    refine r_iconst (v := 1) dX5_readNot_21 rfl ?_
    refine r_alu dX5_readNot_22 rfl ?_
    obtain ⟨v6, h8, c5, hf⟩ := cal2_inv hf
    have g10 := hrp (d := d) (by omega) 3 (x1 + 1) T3 c5
    have T9 : am_TP h8.2.2 := g10.2
    refine r_virt (pre := [.int (x1 + 1), .int 3]) (rest := []) dX5_readNot_23 ct_5_74 rfl (sh_14) (Nat.le_of_ble_eq_true rfl) (Nat.le_of_ble_eq_true rfl) g10 ?_
    refine r_ne0 (q := 31) dX5_readNot_26 rfl hf (fun hf => ?_) (fun hf => ?_)
    · refine r_loc dX5_readNot_31 rfl ?_
      refine r_getR dX5_readNot_32 fl_5_28 sh_14 (Or.inl ⟨_, rfl⟩) (tp_14_5 T9) ?_
      refine r_getR dX5_readNot_35 fl_5_63 sh_17 (Or.inl ⟨_, rfl⟩) (tp_17_5 T9) ?_
      refine r_bipush (v := 13) dX5_readNot_38 rfl ?_
      refine r_iconst (v := 0) dX5_readNot_40 rfl ?_
      obtain ⟨h12, c11, hf⟩ := cal_inv hf
      have g14 := rf_X2_addStep_23 (X := X) (d := d) (by omega) 13 0 T9 c11
      have T13 : am_TP h12.2.2 := g14.2
      refine r_virt (pre := [.int 0, .int 13]) (rest := []) dX5_readNot_41 ct_5_158 rfl (sh_23) (Nat.le_of_ble_eq_true rfl) (Nat.le_of_ble_eq_true rfl) g14 ?_
      refine r_iconst (v := 1) dX5_readNot_44 rfl ?_
      cases hf
      exact r_z1 T13 dX5_readNot_45
    · refine r_iconst (v := 0) dX5_readNot_29 rfl ?_
      cases hf
      exact r_z0 T9 dX5_readNot_30
  · refine r_loc dX5_readNot_6 rfl ?_
    obtain ⟨v16, h18, c15, hf⟩ := cal2_inv hf
    have g20 := rf_X5_cannotStand (X := X) (d := d) (by omega) T c15
    have T19 : am_TP h18.2.2 := g20.2
    refine r_virt (pre := []) (rest := []) dX5_readNot_7 ct_5_93 rfl (sh_14) (Nat.le_of_ble_eq_true rfl) (Nat.le_of_ble_eq_true rfl) g20 ?_
    exact r_zret T19 dX5_readNot_10 hf (fun hf => by cases hf; rfl)
def jn_X5_readUnit_77 (rp : Int32 → Int32 → am_H → Option (Int32 × am_H)) (x1 : Int32) (x2 : Int32) (x3 : Int32) (h : am_H) : Option (Int32 × am_H) := bnd (h.1 23 4) fun v2 => if v2 < 30 then bnd (h.1 23 4) fun v3 => ptI h 23 4 (v3 + 1) fun h4 => if x3 = 0 then cal (f_X9_advance h4) fun h8 => cal2 (rp 1 (x1 + 1) h8) fun v12 h14 => if v12 = 0 then some (0, h14) else bnd (h14.1 1 4) fun v17 => if v17 = 20 then cal (f_X9_advance h14) fun h19 => some (1, h19) else cal2 (f_X5_cannotStand h14) fun v23 h25 => zrt v23 (some (v23, h25)) else bnd (h4.1 1 6) fun v28 => cal (f_X2_addStep_23 x2 v28 h4) fun h30 => cal (f_X9_advance h30) fun h34 => some (1, h34) else cal2 (f_X5_cannotStand h) fun v38 h40 => zrt v38 (some (v38, h40))
def jn_X5_readUnit_66 (rp : Int32 → Int32 → am_H → Option (Int32 × am_H)) (x1 : Int32) (x2 : Int32) (x3 : Int32) (y0 : Int32) (h : am_H) : Option (Int32 × am_H) := if x3 = 0 then if y0 = 0 then cal2 (f_X5_cannotStand h) fun v44 h46 => zrt v44 (some (v44, h46)) else jn_X5_readUnit_77 rp x1 x2 x3 h else jn_X5_readUnit_77 rp x1 x2 x3 h
def jn_X5_readUnit_65 (rp : Int32 → Int32 → am_H → Option (Int32 × am_H)) (x1 : Int32) (x2 : Int32) (x3 : Int32) (h : am_H) : Option (Int32 × am_H) := jn_X5_readUnit_66 rp x1 x2 x3 0 h
def jn_X5_readUnit_48 (rp : Int32 → Int32 → am_H → Option (Int32 × am_H)) (x1 : Int32) (x2 : Int32) (y0 : Int32) (h : am_H) : Option (Int32 × am_H) := if x2 = 19 then if 6 < x1 then jn_X5_readUnit_65 rp x1 x2 y0 h else jn_X5_readUnit_66 rp x1 x2 y0 1 h else jn_X5_readUnit_65 rp x1 x2 y0 h
def jn_X5_readUnit_43 (rp : Int32 → Int32 → am_H → Option (Int32 × am_H)) (x1 : Int32) (x2 : Int32) (h : am_H) : Option (Int32 × am_H) := jn_X5_readUnit_48 rp x1 x2 1 h
def f_X5_readUnit (rp : Int32 → Int32 → am_H → Option (Int32 × am_H)) (x1 : Int32) (h : am_H) : Option (Int32 × am_H) := bnd (h.1 1 4) fun v1 => if v1 = 29 then jn_X5_readUnit_43 rp x1 v1 h else if v1 = 3 then jn_X5_readUnit_43 rp x1 v1 h else if v1 = 14 then jn_X5_readUnit_43 rp x1 v1 h else if v1 = 15 then jn_X5_readUnit_43 rp x1 v1 h else if v1 = 16 then jn_X5_readUnit_43 rp x1 v1 h else if v1 = 17 then jn_X5_readUnit_43 rp x1 v1 h else jn_X5_readUnit_48 rp x1 v1 0 h
theorem rj_X5_readUnit_77 {X : am_X} {d : Nat} (rp : Int32 → Int32 → am_H → Option (Int32 × am_H)) {D : Nat} (hrp : ∀ {d : Nat}, D ≤ d → ∀ (a0 : Int32) (a1 : Int32), ∀ {h : am_H}, am_TP h.2.2 → ∀ {r : Int32 × am_H}, rp a0 a1 h = some r → am_G X d 5 false cX5_readPart (some .boolean) 0 [some (.ref 14), some (.int a0), some (.int a1)] [] (am_SH, h) (some (.int r.1), (am_SH, r.2))) (hd1 : D + 1 ≤ d) (hd : 3 ≤ d) (x1 : Int32) (x2 : Int32) (x3 : Int32) {h : am_H} (T : am_TP h.2.2) {r : Int32 × am_H} (hf : jn_X5_readUnit_77 rp x1 x2 x3 h = some r) : am_G X d 5 false cX5_readUnit (some .boolean) 77 [some (.ref 14), some (.int x1), some (.int x2), some (.int x3), none] [] (am_SH, h) (some (.int r.1), (am_SH, r.2)) := by
  obtain ⟨d, rfl⟩ : ∃ e, d = e + 1 := ⟨d - 1, by omega⟩
  unfold jn_X5_readUnit_77 at hf
  refine r_loc dX5_readUnit_77 rfl ?_
  refine r_getR dX5_readUnit_78 fl_5_28 sh_14 (Or.inl ⟨_, rfl⟩) (tp_14_5 T) ?_
  refine r_getR dX5_readUnit_81 fl_5_63 sh_17 (Or.inl ⟨_, rfl⟩) (tp_17_5 T) ?_
  refine r_getI dX5_readUnit_84 fl_5_162 sh_23 rfl hf (fun v2 hf => ?_)
  refine r_bipush (v := 30) dX5_readUnit_87 rfl ?_
  refine r_lt (q := 97) dX5_readUnit_89 rfl hf (fun hf => ?_) (fun hf => ?_)
  · refine r_loc dX5_readUnit_97 rfl ?_
    refine r_getR dX5_readUnit_98 fl_5_28 sh_14 (Or.inl ⟨_, rfl⟩) (tp_14_5 T) ?_
    refine r_getR dX5_readUnit_101 fl_5_63 sh_17 (Or.inl ⟨_, rfl⟩) (tp_17_5 T) ?_
    refine r_alu dX5_readUnit_104 rfl ?_
    refine r_getI dX5_readUnit_105 fl_5_162 sh_23 rfl hf (fun v3 hf => ?_)
    refine r_iconst (v := 1) dX5_readUnit_108 rfl ?_
    refine r_alu dX5_readUnit_109 rfl ?_
    refine r_putI dX5_readUnit_110 fl_5_162 sh_23 ⟨rfl, rfl⟩ hf (fun h4 e6 hf => ?_)
    have T5 := tp_eq e6 T
    refine r_loc dX5_readUnit_113 rfl ?_
    refine r_eq0 (q := 144) dX5_readUnit_114 rfl hf (fun hf => ?_) (fun hf => ?_)
    · refine r_loc dX5_readUnit_144 rfl ?_
      refine r_getR dX5_readUnit_145 fl_5_38 sh_14 (Or.inl ⟨_, rfl⟩) (tp_14_0 T5) ?_
      obtain ⟨h8, c7, hf⟩ := cal_inv hf
      have g10 := rf_X9_advance (X := X) (d := d) (by omega) T5 c7
      have T9 : am_TP h8.2.2 := g10.2
      refine r_virt (pre := []) (rest := []) dX5_readUnit_148 ct_5_99 rfl (sh_1) (Nat.le_of_ble_eq_true rfl) (Nat.le_of_ble_eq_true rfl) g10 ?_
      refine r_loc dX5_readUnit_151 rfl ?_
      refine r_iconst (v := 1) dX5_readUnit_152 rfl ?_
      refine r_loc dX5_readUnit_153 rfl ?_
      refine r_iconst (v := 1) dX5_readUnit_154 rfl ?_
      refine r_alu dX5_readUnit_155 rfl ?_
      obtain ⟨v12, h14, c11, hf⟩ := cal2_inv hf
      have g16 := hrp (d := d) (by omega) 1 (x1 + 1) T9 c11
      have T15 : am_TP h14.2.2 := g16.2
      refine r_virt (pre := [.int (x1 + 1), .int 1]) (rest := []) dX5_readUnit_156 ct_5_74 rfl (sh_14) (Nat.le_of_ble_eq_true rfl) (Nat.le_of_ble_eq_true rfl) g16 ?_
      refine r_ne0 (q := 164) dX5_readUnit_159 rfl hf (fun hf => ?_) (fun hf => ?_)
      · refine r_loc dX5_readUnit_164 rfl ?_
        refine r_getR dX5_readUnit_165 fl_5_38 sh_14 (Or.inl ⟨_, rfl⟩) (tp_14_0 T15) ?_
        refine r_getI dX5_readUnit_168 fl_5_50 sh_1 rfl hf (fun v17 hf => ?_)
        refine r_bipush (v := 20) dX5_readUnit_171 rfl ?_
        refine r_eq (q := 181) dX5_readUnit_173 rfl hf (fun hf => ?_) (fun hf => ?_)
        · refine r_loc dX5_readUnit_181 rfl ?_
          refine r_getR dX5_readUnit_182 fl_5_38 sh_14 (Or.inl ⟨_, rfl⟩) (tp_14_0 T15) ?_
          obtain ⟨h19, c18, hf⟩ := cal_inv hf
          have g21 := rf_X9_advance (X := X) (d := d) (by omega) T15 c18
          have T20 : am_TP h19.2.2 := g21.2
          refine r_virt (pre := []) (rest := []) dX5_readUnit_185 ct_5_99 rfl (sh_1) (Nat.le_of_ble_eq_true rfl) (Nat.le_of_ble_eq_true rfl) g21 ?_
          refine r_iconst (v := 1) dX5_readUnit_188 rfl ?_
          cases hf
          exact r_z1 T20 dX5_readUnit_189
        · refine r_loc dX5_readUnit_176 rfl ?_
          obtain ⟨v23, h25, c22, hf⟩ := cal2_inv hf
          have g27 := rf_X5_cannotStand (X := X) (d := d) (by omega) T15 c22
          have T26 : am_TP h25.2.2 := g27.2
          refine r_virt (pre := []) (rest := []) dX5_readUnit_177 ct_5_93 rfl (sh_14) (Nat.le_of_ble_eq_true rfl) (Nat.le_of_ble_eq_true rfl) g27 ?_
          exact r_zret T26 dX5_readUnit_180 hf (fun hf => by cases hf; rfl)
      · refine r_iconst (v := 0) dX5_readUnit_162 rfl ?_
        cases hf
        exact r_z0 T15 dX5_readUnit_163
    · refine r_loc dX5_readUnit_117 rfl ?_
      refine r_getR dX5_readUnit_118 fl_5_28 sh_14 (Or.inl ⟨_, rfl⟩) (tp_14_5 T5) ?_
      refine r_getR dX5_readUnit_121 fl_5_63 sh_17 (Or.inl ⟨_, rfl⟩) (tp_17_5 T5) ?_
      refine r_loc dX5_readUnit_124 rfl ?_
      refine r_loc dX5_readUnit_125 rfl ?_
      refine r_getR dX5_readUnit_126 fl_5_38 sh_14 (Or.inl ⟨_, rfl⟩) (tp_14_0 T5) ?_
      refine r_getI dX5_readUnit_129 fl_5_143 sh_1 rfl hf (fun v28 hf => ?_)
      obtain ⟨h30, c29, hf⟩ := cal_inv hf
      have g32 := rf_X2_addStep_23 (X := X) (d := d) (by omega) x2 v28 T5 c29
      have T31 : am_TP h30.2.2 := g32.2
      refine r_virt (pre := [.int v28, .int x2]) (rest := []) dX5_readUnit_132 ct_5_158 rfl (sh_23) (Nat.le_of_ble_eq_true rfl) (Nat.le_of_ble_eq_true rfl) g32 ?_
      refine r_loc dX5_readUnit_135 rfl ?_
      refine r_getR dX5_readUnit_136 fl_5_38 sh_14 (Or.inl ⟨_, rfl⟩) (tp_14_0 T31) ?_
      obtain ⟨h34, c33, hf⟩ := cal_inv hf
      have g36 := rf_X9_advance (X := X) (d := d) (by omega) T31 c33
      have T35 : am_TP h34.2.2 := g36.2
      refine r_virt (pre := []) (rest := []) dX5_readUnit_139 ct_5_99 rfl (sh_1) (Nat.le_of_ble_eq_true rfl) (Nat.le_of_ble_eq_true rfl) g36 ?_
      refine r_iconst (v := 1) dX5_readUnit_142 rfl ?_
      cases hf
      exact r_z1 T35 dX5_readUnit_143
  · refine r_loc dX5_readUnit_92 rfl ?_
    obtain ⟨v38, h40, c37, hf⟩ := cal2_inv hf
    have g42 := rf_X5_cannotStand (X := X) (d := d) (by omega) T c37
    have T41 : am_TP h40.2.2 := g42.2
    refine r_virt (pre := []) (rest := []) dX5_readUnit_93 ct_5_93 rfl (sh_14) (Nat.le_of_ble_eq_true rfl) (Nat.le_of_ble_eq_true rfl) g42 ?_
    exact r_zret T41 dX5_readUnit_96 hf (fun hf => by cases hf; rfl)
theorem rj_X5_readUnit_66 {X : am_X} {d : Nat} (rp : Int32 → Int32 → am_H → Option (Int32 × am_H)) {D : Nat} (hrp : ∀ {d : Nat}, D ≤ d → ∀ (a0 : Int32) (a1 : Int32), ∀ {h : am_H}, am_TP h.2.2 → ∀ {r : Int32 × am_H}, rp a0 a1 h = some r → am_G X d 5 false cX5_readPart (some .boolean) 0 [some (.ref 14), some (.int a0), some (.int a1)] [] (am_SH, h) (some (.int r.1), (am_SH, r.2))) (hd1 : D + 1 ≤ d) (hd : 3 ≤ d) (x1 : Int32) (x2 : Int32) (x3 : Int32) (y0 : Int32) {h : am_H} (T : am_TP h.2.2) {r : Int32 × am_H} (hf : jn_X5_readUnit_66 rp x1 x2 x3 y0 h = some r) : am_G X d 5 false cX5_readUnit (some .boolean) 66 [some (.ref 14), some (.int x1), some (.int x2), some (.int x3), none] [.int y0] (am_SH, h) (some (.int r.1), (am_SH, r.2)) := by
  obtain ⟨d, rfl⟩ : ∃ e, d = e + 1 := ⟨d - 1, by omega⟩
  unfold jn_X5_readUnit_66 at hf
  refine r_loc (L' := [some (.ref 14), some (.int x1), some (.int x2), some (.int x3), some (.int y0)]) dX5_readUnit_66 rfl ?_
  refine r_loc dX5_readUnit_68 rfl ?_
  refine r_ne0 (q := 77) dX5_readUnit_69 rfl hf (fun hf => ?_) (fun hf => ?_)
  · refine r_weak (L := [some (.ref 14), some (.int x1), some (.int x2), some (.int x3), none]) (am_le_s (am_le_s (am_le_s (am_le_s (am_le_n am_le_0))))) ?_
    exact rj_X5_readUnit_77 rp hrp (by omega) (by omega) x1 x2 x3 T hf
  · refine r_loc dX5_readUnit_72 rfl ?_
    refine r_eq0 (q := 92) dX5_readUnit_74 rfl hf (fun hf => ?_) (fun hf => ?_)
    · refine r_loc dX5_readUnit_92 rfl ?_
      obtain ⟨v44, h46, c43, hf⟩ := cal2_inv hf
      have g48 := rf_X5_cannotStand (X := X) (d := d) (by omega) T c43
      have T47 : am_TP h46.2.2 := g48.2
      refine r_virt (pre := []) (rest := []) dX5_readUnit_93 ct_5_93 rfl (sh_14) (Nat.le_of_ble_eq_true rfl) (Nat.le_of_ble_eq_true rfl) g48 ?_
      exact r_zret T47 dX5_readUnit_96 hf (fun hf => by cases hf; rfl)
    · refine r_weak (L := [some (.ref 14), some (.int x1), some (.int x2), some (.int x3), none]) (am_le_s (am_le_s (am_le_s (am_le_s (am_le_n am_le_0))))) ?_
      exact rj_X5_readUnit_77 rp hrp (by omega) (by omega) x1 x2 x3 T hf
theorem rj_X5_readUnit_65 {X : am_X} {d : Nat} (rp : Int32 → Int32 → am_H → Option (Int32 × am_H)) {D : Nat} (hrp : ∀ {d : Nat}, D ≤ d → ∀ (a0 : Int32) (a1 : Int32), ∀ {h : am_H}, am_TP h.2.2 → ∀ {r : Int32 × am_H}, rp a0 a1 h = some r → am_G X d 5 false cX5_readPart (some .boolean) 0 [some (.ref 14), some (.int a0), some (.int a1)] [] (am_SH, h) (some (.int r.1), (am_SH, r.2))) (hd1 : D + 1 ≤ d) (hd : 3 ≤ d) (x1 : Int32) (x2 : Int32) (x3 : Int32) {h : am_H} (T : am_TP h.2.2) {r : Int32 × am_H} (hf : jn_X5_readUnit_65 rp x1 x2 x3 h = some r) : am_G X d 5 false cX5_readUnit (some .boolean) 65 [some (.ref 14), some (.int x1), some (.int x2), some (.int x3), none] [] (am_SH, h) (some (.int r.1), (am_SH, r.2)) := by
  obtain ⟨d, rfl⟩ : ∃ e, d = e + 1 := ⟨d - 1, by omega⟩
  unfold jn_X5_readUnit_65 at hf
  refine r_iconst (v := 0) dX5_readUnit_65 rfl ?_
  exact rj_X5_readUnit_66 rp hrp (by omega) (by omega) x1 x2 x3 0 T hf
theorem rj_X5_readUnit_48 {X : am_X} {d : Nat} (rp : Int32 → Int32 → am_H → Option (Int32 × am_H)) {D : Nat} (hrp : ∀ {d : Nat}, D ≤ d → ∀ (a0 : Int32) (a1 : Int32), ∀ {h : am_H}, am_TP h.2.2 → ∀ {r : Int32 × am_H}, rp a0 a1 h = some r → am_G X d 5 false cX5_readPart (some .boolean) 0 [some (.ref 14), some (.int a0), some (.int a1)] [] (am_SH, h) (some (.int r.1), (am_SH, r.2))) (hd1 : D + 1 ≤ d) (hd : 3 ≤ d) (x1 : Int32) (x2 : Int32) (y0 : Int32) {h : am_H} (T : am_TP h.2.2) {r : Int32 × am_H} (hf : jn_X5_readUnit_48 rp x1 x2 y0 h = some r) : am_G X d 5 false cX5_readUnit (some .boolean) 48 [some (.ref 14), some (.int x1), some (.int x2), none, none] [.int y0] (am_SH, h) (some (.int r.1), (am_SH, r.2)) := by
  obtain ⟨d, rfl⟩ : ∃ e, d = e + 1 := ⟨d - 1, by omega⟩
  unfold jn_X5_readUnit_48 at hf
  refine r_loc (L' := [some (.ref 14), some (.int x1), some (.int x2), some (.int y0), none]) dX5_readUnit_48 rfl ?_
  refine r_loc dX5_readUnit_49 rfl ?_
  refine r_bipush (v := 19) dX5_readUnit_50 rfl ?_
  refine r_ne (q := 65) dX5_readUnit_52 rfl hf (fun hf => ?_) (fun hf => ?_)
  · exact rj_X5_readUnit_65 rp hrp (by omega) (by omega) x1 x2 y0 T hf
  · refine r_loc dX5_readUnit_55 rfl ?_
    refine r_bipush (v := 6) dX5_readUnit_56 rfl ?_
    refine r_gt (q := 65) dX5_readUnit_58 rfl hf (fun hf => ?_) (fun hf => ?_)
    · exact rj_X5_readUnit_65 rp hrp (by omega) (by omega) x1 x2 y0 T hf
    · refine r_iconst (v := 1) dX5_readUnit_61 rfl ?_
      refine r_goto (q := 66) dX5_readUnit_62 rfl ?_
      exact rj_X5_readUnit_66 rp hrp (by omega) (by omega) x1 x2 y0 1 T hf
theorem rj_X5_readUnit_43 {X : am_X} {d : Nat} (rp : Int32 → Int32 → am_H → Option (Int32 × am_H)) {D : Nat} (hrp : ∀ {d : Nat}, D ≤ d → ∀ (a0 : Int32) (a1 : Int32), ∀ {h : am_H}, am_TP h.2.2 → ∀ {r : Int32 × am_H}, rp a0 a1 h = some r → am_G X d 5 false cX5_readPart (some .boolean) 0 [some (.ref 14), some (.int a0), some (.int a1)] [] (am_SH, h) (some (.int r.1), (am_SH, r.2))) (hd1 : D + 1 ≤ d) (hd : 3 ≤ d) (x1 : Int32) (x2 : Int32) {h : am_H} (T : am_TP h.2.2) {r : Int32 × am_H} (hf : jn_X5_readUnit_43 rp x1 x2 h = some r) : am_G X d 5 false cX5_readUnit (some .boolean) 43 [some (.ref 14), some (.int x1), some (.int x2), none, none] [] (am_SH, h) (some (.int r.1), (am_SH, r.2)) := by
  obtain ⟨d, rfl⟩ : ∃ e, d = e + 1 := ⟨d - 1, by omega⟩
  unfold jn_X5_readUnit_43 at hf
  refine r_iconst (v := 1) dX5_readUnit_43 rfl ?_
  refine r_goto (q := 48) dX5_readUnit_44 rfl ?_
  exact rj_X5_readUnit_48 rp hrp (by omega) (by omega) x1 x2 1 T hf
theorem rf_X5_readUnit {X : am_X} {d : Nat} (rp : Int32 → Int32 → am_H → Option (Int32 × am_H)) {D : Nat} (hrp : ∀ {d : Nat}, D ≤ d → ∀ (a0 : Int32) (a1 : Int32), ∀ {h : am_H}, am_TP h.2.2 → ∀ {r : Int32 × am_H}, rp a0 a1 h = some r → am_G X d 5 false cX5_readPart (some .boolean) 0 [some (.ref 14), some (.int a0), some (.int a1)] [] (am_SH, h) (some (.int r.1), (am_SH, r.2))) (hd1 : D + 1 ≤ d) (hd : 3 ≤ d) (x1 : Int32) {h : am_H} (T : am_TP h.2.2) {r : Int32 × am_H} (hf : f_X5_readUnit rp x1 h = some r) : am_G X d 5 false cX5_readUnit (some .boolean) 0 [some (.ref 14), some (.int x1), none, none, none] [] (am_SH, h) (some (.int r.1), (am_SH, r.2)) := by
  unfold f_X5_readUnit at hf
  obtain ⟨d, rfl⟩ : ∃ e, d = e + 1 := ⟨d - 1, by omega⟩
  refine r_loc dX5_readUnit_0 rfl ?_
  refine r_getR dX5_readUnit_1 fl_5_38 sh_14 (Or.inl ⟨_, rfl⟩) (tp_14_0 T) ?_
  refine r_getI dX5_readUnit_4 fl_5_50 sh_1 rfl hf (fun v1 hf => ?_)
  refine r_loc (L' := [some (.ref 14), some (.int x1), some (.int v1), none, none]) dX5_readUnit_7 rfl ?_
  refine r_loc dX5_readUnit_8 rfl ?_
  refine r_bipush (v := 29) dX5_readUnit_9 rfl ?_
  refine r_eq (q := 43) dX5_readUnit_11 rfl hf (fun hf => ?_) (fun hf => ?_)
  · exact rj_X5_readUnit_43 rp hrp (by omega) (by omega) x1 v1 T hf
  · refine r_loc dX5_readUnit_14 rfl ?_
    refine r_iconst (v := 3) dX5_readUnit_15 rfl ?_
    refine r_eq (q := 43) dX5_readUnit_16 rfl hf (fun hf => ?_) (fun hf => ?_)
    · exact rj_X5_readUnit_43 rp hrp (by omega) (by omega) x1 v1 T hf
    · refine r_loc dX5_readUnit_19 rfl ?_
      refine r_bipush (v := 14) dX5_readUnit_20 rfl ?_
      refine r_eq (q := 43) dX5_readUnit_22 rfl hf (fun hf => ?_) (fun hf => ?_)
      · exact rj_X5_readUnit_43 rp hrp (by omega) (by omega) x1 v1 T hf
      · refine r_loc dX5_readUnit_25 rfl ?_
        refine r_bipush (v := 15) dX5_readUnit_26 rfl ?_
        refine r_eq (q := 43) dX5_readUnit_28 rfl hf (fun hf => ?_) (fun hf => ?_)
        · exact rj_X5_readUnit_43 rp hrp (by omega) (by omega) x1 v1 T hf
        · refine r_loc dX5_readUnit_31 rfl ?_
          refine r_bipush (v := 16) dX5_readUnit_32 rfl ?_
          refine r_eq (q := 43) dX5_readUnit_34 rfl hf (fun hf => ?_) (fun hf => ?_)
          · exact rj_X5_readUnit_43 rp hrp (by omega) (by omega) x1 v1 T hf
          · refine r_loc dX5_readUnit_37 rfl ?_
            refine r_bipush (v := 17) dX5_readUnit_38 rfl ?_
            refine r_ne (q := 47) dX5_readUnit_40 rfl hf (fun hf => ?_) (fun hf => ?_)
            · refine r_iconst (v := 0) dX5_readUnit_47 rfl ?_
              exact rj_X5_readUnit_48 rp hrp (by omega) (by omega) x1 v1 0 T hf
            · exact rj_X5_readUnit_43 rp hrp (by omega) (by omega) x1 v1 T hf
def f_X5_readPart_b (rp : Int32 → Int32 → am_H → Option (Int32 × am_H)) (x1 : Int32) (x2 : Int32) (h : am_H) : Option (Int32 × am_H) := if x1 < 6 then if x1 = 3 then bnd (h.1 1 4) fun v7 => if v7 = 13 then cal2 (f_X5_readNot rp x2 h) fun v15 h17 => zrt v15 (some (v15, h17)) else cal2 (f_X5_readJoined rp x1 x2 h) fun v9 h11 => zrt v9 (some (v9, h11)) else cal2 (f_X5_readJoined rp x1 x2 h) fun v2 h4 => zrt v2 (some (v2, h4)) else cal2 (f_X5_readUnit rp x2 h) fun v21 h23 => zrt v21 (some (v21, h23))
def f_X5_readPart : Nat → Int32 → Int32 → am_H → Option (Int32 × am_H)
  | 0 => fun _ _ _ => none
  | n + 1 => f_X5_readPart_b (f_X5_readPart n)
theorem rf_X5_readPart_b {X : am_X} {d : Nat} (rp : Int32 → Int32 → am_H → Option (Int32 × am_H)) {D : Nat} (hrp : ∀ {d : Nat}, D ≤ d → ∀ (a0 : Int32) (a1 : Int32), ∀ {h : am_H}, am_TP h.2.2 → ∀ {r : Int32 × am_H}, rp a0 a1 h = some r → am_G X d 5 false cX5_readPart (some .boolean) 0 [some (.ref 14), some (.int a0), some (.int a1)] [] (am_SH, h) (some (.int r.1), (am_SH, r.2))) (hd1 : D + 2 ≤ d) (hd : 4 ≤ d) (x1 : Int32) (x2 : Int32) {h : am_H} (T : am_TP h.2.2) {r : Int32 × am_H} (hf : f_X5_readPart_b rp x1 x2 h = some r) : am_G X d 5 false cX5_readPart (some .boolean) 0 [some (.ref 14), some (.int x1), some (.int x2)] [] (am_SH, h) (some (.int r.1), (am_SH, r.2)) := by
  unfold f_X5_readPart_b at hf
  obtain ⟨d, rfl⟩ : ∃ e, d = e + 1 := ⟨d - 1, by omega⟩
  refine r_loc dX5_readPart_0 rfl ?_
  refine r_bipush (v := 6) dX5_readPart_1 rfl ?_
  refine r_lt (q := 12) dX5_readPart_3 rfl hf (fun hf => ?_) (fun hf => ?_)
  · refine r_loc dX5_readPart_12 rfl ?_
    refine r_iconst (v := 3) dX5_readPart_13 rfl ?_
    refine r_ne (q := 37) dX5_readPart_14 rfl hf (fun hf => ?_) (fun hf => ?_)
    · refine r_loc dX5_readPart_37 rfl ?_
      refine r_loc dX5_readPart_38 rfl ?_
      refine r_loc dX5_readPart_39 rfl ?_
      obtain ⟨v2, h4, c1, hf⟩ := cal2_inv hf
      have g6 := rf_X5_readJoined (X := X) (d := d) rp hrp (by omega) (by omega) x1 x2 T c1
      have T5 : am_TP h4.2.2 := g6.2
      refine r_virt (pre := [.int x2, .int x1]) (rest := []) dX5_readPart_40 ct_5_152 rfl (sh_14) (Nat.le_of_ble_eq_true rfl) (Nat.le_of_ble_eq_true rfl) g6 ?_
      exact r_zret T5 dX5_readPart_43 hf (fun hf => by cases hf; rfl)
    · refine r_loc dX5_readPart_17 rfl ?_
      refine r_getR dX5_readPart_18 fl_5_38 sh_14 (Or.inl ⟨_, rfl⟩) (tp_14_0 T) ?_
      refine r_getI dX5_readPart_21 fl_5_50 sh_1 rfl hf (fun v7 hf => ?_)
      refine r_bipush (v := 13) dX5_readPart_24 rfl ?_
      refine r_ne (q := 37) dX5_readPart_26 rfl hf (fun hf => ?_) (fun hf => ?_)
      · refine r_loc dX5_readPart_37 rfl ?_
        refine r_loc dX5_readPart_38 rfl ?_
        refine r_loc dX5_readPart_39 rfl ?_
        obtain ⟨v9, h11, c8, hf⟩ := cal2_inv hf
        have g13 := rf_X5_readJoined (X := X) (d := d) rp hrp (by omega) (by omega) x1 x2 T c8
        have T12 : am_TP h11.2.2 := g13.2
        refine r_virt (pre := [.int x2, .int x1]) (rest := []) dX5_readPart_40 ct_5_152 rfl (sh_14) (Nat.le_of_ble_eq_true rfl) (Nat.le_of_ble_eq_true rfl) g13 ?_
        exact r_zret T12 dX5_readPart_43 hf (fun hf => by cases hf; rfl)
      · refine r_loc dX5_readPart_29 rfl ?_
        refine r_loc dX5_readPart_30 rfl ?_
        obtain ⟨v15, h17, c14, hf⟩ := cal2_inv hf
        have g19 := rf_X5_readNot (X := X) (d := d) rp hrp (by omega) (by omega) x2 T c14
        have T18 : am_TP h17.2.2 := g19.2
        refine r_virt (pre := [.int x2]) (rest := []) dX5_readPart_31 ct_5_149 rfl (sh_14) (Nat.le_of_ble_eq_true rfl) (Nat.le_of_ble_eq_true rfl) g19 ?_
        refine r_goto (q := 43) dX5_readPart_34 rfl ?_
        exact r_zret T18 dX5_readPart_43 hf (fun hf => by cases hf; rfl)
  · refine r_loc dX5_readPart_6 rfl ?_
    refine r_loc dX5_readPart_7 rfl ?_
    obtain ⟨v21, h23, c20, hf⟩ := cal2_inv hf
    have g25 := rf_X5_readUnit (X := X) (d := d) rp hrp (by omega) (by omega) x2 T c20
    have T24 : am_TP h23.2.2 := g25.2
    refine r_virt (pre := [.int x2]) (rest := []) dX5_readPart_8 ct_5_146 rfl (sh_14) (Nat.le_of_ble_eq_true rfl) (Nat.le_of_ble_eq_true rfl) g25 ?_
    exact r_zret T24 dX5_readPart_11 hf (fun hf => by cases hf; rfl)
theorem rf_X5_readPart {X : am_X} : ∀ (n : Nat) {d : Nat}, 3 * n + 25 ≤ d → ∀ (x1 : Int32) (x2 : Int32), ∀ {h : am_H}, am_TP h.2.2 → ∀ {r : Int32 × am_H}, f_X5_readPart n x1 x2 h = some r → am_G X d 5 false cX5_readPart (some .boolean) 0 [some (.ref 14), some (.int x1), some (.int x2)] [] (am_SH, h) (some (.int r.1), (am_SH, r.2)) := by
  intro n
  induction n with
  | zero => intro d hd x1 x2 h T r hf; cases hf
  | succ n ih =>
    intro d hd x1 x2 h T r hf
    rw [f_X5_readPart] at hf
    exact rf_X5_readPart_b (f_X5_readPart n) (D := 3 * n + 25) ih (by omega) (by omega) x1 x2 T hf
def f_X5_readLine  (h : am_H) : Option (Int32 × am_H) := bnd (h.1 1 4) fun v1 => if v1 = 0 then cal2 (f_X5_readRoom h) fun v9 h11 => zrt v9 (some (v9, h11)) else if v1 = 2 then cal2 (f_X5_readTrunk h) fun v15 h17 => zrt v15 (some (v15, h17)) else if v1 = 7 then cal (f_X2_clear_23 h) fun h21 => cal2 (f_X5_isFirst 7 h21) fun v25 h27 => if v25 = 0 then some (0, h27) else cal2 (f_X5_readPart 60 1 0 h27) fun v31 h33 => if v31 = 0 then some (0, h33) else cal2 (f_X5_take 18 h33) fun v37 h39 => if v37 = 0 then some (0, h39) else some (1, h39) else if v1 = 8 then cal2 (f_X5_isFirst 8 h) fun v43 h45 => if v43 = 0 then some (0, h45) else cal2 (f_X5_readNumber 1 9 h45) fun v49 h51 => if v49 = 0 then some (0, h51) else bnd (h51.1 14 4) fun v54 => ptI h51 17 8 v54 fun h55 => cal2 (f_X5_take 18 h55) fun v59 h61 => zrt v59 (some (v59, h61)) else if v1 = 9 then cal2 (f_X5_isFirst 9 h) fun v65 h67 => if v65 = 0 then some (0, h67) else cal2 (f_X5_readNumber 0 99 h67) fun v71 h73 => if v71 = 0 then some (0, h73) else bnd (h73.1 14 4) fun v76 => ptI h73 17 9 v76 fun h77 => cal2 (f_X5_take 18 h77) fun v81 h83 => zrt v81 (some (v81, h83)) else if v1 = 10 then cal2 (f_X5_isFirst 10 h) fun v87 h89 => if v87 = 0 then some (0, h89) else cal2 (f_X5_readNumber 0 999 h89) fun v93 h95 => if v93 = 0 then some (0, h95) else bnd (h95.1 14 4) fun v98 => ptI h95 17 10 v98 fun h99 => cal2 (f_X5_take 18 h99) fun v103 h105 => zrt v103 (some (v103, h105)) else cal2 (f_X5_cannotStand h) fun v3 h5 => zrt v3 (some (v3, h5))
theorem rf_X5_readLine {X : am_X} {d : Nat} (hd : 206 ≤ d)  {h : am_H} (T : am_TP h.2.2) {r : Int32 × am_H} (hf : f_X5_readLine  h = some r) : am_G X d 5 false cX5_readLine (some .boolean) 0 [some (.ref 14)] [] (am_SH, h) (some (.int r.1), (am_SH, r.2)) := by
  unfold f_X5_readLine at hf
  obtain ⟨d, rfl⟩ : ∃ e, d = e + 1 := ⟨d - 1, by omega⟩
  refine r_loc dX5_readLine_0 rfl ?_
  refine r_getR dX5_readLine_1 fl_5_38 sh_14 (Or.inl ⟨_, rfl⟩) (tp_14_0 T) ?_
  refine r_getI dX5_readLine_4 fl_5_50 sh_1 rfl hf (fun v1 hf => ?_)
  refine r_swc (x := v1) (v := 0) (off := 57) (q := 64) dX5_readLine_7 rfl rfl hf (fun hf => ?_) (fun n0 hf => ?_)
  · refine r_loc dX5_readLine_64 rfl ?_
    obtain ⟨v9, h11, c8, hf⟩ := cal2_inv hf
    have g13 := rf_X5_readRoom (X := X) (d := d) (by omega) T c8
    have T12 : am_TP h11.2.2 := g13.2
    refine r_virt (pre := []) (rest := []) dX5_readLine_65 ct_5_57 rfl (sh_14) (Nat.le_of_ble_eq_true rfl) (Nat.le_of_ble_eq_true rfl) g13 ?_
    exact r_zret T12 dX5_readLine_68 hf (fun hf => by cases hf; rfl)
  refine r_swc (x := v1) (v := 2) (off := 62) (q := 69) dX5_readLine_7 rfl rfl hf (fun hf => ?_) (fun n2 hf => ?_)
  · refine r_loc dX5_readLine_69 rfl ?_
    obtain ⟨v15, h17, c14, hf⟩ := cal2_inv hf
    have g19 := rf_X5_readTrunk (X := X) (d := d) (by omega) T c14
    have T18 : am_TP h17.2.2 := g19.2
    refine r_virt (pre := []) (rest := []) dX5_readLine_70 ct_5_60 rfl (sh_14) (Nat.le_of_ble_eq_true rfl) (Nat.le_of_ble_eq_true rfl) g19 ?_
    exact r_zret T18 dX5_readLine_73 hf (fun hf => by cases hf; rfl)
  refine r_swc (x := v1) (v := 7) (off := 67) (q := 74) dX5_readLine_7 rfl rfl hf (fun hf => ?_) (fun n7 hf => ?_)
  · refine r_loc dX5_readLine_74 rfl ?_
    refine r_getR dX5_readLine_75 fl_5_28 sh_14 (Or.inl ⟨_, rfl⟩) (tp_14_5 T) ?_
    refine r_getR dX5_readLine_78 fl_5_63 sh_17 (Or.inl ⟨_, rfl⟩) (tp_17_5 T) ?_
    obtain ⟨h21, c20, hf⟩ := cal_inv hf
    have g23 := rf_X2_clear_23 (X := X) (d := d) (by omega) T c20
    have T22 : am_TP h21.2.2 := g23.2
    refine r_virt (pre := []) (rest := []) dX5_readLine_81 ct_5_67 rfl (sh_23) (Nat.le_of_ble_eq_true rfl) (Nat.le_of_ble_eq_true rfl) g23 ?_
    refine r_loc dX5_readLine_84 rfl ?_
    refine r_bipush (v := 7) dX5_readLine_85 rfl ?_
    obtain ⟨v25, h27, c24, hf⟩ := cal2_inv hf
    have g29 := rf_X5_isFirst (X := X) (d := d) (by omega) 7 T22 c24
    have T28 : am_TP h27.2.2 := g29.2
    refine r_virt (pre := [.int 7]) (rest := []) dX5_readLine_87 ct_5_70 rfl (sh_14) (Nat.le_of_ble_eq_true rfl) (Nat.le_of_ble_eq_true rfl) g29 ?_
    refine r_eq0 (q := 115) dX5_readLine_90 rfl hf (fun hf => ?_) (fun hf => ?_)
    · refine r_iconst (v := 0) dX5_readLine_115 rfl ?_
      cases hf
      exact r_z0 T28 dX5_readLine_116
    · refine r_loc dX5_readLine_93 rfl ?_
      refine r_iconst (v := 1) dX5_readLine_94 rfl ?_
      refine r_iconst (v := 0) dX5_readLine_95 rfl ?_
      obtain ⟨v31, h33, c30, hf⟩ := cal2_inv hf
      have g35 := rf_X5_readPart (X := X) 60 (d := d) (by omega) 1 0 T28 c30
      have T34 : am_TP h33.2.2 := g35.2
      refine r_virt (pre := [.int 0, .int 1]) (rest := []) dX5_readLine_96 ct_5_74 rfl (sh_14) (Nat.le_of_ble_eq_true rfl) (Nat.le_of_ble_eq_true rfl) g35 ?_
      refine r_eq0 (q := 115) dX5_readLine_99 rfl hf (fun hf => ?_) (fun hf => ?_)
      · refine r_iconst (v := 0) dX5_readLine_115 rfl ?_
        cases hf
        exact r_z0 T34 dX5_readLine_116
      · refine r_loc dX5_readLine_102 rfl ?_
        refine r_bipush (v := 18) dX5_readLine_103 rfl ?_
        obtain ⟨v37, h39, c36, hf⟩ := cal2_inv hf
        have g41 := rf_X5_take (X := X) (d := d) (by omega) 18 T34 c36
        have T40 : am_TP h39.2.2 := g41.2
        refine r_virt (pre := [.int 18]) (rest := []) dX5_readLine_105 ct_5_78 rfl (sh_14) (Nat.le_of_ble_eq_true rfl) (Nat.le_of_ble_eq_true rfl) g41 ?_
        refine r_eq0 (q := 115) dX5_readLine_108 rfl hf (fun hf => ?_) (fun hf => ?_)
        · refine r_iconst (v := 0) dX5_readLine_115 rfl ?_
          cases hf
          exact r_z0 T40 dX5_readLine_116
        · refine r_iconst (v := 1) dX5_readLine_111 rfl ?_
          refine r_goto (q := 116) dX5_readLine_112 rfl ?_
          cases hf
          exact r_z1 T40 dX5_readLine_116
  refine r_swc (x := v1) (v := 8) (off := 110) (q := 117) dX5_readLine_7 rfl rfl hf (fun hf => ?_) (fun n8 hf => ?_)
  · refine r_loc dX5_readLine_117 rfl ?_
    refine r_bipush (v := 8) dX5_readLine_118 rfl ?_
    obtain ⟨v43, h45, c42, hf⟩ := cal2_inv hf
    have g47 := rf_X5_isFirst (X := X) (d := d) (by omega) 8 T c42
    have T46 : am_TP h45.2.2 := g47.2
    refine r_virt (pre := [.int 8]) (rest := []) dX5_readLine_120 ct_5_70 rfl (sh_14) (Nat.le_of_ble_eq_true rfl) (Nat.le_of_ble_eq_true rfl) g47 ?_
    refine r_eq0 (q := 136) dX5_readLine_123 rfl hf (fun hf => ?_) (fun hf => ?_)
    · refine r_iconst (v := 0) dX5_readLine_136 rfl ?_
      cases hf
      exact r_z0 T46 dX5_readLine_137
    · refine r_loc dX5_readLine_126 rfl ?_
      refine r_iconst (v := 1) dX5_readLine_127 rfl ?_
      refine r_bipush (v := 9) dX5_readLine_128 rfl ?_
      obtain ⟨v49, h51, c48, hf⟩ := cal2_inv hf
      have g53 := rf_X5_readNumber (X := X) (d := d) (by omega) 1 9 T46 c48
      have T52 : am_TP h51.2.2 := g53.2
      refine r_virt (pre := [.int 9, .int 1]) (rest := []) dX5_readLine_130 ct_5_81 rfl (sh_14) (Nat.le_of_ble_eq_true rfl) (Nat.le_of_ble_eq_true rfl) g53 ?_
      refine r_ne0 (q := 138) dX5_readLine_133 rfl hf (fun hf => ?_) (fun hf => ?_)
      · refine r_loc dX5_readLine_138 rfl ?_
        refine r_getR dX5_readLine_139 fl_5_28 sh_14 (Or.inl ⟨_, rfl⟩) (tp_14_5 T52) ?_
        refine r_loc dX5_readLine_142 rfl ?_
        refine r_getI dX5_readLine_143 fl_5_22 sh_14 rfl hf (fun v54 hf => ?_)
        refine r_putI dX5_readLine_146 fl_5_84 sh_17 ⟨rfl, rfl⟩ hf (fun h55 e57 hf => ?_)
        have T56 := tp_eq e57 T52
        refine r_loc dX5_readLine_149 rfl ?_
        refine r_bipush (v := 18) dX5_readLine_150 rfl ?_
        obtain ⟨v59, h61, c58, hf⟩ := cal2_inv hf
        have g63 := rf_X5_take (X := X) (d := d) (by omega) 18 T56 c58
        have T62 : am_TP h61.2.2 := g63.2
        refine r_virt (pre := [.int 18]) (rest := []) dX5_readLine_152 ct_5_78 rfl (sh_14) (Nat.le_of_ble_eq_true rfl) (Nat.le_of_ble_eq_true rfl) g63 ?_
        exact r_zret T62 dX5_readLine_155 hf (fun hf => by cases hf; rfl)
      · refine r_iconst (v := 0) dX5_readLine_136 rfl ?_
        cases hf
        exact r_z0 T52 dX5_readLine_137
  refine r_swc (x := v1) (v := 9) (off := 149) (q := 156) dX5_readLine_7 rfl rfl hf (fun hf => ?_) (fun n9 hf => ?_)
  · refine r_loc dX5_readLine_156 rfl ?_
    refine r_bipush (v := 9) dX5_readLine_157 rfl ?_
    obtain ⟨v65, h67, c64, hf⟩ := cal2_inv hf
    have g69 := rf_X5_isFirst (X := X) (d := d) (by omega) 9 T c64
    have T68 : am_TP h67.2.2 := g69.2
    refine r_virt (pre := [.int 9]) (rest := []) dX5_readLine_159 ct_5_70 rfl (sh_14) (Nat.le_of_ble_eq_true rfl) (Nat.le_of_ble_eq_true rfl) g69 ?_
    refine r_eq0 (q := 175) dX5_readLine_162 rfl hf (fun hf => ?_) (fun hf => ?_)
    · refine r_iconst (v := 0) dX5_readLine_175 rfl ?_
      cases hf
      exact r_z0 T68 dX5_readLine_176
    · refine r_loc dX5_readLine_165 rfl ?_
      refine r_iconst (v := 0) dX5_readLine_166 rfl ?_
      refine r_bipush (v := 99) dX5_readLine_167 rfl ?_
      obtain ⟨v71, h73, c70, hf⟩ := cal2_inv hf
      have g75 := rf_X5_readNumber (X := X) (d := d) (by omega) 0 99 T68 c70
      have T74 : am_TP h73.2.2 := g75.2
      refine r_virt (pre := [.int 99, .int 0]) (rest := []) dX5_readLine_169 ct_5_81 rfl (sh_14) (Nat.le_of_ble_eq_true rfl) (Nat.le_of_ble_eq_true rfl) g75 ?_
      refine r_ne0 (q := 177) dX5_readLine_172 rfl hf (fun hf => ?_) (fun hf => ?_)
      · refine r_loc dX5_readLine_177 rfl ?_
        refine r_getR dX5_readLine_178 fl_5_28 sh_14 (Or.inl ⟨_, rfl⟩) (tp_14_5 T74) ?_
        refine r_loc dX5_readLine_181 rfl ?_
        refine r_getI dX5_readLine_182 fl_5_22 sh_14 rfl hf (fun v76 hf => ?_)
        refine r_putI dX5_readLine_185 fl_5_87 sh_17 ⟨rfl, rfl⟩ hf (fun h77 e79 hf => ?_)
        have T78 := tp_eq e79 T74
        refine r_loc dX5_readLine_188 rfl ?_
        refine r_bipush (v := 18) dX5_readLine_189 rfl ?_
        obtain ⟨v81, h83, c80, hf⟩ := cal2_inv hf
        have g85 := rf_X5_take (X := X) (d := d) (by omega) 18 T78 c80
        have T84 : am_TP h83.2.2 := g85.2
        refine r_virt (pre := [.int 18]) (rest := []) dX5_readLine_191 ct_5_78 rfl (sh_14) (Nat.le_of_ble_eq_true rfl) (Nat.le_of_ble_eq_true rfl) g85 ?_
        exact r_zret T84 dX5_readLine_194 hf (fun hf => by cases hf; rfl)
      · refine r_iconst (v := 0) dX5_readLine_175 rfl ?_
        cases hf
        exact r_z0 T74 dX5_readLine_176
  refine r_swc (x := v1) (v := 10) (off := 188) (q := 195) dX5_readLine_7 rfl rfl hf (fun hf => ?_) (fun n10 hf => ?_)
  · refine r_loc dX5_readLine_195 rfl ?_
    refine r_bipush (v := 10) dX5_readLine_196 rfl ?_
    obtain ⟨v87, h89, c86, hf⟩ := cal2_inv hf
    have g91 := rf_X5_isFirst (X := X) (d := d) (by omega) 10 T c86
    have T90 : am_TP h89.2.2 := g91.2
    refine r_virt (pre := [.int 10]) (rest := []) dX5_readLine_198 ct_5_70 rfl (sh_14) (Nat.le_of_ble_eq_true rfl) (Nat.le_of_ble_eq_true rfl) g91 ?_
    refine r_eq0 (q := 215) dX5_readLine_201 rfl hf (fun hf => ?_) (fun hf => ?_)
    · refine r_iconst (v := 0) dX5_readLine_215 rfl ?_
      cases hf
      exact r_z0 T90 dX5_readLine_216
    · refine r_loc dX5_readLine_204 rfl ?_
      refine r_iconst (v := 0) dX5_readLine_205 rfl ?_
      refine r_sipush (v := 999) dX5_readLine_206 rfl ?_
      obtain ⟨v93, h95, c92, hf⟩ := cal2_inv hf
      have g97 := rf_X5_readNumber (X := X) (d := d) (by omega) 0 999 T90 c92
      have T96 : am_TP h95.2.2 := g97.2
      refine r_virt (pre := [.int 999, .int 0]) (rest := []) dX5_readLine_209 ct_5_81 rfl (sh_14) (Nat.le_of_ble_eq_true rfl) (Nat.le_of_ble_eq_true rfl) g97 ?_
      refine r_ne0 (q := 217) dX5_readLine_212 rfl hf (fun hf => ?_) (fun hf => ?_)
      · refine r_loc dX5_readLine_217 rfl ?_
        refine r_getR dX5_readLine_218 fl_5_28 sh_14 (Or.inl ⟨_, rfl⟩) (tp_14_5 T96) ?_
        refine r_loc dX5_readLine_221 rfl ?_
        refine r_getI dX5_readLine_222 fl_5_22 sh_14 rfl hf (fun v98 hf => ?_)
        refine r_putI dX5_readLine_225 fl_5_90 sh_17 ⟨rfl, rfl⟩ hf (fun h99 e101 hf => ?_)
        have T100 := tp_eq e101 T96
        refine r_loc dX5_readLine_228 rfl ?_
        refine r_bipush (v := 18) dX5_readLine_229 rfl ?_
        obtain ⟨v103, h105, c102, hf⟩ := cal2_inv hf
        have g107 := rf_X5_take (X := X) (d := d) (by omega) 18 T100 c102
        have T106 : am_TP h105.2.2 := g107.2
        refine r_virt (pre := [.int 18]) (rest := []) dX5_readLine_231 ct_5_78 rfl (sh_14) (Nat.le_of_ble_eq_true rfl) (Nat.le_of_ble_eq_true rfl) g107 ?_
        exact r_zret T106 dX5_readLine_234 hf (fun hf => by cases hf; rfl)
      · refine r_iconst (v := 0) dX5_readLine_215 rfl ?_
        cases hf
        exact r_z0 T96 dX5_readLine_216
  refine r_swdt (q := 235) dX5_readLine_7 (by decide) ⟨Or.inr n0, Or.inl rfl, Or.inr n2, Or.inl rfl, Or.inl rfl, Or.inl rfl, Or.inl rfl, Or.inr n7, Or.inr n8, Or.inr n9, Or.inr n10, trivial⟩ rfl ?_
  refine r_loc dX5_readLine_235 rfl ?_
  obtain ⟨v3, h5, c2, hf⟩ := cal2_inv hf
  have g7 := rf_X5_cannotStand (X := X) (d := d) (by omega) T c2
  have T6 : am_TP h5.2.2 := g7.2
  refine r_virt (pre := []) (rest := []) dX5_readLine_236 ct_5_93 rfl (sh_14) (Nat.le_of_ble_eq_true rfl) (Nat.le_of_ble_eq_true rfl) g7 ?_
  exact r_zret T6 dX5_readLine_239 hf (fun hf => by cases hf; rfl)
def lp_X5_readAll_31 : Nat → Int32 → am_H → Option (Int32 × am_H)
  | 0, _, _ => none
  | n + 1, x1, h => if x1 < 1600 then bnd (h.1 1 4) fun v18 => if v18 = 31 then some (1, h) else cal2 (f_X5_readLine h) fun v20 h22 => if v20 = 0 then some (0, h22) else lp_X5_readAll_31 n (x1 + 1) h22 else some (1, h)
def f_X5_readAll  (h : am_H) : Option (Int32 × am_H) := cal (f_X4_clear_17 h) fun h2 => ptI h2 14 3 0 fun h5 => ptI h5 14 6 0 fun h8 => ptI h8 14 7 (-1) fun h11 => cal (f_X9_rewind h11) fun h15 => lp_X5_readAll_31  4000 0 h15
theorem rl_X5_readAll_31 {X : am_X} {d : Nat} (hd : 207 ≤ d) {r : Int32 × am_H} : ∀ (n : Nat) (x1 : Int32) (h : am_H), am_TP h.2.2 → lp_X5_readAll_31 n x1 h = some r → am_G X d 5 false cX5_readAll (some .boolean) 31 [some (.ref 14), some (.int x1)] [] (am_SH, h) (some (.int r.1), (am_SH, r.2)) := by
  obtain ⟨d, rfl⟩ : ∃ e, d = e + 1 := ⟨d - 1, by omega⟩
  intro n
  induction n with
  | zero => intro x1 h T hf; cases hf
  | succ n ih =>
    intro x1 h T hf
    rw [lp_X5_readAll_31] at hf
    refine r_loc dX5_readAll_31 rfl ?_
    refine r_sipush (v := 1600) dX5_readAll_32 rfl ?_
    refine r_ge (q := 65) dX5_readAll_35 rfl hf (fun hf => ?_) (fun hf => ?_)
    · refine r_iconst (v := 1) dX5_readAll_65 rfl ?_
      cases hf
      exact r_z1 T dX5_readAll_66
    · refine r_loc dX5_readAll_38 rfl ?_
      refine r_getR dX5_readAll_39 fl_5_38 sh_14 (Or.inl ⟨_, rfl⟩) (tp_14_0 T) ?_
      refine r_getI dX5_readAll_42 fl_5_50 sh_1 rfl hf (fun v18 hf => ?_)
      refine r_bipush (v := 31) dX5_readAll_45 rfl ?_
      refine r_eq (q := 65) dX5_readAll_47 rfl hf (fun hf => ?_) (fun hf => ?_)
      · refine r_iconst (v := 1) dX5_readAll_65 rfl ?_
        cases hf
        exact r_z1 T dX5_readAll_66
      · refine r_loc dX5_readAll_50 rfl ?_
        obtain ⟨v20, h22, c19, hf⟩ := cal2_inv hf
        have g24 := rf_X5_readLine (X := X) (d := d) (by omega) T c19
        have T23 : am_TP h22.2.2 := g24.2
        refine r_virt (pre := []) (rest := []) dX5_readAll_51 ct_5_53 rfl (sh_14) (Nat.le_of_ble_eq_true rfl) (Nat.le_of_ble_eq_true rfl) g24 ?_
        refine r_ne0 (q := 59) dX5_readAll_54 rfl hf (fun hf => ?_) (fun hf => ?_)
        · refine r_loc (L' := [some (.ref 14), some (.int (x1 + 1))]) dX5_readAll_59 rfl ?_
          refine r_goto (q := 31) dX5_readAll_62 rfl ?_
          exact ih (x1 + 1) h22 T23 hf
        · refine r_iconst (v := 0) dX5_readAll_57 rfl ?_
          cases hf
          exact r_z0 T23 dX5_readAll_58
theorem rf_X5_readAll {X : am_X} {d : Nat} (hd : 207 ≤ d)  {h : am_H} (T : am_TP h.2.2) {r : Int32 × am_H} (hf : f_X5_readAll  h = some r) : am_G X d 5 false cX5_readAll (some .boolean) 0 [some (.ref 14), none] [] (am_SH, h) (some (.int r.1), (am_SH, r.2)) := by
  unfold f_X5_readAll at hf
  obtain ⟨d, rfl⟩ : ∃ e, d = e + 1 := ⟨d - 1, by omega⟩
  refine r_loc dX5_readAll_0 rfl ?_
  refine r_getR dX5_readAll_1 fl_5_28 sh_14 (Or.inl ⟨_, rfl⟩) (tp_14_5 T) ?_
  obtain ⟨h2, c1, hf⟩ := cal_inv hf
  have g4 := rf_X4_clear_17 (X := X) (d := d) (by omega) T c1
  have T3 : am_TP h2.2.2 := g4.2
  refine r_virt (pre := []) (rest := []) dX5_readAll_4 ct_5_42 rfl (sh_17) (Nat.le_of_ble_eq_true rfl) (Nat.le_of_ble_eq_true rfl) g4 ?_
  refine r_loc dX5_readAll_7 rfl ?_
  refine r_iconst (v := 0) dX5_readAll_8 rfl ?_
  refine r_putI dX5_readAll_9 fl_5_18 sh_14 ⟨rfl, rfl⟩ hf (fun h5 e7 hf => ?_)
  have T6 := tp_eq e7 T3
  refine r_loc dX5_readAll_12 rfl ?_
  refine r_iconst (v := 0) dX5_readAll_13 rfl ?_
  refine r_putI dX5_readAll_14 fl_5_32 sh_14 ⟨rfl, rfl⟩ hf (fun h8 e10 hf => ?_)
  have T9 := tp_eq e10 T6
  refine r_loc dX5_readAll_17 rfl ?_
  refine r_iconst (v := (-1)) dX5_readAll_18 rfl ?_
  refine r_putI dX5_readAll_19 fl_5_35 sh_14 ⟨rfl, rfl⟩ hf (fun h11 e13 hf => ?_)
  have T12 := tp_eq e13 T9
  refine r_loc dX5_readAll_22 rfl ?_
  refine r_getR dX5_readAll_23 fl_5_38 sh_14 (Or.inl ⟨_, rfl⟩) (tp_14_0 T12) ?_
  obtain ⟨h15, c14, hf⟩ := cal_inv hf
  have g17 := rf_X9_rewind (X := X) (d := d) (by omega) T12 c14
  have T16 : am_TP h15.2.2 := g17.2
  refine r_virt (pre := []) (rest := []) dX5_readAll_26 ct_5_45 rfl (sh_1) (Nat.le_of_ble_eq_true rfl) (Nat.le_of_ble_eq_true rfl) g17 ?_
  refine r_iconst (v := 0) dX5_readAll_29 rfl ?_
  refine r_loc (L' := [some (.ref 14), some (.int 0)]) dX5_readAll_30 rfl ?_
  refine rl_X5_readAll_31 (by omega)  4000 0 h15 T16 hf
def f_X2_clear_10  (h : am_H) : Option (am_H) := ptI h 10 3 0 fun h1 => ptI h1 10 4 0 fun h4 => some h4
theorem rf_X2_clear_10 {X : am_X} {d : Nat} (hd : 0 ≤ d)  {h : am_H} (T : am_TP h.2.2) {r : am_H} (hf : f_X2_clear_10  h = some r) : am_G X d 2 false cX2_clear none 0 [some (.ref 10)] [] (am_SH, h) (none, (am_SH, r)) := by
  unfold f_X2_clear_10 at hf
  refine r_loc dX2_clear_0 rfl ?_
  refine r_iconst (v := 0) dX2_clear_1 rfl ?_
  refine r_putI dX2_clear_2 fl_2_21 sh_10 ⟨rfl, rfl⟩ hf (fun h1 e3 hf => ?_)
  have T2 := tp_eq e3 T
  refine r_loc dX2_clear_5 rfl ?_
  refine r_iconst (v := 0) dX2_clear_6 rfl ?_
  refine r_putI dX2_clear_7 fl_2_25 sh_10 ⟨rfl, rfl⟩ hf (fun h4 e6 hf => ?_)
  have T5 := tp_eq e6 T2
  cases hf
  exact r_ret T5 dX2_clear_10 rfl
def f_X2_addStep_10 (x1 : Int32) (x2 : Int32) (h : am_H) : Option (am_H) := bnd (h.1 10 3) fun v1 => if v1 < 0 then some h else bnd (h.1 10 3) fun v2 => if v2 < 300 then bnd (h.1 10 3) fun v3 => wrI h 11 300 v3 x1 fun h4 => bnd (h4.1 10 3) fun v7 => wrI h4 12 300 v7 x2 fun h8 => bnd (h8.1 10 3) fun v11 => ptI h8 10 3 (v11 + 1) fun h12 => some h12 else some h
theorem rf_X2_addStep_10 {X : am_X} {d : Nat} (hd : 0 ≤ d) (x1 : Int32) (x2 : Int32) {h : am_H} (T : am_TP h.2.2) {r : am_H} (hf : f_X2_addStep_10 x1 x2 h = some r) : am_G X d 2 false cX2_addStep none 0 [some (.ref 10), some (.int x1), some (.int x2)] [] (am_SH, h) (none, (am_SH, r)) := by
  unfold f_X2_addStep_10 at hf
  refine r_loc dX2_addStep_0 rfl ?_
  refine r_getI dX2_addStep_1 fl_2_21 sh_10 rfl hf (fun v1 hf => ?_)
  refine r_lt0 (q := 47) dX2_addStep_4 rfl hf (fun hf => ?_) (fun hf => ?_)
  · cases hf
    exact r_ret T dX2_addStep_47 rfl
  · refine r_loc dX2_addStep_7 rfl ?_
    refine r_getI dX2_addStep_8 fl_2_21 sh_10 rfl hf (fun v2 hf => ?_)
    refine r_sipush (v := 300) dX2_addStep_11 rfl ?_
    refine r_ge (q := 47) dX2_addStep_14 rfl hf (fun hf => ?_) (fun hf => ?_)
    · cases hf
      exact r_ret T dX2_addStep_47 rfl
    · refine r_loc dX2_addStep_17 rfl ?_
      refine r_getR dX2_addStep_18 fl_2_9 sh_10 (Or.inr ⟨_, rfl⟩) (tp_10_0 T) ?_
      refine r_loc dX2_addStep_21 rfl ?_
      refine r_getI dX2_addStep_22 fl_2_21 sh_10 rfl hf (fun v3 hf => ?_)
      refine r_loc dX2_addStep_25 rfl ?_
      refine r_iast dX2_addStep_26 sh_11 hf (fun h4 e6 hf => ?_)
      have T5 := tp_eq e6 T
      refine r_loc dX2_addStep_27 rfl ?_
      refine r_getR dX2_addStep_28 fl_2_15 sh_10 (Or.inr ⟨_, rfl⟩) (tp_10_1 T5) ?_
      refine r_loc dX2_addStep_31 rfl ?_
      refine r_getI dX2_addStep_32 fl_2_21 sh_10 rfl hf (fun v7 hf => ?_)
      refine r_loc dX2_addStep_35 rfl ?_
      refine r_iast dX2_addStep_36 sh_12 hf (fun h8 e10 hf => ?_)
      have T9 := tp_eq e10 T5
      refine r_loc dX2_addStep_37 rfl ?_
      refine r_alu dX2_addStep_38 rfl ?_
      refine r_getI dX2_addStep_39 fl_2_21 sh_10 rfl hf (fun v11 hf => ?_)
      refine r_iconst (v := 1) dX2_addStep_42 rfl ?_
      refine r_alu dX2_addStep_43 rfl ?_
      refine r_putI dX2_addStep_44 fl_2_21 sh_10 ⟨rfl, rfl⟩ hf (fun h12 e14 hf => ?_)
      have T13 := tp_eq e14 T9
      cases hf
      exact r_ret T13 dX2_addStep_47 rfl
def lp_X2_copyFrom_10_23_6 (k_43 : am_H → Option (am_H)) : Nat → Int32 → am_H → Option (am_H)
  | 0, _, _ => none
  | n + 1, x2, h => bnd (h.1 23 3) fun v5 => if x2 < v5 then if x2 < 300 then rdI h 24 300 x2 fun v6 => rdI h 25 300 x2 fun v7 => cal (f_X2_addStep_10 v6 v7 h) fun h9 => lp_X2_copyFrom_10_23_6 k_43 n (x2 + 1) h9 else k_43  h else k_43  h
def f_X2_copyFrom_10_23  (h : am_H) : Option (am_H) := cal (f_X2_clear_10 h) fun h2 => lp_X2_copyFrom_10_23_6 (fun h12 => bnd (h12.1 23 4) fun v14 => ptI h12 10 4 v14 fun h15 => some h15) 4000 0 h2
theorem rl_X2_copyFrom_10_23_6 {X : am_X} {d : Nat} (hd : 1 ≤ d) (k_43 : am_H → Option (am_H)) {r : am_H} (hk_43 : ∀ (h : am_H), am_TP h.2.2 → k_43  h = some r → am_G X d 2 false cX2_copyFrom none 43 [some (.ref 10), some (.ref 23), none] [] (am_SH, h) (none, (am_SH, r))) : ∀ (n : Nat) (x2 : Int32) (h : am_H), am_TP h.2.2 → lp_X2_copyFrom_10_23_6 k_43 n x2 h = some r → am_G X d 2 false cX2_copyFrom none 6 [some (.ref 10), some (.ref 23), some (.int x2)] [] (am_SH, h) (none, (am_SH, r)) := by
  obtain ⟨d, rfl⟩ : ∃ e, d = e + 1 := ⟨d - 1, by omega⟩
  intro n
  induction n with
  | zero => intro x2 h T hf; cases hf
  | succ n ih =>
    intro x2 h T hf
    rw [lp_X2_copyFrom_10_23_6] at hf
    refine r_loc dX2_copyFrom_6 rfl ?_
    refine r_loc dX2_copyFrom_7 rfl ?_
    refine r_getI dX2_copyFrom_8 fl_2_21 sh_23 rfl hf (fun v5 hf => ?_)
    refine r_ge (q := 43) dX2_copyFrom_11 rfl hf (fun hf => ?_) (fun hf => ?_)
    · refine r_weak (L := [some (.ref 10), some (.ref 23), none]) (am_le_s (am_le_s (am_le_n am_le_0))) ?_
      exact hk_43  h T hf
    · refine r_loc dX2_copyFrom_14 rfl ?_
      refine r_sipush (v := 300) dX2_copyFrom_15 rfl ?_
      refine r_ge (q := 43) dX2_copyFrom_18 rfl hf (fun hf => ?_) (fun hf => ?_)
      · refine r_weak (L := [some (.ref 10), some (.ref 23), none]) (am_le_s (am_le_s (am_le_n am_le_0))) ?_
        exact hk_43  h T hf
      · refine r_loc dX2_copyFrom_21 rfl ?_
        refine r_loc dX2_copyFrom_22 rfl ?_
        refine r_getR dX2_copyFrom_23 fl_2_9 sh_23 (Or.inr ⟨_, rfl⟩) (tp_23_0 T) ?_
        refine r_loc dX2_copyFrom_26 rfl ?_
        refine r_iald dX2_copyFrom_27 sh_24 hf (fun v6 hf => ?_)
        refine r_loc dX2_copyFrom_28 rfl ?_
        refine r_getR dX2_copyFrom_29 fl_2_15 sh_23 (Or.inr ⟨_, rfl⟩) (tp_23_1 T) ?_
        refine r_loc dX2_copyFrom_32 rfl ?_
        refine r_iald dX2_copyFrom_33 sh_25 hf (fun v7 hf => ?_)
        obtain ⟨h9, c8, hf⟩ := cal_inv hf
        have g11 := rf_X2_addStep_10 (X := X) (d := d) (by omega) v6 v7 T c8
        have T10 : am_TP h9.2.2 := g11.2
        refine r_virt (pre := [.int v7, .int v6]) (rest := []) dX2_copyFrom_34 ct_2_31 rfl (sh_10) (Nat.le_of_ble_eq_true rfl) (Nat.le_of_ble_eq_true rfl) g11 ?_
        refine r_loc (L' := [some (.ref 10), some (.ref 23), some (.int (x2 + 1))]) dX2_copyFrom_37 rfl ?_
        refine r_goto (q := 6) dX2_copyFrom_40 rfl ?_
        exact ih (x2 + 1) h9 T10 hf
theorem rf_X2_copyFrom_10_23 {X : am_X} {d : Nat} (hd : 1 ≤ d)  {h : am_H} (T : am_TP h.2.2) {r : am_H} (hf : f_X2_copyFrom_10_23  h = some r) : am_G X d 2 false cX2_copyFrom none 0 [some (.ref 10), some (.ref 23), none] [] (am_SH, h) (none, (am_SH, r)) := by
  unfold f_X2_copyFrom_10_23 at hf
  obtain ⟨d, rfl⟩ : ∃ e, d = e + 1 := ⟨d - 1, by omega⟩
  refine r_loc dX2_copyFrom_0 rfl ?_
  obtain ⟨h2, c1, hf⟩ := cal_inv hf
  have g4 := rf_X2_clear_10 (X := X) (d := d) (by omega) T c1
  have T3 : am_TP h2.2.2 := g4.2
  refine r_virt (pre := []) (rest := []) dX2_copyFrom_1 ct_2_28 rfl (sh_10) (Nat.le_of_ble_eq_true rfl) (Nat.le_of_ble_eq_true rfl) g4 ?_
  refine r_iconst (v := 0) dX2_copyFrom_4 rfl ?_
  refine r_loc (L' := [some (.ref 10), some (.ref 23), some (.int 0)]) dX2_copyFrom_5 rfl ?_
  refine rl_X2_copyFrom_10_23_6 (by omega) _ ?_ 4000 0 h2 T3 hf
  · intro h12 T13 hf
    refine r_loc dX2_copyFrom_43 rfl ?_
    refine r_loc dX2_copyFrom_44 rfl ?_
    refine r_getI dX2_copyFrom_45 fl_2_25 sh_23 rfl hf (fun v14 hf => ?_)
    refine r_putI dX2_copyFrom_48 fl_2_25 sh_10 ⟨rfl, rfl⟩ hf (fun h15 e17 hf => ?_)
    have T16 := tp_eq e17 T13
    cases hf
    exact r_ret T16 dX2_copyFrom_51 rfl
def f_X4_copyFrom_4_17  (h : am_H) : Option (am_H) := cpI h 18 4 0 5 4 0 4 fun h1 => cpI h1 19 6 0 6 6 0 6 fun h4 => cpI h4 20 6 0 7 6 0 6 fun h7 => cpI h7 21 6 0 8 6 0 6 fun h10 => cpI h10 22 6 0 9 6 0 6 fun h13 => cal (f_X2_copyFrom_10_23 h13) fun h17 => bnd (h17.1 17 6) fun v20 => ptI h17 4 6 v20 fun h21 => bnd (h21.1 17 7) fun v24 => ptI h21 4 7 v24 fun h25 => bnd (h25.1 17 8) fun v28 => ptI h25 4 8 v28 fun h29 => bnd (h29.1 17 9) fun v32 => ptI h29 4 9 v32 fun h33 => bnd (h33.1 17 10) fun v36 => ptI h33 4 10 v36 fun h37 => some h37
theorem rf_X4_copyFrom_4_17 {X : am_X} {d : Nat} (hd : 2 ≤ d)  {h : am_H} (T : am_TP h.2.2) {r : am_H} (hf : f_X4_copyFrom_4_17  h = some r) : am_G X d 4 false cX4_copyFrom none 0 [some (.ref 4), some (.ref 17)] [] (am_SH, h) (none, (am_SH, r)) := by
  unfold f_X4_copyFrom_4_17 at hf
  obtain ⟨d, rfl⟩ : ∃ e, d = e + 1 := ⟨d - 1, by omega⟩
  refine r_loc dX4_copyFrom_0 rfl ?_
  refine r_getR dX4_copyFrom_1 fl_4_9 sh_17 (Or.inr ⟨_, rfl⟩) (tp_17_0 T) ?_
  refine r_iconst (v := 0) dX4_copyFrom_4 rfl ?_
  refine r_loc dX4_copyFrom_5 rfl ?_
  refine r_getR dX4_copyFrom_6 fl_4_9 sh_4 (Or.inr ⟨_, rfl⟩) (tp_4_0 T) ?_
  refine r_iconst (v := 0) dX4_copyFrom_9 rfl ?_
  refine r_iconst (v := 4) dX4_copyFrom_10 rfl ?_
  refine r_cpy dX4_copyFrom_11 ct_4_53 (Nat.le_of_ble_eq_true rfl) sh_18 sh_5 hf (fun h1 e3 hf => ?_)
  have T2 := tp_eq e3 T
  refine r_loc dX4_copyFrom_14 rfl ?_
  refine r_getR dX4_copyFrom_15 fl_4_15 sh_17 (Or.inr ⟨_, rfl⟩) (tp_17_1 T2) ?_
  refine r_iconst (v := 0) dX4_copyFrom_18 rfl ?_
  refine r_loc dX4_copyFrom_19 rfl ?_
  refine r_getR dX4_copyFrom_20 fl_4_15 sh_4 (Or.inr ⟨_, rfl⟩) (tp_4_1 T2) ?_
  refine r_iconst (v := 0) dX4_copyFrom_23 rfl ?_
  refine r_bipush (v := 6) dX4_copyFrom_24 rfl ?_
  refine r_cpy dX4_copyFrom_26 ct_4_53 (Nat.le_of_ble_eq_true rfl) sh_19 sh_6 hf (fun h4 e6 hf => ?_)
  have T5 := tp_eq e6 T2
  refine r_loc dX4_copyFrom_29 rfl ?_
  refine r_getR dX4_copyFrom_30 fl_4_18 sh_17 (Or.inr ⟨_, rfl⟩) (tp_17_2 T5) ?_
  refine r_iconst (v := 0) dX4_copyFrom_33 rfl ?_
  refine r_loc dX4_copyFrom_34 rfl ?_
  refine r_getR dX4_copyFrom_35 fl_4_18 sh_4 (Or.inr ⟨_, rfl⟩) (tp_4_2 T5) ?_
  refine r_iconst (v := 0) dX4_copyFrom_38 rfl ?_
  refine r_bipush (v := 6) dX4_copyFrom_39 rfl ?_
  refine r_cpy dX4_copyFrom_41 ct_4_53 (Nat.le_of_ble_eq_true rfl) sh_20 sh_7 hf (fun h7 e9 hf => ?_)
  have T8 := tp_eq e9 T5
  refine r_loc dX4_copyFrom_44 rfl ?_
  refine r_getR dX4_copyFrom_45 fl_4_21 sh_17 (Or.inr ⟨_, rfl⟩) (tp_17_3 T8) ?_
  refine r_iconst (v := 0) dX4_copyFrom_48 rfl ?_
  refine r_loc dX4_copyFrom_49 rfl ?_
  refine r_getR dX4_copyFrom_50 fl_4_21 sh_4 (Or.inr ⟨_, rfl⟩) (tp_4_3 T8) ?_
  refine r_iconst (v := 0) dX4_copyFrom_53 rfl ?_
  refine r_bipush (v := 6) dX4_copyFrom_54 rfl ?_
  refine r_cpy dX4_copyFrom_56 ct_4_53 (Nat.le_of_ble_eq_true rfl) sh_21 sh_8 hf (fun h10 e12 hf => ?_)
  have T11 := tp_eq e12 T8
  refine r_loc dX4_copyFrom_59 rfl ?_
  refine r_getR dX4_copyFrom_60 fl_4_24 sh_17 (Or.inr ⟨_, rfl⟩) (tp_17_4 T11) ?_
  refine r_iconst (v := 0) dX4_copyFrom_63 rfl ?_
  refine r_loc dX4_copyFrom_64 rfl ?_
  refine r_getR dX4_copyFrom_65 fl_4_24 sh_4 (Or.inr ⟨_, rfl⟩) (tp_4_4 T11) ?_
  refine r_iconst (v := 0) dX4_copyFrom_68 rfl ?_
  refine r_bipush (v := 6) dX4_copyFrom_69 rfl ?_
  refine r_cpy dX4_copyFrom_71 ct_4_53 (Nat.le_of_ble_eq_true rfl) sh_22 sh_9 hf (fun h13 e15 hf => ?_)
  have T14 := tp_eq e15 T11
  refine r_loc dX4_copyFrom_74 rfl ?_
  refine r_getR dX4_copyFrom_75 fl_4_30 sh_4 (Or.inl ⟨_, rfl⟩) (tp_4_5 T14) ?_
  refine r_loc dX4_copyFrom_78 rfl ?_
  refine r_getR dX4_copyFrom_79 fl_4_30 sh_17 (Or.inl ⟨_, rfl⟩) (tp_17_5 T14) ?_
  obtain ⟨h17, c16, hf⟩ := cal_inv hf
  have g19 := rf_X2_copyFrom_10_23 (X := X) (d := d) (by omega) T14 c16
  have T18 : am_TP h17.2.2 := g19.2
  refine r_virt (pre := [.ref 23]) (rest := []) dX4_copyFrom_82 ct_4_59 rfl (sh_10) (Nat.le_of_ble_eq_true rfl) (Nat.le_of_ble_eq_true rfl) g19 ?_
  refine r_loc dX4_copyFrom_85 rfl ?_
  refine r_loc dX4_copyFrom_86 rfl ?_
  refine r_getI dX4_copyFrom_87 fl_4_34 sh_17 rfl hf (fun v20 hf => ?_)
  refine r_putI dX4_copyFrom_90 fl_4_34 sh_4 ⟨rfl, rfl⟩ hf (fun h21 e23 hf => ?_)
  have T22 := tp_eq e23 T18
  refine r_loc dX4_copyFrom_93 rfl ?_
  refine r_loc dX4_copyFrom_94 rfl ?_
  refine r_getI dX4_copyFrom_95 fl_4_38 sh_17 rfl hf (fun v24 hf => ?_)
  refine r_putI dX4_copyFrom_98 fl_4_38 sh_4 ⟨rfl, rfl⟩ hf (fun h25 e27 hf => ?_)
  have T26 := tp_eq e27 T22
  refine r_loc dX4_copyFrom_101 rfl ?_
  refine r_loc dX4_copyFrom_102 rfl ?_
  refine r_getI dX4_copyFrom_103 fl_4_41 sh_17 rfl hf (fun v28 hf => ?_)
  refine r_putI dX4_copyFrom_106 fl_4_41 sh_4 ⟨rfl, rfl⟩ hf (fun h29 e31 hf => ?_)
  have T30 := tp_eq e31 T26
  refine r_loc dX4_copyFrom_109 rfl ?_
  refine r_loc dX4_copyFrom_110 rfl ?_
  refine r_getI dX4_copyFrom_111 fl_4_44 sh_17 rfl hf (fun v32 hf => ?_)
  refine r_putI dX4_copyFrom_114 fl_4_44 sh_4 ⟨rfl, rfl⟩ hf (fun h33 e35 hf => ?_)
  have T34 := tp_eq e35 T30
  refine r_loc dX4_copyFrom_117 rfl ?_
  refine r_loc dX4_copyFrom_118 rfl ?_
  refine r_getI dX4_copyFrom_119 fl_4_47 sh_17 rfl hf (fun v36 hf => ?_)
  refine r_putI dX4_copyFrom_122 fl_4_47 sh_4 ⟨rfl, rfl⟩ hf (fun h37 e39 hf => ?_)
  have T38 := tp_eq e39 T34
  cases hf
  exact r_ret T38 dX4_copyFrom_125 rfl
def f_X7_add (s0 : Nat) (x1 : Int32) (x2 : Int32) (x3 : Int32) (x4 : Int32) (h : am_H) : Option (am_H) := if x1 < 0 then some h else if x1 < 8 then wrI h (s0 + 1) 8 x1 x2 fun h1 => wrI h1 (s0 + 2) 8 x1 x3 fun h4 => wrI h4 (s0 + 3) 8 x1 x4 fun h7 => some h7 else some h
theorem rf_X7_add {X : am_X} {d : Nat} (hd : 0 ≤ d) (s0 : Nat) (x1 : Int32) (x2 : Int32) (x3 : Int32) (x4 : Int32) (hs0 : s0 ∈ am_ST) {h : am_H} (T : am_TP h.2.2) {r : am_H} (hf : f_X7_add s0 x1 x2 x3 x4 h = some r) : am_G X d 7 false cX7_add none 0 [some (.ref s0), some (.int x1), some (.int x2), some (.int x3), some (.int x4)] [] (am_SH, h) (none, (am_SH, r)) := by
  unfold f_X7_add at hf
  refine r_loc dX7_add_0 rfl ?_
  refine r_lt0 (q := 32) dX7_add_1 rfl hf (fun hf => ?_) (fun hf => ?_)
  · cases hf
    exact r_ret T dX7_add_32 rfl
  · refine r_loc dX7_add_4 rfl ?_
    refine r_bipush (v := 8) dX7_add_5 rfl ?_
    refine r_ge (q := 32) dX7_add_7 rfl hf (fun hf => ?_) (fun hf => ?_)
    · cases hf
      exact r_ret T dX7_add_32 rfl
    · refine r_loc dX7_add_10 rfl ?_
      refine r_getR dX7_add_11 fl_7_9 (sh_S hs0) (Or.inr ⟨_, rfl⟩) (tp_S_1 T hs0) ?_
      refine r_loc dX7_add_14 rfl ?_
      refine r_loc dX7_add_15 rfl ?_
      refine r_iast dX7_add_16 (sh_S_1 hs0) hf (fun h1 e3 hf => ?_)
      have T2 := tp_eq e3 T
      refine r_loc dX7_add_17 rfl ?_
      refine r_getR dX7_add_18 fl_7_15 (sh_S hs0) (Or.inr ⟨_, rfl⟩) (tp_S_2 T2 hs0) ?_
      refine r_loc dX7_add_21 rfl ?_
      refine r_loc dX7_add_22 rfl ?_
      refine r_iast dX7_add_23 (sh_S_2 hs0) hf (fun h4 e6 hf => ?_)
      have T5 := tp_eq e6 T2
      refine r_loc dX7_add_24 rfl ?_
      refine r_getR dX7_add_25 fl_7_18 (sh_S hs0) (Or.inr ⟨_, rfl⟩) (tp_S_3 T5 hs0) ?_
      refine r_loc dX7_add_28 rfl ?_
      refine r_loc dX7_add_29 rfl ?_
      refine r_iast dX7_add_31 (sh_S_3 hs0) hf (fun h7 e9 hf => ?_)
      have T8 := tp_eq e9 T5
      cases hf
      exact r_ret T8 dX7_add_32 rfl
def lp_X7_standAsTold_2 (s0 : Nat) (k_19 : am_H → Option (am_H)) : Nat → Int32 → am_H → Option (am_H)
  | 0, _, _ => none
  | n + 1, x1, h => if x1 < 8 then cal (f_X7_remove s0 x1 h) fun h2 => lp_X7_standAsTold_2 s0 k_19 n (x1 + 1) h2 else k_19  h
def lp_X7_standAsTold_21 (s0 : Nat) (k_91 : am_H → Option (am_H)) : Nat → Int32 → am_H → Option (am_H)
  | 0, _, _ => none
  | n + 1, x1, h => bnd (h.1 4 7) fun v7 => if x1 < v7 then if x1 < 6 then rdI h 6 6 x1 fun v8 => rdI h 7 6 x1 fun v9 => rdI h 8 6 x1 fun v10 => cal (f_X7_add s0 x1 v8 v9 v10 h) fun h12 => rdI h12 9 6 x1 fun v15 => wrI h12 (s0 + 4) 8 x1 v15 fun h16 => lp_X7_standAsTold_21 s0 k_91 n (x1 + 1) h16 else k_91  h else k_91  h
def jn_X7_standAsTold_91 (s0 : Nat) (h : am_H) : Option (am_H) := bnd (h.1 4 9) fun v21 => ptI h s0 8 v21 fun h22 => ptI h22 s0 9 0 fun h25 => bnd (h25.1 4 10) fun v28 => ptI h25 s0 10 v28 fun h29 => some h29
def f_X7_standAsTold (s0 : Nat) (h : am_H) : Option (am_H) := lp_X7_standAsTold_2 s0 (fun h5 => lp_X7_standAsTold_21 s0 (fun h19 => jn_X7_standAsTold_91 s0 h19) 4000 0 h5) 4000 0 h
theorem rl_X7_standAsTold_2 {X : am_X} {d : Nat} (hd : 1 ≤ d) (s0 : Nat) (hs0 : s0 ∈ am_ST) (k_19 : am_H → Option (am_H)) {r : am_H} (hk_19 : ∀ (h : am_H), am_TP h.2.2 → k_19  h = some r → am_G X d 7 false cX7_standAsTold none 19 [some (.ref s0), none] [] (am_SH, h) (none, (am_SH, r))) : ∀ (n : Nat) (x1 : Int32) (h : am_H), am_TP h.2.2 → lp_X7_standAsTold_2 s0 k_19 n x1 h = some r → am_G X d 7 false cX7_standAsTold none 2 [some (.ref s0), some (.int x1)] [] (am_SH, h) (none, (am_SH, r)) := by
  obtain ⟨d, rfl⟩ : ∃ e, d = e + 1 := ⟨d - 1, by omega⟩
  intro n
  induction n with
  | zero => intro x1 h T hf; cases hf
  | succ n ih =>
    intro x1 h T hf
    rw [lp_X7_standAsTold_2] at hf
    refine r_loc dX7_standAsTold_2 rfl ?_
    refine r_bipush (v := 8) dX7_standAsTold_3 rfl ?_
    refine r_ge (q := 19) dX7_standAsTold_5 rfl hf (fun hf => ?_) (fun hf => ?_)
    · refine r_weak (L := [some (.ref s0), none]) (am_le_s (am_le_n am_le_0)) ?_
      exact hk_19  h T hf
    · refine r_loc dX7_standAsTold_8 rfl ?_
      refine r_loc dX7_standAsTold_9 rfl ?_
      obtain ⟨h2, c1, hf⟩ := cal_inv hf
      have g4 := rf_X7_remove (X := X) (d := d) (by omega) s0 x1 hs0 T c1
      have T3 : am_TP h2.2.2 := g4.2
      refine r_virt (pre := [.int x1]) (rest := []) dX7_standAsTold_10 ct_7_47 rfl ((sh_S hs0)) (Nat.le_of_ble_eq_true rfl) (Nat.le_of_ble_eq_true rfl) g4 ?_
      refine r_loc (L' := [some (.ref s0), some (.int (x1 + 1))]) dX7_standAsTold_13 rfl ?_
      refine r_goto (q := 2) dX7_standAsTold_16 rfl ?_
      exact ih (x1 + 1) h2 T3 hf
theorem rl_X7_standAsTold_21 {X : am_X} {d : Nat} (hd : 1 ≤ d) (s0 : Nat) (hs0 : s0 ∈ am_ST) (k_91 : am_H → Option (am_H)) {r : am_H} (hk_91 : ∀ (h : am_H), am_TP h.2.2 → k_91  h = some r → am_G X d 7 false cX7_standAsTold none 91 [some (.ref s0), none] [] (am_SH, h) (none, (am_SH, r))) : ∀ (n : Nat) (x1 : Int32) (h : am_H), am_TP h.2.2 → lp_X7_standAsTold_21 s0 k_91 n x1 h = some r → am_G X d 7 false cX7_standAsTold none 21 [some (.ref s0), some (.int x1)] [] (am_SH, h) (none, (am_SH, r)) := by
  obtain ⟨d, rfl⟩ : ∃ e, d = e + 1 := ⟨d - 1, by omega⟩
  intro n
  induction n with
  | zero => intro x1 h T hf; cases hf
  | succ n ih =>
    intro x1 h T hf
    rw [lp_X7_standAsTold_21] at hf
    refine r_loc dX7_standAsTold_21 rfl ?_
    refine r_loc dX7_standAsTold_22 rfl ?_
    refine r_getR dX7_standAsTold_23 fl_7_43 (sh_S hs0) (Or.inl ⟨_, rfl⟩) (tp_S_0 T hs0) ?_
    refine r_getI dX7_standAsTold_26 fl_7_51 sh_4 rfl hf (fun v7 hf => ?_)
    refine r_ge (q := 91) dX7_standAsTold_29 rfl hf (fun hf => ?_) (fun hf => ?_)
    · refine r_weak (L := [some (.ref s0), none]) (am_le_s (am_le_n am_le_0)) ?_
      exact hk_91  h T hf
    · refine r_loc dX7_standAsTold_32 rfl ?_
      refine r_bipush (v := 6) dX7_standAsTold_33 rfl ?_
      refine r_ge (q := 91) dX7_standAsTold_35 rfl hf (fun hf => ?_) (fun hf => ?_)
      · refine r_weak (L := [some (.ref s0), none]) (am_le_s (am_le_n am_le_0)) ?_
        exact hk_91  h T hf
      · refine r_loc dX7_standAsTold_38 rfl ?_
        refine r_loc dX7_standAsTold_39 rfl ?_
        refine r_loc dX7_standAsTold_40 rfl ?_
        refine r_getR dX7_standAsTold_41 fl_7_43 (sh_S hs0) (Or.inl ⟨_, rfl⟩) (tp_S_0 T hs0) ?_
        refine r_getR dX7_standAsTold_44 fl_7_56 sh_4 (Or.inr ⟨_, rfl⟩) (tp_4_1 T) ?_
        refine r_loc dX7_standAsTold_47 rfl ?_
        refine r_iald dX7_standAsTold_48 sh_6 hf (fun v8 hf => ?_)
        refine r_loc dX7_standAsTold_49 rfl ?_
        refine r_getR dX7_standAsTold_50 fl_7_43 (sh_S hs0) (Or.inl ⟨_, rfl⟩) (tp_S_0 T hs0) ?_
        refine r_getR dX7_standAsTold_53 fl_7_57 sh_4 (Or.inr ⟨_, rfl⟩) (tp_4_2 T) ?_
        refine r_loc dX7_standAsTold_56 rfl ?_
        refine r_iald dX7_standAsTold_57 sh_7 hf (fun v9 hf => ?_)
        refine r_loc dX7_standAsTold_58 rfl ?_
        refine r_getR dX7_standAsTold_59 fl_7_43 (sh_S hs0) (Or.inl ⟨_, rfl⟩) (tp_S_0 T hs0) ?_
        refine r_getR dX7_standAsTold_62 fl_7_58 sh_4 (Or.inr ⟨_, rfl⟩) (tp_4_3 T) ?_
        refine r_loc dX7_standAsTold_65 rfl ?_
        refine r_iald dX7_standAsTold_66 sh_8 hf (fun v10 hf => ?_)
        obtain ⟨h12, c11, hf⟩ := cal_inv hf
        have g14 := rf_X7_add (X := X) (d := d) (by omega) s0 x1 v8 v9 v10 hs0 T c11
        have T13 : am_TP h12.2.2 := g14.2
        refine r_virt (pre := [.int v10, .int v9, .int v8, .int x1]) (rest := []) dX7_standAsTold_67 ct_7_59 rfl ((sh_S hs0)) (Nat.le_of_ble_eq_true rfl) (Nat.le_of_ble_eq_true rfl) g14 ?_
        refine r_loc dX7_standAsTold_70 rfl ?_
        refine r_getR dX7_standAsTold_71 fl_7_21 (sh_S hs0) (Or.inr ⟨_, rfl⟩) (tp_S_4 T13 hs0) ?_
        refine r_loc dX7_standAsTold_74 rfl ?_
        refine r_loc dX7_standAsTold_75 rfl ?_
        refine r_getR dX7_standAsTold_76 fl_7_43 (sh_S hs0) (Or.inl ⟨_, rfl⟩) (tp_S_0 T13 hs0) ?_
        refine r_getR dX7_standAsTold_79 fl_7_63 sh_4 (Or.inr ⟨_, rfl⟩) (tp_4_4 T13) ?_
        refine r_loc dX7_standAsTold_82 rfl ?_
        refine r_iald dX7_standAsTold_83 sh_9 hf (fun v15 hf => ?_)
        refine r_iast dX7_standAsTold_84 (sh_S_4 hs0) hf (fun h16 e18 hf => ?_)
        have T17 := tp_eq e18 T13
        refine r_loc (L' := [some (.ref s0), some (.int (x1 + 1))]) dX7_standAsTold_85 rfl ?_
        refine r_goto (q := 21) dX7_standAsTold_88 rfl ?_
        exact ih (x1 + 1) h16 T17 hf
theorem rj_X7_standAsTold_91 {X : am_X} {d : Nat} (hd : 1 ≤ d) (s0 : Nat) (hs0 : s0 ∈ am_ST) {h : am_H} (T : am_TP h.2.2) {r : am_H} (hf : jn_X7_standAsTold_91 s0 h = some r) : am_G X d 7 false cX7_standAsTold none 91 [some (.ref s0), none] [] (am_SH, h) (none, (am_SH, r)) := by
  obtain ⟨d, rfl⟩ : ∃ e, d = e + 1 := ⟨d - 1, by omega⟩
  unfold jn_X7_standAsTold_91 at hf
  refine r_loc dX7_standAsTold_91 rfl ?_
  refine r_loc dX7_standAsTold_92 rfl ?_
  refine r_getR dX7_standAsTold_93 fl_7_43 (sh_S hs0) (Or.inl ⟨_, rfl⟩) (tp_S_0 T hs0) ?_
  refine r_getI dX7_standAsTold_96 fl_7_64 sh_4 rfl hf (fun v21 hf => ?_)
  refine r_putI dX7_standAsTold_99 fl_7_33 (sh_S hs0) ⟨rfl, rfl⟩ hf (fun h22 e24 hf => ?_)
  have T23 := tp_eq e24 T
  refine r_loc dX7_standAsTold_102 rfl ?_
  refine r_iconst (v := 0) dX7_standAsTold_103 rfl ?_
  refine r_putI dX7_standAsTold_104 fl_7_37 (sh_S hs0) ⟨rfl, rfl⟩ hf (fun h25 e27 hf => ?_)
  have T26 := tp_eq e27 T23
  refine r_loc dX7_standAsTold_107 rfl ?_
  refine r_loc dX7_standAsTold_108 rfl ?_
  refine r_getR dX7_standAsTold_109 fl_7_43 (sh_S hs0) (Or.inl ⟨_, rfl⟩) (tp_S_0 T26 hs0) ?_
  refine r_getI dX7_standAsTold_112 fl_7_65 sh_4 rfl hf (fun v28 hf => ?_)
  refine r_putI dX7_standAsTold_115 fl_7_40 (sh_S hs0) ⟨rfl, rfl⟩ hf (fun h29 e31 hf => ?_)
  have T30 := tp_eq e31 T26
  cases hf
  exact r_ret T30 dX7_standAsTold_118 rfl
theorem rf_X7_standAsTold {X : am_X} {d : Nat} (hd : 1 ≤ d) (s0 : Nat) (hs0 : s0 ∈ am_ST) {h : am_H} (T : am_TP h.2.2) {r : am_H} (hf : f_X7_standAsTold s0 h = some r) : am_G X d 7 false cX7_standAsTold none 0 [some (.ref s0), none] [] (am_SH, h) (none, (am_SH, r)) := by
  unfold f_X7_standAsTold at hf
  obtain ⟨d, rfl⟩ : ∃ e, d = e + 1 := ⟨d - 1, by omega⟩
  refine r_iconst (v := 0) dX7_standAsTold_0 rfl ?_
  refine r_loc (L' := [some (.ref s0), some (.int 0)]) dX7_standAsTold_1 rfl ?_
  refine rl_X7_standAsTold_2 (by omega) s0 hs0 _ ?_ 4000 0 h T hf
  · intro h5 T6 hf
    refine r_iconst (v := 0) dX7_standAsTold_19 rfl ?_
    refine r_loc (L' := [some (.ref s0), some (.int 0)]) dX7_standAsTold_20 rfl ?_
    refine rl_X7_standAsTold_21 (by omega) s0 hs0 _ ?_ 4000 0 h5 T6 hf
    · intro h19 T20 hf
      exact rj_X7_standAsTold_91 (by omega) s0 hs0 T20 hf
def f_X7_copyFrom (s0 : Nat) (s1 : Nat) (h : am_H) : Option (am_H) := cpI h (s1 + 1) 8 0 (s0 + 1) 8 0 8 fun h1 => cpI h1 (s1 + 2) 8 0 (s0 + 2) 8 0 8 fun h4 => cpI h4 (s1 + 3) 8 0 (s0 + 3) 8 0 8 fun h7 => cpI h7 (s1 + 4) 8 0 (s0 + 4) 8 0 8 fun h10 => cpI h10 (s1 + 5) 8 0 (s0 + 5) 8 0 8 fun h13 => cpI h13 (s1 + 6) 8 0 (s0 + 6) 8 0 8 fun h16 => cpI h16 (s1 + 7) 8 0 (s0 + 7) 8 0 8 fun h19 => bnd (h19.1 s1 8) fun v22 => ptI h19 s0 8 v22 fun h23 => bnd (h23.1 s1 9) fun v26 => ptI h23 s0 9 v26 fun h27 => bnd (h27.1 s1 10) fun v30 => ptI h27 s0 10 v30 fun h31 => some h31
theorem rf_X7_copyFrom {X : am_X} {d : Nat} (hd : 1 ≤ d) (s0 : Nat) (s1 : Nat) (hs0 : s0 ∈ am_ST) (hs1 : s1 ∈ am_ST) {h : am_H} (T : am_TP h.2.2) {r : am_H} (hf : f_X7_copyFrom s0 s1 h = some r) : am_G X d 7 false cX7_copyFrom none 0 [some (.ref s0), some (.ref s1)] [] (am_SH, h) (none, (am_SH, r)) := by
  unfold f_X7_copyFrom at hf
  obtain ⟨d, rfl⟩ : ∃ e, d = e + 1 := ⟨d - 1, by omega⟩
  refine r_loc dX7_copyFrom_0 rfl ?_
  refine r_getR dX7_copyFrom_1 fl_7_9 (sh_S hs1) (Or.inr ⟨_, rfl⟩) (tp_S_1 T hs1) ?_
  refine r_iconst (v := 0) dX7_copyFrom_4 rfl ?_
  refine r_loc dX7_copyFrom_5 rfl ?_
  refine r_getR dX7_copyFrom_6 fl_7_9 (sh_S hs0) (Or.inr ⟨_, rfl⟩) (tp_S_1 T hs0) ?_
  refine r_iconst (v := 0) dX7_copyFrom_9 rfl ?_
  refine r_bipush (v := 8) dX7_copyFrom_10 rfl ?_
  refine r_cpy dX7_copyFrom_12 ct_7_68 (Nat.le_of_ble_eq_true rfl) (sh_S_1 hs1) (sh_S_1 hs0) hf (fun h1 e3 hf => ?_)
  have T2 := tp_eq e3 T
  refine r_loc dX7_copyFrom_15 rfl ?_
  refine r_getR dX7_copyFrom_16 fl_7_15 (sh_S hs1) (Or.inr ⟨_, rfl⟩) (tp_S_2 T2 hs1) ?_
  refine r_iconst (v := 0) dX7_copyFrom_19 rfl ?_
  refine r_loc dX7_copyFrom_20 rfl ?_
  refine r_getR dX7_copyFrom_21 fl_7_15 (sh_S hs0) (Or.inr ⟨_, rfl⟩) (tp_S_2 T2 hs0) ?_
  refine r_iconst (v := 0) dX7_copyFrom_24 rfl ?_
  refine r_bipush (v := 8) dX7_copyFrom_25 rfl ?_
  refine r_cpy dX7_copyFrom_27 ct_7_68 (Nat.le_of_ble_eq_true rfl) (sh_S_2 hs1) (sh_S_2 hs0) hf (fun h4 e6 hf => ?_)
  have T5 := tp_eq e6 T2
  refine r_loc dX7_copyFrom_30 rfl ?_
  refine r_getR dX7_copyFrom_31 fl_7_18 (sh_S hs1) (Or.inr ⟨_, rfl⟩) (tp_S_3 T5 hs1) ?_
  refine r_iconst (v := 0) dX7_copyFrom_34 rfl ?_
  refine r_loc dX7_copyFrom_35 rfl ?_
  refine r_getR dX7_copyFrom_36 fl_7_18 (sh_S hs0) (Or.inr ⟨_, rfl⟩) (tp_S_3 T5 hs0) ?_
  refine r_iconst (v := 0) dX7_copyFrom_39 rfl ?_
  refine r_bipush (v := 8) dX7_copyFrom_40 rfl ?_
  refine r_cpy dX7_copyFrom_42 ct_7_68 (Nat.le_of_ble_eq_true rfl) (sh_S_3 hs1) (sh_S_3 hs0) hf (fun h7 e9 hf => ?_)
  have T8 := tp_eq e9 T5
  refine r_loc dX7_copyFrom_45 rfl ?_
  refine r_getR dX7_copyFrom_46 fl_7_21 (sh_S hs1) (Or.inr ⟨_, rfl⟩) (tp_S_4 T8 hs1) ?_
  refine r_iconst (v := 0) dX7_copyFrom_49 rfl ?_
  refine r_loc dX7_copyFrom_50 rfl ?_
  refine r_getR dX7_copyFrom_51 fl_7_21 (sh_S hs0) (Or.inr ⟨_, rfl⟩) (tp_S_4 T8 hs0) ?_
  refine r_iconst (v := 0) dX7_copyFrom_54 rfl ?_
  refine r_bipush (v := 8) dX7_copyFrom_55 rfl ?_
  refine r_cpy dX7_copyFrom_57 ct_7_68 (Nat.le_of_ble_eq_true rfl) (sh_S_4 hs1) (sh_S_4 hs0) hf (fun h10 e12 hf => ?_)
  have T11 := tp_eq e12 T8
  refine r_loc dX7_copyFrom_60 rfl ?_
  refine r_getR dX7_copyFrom_61 fl_7_24 (sh_S hs1) (Or.inr ⟨_, rfl⟩) (tp_S_5 T11 hs1) ?_
  refine r_iconst (v := 0) dX7_copyFrom_64 rfl ?_
  refine r_loc dX7_copyFrom_65 rfl ?_
  refine r_getR dX7_copyFrom_66 fl_7_24 (sh_S hs0) (Or.inr ⟨_, rfl⟩) (tp_S_5 T11 hs0) ?_
  refine r_iconst (v := 0) dX7_copyFrom_69 rfl ?_
  refine r_bipush (v := 8) dX7_copyFrom_70 rfl ?_
  refine r_cpy dX7_copyFrom_72 ct_7_68 (Nat.le_of_ble_eq_true rfl) (sh_S_5 hs1) (sh_S_5 hs0) hf (fun h13 e15 hf => ?_)
  have T14 := tp_eq e15 T11
  refine r_loc dX7_copyFrom_75 rfl ?_
  refine r_getR dX7_copyFrom_76 fl_7_27 (sh_S hs1) (Or.inr ⟨_, rfl⟩) (tp_S_6 T14 hs1) ?_
  refine r_iconst (v := 0) dX7_copyFrom_79 rfl ?_
  refine r_loc dX7_copyFrom_80 rfl ?_
  refine r_getR dX7_copyFrom_81 fl_7_27 (sh_S hs0) (Or.inr ⟨_, rfl⟩) (tp_S_6 T14 hs0) ?_
  refine r_iconst (v := 0) dX7_copyFrom_84 rfl ?_
  refine r_bipush (v := 8) dX7_copyFrom_85 rfl ?_
  refine r_cpy dX7_copyFrom_87 ct_7_68 (Nat.le_of_ble_eq_true rfl) (sh_S_6 hs1) (sh_S_6 hs0) hf (fun h16 e18 hf => ?_)
  have T17 := tp_eq e18 T14
  refine r_loc dX7_copyFrom_90 rfl ?_
  refine r_getR dX7_copyFrom_91 fl_7_30 (sh_S hs1) (Or.inr ⟨_, rfl⟩) (tp_S_7 T17 hs1) ?_
  refine r_iconst (v := 0) dX7_copyFrom_94 rfl ?_
  refine r_loc dX7_copyFrom_95 rfl ?_
  refine r_getR dX7_copyFrom_96 fl_7_30 (sh_S hs0) (Or.inr ⟨_, rfl⟩) (tp_S_7 T17 hs0) ?_
  refine r_iconst (v := 0) dX7_copyFrom_99 rfl ?_
  refine r_bipush (v := 8) dX7_copyFrom_100 rfl ?_
  refine r_cpy dX7_copyFrom_102 ct_7_68 (Nat.le_of_ble_eq_true rfl) (sh_S_7 hs1) (sh_S_7 hs0) hf (fun h19 e21 hf => ?_)
  have T20 := tp_eq e21 T17
  refine r_loc dX7_copyFrom_105 rfl ?_
  refine r_loc dX7_copyFrom_106 rfl ?_
  refine r_getI dX7_copyFrom_107 fl_7_33 (sh_S hs1) rfl hf (fun v22 hf => ?_)
  refine r_putI dX7_copyFrom_110 fl_7_33 (sh_S hs0) ⟨rfl, rfl⟩ hf (fun h23 e25 hf => ?_)
  have T24 := tp_eq e25 T20
  refine r_loc dX7_copyFrom_113 rfl ?_
  refine r_loc dX7_copyFrom_114 rfl ?_
  refine r_getI dX7_copyFrom_115 fl_7_37 (sh_S hs1) rfl hf (fun v26 hf => ?_)
  refine r_putI dX7_copyFrom_118 fl_7_37 (sh_S hs0) ⟨rfl, rfl⟩ hf (fun h27 e29 hf => ?_)
  have T28 := tp_eq e29 T24
  refine r_loc dX7_copyFrom_121 rfl ?_
  refine r_loc dX7_copyFrom_122 rfl ?_
  refine r_getI dX7_copyFrom_123 fl_7_40 (sh_S hs1) rfl hf (fun v30 hf => ?_)
  refine r_putI dX7_copyFrom_126 fl_7_40 (sh_S hs0) ⟨rfl, rfl⟩ hf (fun h31 e33 hf => ?_)
  have T32 := tp_eq e33 T28
  cases hf
  exact r_ret T32 dX7_copyFrom_129 rfl
def jn_X0_write_19 (s2 : Nat) (h : am_H) : Option (am_H) := some h
def f_X0_write (x1 : Int32) (s2 : Nat) (h : am_H) : Option (am_H) := if x1 < 0 then jn_X0_write_19 s2 h else if 40 < x1 then jn_X0_write_19 s2 h else rdR h 45 41 x1 fun u1 => cal (f_X7_copyFrom u1 s2 h) fun h4 => some h4
theorem rj_X0_write_19 {X : am_X} {d : Nat} (hd : 2 ≤ d) (s2 : Nat) (hs2 : s2 ∈ am_ST) {h : am_H} (T : am_TP h.2.2) {r : am_H} (hf : jn_X0_write_19 s2 h = some r) : am_G X d 0 false cX0_write none 19 [none, none, some (.ref s2), none] [] (am_SH, h) (none, (am_SH, r)) := by
  obtain ⟨d, rfl⟩ : ∃ e, d = e + 1 := ⟨d - 1, by omega⟩
  unfold jn_X0_write_19 at hf
  refine r_alu dX0_write_19 rfl ?_
  refine r_loc (L' := [none, none, some (.ref s2), some (.null)]) dX0_write_20 rfl ?_
  refine r_loc dX0_write_21 rfl ?_
  refine r_nullN (q := 30) dX0_write_22 rfl ?_
  cases hf
  exact r_ret T dX0_write_30 rfl
theorem rf_X0_write {X : am_X} {d : Nat} (hd : 2 ≤ d) (x1 : Int32) (s2 : Nat) (hs2 : s2 ∈ am_ST) {h : am_H} (T : am_TP h.2.2) {r : am_H} (hf : f_X0_write x1 s2 h = some r) : am_G X d 0 false cX0_write none 0 [some (.ref 44), some (.int x1), some (.ref s2), none] [] (am_SH, h) (none, (am_SH, r)) := by
  unfold f_X0_write at hf
  obtain ⟨d, rfl⟩ : ∃ e, d = e + 1 := ⟨d - 1, by omega⟩
  refine r_loc dX0_write_0 rfl ?_
  refine r_lt0 (q := 19) dX0_write_1 rfl hf (fun hf => ?_) (fun hf => ?_)
  · refine r_weak (L := [none, none, some (.ref s2), none]) (am_le_n (am_le_n (am_le_s (am_le_n am_le_0)))) ?_
    exact rj_X0_write_19 (by omega) s2 hs2 T hf
  · refine r_loc dX0_write_4 rfl ?_
    refine r_bipush (v := 40) dX0_write_5 rfl ?_
    refine r_gt (q := 19) dX0_write_7 rfl hf (fun hf => ?_) (fun hf => ?_)
    · refine r_weak (L := [none, none, some (.ref s2), none]) (am_le_n (am_le_n (am_le_s (am_le_n am_le_0)))) ?_
      exact rj_X0_write_19 (by omega) s2 hs2 T hf
    · refine r_loc dX0_write_10 rfl ?_
      refine r_getR dX0_write_11 fl_0_11 sh_44 (Or.inr ⟨_, rfl⟩) (tp_44_0 T) ?_
      refine r_loc dX0_write_14 rfl ?_
      refine r_aald dX0_write_15 sh_45 hf (fun u1 hin hy hf => ?_)
      have q2 := tp_kept_45 T hin hy
      refine r_goto (q := 20) dX0_write_16 rfl ?_
      refine r_loc (L' := [some (.ref 44), some (.int x1), some (.ref s2), some (.ref u1)]) dX0_write_20 rfl ?_
      refine r_loc dX0_write_21 rfl ?_
      refine r_nullR (q := 30) dX0_write_22 rfl ?_
      refine r_loc dX0_write_25 rfl ?_
      refine r_loc dX0_write_26 rfl ?_
      obtain ⟨h4, c3, hf⟩ := cal_inv hf
      have g6 := rf_X7_copyFrom (X := X) (d := d) (by omega) u1 s2 q2 hs2 T c3
      have T5 : am_TP h4.2.2 := g6.2
      refine r_virt (pre := [.ref s2]) (rest := []) dX0_write_27 ct_0_37 rfl ((sh_S q2)) (Nat.le_of_ble_eq_true rfl) (Nat.le_of_ble_eq_true rfl) g6 ?_
      cases hf
      exact r_ret T5 dX0_write_30 rfl
def f_X0_begin (s1 : Nat) (h : am_H) : Option (am_H) := ptI h 44 1 0 fun h1 => ptI h1 44 2 0 fun h4 => cal (f_X0_write 0 s1 h4) fun h8 => some h8
theorem rf_X0_begin {X : am_X} {d : Nat} (hd : 3 ≤ d) (s1 : Nat) (hs1 : s1 ∈ am_ST) {h : am_H} (T : am_TP h.2.2) {r : am_H} (hf : f_X0_begin s1 h = some r) : am_G X d 0 false cX0_begin none 0 [some (.ref 44), some (.ref s1)] [] (am_SH, h) (none, (am_SH, r)) := by
  unfold f_X0_begin at hf
  obtain ⟨d, rfl⟩ : ∃ e, d = e + 1 := ⟨d - 1, by omega⟩
  refine r_loc dX0_begin_0 rfl ?_
  refine r_iconst (v := 0) dX0_begin_1 rfl ?_
  refine r_putI dX0_begin_2 fl_0_17 sh_44 ⟨rfl, rfl⟩ hf (fun h1 e3 hf => ?_)
  have T2 := tp_eq e3 T
  refine r_loc dX0_begin_5 rfl ?_
  refine r_iconst (v := 0) dX0_begin_6 rfl ?_
  refine r_putI dX0_begin_7 fl_0_21 sh_44 ⟨rfl, rfl⟩ hf (fun h4 e6 hf => ?_)
  have T5 := tp_eq e6 T2
  refine r_loc dX0_begin_10 rfl ?_
  refine r_iconst (v := 0) dX0_begin_11 rfl ?_
  refine r_loc dX0_begin_12 rfl ?_
  obtain ⟨h8, c7, hf⟩ := cal_inv hf
  have g10 := rf_X0_write (X := X) (d := d) (by omega) 0 s1 hs1 T5 c7
  have T9 : am_TP h8.2.2 := g10.2
  refine r_virt (pre := [.ref s1, .int 0]) (rest := []) dX0_begin_13 ct_0_27 rfl (sh_44) (Nat.le_of_ble_eq_true rfl) (Nat.le_of_ble_eq_true rfl) g10 ?_
  cases hf
  exact r_ret T9 dX0_begin_16 rfl
def lp_X1_clear_2 : Nat → Int32 → am_H → Option (am_H)
  | 0, _, _ => none
  | n + 1, x1, h => if x1 < 3 then wrI h 376 3 x1 (vp_nar .boolean 0) fun h1 => lp_X1_clear_2 n (x1 + 1) h1 else some h
def f_X1_clear  (h : am_H) : Option (am_H) := lp_X1_clear_2  4000 0 h
theorem rl_X1_clear_2 {X : am_X} {d : Nat} (hd : 0 ≤ d) {r : am_H} : ∀ (n : Nat) (x1 : Int32) (h : am_H), am_TP h.2.2 → lp_X1_clear_2 n x1 h = some r → am_G X d 1 false cX1_clear none 2 [some (.ref 374), some (.int x1)] [] (am_SH, h) (none, (am_SH, r)) := by
  intro n
  induction n with
  | zero => intro x1 h T hf; cases hf
  | succ n ih =>
    intro x1 h T hf
    rw [lp_X1_clear_2] at hf
    refine r_loc dX1_clear_2 rfl ?_
    refine r_iconst (v := 3) dX1_clear_3 rfl ?_
    refine r_ge (q := 20) dX1_clear_4 rfl hf (fun hf => ?_) (fun hf => ?_)
    · cases hf
      exact r_ret T dX1_clear_20 rfl
    · refine r_loc dX1_clear_7 rfl ?_
      refine r_getR dX1_clear_8 fl_1_17 sh_374 (Or.inr ⟨_, rfl⟩) (tp_374_1 T) ?_
      refine r_loc dX1_clear_11 rfl ?_
      refine r_iconst (v := 0) dX1_clear_12 rfl ?_
      refine r_bast dX1_clear_13 sh_376 rfl hf (fun h1 e3 hf => ?_)
      have T2 := tp_eq e3 T
      refine r_loc (L' := [some (.ref 374), some (.int (x1 + 1))]) dX1_clear_14 rfl ?_
      refine r_goto (q := 2) dX1_clear_17 rfl ?_
      exact ih (x1 + 1) h1 T2 hf
theorem rf_X1_clear {X : am_X} {d : Nat} (hd : 0 ≤ d)  {h : am_H} (T : am_TP h.2.2) {r : am_H} (hf : f_X1_clear  h = some r) : am_G X d 1 false cX1_clear none 0 [some (.ref 374), none] [] (am_SH, h) (none, (am_SH, r)) := by
  unfold f_X1_clear at hf
  refine r_iconst (v := 0) dX1_clear_0 rfl ?_
  refine r_loc (L' := [some (.ref 374), some (.int 0)]) dX1_clear_1 rfl ?_
  refine rl_X1_clear_2 (by omega)  4000 0 h T hf
def f_X11_house  (h : am_H) : Option (Int32 × am_H) := cal2 (f_X5_readAll h) fun v2 h4 => ptI h4 1 3 0 fun h7 => if v2 = 0 then some ((-1), h7) else cal (f_X4_copyFrom_4_17 h7) fun h11 => cal (f_X7_standAsTold 27 h11) fun h15 => cal (f_X0_begin 27 h15) fun h19 => cal (f_X1_clear h19) fun h23 => ptI h23 404 8 0 fun h26 => ptI h26 0 10 0 fun h29 => bnd (h29.1 4 7) fun v32 => some (v32, h29)
theorem rf_X11_house {X : am_X} {d : Nat} (hd : 208 ≤ d)  {h : am_H} (T : am_TP h.2.2) {r : Int32 × am_H} (hf : f_X11_house  h = some r) : am_G X d 11 false cX11_house (some .int) 0 [some (.ref 0), none] [] (am_SH, h) (some (.int r.1), (am_SH, r.2)) := by
  unfold f_X11_house at hf
  obtain ⟨d, rfl⟩ : ∃ e, d = e + 1 := ⟨d - 1, by omega⟩
  refine r_loc dX11_house_0 rfl ?_
  refine r_getR dX11_house_1 fl_11_28 sh_0 (Or.inl ⟨_, rfl⟩) (tp_0_2 T) ?_
  obtain ⟨v2, h4, c1, hf⟩ := cal2_inv hf
  have g6 := rf_X5_readAll (X := X) (d := d) (by omega) T c1
  have T5 : am_TP h4.2.2 := g6.2
  refine r_virt (pre := []) (rest := []) dX11_house_4 ct_11_91 rfl (sh_14) (Nat.le_of_ble_eq_true rfl) (Nat.le_of_ble_eq_true rfl) g6 ?_
  refine r_loc (L' := [some (.ref 0), some (.int v2)]) dX11_house_7 rfl ?_
  refine r_loc dX11_house_8 rfl ?_
  refine r_getR dX11_house_9 fl_11_12 sh_0 (Or.inl ⟨_, rfl⟩) (tp_0_0 T5) ?_
  refine r_iconst (v := 0) dX11_house_12 rfl ?_
  refine r_putI dX11_house_13 fl_11_84 sh_1 ⟨rfl, rfl⟩ hf (fun h7 e9 hf => ?_)
  have T8 := tp_eq e9 T5
  refine r_loc dX11_house_16 rfl ?_
  refine r_ne0 (q := 22) dX11_house_17 rfl hf (fun hf => ?_) (fun hf => ?_)
  · refine r_loc dX11_house_22 rfl ?_
    refine r_getR dX11_house_23 fl_11_19 sh_0 (Or.inl ⟨_, rfl⟩) (tp_0_1 T8) ?_
    refine r_loc dX11_house_26 rfl ?_
    refine r_getR dX11_house_27 fl_11_28 sh_0 (Or.inl ⟨_, rfl⟩) (tp_0_2 T8) ?_
    refine r_getR dX11_house_30 fl_11_95 sh_14 (Or.inl ⟨_, rfl⟩) (tp_14_5 T8) ?_
    obtain ⟨h11, c10, hf⟩ := cal_inv hf
    have g13 := rf_X4_copyFrom_4_17 (X := X) (d := d) (by omega) T8 c10
    have T12 : am_TP h11.2.2 := g13.2
    refine r_virt (pre := [.ref 17]) (rest := []) dX11_house_33 ct_11_98 rfl (sh_4) (Nat.le_of_ble_eq_true rfl) (Nat.le_of_ble_eq_true rfl) g13 ?_
    refine r_loc dX11_house_36 rfl ?_
    refine r_getR dX11_house_37 fl_11_37 sh_0 (Or.inl ⟨_, rfl⟩) (tp_0_3 T12) ?_
    obtain ⟨h15, c14, hf⟩ := cal_inv hf
    have g17 := rf_X7_standAsTold (X := X) (d := d) (by omega) 27 st_27 T12 c14
    have T16 : am_TP h15.2.2 := g17.2
    refine r_virt (pre := []) (rest := []) dX11_house_40 ct_11_101 rfl ((sh_S st_27)) (Nat.le_of_ble_eq_true rfl) (Nat.le_of_ble_eq_true rfl) g17 ?_
    refine r_loc dX11_house_43 rfl ?_
    refine r_getR dX11_house_44 fl_11_51 sh_0 (Or.inl ⟨_, rfl⟩) (tp_0_5 T16) ?_
    refine r_loc dX11_house_47 rfl ?_
    refine r_getR dX11_house_48 fl_11_37 sh_0 (Or.inl ⟨_, rfl⟩) (tp_0_3 T16) ?_
    obtain ⟨h19, c18, hf⟩ := cal_inv hf
    have g21 := rf_X0_begin (X := X) (d := d) (by omega) 27 st_27 T16 c18
    have T20 : am_TP h19.2.2 := g21.2
    refine r_virt (pre := [.ref 27]) (rest := []) dX11_house_51 ct_11_104 rfl (sh_44) (Nat.le_of_ble_eq_true rfl) (Nat.le_of_ble_eq_true rfl) g21 ?_
    refine r_loc dX11_house_54 rfl ?_
    refine r_getR dX11_house_55 fl_11_58 sh_0 (Or.inl ⟨_, rfl⟩) (tp_0_6 T20) ?_
    obtain ⟨h23, c22, hf⟩ := cal_inv hf
    have g25 := rf_X1_clear (X := X) (d := d) (by omega) T20 c22
    have T24 : am_TP h23.2.2 := g25.2
    refine r_virt (pre := []) (rest := []) dX11_house_58 ct_11_108 rfl (sh_374) (Nat.le_of_ble_eq_true rfl) (Nat.le_of_ble_eq_true rfl) g25 ?_
    refine r_loc dX11_house_61 rfl ?_
    refine r_getR dX11_house_62 fl_11_72 sh_0 (Or.inl ⟨_, rfl⟩) (tp_0_8 T24) ?_
    refine r_iconst (v := 0) dX11_house_65 rfl ?_
    refine r_putI dX11_house_66 fl_11_111 sh_404 ⟨rfl, rfl⟩ hf (fun h26 e28 hf => ?_)
    have T27 := tp_eq e28 T24
    refine r_loc dX11_house_69 rfl ?_
    refine r_iconst (v := 0) dX11_house_70 rfl ?_
    refine r_putI dX11_house_71 fl_11_80 sh_0 ⟨rfl, rfl⟩ hf (fun h29 e31 hf => ?_)
    have T30 := tp_eq e31 T27
    refine r_loc dX11_house_74 rfl ?_
    refine r_getR dX11_house_75 fl_11_19 sh_0 (Or.inl ⟨_, rfl⟩) (tp_0_1 T30) ?_
    refine r_getI dX11_house_78 fl_11_114 sh_4 rfl hf (fun v32 hf => ?_)
    cases hf
    exact r_ri T30 dX11_house_81
  · refine r_iconst (v := (-1)) dX11_house_20 rfl ?_
    cases hf
    exact r_ri T8 dX11_house_21
def f_X11_fault (x1 : Int32) (h : am_H) : Option (Int32) := if x1 = 0 then bnd (h.1 14 6) fun v2 => some v2 else if x1 = 1 then bnd (h.1 14 7) fun v1 => some v1 else some (-1)
theorem rf_X11_fault {X : am_X} {d : Nat} (hd : 0 ≤ d) (x1 : Int32) {h : am_H} (T : am_TP h.2.2) {r : Int32} (hf : f_X11_fault x1 h = some r) : am_G X d 11 false cX11_fault (some .int) 0 [some (.ref 0), some (.int x1)] [] (am_SH, h) (some (.int r), (am_SH, h)) := by
  unfold f_X11_fault at hf
  refine r_loc dX11_fault_0 rfl ?_
  refine r_ne0 (q := 12) dX11_fault_1 rfl hf (fun hf => ?_) (fun hf => ?_)
  · refine r_loc dX11_fault_12 rfl ?_
    refine r_iconst (v := 1) dX11_fault_13 rfl ?_
    refine r_ne (q := 27) dX11_fault_14 rfl hf (fun hf => ?_) (fun hf => ?_)
    · refine r_iconst (v := (-1)) dX11_fault_27 rfl ?_
      cases hf
      exact r_ri T dX11_fault_28
    · refine r_loc dX11_fault_17 rfl ?_
      refine r_getR dX11_fault_18 fl_11_28 sh_0 (Or.inl ⟨_, rfl⟩) (tp_0_2 T) ?_
      refine r_getI dX11_fault_21 fl_11_120 sh_14 rfl hf (fun v1 hf => ?_)
      refine r_goto (q := 28) dX11_fault_24 rfl ?_
      cases hf
      exact r_ri T dX11_fault_28
  · refine r_loc dX11_fault_4 rfl ?_
    refine r_getR dX11_fault_5 fl_11_28 sh_0 (Or.inl ⟨_, rfl⟩) (tp_0_2 T) ?_
    refine r_getI dX11_fault_8 fl_11_117 sh_14 rfl hf (fun v2 hf => ?_)
    cases hf
    exact r_ri T dX11_fault_11
def f_X4_hasRoom_4 (x1 : Int32) (h : am_H) : Option (Int32) := if x1 < 0 then some 0 else bnd (h.1 4 6) fun v1 => if x1 < v1 then if x1 < 4 then some 1 else some 0 else some 0
theorem rf_X4_hasRoom_4 {X : am_X} {d : Nat} (hd : 0 ≤ d) (x1 : Int32) {h : am_H} (T : am_TP h.2.2) {r : Int32} (hf : f_X4_hasRoom_4 x1 h = some r) : am_G X d 4 false cX4_hasRoom (some .boolean) 0 [some (.ref 4), some (.int x1)] [] (am_SH, h) (some (.int r), (am_SH, h)) := by
  unfold f_X4_hasRoom_4 at hf
  refine r_loc dX4_hasRoom_0 rfl ?_
  refine r_lt0 (q := 21) dX4_hasRoom_1 rfl hf (fun hf => ?_) (fun hf => ?_)
  · refine r_iconst (v := 0) dX4_hasRoom_21 rfl ?_
    cases hf
    exact r_z0 T dX4_hasRoom_22
  · refine r_loc dX4_hasRoom_4 rfl ?_
    refine r_loc dX4_hasRoom_5 rfl ?_
    refine r_getI dX4_hasRoom_6 fl_4_34 sh_4 rfl hf (fun v1 hf => ?_)
    refine r_ge (q := 21) dX4_hasRoom_9 rfl hf (fun hf => ?_) (fun hf => ?_)
    · refine r_iconst (v := 0) dX4_hasRoom_21 rfl ?_
      cases hf
      exact r_z0 T dX4_hasRoom_22
    · refine r_loc dX4_hasRoom_12 rfl ?_
      refine r_iconst (v := 4) dX4_hasRoom_13 rfl ?_
      refine r_ge (q := 21) dX4_hasRoom_14 rfl hf (fun hf => ?_) (fun hf => ?_)
      · refine r_iconst (v := 0) dX4_hasRoom_21 rfl ?_
        cases hf
        exact r_z0 T dX4_hasRoom_22
      · refine r_iconst (v := 1) dX4_hasRoom_17 rfl ?_
        refine r_goto (q := 22) dX4_hasRoom_18 rfl ?_
        cases hf
        exact r_z1 T dX4_hasRoom_22
def lp_X7_bitsIn_4 (s0 : Nat) (p1 : Int32) (h : am_H) : Nat → Int32 → Int32 → Option (Int32)
  | 0, _, _ => none
  | n + 1, x2, x3 => if x3 < 8 then rdI h (s0 + 1) 8 x3 fun v1 => if 0 < v1 then rdI h (s0 + 2) 8 x3 fun v2 => if v2 = p1 then lp_X7_bitsIn_4 s0 p1 h n (x2 ||| ((1 : Int32) <<< (x3 &&& 31))) (x3 + 1) else lp_X7_bitsIn_4 s0 p1 h n x2 (x3 + 1) else lp_X7_bitsIn_4 s0 p1 h n x2 (x3 + 1) else some x2
def f_X7_bitsIn (s0 : Nat) (x1 : Int32) (h : am_H) : Option (Int32) := lp_X7_bitsIn_4 s0 x1 h  4000 0 0
theorem rl_X7_bitsIn_4 {X : am_X} {d : Nat} (hd : 0 ≤ d) (s0 : Nat) (p1 : Int32) (hs0 : s0 ∈ am_ST) {h : am_H} (T : am_TP h.2.2) {r : Int32} : ∀ (n : Nat) (x2 : Int32) (x3 : Int32) , lp_X7_bitsIn_4 s0 p1 h n x2 x3 = some r → am_G X d 7 false cX7_bitsIn (some .int) 4 [some (.ref s0), some (.int p1), some (.int x2), some (.int x3)] [] (am_SH, h) (some (.int r), (am_SH, h)) := by
  intro n
  induction n with
  | zero => intro x2 x3 hf; cases hf
  | succ n ih =>
    intro x2 x3 hf
    rw [lp_X7_bitsIn_4] at hf
    refine r_loc dX7_bitsIn_4 rfl ?_
    refine r_bipush (v := 8) dX7_bitsIn_5 rfl ?_
    refine r_ge (q := 41) dX7_bitsIn_7 rfl hf (fun hf => ?_) (fun hf => ?_)
    · refine r_loc dX7_bitsIn_41 rfl ?_
      cases hf
      exact r_ri T dX7_bitsIn_42
    · refine r_loc dX7_bitsIn_10 rfl ?_
      refine r_getR dX7_bitsIn_11 fl_7_9 (sh_S hs0) (Or.inr ⟨_, rfl⟩) (tp_S_1 T hs0) ?_
      refine r_loc dX7_bitsIn_14 rfl ?_
      refine r_iald dX7_bitsIn_15 (sh_S_1 hs0) hf (fun v1 hf => ?_)
      refine r_le0 (q := 35) dX7_bitsIn_16 rfl hf (fun hf => ?_) (fun hf => ?_)
      · refine r_loc (L' := [some (.ref s0), some (.int p1), some (.int x2), some (.int (x3 + 1))]) dX7_bitsIn_35 rfl ?_
        refine r_goto (q := 4) dX7_bitsIn_38 rfl ?_
        exact ih x2 (x3 + 1) hf
      · refine r_loc dX7_bitsIn_19 rfl ?_
        refine r_getR dX7_bitsIn_20 fl_7_15 (sh_S hs0) (Or.inr ⟨_, rfl⟩) (tp_S_2 T hs0) ?_
        refine r_loc dX7_bitsIn_23 rfl ?_
        refine r_iald dX7_bitsIn_24 (sh_S_2 hs0) hf (fun v2 hf => ?_)
        refine r_loc dX7_bitsIn_25 rfl ?_
        refine r_ne (q := 35) dX7_bitsIn_26 rfl hf (fun hf => ?_) (fun hf => ?_)
        · refine r_loc (L' := [some (.ref s0), some (.int p1), some (.int x2), some (.int (x3 + 1))]) dX7_bitsIn_35 rfl ?_
          refine r_goto (q := 4) dX7_bitsIn_38 rfl ?_
          exact ih x2 (x3 + 1) hf
        · refine r_loc dX7_bitsIn_29 rfl ?_
          refine r_iconst (v := 1) dX7_bitsIn_30 rfl ?_
          refine r_loc dX7_bitsIn_31 rfl ?_
          refine r_alu dX7_bitsIn_32 rfl ?_
          refine r_alu dX7_bitsIn_33 rfl ?_
          refine r_loc (L' := [some (.ref s0), some (.int p1), some (.int (x2 ||| ((1 : Int32) <<< (x3 &&& 31)))), some (.int x3)]) dX7_bitsIn_34 rfl ?_
          refine r_loc (L' := [some (.ref s0), some (.int p1), some (.int (x2 ||| ((1 : Int32) <<< (x3 &&& 31)))), some (.int (x3 + 1))]) dX7_bitsIn_35 rfl ?_
          refine r_goto (q := 4) dX7_bitsIn_38 rfl ?_
          exact ih (x2 ||| ((1 : Int32) <<< (x3 &&& 31))) (x3 + 1) hf
theorem rf_X7_bitsIn {X : am_X} {d : Nat} (hd : 0 ≤ d) (s0 : Nat) (x1 : Int32) (hs0 : s0 ∈ am_ST) {h : am_H} (T : am_TP h.2.2) {r : Int32} (hf : f_X7_bitsIn s0 x1 h = some r) : am_G X d 7 false cX7_bitsIn (some .int) 0 [some (.ref s0), some (.int x1), none, none] [] (am_SH, h) (some (.int r), (am_SH, h)) := by
  unfold f_X7_bitsIn at hf
  refine r_iconst (v := 0) dX7_bitsIn_0 rfl ?_
  refine r_loc (L' := [some (.ref s0), some (.int x1), some (.int 0), none]) dX7_bitsIn_1 rfl ?_
  refine r_iconst (v := 0) dX7_bitsIn_2 rfl ?_
  refine r_loc (L' := [some (.ref s0), some (.int x1), some (.int 0), some (.int 0)]) dX7_bitsIn_3 rfl ?_
  refine rl_X7_bitsIn_4 (by omega) s0 x1 hs0 T  4000 0 0  hf
def lp_X7_bulkOf_4 (s0 : Nat) (p1 : Int32) (h : am_H) : Nat → Int32 → Int32 → Option (Int32)
  | 0, _, _ => none
  | n + 1, x2, x3 => if x3 < 8 then if ((p1 >>> (x3 &&& 31)) &&& 1) = 0 then lp_X7_bulkOf_4 s0 p1 h n x2 (x3 + 1) else rdI h (s0 + 1) 8 x3 fun v1 => lp_X7_bulkOf_4 s0 p1 h n (x2 + v1) (x3 + 1) else some x2
def f_X7_bulkOf (s0 : Nat) (x1 : Int32) (h : am_H) : Option (Int32) := lp_X7_bulkOf_4 s0 x1 h  4000 0 0
theorem rl_X7_bulkOf_4 {X : am_X} {d : Nat} (hd : 0 ≤ d) (s0 : Nat) (p1 : Int32) (hs0 : s0 ∈ am_ST) {h : am_H} (T : am_TP h.2.2) {r : Int32} : ∀ (n : Nat) (x2 : Int32) (x3 : Int32) , lp_X7_bulkOf_4 s0 p1 h n x2 x3 = some r → am_G X d 7 false cX7_bulkOf (some .int) 4 [some (.ref s0), some (.int p1), some (.int x2), some (.int x3)] [] (am_SH, h) (some (.int r), (am_SH, h)) := by
  intro n
  induction n with
  | zero => intro x2 x3 hf; cases hf
  | succ n ih =>
    intro x2 x3 hf
    rw [lp_X7_bulkOf_4] at hf
    refine r_loc dX7_bulkOf_4 rfl ?_
    refine r_bipush (v := 8) dX7_bulkOf_5 rfl ?_
    refine r_ge (q := 33) dX7_bulkOf_7 rfl hf (fun hf => ?_) (fun hf => ?_)
    · refine r_loc dX7_bulkOf_33 rfl ?_
      cases hf
      exact r_ri T dX7_bulkOf_34
    · refine r_loc dX7_bulkOf_10 rfl ?_
      refine r_loc dX7_bulkOf_11 rfl ?_
      refine r_alu dX7_bulkOf_12 rfl ?_
      refine r_iconst (v := 1) dX7_bulkOf_13 rfl ?_
      refine r_alu dX7_bulkOf_14 rfl ?_
      refine r_eq0 (q := 27) dX7_bulkOf_15 rfl hf (fun hf => ?_) (fun hf => ?_)
      · refine r_loc (L' := [some (.ref s0), some (.int p1), some (.int x2), some (.int (x3 + 1))]) dX7_bulkOf_27 rfl ?_
        refine r_goto (q := 4) dX7_bulkOf_30 rfl ?_
        exact ih x2 (x3 + 1) hf
      · refine r_loc dX7_bulkOf_18 rfl ?_
        refine r_loc dX7_bulkOf_19 rfl ?_
        refine r_getR dX7_bulkOf_20 fl_7_9 (sh_S hs0) (Or.inr ⟨_, rfl⟩) (tp_S_1 T hs0) ?_
        refine r_loc dX7_bulkOf_23 rfl ?_
        refine r_iald dX7_bulkOf_24 (sh_S_1 hs0) hf (fun v1 hf => ?_)
        refine r_alu dX7_bulkOf_25 rfl ?_
        refine r_loc (L' := [some (.ref s0), some (.int p1), some (.int (x2 + v1)), some (.int x3)]) dX7_bulkOf_26 rfl ?_
        refine r_loc (L' := [some (.ref s0), some (.int p1), some (.int (x2 + v1)), some (.int (x3 + 1))]) dX7_bulkOf_27 rfl ?_
        refine r_goto (q := 4) dX7_bulkOf_30 rfl ?_
        exact ih (x2 + v1) (x3 + 1) hf
theorem rf_X7_bulkOf {X : am_X} {d : Nat} (hd : 0 ≤ d) (s0 : Nat) (x1 : Int32) (hs0 : s0 ∈ am_ST) {h : am_H} (T : am_TP h.2.2) {r : Int32} (hf : f_X7_bulkOf s0 x1 h = some r) : am_G X d 7 false cX7_bulkOf (some .int) 0 [some (.ref s0), some (.int x1), none, none] [] (am_SH, h) (some (.int r), (am_SH, h)) := by
  unfold f_X7_bulkOf at hf
  refine r_iconst (v := 0) dX7_bulkOf_0 rfl ?_
  refine r_loc (L' := [some (.ref s0), some (.int x1), some (.int 0), none]) dX7_bulkOf_1 rfl ?_
  refine r_iconst (v := 0) dX7_bulkOf_2 rfl ?_
  refine r_loc (L' := [some (.ref s0), some (.int x1), some (.int 0), some (.int 0)]) dX7_bulkOf_3 rfl ?_
  refine rl_X7_bulkOf_4 (by omega) s0 x1 hs0 T  4000 0 0  hf
def f_X7_leftIn (s0 : Nat) (x1 : Int32) (h : am_H) : Option (Int32) := cal (f_X4_hasRoom_4 x1 h) fun v2 => if v2 = 0 then some 0 else rdI h 5 4 x1 fun v4 => cal (f_X7_bitsIn s0 x1 h) fun v6 => cal (f_X7_bulkOf s0 v6 h) fun v9 => some (v4 - v9)
theorem rf_X7_leftIn {X : am_X} {d : Nat} (hd : 1 ≤ d) (s0 : Nat) (x1 : Int32) (hs0 : s0 ∈ am_ST) {h : am_H} (T : am_TP h.2.2) {r : Int32} (hf : f_X7_leftIn s0 x1 h = some r) : am_G X d 7 false cX7_leftIn (some .int) 0 [some (.ref s0), some (.int x1)] [] (am_SH, h) (some (.int r), (am_SH, h)) := by
  unfold f_X7_leftIn at hf
  obtain ⟨d, rfl⟩ : ∃ e, d = e + 1 := ⟨d - 1, by omega⟩
  refine r_loc dX7_leftIn_0 rfl ?_
  refine r_getR dX7_leftIn_1 fl_7_43 (sh_S hs0) (Or.inl ⟨_, rfl⟩) (tp_S_0 T hs0) ?_
  refine r_loc dX7_leftIn_4 rfl ?_
  obtain ⟨v2, c1, hf⟩ := cal_inv hf
  have g3 := rf_X4_hasRoom_4 (X := X) (d := d) (by omega) x1 T c1
  refine r_virt (pre := [.int x1]) (rest := []) dX7_leftIn_5 ct_7_88 rfl (sh_4) (Nat.le_of_ble_eq_true rfl) (Nat.le_of_ble_eq_true rfl) g3 ?_
  refine r_eq0 (q := 33) dX7_leftIn_8 rfl hf (fun hf => ?_) (fun hf => ?_)
  · refine r_iconst (v := 0) dX7_leftIn_33 rfl ?_
    cases hf
    exact r_ri T dX7_leftIn_34
  · refine r_loc dX7_leftIn_11 rfl ?_
    refine r_getR dX7_leftIn_12 fl_7_43 (sh_S hs0) (Or.inl ⟨_, rfl⟩) (tp_S_0 T hs0) ?_
    refine r_getR dX7_leftIn_15 fl_7_91 sh_4 (Or.inr ⟨_, rfl⟩) (tp_4_0 T) ?_
    refine r_loc dX7_leftIn_18 rfl ?_
    refine r_iald dX7_leftIn_19 sh_5 hf (fun v4 hf => ?_)
    refine r_loc dX7_leftIn_20 rfl ?_
    refine r_loc dX7_leftIn_21 rfl ?_
    refine r_loc dX7_leftIn_22 rfl ?_
    obtain ⟨v6, c5, hf⟩ := cal_inv hf
    have g7 := rf_X7_bitsIn (X := X) (d := d) (by omega) s0 x1 hs0 T c5
    refine r_virt (pre := [.int x1]) (rest := [.ref s0, .int v4]) dX7_leftIn_23 ct_7_94 rfl ((sh_S hs0)) (Nat.le_of_ble_eq_true rfl) (Nat.le_of_ble_eq_true rfl) g7 ?_
    obtain ⟨v9, c8, hf⟩ := cal_inv hf
    have g10 := rf_X7_bulkOf (X := X) (d := d) (by omega) s0 v6 hs0 T c8
    refine r_virt (pre := [.int v6]) (rest := [.int v4]) dX7_leftIn_26 ct_7_97 rfl ((sh_S hs0)) (Nat.le_of_ble_eq_true rfl) (Nat.le_of_ble_eq_true rfl) g10 ?_
    refine r_alu dX7_leftIn_29 rfl ?_
    refine r_goto (q := 34) dX7_leftIn_30 rfl ?_
    cases hf
    exact r_ri T dX7_leftIn_34
def f_X11_room (x1 : Int32) (x2 : Int32) (h : am_H) : Option (Int32) := cal (f_X4_hasRoom_4 x1 h) fun v2 => if v2 = 0 then some (-1) else if x2 = 0 then rdI h 5 4 x1 fun v4 => some v4 else if x2 = 1 then cal (f_X7_leftIn 27 x1 h) fun v6 => some v6 else if x2 = 2 then cal (f_X7_bitsIn 27 x1 h) fun v9 => some v9 else some (-1)
theorem rf_X11_room {X : am_X} {d : Nat} (hd : 2 ≤ d) (x1 : Int32) (x2 : Int32) {h : am_H} (T : am_TP h.2.2) {r : Int32} (hf : f_X11_room x1 x2 h = some r) : am_G X d 11 false cX11_room (some .int) 0 [some (.ref 0), some (.int x1), some (.int x2)] [] (am_SH, h) (some (.int r), (am_SH, h)) := by
  unfold f_X11_room at hf
  obtain ⟨d, rfl⟩ : ∃ e, d = e + 1 := ⟨d - 1, by omega⟩
  refine r_loc dX11_room_0 rfl ?_
  refine r_getR dX11_room_1 fl_11_19 sh_0 (Or.inl ⟨_, rfl⟩) (tp_0_1 T) ?_
  refine r_loc dX11_room_4 rfl ?_
  obtain ⟨v2, c1, hf⟩ := cal_inv hf
  have g3 := rf_X4_hasRoom_4 (X := X) (d := d) (by omega) x1 T c1
  refine r_virt (pre := [.int x1]) (rest := []) dX11_room_5 ct_11_123 rfl (sh_4) (Nat.le_of_ble_eq_true rfl) (Nat.le_of_ble_eq_true rfl) g3 ?_
  refine r_ne0 (q := 13) dX11_room_8 rfl hf (fun hf => ?_) (fun hf => ?_)
  · refine r_loc dX11_room_13 rfl ?_
    refine r_swc (x := x2) (v := 0) (off := 26) (q := 40) dX11_room_14 rfl rfl hf (fun hf => ?_) (fun n0 hf => ?_)
    · refine r_loc dX11_room_40 rfl ?_
      refine r_getR dX11_room_41 fl_11_19 sh_0 (Or.inl ⟨_, rfl⟩) (tp_0_1 T) ?_
      refine r_getR dX11_room_44 fl_11_127 sh_4 (Or.inr ⟨_, rfl⟩) (tp_4_0 T) ?_
      refine r_loc dX11_room_47 rfl ?_
      refine r_iald dX11_room_48 sh_5 hf (fun v4 hf => ?_)
      cases hf
      exact r_ri T dX11_room_49
    refine r_swc (x := x2) (v := 1) (off := 36) (q := 50) dX11_room_14 rfl rfl hf (fun hf => ?_) (fun n1 hf => ?_)
    · refine r_loc dX11_room_50 rfl ?_
      refine r_getR dX11_room_51 fl_11_37 sh_0 (Or.inl ⟨_, rfl⟩) (tp_0_3 T) ?_
      refine r_loc dX11_room_54 rfl ?_
      obtain ⟨v6, c5, hf⟩ := cal_inv hf
      have g7 := rf_X7_leftIn (X := X) (d := d) (by omega) 27 x1 st_27 T c5
      refine r_virt (pre := [.int x1]) (rest := []) dX11_room_55 ct_11_130 rfl ((sh_S st_27)) (Nat.le_of_ble_eq_true rfl) (Nat.le_of_ble_eq_true rfl) g7 ?_
      cases hf
      exact r_ri T dX11_room_58
    refine r_swc (x := x2) (v := 2) (off := 45) (q := 59) dX11_room_14 rfl rfl hf (fun hf => ?_) (fun n2 hf => ?_)
    · refine r_loc dX11_room_59 rfl ?_
      refine r_getR dX11_room_60 fl_11_37 sh_0 (Or.inl ⟨_, rfl⟩) (tp_0_3 T) ?_
      refine r_loc dX11_room_63 rfl ?_
      obtain ⟨v9, c8, hf⟩ := cal_inv hf
      have g10 := rf_X7_bitsIn (X := X) (d := d) (by omega) 27 x1 st_27 T c8
      refine r_virt (pre := [.int x1]) (rest := []) dX11_room_64 ct_11_134 rfl ((sh_S st_27)) (Nat.le_of_ble_eq_true rfl) (Nat.le_of_ble_eq_true rfl) g10 ?_
      cases hf
      exact r_ri T dX11_room_67
    refine r_swdt (q := 68) dX11_room_14 (by decide) ⟨Or.inr n0, Or.inr n1, Or.inr n2, trivial⟩ rfl ?_
    refine r_iconst (v := (-1)) dX11_room_68 rfl ?_
    cases hf
    exact r_ri T dX11_room_69
  · refine r_iconst (v := (-1)) dX11_room_11 rfl ?_
    cases hf
    exact r_ri T dX11_room_12
def f_X7_has (s0 : Nat) (x1 : Int32) (h : am_H) : Option (Int32) := if x1 < 0 then some 0 else if x1 < 8 then rdI h (s0 + 1) 8 x1 fun v1 => if 0 < v1 then some 1 else some 0 else some 0
theorem rf_X7_has {X : am_X} {d : Nat} (hd : 0 ≤ d) (s0 : Nat) (x1 : Int32) (hs0 : s0 ∈ am_ST) {h : am_H} (T : am_TP h.2.2) {r : Int32} (hf : f_X7_has s0 x1 h = some r) : am_G X d 7 false cX7_has (some .boolean) 0 [some (.ref s0), some (.int x1)] [] (am_SH, h) (some (.int r), (am_SH, h)) := by
  unfold f_X7_has at hf
  refine r_loc dX7_has_0 rfl ?_
  refine r_lt0 (q := 23) dX7_has_1 rfl hf (fun hf => ?_) (fun hf => ?_)
  · refine r_iconst (v := 0) dX7_has_23 rfl ?_
    cases hf
    exact r_z0 T dX7_has_24
  · refine r_loc dX7_has_4 rfl ?_
    refine r_bipush (v := 8) dX7_has_5 rfl ?_
    refine r_ge (q := 23) dX7_has_7 rfl hf (fun hf => ?_) (fun hf => ?_)
    · refine r_iconst (v := 0) dX7_has_23 rfl ?_
      cases hf
      exact r_z0 T dX7_has_24
    · refine r_loc dX7_has_10 rfl ?_
      refine r_getR dX7_has_11 fl_7_9 (sh_S hs0) (Or.inr ⟨_, rfl⟩) (tp_S_1 T hs0) ?_
      refine r_loc dX7_has_14 rfl ?_
      refine r_iald dX7_has_15 (sh_S_1 hs0) hf (fun v1 hf => ?_)
      refine r_le0 (q := 23) dX7_has_16 rfl hf (fun hf => ?_) (fun hf => ?_)
      · refine r_iconst (v := 0) dX7_has_23 rfl ?_
        cases hf
        exact r_z0 T dX7_has_24
      · refine r_iconst (v := 1) dX7_has_19 rfl ?_
        refine r_goto (q := 24) dX7_has_20 rfl ?_
        cases hf
        exact r_z1 T dX7_has_24
def f_X11_trunk (x1 : Int32) (x2 : Int32) (h : am_H) : Option (Int32) := cal (f_X7_has 27 x1 h) fun v2 => if v2 = 0 then some (-2) else if x2 = 0 then rdI h (27 + 1) 8 x1 fun v4 => some v4 else if x2 = 1 then rdI h (27 + 2) 8 x1 fun v5 => some v5 else if x2 = 2 then rdI h (27 + 3) 8 x1 fun v6 => some v6 else if x2 = 3 then rdI h (27 + 4) 8 x1 fun v7 => some v7 else if x2 = 4 then rdI h (27 + 5) 8 x1 fun v8 => some v8 else if x2 = 5 then rdI h (27 + 6) 8 x1 fun v9 => some v9 else if x2 = 6 then rdI h (27 + 7) 8 x1 fun v10 => some v10 else some (-2)
theorem rf_X11_trunk {X : am_X} {d : Nat} (hd : 1 ≤ d) (x1 : Int32) (x2 : Int32) {h : am_H} (T : am_TP h.2.2) {r : Int32} (hf : f_X11_trunk x1 x2 h = some r) : am_G X d 11 false cX11_trunk (some .int) 0 [some (.ref 0), some (.int x1), some (.int x2)] [] (am_SH, h) (some (.int r), (am_SH, h)) := by
  unfold f_X11_trunk at hf
  obtain ⟨d, rfl⟩ : ∃ e, d = e + 1 := ⟨d - 1, by omega⟩
  refine r_loc dX11_trunk_0 rfl ?_
  refine r_getR dX11_trunk_1 fl_11_37 sh_0 (Or.inl ⟨_, rfl⟩) (tp_0_3 T) ?_
  refine r_loc dX11_trunk_4 rfl ?_
  obtain ⟨v2, c1, hf⟩ := cal_inv hf
  have g3 := rf_X7_has (X := X) (d := d) (by omega) 27 x1 st_27 T c1
  refine r_virt (pre := [.int x1]) (rest := []) dX11_trunk_5 ct_11_137 rfl ((sh_S st_27)) (Nat.le_of_ble_eq_true rfl) (Nat.le_of_ble_eq_true rfl) g3 ?_
  refine r_ne0 (q := 14) dX11_trunk_8 rfl hf (fun hf => ?_) (fun hf => ?_)
  · refine r_loc dX11_trunk_14 rfl ?_
    refine r_swc (x := x2) (v := 0) (off := 41) (q := 56) dX11_trunk_15 rfl rfl hf (fun hf => ?_) (fun n0 hf => ?_)
    · refine r_loc dX11_trunk_56 rfl ?_
      refine r_getR dX11_trunk_57 fl_11_37 sh_0 (Or.inl ⟨_, rfl⟩) (tp_0_3 T) ?_
      refine r_getR dX11_trunk_60 fl_11_140 (sh_S st_27) (Or.inr ⟨_, rfl⟩) (tp_S_1 T st_27) ?_
      refine r_loc dX11_trunk_63 rfl ?_
      refine r_iald dX11_trunk_64 (sh_S_1 st_27) hf (fun v4 hf => ?_)
      cases hf
      exact r_ri T dX11_trunk_65
    refine r_swc (x := x2) (v := 1) (off := 51) (q := 66) dX11_trunk_15 rfl rfl hf (fun hf => ?_) (fun n1 hf => ?_)
    · refine r_loc dX11_trunk_66 rfl ?_
      refine r_getR dX11_trunk_67 fl_11_37 sh_0 (Or.inl ⟨_, rfl⟩) (tp_0_3 T) ?_
      refine r_getR dX11_trunk_70 fl_11_143 (sh_S st_27) (Or.inr ⟨_, rfl⟩) (tp_S_2 T st_27) ?_
      refine r_loc dX11_trunk_73 rfl ?_
      refine r_iald dX11_trunk_74 (sh_S_2 st_27) hf (fun v5 hf => ?_)
      cases hf
      exact r_ri T dX11_trunk_75
    refine r_swc (x := x2) (v := 2) (off := 61) (q := 76) dX11_trunk_15 rfl rfl hf (fun hf => ?_) (fun n2 hf => ?_)
    · refine r_loc dX11_trunk_76 rfl ?_
      refine r_getR dX11_trunk_77 fl_11_37 sh_0 (Or.inl ⟨_, rfl⟩) (tp_0_3 T) ?_
      refine r_getR dX11_trunk_80 fl_11_146 (sh_S st_27) (Or.inr ⟨_, rfl⟩) (tp_S_3 T st_27) ?_
      refine r_loc dX11_trunk_83 rfl ?_
      refine r_iald dX11_trunk_84 (sh_S_3 st_27) hf (fun v6 hf => ?_)
      cases hf
      exact r_ri T dX11_trunk_85
    refine r_swc (x := x2) (v := 3) (off := 71) (q := 86) dX11_trunk_15 rfl rfl hf (fun hf => ?_) (fun n3 hf => ?_)
    · refine r_loc dX11_trunk_86 rfl ?_
      refine r_getR dX11_trunk_87 fl_11_37 sh_0 (Or.inl ⟨_, rfl⟩) (tp_0_3 T) ?_
      refine r_getR dX11_trunk_90 fl_11_149 (sh_S st_27) (Or.inr ⟨_, rfl⟩) (tp_S_4 T st_27) ?_
      refine r_loc dX11_trunk_93 rfl ?_
      refine r_iald dX11_trunk_94 (sh_S_4 st_27) hf (fun v7 hf => ?_)
      cases hf
      exact r_ri T dX11_trunk_95
    refine r_swc (x := x2) (v := 4) (off := 81) (q := 96) dX11_trunk_15 rfl rfl hf (fun hf => ?_) (fun n4 hf => ?_)
    · refine r_loc dX11_trunk_96 rfl ?_
      refine r_getR dX11_trunk_97 fl_11_37 sh_0 (Or.inl ⟨_, rfl⟩) (tp_0_3 T) ?_
      refine r_getR dX11_trunk_100 fl_11_152 (sh_S st_27) (Or.inr ⟨_, rfl⟩) (tp_S_5 T st_27) ?_
      refine r_loc dX11_trunk_103 rfl ?_
      refine r_iald dX11_trunk_104 (sh_S_5 st_27) hf (fun v8 hf => ?_)
      cases hf
      exact r_ri T dX11_trunk_105
    refine r_swc (x := x2) (v := 5) (off := 91) (q := 106) dX11_trunk_15 rfl rfl hf (fun hf => ?_) (fun n5 hf => ?_)
    · refine r_loc dX11_trunk_106 rfl ?_
      refine r_getR dX11_trunk_107 fl_11_37 sh_0 (Or.inl ⟨_, rfl⟩) (tp_0_3 T) ?_
      refine r_getR dX11_trunk_110 fl_11_155 (sh_S st_27) (Or.inr ⟨_, rfl⟩) (tp_S_6 T st_27) ?_
      refine r_loc dX11_trunk_113 rfl ?_
      refine r_iald dX11_trunk_114 (sh_S_6 st_27) hf (fun v9 hf => ?_)
      cases hf
      exact r_ri T dX11_trunk_115
    refine r_swc (x := x2) (v := 6) (off := 101) (q := 116) dX11_trunk_15 rfl rfl hf (fun hf => ?_) (fun n6 hf => ?_)
    · refine r_loc dX11_trunk_116 rfl ?_
      refine r_getR dX11_trunk_117 fl_11_37 sh_0 (Or.inl ⟨_, rfl⟩) (tp_0_3 T) ?_
      refine r_getR dX11_trunk_120 fl_11_158 (sh_S st_27) (Or.inr ⟨_, rfl⟩) (tp_S_7 T st_27) ?_
      refine r_loc dX11_trunk_123 rfl ?_
      refine r_iald dX11_trunk_124 (sh_S_7 st_27) hf (fun v10 hf => ?_)
      cases hf
      exact r_ri T dX11_trunk_125
    refine r_swdt (q := 126) dX11_trunk_15 (by decide) ⟨Or.inr n0, Or.inr n1, Or.inr n2, Or.inr n3, Or.inr n4, Or.inr n5, Or.inr n6, trivial⟩ rfl ?_
    refine r_bipush (v := (-2)) dX11_trunk_126 rfl ?_
    cases hf
    exact r_ri T dX11_trunk_128
  · refine r_bipush (v := (-2)) dX11_trunk_11 rfl ?_
    cases hf
    exact r_ri T dX11_trunk_13
def f_X7_hasBoth (s0 : Nat) (x1 : Int32) (x2 : Int32) (h : am_H) : Option (Int32) := cal (f_X7_has s0 x1 h) fun v2 => if v2 = 0 then some 0 else cal (f_X7_has s0 x2 h) fun v5 => if v5 = 0 then some 0 else some 1
theorem rf_X7_hasBoth {X : am_X} {d : Nat} (hd : 1 ≤ d) (s0 : Nat) (x1 : Int32) (x2 : Int32) (hs0 : s0 ∈ am_ST) {h : am_H} (T : am_TP h.2.2) {r : Int32} (hf : f_X7_hasBoth s0 x1 x2 h = some r) : am_G X d 7 false cX7_hasBoth (some .boolean) 0 [some (.ref s0), some (.int x1), some (.int x2)] [] (am_SH, h) (some (.int r), (am_SH, h)) := by
  unfold f_X7_hasBoth at hf
  obtain ⟨d, rfl⟩ : ∃ e, d = e + 1 := ⟨d - 1, by omega⟩
  refine r_loc dX7_hasBoth_0 rfl ?_
  refine r_loc dX7_hasBoth_1 rfl ?_
  obtain ⟨v2, c1, hf⟩ := cal_inv hf
  have g3 := rf_X7_has (X := X) (d := d) (by omega) s0 x1 hs0 T c1
  refine r_virt (pre := [.int x1]) (rest := []) dX7_hasBoth_2 ct_7_74 rfl ((sh_S hs0)) (Nat.le_of_ble_eq_true rfl) (Nat.le_of_ble_eq_true rfl) g3 ?_
  refine r_eq0 (q := 20) dX7_hasBoth_5 rfl hf (fun hf => ?_) (fun hf => ?_)
  · refine r_iconst (v := 0) dX7_hasBoth_20 rfl ?_
    cases hf
    exact r_z0 T dX7_hasBoth_21
  · refine r_loc dX7_hasBoth_8 rfl ?_
    refine r_loc dX7_hasBoth_9 rfl ?_
    obtain ⟨v5, c4, hf⟩ := cal_inv hf
    have g6 := rf_X7_has (X := X) (d := d) (by omega) s0 x2 hs0 T c4
    refine r_virt (pre := [.int x2]) (rest := []) dX7_hasBoth_10 ct_7_74 rfl ((sh_S hs0)) (Nat.le_of_ble_eq_true rfl) (Nat.le_of_ble_eq_true rfl) g6 ?_
    refine r_eq0 (q := 20) dX7_hasBoth_13 rfl hf (fun hf => ?_) (fun hf => ?_)
    · refine r_iconst (v := 0) dX7_hasBoth_20 rfl ?_
      cases hf
      exact r_z0 T dX7_hasBoth_21
    · refine r_iconst (v := 1) dX7_hasBoth_16 rfl ?_
      refine r_goto (q := 21) dX7_hasBoth_17 rfl ?_
      cases hf
      exact r_z1 T dX7_hasBoth_21
def f_J6_bitCount_0f7a4 (x0 : Int32) (h : am_H) : Option (Int32) := some ((((((((x0 - ((x0.toUInt32 >>> (Int32.toUInt32 1 &&& Int32.toUInt32 31)).toInt32 &&& 1431655765)) &&& 858993459) + (((x0 - ((x0.toUInt32 >>> (Int32.toUInt32 1 &&& Int32.toUInt32 31)).toInt32 &&& 1431655765)).toUInt32 >>> (Int32.toUInt32 2 &&& Int32.toUInt32 31)).toInt32 &&& 858993459)) + ((((x0 - ((x0.toUInt32 >>> (Int32.toUInt32 1 &&& Int32.toUInt32 31)).toInt32 &&& 1431655765)) &&& 858993459) + (((x0 - ((x0.toUInt32 >>> (Int32.toUInt32 1 &&& Int32.toUInt32 31)).toInt32 &&& 1431655765)).toUInt32 >>> (Int32.toUInt32 2 &&& Int32.toUInt32 31)).toInt32 &&& 858993459)).toUInt32 >>> (Int32.toUInt32 4 &&& Int32.toUInt32 31)).toInt32) &&& 252645135) + ((((((x0 - ((x0.toUInt32 >>> (Int32.toUInt32 1 &&& Int32.toUInt32 31)).toInt32 &&& 1431655765)) &&& 858993459) + (((x0 - ((x0.toUInt32 >>> (Int32.toUInt32 1 &&& Int32.toUInt32 31)).toInt32 &&& 1431655765)).toUInt32 >>> (Int32.toUInt32 2 &&& Int32.toUInt32 31)).toInt32 &&& 858993459)) + ((((x0 - ((x0.toUInt32 >>> (Int32.toUInt32 1 &&& Int32.toUInt32 31)).toInt32 &&& 1431655765)) &&& 858993459) + (((x0 - ((x0.toUInt32 >>> (Int32.toUInt32 1 &&& Int32.toUInt32 31)).toInt32 &&& 1431655765)).toUInt32 >>> (Int32.toUInt32 2 &&& Int32.toUInt32 31)).toInt32 &&& 858993459)).toUInt32 >>> (Int32.toUInt32 4 &&& Int32.toUInt32 31)).toInt32) &&& 252645135).toUInt32 >>> (Int32.toUInt32 8 &&& Int32.toUInt32 31)).toInt32) + (((((((x0 - ((x0.toUInt32 >>> (Int32.toUInt32 1 &&& Int32.toUInt32 31)).toInt32 &&& 1431655765)) &&& 858993459) + (((x0 - ((x0.toUInt32 >>> (Int32.toUInt32 1 &&& Int32.toUInt32 31)).toInt32 &&& 1431655765)).toUInt32 >>> (Int32.toUInt32 2 &&& Int32.toUInt32 31)).toInt32 &&& 858993459)) + ((((x0 - ((x0.toUInt32 >>> (Int32.toUInt32 1 &&& Int32.toUInt32 31)).toInt32 &&& 1431655765)) &&& 858993459) + (((x0 - ((x0.toUInt32 >>> (Int32.toUInt32 1 &&& Int32.toUInt32 31)).toInt32 &&& 1431655765)).toUInt32 >>> (Int32.toUInt32 2 &&& Int32.toUInt32 31)).toInt32 &&& 858993459)).toUInt32 >>> (Int32.toUInt32 4 &&& Int32.toUInt32 31)).toInt32) &&& 252645135) + ((((((x0 - ((x0.toUInt32 >>> (Int32.toUInt32 1 &&& Int32.toUInt32 31)).toInt32 &&& 1431655765)) &&& 858993459) + (((x0 - ((x0.toUInt32 >>> (Int32.toUInt32 1 &&& Int32.toUInt32 31)).toInt32 &&& 1431655765)).toUInt32 >>> (Int32.toUInt32 2 &&& Int32.toUInt32 31)).toInt32 &&& 858993459)) + ((((x0 - ((x0.toUInt32 >>> (Int32.toUInt32 1 &&& Int32.toUInt32 31)).toInt32 &&& 1431655765)) &&& 858993459) + (((x0 - ((x0.toUInt32 >>> (Int32.toUInt32 1 &&& Int32.toUInt32 31)).toInt32 &&& 1431655765)).toUInt32 >>> (Int32.toUInt32 2 &&& Int32.toUInt32 31)).toInt32 &&& 858993459)).toUInt32 >>> (Int32.toUInt32 4 &&& Int32.toUInt32 31)).toInt32) &&& 252645135).toUInt32 >>> (Int32.toUInt32 8 &&& Int32.toUInt32 31)).toInt32).toUInt32 >>> (Int32.toUInt32 16 &&& Int32.toUInt32 31)).toInt32) &&& 63)
theorem rf_J6_bitCount_0f7a4 {X : am_X} {d : Nat} (hd : 0 ≤ d) (x0 : Int32) {h : am_H} (T : am_TP h.2.2) {r : Int32} (hf : f_J6_bitCount_0f7a4 x0 h = some r) : am_G X d 14 false cJ6_bitCount_0f7a4 (some .int) 0 [some (.int x0)] [] (am_SH, h) (some (.int r), (am_SH, h)) := by
  unfold f_J6_bitCount_0f7a4 at hf
  refine r_loc dJ6_bitCount_0f7a4_0 rfl ?_
  refine r_loc dJ6_bitCount_0f7a4_1 rfl ?_
  refine r_iconst (v := 1) dJ6_bitCount_0f7a4_2 rfl ?_
  refine r_alu dJ6_bitCount_0f7a4_3 rfl ?_
  refine r_ldcw dJ6_bitCount_0f7a4_4 k32_14_265 ?_
  refine r_alu dJ6_bitCount_0f7a4_7 rfl ?_
  refine r_alu dJ6_bitCount_0f7a4_8 rfl ?_
  refine r_loc (L' := [some (.int (x0 - ((x0.toUInt32 >>> (Int32.toUInt32 1 &&& Int32.toUInt32 31)).toInt32 &&& 1431655765)))]) dJ6_bitCount_0f7a4_9 rfl ?_
  refine r_loc dJ6_bitCount_0f7a4_10 rfl ?_
  refine r_ldcw dJ6_bitCount_0f7a4_11 k32_14_266 ?_
  refine r_alu dJ6_bitCount_0f7a4_14 rfl ?_
  refine r_loc dJ6_bitCount_0f7a4_15 rfl ?_
  refine r_iconst (v := 2) dJ6_bitCount_0f7a4_16 rfl ?_
  refine r_alu dJ6_bitCount_0f7a4_17 rfl ?_
  refine r_ldcw dJ6_bitCount_0f7a4_18 k32_14_266 ?_
  refine r_alu dJ6_bitCount_0f7a4_21 rfl ?_
  refine r_alu dJ6_bitCount_0f7a4_22 rfl ?_
  refine r_loc (L' := [some (.int (((x0 - ((x0.toUInt32 >>> (Int32.toUInt32 1 &&& Int32.toUInt32 31)).toInt32 &&& 1431655765)) &&& 858993459) + (((x0 - ((x0.toUInt32 >>> (Int32.toUInt32 1 &&& Int32.toUInt32 31)).toInt32 &&& 1431655765)).toUInt32 >>> (Int32.toUInt32 2 &&& Int32.toUInt32 31)).toInt32 &&& 858993459)))]) dJ6_bitCount_0f7a4_23 rfl ?_
  refine r_loc dJ6_bitCount_0f7a4_24 rfl ?_
  refine r_loc dJ6_bitCount_0f7a4_25 rfl ?_
  refine r_iconst (v := 4) dJ6_bitCount_0f7a4_26 rfl ?_
  refine r_alu dJ6_bitCount_0f7a4_27 rfl ?_
  refine r_alu dJ6_bitCount_0f7a4_28 rfl ?_
  refine r_ldcw dJ6_bitCount_0f7a4_29 k32_14_267 ?_
  refine r_alu dJ6_bitCount_0f7a4_32 rfl ?_
  refine r_loc (L' := [some (.int (((((x0 - ((x0.toUInt32 >>> (Int32.toUInt32 1 &&& Int32.toUInt32 31)).toInt32 &&& 1431655765)) &&& 858993459) + (((x0 - ((x0.toUInt32 >>> (Int32.toUInt32 1 &&& Int32.toUInt32 31)).toInt32 &&& 1431655765)).toUInt32 >>> (Int32.toUInt32 2 &&& Int32.toUInt32 31)).toInt32 &&& 858993459)) + ((((x0 - ((x0.toUInt32 >>> (Int32.toUInt32 1 &&& Int32.toUInt32 31)).toInt32 &&& 1431655765)) &&& 858993459) + (((x0 - ((x0.toUInt32 >>> (Int32.toUInt32 1 &&& Int32.toUInt32 31)).toInt32 &&& 1431655765)).toUInt32 >>> (Int32.toUInt32 2 &&& Int32.toUInt32 31)).toInt32 &&& 858993459)).toUInt32 >>> (Int32.toUInt32 4 &&& Int32.toUInt32 31)).toInt32) &&& 252645135))]) dJ6_bitCount_0f7a4_33 rfl ?_
  refine r_loc dJ6_bitCount_0f7a4_34 rfl ?_
  refine r_loc dJ6_bitCount_0f7a4_35 rfl ?_
  refine r_bipush (v := 8) dJ6_bitCount_0f7a4_36 rfl ?_
  refine r_alu dJ6_bitCount_0f7a4_38 rfl ?_
  refine r_alu dJ6_bitCount_0f7a4_39 rfl ?_
  refine r_loc (L' := [some (.int ((((((x0 - ((x0.toUInt32 >>> (Int32.toUInt32 1 &&& Int32.toUInt32 31)).toInt32 &&& 1431655765)) &&& 858993459) + (((x0 - ((x0.toUInt32 >>> (Int32.toUInt32 1 &&& Int32.toUInt32 31)).toInt32 &&& 1431655765)).toUInt32 >>> (Int32.toUInt32 2 &&& Int32.toUInt32 31)).toInt32 &&& 858993459)) + ((((x0 - ((x0.toUInt32 >>> (Int32.toUInt32 1 &&& Int32.toUInt32 31)).toInt32 &&& 1431655765)) &&& 858993459) + (((x0 - ((x0.toUInt32 >>> (Int32.toUInt32 1 &&& Int32.toUInt32 31)).toInt32 &&& 1431655765)).toUInt32 >>> (Int32.toUInt32 2 &&& Int32.toUInt32 31)).toInt32 &&& 858993459)).toUInt32 >>> (Int32.toUInt32 4 &&& Int32.toUInt32 31)).toInt32) &&& 252645135) + ((((((x0 - ((x0.toUInt32 >>> (Int32.toUInt32 1 &&& Int32.toUInt32 31)).toInt32 &&& 1431655765)) &&& 858993459) + (((x0 - ((x0.toUInt32 >>> (Int32.toUInt32 1 &&& Int32.toUInt32 31)).toInt32 &&& 1431655765)).toUInt32 >>> (Int32.toUInt32 2 &&& Int32.toUInt32 31)).toInt32 &&& 858993459)) + ((((x0 - ((x0.toUInt32 >>> (Int32.toUInt32 1 &&& Int32.toUInt32 31)).toInt32 &&& 1431655765)) &&& 858993459) + (((x0 - ((x0.toUInt32 >>> (Int32.toUInt32 1 &&& Int32.toUInt32 31)).toInt32 &&& 1431655765)).toUInt32 >>> (Int32.toUInt32 2 &&& Int32.toUInt32 31)).toInt32 &&& 858993459)).toUInt32 >>> (Int32.toUInt32 4 &&& Int32.toUInt32 31)).toInt32) &&& 252645135).toUInt32 >>> (Int32.toUInt32 8 &&& Int32.toUInt32 31)).toInt32))]) dJ6_bitCount_0f7a4_40 rfl ?_
  refine r_loc dJ6_bitCount_0f7a4_41 rfl ?_
  refine r_loc dJ6_bitCount_0f7a4_42 rfl ?_
  refine r_bipush (v := 16) dJ6_bitCount_0f7a4_43 rfl ?_
  refine r_alu dJ6_bitCount_0f7a4_45 rfl ?_
  refine r_alu dJ6_bitCount_0f7a4_46 rfl ?_
  refine r_loc (L' := [some (.int (((((((x0 - ((x0.toUInt32 >>> (Int32.toUInt32 1 &&& Int32.toUInt32 31)).toInt32 &&& 1431655765)) &&& 858993459) + (((x0 - ((x0.toUInt32 >>> (Int32.toUInt32 1 &&& Int32.toUInt32 31)).toInt32 &&& 1431655765)).toUInt32 >>> (Int32.toUInt32 2 &&& Int32.toUInt32 31)).toInt32 &&& 858993459)) + ((((x0 - ((x0.toUInt32 >>> (Int32.toUInt32 1 &&& Int32.toUInt32 31)).toInt32 &&& 1431655765)) &&& 858993459) + (((x0 - ((x0.toUInt32 >>> (Int32.toUInt32 1 &&& Int32.toUInt32 31)).toInt32 &&& 1431655765)).toUInt32 >>> (Int32.toUInt32 2 &&& Int32.toUInt32 31)).toInt32 &&& 858993459)).toUInt32 >>> (Int32.toUInt32 4 &&& Int32.toUInt32 31)).toInt32) &&& 252645135) + ((((((x0 - ((x0.toUInt32 >>> (Int32.toUInt32 1 &&& Int32.toUInt32 31)).toInt32 &&& 1431655765)) &&& 858993459) + (((x0 - ((x0.toUInt32 >>> (Int32.toUInt32 1 &&& Int32.toUInt32 31)).toInt32 &&& 1431655765)).toUInt32 >>> (Int32.toUInt32 2 &&& Int32.toUInt32 31)).toInt32 &&& 858993459)) + ((((x0 - ((x0.toUInt32 >>> (Int32.toUInt32 1 &&& Int32.toUInt32 31)).toInt32 &&& 1431655765)) &&& 858993459) + (((x0 - ((x0.toUInt32 >>> (Int32.toUInt32 1 &&& Int32.toUInt32 31)).toInt32 &&& 1431655765)).toUInt32 >>> (Int32.toUInt32 2 &&& Int32.toUInt32 31)).toInt32 &&& 858993459)).toUInt32 >>> (Int32.toUInt32 4 &&& Int32.toUInt32 31)).toInt32) &&& 252645135).toUInt32 >>> (Int32.toUInt32 8 &&& Int32.toUInt32 31)).toInt32) + (((((((x0 - ((x0.toUInt32 >>> (Int32.toUInt32 1 &&& Int32.toUInt32 31)).toInt32 &&& 1431655765)) &&& 858993459) + (((x0 - ((x0.toUInt32 >>> (Int32.toUInt32 1 &&& Int32.toUInt32 31)).toInt32 &&& 1431655765)).toUInt32 >>> (Int32.toUInt32 2 &&& Int32.toUInt32 31)).toInt32 &&& 858993459)) + ((((x0 - ((x0.toUInt32 >>> (Int32.toUInt32 1 &&& Int32.toUInt32 31)).toInt32 &&& 1431655765)) &&& 858993459) + (((x0 - ((x0.toUInt32 >>> (Int32.toUInt32 1 &&& Int32.toUInt32 31)).toInt32 &&& 1431655765)).toUInt32 >>> (Int32.toUInt32 2 &&& Int32.toUInt32 31)).toInt32 &&& 858993459)).toUInt32 >>> (Int32.toUInt32 4 &&& Int32.toUInt32 31)).toInt32) &&& 252645135) + ((((((x0 - ((x0.toUInt32 >>> (Int32.toUInt32 1 &&& Int32.toUInt32 31)).toInt32 &&& 1431655765)) &&& 858993459) + (((x0 - ((x0.toUInt32 >>> (Int32.toUInt32 1 &&& Int32.toUInt32 31)).toInt32 &&& 1431655765)).toUInt32 >>> (Int32.toUInt32 2 &&& Int32.toUInt32 31)).toInt32 &&& 858993459)) + ((((x0 - ((x0.toUInt32 >>> (Int32.toUInt32 1 &&& Int32.toUInt32 31)).toInt32 &&& 1431655765)) &&& 858993459) + (((x0 - ((x0.toUInt32 >>> (Int32.toUInt32 1 &&& Int32.toUInt32 31)).toInt32 &&& 1431655765)).toUInt32 >>> (Int32.toUInt32 2 &&& Int32.toUInt32 31)).toInt32 &&& 858993459)).toUInt32 >>> (Int32.toUInt32 4 &&& Int32.toUInt32 31)).toInt32) &&& 252645135).toUInt32 >>> (Int32.toUInt32 8 &&& Int32.toUInt32 31)).toInt32).toUInt32 >>> (Int32.toUInt32 16 &&& Int32.toUInt32 31)).toInt32))]) dJ6_bitCount_0f7a4_47 rfl ?_
  refine r_loc dJ6_bitCount_0f7a4_48 rfl ?_
  refine r_bipush (v := 63) dJ6_bitCount_0f7a4_49 rfl ?_
  refine r_alu dJ6_bitCount_0f7a4_51 rfl ?_
  cases hf
  exact r_ri T dJ6_bitCount_0f7a4_52
def f_X7_shared (s0 : Nat) (x1 : Int32) (x2 : Int32) (h : am_H) : Option (Int32) := cal (f_X7_hasBoth s0 x1 x2 h) fun v2 => if v2 = 0 then some 0 else rdI h (s0 + 3) 8 x1 fun v4 => rdI h (s0 + 3) 8 x2 fun v5 => cal (f_J6_bitCount_0f7a4 (v4 ^^^ v5) h) fun v7 => some ((6 : Int32) - v7)
theorem rf_X7_shared {X : am_X} {d : Nat} (hd : 2 ≤ d) (s0 : Nat) (x1 : Int32) (x2 : Int32) (hs0 : s0 ∈ am_ST) {h : am_H} (T : am_TP h.2.2) {r : Int32} (hf : f_X7_shared s0 x1 x2 h = some r) : am_G X d 7 false cX7_shared (some .int) 0 [some (.ref s0), some (.int x1), some (.int x2)] [] (am_SH, h) (some (.int r), (am_SH, h)) := by
  unfold f_X7_shared at hf
  obtain ⟨d, rfl⟩ : ∃ e, d = e + 1 := ⟨d - 1, by omega⟩
  refine r_loc dX7_shared_0 rfl ?_
  refine r_loc dX7_shared_1 rfl ?_
  refine r_loc dX7_shared_2 rfl ?_
  obtain ⟨v2, c1, hf⟩ := cal_inv hf
  have g3 := rf_X7_hasBoth (X := X) (d := d) (by omega) s0 x1 x2 hs0 T c1
  refine r_virt (pre := [.int x2, .int x1]) (rest := []) dX7_shared_3 ct_7_100 rfl ((sh_S hs0)) (Nat.le_of_ble_eq_true rfl) (Nat.le_of_ble_eq_true rfl) g3 ?_
  refine r_eq0 (q := 31) dX7_shared_6 rfl hf (fun hf => ?_) (fun hf => ?_)
  · refine r_iconst (v := 0) dX7_shared_31 rfl ?_
    cases hf
    exact r_ri T dX7_shared_32
  · refine r_bipush (v := 6) dX7_shared_9 rfl ?_
    refine r_loc dX7_shared_11 rfl ?_
    refine r_getR dX7_shared_12 fl_7_18 (sh_S hs0) (Or.inr ⟨_, rfl⟩) (tp_S_3 T hs0) ?_
    refine r_loc dX7_shared_15 rfl ?_
    refine r_iald dX7_shared_16 (sh_S_3 hs0) hf (fun v4 hf => ?_)
    refine r_loc dX7_shared_17 rfl ?_
    refine r_getR dX7_shared_18 fl_7_18 (sh_S hs0) (Or.inr ⟨_, rfl⟩) (tp_S_3 T hs0) ?_
    refine r_loc dX7_shared_21 rfl ?_
    refine r_iald dX7_shared_22 (sh_S_3 hs0) hf (fun v5 hf => ?_)
    refine r_alu dX7_shared_23 rfl ?_
    obtain ⟨v7, c6, hf⟩ := cal_inv hf
    have g8 := rf_J6_bitCount_0f7a4 (X := X) (d := d) (by omega) (v4 ^^^ v5) T c6
    refine r_stat (pre := [.int (v4 ^^^ v5)]) (rest := [.int 6]) dX7_shared_24 ct_7_82 rfl (Nat.le_of_ble_eq_true rfl) (Nat.le_of_ble_eq_true rfl) g8 ?_
    refine r_alu dX7_shared_27 rfl ?_
    refine r_goto (q := 32) dX7_shared_28 rfl ?_
    cases hf
    exact r_ri T dX7_shared_32
def lp_X7_bits_4 (s0 : Nat) (h : am_H) : Nat → Int32 → Int32 → Option (Int32)
  | 0, _, _ => none
  | n + 1, x1, x2 => if x2 < 8 then rdI h (s0 + 1) 8 x2 fun v1 => if 0 < v1 then lp_X7_bits_4 s0 h n (x1 ||| ((1 : Int32) <<< (x2 &&& 31))) (x2 + 1) else lp_X7_bits_4 s0 h n x1 (x2 + 1) else some x1
def f_X7_bits (s0 : Nat) (h : am_H) : Option (Int32) := lp_X7_bits_4 s0 h  4000 0 0
theorem rl_X7_bits_4 {X : am_X} {d : Nat} (hd : 0 ≤ d) (s0 : Nat) (hs0 : s0 ∈ am_ST) {h : am_H} (T : am_TP h.2.2) {r : Int32} : ∀ (n : Nat) (x1 : Int32) (x2 : Int32) , lp_X7_bits_4 s0 h n x1 x2 = some r → am_G X d 7 false cX7_bits (some .int) 4 [some (.ref s0), some (.int x1), some (.int x2)] [] (am_SH, h) (some (.int r), (am_SH, h)) := by
  intro n
  induction n with
  | zero => intro x1 x2 hf; cases hf
  | succ n ih =>
    intro x1 x2 hf
    rw [lp_X7_bits_4] at hf
    refine r_loc dX7_bits_4 rfl ?_
    refine r_bipush (v := 8) dX7_bits_5 rfl ?_
    refine r_ge (q := 31) dX7_bits_7 rfl hf (fun hf => ?_) (fun hf => ?_)
    · refine r_loc dX7_bits_31 rfl ?_
      cases hf
      exact r_ri T dX7_bits_32
    · refine r_loc dX7_bits_10 rfl ?_
      refine r_getR dX7_bits_11 fl_7_9 (sh_S hs0) (Or.inr ⟨_, rfl⟩) (tp_S_1 T hs0) ?_
      refine r_loc dX7_bits_14 rfl ?_
      refine r_iald dX7_bits_15 (sh_S_1 hs0) hf (fun v1 hf => ?_)
      refine r_le0 (q := 25) dX7_bits_16 rfl hf (fun hf => ?_) (fun hf => ?_)
      · refine r_loc (L' := [some (.ref s0), some (.int x1), some (.int (x2 + 1))]) dX7_bits_25 rfl ?_
        refine r_goto (q := 4) dX7_bits_28 rfl ?_
        exact ih x1 (x2 + 1) hf
      · refine r_loc dX7_bits_19 rfl ?_
        refine r_iconst (v := 1) dX7_bits_20 rfl ?_
        refine r_loc dX7_bits_21 rfl ?_
        refine r_alu dX7_bits_22 rfl ?_
        refine r_alu dX7_bits_23 rfl ?_
        refine r_loc (L' := [some (.ref s0), some (.int (x1 ||| ((1 : Int32) <<< (x2 &&& 31)))), some (.int x2)]) dX7_bits_24 rfl ?_
        refine r_loc (L' := [some (.ref s0), some (.int (x1 ||| ((1 : Int32) <<< (x2 &&& 31)))), some (.int (x2 + 1))]) dX7_bits_25 rfl ?_
        refine r_goto (q := 4) dX7_bits_28 rfl ?_
        exact ih (x1 ||| ((1 : Int32) <<< (x2 &&& 31))) (x2 + 1) hf
theorem rf_X7_bits {X : am_X} {d : Nat} (hd : 0 ≤ d) (s0 : Nat) (hs0 : s0 ∈ am_ST) {h : am_H} (T : am_TP h.2.2) {r : Int32} (hf : f_X7_bits s0 h = some r) : am_G X d 7 false cX7_bits (some .int) 0 [some (.ref s0), none, none] [] (am_SH, h) (some (.int r), (am_SH, h)) := by
  unfold f_X7_bits at hf
  refine r_iconst (v := 0) dX7_bits_0 rfl ?_
  refine r_loc (L' := [some (.ref s0), some (.int 0), none]) dX7_bits_1 rfl ?_
  refine r_iconst (v := 0) dX7_bits_2 rfl ?_
  refine r_loc (L' := [some (.ref s0), some (.int 0), some (.int 0)]) dX7_bits_3 rfl ?_
  refine rl_X7_bits_4 (by omega) s0 hs0 T  4000 0 0  hf
def f_X7_count (s0 : Nat) (h : am_H) : Option (Int32) := cal (f_X7_bits s0 h) fun v2 => cal (f_J6_bitCount_0f7a4 v2 h) fun v5 => some v5
theorem rf_X7_count {X : am_X} {d : Nat} (hd : 1 ≤ d) (s0 : Nat) (hs0 : s0 ∈ am_ST) {h : am_H} (T : am_TP h.2.2) {r : Int32} (hf : f_X7_count s0 h = some r) : am_G X d 7 false cX7_count (some .int) 0 [some (.ref s0)] [] (am_SH, h) (some (.int r), (am_SH, h)) := by
  unfold f_X7_count at hf
  obtain ⟨d, rfl⟩ : ∃ e, d = e + 1 := ⟨d - 1, by omega⟩
  refine r_loc dX7_count_0 rfl ?_
  obtain ⟨v2, c1, hf⟩ := cal_inv hf
  have g3 := rf_X7_bits (X := X) (d := d) (by omega) s0 hs0 T c1
  refine r_virt (pre := []) (rest := []) dX7_count_1 ct_7_78 rfl ((sh_S hs0)) (Nat.le_of_ble_eq_true rfl) (Nat.le_of_ble_eq_true rfl) g3 ?_
  obtain ⟨v5, c4, hf⟩ := cal_inv hf
  have g6 := rf_J6_bitCount_0f7a4 (X := X) (d := d) (by omega) v2 T c4
  refine r_stat (pre := [.int v2]) (rest := []) dX7_count_4 ct_7_82 rfl (Nat.le_of_ble_eq_true rfl) (Nat.le_of_ble_eq_true rfl) g6 ?_
  cases hf
  exact r_ri T dX7_count_7
def f_X2_join (x0 : Int32) (x1 : Int32) (x2 : Int32) (h : am_H) : Option (Int32) := if x0 = 11 then if x1 = 0 then if x2 = 0 then some 0 else some 1 else some 1 else if x0 = 12 then if x1 = 0 then some 0 else if x2 = 0 then some 0 else some 1 else if x0 = 21 then if x1 < x2 then some 1 else some 0 else if x0 = 22 then if x2 < x1 then some 1 else some 0 else if x0 = 23 then if x1 = x2 then some 1 else some 0 else if x0 = 24 then some (x1 + x2) else if x0 = 25 then some (x1 - x2) else if x0 = 26 then some (x1 * x2) else if x0 = 27 then if x2 = 0 then some 0 else dvI x2 (some (x1 / x2)) else if x0 = 28 then if x2 = 0 then some 0 else dvI x2 (some (x1 - x1 / x2 * x2)) else some 0
theorem rf_X2_join {X : am_X} {d : Nat} (hd : 0 ≤ d) (x0 : Int32) (x1 : Int32) (x2 : Int32) {h : am_H} (T : am_TP h.2.2) {r : Int32} (hf : f_X2_join x0 x1 x2 h = some r) : am_G X d 2 false cX2_join (some .int) 0 [some (.int x0), some (.int x1), some (.int x2)] [] (am_SH, h) (some (.int r), (am_SH, h)) := by
  unfold f_X2_join at hf
  refine r_loc dX2_join_0 rfl ?_
  refine r_swc (x := x0) (v := 11) (off := 87) (q := 88) dX2_join_1 rfl rfl hf (fun hf => ?_) (fun n11 hf => ?_)
  · refine r_loc dX2_join_88 rfl ?_
    refine r_ne0 (q := 96) dX2_join_89 rfl hf (fun hf => ?_) (fun hf => ?_)
    · refine r_iconst (v := 1) dX2_join_96 rfl ?_
      refine r_goto (q := 101) dX2_join_97 rfl ?_
      cases hf
      exact r_ri T dX2_join_101
    · refine r_loc dX2_join_92 rfl ?_
      refine r_eq0 (q := 100) dX2_join_93 rfl hf (fun hf => ?_) (fun hf => ?_)
      · refine r_iconst (v := 0) dX2_join_100 rfl ?_
        cases hf
        exact r_ri T dX2_join_101
      · refine r_iconst (v := 1) dX2_join_96 rfl ?_
        refine r_goto (q := 101) dX2_join_97 rfl ?_
        cases hf
        exact r_ri T dX2_join_101
  refine r_swc (x := x0) (v := 12) (off := 101) (q := 102) dX2_join_1 rfl rfl hf (fun hf => ?_) (fun n12 hf => ?_)
  · refine r_loc dX2_join_102 rfl ?_
    refine r_eq0 (q := 114) dX2_join_103 rfl hf (fun hf => ?_) (fun hf => ?_)
    · refine r_iconst (v := 0) dX2_join_114 rfl ?_
      cases hf
      exact r_ri T dX2_join_115
    · refine r_loc dX2_join_106 rfl ?_
      refine r_eq0 (q := 114) dX2_join_107 rfl hf (fun hf => ?_) (fun hf => ?_)
      · refine r_iconst (v := 0) dX2_join_114 rfl ?_
        cases hf
        exact r_ri T dX2_join_115
      · refine r_iconst (v := 1) dX2_join_110 rfl ?_
        refine r_goto (q := 115) dX2_join_111 rfl ?_
        cases hf
        exact r_ri T dX2_join_115
  refine r_swc (x := x0) (v := 21) (off := 115) (q := 116) dX2_join_1 rfl rfl hf (fun hf => ?_) (fun n21 hf => ?_)
  · refine r_loc dX2_join_116 rfl ?_
    refine r_loc dX2_join_117 rfl ?_
    refine r_ge (q := 125) dX2_join_118 rfl hf (fun hf => ?_) (fun hf => ?_)
    · refine r_iconst (v := 0) dX2_join_125 rfl ?_
      cases hf
      exact r_ri T dX2_join_126
    · refine r_iconst (v := 1) dX2_join_121 rfl ?_
      refine r_goto (q := 126) dX2_join_122 rfl ?_
      cases hf
      exact r_ri T dX2_join_126
  refine r_swc (x := x0) (v := 22) (off := 126) (q := 127) dX2_join_1 rfl rfl hf (fun hf => ?_) (fun n22 hf => ?_)
  · refine r_loc dX2_join_127 rfl ?_
    refine r_loc dX2_join_128 rfl ?_
    refine r_le (q := 136) dX2_join_129 rfl hf (fun hf => ?_) (fun hf => ?_)
    · refine r_iconst (v := 0) dX2_join_136 rfl ?_
      cases hf
      exact r_ri T dX2_join_137
    · refine r_iconst (v := 1) dX2_join_132 rfl ?_
      refine r_goto (q := 137) dX2_join_133 rfl ?_
      cases hf
      exact r_ri T dX2_join_137
  refine r_swc (x := x0) (v := 23) (off := 137) (q := 138) dX2_join_1 rfl rfl hf (fun hf => ?_) (fun n23 hf => ?_)
  · refine r_loc dX2_join_138 rfl ?_
    refine r_loc dX2_join_139 rfl ?_
    refine r_ne (q := 147) dX2_join_140 rfl hf (fun hf => ?_) (fun hf => ?_)
    · refine r_iconst (v := 0) dX2_join_147 rfl ?_
      cases hf
      exact r_ri T dX2_join_148
    · refine r_iconst (v := 1) dX2_join_143 rfl ?_
      refine r_goto (q := 148) dX2_join_144 rfl ?_
      cases hf
      exact r_ri T dX2_join_148
  refine r_swc (x := x0) (v := 24) (off := 148) (q := 149) dX2_join_1 rfl rfl hf (fun hf => ?_) (fun n24 hf => ?_)
  · refine r_loc dX2_join_149 rfl ?_
    refine r_loc dX2_join_150 rfl ?_
    refine r_alu dX2_join_151 rfl ?_
    cases hf
    exact r_ri T dX2_join_152
  refine r_swc (x := x0) (v := 25) (off := 152) (q := 153) dX2_join_1 rfl rfl hf (fun hf => ?_) (fun n25 hf => ?_)
  · refine r_loc dX2_join_153 rfl ?_
    refine r_loc dX2_join_154 rfl ?_
    refine r_alu dX2_join_155 rfl ?_
    cases hf
    exact r_ri T dX2_join_156
  refine r_swc (x := x0) (v := 26) (off := 156) (q := 157) dX2_join_1 rfl rfl hf (fun hf => ?_) (fun n26 hf => ?_)
  · refine r_loc dX2_join_157 rfl ?_
    refine r_loc dX2_join_158 rfl ?_
    refine r_alu dX2_join_159 rfl ?_
    cases hf
    exact r_ri T dX2_join_160
  refine r_swc (x := x0) (v := 27) (off := 160) (q := 161) dX2_join_1 rfl rfl hf (fun hf => ?_) (fun n27 hf => ?_)
  · refine r_loc dX2_join_161 rfl ?_
    refine r_ne0 (q := 169) dX2_join_162 rfl hf (fun hf => ?_) (fun hf => ?_)
    · refine r_loc dX2_join_169 rfl ?_
      refine r_loc dX2_join_170 rfl ?_
      refine r_div dX2_join_171 hf (fun hf => ?_)
      cases hf
      exact r_ri T dX2_join_172
    · refine r_iconst (v := 0) dX2_join_165 rfl ?_
      refine r_goto (q := 172) dX2_join_166 rfl ?_
      cases hf
      exact r_ri T dX2_join_172
  refine r_swc (x := x0) (v := 28) (off := 172) (q := 173) dX2_join_1 rfl rfl hf (fun hf => ?_) (fun n28 hf => ?_)
  · refine r_loc dX2_join_173 rfl ?_
    refine r_ne0 (q := 181) dX2_join_174 rfl hf (fun hf => ?_) (fun hf => ?_)
    · refine r_loc dX2_join_181 rfl ?_
      refine r_loc dX2_join_182 rfl ?_
      refine r_rem dX2_join_183 hf (fun hf => ?_)
      cases hf
      exact r_ri T dX2_join_184
    · refine r_iconst (v := 0) dX2_join_177 rfl ?_
      refine r_goto (q := 184) dX2_join_178 rfl ?_
      cases hf
      exact r_ri T dX2_join_184
  refine r_swdt (q := 185) dX2_join_1 (by decide) ⟨Or.inr n11, Or.inr n12, Or.inl rfl, Or.inl rfl, Or.inl rfl, Or.inl rfl, Or.inl rfl, Or.inl rfl, Or.inl rfl, Or.inl rfl, Or.inr n21, Or.inr n22, Or.inr n23, Or.inr n24, Or.inr n25, Or.inr n26, Or.inr n27, Or.inr n28, trivial⟩ rfl ?_
  refine r_iconst (v := 0) dX2_join_185 rfl ?_
  cases hf
  exact r_ri T dX2_join_186
