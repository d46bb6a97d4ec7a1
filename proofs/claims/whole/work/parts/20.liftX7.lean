def jn_X7_remove_85 (k_62 : Int32 → am_H → Option (am_H)) (s0 : Nat) (x1 : Int32) (x2 : Int32) (h : am_H) : Option (am_H) := rdI h (s0 + 7) 8 x2 fun v23 => if v23 = x1 then wrI h (s0 + 7) 8 x2 (-1) fun h24 => k_62 (x2 + 1) h24 else k_62 (x2 + 1) h
def lp_X7_remove_62 (s0 : Nat) (p1 : Int32) (k_108 : am_H → Option (am_H)) : Nat → Int32 → am_H → Option (am_H)
  | 0, _, _ => none
  | n + 1, x2, h => if x2 < 8 then rdI h (s0 + 6) 8 x2 fun v22 => if v22 = p1 then wrI h (s0 + 6) 8 x2 (-1) fun h27 => jn_X7_remove_85 (lp_X7_remove_62 s0 p1 k_108 n) s0 p1 x2 h27 else jn_X7_remove_85 (lp_X7_remove_62 s0 p1 k_108 n) s0 p1 x2 h else k_108  h
def f_X7_remove (s0 : Nat) (x1 : Int32) (h : am_H) : Option (am_H) := if x1 < 0 then some h else if x1 < 8 then wrI h (s0 + 1) 8 x1 0 fun h1 => wrI h1 (s0 + 2) 8 x1 (-1) fun h4 => wrI h4 (s0 + 3) 8 x1 0 fun h7 => wrI h7 (s0 + 4) 8 x1 0 fun h10 => wrI h10 (s0 + 5) 8 x1 0 fun h13 => wrI h13 (s0 + 6) 8 x1 (-1) fun h16 => wrI h16 (s0 + 7) 8 x1 (-1) fun h19 => lp_X7_remove_62 s0 x1 (fun h30 => some h30) 4000 0 h19 else some h
theorem rj_X7_remove_85 {X : am_X} {d : Nat} (hd : 0 ≤ d) (k_62 : Int32 → am_H → Option (am_H)) (s0 : Nat) (x1 : Int32) (x2 : Int32) (hs0 : s0 ∈ am_ST) {h : am_H} (T : am_TP h.2.2) {r : am_H} (hk_62 : ∀ (x2 : Int32) (h : am_H), am_TP h.2.2 → k_62 x2 h = some r → am_G X d 7 false cX7_remove none 62 [some (.ref s0), some (.int x1), some (.int x2)] [] (am_SH, h) (none, (am_SH, r))) (hf : jn_X7_remove_85 k_62 s0 x1 x2 h = some r) : am_G X d 7 false cX7_remove none 85 [some (.ref s0), some (.int x1), some (.int x2)] [] (am_SH, h) (none, (am_SH, r)) := by
  unfold jn_X7_remove_85 at hf
  refine r_loc dX7_remove_85 rfl ?_
  refine r_getR dX7_remove_86 fl_7_30 (sh_S hs0) (Or.inr ⟨_, rfl⟩) (tp_S_7 T hs0) ?_
  refine r_loc dX7_remove_89 rfl ?_
  refine r_iald dX7_remove_90 (sh_S_7 hs0) hf (fun v23 hf => ?_)
  refine r_loc dX7_remove_91 rfl ?_
  refine r_ne (q := 102) dX7_remove_92 rfl hf (fun hf => ?_) (fun hf => ?_)
  · refine r_loc (L' := [some (.ref s0), some (.int x1), some (.int (x2 + 1))]) dX7_remove_102 rfl ?_
    refine r_goto (q := 62) dX7_remove_105 rfl ?_
    exact hk_62 (x2 + 1) h T hf
  · refine r_loc dX7_remove_95 rfl ?_
    refine r_getR dX7_remove_96 fl_7_30 (sh_S hs0) (Or.inr ⟨_, rfl⟩) (tp_S_7 T hs0) ?_
    refine r_loc dX7_remove_99 rfl ?_
    refine r_iconst (v := (-1)) dX7_remove_100 rfl ?_
    refine r_iast dX7_remove_101 (sh_S_7 hs0) hf (fun h24 e26 hf => ?_)
    have T25 := tp_eq e26 T
    refine r_loc (L' := [some (.ref s0), some (.int x1), some (.int (x2 + 1))]) dX7_remove_102 rfl ?_
    refine r_goto (q := 62) dX7_remove_105 rfl ?_
    exact hk_62 (x2 + 1) h24 T25 hf
theorem rl_X7_remove_62 {X : am_X} {d : Nat} (hd : 0 ≤ d) (s0 : Nat) (p1 : Int32) (hs0 : s0 ∈ am_ST) (k_108 : am_H → Option (am_H)) {r : am_H} (hk_108 : ∀ (h : am_H), am_TP h.2.2 → k_108  h = some r → am_G X d 7 false cX7_remove none 108 [none, none, none] [] (am_SH, h) (none, (am_SH, r))) : ∀ (n : Nat) (x2 : Int32) (h : am_H), am_TP h.2.2 → lp_X7_remove_62 s0 p1 k_108 n x2 h = some r → am_G X d 7 false cX7_remove none 62 [some (.ref s0), some (.int p1), some (.int x2)] [] (am_SH, h) (none, (am_SH, r)) := by
  intro n
  induction n with
  | zero => intro x2 h T hf; cases hf
  | succ n ih =>
    intro x2 h T hf
    rw [lp_X7_remove_62] at hf
    refine r_loc dX7_remove_62 rfl ?_
    refine r_bipush (v := 8) dX7_remove_63 rfl ?_
    refine r_ge (q := 108) dX7_remove_65 rfl hf (fun hf => ?_) (fun hf => ?_)
    · refine r_weak (L := [none, none, none]) (am_le_n (am_le_n (am_le_n am_le_0))) ?_
      exact hk_108  h T hf
    · refine r_loc dX7_remove_68 rfl ?_
      refine r_getR dX7_remove_69 fl_7_27 (sh_S hs0) (Or.inr ⟨_, rfl⟩) (tp_S_6 T hs0) ?_
      refine r_loc dX7_remove_72 rfl ?_
      refine r_iald dX7_remove_73 (sh_S_6 hs0) hf (fun v22 hf => ?_)
      refine r_loc dX7_remove_74 rfl ?_
      refine r_ne (q := 85) dX7_remove_75 rfl hf (fun hf => ?_) (fun hf => ?_)
      · exact rj_X7_remove_85 (by omega) (lp_X7_remove_62 s0 p1 k_108 n) s0 p1 x2 hs0 T (ih) hf
      · refine r_loc dX7_remove_78 rfl ?_
        refine r_getR dX7_remove_79 fl_7_27 (sh_S hs0) (Or.inr ⟨_, rfl⟩) (tp_S_6 T hs0) ?_
        refine r_loc dX7_remove_82 rfl ?_
        refine r_iconst (v := (-1)) dX7_remove_83 rfl ?_
        refine r_iast dX7_remove_84 (sh_S_6 hs0) hf (fun h27 e29 hf => ?_)
        have T28 := tp_eq e29 T
        exact rj_X7_remove_85 (by omega) (lp_X7_remove_62 s0 p1 k_108 n) s0 p1 x2 hs0 T28 (ih) hf
theorem rf_X7_remove {X : am_X} {d : Nat} (hd : 0 ≤ d) (s0 : Nat) (x1 : Int32) (hs0 : s0 ∈ am_ST) {h : am_H} (T : am_TP h.2.2) {r : am_H} (hf : f_X7_remove s0 x1 h = some r) : am_G X d 7 false cX7_remove none 0 [some (.ref s0), some (.int x1), none] [] (am_SH, h) (none, (am_SH, r)) := by
  unfold f_X7_remove at hf
  refine r_loc dX7_remove_0 rfl ?_
  refine r_lt0 (q := 10) dX7_remove_1 rfl hf (fun hf => ?_) (fun hf => ?_)
  · cases hf
    exact r_ret T dX7_remove_10 rfl
  · refine r_loc dX7_remove_4 rfl ?_
    refine r_bipush (v := 8) dX7_remove_5 rfl ?_
    refine r_lt (q := 11) dX7_remove_7 rfl hf (fun hf => ?_) (fun hf => ?_)
    · refine r_loc dX7_remove_11 rfl ?_
      refine r_getR dX7_remove_12 fl_7_9 (sh_S hs0) (Or.inr ⟨_, rfl⟩) (tp_S_1 T hs0) ?_
      refine r_loc dX7_remove_15 rfl ?_
      refine r_iconst (v := 0) dX7_remove_16 rfl ?_
      refine r_iast dX7_remove_17 (sh_S_1 hs0) hf (fun h1 e3 hf => ?_)
      have T2 := tp_eq e3 T
      refine r_loc dX7_remove_18 rfl ?_
      refine r_getR dX7_remove_19 fl_7_15 (sh_S hs0) (Or.inr ⟨_, rfl⟩) (tp_S_2 T2 hs0) ?_
      refine r_loc dX7_remove_22 rfl ?_
      refine r_iconst (v := (-1)) dX7_remove_23 rfl ?_
      refine r_iast dX7_remove_24 (sh_S_2 hs0) hf (fun h4 e6 hf => ?_)
      have T5 := tp_eq e6 T2
      refine r_loc dX7_remove_25 rfl ?_
      refine r_getR dX7_remove_26 fl_7_18 (sh_S hs0) (Or.inr ⟨_, rfl⟩) (tp_S_3 T5 hs0) ?_
      refine r_loc dX7_remove_29 rfl ?_
      refine r_iconst (v := 0) dX7_remove_30 rfl ?_
      refine r_iast dX7_remove_31 (sh_S_3 hs0) hf (fun h7 e9 hf => ?_)
      have T8 := tp_eq e9 T5
      refine r_loc dX7_remove_32 rfl ?_
      refine r_getR dX7_remove_33 fl_7_21 (sh_S hs0) (Or.inr ⟨_, rfl⟩) (tp_S_4 T8 hs0) ?_
      refine r_loc dX7_remove_36 rfl ?_
      refine r_iconst (v := 0) dX7_remove_37 rfl ?_
      refine r_iast dX7_remove_38 (sh_S_4 hs0) hf (fun h10 e12 hf => ?_)
      have T11 := tp_eq e12 T8
      refine r_loc dX7_remove_39 rfl ?_
      refine r_getR dX7_remove_40 fl_7_24 (sh_S hs0) (Or.inr ⟨_, rfl⟩) (tp_S_5 T11 hs0) ?_
      refine r_loc dX7_remove_43 rfl ?_
      refine r_iconst (v := 0) dX7_remove_44 rfl ?_
      refine r_iast dX7_remove_45 (sh_S_5 hs0) hf (fun h13 e15 hf => ?_)
      have T14 := tp_eq e15 T11
      refine r_loc dX7_remove_46 rfl ?_
      refine r_getR dX7_remove_47 fl_7_27 (sh_S hs0) (Or.inr ⟨_, rfl⟩) (tp_S_6 T14 hs0) ?_
      refine r_loc dX7_remove_50 rfl ?_
      refine r_iconst (v := (-1)) dX7_remove_51 rfl ?_
      refine r_iast dX7_remove_52 (sh_S_6 hs0) hf (fun h16 e18 hf => ?_)
      have T17 := tp_eq e18 T14
      refine r_loc dX7_remove_53 rfl ?_
      refine r_getR dX7_remove_54 fl_7_30 (sh_S hs0) (Or.inr ⟨_, rfl⟩) (tp_S_7 T17 hs0) ?_
      refine r_loc dX7_remove_57 rfl ?_
      refine r_iconst (v := (-1)) dX7_remove_58 rfl ?_
      refine r_iast dX7_remove_59 (sh_S_7 hs0) hf (fun h19 e21 hf => ?_)
      have T20 := tp_eq e21 T17
      refine r_iconst (v := 0) dX7_remove_60 rfl ?_
      refine r_loc (L' := [some (.ref s0), some (.int x1), some (.int 0)]) dX7_remove_61 rfl ?_
      refine rl_X7_remove_62 (by omega) s0 x1 hs0 _ ?_ 4000 0 h19 T20 hf
      · intro h30 T31 hf
        cases hf
        exact r_ret T31 dX7_remove_108 rfl
    · cases hf
      exact r_ret T dX7_remove_10 rfl
def f_X7_add (s0 : Nat) (x1 : Int32) (x2 : Int32) (x3 : Int32) (x4 : Int32) (h : am_H) : Option (am_H) := if x1 < 0 then some h else if x1 < 8 then wrI h (s0 + 1) 8 x1 x2 fun h1 => wrI h1 (s0 + 2) 8 x1 x3 fun h4 => wrI h4 (s0 + 3) 8 x1 x4 fun h7 => some h7 else some h
theorem rf_X7_add {X : am_X} {d : Nat} (hd : 0 ≤ d) (s0 : Nat) (x1 : Int32) (x2 : Int32) (x3 : Int32) (x4 : Int32) (hs0 : s0 ∈ am_ST) {h : am_H} (T : am_TP h.2.2) {r : am_H} (hf : f_X7_add s0 x1 x2 x3 x4 h = some r) : am_G X d 7 false cX7_add none 0 [some (.ref s0), some (.int x1), some (.int x2), some (.int x3), some (.int x4)] [] (am_SH, h) (none, (am_SH, r)) := by
  unfold f_X7_add at hf
  refine r_loc dX7_add_0 rfl ?_
  refine r_lt0 (q := 32) dX7_add_1 rfl hf (fun hf => ?_) (fun hf => ?_)
  · cases hf
    exact r_ret T dX7_add_32 rfl
  · refine r_loc dX7_add_4 rfl ?_
    refine r_bipush (v := 8) dX7_add_5 rfl ?_
    refine r_ge (q := 32) dX7_add_7 rfl hf (fun hf => ?_) (fun hf => ?_)
    · cases hf
      exact r_ret T dX7_add_32 rfl
    · refine r_loc dX7_add_10 rfl ?_
      refine r_getR dX7_add_11 fl_7_9 (sh_S hs0) (Or.inr ⟨_, rfl⟩) (tp_S_1 T hs0) ?_
      refine r_loc dX7_add_14 rfl ?_
      refine r_loc dX7_add_15 rfl ?_
      refine r_iast dX7_add_16 (sh_S_1 hs0) hf (fun h1 e3 hf => ?_)
      have T2 := tp_eq e3 T
      refine r_loc dX7_add_17 rfl ?_
      refine r_getR dX7_add_18 fl_7_15 (sh_S hs0) (Or.inr ⟨_, rfl⟩) (tp_S_2 T2 hs0) ?_
      refine r_loc dX7_add_21 rfl ?_
      refine r_loc dX7_add_22 rfl ?_
      refine r_iast dX7_add_23 (sh_S_2 hs0) hf (fun h4 e6 hf => ?_)
      have T5 := tp_eq e6 T2
      refine r_loc dX7_add_24 rfl ?_
      refine r_getR dX7_add_25 fl_7_18 (sh_S hs0) (Or.inr ⟨_, rfl⟩) (tp_S_3 T5 hs0) ?_
      refine r_loc dX7_add_28 rfl ?_
      refine r_loc dX7_add_29 rfl ?_
      refine r_iast dX7_add_31 (sh_S_3 hs0) hf (fun h7 e9 hf => ?_)
      have T8 := tp_eq e9 T5
      cases hf
      exact r_ret T8 dX7_add_32 rfl
def lp_X7_standAsTold_2 (s0 : Nat) (k_19 : am_H → Option (am_H)) : Nat → Int32 → am_H → Option (am_H)
  | 0, _, _ => none
  | n + 1, x1, h => if x1 < 8 then cal (f_X7_remove s0 x1 h) fun h2 => lp_X7_standAsTold_2 s0 k_19 n (x1 + 1) h2 else k_19  h
def lp_X7_standAsTold_21 (s0 : Nat) (k_91 : am_H → Option (am_H)) : Nat → Int32 → am_H → Option (am_H)
  | 0, _, _ => none
  | n + 1, x1, h => bnd (h.1 4 7) fun v7 => if x1 < v7 then if x1 < 6 then rdI h 6 6 x1 fun v8 => rdI h 7 6 x1 fun v9 => rdI h 8 6 x1 fun v10 => cal (f_X7_add s0 x1 v8 v9 v10 h) fun h12 => rdI h12 9 6 x1 fun v15 => wrI h12 (s0 + 4) 8 x1 v15 fun h16 => lp_X7_standAsTold_21 s0 k_91 n (x1 + 1) h16 else k_91  h else k_91  h
def jn_X7_standAsTold_91 (s0 : Nat) (h : am_H) : Option (am_H) := bnd (h.1 4 9) fun v21 => ptI h s0 8 v21 fun h22 => ptI h22 s0 9 0 fun h25 => bnd (h25.1 4 10) fun v28 => ptI h25 s0 10 v28 fun h29 => some h29
def f_X7_standAsTold (s0 : Nat) (h : am_H) : Option (am_H) := lp_X7_standAsTold_2 s0 (fun h5 => lp_X7_standAsTold_21 s0 (fun h19 => jn_X7_standAsTold_91 s0 h19) 4000 0 h5) 4000 0 h
theorem rl_X7_standAsTold_2 {X : am_X} {d : Nat} (hd : 1 ≤ d) (s0 : Nat) (hs0 : s0 ∈ am_ST) (k_19 : am_H → Option (am_H)) {r : am_H} (hk_19 : ∀ (h : am_H), am_TP h.2.2 → k_19  h = some r → am_G X d 7 false cX7_standAsTold none 19 [some (.ref s0), none] [] (am_SH, h) (none, (am_SH, r))) : ∀ (n : Nat) (x1 : Int32) (h : am_H), am_TP h.2.2 → lp_X7_standAsTold_2 s0 k_19 n x1 h = some r → am_G X d 7 false cX7_standAsTold none 2 [some (.ref s0), some (.int x1)] [] (am_SH, h) (none, (am_SH, r)) := by
  obtain ⟨d, rfl⟩ : ∃ e, d = e + 1 := ⟨d - 1, by omega⟩
  intro n
  induction n with
  | zero => intro x1 h T hf; cases hf
  | succ n ih =>
    intro x1 h T hf
    rw [lp_X7_standAsTold_2] at hf
    refine r_loc dX7_standAsTold_2 rfl ?_
    refine r_bipush (v := 8) dX7_standAsTold_3 rfl ?_
    refine r_ge (q := 19) dX7_standAsTold_5 rfl hf (fun hf => ?_) (fun hf => ?_)
    · refine r_weak (L := [some (.ref s0), none]) (am_le_s (am_le_n am_le_0)) ?_
      exact hk_19  h T hf
    · refine r_loc dX7_standAsTold_8 rfl ?_
      refine r_loc dX7_standAsTold_9 rfl ?_
      obtain ⟨h2, c1, hf⟩ := cal_inv hf
      have g4 := rf_X7_remove (X := X) (d := d) (by omega) s0 x1 hs0 T c1
      have T3 : am_TP h2.2.2 := g4.2
      refine r_virt (pre := [.int x1]) (rest := []) dX7_standAsTold_10 ct_7_47 rfl ((sh_S hs0)) (Nat.le_of_ble_eq_true rfl) (Nat.le_of_ble_eq_true rfl) g4 ?_
      refine r_loc (L' := [some (.ref s0), some (.int (x1 + 1))]) dX7_standAsTold_13 rfl ?_
      refine r_goto (q := 2) dX7_standAsTold_16 rfl ?_
      exact ih (x1 + 1) h2 T3 hf
theorem rl_X7_standAsTold_21 {X : am_X} {d : Nat} (hd : 1 ≤ d) (s0 : Nat) (hs0 : s0 ∈ am_ST) (k_91 : am_H → Option (am_H)) {r : am_H} (hk_91 : ∀ (h : am_H), am_TP h.2.2 → k_91  h = some r → am_G X d 7 false cX7_standAsTold none 91 [some (.ref s0), none] [] (am_SH, h) (none, (am_SH, r))) : ∀ (n : Nat) (x1 : Int32) (h : am_H), am_TP h.2.2 → lp_X7_standAsTold_21 s0 k_91 n x1 h = some r → am_G X d 7 false cX7_standAsTold none 21 [some (.ref s0), some (.int x1)] [] (am_SH, h) (none, (am_SH, r)) := by
  obtain ⟨d, rfl⟩ : ∃ e, d = e + 1 := ⟨d - 1, by omega⟩
  intro n
  induction n with
  | zero => intro x1 h T hf; cases hf
  | succ n ih =>
    intro x1 h T hf
    rw [lp_X7_standAsTold_21] at hf
    refine r_loc dX7_standAsTold_21 rfl ?_
    refine r_loc dX7_standAsTold_22 rfl ?_
    refine r_getR dX7_standAsTold_23 fl_7_43 (sh_S hs0) (Or.inl ⟨_, rfl⟩) (tp_S_0 T hs0) ?_
    refine r_getI dX7_standAsTold_26 fl_7_51 sh_4 rfl hf (fun v7 hf => ?_)
    refine r_ge (q := 91) dX7_standAsTold_29 rfl hf (fun hf => ?_) (fun hf => ?_)
    · refine r_weak (L := [some (.ref s0), none]) (am_le_s (am_le_n am_le_0)) ?_
      exact hk_91  h T hf
    · refine r_loc dX7_standAsTold_32 rfl ?_
      refine r_bipush (v := 6) dX7_standAsTold_33 rfl ?_
      refine r_ge (q := 91) dX7_standAsTold_35 rfl hf (fun hf => ?_) (fun hf => ?_)
      · refine r_weak (L := [some (.ref s0), none]) (am_le_s (am_le_n am_le_0)) ?_
        exact hk_91  h T hf
      · refine r_loc dX7_standAsTold_38 rfl ?_
        refine r_loc dX7_standAsTold_39 rfl ?_
        refine r_loc dX7_standAsTold_40 rfl ?_
        refine r_getR dX7_standAsTold_41 fl_7_43 (sh_S hs0) (Or.inl ⟨_, rfl⟩) (tp_S_0 T hs0) ?_
        refine r_getR dX7_standAsTold_44 fl_7_56 sh_4 (Or.inr ⟨_, rfl⟩) (tp_4_1 T) ?_
        refine r_loc dX7_standAsTold_47 rfl ?_
        refine r_iald dX7_standAsTold_48 sh_6 hf (fun v8 hf => ?_)
        refine r_loc dX7_standAsTold_49 rfl ?_
        refine r_getR dX7_standAsTold_50 fl_7_43 (sh_S hs0) (Or.inl ⟨_, rfl⟩) (tp_S_0 T hs0) ?_
        refine r_getR dX7_standAsTold_53 fl_7_57 sh_4 (Or.inr ⟨_, rfl⟩) (tp_4_2 T) ?_
        refine r_loc dX7_standAsTold_56 rfl ?_
        refine r_iald dX7_standAsTold_57 sh_7 hf (fun v9 hf => ?_)
        refine r_loc dX7_standAsTold_58 rfl ?_
        refine r_getR dX7_standAsTold_59 fl_7_43 (sh_S hs0) (Or.inl ⟨_, rfl⟩) (tp_S_0 T hs0) ?_
        refine r_getR dX7_standAsTold_62 fl_7_58 sh_4 (Or.inr ⟨_, rfl⟩) (tp_4_3 T) ?_
        refine r_loc dX7_standAsTold_65 rfl ?_
        refine r_iald dX7_standAsTold_66 sh_8 hf (fun v10 hf => ?_)
        obtain ⟨h12, c11, hf⟩ := cal_inv hf
        have g14 := rf_X7_add (X := X) (d := d) (by omega) s0 x1 v8 v9 v10 hs0 T c11
        have T13 : am_TP h12.2.2 := g14.2
        refine r_virt (pre := [.int v10, .int v9, .int v8, .int x1]) (rest := []) dX7_standAsTold_67 ct_7_59 rfl ((sh_S hs0)) (Nat.le_of_ble_eq_true rfl) (Nat.le_of_ble_eq_true rfl) g14 ?_
        refine r_loc dX7_standAsTold_70 rfl ?_
        refine r_getR dX7_standAsTold_71 fl_7_21 (sh_S hs0) (Or.inr ⟨_, rfl⟩) (tp_S_4 T13 hs0) ?_
        refine r_loc dX7_standAsTold_74 rfl ?_
        refine r_loc dX7_standAsTold_75 rfl ?_
        refine r_getR dX7_standAsTold_76 fl_7_43 (sh_S hs0) (Or.inl ⟨_, rfl⟩) (tp_S_0 T13 hs0) ?_
        refine r_getR dX7_standAsTold_79 fl_7_63 sh_4 (Or.inr ⟨_, rfl⟩) (tp_4_4 T13) ?_
        refine r_loc dX7_standAsTold_82 rfl ?_
        refine r_iald dX7_standAsTold_83 sh_9 hf (fun v15 hf => ?_)
        refine r_iast dX7_standAsTold_84 (sh_S_4 hs0) hf (fun h16 e18 hf => ?_)
        have T17 := tp_eq e18 T13
        refine r_loc (L' := [some (.ref s0), some (.int (x1 + 1))]) dX7_standAsTold_85 rfl ?_
        refine r_goto (q := 21) dX7_standAsTold_88 rfl ?_
        exact ih (x1 + 1) h16 T17 hf
theorem rj_X7_standAsTold_91 {X : am_X} {d : Nat} (hd : 1 ≤ d) (s0 : Nat) (hs0 : s0 ∈ am_ST) {h : am_H} (T : am_TP h.2.2) {r : am_H} (hf : jn_X7_standAsTold_91 s0 h = some r) : am_G X d 7 false cX7_standAsTold none 91 [some (.ref s0), none] [] (am_SH, h) (none, (am_SH, r)) := by
  obtain ⟨d, rfl⟩ : ∃ e, d = e + 1 := ⟨d - 1, by omega⟩
  unfold jn_X7_standAsTold_91 at hf
  refine r_loc dX7_standAsTold_91 rfl ?_
  refine r_loc dX7_standAsTold_92 rfl ?_
  refine r_getR dX7_standAsTold_93 fl_7_43 (sh_S hs0) (Or.inl ⟨_, rfl⟩) (tp_S_0 T hs0) ?_
  refine r_getI dX7_standAsTold_96 fl_7_64 sh_4 rfl hf (fun v21 hf => ?_)
  refine r_putI dX7_standAsTold_99 fl_7_33 (sh_S hs0) ⟨rfl, rfl⟩ hf (fun h22 e24 hf => ?_)
  have T23 := tp_eq e24 T
  refine r_loc dX7_standAsTold_102 rfl ?_
  refine r_iconst (v := 0) dX7_standAsTold_103 rfl ?_
  refine r_putI dX7_standAsTold_104 fl_7_37 (sh_S hs0) ⟨rfl, rfl⟩ hf (fun h25 e27 hf => ?_)
  have T26 := tp_eq e27 T23
  refine r_loc dX7_standAsTold_107 rfl ?_
  refine r_loc dX7_standAsTold_108 rfl ?_
  refine r_getR dX7_standAsTold_109 fl_7_43 (sh_S hs0) (Or.inl ⟨_, rfl⟩) (tp_S_0 T26 hs0) ?_
  refine r_getI dX7_standAsTold_112 fl_7_65 sh_4 rfl hf (fun v28 hf => ?_)
  refine r_putI dX7_standAsTold_115 fl_7_40 (sh_S hs0) ⟨rfl, rfl⟩ hf (fun h29 e31 hf => ?_)
  have T30 := tp_eq e31 T26
  cases hf
  exact r_ret T30 dX7_standAsTold_118 rfl
theorem rf_X7_standAsTold {X : am_X} {d : Nat} (hd : 1 ≤ d) (s0 : Nat) (hs0 : s0 ∈ am_ST) {h : am_H} (T : am_TP h.2.2) {r : am_H} (hf : f_X7_standAsTold s0 h = some r) : am_G X d 7 false cX7_standAsTold none 0 [some (.ref s0), none] [] (am_SH, h) (none, (am_SH, r)) := by
  unfold f_X7_standAsTold at hf
  obtain ⟨d, rfl⟩ : ∃ e, d = e + 1 := ⟨d - 1, by omega⟩
  refine r_iconst (v := 0) dX7_standAsTold_0 rfl ?_
  refine r_loc (L' := [some (.ref s0), some (.int 0)]) dX7_standAsTold_1 rfl ?_
  refine rl_X7_standAsTold_2 (by omega) s0 hs0 _ ?_ 4000 0 h T hf
  · intro h5 T6 hf
    refine r_iconst (v := 0) dX7_standAsTold_19 rfl ?_
    refine r_loc (L' := [some (.ref s0), some (.int 0)]) dX7_standAsTold_20 rfl ?_
    refine rl_X7_standAsTold_21 (by omega) s0 hs0 _ ?_ 4000 0 h5 T6 hf
    · intro h19 T20 hf
      exact rj_X7_standAsTold_91 (by omega) s0 hs0 T20 hf
def f_X7_copyFrom (s0 : Nat) (s1 : Nat) (h : am_H) : Option (am_H) := cpI h (s1 + 1) 8 0 (s0 + 1) 8 0 8 fun h1 => cpI h1 (s1 + 2) 8 0 (s0 + 2) 8 0 8 fun h4 => cpI h4 (s1 + 3) 8 0 (s0 + 3) 8 0 8 fun h7 => cpI h7 (s1 + 4) 8 0 (s0 + 4) 8 0 8 fun h10 => cpI h10 (s1 + 5) 8 0 (s0 + 5) 8 0 8 fun h13 => cpI h13 (s1 + 6) 8 0 (s0 + 6) 8 0 8 fun h16 => cpI h16 (s1 + 7) 8 0 (s0 + 7) 8 0 8 fun h19 => bnd (h19.1 s1 8) fun v22 => ptI h19 s0 8 v22 fun h23 => bnd (h23.1 s1 9) fun v26 => ptI h23 s0 9 v26 fun h27 => bnd (h27.1 s1 10) fun v30 => ptI h27 s0 10 v30 fun h31 => some h31
theorem rf_X7_copyFrom {X : am_X} {d : Nat} (hd : 1 ≤ d) (s0 : Nat) (s1 : Nat) (hs0 : s0 ∈ am_ST) (hs1 : s1 ∈ am_ST) {h : am_H} (T : am_TP h.2.2) {r : am_H} (hf : f_X7_copyFrom s0 s1 h = some r) : am_G X d 7 false cX7_copyFrom none 0 [some (.ref s0), some (.ref s1)] [] (am_SH, h) (none, (am_SH, r)) := by
  unfold f_X7_copyFrom at hf
  obtain ⟨d, rfl⟩ : ∃ e, d = e + 1 := ⟨d - 1, by omega⟩
  refine r_loc dX7_copyFrom_0 rfl ?_
  refine r_getR dX7_copyFrom_1 fl_7_9 (sh_S hs1) (Or.inr ⟨_, rfl⟩) (tp_S_1 T hs1) ?_
  refine r_iconst (v := 0) dX7_copyFrom_4 rfl ?_
  refine r_loc dX7_copyFrom_5 rfl ?_
  refine r_getR dX7_copyFrom_6 fl_7_9 (sh_S hs0) (Or.inr ⟨_, rfl⟩) (tp_S_1 T hs0) ?_
  refine r_iconst (v := 0) dX7_copyFrom_9 rfl ?_
  refine r_bipush (v := 8) dX7_copyFrom_10 rfl ?_
  refine r_cpy dX7_copyFrom_12 ct_7_68 (Nat.le_of_ble_eq_true rfl) (sh_S_1 hs1) (sh_S_1 hs0) hf (fun h1 e3 hf => ?_)
  have T2 := tp_eq e3 T
  refine r_loc dX7_copyFrom_15 rfl ?_
  refine r_getR dX7_copyFrom_16 fl_7_15 (sh_S hs1) (Or.inr ⟨_, rfl⟩) (tp_S_2 T2 hs1) ?_
  refine r_iconst (v := 0) dX7_copyFrom_19 rfl ?_
  refine r_loc dX7_copyFrom_20 rfl ?_
  refine r_getR dX7_copyFrom_21 fl_7_15 (sh_S hs0) (Or.inr ⟨_, rfl⟩) (tp_S_2 T2 hs0) ?_
  refine r_iconst (v := 0) dX7_copyFrom_24 rfl ?_
  refine r_bipush (v := 8) dX7_copyFrom_25 rfl ?_
  refine r_cpy dX7_copyFrom_27 ct_7_68 (Nat.le_of_ble_eq_true rfl) (sh_S_2 hs1) (sh_S_2 hs0) hf (fun h4 e6 hf => ?_)
  have T5 := tp_eq e6 T2
  refine r_loc dX7_copyFrom_30 rfl ?_
  refine r_getR dX7_copyFrom_31 fl_7_18 (sh_S hs1) (Or.inr ⟨_, rfl⟩) (tp_S_3 T5 hs1) ?_
  refine r_iconst (v := 0) dX7_copyFrom_34 rfl ?_
  refine r_loc dX7_copyFrom_35 rfl ?_
  refine r_getR dX7_copyFrom_36 fl_7_18 (sh_S hs0) (Or.inr ⟨_, rfl⟩) (tp_S_3 T5 hs0) ?_
  refine r_iconst (v := 0) dX7_copyFrom_39 rfl ?_
  refine r_bipush (v := 8) dX7_copyFrom_40 rfl ?_
  refine r_cpy dX7_copyFrom_42 ct_7_68 (Nat.le_of_ble_eq_true rfl) (sh_S_3 hs1) (sh_S_3 hs0) hf (fun h7 e9 hf => ?_)
  have T8 := tp_eq e9 T5
  refine r_loc dX7_copyFrom_45 rfl ?_
  refine r_getR dX7_copyFrom_46 fl_7_21 (sh_S hs1) (Or.inr ⟨_, rfl⟩) (tp_S_4 T8 hs1) ?_
  refine r_iconst (v := 0) dX7_copyFrom_49 rfl ?_
  refine r_loc dX7_copyFrom_50 rfl ?_
  refine r_getR dX7_copyFrom_51 fl_7_21 (sh_S hs0) (Or.inr ⟨_, rfl⟩) (tp_S_4 T8 hs0) ?_
  refine r_iconst (v := 0) dX7_copyFrom_54 rfl ?_
  refine r_bipush (v := 8) dX7_copyFrom_55 rfl ?_
  refine r_cpy dX7_copyFrom_57 ct_7_68 (Nat.le_of_ble_eq_true rfl) (sh_S_4 hs1) (sh_S_4 hs0) hf (fun h10 e12 hf => ?_)
  have T11 := tp_eq e12 T8
  refine r_loc dX7_copyFrom_60 rfl ?_
  refine r_getR dX7_copyFrom_61 fl_7_24 (sh_S hs1) (Or.inr ⟨_, rfl⟩) (tp_S_5 T11 hs1) ?_
  refine r_iconst (v := 0) dX7_copyFrom_64 rfl ?_
  refine r_loc dX7_copyFrom_65 rfl ?_
  refine r_getR dX7_copyFrom_66 fl_7_24 (sh_S hs0) (Or.inr ⟨_, rfl⟩) (tp_S_5 T11 hs0) ?_
  refine r_iconst (v := 0) dX7_copyFrom_69 rfl ?_
  refine r_bipush (v := 8) dX7_copyFrom_70 rfl ?_
  refine r_cpy dX7_copyFrom_72 ct_7_68 (Nat.le_of_ble_eq_true rfl) (sh_S_5 hs1) (sh_S_5 hs0) hf (fun h13 e15 hf => ?_)
  have T14 := tp_eq e15 T11
  refine r_loc dX7_copyFrom_75 rfl ?_
  refine r_getR dX7_copyFrom_76 fl_7_27 (sh_S hs1) (Or.inr ⟨_, rfl⟩) (tp_S_6 T14 hs1) ?_
  refine r_iconst (v := 0) dX7_copyFrom_79 rfl ?_
  refine r_loc dX7_copyFrom_80 rfl ?_
  refine r_getR dX7_copyFrom_81 fl_7_27 (sh_S hs0) (Or.inr ⟨_, rfl⟩) (tp_S_6 T14 hs0) ?_
  refine r_iconst (v := 0) dX7_copyFrom_84 rfl ?_
  refine r_bipush (v := 8) dX7_copyFrom_85 rfl ?_
  refine r_cpy dX7_copyFrom_87 ct_7_68 (Nat.le_of_ble_eq_true rfl) (sh_S_6 hs1) (sh_S_6 hs0) hf (fun h16 e18 hf => ?_)
  have T17 := tp_eq e18 T14
  refine r_loc dX7_copyFrom_90 rfl ?_
  refine r_getR dX7_copyFrom_91 fl_7_30 (sh_S hs1) (Or.inr ⟨_, rfl⟩) (tp_S_7 T17 hs1) ?_
  refine r_iconst (v := 0) dX7_copyFrom_94 rfl ?_
  refine r_loc dX7_copyFrom_95 rfl ?_
  refine r_getR dX7_copyFrom_96 fl_7_30 (sh_S hs0) (Or.inr ⟨_, rfl⟩) (tp_S_7 T17 hs0) ?_
  refine r_iconst (v := 0) dX7_copyFrom_99 rfl ?_
  refine r_bipush (v := 8) dX7_copyFrom_100 rfl ?_
  refine r_cpy dX7_copyFrom_102 ct_7_68 (Nat.le_of_ble_eq_true rfl) (sh_S_7 hs1) (sh_S_7 hs0) hf (fun h19 e21 hf => ?_)
  have T20 := tp_eq e21 T17
  refine r_loc dX7_copyFrom_105 rfl ?_
  refine r_loc dX7_copyFrom_106 rfl ?_
  refine r_getI dX7_copyFrom_107 fl_7_33 (sh_S hs1) rfl hf (fun v22 hf => ?_)
  refine r_putI dX7_copyFrom_110 fl_7_33 (sh_S hs0) ⟨rfl, rfl⟩ hf (fun h23 e25 hf => ?_)
  have T24 := tp_eq e25 T20
  refine r_loc dX7_copyFrom_113 rfl ?_
  refine r_loc dX7_copyFrom_114 rfl ?_
  refine r_getI dX7_copyFrom_115 fl_7_37 (sh_S hs1) rfl hf (fun v26 hf => ?_)
  refine r_putI dX7_copyFrom_118 fl_7_37 (sh_S hs0) ⟨rfl, rfl⟩ hf (fun h27 e29 hf => ?_)
  have T28 := tp_eq e29 T24
  refine r_loc dX7_copyFrom_121 rfl ?_
  refine r_loc dX7_copyFrom_122 rfl ?_
  refine r_getI dX7_copyFrom_123 fl_7_40 (sh_S hs1) rfl hf (fun v30 hf => ?_)
  refine r_putI dX7_copyFrom_126 fl_7_40 (sh_S hs0) ⟨rfl, rfl⟩ hf (fun h31 e33 hf => ?_)
  have T32 := tp_eq e33 T28
  cases hf
  exact r_ret T32 dX7_copyFrom_129 rfl
def f_X4_hasRoom_4 (x1 : Int32) (h : am_H) : Option (Int32) := if x1 < 0 then some 0 else bnd (h.1 4 6) fun v1 => if x1 < v1 then if x1 < 4 then some 1 else some 0 else some 0
theorem rf_X4_hasRoom_4 {X : am_X} {d : Nat} (hd : 0 ≤ d) (x1 : Int32) {h : am_H} (T : am_TP h.2.2) {r : Int32} (hf : f_X4_hasRoom_4 x1 h = some r) : am_G X d 4 false cX4_hasRoom (some .boolean) 0 [some (.ref 4), some (.int x1)] [] (am_SH, h) (some (.int r), (am_SH, h)) := by
  unfold f_X4_hasRoom_4 at hf
  refine r_loc dX4_hasRoom_0 rfl ?_
  refine r_lt0 (q := 21) dX4_hasRoom_1 rfl hf (fun hf => ?_) (fun hf => ?_)
  · refine r_iconst (v := 0) dX4_hasRoom_21 rfl ?_
    cases hf
    exact r_z0 T dX4_hasRoom_22
  · refine r_loc dX4_hasRoom_4 rfl ?_
    refine r_loc dX4_hasRoom_5 rfl ?_
    refine r_getI dX4_hasRoom_6 fl_4_34 sh_4 rfl hf (fun v1 hf => ?_)
    refine r_ge (q := 21) dX4_hasRoom_9 rfl hf (fun hf => ?_) (fun hf => ?_)
    · refine r_iconst (v := 0) dX4_hasRoom_21 rfl ?_
      cases hf
      exact r_z0 T dX4_hasRoom_22
    · refine r_loc dX4_hasRoom_12 rfl ?_
      refine r_iconst (v := 4) dX4_hasRoom_13 rfl ?_
      refine r_ge (q := 21) dX4_hasRoom_14 rfl hf (fun hf => ?_) (fun hf => ?_)
      · refine r_iconst (v := 0) dX4_hasRoom_21 rfl ?_
        cases hf
        exact r_z0 T dX4_hasRoom_22
      · refine r_iconst (v := 1) dX4_hasRoom_17 rfl ?_
        refine r_goto (q := 22) dX4_hasRoom_18 rfl ?_
        cases hf
        exact r_z1 T dX4_hasRoom_22
def lp_X7_bitsIn_4 (s0 : Nat) (p1 : Int32) (h : am_H) (k_41 : Int32 → Option (Int32)) : Nat → Int32 → Int32 → Option (Int32)
  | 0, _, _ => none
  | n + 1, x2, x3 => if x3 < 8 then rdI h (s0 + 1) 8 x3 fun v1 => if 0 < v1 then rdI h (s0 + 2) 8 x3 fun v2 => if v2 = p1 then lp_X7_bitsIn_4 s0 p1 h k_41 n (x2 ||| (1 <<< (x3 &&& 31))) (x3 + 1) else lp_X7_bitsIn_4 s0 p1 h k_41 n x2 (x3 + 1) else lp_X7_bitsIn_4 s0 p1 h k_41 n x2 (x3 + 1) else k_41 x2
def f_X7_bitsIn (s0 : Nat) (x1 : Int32) (h : am_H) : Option (Int32) := lp_X7_bitsIn_4 s0 x1 h (fun z3 => some z3) 4000 0 0
theorem rl_X7_bitsIn_4 {X : am_X} {d : Nat} (hd : 0 ≤ d) (s0 : Nat) (p1 : Int32) (hs0 : s0 ∈ am_ST) {h : am_H} (T : am_TP h.2.2) (k_41 : Int32 → Option (Int32)) {r : Int32} (hk_41 : ∀ (z2 : Int32) , k_41 z2 = some r → am_G X d 7 false cX7_bitsIn (some .int) 41 [none, none, some (.int z2), none] [] (am_SH, h) (some (.int r), (am_SH, h))) : ∀ (n : Nat) (x2 : Int32) (x3 : Int32) , lp_X7_bitsIn_4 s0 p1 h k_41 n x2 x3 = some r → am_G X d 7 false cX7_bitsIn (some .int) 4 [some (.ref s0), some (.int p1), some (.int x2), some (.int x3)] [] (am_SH, h) (some (.int r), (am_SH, h)) := by
  intro n
  induction n with
  | zero => intro x2 x3 hf; cases hf
  | succ n ih =>
    intro x2 x3 hf
    rw [lp_X7_bitsIn_4] at hf
    refine r_loc dX7_bitsIn_4 rfl ?_
    refine r_bipush (v := 8) dX7_bitsIn_5 rfl ?_
    refine r_ge (q := 41) dX7_bitsIn_7 rfl hf (fun hf => ?_) (fun hf => ?_)
    · refine r_weak (L := [none, none, some (.int x2), none]) (am_le_n (am_le_n (am_le_s (am_le_n am_le_0)))) ?_
      exact hk_41 x2 hf
    · refine r_loc dX7_bitsIn_10 rfl ?_
      refine r_getR dX7_bitsIn_11 fl_7_9 (sh_S hs0) (Or.inr ⟨_, rfl⟩) (tp_S_1 T hs0) ?_
      refine r_loc dX7_bitsIn_14 rfl ?_
      refine r_iald dX7_bitsIn_15 (sh_S_1 hs0) hf (fun v1 hf => ?_)
      refine r_le0 (q := 35) dX7_bitsIn_16 rfl hf (fun hf => ?_) (fun hf => ?_)
      · refine r_loc (L' := [some (.ref s0), some (.int p1), some (.int x2), some (.int (x3 + 1))]) dX7_bitsIn_35 rfl ?_
        refine r_goto (q := 4) dX7_bitsIn_38 rfl ?_
        exact ih x2 (x3 + 1) hf
      · refine r_loc dX7_bitsIn_19 rfl ?_
        refine r_getR dX7_bitsIn_20 fl_7_15 (sh_S hs0) (Or.inr ⟨_, rfl⟩) (tp_S_2 T hs0) ?_
        refine r_loc dX7_bitsIn_23 rfl ?_
        refine r_iald dX7_bitsIn_24 (sh_S_2 hs0) hf (fun v2 hf => ?_)
        refine r_loc dX7_bitsIn_25 rfl ?_
        refine r_ne (q := 35) dX7_bitsIn_26 rfl hf (fun hf => ?_) (fun hf => ?_)
        · refine r_loc (L' := [some (.ref s0), some (.int p1), some (.int x2), some (.int (x3 + 1))]) dX7_bitsIn_35 rfl ?_
          refine r_goto (q := 4) dX7_bitsIn_38 rfl ?_
          exact ih x2 (x3 + 1) hf
        · refine r_loc dX7_bitsIn_29 rfl ?_
          refine r_iconst (v := 1) dX7_bitsIn_30 rfl ?_
          refine r_loc dX7_bitsIn_31 rfl ?_
          refine r_alu dX7_bitsIn_32 rfl ?_
          refine r_alu dX7_bitsIn_33 rfl ?_
          refine r_loc (L' := [some (.ref s0), some (.int p1), some (.int (x2 ||| (1 <<< (x3 &&& 31)))), some (.int x3)]) dX7_bitsIn_34 rfl ?_
          refine r_loc (L' := [some (.ref s0), some (.int p1), some (.int (x2 ||| (1 <<< (x3 &&& 31)))), some (.int (x3 + 1))]) dX7_bitsIn_35 rfl ?_
          refine r_goto (q := 4) dX7_bitsIn_38 rfl ?_
          exact ih (x2 ||| (1 <<< (x3 &&& 31))) (x3 + 1) hf
theorem rf_X7_bitsIn {X : am_X} {d : Nat} (hd : 0 ≤ d) (s0 : Nat) (x1 : Int32) (hs0 : s0 ∈ am_ST) {h : am_H} (T : am_TP h.2.2) {r : Int32} (hf : f_X7_bitsIn s0 x1 h = some r) : am_G X d 7 false cX7_bitsIn (some .int) 0 [some (.ref s0), some (.int x1), none, none] [] (am_SH, h) (some (.int r), (am_SH, h)) := by
  unfold f_X7_bitsIn at hf
  refine r_iconst (v := 0) dX7_bitsIn_0 rfl ?_
  refine r_loc (L' := [some (.ref s0), some (.int x1), some (.int 0), none]) dX7_bitsIn_1 rfl ?_
  refine r_iconst (v := 0) dX7_bitsIn_2 rfl ?_
  refine r_loc (L' := [some (.ref s0), some (.int x1), some (.int 0), some (.int 0)]) dX7_bitsIn_3 rfl ?_
  refine rl_X7_bitsIn_4 (by omega) s0 x1 hs0 T _ ?_ 4000 0 0  hf
  · intro z3 hf
    refine r_loc dX7_bitsIn_41 rfl ?_
    cases hf
    exact r_ret T dX7_bitsIn_42 rfl
def lp_X7_bulkOf_4 (s0 : Nat) (p1 : Int32) (h : am_H) (k_33 : Int32 → Option (Int32)) : Nat → Int32 → Int32 → Option (Int32)
  | 0, _, _ => none
  | n + 1, x2, x3 => if x3 < 8 then if ((p1 >>> (x3 &&& 31)) &&& 1) = 0 then lp_X7_bulkOf_4 s0 p1 h k_33 n x2 (x3 + 1) else rdI h (s0 + 1) 8 x3 fun v1 => lp_X7_bulkOf_4 s0 p1 h k_33 n (x2 + v1) (x3 + 1) else k_33 x2
def f_X7_bulkOf (s0 : Nat) (x1 : Int32) (h : am_H) : Option (Int32) := lp_X7_bulkOf_4 s0 x1 h (fun z2 => some z2) 4000 0 0
theorem rl_X7_bulkOf_4 {X : am_X} {d : Nat} (hd : 0 ≤ d) (s0 : Nat) (p1 : Int32) (hs0 : s0 ∈ am_ST) {h : am_H} (T : am_TP h.2.2) (k_33 : Int32 → Option (Int32)) {r : Int32} (hk_33 : ∀ (z2 : Int32) , k_33 z2 = some r → am_G X d 7 false cX7_bulkOf (some .int) 33 [none, none, some (.int z2), none] [] (am_SH, h) (some (.int r), (am_SH, h))) : ∀ (n : Nat) (x2 : Int32) (x3 : Int32) , lp_X7_bulkOf_4 s0 p1 h k_33 n x2 x3 = some r → am_G X d 7 false cX7_bulkOf (some .int) 4 [some (.ref s0), some (.int p1), some (.int x2), some (.int x3)] [] (am_SH, h) (some (.int r), (am_SH, h)) := by
  intro n
  induction n with
  | zero => intro x2 x3 hf; cases hf
  | succ n ih =>
    intro x2 x3 hf
    rw [lp_X7_bulkOf_4] at hf
    refine r_loc dX7_bulkOf_4 rfl ?_
    refine r_bipush (v := 8) dX7_bulkOf_5 rfl ?_
    refine r_ge (q := 33) dX7_bulkOf_7 rfl hf (fun hf => ?_) (fun hf => ?_)
    · refine r_weak (L := [none, none, some (.int x2), none]) (am_le_n (am_le_n (am_le_s (am_le_n am_le_0)))) ?_
      exact hk_33 x2 hf
    · refine r_loc dX7_bulkOf_10 rfl ?_
      refine r_loc dX7_bulkOf_11 rfl ?_
      refine r_alu dX7_bulkOf_12 rfl ?_
      refine r_iconst (v := 1) dX7_bulkOf_13 rfl ?_
      refine r_alu dX7_bulkOf_14 rfl ?_
      refine r_eq0 (q := 27) dX7_bulkOf_15 rfl hf (fun hf => ?_) (fun hf => ?_)
      · refine r_loc (L' := [some (.ref s0), some (.int p1), some (.int x2), some (.int (x3 + 1))]) dX7_bulkOf_27 rfl ?_
        refine r_goto (q := 4) dX7_bulkOf_30 rfl ?_
        exact ih x2 (x3 + 1) hf
      · refine r_loc dX7_bulkOf_18 rfl ?_
        refine r_loc dX7_bulkOf_19 rfl ?_
        refine r_getR dX7_bulkOf_20 fl_7_9 (sh_S hs0) (Or.inr ⟨_, rfl⟩) (tp_S_1 T hs0) ?_
        refine r_loc dX7_bulkOf_23 rfl ?_
        refine r_iald dX7_bulkOf_24 (sh_S_1 hs0) hf (fun v1 hf => ?_)
        refine r_alu dX7_bulkOf_25 rfl ?_
        refine r_loc (L' := [some (.ref s0), some (.int p1), some (.int (x2 + v1)), some (.int x3)]) dX7_bulkOf_26 rfl ?_
        refine r_loc (L' := [some (.ref s0), some (.int p1), some (.int (x2 + v1)), some (.int (x3 + 1))]) dX7_bulkOf_27 rfl ?_
        refine r_goto (q := 4) dX7_bulkOf_30 rfl ?_
        exact ih (x2 + v1) (x3 + 1) hf
theorem rf_X7_bulkOf {X : am_X} {d : Nat} (hd : 0 ≤ d) (s0 : Nat) (x1 : Int32) (hs0 : s0 ∈ am_ST) {h : am_H} (T : am_TP h.2.2) {r : Int32} (hf : f_X7_bulkOf s0 x1 h = some r) : am_G X d 7 false cX7_bulkOf (some .int) 0 [some (.ref s0), some (.int x1), none, none] [] (am_SH, h) (some (.int r), (am_SH, h)) := by
  unfold f_X7_bulkOf at hf
  refine r_iconst (v := 0) dX7_bulkOf_0 rfl ?_
  refine r_loc (L' := [some (.ref s0), some (.int x1), some (.int 0), none]) dX7_bulkOf_1 rfl ?_
  refine r_iconst (v := 0) dX7_bulkOf_2 rfl ?_
  refine r_loc (L' := [some (.ref s0), some (.int x1), some (.int 0), some (.int 0)]) dX7_bulkOf_3 rfl ?_
  refine rl_X7_bulkOf_4 (by omega) s0 x1 hs0 T _ ?_ 4000 0 0  hf
  · intro z2 hf
    refine r_loc dX7_bulkOf_33 rfl ?_
    cases hf
    exact r_ret T dX7_bulkOf_34 rfl
def f_X7_leftIn (s0 : Nat) (x1 : Int32) (h : am_H) : Option (Int32) := cal (f_X4_hasRoom_4 x1 h) fun v2 => if v2 = 0 then some 0 else rdI h 5 4 x1 fun v4 => cal (f_X7_bitsIn s0 x1 h) fun v6 => cal (f_X7_bulkOf s0 v6 h) fun v9 => some (v4 - v9)
theorem rf_X7_leftIn {X : am_X} {d : Nat} (hd : 1 ≤ d) (s0 : Nat) (x1 : Int32) (hs0 : s0 ∈ am_ST) {h : am_H} (T : am_TP h.2.2) {r : Int32} (hf : f_X7_leftIn s0 x1 h = some r) : am_G X d 7 false cX7_leftIn (some .int) 0 [some (.ref s0), some (.int x1)] [] (am_SH, h) (some (.int r), (am_SH, h)) := by
  unfold f_X7_leftIn at hf
  obtain ⟨d, rfl⟩ : ∃ e, d = e + 1 := ⟨d - 1, by omega⟩
  refine r_loc dX7_leftIn_0 rfl ?_
  refine r_getR dX7_leftIn_1 fl_7_43 (sh_S hs0) (Or.inl ⟨_, rfl⟩) (tp_S_0 T hs0) ?_
  refine r_loc dX7_leftIn_4 rfl ?_
  obtain ⟨v2, c1, hf⟩ := cal_inv hf
  have g3 := rf_X4_hasRoom_4 (X := X) (d := d) (by omega) x1 T c1
  refine r_virt (pre := [.int x1]) (rest := []) dX7_leftIn_5 ct_7_88 rfl (sh_4) (Nat.le_of_ble_eq_true rfl) (Nat.le_of_ble_eq_true rfl) g3 ?_
  refine r_eq0 (q := 33) dX7_leftIn_8 rfl hf (fun hf => ?_) (fun hf => ?_)
  · refine r_iconst (v := 0) dX7_leftIn_33 rfl ?_
    cases hf
    exact r_ret T dX7_leftIn_34 rfl
  · refine r_loc dX7_leftIn_11 rfl ?_
    refine r_getR dX7_leftIn_12 fl_7_43 (sh_S hs0) (Or.inl ⟨_, rfl⟩) (tp_S_0 T hs0) ?_
    refine r_getR dX7_leftIn_15 fl_7_91 sh_4 (Or.inr ⟨_, rfl⟩) (tp_4_0 T) ?_
    refine r_loc dX7_leftIn_18 rfl ?_
    refine r_iald dX7_leftIn_19 sh_5 hf (fun v4 hf => ?_)
    refine r_loc dX7_leftIn_20 rfl ?_
    refine r_loc dX7_leftIn_21 rfl ?_
    refine r_loc dX7_leftIn_22 rfl ?_
    obtain ⟨v6, c5, hf⟩ := cal_inv hf
    have g7 := rf_X7_bitsIn (X := X) (d := d) (by omega) s0 x1 hs0 T c5
    refine r_virt (pre := [.int x1]) (rest := [.ref s0, .int v4]) dX7_leftIn_23 ct_7_94 rfl ((sh_S hs0)) (Nat.le_of_ble_eq_true rfl) (Nat.le_of_ble_eq_true rfl) g7 ?_
    obtain ⟨v9, c8, hf⟩ := cal_inv hf
    have g10 := rf_X7_bulkOf (X := X) (d := d) (by omega) s0 v6 hs0 T c8
    refine r_virt (pre := [.int v6]) (rest := [.int v4]) dX7_leftIn_26 ct_7_97 rfl ((sh_S hs0)) (Nat.le_of_ble_eq_true rfl) (Nat.le_of_ble_eq_true rfl) g10 ?_
    refine r_alu dX7_leftIn_29 rfl ?_
    refine r_goto (q := 34) dX7_leftIn_30 rfl ?_
    cases hf
    exact r_ret T dX7_leftIn_34 rfl
def f_X7_has (s0 : Nat) (x1 : Int32) (h : am_H) : Option (Int32) := if x1 < 0 then some 0 else if x1 < 8 then rdI h (s0 + 1) 8 x1 fun v1 => if 0 < v1 then some 1 else some 0 else some 0
theorem rf_X7_has {X : am_X} {d : Nat} (hd : 0 ≤ d) (s0 : Nat) (x1 : Int32) (hs0 : s0 ∈ am_ST) {h : am_H} (T : am_TP h.2.2) {r : Int32} (hf : f_X7_has s0 x1 h = some r) : am_G X d 7 false cX7_has (some .boolean) 0 [some (.ref s0), some (.int x1)] [] (am_SH, h) (some (.int r), (am_SH, h)) := by
  unfold f_X7_has at hf
  refine r_loc dX7_has_0 rfl ?_
  refine r_lt0 (q := 23) dX7_has_1 rfl hf (fun hf => ?_) (fun hf => ?_)
  · refine r_iconst (v := 0) dX7_has_23 rfl ?_
    cases hf
    exact r_z0 T dX7_has_24
  · refine r_loc dX7_has_4 rfl ?_
    refine r_bipush (v := 8) dX7_has_5 rfl ?_
    refine r_ge (q := 23) dX7_has_7 rfl hf (fun hf => ?_) (fun hf => ?_)
    · refine r_iconst (v := 0) dX7_has_23 rfl ?_
      cases hf
      exact r_z0 T dX7_has_24
    · refine r_loc dX7_has_10 rfl ?_
      refine r_getR dX7_has_11 fl_7_9 (sh_S hs0) (Or.inr ⟨_, rfl⟩) (tp_S_1 T hs0) ?_
      refine r_loc dX7_has_14 rfl ?_
      refine r_iald dX7_has_15 (sh_S_1 hs0) hf (fun v1 hf => ?_)
      refine r_le0 (q := 23) dX7_has_16 rfl hf (fun hf => ?_) (fun hf => ?_)
      · refine r_iconst (v := 0) dX7_has_23 rfl ?_
        cases hf
        exact r_z0 T dX7_has_24
      · refine r_iconst (v := 1) dX7_has_19 rfl ?_
        refine r_goto (q := 24) dX7_has_20 rfl ?_
        cases hf
        exact r_z1 T dX7_has_24
def f_X7_hasBoth (s0 : Nat) (x1 : Int32) (x2 : Int32) (h : am_H) : Option (Int32) := cal (f_X7_has s0 x1 h) fun v2 => if v2 = 0 then some 0 else cal (f_X7_has s0 x2 h) fun v5 => if v5 = 0 then some 0 else some 1
theorem rf_X7_hasBoth {X : am_X} {d : Nat} (hd : 1 ≤ d) (s0 : Nat) (x1 : Int32) (x2 : Int32) (hs0 : s0 ∈ am_ST) {h : am_H} (T : am_TP h.2.2) {r : Int32} (hf : f_X7_hasBoth s0 x1 x2 h = some r) : am_G X d 7 false cX7_hasBoth (some .boolean) 0 [some (.ref s0), some (.int x1), some (.int x2)] [] (am_SH, h) (some (.int r), (am_SH, h)) := by
  unfold f_X7_hasBoth at hf
  obtain ⟨d, rfl⟩ : ∃ e, d = e + 1 := ⟨d - 1, by omega⟩
  refine r_loc dX7_hasBoth_0 rfl ?_
  refine r_loc dX7_hasBoth_1 rfl ?_
  obtain ⟨v2, c1, hf⟩ := cal_inv hf
  have g3 := rf_X7_has (X := X) (d := d) (by omega) s0 x1 hs0 T c1
  refine r_virt (pre := [.int x1]) (rest := []) dX7_hasBoth_2 ct_7_74 rfl ((sh_S hs0)) (Nat.le_of_ble_eq_true rfl) (Nat.le_of_ble_eq_true rfl) g3 ?_
  refine r_eq0 (q := 20) dX7_hasBoth_5 rfl hf (fun hf => ?_) (fun hf => ?_)
  · refine r_iconst (v := 0) dX7_hasBoth_20 rfl ?_
    cases hf
    exact r_z0 T dX7_hasBoth_21
  · refine r_loc dX7_hasBoth_8 rfl ?_
    refine r_loc dX7_hasBoth_9 rfl ?_
    obtain ⟨v5, c4, hf⟩ := cal_inv hf
    have g6 := rf_X7_has (X := X) (d := d) (by omega) s0 x2 hs0 T c4
    refine r_virt (pre := [.int x2]) (rest := []) dX7_hasBoth_10 ct_7_74 rfl ((sh_S hs0)) (Nat.le_of_ble_eq_true rfl) (Nat.le_of_ble_eq_true rfl) g6 ?_
    refine r_eq0 (q := 20) dX7_hasBoth_13 rfl hf (fun hf => ?_) (fun hf => ?_)
    · refine r_iconst (v := 0) dX7_hasBoth_20 rfl ?_
      cases hf
      exact r_z0 T dX7_hasBoth_21
    · refine r_iconst (v := 1) dX7_hasBoth_16 rfl ?_
      refine r_goto (q := 21) dX7_hasBoth_17 rfl ?_
      cases hf
      exact r_z1 T dX7_hasBoth_21
def f_J6_bitCount_0f7a4 (x0 : Int32) (h : am_H) : Option (Int32) := some ((((((((x0 - ((x0.toUInt32 >>> (Int32.toUInt32 1 &&& Int32.toUInt32 31)).toInt32 &&& 1431655765)) &&& 858993459) + (((x0 - ((x0.toUInt32 >>> (Int32.toUInt32 1 &&& Int32.toUInt32 31)).toInt32 &&& 1431655765)).toUInt32 >>> (Int32.toUInt32 2 &&& Int32.toUInt32 31)).toInt32 &&& 858993459)) + ((((x0 - ((x0.toUInt32 >>> (Int32.toUInt32 1 &&& Int32.toUInt32 31)).toInt32 &&& 1431655765)) &&& 858993459) + (((x0 - ((x0.toUInt32 >>> (Int32.toUInt32 1 &&& Int32.toUInt32 31)).toInt32 &&& 1431655765)).toUInt32 >>> (Int32.toUInt32 2 &&& Int32.toUInt32 31)).toInt32 &&& 858993459)).toUInt32 >>> (Int32.toUInt32 4 &&& Int32.toUInt32 31)).toInt32) &&& 252645135) + ((((((x0 - ((x0.toUInt32 >>> (Int32.toUInt32 1 &&& Int32.toUInt32 31)).toInt32 &&& 1431655765)) &&& 858993459) + (((x0 - ((x0.toUInt32 >>> (Int32.toUInt32 1 &&& Int32.toUInt32 31)).toInt32 &&& 1431655765)).toUInt32 >>> (Int32.toUInt32 2 &&& Int32.toUInt32 31)).toInt32 &&& 858993459)) + ((((x0 - ((x0.toUInt32 >>> (Int32.toUInt32 1 &&& Int32.toUInt32 31)).toInt32 &&& 1431655765)) &&& 858993459) + (((x0 - ((x0.toUInt32 >>> (Int32.toUInt32 1 &&& Int32.toUInt32 31)).toInt32 &&& 1431655765)).toUInt32 >>> (Int32.toUInt32 2 &&& Int32.toUInt32 31)).toInt32 &&& 858993459)).toUInt32 >>> (Int32.toUInt32 4 &&& Int32.toUInt32 31)).toInt32) &&& 252645135).toUInt32 >>> (Int32.toUInt32 8 &&& Int32.toUInt32 31)).toInt32) + (((((((x0 - ((x0.toUInt32 >>> (Int32.toUInt32 1 &&& Int32.toUInt32 31)).toInt32 &&& 1431655765)) &&& 858993459) + (((x0 - ((x0.toUInt32 >>> (Int32.toUInt32 1 &&& Int32.toUInt32 31)).toInt32 &&& 1431655765)).toUInt32 >>> (Int32.toUInt32 2 &&& Int32.toUInt32 31)).toInt32 &&& 858993459)) + ((((x0 - ((x0.toUInt32 >>> (Int32.toUInt32 1 &&& Int32.toUInt32 31)).toInt32 &&& 1431655765)) &&& 858993459) + (((x0 - ((x0.toUInt32 >>> (Int32.toUInt32 1 &&& Int32.toUInt32 31)).toInt32 &&& 1431655765)).toUInt32 >>> (Int32.toUInt32 2 &&& Int32.toUInt32 31)).toInt32 &&& 858993459)).toUInt32 >>> (Int32.toUInt32 4 &&& Int32.toUInt32 31)).toInt32) &&& 252645135) + ((((((x0 - ((x0.toUInt32 >>> (Int32.toUInt32 1 &&& Int32.toUInt32 31)).toInt32 &&& 1431655765)) &&& 858993459) + (((x0 - ((x0.toUInt32 >>> (Int32.toUInt32 1 &&& Int32.toUInt32 31)).toInt32 &&& 1431655765)).toUInt32 >>> (Int32.toUInt32 2 &&& Int32.toUInt32 31)).toInt32 &&& 858993459)) + ((((x0 - ((x0.toUInt32 >>> (Int32.toUInt32 1 &&& Int32.toUInt32 31)).toInt32 &&& 1431655765)) &&& 858993459) + (((x0 - ((x0.toUInt32 >>> (Int32.toUInt32 1 &&& Int32.toUInt32 31)).toInt32 &&& 1431655765)).toUInt32 >>> (Int32.toUInt32 2 &&& Int32.toUInt32 31)).toInt32 &&& 858993459)).toUInt32 >>> (Int32.toUInt32 4 &&& Int32.toUInt32 31)).toInt32) &&& 252645135).toUInt32 >>> (Int32.toUInt32 8 &&& Int32.toUInt32 31)).toInt32).toUInt32 >>> (Int32.toUInt32 16 &&& Int32.toUInt32 31)).toInt32) &&& 63)
theorem rf_J6_bitCount_0f7a4 {X : am_X} {d : Nat} (hd : 0 ≤ d) (x0 : Int32) {h : am_H} (T : am_TP h.2.2) {r : Int32} (hf : f_J6_bitCount_0f7a4 x0 h = some r) : am_G X d 14 false cJ6_bitCount_0f7a4 (some .int) 0 [some (.int x0)] [] (am_SH, h) (some (.int r), (am_SH, h)) := by
  unfold f_J6_bitCount_0f7a4 at hf
  refine r_loc dJ6_bitCount_0f7a4_0 rfl ?_
  refine r_loc dJ6_bitCount_0f7a4_1 rfl ?_
  refine r_iconst (v := 1) dJ6_bitCount_0f7a4_2 rfl ?_
  refine r_alu dJ6_bitCount_0f7a4_3 rfl ?_
  refine r_ldcw dJ6_bitCount_0f7a4_4 k32_14_265 ?_
  refine r_alu dJ6_bitCount_0f7a4_7 rfl ?_
  refine r_alu dJ6_bitCount_0f7a4_8 rfl ?_
  refine r_loc (L' := [some (.int (x0 - ((x0.toUInt32 >>> (Int32.toUInt32 1 &&& Int32.toUInt32 31)).toInt32 &&& 1431655765)))]) dJ6_bitCount_0f7a4_9 rfl ?_
  refine r_loc dJ6_bitCount_0f7a4_10 rfl ?_
  refine r_ldcw dJ6_bitCount_0f7a4_11 k32_14_266 ?_
  refine r_alu dJ6_bitCount_0f7a4_14 rfl ?_
  refine r_loc dJ6_bitCount_0f7a4_15 rfl ?_
  refine r_iconst (v := 2) dJ6_bitCount_0f7a4_16 rfl ?_
  refine r_alu dJ6_bitCount_0f7a4_17 rfl ?_
  refine r_ldcw dJ6_bitCount_0f7a4_18 k32_14_266 ?_
  refine r_alu dJ6_bitCount_0f7a4_21 rfl ?_
  refine r_alu dJ6_bitCount_0f7a4_22 rfl ?_
  refine r_loc (L' := [some (.int (((x0 - ((x0.toUInt32 >>> (Int32.toUInt32 1 &&& Int32.toUInt32 31)).toInt32 &&& 1431655765)) &&& 858993459) + (((x0 - ((x0.toUInt32 >>> (Int32.toUInt32 1 &&& Int32.toUInt32 31)).toInt32 &&& 1431655765)).toUInt32 >>> (Int32.toUInt32 2 &&& Int32.toUInt32 31)).toInt32 &&& 858993459)))]) dJ6_bitCount_0f7a4_23 rfl ?_
  refine r_loc dJ6_bitCount_0f7a4_24 rfl ?_
  refine r_loc dJ6_bitCount_0f7a4_25 rfl ?_
  refine r_iconst (v := 4) dJ6_bitCount_0f7a4_26 rfl ?_
  refine r_alu dJ6_bitCount_0f7a4_27 rfl ?_
  refine r_alu dJ6_bitCount_0f7a4_28 rfl ?_
  refine r_ldcw dJ6_bitCount_0f7a4_29 k32_14_267 ?_
  refine r_alu dJ6_bitCount_0f7a4_32 rfl ?_
  refine r_loc (L' := [some (.int (((((x0 - ((x0.toUInt32 >>> (Int32.toUInt32 1 &&& Int32.toUInt32 31)).toInt32 &&& 1431655765)) &&& 858993459) + (((x0 - ((x0.toUInt32 >>> (Int32.toUInt32 1 &&& Int32.toUInt32 31)).toInt32 &&& 1431655765)).toUInt32 >>> (Int32.toUInt32 2 &&& Int32.toUInt32 31)).toInt32 &&& 858993459)) + ((((x0 - ((x0.toUInt32 >>> (Int32.toUInt32 1 &&& Int32.toUInt32 31)).toInt32 &&& 1431655765)) &&& 858993459) + (((x0 - ((x0.toUInt32 >>> (Int32.toUInt32 1 &&& Int32.toUInt32 31)).toInt32 &&& 1431655765)).toUInt32 >>> (Int32.toUInt32 2 &&& Int32.toUInt32 31)).toInt32 &&& 858993459)).toUInt32 >>> (Int32.toUInt32 4 &&& Int32.toUInt32 31)).toInt32) &&& 252645135))]) dJ6_bitCount_0f7a4_33 rfl ?_
  refine r_loc dJ6_bitCount_0f7a4_34 rfl ?_
  refine r_loc dJ6_bitCount_0f7a4_35 rfl ?_
  refine r_bipush (v := 8) dJ6_bitCount_0f7a4_36 rfl ?_
  refine r_alu dJ6_bitCount_0f7a4_38 rfl ?_
  refine r_alu dJ6_bitCount_0f7a4_39 rfl ?_
  refine r_loc (L' := [some (.int ((((((x0 - ((x0.toUInt32 >>> (Int32.toUInt32 1 &&& Int32.toUInt32 31)).toInt32 &&& 1431655765)) &&& 858993459) + (((x0 - ((x0.toUInt32 >>> (Int32.toUInt32 1 &&& Int32.toUInt32 31)).toInt32 &&& 1431655765)).toUInt32 >>> (Int32.toUInt32 2 &&& Int32.toUInt32 31)).toInt32 &&& 858993459)) + ((((x0 - ((x0.toUInt32 >>> (Int32.toUInt32 1 &&& Int32.toUInt32 31)).toInt32 &&& 1431655765)) &&& 858993459) + (((x0 - ((x0.toUInt32 >>> (Int32.toUInt32 1 &&& Int32.toUInt32 31)).toInt32 &&& 1431655765)).toUInt32 >>> (Int32.toUInt32 2 &&& Int32.toUInt32 31)).toInt32 &&& 858993459)).toUInt32 >>> (Int32.toUInt32 4 &&& Int32.toUInt32 31)).toInt32) &&& 252645135) + ((((((x0 - ((x0.toUInt32 >>> (Int32.toUInt32 1 &&& Int32.toUInt32 31)).toInt32 &&& 1431655765)) &&& 858993459) + (((x0 - ((x0.toUInt32 >>> (Int32.toUInt32 1 &&& Int32.toUInt32 31)).toInt32 &&& 1431655765)).toUInt32 >>> (Int32.toUInt32 2 &&& Int32.toUInt32 31)).toInt32 &&& 858993459)) + ((((x0 - ((x0.toUInt32 >>> (Int32.toUInt32 1 &&& Int32.toUInt32 31)).toInt32 &&& 1431655765)) &&& 858993459) + (((x0 - ((x0.toUInt32 >>> (Int32.toUInt32 1 &&& Int32.toUInt32 31)).toInt32 &&& 1431655765)).toUInt32 >>> (Int32.toUInt32 2 &&& Int32.toUInt32 31)).toInt32 &&& 858993459)).toUInt32 >>> (Int32.toUInt32 4 &&& Int32.toUInt32 31)).toInt32) &&& 252645135).toUInt32 >>> (Int32.toUInt32 8 &&& Int32.toUInt32 31)).toInt32))]) dJ6_bitCount_0f7a4_40 rfl ?_
  refine r_loc dJ6_bitCount_0f7a4_41 rfl ?_
  refine r_loc dJ6_bitCount_0f7a4_42 rfl ?_
  refine r_bipush (v := 16) dJ6_bitCount_0f7a4_43 rfl ?_
  refine r_alu dJ6_bitCount_0f7a4_45 rfl ?_
  refine r_alu dJ6_bitCount_0f7a4_46 rfl ?_
  refine r_loc (L' := [some (.int (((((((x0 - ((x0.toUInt32 >>> (Int32.toUInt32 1 &&& Int32.toUInt32 31)).toInt32 &&& 1431655765)) &&& 858993459) + (((x0 - ((x0.toUInt32 >>> (Int32.toUInt32 1 &&& Int32.toUInt32 31)).toInt32 &&& 1431655765)).toUInt32 >>> (Int32.toUInt32 2 &&& Int32.toUInt32 31)).toInt32 &&& 858993459)) + ((((x0 - ((x0.toUInt32 >>> (Int32.toUInt32 1 &&& Int32.toUInt32 31)).toInt32 &&& 1431655765)) &&& 858993459) + (((x0 - ((x0.toUInt32 >>> (Int32.toUInt32 1 &&& Int32.toUInt32 31)).toInt32 &&& 1431655765)).toUInt32 >>> (Int32.toUInt32 2 &&& Int32.toUInt32 31)).toInt32 &&& 858993459)).toUInt32 >>> (Int32.toUInt32 4 &&& Int32.toUInt32 31)).toInt32) &&& 252645135) + ((((((x0 - ((x0.toUInt32 >>> (Int32.toUInt32 1 &&& Int32.toUInt32 31)).toInt32 &&& 1431655765)) &&& 858993459) + (((x0 - ((x0.toUInt32 >>> (Int32.toUInt32 1 &&& Int32.toUInt32 31)).toInt32 &&& 1431655765)).toUInt32 >>> (Int32.toUInt32 2 &&& Int32.toUInt32 31)).toInt32 &&& 858993459)) + ((((x0 - ((x0.toUInt32 >>> (Int32.toUInt32 1 &&& Int32.toUInt32 31)).toInt32 &&& 1431655765)) &&& 858993459) + (((x0 - ((x0.toUInt32 >>> (Int32.toUInt32 1 &&& Int32.toUInt32 31)).toInt32 &&& 1431655765)).toUInt32 >>> (Int32.toUInt32 2 &&& Int32.toUInt32 31)).toInt32 &&& 858993459)).toUInt32 >>> (Int32.toUInt32 4 &&& Int32.toUInt32 31)).toInt32) &&& 252645135).toUInt32 >>> (Int32.toUInt32 8 &&& Int32.toUInt32 31)).toInt32) + (((((((x0 - ((x0.toUInt32 >>> (Int32.toUInt32 1 &&& Int32.toUInt32 31)).toInt32 &&& 1431655765)) &&& 858993459) + (((x0 - ((x0.toUInt32 >>> (Int32.toUInt32 1 &&& Int32.toUInt32 31)).toInt32 &&& 1431655765)).toUInt32 >>> (Int32.toUInt32 2 &&& Int32.toUInt32 31)).toInt32 &&& 858993459)) + ((((x0 - ((x0.toUInt32 >>> (Int32.toUInt32 1 &&& Int32.toUInt32 31)).toInt32 &&& 1431655765)) &&& 858993459) + (((x0 - ((x0.toUInt32 >>> (Int32.toUInt32 1 &&& Int32.toUInt32 31)).toInt32 &&& 1431655765)).toUInt32 >>> (Int32.toUInt32 2 &&& Int32.toUInt32 31)).toInt32 &&& 858993459)).toUInt32 >>> (Int32.toUInt32 4 &&& Int32.toUInt32 31)).toInt32) &&& 252645135) + ((((((x0 - ((x0.toUInt32 >>> (Int32.toUInt32 1 &&& Int32.toUInt32 31)).toInt32 &&& 1431655765)) &&& 858993459) + (((x0 - ((x0.toUInt32 >>> (Int32.toUInt32 1 &&& Int32.toUInt32 31)).toInt32 &&& 1431655765)).toUInt32 >>> (Int32.toUInt32 2 &&& Int32.toUInt32 31)).toInt32 &&& 858993459)) + ((((x0 - ((x0.toUInt32 >>> (Int32.toUInt32 1 &&& Int32.toUInt32 31)).toInt32 &&& 1431655765)) &&& 858993459) + (((x0 - ((x0.toUInt32 >>> (Int32.toUInt32 1 &&& Int32.toUInt32 31)).toInt32 &&& 1431655765)).toUInt32 >>> (Int32.toUInt32 2 &&& Int32.toUInt32 31)).toInt32 &&& 858993459)).toUInt32 >>> (Int32.toUInt32 4 &&& Int32.toUInt32 31)).toInt32) &&& 252645135).toUInt32 >>> (Int32.toUInt32 8 &&& Int32.toUInt32 31)).toInt32).toUInt32 >>> (Int32.toUInt32 16 &&& Int32.toUInt32 31)).toInt32))]) dJ6_bitCount_0f7a4_47 rfl ?_
  refine r_loc dJ6_bitCount_0f7a4_48 rfl ?_
  refine r_bipush (v := 63) dJ6_bitCount_0f7a4_49 rfl ?_
  refine r_alu dJ6_bitCount_0f7a4_51 rfl ?_
  cases hf
  exact r_ret T dJ6_bitCount_0f7a4_52 rfl
def f_X7_shared (s0 : Nat) (x1 : Int32) (x2 : Int32) (h : am_H) : Option (Int32) := cal (f_X7_hasBoth s0 x1 x2 h) fun v2 => if v2 = 0 then some 0 else rdI h (s0 + 3) 8 x1 fun v4 => rdI h (s0 + 3) 8 x2 fun v5 => cal (f_J6_bitCount_0f7a4 (v4 ^^^ v5) h) fun v7 => some (6 - v7)
theorem rf_X7_shared {X : am_X} {d : Nat} (hd : 2 ≤ d) (s0 : Nat) (x1 : Int32) (x2 : Int32) (hs0 : s0 ∈ am_ST) {h : am_H} (T : am_TP h.2.2) {r : Int32} (hf : f_X7_shared s0 x1 x2 h = some r) : am_G X d 7 false cX7_shared (some .int) 0 [some (.ref s0), some (.int x1), some (.int x2)] [] (am_SH, h) (some (.int r), (am_SH, h)) := by
  unfold f_X7_shared at hf
  obtain ⟨d, rfl⟩ : ∃ e, d = e + 1 := ⟨d - 1, by omega⟩
  refine r_loc dX7_shared_0 rfl ?_
  refine r_loc dX7_shared_1 rfl ?_
  refine r_loc dX7_shared_2 rfl ?_
  obtain ⟨v2, c1, hf⟩ := cal_inv hf
  have g3 := rf_X7_hasBoth (X := X) (d := d) (by omega) s0 x1 x2 hs0 T c1
  refine r_virt (pre := [.int x2, .int x1]) (rest := []) dX7_shared_3 ct_7_100 rfl ((sh_S hs0)) (Nat.le_of_ble_eq_true rfl) (Nat.le_of_ble_eq_true rfl) g3 ?_
  refine r_eq0 (q := 31) dX7_shared_6 rfl hf (fun hf => ?_) (fun hf => ?_)
  · refine r_iconst (v := 0) dX7_shared_31 rfl ?_
    cases hf
    exact r_ret T dX7_shared_32 rfl
  · refine r_bipush (v := 6) dX7_shared_9 rfl ?_
    refine r_loc dX7_shared_11 rfl ?_
    refine r_getR dX7_shared_12 fl_7_18 (sh_S hs0) (Or.inr ⟨_, rfl⟩) (tp_S_3 T hs0) ?_
    refine r_loc dX7_shared_15 rfl ?_
    refine r_iald dX7_shared_16 (sh_S_3 hs0) hf (fun v4 hf => ?_)
    refine r_loc dX7_shared_17 rfl ?_
    refine r_getR dX7_shared_18 fl_7_18 (sh_S hs0) (Or.inr ⟨_, rfl⟩) (tp_S_3 T hs0) ?_
    refine r_loc dX7_shared_21 rfl ?_
    refine r_iald dX7_shared_22 (sh_S_3 hs0) hf (fun v5 hf => ?_)
    refine r_alu dX7_shared_23 rfl ?_
    obtain ⟨v7, c6, hf⟩ := cal_inv hf
    have g8 := rf_J6_bitCount_0f7a4 (X := X) (d := d) (by omega) (v4 ^^^ v5) T c6
    refine r_stat (pre := [.int (v4 ^^^ v5)]) (rest := [.int 6]) dX7_shared_24 ct_7_82 rfl (Nat.le_of_ble_eq_true rfl) (Nat.le_of_ble_eq_true rfl) g8 ?_
    refine r_alu dX7_shared_27 rfl ?_
    refine r_goto (q := 32) dX7_shared_28 rfl ?_
    cases hf
    exact r_ret T dX7_shared_32 rfl
def lp_X7_bits_4 (s0 : Nat) (h : am_H) (k_31 : Int32 → Option (Int32)) : Nat → Int32 → Int32 → Option (Int32)
  | 0, _, _ => none
  | n + 1, x1, x2 => if x2 < 8 then rdI h (s0 + 1) 8 x2 fun v1 => if 0 < v1 then lp_X7_bits_4 s0 h k_31 n (x1 ||| (1 <<< (x2 &&& 31))) (x2 + 1) else lp_X7_bits_4 s0 h k_31 n x1 (x2 + 1) else k_31 x1
def f_X7_bits (s0 : Nat) (h : am_H) : Option (Int32) := lp_X7_bits_4 s0 h (fun z2 => some z2) 4000 0 0
theorem rl_X7_bits_4 {X : am_X} {d : Nat} (hd : 0 ≤ d) (s0 : Nat) (hs0 : s0 ∈ am_ST) {h : am_H} (T : am_TP h.2.2) (k_31 : Int32 → Option (Int32)) {r : Int32} (hk_31 : ∀ (z1 : Int32) , k_31 z1 = some r → am_G X d 7 false cX7_bits (some .int) 31 [none, some (.int z1), none] [] (am_SH, h) (some (.int r), (am_SH, h))) : ∀ (n : Nat) (x1 : Int32) (x2 : Int32) , lp_X7_bits_4 s0 h k_31 n x1 x2 = some r → am_G X d 7 false cX7_bits (some .int) 4 [some (.ref s0), some (.int x1), some (.int x2)] [] (am_SH, h) (some (.int r), (am_SH, h)) := by
  intro n
  induction n with
  | zero => intro x1 x2 hf; cases hf
  | succ n ih =>
    intro x1 x2 hf
    rw [lp_X7_bits_4] at hf
    refine r_loc dX7_bits_4 rfl ?_
    refine r_bipush (v := 8) dX7_bits_5 rfl ?_
    refine r_ge (q := 31) dX7_bits_7 rfl hf (fun hf => ?_) (fun hf => ?_)
    · refine r_weak (L := [none, some (.int x1), none]) (am_le_n (am_le_s (am_le_n am_le_0))) ?_
      exact hk_31 x1 hf
    · refine r_loc dX7_bits_10 rfl ?_
      refine r_getR dX7_bits_11 fl_7_9 (sh_S hs0) (Or.inr ⟨_, rfl⟩) (tp_S_1 T hs0) ?_
      refine r_loc dX7_bits_14 rfl ?_
      refine r_iald dX7_bits_15 (sh_S_1 hs0) hf (fun v1 hf => ?_)
      refine r_le0 (q := 25) dX7_bits_16 rfl hf (fun hf => ?_) (fun hf => ?_)
      · refine r_loc (L' := [some (.ref s0), some (.int x1), some (.int (x2 + 1))]) dX7_bits_25 rfl ?_
        refine r_goto (q := 4) dX7_bits_28 rfl ?_
        exact ih x1 (x2 + 1) hf
      · refine r_loc dX7_bits_19 rfl ?_
        refine r_iconst (v := 1) dX7_bits_20 rfl ?_
        refine r_loc dX7_bits_21 rfl ?_
        refine r_alu dX7_bits_22 rfl ?_
        refine r_alu dX7_bits_23 rfl ?_
        refine r_loc (L' := [some (.ref s0), some (.int (x1 ||| (1 <<< (x2 &&& 31)))), some (.int x2)]) dX7_bits_24 rfl ?_
        refine r_loc (L' := [some (.ref s0), some (.int (x1 ||| (1 <<< (x2 &&& 31)))), some (.int (x2 + 1))]) dX7_bits_25 rfl ?_
        refine r_goto (q := 4) dX7_bits_28 rfl ?_
        exact ih (x1 ||| (1 <<< (x2 &&& 31))) (x2 + 1) hf
theorem rf_X7_bits {X : am_X} {d : Nat} (hd : 0 ≤ d) (s0 : Nat) (hs0 : s0 ∈ am_ST) {h : am_H} (T : am_TP h.2.2) {r : Int32} (hf : f_X7_bits s0 h = some r) : am_G X d 7 false cX7_bits (some .int) 0 [some (.ref s0), none, none] [] (am_SH, h) (some (.int r), (am_SH, h)) := by
  unfold f_X7_bits at hf
  refine r_iconst (v := 0) dX7_bits_0 rfl ?_
  refine r_loc (L' := [some (.ref s0), some (.int 0), none]) dX7_bits_1 rfl ?_
  refine r_iconst (v := 0) dX7_bits_2 rfl ?_
  refine r_loc (L' := [some (.ref s0), some (.int 0), some (.int 0)]) dX7_bits_3 rfl ?_
  refine rl_X7_bits_4 (by omega) s0 hs0 T _ ?_ 4000 0 0  hf
  · intro z2 hf
    refine r_loc dX7_bits_31 rfl ?_
    cases hf
    exact r_ret T dX7_bits_32 rfl
def f_X7_count (s0 : Nat) (h : am_H) : Option (Int32) := cal (f_X7_bits s0 h) fun v2 => cal (f_J6_bitCount_0f7a4 v2 h) fun v5 => some v5
theorem rf_X7_count {X : am_X} {d : Nat} (hd : 1 ≤ d) (s0 : Nat) (hs0 : s0 ∈ am_ST) {h : am_H} (T : am_TP h.2.2) {r : Int32} (hf : f_X7_count s0 h = some r) : am_G X d 7 false cX7_count (some .int) 0 [some (.ref s0)] [] (am_SH, h) (some (.int r), (am_SH, h)) := by
  unfold f_X7_count at hf
  obtain ⟨d, rfl⟩ : ∃ e, d = e + 1 := ⟨d - 1, by omega⟩
  refine r_loc dX7_count_0 rfl ?_
  obtain ⟨v2, c1, hf⟩ := cal_inv hf
  have g3 := rf_X7_bits (X := X) (d := d) (by omega) s0 hs0 T c1
  refine r_virt (pre := []) (rest := []) dX7_count_1 ct_7_78 rfl ((sh_S hs0)) (Nat.le_of_ble_eq_true rfl) (Nat.le_of_ble_eq_true rfl) g3 ?_
  obtain ⟨v5, c4, hf⟩ := cal_inv hf
  have g6 := rf_J6_bitCount_0f7a4 (X := X) (d := d) (by omega) v2 T c4
  refine r_stat (pre := [.int v2]) (rest := []) dX7_count_4 ct_7_82 rfl (Nat.le_of_ble_eq_true rfl) (Nat.le_of_ble_eq_true rfl) g6 ?_
  cases hf
  exact r_ret T dX7_count_7 rfl
def lp_X7_bulkiestIn_8 (s0 : Nat) (p1 : Int32) (p2 : Int32) (h : am_H) (k_72 : Int32 → Option (Int32)) : Nat → Int32 → Int32 → Int32 → Option (Int32)
  | 0, _, _, _ => none
  | n + 1, x3, x4, x5 => if x5 < 8 then if x5 = p2 then lp_X7_bulkiestIn_8 s0 p1 p2 h k_72 n x3 x4 (x5 + 1) else rdI h (s0 + 2) 8 x5 fun v1 => if v1 = p1 then rdI h (s0 + 5) 8 x5 fun v2 => if v2 = 0 then rdI h (s0 + 1) 8 x5 fun v3 => if x4 < v3 then rdI h (s0 + 1) 8 x5 fun v4 => lp_X7_bulkiestIn_8 s0 p1 p2 h k_72 n x5 v4 (x5 + 1) else lp_X7_bulkiestIn_8 s0 p1 p2 h k_72 n x3 x4 (x5 + 1) else lp_X7_bulkiestIn_8 s0 p1 p2 h k_72 n x3 x4 (x5 + 1) else lp_X7_bulkiestIn_8 s0 p1 p2 h k_72 n x3 x4 (x5 + 1) else k_72 x3
def f_X7_bulkiestIn (s0 : Nat) (x1 : Int32) (x2 : Int32) (h : am_H) : Option (Int32) := lp_X7_bulkiestIn_8 s0 x1 x2 h (fun z5 => some z5) 4000 (-1) 0 0
theorem rl_X7_bulkiestIn_8 {X : am_X} {d : Nat} (hd : 0 ≤ d) (s0 : Nat) (p1 : Int32) (p2 : Int32) (hs0 : s0 ∈ am_ST) {h : am_H} (T : am_TP h.2.2) (k_72 : Int32 → Option (Int32)) {r : Int32} (hk_72 : ∀ (z3 : Int32) , k_72 z3 = some r → am_G X d 7 false cX7_bulkiestIn (some .int) 72 [none, none, none, some (.int z3), none, none] [] (am_SH, h) (some (.int r), (am_SH, h))) : ∀ (n : Nat) (x3 : Int32) (x4 : Int32) (x5 : Int32) , lp_X7_bulkiestIn_8 s0 p1 p2 h k_72 n x3 x4 x5 = some r → am_G X d 7 false cX7_bulkiestIn (some .int) 8 [some (.ref s0), some (.int p1), some (.int p2), some (.int x3), some (.int x4), some (.int x5)] [] (am_SH, h) (some (.int r), (am_SH, h)) := by
  intro n
  induction n with
  | zero => intro x3 x4 x5 hf; cases hf
  | succ n ih =>
    intro x3 x4 x5 hf
    rw [lp_X7_bulkiestIn_8] at hf
    refine r_loc dX7_bulkiestIn_8 rfl ?_
    refine r_bipush (v := 8) dX7_bulkiestIn_10 rfl ?_
    refine r_ge (q := 72) dX7_bulkiestIn_12 rfl hf (fun hf => ?_) (fun hf => ?_)
    · refine r_weak (L := [none, none, none, some (.int x3), none, none]) (am_le_n (am_le_n (am_le_n (am_le_s (am_le_n (am_le_n am_le_0)))))) ?_
      exact hk_72 x3 hf
    · refine r_loc dX7_bulkiestIn_15 rfl ?_
      refine r_loc dX7_bulkiestIn_17 rfl ?_
      refine r_eq (q := 66) dX7_bulkiestIn_18 rfl hf (fun hf => ?_) (fun hf => ?_)
      · refine r_loc (L' := [some (.ref s0), some (.int p1), some (.int p2), some (.int x3), some (.int x4), some (.int (x5 + 1))]) dX7_bulkiestIn_66 rfl ?_
        refine r_goto (q := 8) dX7_bulkiestIn_69 rfl ?_
        exact ih x3 x4 (x5 + 1) hf
      · refine r_loc dX7_bulkiestIn_21 rfl ?_
        refine r_getR dX7_bulkiestIn_22 fl_7_15 (sh_S hs0) (Or.inr ⟨_, rfl⟩) (tp_S_2 T hs0) ?_
        refine r_loc dX7_bulkiestIn_25 rfl ?_
        refine r_iald dX7_bulkiestIn_27 (sh_S_2 hs0) hf (fun v1 hf => ?_)
        refine r_loc dX7_bulkiestIn_28 rfl ?_
        refine r_ne (q := 66) dX7_bulkiestIn_29 rfl hf (fun hf => ?_) (fun hf => ?_)
        · refine r_loc (L' := [some (.ref s0), some (.int p1), some (.int p2), some (.int x3), some (.int x4), some (.int (x5 + 1))]) dX7_bulkiestIn_66 rfl ?_
          refine r_goto (q := 8) dX7_bulkiestIn_69 rfl ?_
          exact ih x3 x4 (x5 + 1) hf
        · refine r_loc dX7_bulkiestIn_32 rfl ?_
          refine r_getR dX7_bulkiestIn_33 fl_7_24 (sh_S hs0) (Or.inr ⟨_, rfl⟩) (tp_S_5 T hs0) ?_
          refine r_loc dX7_bulkiestIn_36 rfl ?_
          refine r_iald dX7_bulkiestIn_38 (sh_S_5 hs0) hf (fun v2 hf => ?_)
          refine r_ne0 (q := 66) dX7_bulkiestIn_39 rfl hf (fun hf => ?_) (fun hf => ?_)
          · refine r_loc (L' := [some (.ref s0), some (.int p1), some (.int p2), some (.int x3), some (.int x4), some (.int (x5 + 1))]) dX7_bulkiestIn_66 rfl ?_
            refine r_goto (q := 8) dX7_bulkiestIn_69 rfl ?_
            exact ih x3 x4 (x5 + 1) hf
          · refine r_loc dX7_bulkiestIn_42 rfl ?_
            refine r_getR dX7_bulkiestIn_43 fl_7_9 (sh_S hs0) (Or.inr ⟨_, rfl⟩) (tp_S_1 T hs0) ?_
            refine r_loc dX7_bulkiestIn_46 rfl ?_
            refine r_iald dX7_bulkiestIn_48 (sh_S_1 hs0) hf (fun v3 hf => ?_)
            refine r_loc dX7_bulkiestIn_49 rfl ?_
            refine r_le (q := 66) dX7_bulkiestIn_51 rfl hf (fun hf => ?_) (fun hf => ?_)
            · refine r_loc (L' := [some (.ref s0), some (.int p1), some (.int p2), some (.int x3), some (.int x4), some (.int (x5 + 1))]) dX7_bulkiestIn_66 rfl ?_
              refine r_goto (q := 8) dX7_bulkiestIn_69 rfl ?_
              exact ih x3 x4 (x5 + 1) hf
            · refine r_loc dX7_bulkiestIn_54 rfl ?_
              refine r_loc (L' := [some (.ref s0), some (.int p1), some (.int p2), some (.int x5), some (.int x4), some (.int x5)]) dX7_bulkiestIn_56 rfl ?_
              refine r_loc dX7_bulkiestIn_57 rfl ?_
              refine r_getR dX7_bulkiestIn_58 fl_7_9 (sh_S hs0) (Or.inr ⟨_, rfl⟩) (tp_S_1 T hs0) ?_
              refine r_loc dX7_bulkiestIn_61 rfl ?_
              refine r_iald dX7_bulkiestIn_63 (sh_S_1 hs0) hf (fun v4 hf => ?_)
              refine r_loc (L' := [some (.ref s0), some (.int p1), some (.int p2), some (.int x5), some (.int v4), some (.int x5)]) dX7_bulkiestIn_64 rfl ?_
              refine r_loc (L' := [some (.ref s0), some (.int p1), some (.int p2), some (.int x5), some (.int v4), some (.int (x5 + 1))]) dX7_bulkiestIn_66 rfl ?_
              refine r_goto (q := 8) dX7_bulkiestIn_69 rfl ?_
              exact ih x5 v4 (x5 + 1) hf
theorem rf_X7_bulkiestIn {X : am_X} {d : Nat} (hd : 0 ≤ d) (s0 : Nat) (x1 : Int32) (x2 : Int32) (hs0 : s0 ∈ am_ST) {h : am_H} (T : am_TP h.2.2) {r : Int32} (hf : f_X7_bulkiestIn s0 x1 x2 h = some r) : am_G X d 7 false cX7_bulkiestIn (some .int) 0 [some (.ref s0), some (.int x1), some (.int x2), none, none, none] [] (am_SH, h) (some (.int r), (am_SH, h)) := by
  unfold f_X7_bulkiestIn at hf
  refine r_iconst (v := (-1)) dX7_bulkiestIn_0 rfl ?_
  refine r_loc (L' := [some (.ref s0), some (.int x1), some (.int x2), some (.int (-1)), none, none]) dX7_bulkiestIn_1 rfl ?_
  refine r_iconst (v := 0) dX7_bulkiestIn_2 rfl ?_
  refine r_loc (L' := [some (.ref s0), some (.int x1), some (.int x2), some (.int (-1)), some (.int 0), none]) dX7_bulkiestIn_3 rfl ?_
  refine r_iconst (v := 0) dX7_bulkiestIn_5 rfl ?_
  refine r_loc (L' := [some (.ref s0), some (.int x1), some (.int x2), some (.int (-1)), some (.int 0), some (.int 0)]) dX7_bulkiestIn_6 rfl ?_
  refine rl_X7_bulkiestIn_8 (by omega) s0 x1 x2 hs0 T _ ?_ 4000 (-1) 0 0  hf
  · intro z5 hf
    refine r_loc dX7_bulkiestIn_72 rfl ?_
    cases hf
    exact r_ret T dX7_bulkiestIn_73 rfl
def f_X7_coupleIn (s0 : Nat) (x1 : Int32) (h : am_H) : Option (Int32) := cal (f_X7_bulkiestIn s0 x1 (-1) h) fun v2 => cal (f_X7_bulkiestIn s0 x1 v2 h) fun v5 => if v2 = (-1) then some (-1) else if v5 = (-1) then some (-1) else some ((v2 * 8) + v5)
theorem rf_X7_coupleIn {X : am_X} {d : Nat} (hd : 1 ≤ d) (s0 : Nat) (x1 : Int32) (hs0 : s0 ∈ am_ST) {h : am_H} (T : am_TP h.2.2) {r : Int32} (hf : f_X7_coupleIn s0 x1 h = some r) : am_G X d 7 false cX7_coupleIn (some .int) 0 [some (.ref s0), some (.int x1), none, none] [] (am_SH, h) (some (.int r), (am_SH, h)) := by
  unfold f_X7_coupleIn at hf
  obtain ⟨d, rfl⟩ : ∃ e, d = e + 1 := ⟨d - 1, by omega⟩
  refine r_loc dX7_coupleIn_0 rfl ?_
  refine r_loc dX7_coupleIn_1 rfl ?_
  refine r_iconst (v := (-1)) dX7_coupleIn_2 rfl ?_
  obtain ⟨v2, c1, hf⟩ := cal_inv hf
  have g3 := rf_X7_bulkiestIn (X := X) (d := d) (by omega) s0 x1 (-1) hs0 T c1
  refine r_virt (pre := [.int (-1), .int x1]) (rest := []) dX7_coupleIn_3 ct_7_104 rfl ((sh_S hs0)) (Nat.le_of_ble_eq_true rfl) (Nat.le_of_ble_eq_true rfl) g3 ?_
  refine r_loc (L' := [some (.ref s0), some (.int x1), some (.int v2), none]) dX7_coupleIn_6 rfl ?_
  refine r_loc dX7_coupleIn_7 rfl ?_
  refine r_loc dX7_coupleIn_8 rfl ?_
  refine r_loc dX7_coupleIn_9 rfl ?_
  obtain ⟨v5, c4, hf⟩ := cal_inv hf
  have g6 := rf_X7_bulkiestIn (X := X) (d := d) (by omega) s0 x1 v2 hs0 T c4
  refine r_virt (pre := [.int v2, .int x1]) (rest := []) dX7_coupleIn_10 ct_7_104 rfl ((sh_S hs0)) (Nat.le_of_ble_eq_true rfl) (Nat.le_of_ble_eq_true rfl) g6 ?_
  refine r_loc (L' := [some (.ref s0), some (.int x1), some (.int v2), some (.int v5)]) dX7_coupleIn_13 rfl ?_
  refine r_loc dX7_coupleIn_14 rfl ?_
  refine r_iconst (v := (-1)) dX7_coupleIn_15 rfl ?_
  refine r_eq (q := 24) dX7_coupleIn_16 rfl hf (fun hf => ?_) (fun hf => ?_)
  · refine r_iconst (v := (-1)) dX7_coupleIn_24 rfl ?_
    refine r_goto (q := 34) dX7_coupleIn_25 rfl ?_
    cases hf
    exact r_ret T dX7_coupleIn_34 rfl
  · refine r_loc dX7_coupleIn_19 rfl ?_
    refine r_iconst (v := (-1)) dX7_coupleIn_20 rfl ?_
    refine r_ne (q := 28) dX7_coupleIn_21 rfl hf (fun hf => ?_) (fun hf => ?_)
    · refine r_loc dX7_coupleIn_28 rfl ?_
      refine r_bipush (v := 8) dX7_coupleIn_29 rfl ?_
      refine r_alu dX7_coupleIn_31 rfl ?_
      refine r_loc dX7_coupleIn_32 rfl ?_
      refine r_alu dX7_coupleIn_33 rfl ?_
      cases hf
      exact r_ret T dX7_coupleIn_34 rfl
    · refine r_iconst (v := (-1)) dX7_coupleIn_24 rfl ?_
      refine r_goto (q := 34) dX7_coupleIn_25 rfl ?_
      cases hf
      exact r_ret T dX7_coupleIn_34 rfl
def lp_X7_firstFree_2 (s0 : Nat) (h : am_H) (k_17 : Int32 → Option (Int32)) (k_25 : Option (Int32)) : Nat → Int32 → Option (Int32)
  | 0, _ => none
  | n + 1, x1 => if x1 < 8 then rdI h (s0 + 1) 8 x1 fun v1 => if v1 = 0 then k_17 x1 else lp_X7_firstFree_2 s0 h k_17 k_25 n (x1 + 1) else k_25
def f_X7_firstFree (s0 : Nat) (h : am_H) : Option (Int32) := lp_X7_firstFree_2 s0 h (fun z2 => some z2) (some (-1)) 4000 0
theorem rl_X7_firstFree_2 {X : am_X} {d : Nat} (hd : 0 ≤ d) (s0 : Nat) (hs0 : s0 ∈ am_ST) {h : am_H} (T : am_TP h.2.2) (k_17 : Int32 → Option (Int32)) (k_25 : Option (Int32)) {r : Int32} (hk_17 : ∀ (z1 : Int32) , k_17 z1 = some r → am_G X d 7 false cX7_firstFree (some .int) 17 [none, some (.int z1)] [] (am_SH, h) (some (.int r), (am_SH, h))) (hk_25 : k_25  = some r → am_G X d 7 false cX7_firstFree (some .int) 25 [none, none] [] (am_SH, h) (some (.int r), (am_SH, h))) : ∀ (n : Nat) (x1 : Int32) , lp_X7_firstFree_2 s0 h k_17 k_25 n x1 = some r → am_G X d 7 false cX7_firstFree (some .int) 2 [some (.ref s0), some (.int x1)] [] (am_SH, h) (some (.int r), (am_SH, h)) := by
  intro n
  induction n with
  | zero => intro x1 hf; cases hf
  | succ n ih =>
    intro x1 hf
    rw [lp_X7_firstFree_2] at hf
    refine r_loc dX7_firstFree_2 rfl ?_
    refine r_bipush (v := 8) dX7_firstFree_3 rfl ?_
    refine r_ge (q := 25) dX7_firstFree_5 rfl hf (fun hf => ?_) (fun hf => ?_)
    · refine r_weak (L := [none, none]) (am_le_n (am_le_n am_le_0)) ?_
      exact hk_25  hf
    · refine r_loc dX7_firstFree_8 rfl ?_
      refine r_getR dX7_firstFree_9 fl_7_9 (sh_S hs0) (Or.inr ⟨_, rfl⟩) (tp_S_1 T hs0) ?_
      refine r_loc dX7_firstFree_12 rfl ?_
      refine r_iald dX7_firstFree_13 (sh_S_1 hs0) hf (fun v1 hf => ?_)
      refine r_ne0 (q := 19) dX7_firstFree_14 rfl hf (fun hf => ?_) (fun hf => ?_)
      · refine r_loc (L' := [some (.ref s0), some (.int (x1 + 1))]) dX7_firstFree_19 rfl ?_
        refine r_goto (q := 2) dX7_firstFree_22 rfl ?_
        exact ih (x1 + 1) hf
      · refine r_weak (L := [none, some (.int x1)]) (am_le_n (am_le_s am_le_0)) ?_
        exact hk_17 x1 hf
theorem rf_X7_firstFree {X : am_X} {d : Nat} (hd : 0 ≤ d) (s0 : Nat) (hs0 : s0 ∈ am_ST) {h : am_H} (T : am_TP h.2.2) {r : Int32} (hf : f_X7_firstFree s0 h = some r) : am_G X d 7 false cX7_firstFree (some .int) 0 [some (.ref s0), none] [] (am_SH, h) (some (.int r), (am_SH, h)) := by
  unfold f_X7_firstFree at hf
  refine r_iconst (v := 0) dX7_firstFree_0 rfl ?_
  refine r_loc (L' := [some (.ref s0), some (.int 0)]) dX7_firstFree_1 rfl ?_
  refine rl_X7_firstFree_2 (by omega) s0 hs0 T _ _ ?_ ?_ 4000 0  hf
  · intro z2 hf
    refine r_loc dX7_firstFree_17 rfl ?_
    cases hf
    exact r_ret T dX7_firstFree_18 rfl
  · intro hf
    refine r_iconst (v := (-1)) dX7_firstFree_25 rfl ?_
    cases hf
    exact r_ret T dX7_firstFree_26 rfl
def lp_X7_allMarks_4 (s0 : Nat) (h : am_H) (k_25 : Int32 → Option (Int32)) : Nat → Int32 → Int32 → Option (Int32)
  | 0, _, _ => none
  | n + 1, x1, x2 => if x2 < 8 then rdI h (s0 + 3) 8 x2 fun v1 => lp_X7_allMarks_4 s0 h k_25 n (x1 ||| v1) (x2 + 1) else k_25 x1
def f_X7_allMarks (s0 : Nat) (h : am_H) : Option (Int32) := lp_X7_allMarks_4 s0 h (fun z2 => some z2) 4000 0 0
theorem rl_X7_allMarks_4 {X : am_X} {d : Nat} (hd : 0 ≤ d) (s0 : Nat) (hs0 : s0 ∈ am_ST) {h : am_H} (T : am_TP h.2.2) (k_25 : Int32 → Option (Int32)) {r : Int32} (hk_25 : ∀ (z1 : Int32) , k_25 z1 = some r → am_G X d 7 false cX7_allMarks (some .int) 25 [none, some (.int z1), none] [] (am_SH, h) (some (.int r), (am_SH, h))) : ∀ (n : Nat) (x1 : Int32) (x2 : Int32) , lp_X7_allMarks_4 s0 h k_25 n x1 x2 = some r → am_G X d 7 false cX7_allMarks (some .int) 4 [some (.ref s0), some (.int x1), some (.int x2)] [] (am_SH, h) (some (.int r), (am_SH, h)) := by
  intro n
  induction n with
  | zero => intro x1 x2 hf; cases hf
  | succ n ih =>
    intro x1 x2 hf
    rw [lp_X7_allMarks_4] at hf
    refine r_loc dX7_allMarks_4 rfl ?_
    refine r_bipush (v := 8) dX7_allMarks_5 rfl ?_
    refine r_ge (q := 25) dX7_allMarks_7 rfl hf (fun hf => ?_) (fun hf => ?_)
    · refine r_weak (L := [none, some (.int x1), none]) (am_le_n (am_le_s (am_le_n am_le_0))) ?_
      exact hk_25 x1 hf
    · refine r_loc dX7_allMarks_10 rfl ?_
      refine r_loc dX7_allMarks_11 rfl ?_
      refine r_getR dX7_allMarks_12 fl_7_18 (sh_S hs0) (Or.inr ⟨_, rfl⟩) (tp_S_3 T hs0) ?_
      refine r_loc dX7_allMarks_15 rfl ?_
      refine r_iald dX7_allMarks_16 (sh_S_3 hs0) hf (fun v1 hf => ?_)
      refine r_alu dX7_allMarks_17 rfl ?_
      refine r_loc (L' := [some (.ref s0), some (.int (x1 ||| v1)), some (.int x2)]) dX7_allMarks_18 rfl ?_
      refine r_loc (L' := [some (.ref s0), some (.int (x1 ||| v1)), some (.int (x2 + 1))]) dX7_allMarks_19 rfl ?_
      refine r_goto (q := 4) dX7_allMarks_22 rfl ?_
      exact ih (x1 ||| v1) (x2 + 1) hf
theorem rf_X7_allMarks {X : am_X} {d : Nat} (hd : 0 ≤ d) (s0 : Nat) (hs0 : s0 ∈ am_ST) {h : am_H} (T : am_TP h.2.2) {r : Int32} (hf : f_X7_allMarks s0 h = some r) : am_G X d 7 false cX7_allMarks (some .int) 0 [some (.ref s0), none, none] [] (am_SH, h) (some (.int r), (am_SH, h)) := by
  unfold f_X7_allMarks at hf
  refine r_iconst (v := 0) dX7_allMarks_0 rfl ?_
  refine r_loc (L' := [some (.ref s0), some (.int 0), none]) dX7_allMarks_1 rfl ?_
  refine r_iconst (v := 0) dX7_allMarks_2 rfl ?_
  refine r_loc (L' := [some (.ref s0), some (.int 0), some (.int 0)]) dX7_allMarks_3 rfl ?_
  refine rl_X7_allMarks_4 (by omega) s0 hs0 T _ ?_ 4000 0 0  hf
  · intro z2 hf
    refine r_loc dX7_allMarks_25 rfl ?_
    cases hf
    exact r_ret T dX7_allMarks_26 rfl
def f_X7_bitOf (x0 : Int32) (h : am_H) : Option (Int32) := if x0 < 0 then some 0 else if x0 < 8 then some (1 <<< (x0 &&& 31)) else some 0
theorem rf_X7_bitOf {X : am_X} {d : Nat} (hd : 0 ≤ d) (x0 : Int32) {h : am_H} (T : am_TP h.2.2) {r : Int32} (hf : f_X7_bitOf x0 h = some r) : am_G X d 7 false cX7_bitOf (some .int) 0 [some (.int x0)] [] (am_SH, h) (some (.int r), (am_SH, h)) := by
  unfold f_X7_bitOf at hf
  refine r_loc dX7_bitOf_0 rfl ?_
  refine r_lt0 (q := 16) dX7_bitOf_1 rfl hf (fun hf => ?_) (fun hf => ?_)
  · refine r_iconst (v := 0) dX7_bitOf_16 rfl ?_
    cases hf
    exact r_ret T dX7_bitOf_17 rfl
  · refine r_loc dX7_bitOf_4 rfl ?_
    refine r_bipush (v := 8) dX7_bitOf_5 rfl ?_
    refine r_ge (q := 16) dX7_bitOf_7 rfl hf (fun hf => ?_) (fun hf => ?_)
    · refine r_iconst (v := 0) dX7_bitOf_16 rfl ?_
      cases hf
      exact r_ret T dX7_bitOf_17 rfl
    · refine r_iconst (v := 1) dX7_bitOf_10 rfl ?_
      refine r_loc dX7_bitOf_11 rfl ?_
      refine r_alu dX7_bitOf_12 rfl ?_
      refine r_goto (q := 17) dX7_bitOf_13 rfl ?_
      cases hf
      exact r_ret T dX7_bitOf_17 rfl
def lp_X7_parentsOf_4 (s0 : Nat) (p1 : Int32) (h : am_H) (k_46 : Int32 → Option (Int32)) : Nat → Int32 → Int32 → Option (Int32)
  | 0, _, _ => none
  | n + 1, x2, x3 => if x3 < 8 then if ((p1 >>> (x3 &&& 31)) &&& 1) = 0 then lp_X7_parentsOf_4 s0 p1 h k_46 n x2 (x3 + 1) else rdI h (s0 + 6) 8 x3 fun v1 => cal (f_X7_bitOf v1 h) fun v3 => rdI h (s0 + 7) 8 x3 fun v5 => cal (f_X7_bitOf v5 h) fun v7 => lp_X7_parentsOf_4 s0 p1 h k_46 n (x2 ||| (v3 ||| v7)) (x3 + 1) else k_46 x2
def f_X7_parentsOf (s0 : Nat) (x1 : Int32) (h : am_H) : Option (Int32) := lp_X7_parentsOf_4 s0 x1 h (fun z9 => some z9) 4000 0 0
theorem rl_X7_parentsOf_4 {X : am_X} {d : Nat} (hd : 1 ≤ d) (s0 : Nat) (p1 : Int32) (hs0 : s0 ∈ am_ST) {h : am_H} (T : am_TP h.2.2) (k_46 : Int32 → Option (Int32)) {r : Int32} (hk_46 : ∀ (z2 : Int32) , k_46 z2 = some r → am_G X d 7 false cX7_parentsOf (some .int) 46 [none, none, some (.int z2), none] [] (am_SH, h) (some (.int r), (am_SH, h))) : ∀ (n : Nat) (x2 : Int32) (x3 : Int32) , lp_X7_parentsOf_4 s0 p1 h k_46 n x2 x3 = some r → am_G X d 7 false cX7_parentsOf (some .int) 4 [some (.ref s0), some (.int p1), some (.int x2), some (.int x3)] [] (am_SH, h) (some (.int r), (am_SH, h)) := by
  obtain ⟨d, rfl⟩ : ∃ e, d = e + 1 := ⟨d - 1, by omega⟩
  intro n
  induction n with
  | zero => intro x2 x3 hf; cases hf
  | succ n ih =>
    intro x2 x3 hf
    rw [lp_X7_parentsOf_4] at hf
    refine r_loc dX7_parentsOf_4 rfl ?_
    refine r_bipush (v := 8) dX7_parentsOf_5 rfl ?_
    refine r_ge (q := 46) dX7_parentsOf_7 rfl hf (fun hf => ?_) (fun hf => ?_)
    · refine r_weak (L := [none, none, some (.int x2), none]) (am_le_n (am_le_n (am_le_s (am_le_n am_le_0)))) ?_
      exact hk_46 x2 hf
    · refine r_loc dX7_parentsOf_10 rfl ?_
      refine r_loc dX7_parentsOf_11 rfl ?_
      refine r_alu dX7_parentsOf_12 rfl ?_
      refine r_iconst (v := 1) dX7_parentsOf_13 rfl ?_
      refine r_alu dX7_parentsOf_14 rfl ?_
      refine r_eq0 (q := 40) dX7_parentsOf_15 rfl hf (fun hf => ?_) (fun hf => ?_)
      · refine r_loc (L' := [some (.ref s0), some (.int p1), some (.int x2), some (.int (x3 + 1))]) dX7_parentsOf_40 rfl ?_
        refine r_goto (q := 4) dX7_parentsOf_43 rfl ?_
        exact ih x2 (x3 + 1) hf
      · refine r_loc dX7_parentsOf_18 rfl ?_
        refine r_loc dX7_parentsOf_19 rfl ?_
        refine r_getR dX7_parentsOf_20 fl_7_27 (sh_S hs0) (Or.inr ⟨_, rfl⟩) (tp_S_6 T hs0) ?_
        refine r_loc dX7_parentsOf_23 rfl ?_
        refine r_iald dX7_parentsOf_24 (sh_S_6 hs0) hf (fun v1 hf => ?_)
        obtain ⟨v3, c2, hf⟩ := cal_inv hf
        have g4 := rf_X7_bitOf (X := X) (d := d) (by omega) v1 T c2
        refine r_stat (pre := [.int v1]) (rest := [.int x2]) dX7_parentsOf_25 ct_7_108 rfl (Nat.le_of_ble_eq_true rfl) (Nat.le_of_ble_eq_true rfl) g4 ?_
        refine r_loc dX7_parentsOf_28 rfl ?_
        refine r_getR dX7_parentsOf_29 fl_7_30 (sh_S hs0) (Or.inr ⟨_, rfl⟩) (tp_S_7 T hs0) ?_
        refine r_loc dX7_parentsOf_32 rfl ?_
        refine r_iald dX7_parentsOf_33 (sh_S_7 hs0) hf (fun v5 hf => ?_)
        obtain ⟨v7, c6, hf⟩ := cal_inv hf
        have g8 := rf_X7_bitOf (X := X) (d := d) (by omega) v5 T c6
        refine r_stat (pre := [.int v5]) (rest := [.int v3, .int x2]) dX7_parentsOf_34 ct_7_108 rfl (Nat.le_of_ble_eq_true rfl) (Nat.le_of_ble_eq_true rfl) g8 ?_
        refine r_alu dX7_parentsOf_37 rfl ?_
        refine r_alu dX7_parentsOf_38 rfl ?_
        refine r_loc (L' := [some (.ref s0), some (.int p1), some (.int (x2 ||| (v3 ||| v7))), some (.int x3)]) dX7_parentsOf_39 rfl ?_
        refine r_loc (L' := [some (.ref s0), some (.int p1), some (.int (x2 ||| (v3 ||| v7))), some (.int (x3 + 1))]) dX7_parentsOf_40 rfl ?_
        refine r_goto (q := 4) dX7_parentsOf_43 rfl ?_
        exact ih (x2 ||| (v3 ||| v7)) (x3 + 1) hf
theorem rf_X7_parentsOf {X : am_X} {d : Nat} (hd : 1 ≤ d) (s0 : Nat) (x1 : Int32) (hs0 : s0 ∈ am_ST) {h : am_H} (T : am_TP h.2.2) {r : Int32} (hf : f_X7_parentsOf s0 x1 h = some r) : am_G X d 7 false cX7_parentsOf (some .int) 0 [some (.ref s0), some (.int x1), none, none] [] (am_SH, h) (some (.int r), (am_SH, h)) := by
  unfold f_X7_parentsOf at hf
  obtain ⟨d, rfl⟩ : ∃ e, d = e + 1 := ⟨d - 1, by omega⟩
  refine r_iconst (v := 0) dX7_parentsOf_0 rfl ?_
  refine r_loc (L' := [some (.ref s0), some (.int x1), some (.int 0), none]) dX7_parentsOf_1 rfl ?_
  refine r_iconst (v := 0) dX7_parentsOf_2 rfl ?_
  refine r_loc (L' := [some (.ref s0), some (.int x1), some (.int 0), some (.int 0)]) dX7_parentsOf_3 rfl ?_
  refine rl_X7_parentsOf_4 (by omega) s0 x1 hs0 T _ ?_ 4000 0 0  hf
  · intro z9 hf
    refine r_loc dX7_parentsOf_46 rfl ?_
    cases hf
    exact r_ret T dX7_parentsOf_47 rfl
