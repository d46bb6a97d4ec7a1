/-! The other constructors, by program (wip/whole/ctor.py) -/
theorem bnd_inv {α ρ : Type} {x : α} {F : α → Option ρ} {r : ρ} (h : bnd x F = some r) : ∃ v, x = v ∧ F v = some r := ⟨x, rfl, h⟩
def lp_cX9_init_1_59 : Nat → Int64 → Int32 → Int32 → am_H → Option (am_H)
  | 0, _, _, _, _ => none
  | n + 1, x1, x3, x4, h => if x4 < 91 then chX x4 fun v11 => if v11 = 32 then if x3 < 18 then gtR h 1 1 3 (wrL h 3 18 x3 x1 fun h12 => lp_cX9_init_1_59 n 0 (x3 + 1) (x4 + 1) h12) else lp_cX9_init_1_59 n x1 x3 (x4 + 1) h else cal (f_X9_withLetter x1 v11 h) fun v18 => lp_cX9_init_1_59 n v18 x3 (x4 + 1) h else some h
def f_cX9_init_1  (h : am_H) : Option (am_H) := nwH h 2 fun h1 => ptR h1 1 0 2 fun h2 => nwH h2 3 fun h3 => ptR h3 1 1 3 fun h4 => ptI h4 1 2 0 fun h5 => ptI h5 1 3 0 fun h6 => ptI h6 1 4 31 fun h7 => ptI h7 1 5 0 fun h8 => ptI h8 1 6 0 fun h9 => ptL h9 1 7 0 fun h10 => lp_cX9_init_1_59  4000 0 0 0 h10
theorem rl_cX9_init_1_59 {X : am_X} {d : Nat} (hd : 10 ≤ d) {r : am_H} : ∀ (n : Nat) (x1 : Int64) (x3 : Int32) (x4 : Int32) (h : am_H), am_N0 h.2.2 → lp_cX9_init_1_59 n x1 x3 x4 h = some r → am_GG am_N0 X d 9 true cX9_init none 59 [some (.ref 1), some (.long x1), none, some (.int x3), some (.int x4), none] [] (am_SH.take 4, h) (none, (am_SH.take 4, r)) := by
  obtain ⟨d, rfl⟩ : ∃ e, d = e + 1 := ⟨d - 1, by omega⟩
  intro n
  induction n with
  | zero => intro x1 x3 x4 h T hf; cases hf
  | succ n ih =>
    intro x1 x3 x4 h T hf
    rw [lp_cX9_init_1_59] at hf
    refine r_loc dX9_init_59 rfl ?_
    refine r_ldcS dX9_init_61 rfl ?_
    refine r_slS dX9_init_63 ct_9_41 (Nat.le_of_ble_eq_true rfl) (by omega) ?_
    refine r_ge (q := 119) dX9_init_66 rfl hf (fun hf => ?_) (fun hf => ?_)
    · cases hf
      exact r_ret T dX9_init_119 rfl
    · refine r_ldcS dX9_init_69 rfl ?_
      refine r_loc dX9_init_71 rfl ?_
      refine r_chS dX9_init_73 ct_9_46 (Nat.le_of_ble_eq_true rfl) (by omega) hf (fun v11 hf => ?_)
      refine r_loc (L' := [some (.ref 1), some (.long x1), none, some (.int x3), some (.int x4), some (.int v11)]) dX9_init_76 rfl ?_
      refine r_loc dX9_init_78 rfl ?_
      refine r_bipush (v := 32) dX9_init_80 rfl ?_
      refine r_eq (q := 95) dX9_init_82 rfl hf (fun hf => ?_) (fun hf => ?_)
      · refine r_loc dX9_init_95 rfl ?_
        refine r_bipush (v := 18) dX9_init_96 rfl ?_
        refine r_ge (q := 113) dX9_init_98 rfl hf (fun hf => ?_) (fun hf => ?_)
        · refine r_loc (L' := [some (.ref 1), some (.long x1), none, some (.int x3), some (.int (x4 + 1)), some (.int v11)]) dX9_init_113 rfl ?_
          refine r_goto (q := 59) dX9_init_116 rfl ?_
          refine r_weak (L := [some (.ref 1), some (.long x1), none, some (.int x3), some (.int (x4 + 1)), none]) (am_le_s (am_le_s (am_le_n (am_le_s (am_le_s (am_le_n am_le_0)))))) ?_
          exact ih x1 x3 (x4 + 1) h T hf
        · refine r_loc dX9_init_101 rfl ?_
          refine r_gtR (y := 3) dX9_init_102 fl_9_15 (sh_tk sh_1 (by decide)) (Or.inr ⟨_, rfl⟩) hf (fun hf => ?_)
          refine r_loc dX9_init_105 rfl ?_
          refine r_loc dX9_init_106 rfl ?_
          refine r_last dX9_init_107 (sh_tk sh_3 (by decide)) hf (fun h12 e14 hf => ?_)
          have T13 := tp_eq e14 T
          refine r_loc (L' := [some (.ref 1), some (.long x1), none, some (.int (x3 + 1)), some (.int x4), some (.int v11)]) dX9_init_108 rfl ?_
          refine r_alu (st' := [.long 0]) dX9_init_111 rfl ?_
          refine r_loc (L' := [some (.ref 1), some (.long 0), none, some (.int (x3 + 1)), some (.int x4), some (.int v11)]) dX9_init_112 rfl ?_
          refine r_loc (L' := [some (.ref 1), some (.long 0), none, some (.int (x3 + 1)), some (.int (x4 + 1)), some (.int v11)]) dX9_init_113 rfl ?_
          refine r_goto (q := 59) dX9_init_116 rfl ?_
          refine r_weak (L := [some (.ref 1), some (.long 0), none, some (.int (x3 + 1)), some (.int (x4 + 1)), none]) (am_le_s (am_le_s (am_le_n (am_le_s (am_le_s (am_le_n am_le_0)))))) ?_
          exact ih 0 (x3 + 1) (x4 + 1) h12 T13 hf
      · refine r_loc dX9_init_85 rfl ?_
        refine r_loc dX9_init_86 rfl ?_
        obtain ⟨v18, c15, hf⟩ := cal_inv hf
        have g16 := am_GG_N0 (qf_X9_withLetter (X := X) (d := d) (by omega) x1 v11 (h := h) trivial c15)
        refine r_stat (pre := [.int v11, .long x1]) (rest := []) dX9_init_88 ct_9_50 rfl (Nat.le_of_ble_eq_true rfl) (Nat.le_of_ble_eq_true rfl) g16 ?_
        refine r_loc (L' := [some (.ref 1), some (.long v18), none, some (.int x3), some (.int x4), some (.int v11)]) dX9_init_91 rfl ?_
        refine r_goto (q := 113) dX9_init_92 rfl ?_
        refine r_loc (L' := [some (.ref 1), some (.long v18), none, some (.int x3), some (.int (x4 + 1)), some (.int v11)]) dX9_init_113 rfl ?_
        refine r_goto (q := 59) dX9_init_116 rfl ?_
        refine r_weak (L := [some (.ref 1), some (.long v18), none, some (.int x3), some (.int (x4 + 1)), none]) (am_le_s (am_le_s (am_le_n (am_le_s (am_le_s (am_le_n am_le_0)))))) ?_
        exact ih v18 x3 (x4 + 1) h trivial hf
theorem rf_cX9_init_1 {X : am_X} {d : Nat} (hd : 10 ≤ d)  {h : am_H} (T : am_N0 h.2.2) {r : am_H} (hf : f_cX9_init_1  h = some r) : am_GG am_N0 X d 9 true cX9_init none 0 [some (.ref 1), none, none, none, none, none] [] (am_SH.take 2, h) (none, (am_SH.take 4, r)) := by
  unfold f_cX9_init_1 at hf
  obtain ⟨d, rfl⟩ : ∃ e, d = e + 1 := ⟨d - 1, by omega⟩
  refine r_loc dX9_init_0 rfl ?_
  refine r_obj dX9_init_1 ct_9_3 (Nat.le_of_ble_eq_true rfl) ?_
  refine r_loc dX9_init_4 rfl ?_
  refine r_sipush (v := 1600) dX9_init_5 rfl ?_
  refine r_newar (k := 1600) (n2 := 3) dX9_init_8 rfl (by decide) (Nat.le_of_ble_eq_true rfl) sh_2 rfl hf (fun h1 hf => ?_)
  refine r_putR dX9_init_10 fl_9_9 (sh_tk sh_1 (by decide)) (Or.inr ⟨_, rfl⟩) (Or.inr ⟨rfl, rfl⟩) hf (fun h2 hf => ?_)
  refine r_loc dX9_init_13 rfl ?_
  refine r_bipush (v := 18) dX9_init_14 rfl ?_
  refine r_newar (k := 18) (n2 := 4) dX9_init_16 rfl (by decide) (Nat.le_of_ble_eq_true rfl) sh_3 rfl hf (fun h3 hf => ?_)
  refine r_putR dX9_init_18 fl_9_15 (sh_tk sh_1 (by decide)) (Or.inr ⟨_, rfl⟩) (Or.inr ⟨rfl, rfl⟩) hf (fun h4 hf => ?_)
  refine r_loc dX9_init_21 rfl ?_
  refine r_iconst (v := 0) dX9_init_22 rfl ?_
  refine r_putIc dX9_init_23 fl_9_19 (sh_tk sh_1 (by decide)) ⟨rfl, rfl⟩ hf (fun h5 hf => ?_)
  refine r_loc dX9_init_26 rfl ?_
  refine r_iconst (v := 0) dX9_init_27 rfl ?_
  refine r_putIc dX9_init_28 fl_9_23 (sh_tk sh_1 (by decide)) ⟨rfl, rfl⟩ hf (fun h6 hf => ?_)
  refine r_loc dX9_init_31 rfl ?_
  refine r_bipush (v := 31) dX9_init_32 rfl ?_
  refine r_putIc dX9_init_34 fl_9_26 (sh_tk sh_1 (by decide)) ⟨rfl, rfl⟩ hf (fun h7 hf => ?_)
  refine r_loc dX9_init_37 rfl ?_
  refine r_iconst (v := 0) dX9_init_38 rfl ?_
  refine r_putIc dX9_init_39 fl_9_29 (sh_tk sh_1 (by decide)) ⟨rfl, rfl⟩ hf (fun h8 hf => ?_)
  refine r_loc dX9_init_42 rfl ?_
  refine r_iconst (v := 0) dX9_init_43 rfl ?_
  refine r_putIc dX9_init_44 fl_9_32 (sh_tk sh_1 (by decide)) ⟨rfl, rfl⟩ hf (fun h9 hf => ?_)
  refine r_loc dX9_init_47 rfl ?_
  refine r_alu (st' := [.long 0, .ref 1]) dX9_init_48 rfl ?_
  refine r_putL dX9_init_49 fl_9_35 (sh_tk sh_1 (by decide)) ⟨rfl, rfl⟩ hf (fun h10 _ hf => ?_)
  refine r_alu (st' := [.long 0]) dX9_init_52 rfl ?_
  refine r_loc (L' := [some (.ref 1), some (.long 0), none, none, none, none]) dX9_init_53 rfl ?_
  refine r_iconst (v := 0) dX9_init_54 rfl ?_
  refine r_loc (L' := [some (.ref 1), some (.long 0), none, some (.int 0), none, none]) dX9_init_55 rfl ?_
  refine r_iconst (v := 0) dX9_init_56 rfl ?_
  refine r_loc (L' := [some (.ref 1), some (.long 0), none, some (.int 0), some (.int 0), none]) dX9_init_57 rfl ?_
  refine rl_cX9_init_1_59 (by omega)  4000 0 0 0 h10 trivial hf
def f_cX2_init_10  (h : am_H) : Option (am_H) := nwH h 11 fun h1 => ptR h1 10 0 11 fun h2 => nwH h2 12 fun h3 => ptR h3 10 1 12 fun h4 => nwH h4 13 fun h5 => ptR h5 10 2 13 fun h6 => ptI h6 10 3 0 fun h7 => ptI h7 10 4 0 fun h8 => some h8
theorem rf_cX2_init_10 {X : am_X} {d : Nat} (hd : 1 ≤ d)  {h : am_H} (T : am_N0 h.2.2) {r : am_H} (hf : f_cX2_init_10  h = some r) : am_GG am_N0 X d 2 true cX2_init none 0 [some (.ref 10)] [] (am_SH.take 11, h) (none, (am_SH.take 14, r)) := by
  unfold f_cX2_init_10 at hf
  obtain ⟨d, rfl⟩ : ∃ e, d = e + 1 := ⟨d - 1, by omega⟩
  refine r_loc dX2_init_0 rfl ?_
  refine r_obj dX2_init_1 ct_2_3 (Nat.le_of_ble_eq_true rfl) ?_
  refine r_loc dX2_init_4 rfl ?_
  refine r_sipush (v := 300) dX2_init_5 rfl ?_
  refine r_newar (k := 300) (n2 := 12) dX2_init_8 rfl (by decide) (Nat.le_of_ble_eq_true rfl) sh_11 rfl hf (fun h1 hf => ?_)
  refine r_putR dX2_init_10 fl_2_9 (sh_tk sh_10 (by decide)) (Or.inr ⟨_, rfl⟩) (Or.inr ⟨rfl, rfl⟩) hf (fun h2 hf => ?_)
  refine r_loc dX2_init_13 rfl ?_
  refine r_sipush (v := 300) dX2_init_14 rfl ?_
  refine r_newar (k := 300) (n2 := 13) dX2_init_17 rfl (by decide) (Nat.le_of_ble_eq_true rfl) sh_12 rfl hf (fun h3 hf => ?_)
  refine r_putR dX2_init_19 fl_2_15 (sh_tk sh_10 (by decide)) (Or.inr ⟨_, rfl⟩) (Or.inr ⟨rfl, rfl⟩) hf (fun h4 hf => ?_)
  refine r_loc dX2_init_22 rfl ?_
  refine r_sipush (v := 300) dX2_init_23 rfl ?_
  refine r_newar (k := 300) (n2 := 14) dX2_init_26 rfl (by decide) (Nat.le_of_ble_eq_true rfl) sh_13 rfl hf (fun h5 hf => ?_)
  refine r_putR dX2_init_28 fl_2_18 (sh_tk sh_10 (by decide)) (Or.inr ⟨_, rfl⟩) (Or.inr ⟨rfl, rfl⟩) hf (fun h6 hf => ?_)
  refine r_loc dX2_init_31 rfl ?_
  refine r_iconst (v := 0) dX2_init_32 rfl ?_
  refine r_putIc dX2_init_33 fl_2_21 (sh_tk sh_10 (by decide)) ⟨rfl, rfl⟩ hf (fun h7 hf => ?_)
  refine r_loc dX2_init_36 rfl ?_
  refine r_iconst (v := 0) dX2_init_37 rfl ?_
  refine r_putIc dX2_init_38 fl_2_25 (sh_tk sh_10 (by decide)) ⟨rfl, rfl⟩ hf (fun h8 hf => ?_)
  cases hf
  exact r_ret trivial dX2_init_41 rfl
def f_cX4_init_4  (h : am_H) : Option (am_H) := nwH h 5 fun h1 => ptR h1 4 0 5 fun h2 => nwH h2 6 fun h3 => ptR h3 4 1 6 fun h4 => nwH h4 7 fun h5 => ptR h5 4 2 7 fun h6 => nwH h6 8 fun h7 => ptR h7 4 3 8 fun h8 => nwH h8 9 fun h9 => ptR h9 4 4 9 fun h10 => nwH h10 10 fun h11 => cal (f_cX2_init_10 h11) fun h14 => ptR h14 4 5 10 fun h15 => ptI h15 4 6 0 fun h16 => ptI h16 4 7 0 fun h17 => ptI h17 4 8 3 fun h18 => ptI h18 4 9 0 fun h19 => ptI h19 4 10 0 fun h20 => gtR h20 4 5 10 (chk (am_PFb 10 h20.2.2 = true) (cal (f_X2_beAsUntold_10 h20) fun h23 => some h23))
theorem rf_cX4_init_4 {X : am_X} {d : Nat} (hd : 2 ≤ d)  {h : am_H} (T : am_N0 h.2.2) {r : am_H} (hf : f_cX4_init_4  h = some r) : am_GG am_N0 X d 4 true cX4_init none 0 [some (.ref 4)] [] (am_SH.take 5, h) (none, (am_SH.take 14, r)) := by
  unfold f_cX4_init_4 at hf
  obtain ⟨d, rfl⟩ : ∃ e, d = e + 1 := ⟨d - 1, by omega⟩
  refine r_loc dX4_init_0 rfl ?_
  refine r_obj dX4_init_1 ct_4_3 (Nat.le_of_ble_eq_true rfl) ?_
  refine r_loc dX4_init_4 rfl ?_
  refine r_iconst (v := 4) dX4_init_5 rfl ?_
  refine r_newar (k := 4) (n2 := 6) dX4_init_6 rfl (by decide) (Nat.le_of_ble_eq_true rfl) sh_5 rfl hf (fun h1 hf => ?_)
  refine r_putR dX4_init_8 fl_4_9 (sh_tk sh_4 (by decide)) (Or.inr ⟨_, rfl⟩) (Or.inr ⟨rfl, rfl⟩) hf (fun h2 hf => ?_)
  refine r_loc dX4_init_11 rfl ?_
  refine r_bipush (v := 6) dX4_init_12 rfl ?_
  refine r_newar (k := 6) (n2 := 7) dX4_init_14 rfl (by decide) (Nat.le_of_ble_eq_true rfl) sh_6 rfl hf (fun h3 hf => ?_)
  refine r_putR dX4_init_16 fl_4_15 (sh_tk sh_4 (by decide)) (Or.inr ⟨_, rfl⟩) (Or.inr ⟨rfl, rfl⟩) hf (fun h4 hf => ?_)
  refine r_loc dX4_init_19 rfl ?_
  refine r_bipush (v := 6) dX4_init_20 rfl ?_
  refine r_newar (k := 6) (n2 := 8) dX4_init_22 rfl (by decide) (Nat.le_of_ble_eq_true rfl) sh_7 rfl hf (fun h5 hf => ?_)
  refine r_putR dX4_init_24 fl_4_18 (sh_tk sh_4 (by decide)) (Or.inr ⟨_, rfl⟩) (Or.inr ⟨rfl, rfl⟩) hf (fun h6 hf => ?_)
  refine r_loc dX4_init_27 rfl ?_
  refine r_bipush (v := 6) dX4_init_28 rfl ?_
  refine r_newar (k := 6) (n2 := 9) dX4_init_30 rfl (by decide) (Nat.le_of_ble_eq_true rfl) sh_8 rfl hf (fun h7 hf => ?_)
  refine r_putR dX4_init_32 fl_4_21 (sh_tk sh_4 (by decide)) (Or.inr ⟨_, rfl⟩) (Or.inr ⟨rfl, rfl⟩) hf (fun h8 hf => ?_)
  refine r_loc dX4_init_35 rfl ?_
  refine r_bipush (v := 6) dX4_init_36 rfl ?_
  refine r_newar (k := 6) (n2 := 10) dX4_init_38 rfl (by decide) (Nat.le_of_ble_eq_true rfl) sh_9 rfl hf (fun h9 hf => ?_)
  refine r_putR dX4_init_40 fl_4_24 (sh_tk sh_4 (by decide)) (Or.inr ⟨_, rfl⟩) (Or.inr ⟨rfl, rfl⟩) hf (fun h10 hf => ?_)
  refine r_loc dX4_init_43 rfl ?_
  refine r_new (n2 := 11) dX4_init_44 rfl sh_10 rfl hf (fun h11 hf => ?_)
  refine r_alu dX4_init_47 rfl ?_
  obtain ⟨h14, c12, hf⟩ := cal_inv hf
  have g13 := rf_cX2_init_10 (X := X) (d := d) (by omega) (h := h11) trivial c12
  refine r_spec (pre := []) (rest := [.ref 10, .ref 4]) dX4_init_48 ct_4_29 (Or.inr rfl) rfl (Nat.le_of_ble_eq_true rfl) (Nat.le_of_ble_eq_true rfl) g13 ?_
  refine r_putR dX4_init_51 fl_4_30 (sh_tk sh_4 (by decide)) (Or.inl ⟨_, rfl⟩) (Or.inr ⟨rfl, rfl⟩) hf (fun h15 hf => ?_)
  refine r_loc dX4_init_54 rfl ?_
  refine r_iconst (v := 0) dX4_init_55 rfl ?_
  refine r_putIc dX4_init_56 fl_4_34 (sh_tk sh_4 (by decide)) ⟨rfl, rfl⟩ hf (fun h16 hf => ?_)
  refine r_loc dX4_init_59 rfl ?_
  refine r_iconst (v := 0) dX4_init_60 rfl ?_
  refine r_putIc dX4_init_61 fl_4_38 (sh_tk sh_4 (by decide)) ⟨rfl, rfl⟩ hf (fun h17 hf => ?_)
  refine r_loc dX4_init_64 rfl ?_
  refine r_iconst (v := 3) dX4_init_65 rfl ?_
  refine r_putIc dX4_init_66 fl_4_41 (sh_tk sh_4 (by decide)) ⟨rfl, rfl⟩ hf (fun h18 hf => ?_)
  refine r_loc dX4_init_69 rfl ?_
  refine r_iconst (v := 0) dX4_init_70 rfl ?_
  refine r_putIc dX4_init_71 fl_4_44 (sh_tk sh_4 (by decide)) ⟨rfl, rfl⟩ hf (fun h19 hf => ?_)
  refine r_loc dX4_init_74 rfl ?_
  refine r_iconst (v := 0) dX4_init_75 rfl ?_
  refine r_putIc dX4_init_76 fl_4_47 (sh_tk sh_4 (by decide)) ⟨rfl, rfl⟩ hf (fun h20 hf => ?_)
  refine r_loc dX4_init_79 rfl ?_
  refine r_gtR (y := 10) dX4_init_80 fl_4_30 (sh_tk sh_4 (by decide)) (Or.inl ⟨_, rfl⟩) hf (fun hf => ?_)
  obtain ⟨Tp, hf⟩ := chk_inv hf
  obtain ⟨h23, c21, hf⟩ := cal_inv hf
  have g22 := am_GG_N0 (qf_X2_beAsUntold_10 (X := X) (d := d) (by omega)  (h := h20) (am_PF_ok Tp) c21)
  refine r_virt (pre := []) (rest := []) dX4_init_83 ct_4_50 rfl (sh_tk sh_10 (by decide)) (Nat.le_of_ble_eq_true rfl) (Nat.le_of_ble_eq_true rfl) g22 ?_
  cases hf
  exact r_ret trivial dX4_init_86 rfl
def f_cX2_init_23  (h : am_H) : Option (am_H) := nwH h 24 fun h1 => ptR h1 23 0 24 fun h2 => nwH h2 25 fun h3 => ptR h3 23 1 25 fun h4 => nwH h4 26 fun h5 => ptR h5 23 2 26 fun h6 => ptI h6 23 3 0 fun h7 => ptI h7 23 4 0 fun h8 => some h8
theorem rf_cX2_init_23 {X : am_X} {d : Nat} (hd : 1 ≤ d)  {h : am_H} (T : am_N0 h.2.2) {r : am_H} (hf : f_cX2_init_23  h = some r) : am_GG am_N0 X d 2 true cX2_init none 0 [some (.ref 23)] [] (am_SH.take 24, h) (none, (am_SH.take 27, r)) := by
  unfold f_cX2_init_23 at hf
  obtain ⟨d, rfl⟩ : ∃ e, d = e + 1 := ⟨d - 1, by omega⟩
  refine r_loc dX2_init_0 rfl ?_
  refine r_obj dX2_init_1 ct_2_3 (Nat.le_of_ble_eq_true rfl) ?_
  refine r_loc dX2_init_4 rfl ?_
  refine r_sipush (v := 300) dX2_init_5 rfl ?_
  refine r_newar (k := 300) (n2 := 25) dX2_init_8 rfl (by decide) (Nat.le_of_ble_eq_true rfl) sh_24 rfl hf (fun h1 hf => ?_)
  refine r_putR dX2_init_10 fl_2_9 (sh_tk sh_23 (by decide)) (Or.inr ⟨_, rfl⟩) (Or.inr ⟨rfl, rfl⟩) hf (fun h2 hf => ?_)
  refine r_loc dX2_init_13 rfl ?_
  refine r_sipush (v := 300) dX2_init_14 rfl ?_
  refine r_newar (k := 300) (n2 := 26) dX2_init_17 rfl (by decide) (Nat.le_of_ble_eq_true rfl) sh_25 rfl hf (fun h3 hf => ?_)
  refine r_putR dX2_init_19 fl_2_15 (sh_tk sh_23 (by decide)) (Or.inr ⟨_, rfl⟩) (Or.inr ⟨rfl, rfl⟩) hf (fun h4 hf => ?_)
  refine r_loc dX2_init_22 rfl ?_
  refine r_sipush (v := 300) dX2_init_23 rfl ?_
  refine r_newar (k := 300) (n2 := 27) dX2_init_26 rfl (by decide) (Nat.le_of_ble_eq_true rfl) sh_26 rfl hf (fun h5 hf => ?_)
  refine r_putR dX2_init_28 fl_2_18 (sh_tk sh_23 (by decide)) (Or.inr ⟨_, rfl⟩) (Or.inr ⟨rfl, rfl⟩) hf (fun h6 hf => ?_)
  refine r_loc dX2_init_31 rfl ?_
  refine r_iconst (v := 0) dX2_init_32 rfl ?_
  refine r_putIc dX2_init_33 fl_2_21 (sh_tk sh_23 (by decide)) ⟨rfl, rfl⟩ hf (fun h7 hf => ?_)
  refine r_loc dX2_init_36 rfl ?_
  refine r_iconst (v := 0) dX2_init_37 rfl ?_
  refine r_putIc dX2_init_38 fl_2_25 (sh_tk sh_23 (by decide)) ⟨rfl, rfl⟩ hf (fun h8 hf => ?_)
  cases hf
  exact r_ret trivial dX2_init_41 rfl
def f_cX4_init_17  (h : am_H) : Option (am_H) := nwH h 18 fun h1 => ptR h1 17 0 18 fun h2 => nwH h2 19 fun h3 => ptR h3 17 1 19 fun h4 => nwH h4 20 fun h5 => ptR h5 17 2 20 fun h6 => nwH h6 21 fun h7 => ptR h7 17 3 21 fun h8 => nwH h8 22 fun h9 => ptR h9 17 4 22 fun h10 => nwH h10 23 fun h11 => cal (f_cX2_init_23 h11) fun h14 => ptR h14 17 5 23 fun h15 => ptI h15 17 6 0 fun h16 => ptI h16 17 7 0 fun h17 => ptI h17 17 8 3 fun h18 => ptI h18 17 9 0 fun h19 => ptI h19 17 10 0 fun h20 => gtR h20 17 5 23 (chk (am_PFb 23 h20.2.2 = true) (cal (f_X2_beAsUntold_23 h20) fun h23 => some h23))
theorem rf_cX4_init_17 {X : am_X} {d : Nat} (hd : 2 ≤ d)  {h : am_H} (T : am_N0 h.2.2) {r : am_H} (hf : f_cX4_init_17  h = some r) : am_GG am_N0 X d 4 true cX4_init none 0 [some (.ref 17)] [] (am_SH.take 18, h) (none, (am_SH.take 27, r)) := by
  unfold f_cX4_init_17 at hf
  obtain ⟨d, rfl⟩ : ∃ e, d = e + 1 := ⟨d - 1, by omega⟩
  refine r_loc dX4_init_0 rfl ?_
  refine r_obj dX4_init_1 ct_4_3 (Nat.le_of_ble_eq_true rfl) ?_
  refine r_loc dX4_init_4 rfl ?_
  refine r_iconst (v := 4) dX4_init_5 rfl ?_
  refine r_newar (k := 4) (n2 := 19) dX4_init_6 rfl (by decide) (Nat.le_of_ble_eq_true rfl) sh_18 rfl hf (fun h1 hf => ?_)
  refine r_putR dX4_init_8 fl_4_9 (sh_tk sh_17 (by decide)) (Or.inr ⟨_, rfl⟩) (Or.inr ⟨rfl, rfl⟩) hf (fun h2 hf => ?_)
  refine r_loc dX4_init_11 rfl ?_
  refine r_bipush (v := 6) dX4_init_12 rfl ?_
  refine r_newar (k := 6) (n2 := 20) dX4_init_14 rfl (by decide) (Nat.le_of_ble_eq_true rfl) sh_19 rfl hf (fun h3 hf => ?_)
  refine r_putR dX4_init_16 fl_4_15 (sh_tk sh_17 (by decide)) (Or.inr ⟨_, rfl⟩) (Or.inr ⟨rfl, rfl⟩) hf (fun h4 hf => ?_)
  refine r_loc dX4_init_19 rfl ?_
  refine r_bipush (v := 6) dX4_init_20 rfl ?_
  refine r_newar (k := 6) (n2 := 21) dX4_init_22 rfl (by decide) (Nat.le_of_ble_eq_true rfl) sh_20 rfl hf (fun h5 hf => ?_)
  refine r_putR dX4_init_24 fl_4_18 (sh_tk sh_17 (by decide)) (Or.inr ⟨_, rfl⟩) (Or.inr ⟨rfl, rfl⟩) hf (fun h6 hf => ?_)
  refine r_loc dX4_init_27 rfl ?_
  refine r_bipush (v := 6) dX4_init_28 rfl ?_
  refine r_newar (k := 6) (n2 := 22) dX4_init_30 rfl (by decide) (Nat.le_of_ble_eq_true rfl) sh_21 rfl hf (fun h7 hf => ?_)
  refine r_putR dX4_init_32 fl_4_21 (sh_tk sh_17 (by decide)) (Or.inr ⟨_, rfl⟩) (Or.inr ⟨rfl, rfl⟩) hf (fun h8 hf => ?_)
  refine r_loc dX4_init_35 rfl ?_
  refine r_bipush (v := 6) dX4_init_36 rfl ?_
  refine r_newar (k := 6) (n2 := 23) dX4_init_38 rfl (by decide) (Nat.le_of_ble_eq_true rfl) sh_22 rfl hf (fun h9 hf => ?_)
  refine r_putR dX4_init_40 fl_4_24 (sh_tk sh_17 (by decide)) (Or.inr ⟨_, rfl⟩) (Or.inr ⟨rfl, rfl⟩) hf (fun h10 hf => ?_)
  refine r_loc dX4_init_43 rfl ?_
  refine r_new (n2 := 24) dX4_init_44 rfl sh_23 rfl hf (fun h11 hf => ?_)
  refine r_alu dX4_init_47 rfl ?_
  obtain ⟨h14, c12, hf⟩ := cal_inv hf
  have g13 := rf_cX2_init_23 (X := X) (d := d) (by omega) (h := h11) trivial c12
  refine r_spec (pre := []) (rest := [.ref 23, .ref 17]) dX4_init_48 ct_4_29 (Or.inr rfl) rfl (Nat.le_of_ble_eq_true rfl) (Nat.le_of_ble_eq_true rfl) g13 ?_
  refine r_putR dX4_init_51 fl_4_30 (sh_tk sh_17 (by decide)) (Or.inl ⟨_, rfl⟩) (Or.inr ⟨rfl, rfl⟩) hf (fun h15 hf => ?_)
  refine r_loc dX4_init_54 rfl ?_
  refine r_iconst (v := 0) dX4_init_55 rfl ?_
  refine r_putIc dX4_init_56 fl_4_34 (sh_tk sh_17 (by decide)) ⟨rfl, rfl⟩ hf (fun h16 hf => ?_)
  refine r_loc dX4_init_59 rfl ?_
  refine r_iconst (v := 0) dX4_init_60 rfl ?_
  refine r_putIc dX4_init_61 fl_4_38 (sh_tk sh_17 (by decide)) ⟨rfl, rfl⟩ hf (fun h17 hf => ?_)
  refine r_loc dX4_init_64 rfl ?_
  refine r_iconst (v := 3) dX4_init_65 rfl ?_
  refine r_putIc dX4_init_66 fl_4_41 (sh_tk sh_17 (by decide)) ⟨rfl, rfl⟩ hf (fun h18 hf => ?_)
  refine r_loc dX4_init_69 rfl ?_
  refine r_iconst (v := 0) dX4_init_70 rfl ?_
  refine r_putIc dX4_init_71 fl_4_44 (sh_tk sh_17 (by decide)) ⟨rfl, rfl⟩ hf (fun h19 hf => ?_)
  refine r_loc dX4_init_74 rfl ?_
  refine r_iconst (v := 0) dX4_init_75 rfl ?_
  refine r_putIc dX4_init_76 fl_4_47 (sh_tk sh_17 (by decide)) ⟨rfl, rfl⟩ hf (fun h20 hf => ?_)
  refine r_loc dX4_init_79 rfl ?_
  refine r_gtR (y := 23) dX4_init_80 fl_4_30 (sh_tk sh_17 (by decide)) (Or.inl ⟨_, rfl⟩) hf (fun hf => ?_)
  obtain ⟨Tp, hf⟩ := chk_inv hf
  obtain ⟨h23, c21, hf⟩ := cal_inv hf
  have g22 := am_GG_N0 (qf_X2_beAsUntold_23 (X := X) (d := d) (by omega)  (h := h20) (am_PF_ok Tp) c21)
  refine r_virt (pre := []) (rest := []) dX4_init_83 ct_4_50 rfl (sh_tk sh_23 (by decide)) (Nat.le_of_ble_eq_true rfl) (Nat.le_of_ble_eq_true rfl) g22 ?_
  cases hf
  exact r_ret trivial dX4_init_86 rfl
def f_cX5_init_14  (h : am_H) : Option (am_H) := nwH h 15 fun h1 => ptR h1 14 1 15 fun h2 => nwH h2 16 fun h3 => ptR h3 14 2 16 fun h4 => ptI h4 14 3 0 fun h5 => ptI h5 14 4 0 fun h6 => nwH h6 17 fun h7 => cal (f_cX4_init_17 h7) fun h10 => ptR h10 14 5 17 fun h11 => ptI h11 14 6 0 fun h12 => ptI h12 14 7 (-1) fun h13 => ptR h13 14 0 1 fun h14 => some h14
theorem rf_cX5_init_14 {X : am_X} {d : Nat} (hd : 3 ≤ d)  {h : am_H} (T : am_N0 h.2.2) {r : am_H} (hf : f_cX5_init_14  h = some r) : am_GG am_N0 X d 5 true cX5_init none 0 [some (.ref 14), some (.ref 1)] [] (am_SH.take 15, h) (none, (am_SH.take 27, r)) := by
  unfold f_cX5_init_14 at hf
  obtain ⟨d, rfl⟩ : ∃ e, d = e + 1 := ⟨d - 1, by omega⟩
  refine r_loc dX5_init_0 rfl ?_
  refine r_obj dX5_init_1 ct_5_3 (Nat.le_of_ble_eq_true rfl) ?_
  refine r_loc dX5_init_4 rfl ?_
  refine r_iconst (v := 4) dX5_init_5 rfl ?_
  refine r_newar (k := 4) (n2 := 16) dX5_init_6 rfl (by decide) (Nat.le_of_ble_eq_true rfl) sh_15 rfl hf (fun h1 hf => ?_)
  refine r_putR dX5_init_8 fl_5_9 (sh_tk sh_14 (by decide)) (Or.inr ⟨_, rfl⟩) (Or.inr ⟨rfl, rfl⟩) hf (fun h2 hf => ?_)
  refine r_loc dX5_init_11 rfl ?_
  refine r_bipush (v := 6) dX5_init_12 rfl ?_
  refine r_newar (k := 6) (n2 := 17) dX5_init_14 rfl (by decide) (Nat.le_of_ble_eq_true rfl) sh_16 rfl hf (fun h3 hf => ?_)
  refine r_putR dX5_init_16 fl_5_15 (sh_tk sh_14 (by decide)) (Or.inr ⟨_, rfl⟩) (Or.inr ⟨rfl, rfl⟩) hf (fun h4 hf => ?_)
  refine r_loc dX5_init_19 rfl ?_
  refine r_iconst (v := 0) dX5_init_20 rfl ?_
  refine r_putIc dX5_init_21 fl_5_18 (sh_tk sh_14 (by decide)) ⟨rfl, rfl⟩ hf (fun h5 hf => ?_)
  refine r_loc dX5_init_24 rfl ?_
  refine r_iconst (v := 0) dX5_init_25 rfl ?_
  refine r_putIc dX5_init_26 fl_5_22 (sh_tk sh_14 (by decide)) ⟨rfl, rfl⟩ hf (fun h6 hf => ?_)
  refine r_loc dX5_init_29 rfl ?_
  refine r_new (n2 := 18) dX5_init_30 rfl sh_17 rfl hf (fun h7 hf => ?_)
  refine r_alu dX5_init_33 rfl ?_
  obtain ⟨h10, c8, hf⟩ := cal_inv hf
  have g9 := rf_cX4_init_17 (X := X) (d := d) (by omega) (h := h7) trivial c8
  refine r_spec (pre := []) (rest := [.ref 17, .ref 14]) dX5_init_34 ct_5_27 (Or.inl rfl) rfl (Nat.le_of_ble_eq_true rfl) (Nat.le_of_ble_eq_true rfl) g9 ?_
  refine r_putR dX5_init_37 fl_5_28 (sh_tk sh_14 (by decide)) (Or.inl ⟨_, rfl⟩) (Or.inr ⟨rfl, rfl⟩) hf (fun h11 hf => ?_)
  refine r_loc dX5_init_40 rfl ?_
  refine r_iconst (v := 0) dX5_init_41 rfl ?_
  refine r_putIc dX5_init_42 fl_5_32 (sh_tk sh_14 (by decide)) ⟨rfl, rfl⟩ hf (fun h12 hf => ?_)
  refine r_loc dX5_init_45 rfl ?_
  refine r_iconst (v := (-1)) dX5_init_46 rfl ?_
  refine r_putIc dX5_init_47 fl_5_35 (sh_tk sh_14 (by decide)) ⟨rfl, rfl⟩ hf (fun h13 hf => ?_)
  refine r_loc dX5_init_50 rfl ?_
  refine r_loc dX5_init_51 rfl ?_
  refine r_putR dX5_init_52 fl_5_38 (sh_tk sh_14 (by decide)) (Or.inl ⟨_, rfl⟩) (Or.inr ⟨rfl, rfl⟩) hf (fun h14 hf => ?_)
  cases hf
  exact r_ret trivial dX5_init_55 rfl
def f_cX10_init_35  (h : am_H) : Option (am_H) := ptI h 35 2 0 fun h1 => ptI h1 35 3 0 fun h2 => ptR h2 35 0 4 fun h3 => nwH h3 36 fun h4 => bnd (stN 36 h4) fun h7 => ptR h7 35 1 36 fun h8 => some h8
theorem rf_cX10_init_35 {X : am_X} {d : Nat} (hd : 2 ≤ d)  {h : am_H} (T : am_N0 h.2.2) {r : am_H} (hf : f_cX10_init_35  h = some r) : am_GG am_N0 X d 10 true cX10_init none 0 [some (.ref 35), some (.ref 4)] [] (am_SH.take 36, h) (none, (am_SH.take 44, r)) := by
  unfold f_cX10_init_35 at hf
  obtain ⟨d, rfl⟩ : ∃ e, d = e + 1 := ⟨d - 1, by omega⟩
  refine r_loc dX10_init_0 rfl ?_
  refine r_obj dX10_init_1 ct_10_3 (Nat.le_of_ble_eq_true rfl) ?_
  refine r_loc dX10_init_4 rfl ?_
  refine r_iconst (v := 0) dX10_init_5 rfl ?_
  refine r_putIc dX10_init_6 fl_10_9 (sh_tk sh_35 (by decide)) ⟨rfl, rfl⟩ hf (fun h1 hf => ?_)
  refine r_loc dX10_init_9 rfl ?_
  refine r_iconst (v := 0) dX10_init_10 rfl ?_
  refine r_putIc dX10_init_11 fl_10_15 (sh_tk sh_35 (by decide)) ⟨rfl, rfl⟩ hf (fun h2 hf => ?_)
  refine r_loc dX10_init_14 rfl ?_
  refine r_loc dX10_init_15 rfl ?_
  refine r_putR dX10_init_16 fl_10_18 (sh_tk sh_35 (by decide)) (Or.inl ⟨_, rfl⟩) (Or.inr ⟨rfl, rfl⟩) hf (fun h3 hf => ?_)
  refine r_loc dX10_init_19 rfl ?_
  refine r_new (n2 := 37) dX10_init_20 rfl (sh_S (s := 36) (by decide)) rfl hf (fun h4 hf => ?_)
  refine r_alu dX10_init_23 rfl ?_
  refine r_loc dX10_init_24 rfl ?_
  obtain ⟨h7, c5, hf⟩ := bnd_inv hf
  have g6 := rf_cX7_init (X := X) (d := d) (by omega) 36 (by decide) (h := h4) trivial (f_cX7_init_eq.trans (congrArg some c5))
  refine r_spec (pre := [.ref 4]) (rest := [.ref 36, .ref 35]) dX10_init_25 ct_10_24 (Or.inl rfl) rfl (Nat.le_of_ble_eq_true rfl) (Nat.le_of_ble_eq_true rfl) g6 ?_
  refine r_putR dX10_init_28 fl_10_27 (sh_tk sh_35 (by decide)) (Or.inl ⟨_, rfl⟩) (Or.inr ⟨rfl, rfl⟩) hf (fun h8 hf => ?_)
  cases hf
  exact r_ret trivial dX10_init_31 rfl
def f_cX0_init_44  (h : am_H) : Option (am_H) := nwH h 45 fun h1 => ptR h1 44 0 45 fun h2 => ptI h2 44 1 0 fun h3 => ptI h3 44 2 0 fun h4 => gtR h4 44 0 45 (nwH h4 46 fun h5 => bnd (stN 46 h5) fun h8 => wrR h8 45 41 0 46 fun h9 => gtR h9 44 0 45 (nwH h9 54 fun h10 => bnd (stN 54 h10) fun h13 => wrR h13 45 41 1 54 fun h14 => gtR h14 44 0 45 (nwH h14 62 fun h15 => bnd (stN 62 h15) fun h18 => wrR h18 45 41 2 62 fun h19 => gtR h19 44 0 45 (nwH h19 70 fun h20 => bnd (stN 70 h20) fun h23 => wrR h23 45 41 3 70 fun h24 => gtR h24 44 0 45 (nwH h24 78 fun h25 => bnd (stN 78 h25) fun h28 => wrR h28 45 41 4 78 fun h29 => gtR h29 44 0 45 (nwH h29 86 fun h30 => bnd (stN 86 h30) fun h33 => wrR h33 45 41 5 86 fun h34 => gtR h34 44 0 45 (nwH h34 94 fun h35 => bnd (stN 94 h35) fun h38 => wrR h38 45 41 6 94 fun h39 => gtR h39 44 0 45 (nwH h39 102 fun h40 => bnd (stN 102 h40) fun h43 => wrR h43 45 41 7 102 fun h44 => gtR h44 44 0 45 (nwH h44 110 fun h45 => bnd (stN 110 h45) fun h48 => wrR h48 45 41 8 110 fun h49 => gtR h49 44 0 45 (nwH h49 118 fun h50 => bnd (stN 118 h50) fun h53 => wrR h53 45 41 9 118 fun h54 => gtR h54 44 0 45 (nwH h54 126 fun h55 => bnd (stN 126 h55) fun h58 => wrR h58 45 41 10 126 fun h59 => gtR h59 44 0 45 (nwH h59 134 fun h60 => bnd (stN 134 h60) fun h63 => wrR h63 45 41 11 134 fun h64 => gtR h64 44 0 45 (nwH h64 142 fun h65 => bnd (stN 142 h65) fun h68 => wrR h68 45 41 12 142 fun h69 => gtR h69 44 0 45 (nwH h69 150 fun h70 => bnd (stN 150 h70) fun h73 => wrR h73 45 41 13 150 fun h74 => gtR h74 44 0 45 (nwH h74 158 fun h75 => bnd (stN 158 h75) fun h78 => wrR h78 45 41 14 158 fun h79 => gtR h79 44 0 45 (nwH h79 166 fun h80 => bnd (stN 166 h80) fun h83 => wrR h83 45 41 15 166 fun h84 => gtR h84 44 0 45 (nwH h84 174 fun h85 => bnd (stN 174 h85) fun h88 => wrR h88 45 41 16 174 fun h89 => gtR h89 44 0 45 (nwH h89 182 fun h90 => bnd (stN 182 h90) fun h93 => wrR h93 45 41 17 182 fun h94 => gtR h94 44 0 45 (nwH h94 190 fun h95 => bnd (stN 190 h95) fun h98 => wrR h98 45 41 18 190 fun h99 => gtR h99 44 0 45 (nwH h99 198 fun h100 => bnd (stN 198 h100) fun h103 => wrR h103 45 41 19 198 fun h104 => gtR h104 44 0 45 (nwH h104 206 fun h105 => bnd (stN 206 h105) fun h108 => wrR h108 45 41 20 206 fun h109 => gtR h109 44 0 45 (nwH h109 214 fun h110 => bnd (stN 214 h110) fun h113 => wrR h113 45 41 21 214 fun h114 => gtR h114 44 0 45 (nwH h114 222 fun h115 => bnd (stN 222 h115) fun h118 => wrR h118 45 41 22 222 fun h119 => gtR h119 44 0 45 (nwH h119 230 fun h120 => bnd (stN 230 h120) fun h123 => wrR h123 45 41 23 230 fun h124 => gtR h124 44 0 45 (nwH h124 238 fun h125 => bnd (stN 238 h125) fun h128 => wrR h128 45 41 24 238 fun h129 => gtR h129 44 0 45 (nwH h129 246 fun h130 => bnd (stN 246 h130) fun h133 => wrR h133 45 41 25 246 fun h134 => gtR h134 44 0 45 (nwH h134 254 fun h135 => bnd (stN 254 h135) fun h138 => wrR h138 45 41 26 254 fun h139 => gtR h139 44 0 45 (nwH h139 262 fun h140 => bnd (stN 262 h140) fun h143 => wrR h143 45 41 27 262 fun h144 => gtR h144 44 0 45 (nwH h144 270 fun h145 => bnd (stN 270 h145) fun h148 => wrR h148 45 41 28 270 fun h149 => gtR h149 44 0 45 (nwH h149 278 fun h150 => bnd (stN 278 h150) fun h153 => wrR h153 45 41 29 278 fun h154 => gtR h154 44 0 45 (nwH h154 286 fun h155 => bnd (stN 286 h155) fun h158 => wrR h158 45 41 30 286 fun h159 => gtR h159 44 0 45 (nwH h159 294 fun h160 => bnd (stN 294 h160) fun h163 => wrR h163 45 41 31 294 fun h164 => gtR h164 44 0 45 (nwH h164 302 fun h165 => bnd (stN 302 h165) fun h168 => wrR h168 45 41 32 302 fun h169 => gtR h169 44 0 45 (nwH h169 310 fun h170 => bnd (stN 310 h170) fun h173 => wrR h173 45 41 33 310 fun h174 => gtR h174 44 0 45 (nwH h174 318 fun h175 => bnd (stN 318 h175) fun h178 => wrR h178 45 41 34 318 fun h179 => gtR h179 44 0 45 (nwH h179 326 fun h180 => bnd (stN 326 h180) fun h183 => wrR h183 45 41 35 326 fun h184 => gtR h184 44 0 45 (nwH h184 334 fun h185 => bnd (stN 334 h185) fun h188 => wrR h188 45 41 36 334 fun h189 => gtR h189 44 0 45 (nwH h189 342 fun h190 => bnd (stN 342 h190) fun h193 => wrR h193 45 41 37 342 fun h194 => gtR h194 44 0 45 (nwH h194 350 fun h195 => bnd (stN 350 h195) fun h198 => wrR h198 45 41 38 350 fun h199 => gtR h199 44 0 45 (nwH h199 358 fun h200 => bnd (stN 358 h200) fun h203 => wrR h203 45 41 39 358 fun h204 => gtR h204 44 0 45 (nwH h204 366 fun h205 => bnd (stN 366 h205) fun h208 => wrR h208 45 41 40 366 fun h209 => some h209)))))))))))))))))))))))))))))))))))))))))
theorem rf_cX0_init_44 {X : am_X} {d : Nat} (hd : 2 ≤ d)  {h : am_H} (T : am_N0 h.2.2) {r : am_H} (hf : f_cX0_init_44  h = some r) : am_GG am_N0 X d 0 true cX0_init none 0 [some (.ref 44), some (.ref 4), none] [] (am_SH.take 45, h) (none, (am_SH.take 374, r)) := by
  unfold f_cX0_init_44 at hf
  obtain ⟨d, rfl⟩ : ∃ e, d = e + 1 := ⟨d - 1, by omega⟩
  refine r_loc dX0_init_0 rfl ?_
  refine r_obj dX0_init_1 ct_0_3 (Nat.le_of_ble_eq_true rfl) ?_
  refine r_loc dX0_init_4 rfl ?_
  refine r_bipush (v := 41) dX0_init_5 rfl ?_
  refine r_anewar (k := 41) (n2 := 46) dX0_init_7 rfl (by decide) (Nat.le_of_ble_eq_true rfl) sh_45 rfl hf (fun h1 hf => ?_)
  refine r_putR dX0_init_10 fl_0_11 (sh_tk sh_44 (by decide)) (Or.inr ⟨_, rfl⟩) (Or.inr ⟨rfl, rfl⟩) hf (fun h2 hf => ?_)
  refine r_loc dX0_init_13 rfl ?_
  refine r_iconst (v := 0) dX0_init_14 rfl ?_
  refine r_putIc dX0_init_15 fl_0_17 (sh_tk sh_44 (by decide)) ⟨rfl, rfl⟩ hf (fun h3 hf => ?_)
  refine r_loc dX0_init_18 rfl ?_
  refine r_iconst (v := 0) dX0_init_19 rfl ?_
  refine r_putIc dX0_init_20 fl_0_21 (sh_tk sh_44 (by decide)) ⟨rfl, rfl⟩ hf (fun h4 hf => ?_)
  refine r_iconst (v := 0) dX0_init_23 rfl ?_
  refine r_loc (L' := [some (.ref 44), some (.ref 4), some (.int 0)]) dX0_init_24 rfl ?_
  refine r_loc dX0_init_25 rfl ?_
  refine r_bipush (v := 40) dX0_init_26 rfl ?_
  refine r_cF (q := 51) (st' := []) dX0_init_28 rfl rfl ?_
  refine r_loc dX0_init_31 rfl ?_
  refine r_gtR (y := 45) dX0_init_32 fl_0_11 (sh_tk sh_44 (by decide)) (Or.inr ⟨_, rfl⟩) hf (fun hf => ?_)
  refine r_loc dX0_init_35 rfl ?_
  refine r_new (n2 := 47) dX0_init_36 rfl (sh_S (s := 46) (by decide)) rfl hf (fun h5 hf => ?_)
  refine r_alu dX0_init_39 rfl ?_
  refine r_loc dX0_init_40 rfl ?_
  obtain ⟨h8, c6, hf⟩ := bnd_inv hf
  have g7 := rf_cX7_init (X := X) (d := d) (by omega) 46 (by decide) (h := h5) trivial (f_cX7_init_eq.trans (congrArg some c6))
  refine r_spec (pre := [.ref 4]) (rest := [.ref 46, .int 0, .ref 45]) dX0_init_41 ct_0_24 (Or.inl rfl) rfl (Nat.le_of_ble_eq_true rfl) (Nat.le_of_ble_eq_true rfl) g7 ?_
  refine r_aastc dX0_init_44 (sh_tk sh_45 (by decide)) (sh_tk (sh_S (s := 46) (by decide)) (by decide)) hf (fun h9 hf => ?_)
  refine r_loc (L' := [some (.ref 44), some (.ref 4), some (.int 1)]) dX0_init_45 rfl ?_
  refine r_goto (q := 25) dX0_init_48 rfl ?_
  refine r_loc dX0_init_25 rfl ?_
  refine r_bipush (v := 40) dX0_init_26 rfl ?_
  refine r_cF (q := 51) (st' := []) dX0_init_28 rfl rfl ?_
  refine r_loc dX0_init_31 rfl ?_
  refine r_gtR (y := 45) dX0_init_32 fl_0_11 (sh_tk sh_44 (by decide)) (Or.inr ⟨_, rfl⟩) hf (fun hf => ?_)
  refine r_loc dX0_init_35 rfl ?_
  refine r_new (n2 := 55) dX0_init_36 rfl (sh_S (s := 54) (by decide)) rfl hf (fun h10 hf => ?_)
  refine r_alu dX0_init_39 rfl ?_
  refine r_loc dX0_init_40 rfl ?_
  obtain ⟨h13, c11, hf⟩ := bnd_inv hf
  have g12 := rf_cX7_init (X := X) (d := d) (by omega) 54 (by decide) (h := h10) trivial (f_cX7_init_eq.trans (congrArg some c11))
  refine r_spec (pre := [.ref 4]) (rest := [.ref 54, .int 1, .ref 45]) dX0_init_41 ct_0_24 (Or.inl rfl) rfl (Nat.le_of_ble_eq_true rfl) (Nat.le_of_ble_eq_true rfl) g12 ?_
  refine r_aastc dX0_init_44 (sh_tk sh_45 (by decide)) (sh_tk (sh_S (s := 54) (by decide)) (by decide)) hf (fun h14 hf => ?_)
  refine r_loc (L' := [some (.ref 44), some (.ref 4), some (.int 2)]) dX0_init_45 rfl ?_
  refine r_goto (q := 25) dX0_init_48 rfl ?_
  refine r_loc dX0_init_25 rfl ?_
  refine r_bipush (v := 40) dX0_init_26 rfl ?_
  refine r_cF (q := 51) (st' := []) dX0_init_28 rfl rfl ?_
  refine r_loc dX0_init_31 rfl ?_
  refine r_gtR (y := 45) dX0_init_32 fl_0_11 (sh_tk sh_44 (by decide)) (Or.inr ⟨_, rfl⟩) hf (fun hf => ?_)
  refine r_loc dX0_init_35 rfl ?_
  refine r_new (n2 := 63) dX0_init_36 rfl (sh_S (s := 62) (by decide)) rfl hf (fun h15 hf => ?_)
  refine r_alu dX0_init_39 rfl ?_
  refine r_loc dX0_init_40 rfl ?_
  obtain ⟨h18, c16, hf⟩ := bnd_inv hf
  have g17 := rf_cX7_init (X := X) (d := d) (by omega) 62 (by decide) (h := h15) trivial (f_cX7_init_eq.trans (congrArg some c16))
  refine r_spec (pre := [.ref 4]) (rest := [.ref 62, .int 2, .ref 45]) dX0_init_41 ct_0_24 (Or.inl rfl) rfl (Nat.le_of_ble_eq_true rfl) (Nat.le_of_ble_eq_true rfl) g17 ?_
  refine r_aastc dX0_init_44 (sh_tk sh_45 (by decide)) (sh_tk (sh_S (s := 62) (by decide)) (by decide)) hf (fun h19 hf => ?_)
  refine r_loc (L' := [some (.ref 44), some (.ref 4), some (.int 3)]) dX0_init_45 rfl ?_
  refine r_goto (q := 25) dX0_init_48 rfl ?_
  refine r_loc dX0_init_25 rfl ?_
  refine r_bipush (v := 40) dX0_init_26 rfl ?_
  refine r_cF (q := 51) (st' := []) dX0_init_28 rfl rfl ?_
  refine r_loc dX0_init_31 rfl ?_
  refine r_gtR (y := 45) dX0_init_32 fl_0_11 (sh_tk sh_44 (by decide)) (Or.inr ⟨_, rfl⟩) hf (fun hf => ?_)
  refine r_loc dX0_init_35 rfl ?_
  refine r_new (n2 := 71) dX0_init_36 rfl (sh_S (s := 70) (by decide)) rfl hf (fun h20 hf => ?_)
  refine r_alu dX0_init_39 rfl ?_
  refine r_loc dX0_init_40 rfl ?_
  obtain ⟨h23, c21, hf⟩ := bnd_inv hf
  have g22 := rf_cX7_init (X := X) (d := d) (by omega) 70 (by decide) (h := h20) trivial (f_cX7_init_eq.trans (congrArg some c21))
  refine r_spec (pre := [.ref 4]) (rest := [.ref 70, .int 3, .ref 45]) dX0_init_41 ct_0_24 (Or.inl rfl) rfl (Nat.le_of_ble_eq_true rfl) (Nat.le_of_ble_eq_true rfl) g22 ?_
  refine r_aastc dX0_init_44 (sh_tk sh_45 (by decide)) (sh_tk (sh_S (s := 70) (by decide)) (by decide)) hf (fun h24 hf => ?_)
  refine r_loc (L' := [some (.ref 44), some (.ref 4), some (.int 4)]) dX0_init_45 rfl ?_
  refine r_goto (q := 25) dX0_init_48 rfl ?_
  refine r_loc dX0_init_25 rfl ?_
  refine r_bipush (v := 40) dX0_init_26 rfl ?_
  refine r_cF (q := 51) (st' := []) dX0_init_28 rfl rfl ?_
  refine r_loc dX0_init_31 rfl ?_
  refine r_gtR (y := 45) dX0_init_32 fl_0_11 (sh_tk sh_44 (by decide)) (Or.inr ⟨_, rfl⟩) hf (fun hf => ?_)
  refine r_loc dX0_init_35 rfl ?_
  refine r_new (n2 := 79) dX0_init_36 rfl (sh_S (s := 78) (by decide)) rfl hf (fun h25 hf => ?_)
  refine r_alu dX0_init_39 rfl ?_
  refine r_loc dX0_init_40 rfl ?_
  obtain ⟨h28, c26, hf⟩ := bnd_inv hf
  have g27 := rf_cX7_init (X := X) (d := d) (by omega) 78 (by decide) (h := h25) trivial (f_cX7_init_eq.trans (congrArg some c26))
  refine r_spec (pre := [.ref 4]) (rest := [.ref 78, .int 4, .ref 45]) dX0_init_41 ct_0_24 (Or.inl rfl) rfl (Nat.le_of_ble_eq_true rfl) (Nat.le_of_ble_eq_true rfl) g27 ?_
  refine r_aastc dX0_init_44 (sh_tk sh_45 (by decide)) (sh_tk (sh_S (s := 78) (by decide)) (by decide)) hf (fun h29 hf => ?_)
  refine r_loc (L' := [some (.ref 44), some (.ref 4), some (.int 5)]) dX0_init_45 rfl ?_
  refine r_goto (q := 25) dX0_init_48 rfl ?_
  refine r_loc dX0_init_25 rfl ?_
  refine r_bipush (v := 40) dX0_init_26 rfl ?_
  refine r_cF (q := 51) (st' := []) dX0_init_28 rfl rfl ?_
  refine r_loc dX0_init_31 rfl ?_
  refine r_gtR (y := 45) dX0_init_32 fl_0_11 (sh_tk sh_44 (by decide)) (Or.inr ⟨_, rfl⟩) hf (fun hf => ?_)
  refine r_loc dX0_init_35 rfl ?_
  refine r_new (n2 := 87) dX0_init_36 rfl (sh_S (s := 86) (by decide)) rfl hf (fun h30 hf => ?_)
  refine r_alu dX0_init_39 rfl ?_
  refine r_loc dX0_init_40 rfl ?_
  obtain ⟨h33, c31, hf⟩ := bnd_inv hf
  have g32 := rf_cX7_init (X := X) (d := d) (by omega) 86 (by decide) (h := h30) trivial (f_cX7_init_eq.trans (congrArg some c31))
  refine r_spec (pre := [.ref 4]) (rest := [.ref 86, .int 5, .ref 45]) dX0_init_41 ct_0_24 (Or.inl rfl) rfl (Nat.le_of_ble_eq_true rfl) (Nat.le_of_ble_eq_true rfl) g32 ?_
  refine r_aastc dX0_init_44 (sh_tk sh_45 (by decide)) (sh_tk (sh_S (s := 86) (by decide)) (by decide)) hf (fun h34 hf => ?_)
  refine r_loc (L' := [some (.ref 44), some (.ref 4), some (.int 6)]) dX0_init_45 rfl ?_
  refine r_goto (q := 25) dX0_init_48 rfl ?_
  refine r_loc dX0_init_25 rfl ?_
  refine r_bipush (v := 40) dX0_init_26 rfl ?_
  refine r_cF (q := 51) (st' := []) dX0_init_28 rfl rfl ?_
  refine r_loc dX0_init_31 rfl ?_
  refine r_gtR (y := 45) dX0_init_32 fl_0_11 (sh_tk sh_44 (by decide)) (Or.inr ⟨_, rfl⟩) hf (fun hf => ?_)
  refine r_loc dX0_init_35 rfl ?_
  refine r_new (n2 := 95) dX0_init_36 rfl (sh_S (s := 94) (by decide)) rfl hf (fun h35 hf => ?_)
  refine r_alu dX0_init_39 rfl ?_
  refine r_loc dX0_init_40 rfl ?_
  obtain ⟨h38, c36, hf⟩ := bnd_inv hf
  have g37 := rf_cX7_init (X := X) (d := d) (by omega) 94 (by decide) (h := h35) trivial (f_cX7_init_eq.trans (congrArg some c36))
  refine r_spec (pre := [.ref 4]) (rest := [.ref 94, .int 6, .ref 45]) dX0_init_41 ct_0_24 (Or.inl rfl) rfl (Nat.le_of_ble_eq_true rfl) (Nat.le_of_ble_eq_true rfl) g37 ?_
  refine r_aastc dX0_init_44 (sh_tk sh_45 (by decide)) (sh_tk (sh_S (s := 94) (by decide)) (by decide)) hf (fun h39 hf => ?_)
  refine r_loc (L' := [some (.ref 44), some (.ref 4), some (.int 7)]) dX0_init_45 rfl ?_
  refine r_goto (q := 25) dX0_init_48 rfl ?_
  refine r_loc dX0_init_25 rfl ?_
  refine r_bipush (v := 40) dX0_init_26 rfl ?_
  refine r_cF (q := 51) (st' := []) dX0_init_28 rfl rfl ?_
  refine r_loc dX0_init_31 rfl ?_
  refine r_gtR (y := 45) dX0_init_32 fl_0_11 (sh_tk sh_44 (by decide)) (Or.inr ⟨_, rfl⟩) hf (fun hf => ?_)
  refine r_loc dX0_init_35 rfl ?_
  refine r_new (n2 := 103) dX0_init_36 rfl (sh_S (s := 102) (by decide)) rfl hf (fun h40 hf => ?_)
  refine r_alu dX0_init_39 rfl ?_
  refine r_loc dX0_init_40 rfl ?_
  obtain ⟨h43, c41, hf⟩ := bnd_inv hf
  have g42 := rf_cX7_init (X := X) (d := d) (by omega) 102 (by decide) (h := h40) trivial (f_cX7_init_eq.trans (congrArg some c41))
  refine r_spec (pre := [.ref 4]) (rest := [.ref 102, .int 7, .ref 45]) dX0_init_41 ct_0_24 (Or.inl rfl) rfl (Nat.le_of_ble_eq_true rfl) (Nat.le_of_ble_eq_true rfl) g42 ?_
  refine r_aastc dX0_init_44 (sh_tk sh_45 (by decide)) (sh_tk (sh_S (s := 102) (by decide)) (by decide)) hf (fun h44 hf => ?_)
  refine r_loc (L' := [some (.ref 44), some (.ref 4), some (.int 8)]) dX0_init_45 rfl ?_
  refine r_goto (q := 25) dX0_init_48 rfl ?_
  refine r_loc dX0_init_25 rfl ?_
  refine r_bipush (v := 40) dX0_init_26 rfl ?_
  refine r_cF (q := 51) (st' := []) dX0_init_28 rfl rfl ?_
  refine r_loc dX0_init_31 rfl ?_
  refine r_gtR (y := 45) dX0_init_32 fl_0_11 (sh_tk sh_44 (by decide)) (Or.inr ⟨_, rfl⟩) hf (fun hf => ?_)
  refine r_loc dX0_init_35 rfl ?_
  refine r_new (n2 := 111) dX0_init_36 rfl (sh_S (s := 110) (by decide)) rfl hf (fun h45 hf => ?_)
  refine r_alu dX0_init_39 rfl ?_
  refine r_loc dX0_init_40 rfl ?_
  obtain ⟨h48, c46, hf⟩ := bnd_inv hf
  have g47 := rf_cX7_init (X := X) (d := d) (by omega) 110 (by decide) (h := h45) trivial (f_cX7_init_eq.trans (congrArg some c46))
  refine r_spec (pre := [.ref 4]) (rest := [.ref 110, .int 8, .ref 45]) dX0_init_41 ct_0_24 (Or.inl rfl) rfl (Nat.le_of_ble_eq_true rfl) (Nat.le_of_ble_eq_true rfl) g47 ?_
  refine r_aastc dX0_init_44 (sh_tk sh_45 (by decide)) (sh_tk (sh_S (s := 110) (by decide)) (by decide)) hf (fun h49 hf => ?_)
  refine r_loc (L' := [some (.ref 44), some (.ref 4), some (.int 9)]) dX0_init_45 rfl ?_
  refine r_goto (q := 25) dX0_init_48 rfl ?_
  refine r_loc dX0_init_25 rfl ?_
  refine r_bipush (v := 40) dX0_init_26 rfl ?_
  refine r_cF (q := 51) (st' := []) dX0_init_28 rfl rfl ?_
  refine r_loc dX0_init_31 rfl ?_
  refine r_gtR (y := 45) dX0_init_32 fl_0_11 (sh_tk sh_44 (by decide)) (Or.inr ⟨_, rfl⟩) hf (fun hf => ?_)
  refine r_loc dX0_init_35 rfl ?_
  refine r_new (n2 := 119) dX0_init_36 rfl (sh_S (s := 118) (by decide)) rfl hf (fun h50 hf => ?_)
  refine r_alu dX0_init_39 rfl ?_
  refine r_loc dX0_init_40 rfl ?_
  obtain ⟨h53, c51, hf⟩ := bnd_inv hf
  have g52 := rf_cX7_init (X := X) (d := d) (by omega) 118 (by decide) (h := h50) trivial (f_cX7_init_eq.trans (congrArg some c51))
  refine r_spec (pre := [.ref 4]) (rest := [.ref 118, .int 9, .ref 45]) dX0_init_41 ct_0_24 (Or.inl rfl) rfl (Nat.le_of_ble_eq_true rfl) (Nat.le_of_ble_eq_true rfl) g52 ?_
  refine r_aastc dX0_init_44 (sh_tk sh_45 (by decide)) (sh_tk (sh_S (s := 118) (by decide)) (by decide)) hf (fun h54 hf => ?_)
  refine r_loc (L' := [some (.ref 44), some (.ref 4), some (.int 10)]) dX0_init_45 rfl ?_
  refine r_goto (q := 25) dX0_init_48 rfl ?_
  refine r_loc dX0_init_25 rfl ?_
  refine r_bipush (v := 40) dX0_init_26 rfl ?_
  refine r_cF (q := 51) (st' := []) dX0_init_28 rfl rfl ?_
  refine r_loc dX0_init_31 rfl ?_
  refine r_gtR (y := 45) dX0_init_32 fl_0_11 (sh_tk sh_44 (by decide)) (Or.inr ⟨_, rfl⟩) hf (fun hf => ?_)
  refine r_loc dX0_init_35 rfl ?_
  refine r_new (n2 := 127) dX0_init_36 rfl (sh_S (s := 126) (by decide)) rfl hf (fun h55 hf => ?_)
  refine r_alu dX0_init_39 rfl ?_
  refine r_loc dX0_init_40 rfl ?_
  obtain ⟨h58, c56, hf⟩ := bnd_inv hf
  have g57 := rf_cX7_init (X := X) (d := d) (by omega) 126 (by decide) (h := h55) trivial (f_cX7_init_eq.trans (congrArg some c56))
  refine r_spec (pre := [.ref 4]) (rest := [.ref 126, .int 10, .ref 45]) dX0_init_41 ct_0_24 (Or.inl rfl) rfl (Nat.le_of_ble_eq_true rfl) (Nat.le_of_ble_eq_true rfl) g57 ?_
  refine r_aastc dX0_init_44 (sh_tk sh_45 (by decide)) (sh_tk (sh_S (s := 126) (by decide)) (by decide)) hf (fun h59 hf => ?_)
  refine r_loc (L' := [some (.ref 44), some (.ref 4), some (.int 11)]) dX0_init_45 rfl ?_
  refine r_goto (q := 25) dX0_init_48 rfl ?_
  refine r_loc dX0_init_25 rfl ?_
  refine r_bipush (v := 40) dX0_init_26 rfl ?_
  refine r_cF (q := 51) (st' := []) dX0_init_28 rfl rfl ?_
  refine r_loc dX0_init_31 rfl ?_
  refine r_gtR (y := 45) dX0_init_32 fl_0_11 (sh_tk sh_44 (by decide)) (Or.inr ⟨_, rfl⟩) hf (fun hf => ?_)
  refine r_loc dX0_init_35 rfl ?_
  refine r_new (n2 := 135) dX0_init_36 rfl (sh_S (s := 134) (by decide)) rfl hf (fun h60 hf => ?_)
  refine r_alu dX0_init_39 rfl ?_
  refine r_loc dX0_init_40 rfl ?_
  obtain ⟨h63, c61, hf⟩ := bnd_inv hf
  have g62 := rf_cX7_init (X := X) (d := d) (by omega) 134 (by decide) (h := h60) trivial (f_cX7_init_eq.trans (congrArg some c61))
  refine r_spec (pre := [.ref 4]) (rest := [.ref 134, .int 11, .ref 45]) dX0_init_41 ct_0_24 (Or.inl rfl) rfl (Nat.le_of_ble_eq_true rfl) (Nat.le_of_ble_eq_true rfl) g62 ?_
  refine r_aastc dX0_init_44 (sh_tk sh_45 (by decide)) (sh_tk (sh_S (s := 134) (by decide)) (by decide)) hf (fun h64 hf => ?_)
  refine r_loc (L' := [some (.ref 44), some (.ref 4), some (.int 12)]) dX0_init_45 rfl ?_
  refine r_goto (q := 25) dX0_init_48 rfl ?_
  refine r_loc dX0_init_25 rfl ?_
  refine r_bipush (v := 40) dX0_init_26 rfl ?_
  refine r_cF (q := 51) (st' := []) dX0_init_28 rfl rfl ?_
  refine r_loc dX0_init_31 rfl ?_
  refine r_gtR (y := 45) dX0_init_32 fl_0_11 (sh_tk sh_44 (by decide)) (Or.inr ⟨_, rfl⟩) hf (fun hf => ?_)
  refine r_loc dX0_init_35 rfl ?_
  refine r_new (n2 := 143) dX0_init_36 rfl (sh_S (s := 142) (by decide)) rfl hf (fun h65 hf => ?_)
  refine r_alu dX0_init_39 rfl ?_
  refine r_loc dX0_init_40 rfl ?_
  obtain ⟨h68, c66, hf⟩ := bnd_inv hf
  have g67 := rf_cX7_init (X := X) (d := d) (by omega) 142 (by decide) (h := h65) trivial (f_cX7_init_eq.trans (congrArg some c66))
  refine r_spec (pre := [.ref 4]) (rest := [.ref 142, .int 12, .ref 45]) dX0_init_41 ct_0_24 (Or.inl rfl) rfl (Nat.le_of_ble_eq_true rfl) (Nat.le_of_ble_eq_true rfl) g67 ?_
  refine r_aastc dX0_init_44 (sh_tk sh_45 (by decide)) (sh_tk (sh_S (s := 142) (by decide)) (by decide)) hf (fun h69 hf => ?_)
  refine r_loc (L' := [some (.ref 44), some (.ref 4), some (.int 13)]) dX0_init_45 rfl ?_
  refine r_goto (q := 25) dX0_init_48 rfl ?_
  refine r_loc dX0_init_25 rfl ?_
  refine r_bipush (v := 40) dX0_init_26 rfl ?_
  refine r_cF (q := 51) (st' := []) dX0_init_28 rfl rfl ?_
  refine r_loc dX0_init_31 rfl ?_
  refine r_gtR (y := 45) dX0_init_32 fl_0_11 (sh_tk sh_44 (by decide)) (Or.inr ⟨_, rfl⟩) hf (fun hf => ?_)
  refine r_loc dX0_init_35 rfl ?_
  refine r_new (n2 := 151) dX0_init_36 rfl (sh_S (s := 150) (by decide)) rfl hf (fun h70 hf => ?_)
  refine r_alu dX0_init_39 rfl ?_
  refine r_loc dX0_init_40 rfl ?_
  obtain ⟨h73, c71, hf⟩ := bnd_inv hf
  have g72 := rf_cX7_init (X := X) (d := d) (by omega) 150 (by decide) (h := h70) trivial (f_cX7_init_eq.trans (congrArg some c71))
  refine r_spec (pre := [.ref 4]) (rest := [.ref 150, .int 13, .ref 45]) dX0_init_41 ct_0_24 (Or.inl rfl) rfl (Nat.le_of_ble_eq_true rfl) (Nat.le_of_ble_eq_true rfl) g72 ?_
  refine r_aastc dX0_init_44 (sh_tk sh_45 (by decide)) (sh_tk (sh_S (s := 150) (by decide)) (by decide)) hf (fun h74 hf => ?_)
  refine r_loc (L' := [some (.ref 44), some (.ref 4), some (.int 14)]) dX0_init_45 rfl ?_
  refine r_goto (q := 25) dX0_init_48 rfl ?_
  refine r_loc dX0_init_25 rfl ?_
  refine r_bipush (v := 40) dX0_init_26 rfl ?_
  refine r_cF (q := 51) (st' := []) dX0_init_28 rfl rfl ?_
  refine r_loc dX0_init_31 rfl ?_
  refine r_gtR (y := 45) dX0_init_32 fl_0_11 (sh_tk sh_44 (by decide)) (Or.inr ⟨_, rfl⟩) hf (fun hf => ?_)
  refine r_loc dX0_init_35 rfl ?_
  refine r_new (n2 := 159) dX0_init_36 rfl (sh_S (s := 158) (by decide)) rfl hf (fun h75 hf => ?_)
  refine r_alu dX0_init_39 rfl ?_
  refine r_loc dX0_init_40 rfl ?_
  obtain ⟨h78, c76, hf⟩ := bnd_inv hf
  have g77 := rf_cX7_init (X := X) (d := d) (by omega) 158 (by decide) (h := h75) trivial (f_cX7_init_eq.trans (congrArg some c76))
  refine r_spec (pre := [.ref 4]) (rest := [.ref 158, .int 14, .ref 45]) dX0_init_41 ct_0_24 (Or.inl rfl) rfl (Nat.le_of_ble_eq_true rfl) (Nat.le_of_ble_eq_true rfl) g77 ?_
  refine r_aastc dX0_init_44 (sh_tk sh_45 (by decide)) (sh_tk (sh_S (s := 158) (by decide)) (by decide)) hf (fun h79 hf => ?_)
  refine r_loc (L' := [some (.ref 44), some (.ref 4), some (.int 15)]) dX0_init_45 rfl ?_
  refine r_goto (q := 25) dX0_init_48 rfl ?_
  refine r_loc dX0_init_25 rfl ?_
  refine r_bipush (v := 40) dX0_init_26 rfl ?_
  refine r_cF (q := 51) (st' := []) dX0_init_28 rfl rfl ?_
  refine r_loc dX0_init_31 rfl ?_
  refine r_gtR (y := 45) dX0_init_32 fl_0_11 (sh_tk sh_44 (by decide)) (Or.inr ⟨_, rfl⟩) hf (fun hf => ?_)
  refine r_loc dX0_init_35 rfl ?_
  refine r_new (n2 := 167) dX0_init_36 rfl (sh_S (s := 166) (by decide)) rfl hf (fun h80 hf => ?_)
  refine r_alu dX0_init_39 rfl ?_
  refine r_loc dX0_init_40 rfl ?_
  obtain ⟨h83, c81, hf⟩ := bnd_inv hf
  have g82 := rf_cX7_init (X := X) (d := d) (by omega) 166 (by decide) (h := h80) trivial (f_cX7_init_eq.trans (congrArg some c81))
  refine r_spec (pre := [.ref 4]) (rest := [.ref 166, .int 15, .ref 45]) dX0_init_41 ct_0_24 (Or.inl rfl) rfl (Nat.le_of_ble_eq_true rfl) (Nat.le_of_ble_eq_true rfl) g82 ?_
  refine r_aastc dX0_init_44 (sh_tk sh_45 (by decide)) (sh_tk (sh_S (s := 166) (by decide)) (by decide)) hf (fun h84 hf => ?_)
  refine r_loc (L' := [some (.ref 44), some (.ref 4), some (.int 16)]) dX0_init_45 rfl ?_
  refine r_goto (q := 25) dX0_init_48 rfl ?_
  refine r_loc dX0_init_25 rfl ?_
  refine r_bipush (v := 40) dX0_init_26 rfl ?_
  refine r_cF (q := 51) (st' := []) dX0_init_28 rfl rfl ?_
  refine r_loc dX0_init_31 rfl ?_
  refine r_gtR (y := 45) dX0_init_32 fl_0_11 (sh_tk sh_44 (by decide)) (Or.inr ⟨_, rfl⟩) hf (fun hf => ?_)
  refine r_loc dX0_init_35 rfl ?_
  refine r_new (n2 := 175) dX0_init_36 rfl (sh_S (s := 174) (by decide)) rfl hf (fun h85 hf => ?_)
  refine r_alu dX0_init_39 rfl ?_
  refine r_loc dX0_init_40 rfl ?_
  obtain ⟨h88, c86, hf⟩ := bnd_inv hf
  have g87 := rf_cX7_init (X := X) (d := d) (by omega) 174 (by decide) (h := h85) trivial (f_cX7_init_eq.trans (congrArg some c86))
  refine r_spec (pre := [.ref 4]) (rest := [.ref 174, .int 16, .ref 45]) dX0_init_41 ct_0_24 (Or.inl rfl) rfl (Nat.le_of_ble_eq_true rfl) (Nat.le_of_ble_eq_true rfl) g87 ?_
  refine r_aastc dX0_init_44 (sh_tk sh_45 (by decide)) (sh_tk (sh_S (s := 174) (by decide)) (by decide)) hf (fun h89 hf => ?_)
  refine r_loc (L' := [some (.ref 44), some (.ref 4), some (.int 17)]) dX0_init_45 rfl ?_
  refine r_goto (q := 25) dX0_init_48 rfl ?_
  refine r_loc dX0_init_25 rfl ?_
  refine r_bipush (v := 40) dX0_init_26 rfl ?_
  refine r_cF (q := 51) (st' := []) dX0_init_28 rfl rfl ?_
  refine r_loc dX0_init_31 rfl ?_
  refine r_gtR (y := 45) dX0_init_32 fl_0_11 (sh_tk sh_44 (by decide)) (Or.inr ⟨_, rfl⟩) hf (fun hf => ?_)
  refine r_loc dX0_init_35 rfl ?_
  refine r_new (n2 := 183) dX0_init_36 rfl (sh_S (s := 182) (by decide)) rfl hf (fun h90 hf => ?_)
  refine r_alu dX0_init_39 rfl ?_
  refine r_loc dX0_init_40 rfl ?_
  obtain ⟨h93, c91, hf⟩ := bnd_inv hf
  have g92 := rf_cX7_init (X := X) (d := d) (by omega) 182 (by decide) (h := h90) trivial (f_cX7_init_eq.trans (congrArg some c91))
  refine r_spec (pre := [.ref 4]) (rest := [.ref 182, .int 17, .ref 45]) dX0_init_41 ct_0_24 (Or.inl rfl) rfl (Nat.le_of_ble_eq_true rfl) (Nat.le_of_ble_eq_true rfl) g92 ?_
  refine r_aastc dX0_init_44 (sh_tk sh_45 (by decide)) (sh_tk (sh_S (s := 182) (by decide)) (by decide)) hf (fun h94 hf => ?_)
  refine r_loc (L' := [some (.ref 44), some (.ref 4), some (.int 18)]) dX0_init_45 rfl ?_
  refine r_goto (q := 25) dX0_init_48 rfl ?_
  refine r_loc dX0_init_25 rfl ?_
  refine r_bipush (v := 40) dX0_init_26 rfl ?_
  refine r_cF (q := 51) (st' := []) dX0_init_28 rfl rfl ?_
  refine r_loc dX0_init_31 rfl ?_
  refine r_gtR (y := 45) dX0_init_32 fl_0_11 (sh_tk sh_44 (by decide)) (Or.inr ⟨_, rfl⟩) hf (fun hf => ?_)
  refine r_loc dX0_init_35 rfl ?_
  refine r_new (n2 := 191) dX0_init_36 rfl (sh_S (s := 190) (by decide)) rfl hf (fun h95 hf => ?_)
  refine r_alu dX0_init_39 rfl ?_
  refine r_loc dX0_init_40 rfl ?_
  obtain ⟨h98, c96, hf⟩ := bnd_inv hf
  have g97 := rf_cX7_init (X := X) (d := d) (by omega) 190 (by decide) (h := h95) trivial (f_cX7_init_eq.trans (congrArg some c96))
  refine r_spec (pre := [.ref 4]) (rest := [.ref 190, .int 18, .ref 45]) dX0_init_41 ct_0_24 (Or.inl rfl) rfl (Nat.le_of_ble_eq_true rfl) (Nat.le_of_ble_eq_true rfl) g97 ?_
  refine r_aastc dX0_init_44 (sh_tk sh_45 (by decide)) (sh_tk (sh_S (s := 190) (by decide)) (by decide)) hf (fun h99 hf => ?_)
  refine r_loc (L' := [some (.ref 44), some (.ref 4), some (.int 19)]) dX0_init_45 rfl ?_
  refine r_goto (q := 25) dX0_init_48 rfl ?_
  refine r_loc dX0_init_25 rfl ?_
  refine r_bipush (v := 40) dX0_init_26 rfl ?_
  refine r_cF (q := 51) (st' := []) dX0_init_28 rfl rfl ?_
  refine r_loc dX0_init_31 rfl ?_
  refine r_gtR (y := 45) dX0_init_32 fl_0_11 (sh_tk sh_44 (by decide)) (Or.inr ⟨_, rfl⟩) hf (fun hf => ?_)
  refine r_loc dX0_init_35 rfl ?_
  refine r_new (n2 := 199) dX0_init_36 rfl (sh_S (s := 198) (by decide)) rfl hf (fun h100 hf => ?_)
  refine r_alu dX0_init_39 rfl ?_
  refine r_loc dX0_init_40 rfl ?_
  obtain ⟨h103, c101, hf⟩ := bnd_inv hf
  have g102 := rf_cX7_init (X := X) (d := d) (by omega) 198 (by decide) (h := h100) trivial (f_cX7_init_eq.trans (congrArg some c101))
  refine r_spec (pre := [.ref 4]) (rest := [.ref 198, .int 19, .ref 45]) dX0_init_41 ct_0_24 (Or.inl rfl) rfl (Nat.le_of_ble_eq_true rfl) (Nat.le_of_ble_eq_true rfl) g102 ?_
  refine r_aastc dX0_init_44 (sh_tk sh_45 (by decide)) (sh_tk (sh_S (s := 198) (by decide)) (by decide)) hf (fun h104 hf => ?_)
  refine r_loc (L' := [some (.ref 44), some (.ref 4), some (.int 20)]) dX0_init_45 rfl ?_
  refine r_goto (q := 25) dX0_init_48 rfl ?_
  refine r_loc dX0_init_25 rfl ?_
  refine r_bipush (v := 40) dX0_init_26 rfl ?_
  refine r_cF (q := 51) (st' := []) dX0_init_28 rfl rfl ?_
  refine r_loc dX0_init_31 rfl ?_
  refine r_gtR (y := 45) dX0_init_32 fl_0_11 (sh_tk sh_44 (by decide)) (Or.inr ⟨_, rfl⟩) hf (fun hf => ?_)
  refine r_loc dX0_init_35 rfl ?_
  refine r_new (n2 := 207) dX0_init_36 rfl (sh_S (s := 206) (by decide)) rfl hf (fun h105 hf => ?_)
  refine r_alu dX0_init_39 rfl ?_
  refine r_loc dX0_init_40 rfl ?_
  obtain ⟨h108, c106, hf⟩ := bnd_inv hf
  have g107 := rf_cX7_init (X := X) (d := d) (by omega) 206 (by decide) (h := h105) trivial (f_cX7_init_eq.trans (congrArg some c106))
  refine r_spec (pre := [.ref 4]) (rest := [.ref 206, .int 20, .ref 45]) dX0_init_41 ct_0_24 (Or.inl rfl) rfl (Nat.le_of_ble_eq_true rfl) (Nat.le_of_ble_eq_true rfl) g107 ?_
  refine r_aastc dX0_init_44 (sh_tk sh_45 (by decide)) (sh_tk (sh_S (s := 206) (by decide)) (by decide)) hf (fun h109 hf => ?_)
  refine r_loc (L' := [some (.ref 44), some (.ref 4), some (.int 21)]) dX0_init_45 rfl ?_
  refine r_goto (q := 25) dX0_init_48 rfl ?_
  refine r_loc dX0_init_25 rfl ?_
  refine r_bipush (v := 40) dX0_init_26 rfl ?_
  refine r_cF (q := 51) (st' := []) dX0_init_28 rfl rfl ?_
  refine r_loc dX0_init_31 rfl ?_
  refine r_gtR (y := 45) dX0_init_32 fl_0_11 (sh_tk sh_44 (by decide)) (Or.inr ⟨_, rfl⟩) hf (fun hf => ?_)
  refine r_loc dX0_init_35 rfl ?_
  refine r_new (n2 := 215) dX0_init_36 rfl (sh_S (s := 214) (by decide)) rfl hf (fun h110 hf => ?_)
  refine r_alu dX0_init_39 rfl ?_
  refine r_loc dX0_init_40 rfl ?_
  obtain ⟨h113, c111, hf⟩ := bnd_inv hf
  have g112 := rf_cX7_init (X := X) (d := d) (by omega) 214 (by decide) (h := h110) trivial (f_cX7_init_eq.trans (congrArg some c111))
  refine r_spec (pre := [.ref 4]) (rest := [.ref 214, .int 21, .ref 45]) dX0_init_41 ct_0_24 (Or.inl rfl) rfl (Nat.le_of_ble_eq_true rfl) (Nat.le_of_ble_eq_true rfl) g112 ?_
  refine r_aastc dX0_init_44 (sh_tk sh_45 (by decide)) (sh_tk (sh_S (s := 214) (by decide)) (by decide)) hf (fun h114 hf => ?_)
  refine r_loc (L' := [some (.ref 44), some (.ref 4), some (.int 22)]) dX0_init_45 rfl ?_
  refine r_goto (q := 25) dX0_init_48 rfl ?_
  refine r_loc dX0_init_25 rfl ?_
  refine r_bipush (v := 40) dX0_init_26 rfl ?_
  refine r_cF (q := 51) (st' := []) dX0_init_28 rfl rfl ?_
  refine r_loc dX0_init_31 rfl ?_
  refine r_gtR (y := 45) dX0_init_32 fl_0_11 (sh_tk sh_44 (by decide)) (Or.inr ⟨_, rfl⟩) hf (fun hf => ?_)
  refine r_loc dX0_init_35 rfl ?_
  refine r_new (n2 := 223) dX0_init_36 rfl (sh_S (s := 222) (by decide)) rfl hf (fun h115 hf => ?_)
  refine r_alu dX0_init_39 rfl ?_
  refine r_loc dX0_init_40 rfl ?_
  obtain ⟨h118, c116, hf⟩ := bnd_inv hf
  have g117 := rf_cX7_init (X := X) (d := d) (by omega) 222 (by decide) (h := h115) trivial (f_cX7_init_eq.trans (congrArg some c116))
  refine r_spec (pre := [.ref 4]) (rest := [.ref 222, .int 22, .ref 45]) dX0_init_41 ct_0_24 (Or.inl rfl) rfl (Nat.le_of_ble_eq_true rfl) (Nat.le_of_ble_eq_true rfl) g117 ?_
  refine r_aastc dX0_init_44 (sh_tk sh_45 (by decide)) (sh_tk (sh_S (s := 222) (by decide)) (by decide)) hf (fun h119 hf => ?_)
  refine r_loc (L' := [some (.ref 44), some (.ref 4), some (.int 23)]) dX0_init_45 rfl ?_
  refine r_goto (q := 25) dX0_init_48 rfl ?_
  refine r_loc dX0_init_25 rfl ?_
  refine r_bipush (v := 40) dX0_init_26 rfl ?_
  refine r_cF (q := 51) (st' := []) dX0_init_28 rfl rfl ?_
  refine r_loc dX0_init_31 rfl ?_
  refine r_gtR (y := 45) dX0_init_32 fl_0_11 (sh_tk sh_44 (by decide)) (Or.inr ⟨_, rfl⟩) hf (fun hf => ?_)
  refine r_loc dX0_init_35 rfl ?_
  refine r_new (n2 := 231) dX0_init_36 rfl (sh_S (s := 230) (by decide)) rfl hf (fun h120 hf => ?_)
  refine r_alu dX0_init_39 rfl ?_
  refine r_loc dX0_init_40 rfl ?_
  obtain ⟨h123, c121, hf⟩ := bnd_inv hf
  have g122 := rf_cX7_init (X := X) (d := d) (by omega) 230 (by decide) (h := h120) trivial (f_cX7_init_eq.trans (congrArg some c121))
  refine r_spec (pre := [.ref 4]) (rest := [.ref 230, .int 23, .ref 45]) dX0_init_41 ct_0_24 (Or.inl rfl) rfl (Nat.le_of_ble_eq_true rfl) (Nat.le_of_ble_eq_true rfl) g122 ?_
  refine r_aastc dX0_init_44 (sh_tk sh_45 (by decide)) (sh_tk (sh_S (s := 230) (by decide)) (by decide)) hf (fun h124 hf => ?_)
  refine r_loc (L' := [some (.ref 44), some (.ref 4), some (.int 24)]) dX0_init_45 rfl ?_
  refine r_goto (q := 25) dX0_init_48 rfl ?_
  refine r_loc dX0_init_25 rfl ?_
  refine r_bipush (v := 40) dX0_init_26 rfl ?_
  refine r_cF (q := 51) (st' := []) dX0_init_28 rfl rfl ?_
  refine r_loc dX0_init_31 rfl ?_
  refine r_gtR (y := 45) dX0_init_32 fl_0_11 (sh_tk sh_44 (by decide)) (Or.inr ⟨_, rfl⟩) hf (fun hf => ?_)
  refine r_loc dX0_init_35 rfl ?_
  refine r_new (n2 := 239) dX0_init_36 rfl (sh_S (s := 238) (by decide)) rfl hf (fun h125 hf => ?_)
  refine r_alu dX0_init_39 rfl ?_
  refine r_loc dX0_init_40 rfl ?_
  obtain ⟨h128, c126, hf⟩ := bnd_inv hf
  have g127 := rf_cX7_init (X := X) (d := d) (by omega) 238 (by decide) (h := h125) trivial (f_cX7_init_eq.trans (congrArg some c126))
  refine r_spec (pre := [.ref 4]) (rest := [.ref 238, .int 24, .ref 45]) dX0_init_41 ct_0_24 (Or.inl rfl) rfl (Nat.le_of_ble_eq_true rfl) (Nat.le_of_ble_eq_true rfl) g127 ?_
  refine r_aastc dX0_init_44 (sh_tk sh_45 (by decide)) (sh_tk (sh_S (s := 238) (by decide)) (by decide)) hf (fun h129 hf => ?_)
  refine r_loc (L' := [some (.ref 44), some (.ref 4), some (.int 25)]) dX0_init_45 rfl ?_
  refine r_goto (q := 25) dX0_init_48 rfl ?_
  refine r_loc dX0_init_25 rfl ?_
  refine r_bipush (v := 40) dX0_init_26 rfl ?_
  refine r_cF (q := 51) (st' := []) dX0_init_28 rfl rfl ?_
  refine r_loc dX0_init_31 rfl ?_
  refine r_gtR (y := 45) dX0_init_32 fl_0_11 (sh_tk sh_44 (by decide)) (Or.inr ⟨_, rfl⟩) hf (fun hf => ?_)
  refine r_loc dX0_init_35 rfl ?_
  refine r_new (n2 := 247) dX0_init_36 rfl (sh_S (s := 246) (by decide)) rfl hf (fun h130 hf => ?_)
  refine r_alu dX0_init_39 rfl ?_
  refine r_loc dX0_init_40 rfl ?_
  obtain ⟨h133, c131, hf⟩ := bnd_inv hf
  have g132 := rf_cX7_init (X := X) (d := d) (by omega) 246 (by decide) (h := h130) trivial (f_cX7_init_eq.trans (congrArg some c131))
  refine r_spec (pre := [.ref 4]) (rest := [.ref 246, .int 25, .ref 45]) dX0_init_41 ct_0_24 (Or.inl rfl) rfl (Nat.le_of_ble_eq_true rfl) (Nat.le_of_ble_eq_true rfl) g132 ?_
  refine r_aastc dX0_init_44 (sh_tk sh_45 (by decide)) (sh_tk (sh_S (s := 246) (by decide)) (by decide)) hf (fun h134 hf => ?_)
  refine r_loc (L' := [some (.ref 44), some (.ref 4), some (.int 26)]) dX0_init_45 rfl ?_
  refine r_goto (q := 25) dX0_init_48 rfl ?_
  refine r_loc dX0_init_25 rfl ?_
  refine r_bipush (v := 40) dX0_init_26 rfl ?_
  refine r_cF (q := 51) (st' := []) dX0_init_28 rfl rfl ?_
  refine r_loc dX0_init_31 rfl ?_
  refine r_gtR (y := 45) dX0_init_32 fl_0_11 (sh_tk sh_44 (by decide)) (Or.inr ⟨_, rfl⟩) hf (fun hf => ?_)
  refine r_loc dX0_init_35 rfl ?_
  refine r_new (n2 := 255) dX0_init_36 rfl (sh_S (s := 254) (by decide)) rfl hf (fun h135 hf => ?_)
  refine r_alu dX0_init_39 rfl ?_
  refine r_loc dX0_init_40 rfl ?_
  obtain ⟨h138, c136, hf⟩ := bnd_inv hf
  have g137 := rf_cX7_init (X := X) (d := d) (by omega) 254 (by decide) (h := h135) trivial (f_cX7_init_eq.trans (congrArg some c136))
  refine r_spec (pre := [.ref 4]) (rest := [.ref 254, .int 26, .ref 45]) dX0_init_41 ct_0_24 (Or.inl rfl) rfl (Nat.le_of_ble_eq_true rfl) (Nat.le_of_ble_eq_true rfl) g137 ?_
  refine r_aastc dX0_init_44 (sh_tk sh_45 (by decide)) (sh_tk (sh_S (s := 254) (by decide)) (by decide)) hf (fun h139 hf => ?_)
  refine r_loc (L' := [some (.ref 44), some (.ref 4), some (.int 27)]) dX0_init_45 rfl ?_
  refine r_goto (q := 25) dX0_init_48 rfl ?_
  refine r_loc dX0_init_25 rfl ?_
  refine r_bipush (v := 40) dX0_init_26 rfl ?_
  refine r_cF (q := 51) (st' := []) dX0_init_28 rfl rfl ?_
  refine r_loc dX0_init_31 rfl ?_
  refine r_gtR (y := 45) dX0_init_32 fl_0_11 (sh_tk sh_44 (by decide)) (Or.inr ⟨_, rfl⟩) hf (fun hf => ?_)
  refine r_loc dX0_init_35 rfl ?_
  refine r_new (n2 := 263) dX0_init_36 rfl (sh_S (s := 262) (by decide)) rfl hf (fun h140 hf => ?_)
  refine r_alu dX0_init_39 rfl ?_
  refine r_loc dX0_init_40 rfl ?_
  obtain ⟨h143, c141, hf⟩ := bnd_inv hf
  have g142 := rf_cX7_init (X := X) (d := d) (by omega) 262 (by decide) (h := h140) trivial (f_cX7_init_eq.trans (congrArg some c141))
  refine r_spec (pre := [.ref 4]) (rest := [.ref 262, .int 27, .ref 45]) dX0_init_41 ct_0_24 (Or.inl rfl) rfl (Nat.le_of_ble_eq_true rfl) (Nat.le_of_ble_eq_true rfl) g142 ?_
  refine r_aastc dX0_init_44 (sh_tk sh_45 (by decide)) (sh_tk (sh_S (s := 262) (by decide)) (by decide)) hf (fun h144 hf => ?_)
  refine r_loc (L' := [some (.ref 44), some (.ref 4), some (.int 28)]) dX0_init_45 rfl ?_
  refine r_goto (q := 25) dX0_init_48 rfl ?_
  refine r_loc dX0_init_25 rfl ?_
  refine r_bipush (v := 40) dX0_init_26 rfl ?_
  refine r_cF (q := 51) (st' := []) dX0_init_28 rfl rfl ?_
  refine r_loc dX0_init_31 rfl ?_
  refine r_gtR (y := 45) dX0_init_32 fl_0_11 (sh_tk sh_44 (by decide)) (Or.inr ⟨_, rfl⟩) hf (fun hf => ?_)
  refine r_loc dX0_init_35 rfl ?_
  refine r_new (n2 := 271) dX0_init_36 rfl (sh_S (s := 270) (by decide)) rfl hf (fun h145 hf => ?_)
  refine r_alu dX0_init_39 rfl ?_
  refine r_loc dX0_init_40 rfl ?_
  obtain ⟨h148, c146, hf⟩ := bnd_inv hf
  have g147 := rf_cX7_init (X := X) (d := d) (by omega) 270 (by decide) (h := h145) trivial (f_cX7_init_eq.trans (congrArg some c146))
  refine r_spec (pre := [.ref 4]) (rest := [.ref 270, .int 28, .ref 45]) dX0_init_41 ct_0_24 (Or.inl rfl) rfl (Nat.le_of_ble_eq_true rfl) (Nat.le_of_ble_eq_true rfl) g147 ?_
  refine r_aastc dX0_init_44 (sh_tk sh_45 (by decide)) (sh_tk (sh_S (s := 270) (by decide)) (by decide)) hf (fun h149 hf => ?_)
  refine r_loc (L' := [some (.ref 44), some (.ref 4), some (.int 29)]) dX0_init_45 rfl ?_
  refine r_goto (q := 25) dX0_init_48 rfl ?_
  refine r_loc dX0_init_25 rfl ?_
  refine r_bipush (v := 40) dX0_init_26 rfl ?_
  refine r_cF (q := 51) (st' := []) dX0_init_28 rfl rfl ?_
  refine r_loc dX0_init_31 rfl ?_
  refine r_gtR (y := 45) dX0_init_32 fl_0_11 (sh_tk sh_44 (by decide)) (Or.inr ⟨_, rfl⟩) hf (fun hf => ?_)
  refine r_loc dX0_init_35 rfl ?_
  refine r_new (n2 := 279) dX0_init_36 rfl (sh_S (s := 278) (by decide)) rfl hf (fun h150 hf => ?_)
  refine r_alu dX0_init_39 rfl ?_
  refine r_loc dX0_init_40 rfl ?_
  obtain ⟨h153, c151, hf⟩ := bnd_inv hf
  have g152 := rf_cX7_init (X := X) (d := d) (by omega) 278 (by decide) (h := h150) trivial (f_cX7_init_eq.trans (congrArg some c151))
  refine r_spec (pre := [.ref 4]) (rest := [.ref 278, .int 29, .ref 45]) dX0_init_41 ct_0_24 (Or.inl rfl) rfl (Nat.le_of_ble_eq_true rfl) (Nat.le_of_ble_eq_true rfl) g152 ?_
  refine r_aastc dX0_init_44 (sh_tk sh_45 (by decide)) (sh_tk (sh_S (s := 278) (by decide)) (by decide)) hf (fun h154 hf => ?_)
  refine r_loc (L' := [some (.ref 44), some (.ref 4), some (.int 30)]) dX0_init_45 rfl ?_
  refine r_goto (q := 25) dX0_init_48 rfl ?_
  refine r_loc dX0_init_25 rfl ?_
  refine r_bipush (v := 40) dX0_init_26 rfl ?_
  refine r_cF (q := 51) (st' := []) dX0_init_28 rfl rfl ?_
  refine r_loc dX0_init_31 rfl ?_
  refine r_gtR (y := 45) dX0_init_32 fl_0_11 (sh_tk sh_44 (by decide)) (Or.inr ⟨_, rfl⟩) hf (fun hf => ?_)
  refine r_loc dX0_init_35 rfl ?_
  refine r_new (n2 := 287) dX0_init_36 rfl (sh_S (s := 286) (by decide)) rfl hf (fun h155 hf => ?_)
  refine r_alu dX0_init_39 rfl ?_
  refine r_loc dX0_init_40 rfl ?_
  obtain ⟨h158, c156, hf⟩ := bnd_inv hf
  have g157 := rf_cX7_init (X := X) (d := d) (by omega) 286 (by decide) (h := h155) trivial (f_cX7_init_eq.trans (congrArg some c156))
  refine r_spec (pre := [.ref 4]) (rest := [.ref 286, .int 30, .ref 45]) dX0_init_41 ct_0_24 (Or.inl rfl) rfl (Nat.le_of_ble_eq_true rfl) (Nat.le_of_ble_eq_true rfl) g157 ?_
  refine r_aastc dX0_init_44 (sh_tk sh_45 (by decide)) (sh_tk (sh_S (s := 286) (by decide)) (by decide)) hf (fun h159 hf => ?_)
  refine r_loc (L' := [some (.ref 44), some (.ref 4), some (.int 31)]) dX0_init_45 rfl ?_
  refine r_goto (q := 25) dX0_init_48 rfl ?_
  refine r_loc dX0_init_25 rfl ?_
  refine r_bipush (v := 40) dX0_init_26 rfl ?_
  refine r_cF (q := 51) (st' := []) dX0_init_28 rfl rfl ?_
  refine r_loc dX0_init_31 rfl ?_
  refine r_gtR (y := 45) dX0_init_32 fl_0_11 (sh_tk sh_44 (by decide)) (Or.inr ⟨_, rfl⟩) hf (fun hf => ?_)
  refine r_loc dX0_init_35 rfl ?_
  refine r_new (n2 := 295) dX0_init_36 rfl (sh_S (s := 294) (by decide)) rfl hf (fun h160 hf => ?_)
  refine r_alu dX0_init_39 rfl ?_
  refine r_loc dX0_init_40 rfl ?_
  obtain ⟨h163, c161, hf⟩ := bnd_inv hf
  have g162 := rf_cX7_init (X := X) (d := d) (by omega) 294 (by decide) (h := h160) trivial (f_cX7_init_eq.trans (congrArg some c161))
  refine r_spec (pre := [.ref 4]) (rest := [.ref 294, .int 31, .ref 45]) dX0_init_41 ct_0_24 (Or.inl rfl) rfl (Nat.le_of_ble_eq_true rfl) (Nat.le_of_ble_eq_true rfl) g162 ?_
  refine r_aastc dX0_init_44 (sh_tk sh_45 (by decide)) (sh_tk (sh_S (s := 294) (by decide)) (by decide)) hf (fun h164 hf => ?_)
  refine r_loc (L' := [some (.ref 44), some (.ref 4), some (.int 32)]) dX0_init_45 rfl ?_
  refine r_goto (q := 25) dX0_init_48 rfl ?_
  refine r_loc dX0_init_25 rfl ?_
  refine r_bipush (v := 40) dX0_init_26 rfl ?_
  refine r_cF (q := 51) (st' := []) dX0_init_28 rfl rfl ?_
  refine r_loc dX0_init_31 rfl ?_
  refine r_gtR (y := 45) dX0_init_32 fl_0_11 (sh_tk sh_44 (by decide)) (Or.inr ⟨_, rfl⟩) hf (fun hf => ?_)
  refine r_loc dX0_init_35 rfl ?_
  refine r_new (n2 := 303) dX0_init_36 rfl (sh_S (s := 302) (by decide)) rfl hf (fun h165 hf => ?_)
  refine r_alu dX0_init_39 rfl ?_
  refine r_loc dX0_init_40 rfl ?_
  obtain ⟨h168, c166, hf⟩ := bnd_inv hf
  have g167 := rf_cX7_init (X := X) (d := d) (by omega) 302 (by decide) (h := h165) trivial (f_cX7_init_eq.trans (congrArg some c166))
  refine r_spec (pre := [.ref 4]) (rest := [.ref 302, .int 32, .ref 45]) dX0_init_41 ct_0_24 (Or.inl rfl) rfl (Nat.le_of_ble_eq_true rfl) (Nat.le_of_ble_eq_true rfl) g167 ?_
  refine r_aastc dX0_init_44 (sh_tk sh_45 (by decide)) (sh_tk (sh_S (s := 302) (by decide)) (by decide)) hf (fun h169 hf => ?_)
  refine r_loc (L' := [some (.ref 44), some (.ref 4), some (.int 33)]) dX0_init_45 rfl ?_
  refine r_goto (q := 25) dX0_init_48 rfl ?_
  refine r_loc dX0_init_25 rfl ?_
  refine r_bipush (v := 40) dX0_init_26 rfl ?_
  refine r_cF (q := 51) (st' := []) dX0_init_28 rfl rfl ?_
  refine r_loc dX0_init_31 rfl ?_
  refine r_gtR (y := 45) dX0_init_32 fl_0_11 (sh_tk sh_44 (by decide)) (Or.inr ⟨_, rfl⟩) hf (fun hf => ?_)
  refine r_loc dX0_init_35 rfl ?_
  refine r_new (n2 := 311) dX0_init_36 rfl (sh_S (s := 310) (by decide)) rfl hf (fun h170 hf => ?_)
  refine r_alu dX0_init_39 rfl ?_
  refine r_loc dX0_init_40 rfl ?_
  obtain ⟨h173, c171, hf⟩ := bnd_inv hf
  have g172 := rf_cX7_init (X := X) (d := d) (by omega) 310 (by decide) (h := h170) trivial (f_cX7_init_eq.trans (congrArg some c171))
  refine r_spec (pre := [.ref 4]) (rest := [.ref 310, .int 33, .ref 45]) dX0_init_41 ct_0_24 (Or.inl rfl) rfl (Nat.le_of_ble_eq_true rfl) (Nat.le_of_ble_eq_true rfl) g172 ?_
  refine r_aastc dX0_init_44 (sh_tk sh_45 (by decide)) (sh_tk (sh_S (s := 310) (by decide)) (by decide)) hf (fun h174 hf => ?_)
  refine r_loc (L' := [some (.ref 44), some (.ref 4), some (.int 34)]) dX0_init_45 rfl ?_
  refine r_goto (q := 25) dX0_init_48 rfl ?_
  refine r_loc dX0_init_25 rfl ?_
  refine r_bipush (v := 40) dX0_init_26 rfl ?_
  refine r_cF (q := 51) (st' := []) dX0_init_28 rfl rfl ?_
  refine r_loc dX0_init_31 rfl ?_
  refine r_gtR (y := 45) dX0_init_32 fl_0_11 (sh_tk sh_44 (by decide)) (Or.inr ⟨_, rfl⟩) hf (fun hf => ?_)
  refine r_loc dX0_init_35 rfl ?_
  refine r_new (n2 := 319) dX0_init_36 rfl (sh_S (s := 318) (by decide)) rfl hf (fun h175 hf => ?_)
  refine r_alu dX0_init_39 rfl ?_
  refine r_loc dX0_init_40 rfl ?_
  obtain ⟨h178, c176, hf⟩ := bnd_inv hf
  have g177 := rf_cX7_init (X := X) (d := d) (by omega) 318 (by decide) (h := h175) trivial (f_cX7_init_eq.trans (congrArg some c176))
  refine r_spec (pre := [.ref 4]) (rest := [.ref 318, .int 34, .ref 45]) dX0_init_41 ct_0_24 (Or.inl rfl) rfl (Nat.le_of_ble_eq_true rfl) (Nat.le_of_ble_eq_true rfl) g177 ?_
  refine r_aastc dX0_init_44 (sh_tk sh_45 (by decide)) (sh_tk (sh_S (s := 318) (by decide)) (by decide)) hf (fun h179 hf => ?_)
  refine r_loc (L' := [some (.ref 44), some (.ref 4), some (.int 35)]) dX0_init_45 rfl ?_
  refine r_goto (q := 25) dX0_init_48 rfl ?_
  refine r_loc dX0_init_25 rfl ?_
  refine r_bipush (v := 40) dX0_init_26 rfl ?_
  refine r_cF (q := 51) (st' := []) dX0_init_28 rfl rfl ?_
  refine r_loc dX0_init_31 rfl ?_
  refine r_gtR (y := 45) dX0_init_32 fl_0_11 (sh_tk sh_44 (by decide)) (Or.inr ⟨_, rfl⟩) hf (fun hf => ?_)
  refine r_loc dX0_init_35 rfl ?_
  refine r_new (n2 := 327) dX0_init_36 rfl (sh_S (s := 326) (by decide)) rfl hf (fun h180 hf => ?_)
  refine r_alu dX0_init_39 rfl ?_
  refine r_loc dX0_init_40 rfl ?_
  obtain ⟨h183, c181, hf⟩ := bnd_inv hf
  have g182 := rf_cX7_init (X := X) (d := d) (by omega) 326 (by decide) (h := h180) trivial (f_cX7_init_eq.trans (congrArg some c181))
  refine r_spec (pre := [.ref 4]) (rest := [.ref 326, .int 35, .ref 45]) dX0_init_41 ct_0_24 (Or.inl rfl) rfl (Nat.le_of_ble_eq_true rfl) (Nat.le_of_ble_eq_true rfl) g182 ?_
  refine r_aastc dX0_init_44 (sh_tk sh_45 (by decide)) (sh_tk (sh_S (s := 326) (by decide)) (by decide)) hf (fun h184 hf => ?_)
  refine r_loc (L' := [some (.ref 44), some (.ref 4), some (.int 36)]) dX0_init_45 rfl ?_
  refine r_goto (q := 25) dX0_init_48 rfl ?_
  refine r_loc dX0_init_25 rfl ?_
  refine r_bipush (v := 40) dX0_init_26 rfl ?_
  refine r_cF (q := 51) (st' := []) dX0_init_28 rfl rfl ?_
  refine r_loc dX0_init_31 rfl ?_
  refine r_gtR (y := 45) dX0_init_32 fl_0_11 (sh_tk sh_44 (by decide)) (Or.inr ⟨_, rfl⟩) hf (fun hf => ?_)
  refine r_loc dX0_init_35 rfl ?_
  refine r_new (n2 := 335) dX0_init_36 rfl (sh_S (s := 334) (by decide)) rfl hf (fun h185 hf => ?_)
  refine r_alu dX0_init_39 rfl ?_
  refine r_loc dX0_init_40 rfl ?_
  obtain ⟨h188, c186, hf⟩ := bnd_inv hf
  have g187 := rf_cX7_init (X := X) (d := d) (by omega) 334 (by decide) (h := h185) trivial (f_cX7_init_eq.trans (congrArg some c186))
  refine r_spec (pre := [.ref 4]) (rest := [.ref 334, .int 36, .ref 45]) dX0_init_41 ct_0_24 (Or.inl rfl) rfl (Nat.le_of_ble_eq_true rfl) (Nat.le_of_ble_eq_true rfl) g187 ?_
  refine r_aastc dX0_init_44 (sh_tk sh_45 (by decide)) (sh_tk (sh_S (s := 334) (by decide)) (by decide)) hf (fun h189 hf => ?_)
  refine r_loc (L' := [some (.ref 44), some (.ref 4), some (.int 37)]) dX0_init_45 rfl ?_
  refine r_goto (q := 25) dX0_init_48 rfl ?_
  refine r_loc dX0_init_25 rfl ?_
  refine r_bipush (v := 40) dX0_init_26 rfl ?_
  refine r_cF (q := 51) (st' := []) dX0_init_28 rfl rfl ?_
  refine r_loc dX0_init_31 rfl ?_
  refine r_gtR (y := 45) dX0_init_32 fl_0_11 (sh_tk sh_44 (by decide)) (Or.inr ⟨_, rfl⟩) hf (fun hf => ?_)
  refine r_loc dX0_init_35 rfl ?_
  refine r_new (n2 := 343) dX0_init_36 rfl (sh_S (s := 342) (by decide)) rfl hf (fun h190 hf => ?_)
  refine r_alu dX0_init_39 rfl ?_
  refine r_loc dX0_init_40 rfl ?_
  obtain ⟨h193, c191, hf⟩ := bnd_inv hf
  have g192 := rf_cX7_init (X := X) (d := d) (by omega) 342 (by decide) (h := h190) trivial (f_cX7_init_eq.trans (congrArg some c191))
  refine r_spec (pre := [.ref 4]) (rest := [.ref 342, .int 37, .ref 45]) dX0_init_41 ct_0_24 (Or.inl rfl) rfl (Nat.le_of_ble_eq_true rfl) (Nat.le_of_ble_eq_true rfl) g192 ?_
  refine r_aastc dX0_init_44 (sh_tk sh_45 (by decide)) (sh_tk (sh_S (s := 342) (by decide)) (by decide)) hf (fun h194 hf => ?_)
  refine r_loc (L' := [some (.ref 44), some (.ref 4), some (.int 38)]) dX0_init_45 rfl ?_
  refine r_goto (q := 25) dX0_init_48 rfl ?_
  refine r_loc dX0_init_25 rfl ?_
  refine r_bipush (v := 40) dX0_init_26 rfl ?_
  refine r_cF (q := 51) (st' := []) dX0_init_28 rfl rfl ?_
  refine r_loc dX0_init_31 rfl ?_
  refine r_gtR (y := 45) dX0_init_32 fl_0_11 (sh_tk sh_44 (by decide)) (Or.inr ⟨_, rfl⟩) hf (fun hf => ?_)
  refine r_loc dX0_init_35 rfl ?_
  refine r_new (n2 := 351) dX0_init_36 rfl (sh_S (s := 350) (by decide)) rfl hf (fun h195 hf => ?_)
  refine r_alu dX0_init_39 rfl ?_
  refine r_loc dX0_init_40 rfl ?_
  obtain ⟨h198, c196, hf⟩ := bnd_inv hf
  have g197 := rf_cX7_init (X := X) (d := d) (by omega) 350 (by decide) (h := h195) trivial (f_cX7_init_eq.trans (congrArg some c196))
  refine r_spec (pre := [.ref 4]) (rest := [.ref 350, .int 38, .ref 45]) dX0_init_41 ct_0_24 (Or.inl rfl) rfl (Nat.le_of_ble_eq_true rfl) (Nat.le_of_ble_eq_true rfl) g197 ?_
  refine r_aastc dX0_init_44 (sh_tk sh_45 (by decide)) (sh_tk (sh_S (s := 350) (by decide)) (by decide)) hf (fun h199 hf => ?_)
  refine r_loc (L' := [some (.ref 44), some (.ref 4), some (.int 39)]) dX0_init_45 rfl ?_
  refine r_goto (q := 25) dX0_init_48 rfl ?_
  refine r_loc dX0_init_25 rfl ?_
  refine r_bipush (v := 40) dX0_init_26 rfl ?_
  refine r_cF (q := 51) (st' := []) dX0_init_28 rfl rfl ?_
  refine r_loc dX0_init_31 rfl ?_
  refine r_gtR (y := 45) dX0_init_32 fl_0_11 (sh_tk sh_44 (by decide)) (Or.inr ⟨_, rfl⟩) hf (fun hf => ?_)
  refine r_loc dX0_init_35 rfl ?_
  refine r_new (n2 := 359) dX0_init_36 rfl (sh_S (s := 358) (by decide)) rfl hf (fun h200 hf => ?_)
  refine r_alu dX0_init_39 rfl ?_
  refine r_loc dX0_init_40 rfl ?_
  obtain ⟨h203, c201, hf⟩ := bnd_inv hf
  have g202 := rf_cX7_init (X := X) (d := d) (by omega) 358 (by decide) (h := h200) trivial (f_cX7_init_eq.trans (congrArg some c201))
  refine r_spec (pre := [.ref 4]) (rest := [.ref 358, .int 39, .ref 45]) dX0_init_41 ct_0_24 (Or.inl rfl) rfl (Nat.le_of_ble_eq_true rfl) (Nat.le_of_ble_eq_true rfl) g202 ?_
  refine r_aastc dX0_init_44 (sh_tk sh_45 (by decide)) (sh_tk (sh_S (s := 358) (by decide)) (by decide)) hf (fun h204 hf => ?_)
  refine r_loc (L' := [some (.ref 44), some (.ref 4), some (.int 40)]) dX0_init_45 rfl ?_
  refine r_goto (q := 25) dX0_init_48 rfl ?_
  refine r_loc dX0_init_25 rfl ?_
  refine r_bipush (v := 40) dX0_init_26 rfl ?_
  refine r_cF (q := 51) (st' := []) dX0_init_28 rfl rfl ?_
  refine r_loc dX0_init_31 rfl ?_
  refine r_gtR (y := 45) dX0_init_32 fl_0_11 (sh_tk sh_44 (by decide)) (Or.inr ⟨_, rfl⟩) hf (fun hf => ?_)
  refine r_loc dX0_init_35 rfl ?_
  refine r_new (n2 := 367) dX0_init_36 rfl (sh_S (s := 366) (by decide)) rfl hf (fun h205 hf => ?_)
  refine r_alu dX0_init_39 rfl ?_
  refine r_loc dX0_init_40 rfl ?_
  obtain ⟨h208, c206, hf⟩ := bnd_inv hf
  have g207 := rf_cX7_init (X := X) (d := d) (by omega) 366 (by decide) (h := h205) trivial (f_cX7_init_eq.trans (congrArg some c206))
  refine r_spec (pre := [.ref 4]) (rest := [.ref 366, .int 40, .ref 45]) dX0_init_41 ct_0_24 (Or.inl rfl) rfl (Nat.le_of_ble_eq_true rfl) (Nat.le_of_ble_eq_true rfl) g207 ?_
  refine r_aastc dX0_init_44 (sh_tk sh_45 (by decide)) (sh_tk (sh_S (s := 366) (by decide)) (by decide)) hf (fun h209 hf => ?_)
  refine r_loc (L' := [some (.ref 44), some (.ref 4), some (.int 41)]) dX0_init_45 rfl ?_
  refine r_goto (q := 25) dX0_init_48 rfl ?_
  refine r_loc dX0_init_25 rfl ?_
  refine r_bipush (v := 40) dX0_init_26 rfl ?_
  refine r_cT (q := 51) (st' := []) dX0_init_28 rfl rfl ?_
  cases hf
  exact r_ret trivial dX0_init_51 rfl
def f_cX1_init_374  (h : am_H) : Option (am_H) := nwH h 375 fun h1 => ptR h1 374 0 375 fun h2 => nwH h2 376 fun h3 => ptR h3 374 1 376 fun h4 => gtR h4 374 0 375 (nwH h4 377 fun h5 => bnd (stN 377 h5) fun h8 => wrR h8 375 3 0 377 fun h9 => gtR h9 374 0 375 (nwH h9 385 fun h10 => bnd (stN 385 h10) fun h13 => wrR h13 375 3 1 385 fun h14 => gtR h14 374 0 375 (nwH h14 393 fun h15 => bnd (stN 393 h15) fun h18 => wrR h18 375 3 2 393 fun h19 => some h19)))
theorem rf_cX1_init_374 {X : am_X} {d : Nat} (hd : 2 ≤ d)  {h : am_H} (T : am_N0 h.2.2) {r : am_H} (hf : f_cX1_init_374  h = some r) : am_GG am_N0 X d 1 true cX1_init none 0 [some (.ref 374), some (.ref 4), none] [] (am_SH.take 375, h) (none, (am_SH.take 401, r)) := by
  unfold f_cX1_init_374 at hf
  obtain ⟨d, rfl⟩ : ∃ e, d = e + 1 := ⟨d - 1, by omega⟩
  refine r_loc dX1_init_0 rfl ?_
  refine r_obj dX1_init_1 ct_1_3 (Nat.le_of_ble_eq_true rfl) ?_
  refine r_loc dX1_init_4 rfl ?_
  refine r_iconst (v := 3) dX1_init_5 rfl ?_
  refine r_anewar (k := 3) (n2 := 376) dX1_init_6 rfl (by decide) (Nat.le_of_ble_eq_true rfl) sh_375 rfl hf (fun h1 hf => ?_)
  refine r_putR dX1_init_9 fl_1_11 (sh_tk sh_374 (by decide)) (Or.inr ⟨_, rfl⟩) (Or.inr ⟨rfl, rfl⟩) hf (fun h2 hf => ?_)
  refine r_loc dX1_init_12 rfl ?_
  refine r_iconst (v := 3) dX1_init_13 rfl ?_
  refine r_newar (k := 3) (n2 := 377) dX1_init_14 rfl (by decide) (Nat.le_of_ble_eq_true rfl) sh_376 rfl hf (fun h3 hf => ?_)
  refine r_putR dX1_init_16 fl_1_17 (sh_tk sh_374 (by decide)) (Or.inr ⟨_, rfl⟩) (Or.inr ⟨rfl, rfl⟩) hf (fun h4 hf => ?_)
  refine r_iconst (v := 0) dX1_init_19 rfl ?_
  refine r_loc (L' := [some (.ref 374), some (.ref 4), some (.int 0)]) dX1_init_20 rfl ?_
  refine r_loc dX1_init_21 rfl ?_
  refine r_iconst (v := 3) dX1_init_22 rfl ?_
  refine r_cF (q := 46) (st' := []) dX1_init_23 rfl rfl ?_
  refine r_loc dX1_init_26 rfl ?_
  refine r_gtR (y := 375) dX1_init_27 fl_1_11 (sh_tk sh_374 (by decide)) (Or.inr ⟨_, rfl⟩) hf (fun hf => ?_)
  refine r_loc dX1_init_30 rfl ?_
  refine r_new (n2 := 378) dX1_init_31 rfl (sh_S (s := 377) (by decide)) rfl hf (fun h5 hf => ?_)
  refine r_alu dX1_init_34 rfl ?_
  refine r_loc dX1_init_35 rfl ?_
  obtain ⟨h8, c6, hf⟩ := bnd_inv hf
  have g7 := rf_cX7_init (X := X) (d := d) (by omega) 377 (by decide) (h := h5) trivial (f_cX7_init_eq.trans (congrArg some c6))
  refine r_spec (pre := [.ref 4]) (rest := [.ref 377, .int 0, .ref 375]) dX1_init_36 ct_1_21 (Or.inl rfl) rfl (Nat.le_of_ble_eq_true rfl) (Nat.le_of_ble_eq_true rfl) g7 ?_
  refine r_aastc dX1_init_39 (sh_tk sh_375 (by decide)) (sh_tk (sh_S (s := 377) (by decide)) (by decide)) hf (fun h9 hf => ?_)
  refine r_loc (L' := [some (.ref 374), some (.ref 4), some (.int 1)]) dX1_init_40 rfl ?_
  refine r_goto (q := 21) dX1_init_43 rfl ?_
  refine r_loc dX1_init_21 rfl ?_
  refine r_iconst (v := 3) dX1_init_22 rfl ?_
  refine r_cF (q := 46) (st' := []) dX1_init_23 rfl rfl ?_
  refine r_loc dX1_init_26 rfl ?_
  refine r_gtR (y := 375) dX1_init_27 fl_1_11 (sh_tk sh_374 (by decide)) (Or.inr ⟨_, rfl⟩) hf (fun hf => ?_)
  refine r_loc dX1_init_30 rfl ?_
  refine r_new (n2 := 386) dX1_init_31 rfl (sh_S (s := 385) (by decide)) rfl hf (fun h10 hf => ?_)
  refine r_alu dX1_init_34 rfl ?_
  refine r_loc dX1_init_35 rfl ?_
  obtain ⟨h13, c11, hf⟩ := bnd_inv hf
  have g12 := rf_cX7_init (X := X) (d := d) (by omega) 385 (by decide) (h := h10) trivial (f_cX7_init_eq.trans (congrArg some c11))
  refine r_spec (pre := [.ref 4]) (rest := [.ref 385, .int 1, .ref 375]) dX1_init_36 ct_1_21 (Or.inl rfl) rfl (Nat.le_of_ble_eq_true rfl) (Nat.le_of_ble_eq_true rfl) g12 ?_
  refine r_aastc dX1_init_39 (sh_tk sh_375 (by decide)) (sh_tk (sh_S (s := 385) (by decide)) (by decide)) hf (fun h14 hf => ?_)
  refine r_loc (L' := [some (.ref 374), some (.ref 4), some (.int 2)]) dX1_init_40 rfl ?_
  refine r_goto (q := 21) dX1_init_43 rfl ?_
  refine r_loc dX1_init_21 rfl ?_
  refine r_iconst (v := 3) dX1_init_22 rfl ?_
  refine r_cF (q := 46) (st' := []) dX1_init_23 rfl rfl ?_
  refine r_loc dX1_init_26 rfl ?_
  refine r_gtR (y := 375) dX1_init_27 fl_1_11 (sh_tk sh_374 (by decide)) (Or.inr ⟨_, rfl⟩) hf (fun hf => ?_)
  refine r_loc dX1_init_30 rfl ?_
  refine r_new (n2 := 394) dX1_init_31 rfl (sh_S (s := 393) (by decide)) rfl hf (fun h15 hf => ?_)
  refine r_alu dX1_init_34 rfl ?_
  refine r_loc dX1_init_35 rfl ?_
  obtain ⟨h18, c16, hf⟩ := bnd_inv hf
  have g17 := rf_cX7_init (X := X) (d := d) (by omega) 393 (by decide) (h := h15) trivial (f_cX7_init_eq.trans (congrArg some c16))
  refine r_spec (pre := [.ref 4]) (rest := [.ref 393, .int 2, .ref 375]) dX1_init_36 ct_1_21 (Or.inl rfl) rfl (Nat.le_of_ble_eq_true rfl) (Nat.le_of_ble_eq_true rfl) g17 ?_
  refine r_aastc dX1_init_39 (sh_tk sh_375 (by decide)) (sh_tk (sh_S (s := 393) (by decide)) (by decide)) hf (fun h19 hf => ?_)
  refine r_loc (L' := [some (.ref 374), some (.ref 4), some (.int 3)]) dX1_init_40 rfl ?_
  refine r_goto (q := 21) dX1_init_43 rfl ?_
  refine r_loc dX1_init_21 rfl ?_
  refine r_iconst (v := 3) dX1_init_22 rfl ?_
  refine r_cT (q := 46) (st' := []) dX1_init_23 rfl rfl ?_
  cases hf
  exact r_ret trivial dX1_init_46 rfl
def f_cX8_init_401  (h : am_H) : Option (am_H) := nwH h 402 fun h1 => ptR h1 401 1 402 fun h2 => nwH h2 403 fun h3 => ptR h3 401 2 403 fun h4 => ptI h4 401 3 (-1) fun h5 => ptI h5 401 4 (-1) fun h6 => ptR h6 401 0 4 fun h7 => some h7
theorem rf_cX8_init_401 {X : am_X} {d : Nat} (hd : 1 ≤ d)  {h : am_H} (T : am_N0 h.2.2) {r : am_H} (hf : f_cX8_init_401  h = some r) : am_GG am_N0 X d 8 true cX8_init none 0 [some (.ref 401), some (.ref 4)] [] (am_SH.take 402, h) (none, (am_SH.take 404, r)) := by
  unfold f_cX8_init_401 at hf
  obtain ⟨d, rfl⟩ : ∃ e, d = e + 1 := ⟨d - 1, by omega⟩
  refine r_loc dX8_init_0 rfl ?_
  refine r_obj dX8_init_1 ct_8_3 (Nat.le_of_ble_eq_true rfl) ?_
  refine r_loc dX8_init_4 rfl ?_
  refine r_iconst (v := 4) dX8_init_5 rfl ?_
  refine r_newar (k := 4) (n2 := 403) dX8_init_6 rfl (by decide) (Nat.le_of_ble_eq_true rfl) sh_402 rfl hf (fun h1 hf => ?_)
  refine r_putR dX8_init_8 fl_8_9 (sh_tk sh_401 (by decide)) (Or.inr ⟨_, rfl⟩) (Or.inr ⟨rfl, rfl⟩) hf (fun h2 hf => ?_)
  refine r_loc dX8_init_11 rfl ?_
  refine r_bipush (v := 8) dX8_init_12 rfl ?_
  refine r_newar (k := 8) (n2 := 404) dX8_init_14 rfl (by decide) (Nat.le_of_ble_eq_true rfl) sh_403 rfl hf (fun h3 hf => ?_)
  refine r_putR dX8_init_16 fl_8_15 (sh_tk sh_401 (by decide)) (Or.inr ⟨_, rfl⟩) (Or.inr ⟨rfl, rfl⟩) hf (fun h4 hf => ?_)
  refine r_loc dX8_init_19 rfl ?_
  refine r_iconst (v := (-1)) dX8_init_20 rfl ?_
  refine r_putIc dX8_init_21 fl_8_18 (sh_tk sh_401 (by decide)) ⟨rfl, rfl⟩ hf (fun h5 hf => ?_)
  refine r_loc dX8_init_24 rfl ?_
  refine r_iconst (v := (-1)) dX8_init_25 rfl ?_
  refine r_putIc dX8_init_26 fl_8_22 (sh_tk sh_401 (by decide)) ⟨rfl, rfl⟩ hf (fun h6 hf => ?_)
  refine r_loc dX8_init_29 rfl ?_
  refine r_loc dX8_init_30 rfl ?_
  refine r_putR dX8_init_31 fl_8_25 (sh_tk sh_401 (by decide)) (Or.inl ⟨_, rfl⟩) (Or.inr ⟨rfl, rfl⟩) hf (fun h7 hf => ?_)
  cases hf
  exact r_ret trivial dX8_init_34 rfl
def f_cX3_init_404  (h : am_H) : Option (am_H) := nwH h 405 fun h1 => ptR h1 404 1 405 fun h2 => nwH h2 406 fun h3 => ptR h3 404 2 406 fun h4 => nwH h4 407 fun h5 => ptR h5 404 3 407 fun h6 => nwH h6 408 fun h7 => ptR h7 404 4 408 fun h8 => nwH h8 409 fun h9 => ptR h9 404 5 409 fun h10 => nwH h10 410 fun h11 => ptR h11 404 6 410 fun h12 => nwH h12 411 fun h13 => ptR h13 404 7 411 fun h14 => ptI h14 404 8 0 fun h15 => ptI h15 404 9 0 fun h16 => ptR h16 404 0 4 fun h17 => some h17
theorem rf_cX3_init_404 {X : am_X} {d : Nat} (hd : 1 ≤ d)  {h : am_H} (T : am_N0 h.2.2) {r : am_H} (hf : f_cX3_init_404  h = some r) : am_GG am_N0 X d 3 true cX3_init none 0 [some (.ref 404), some (.ref 4)] [] (am_SH.take 405, h) (none, (am_SH.take 412, r)) := by
  unfold f_cX3_init_404 at hf
  obtain ⟨d, rfl⟩ : ∃ e, d = e + 1 := ⟨d - 1, by omega⟩
  refine r_loc dX3_init_0 rfl ?_
  refine r_obj dX3_init_1 ct_3_3 (Nat.le_of_ble_eq_true rfl) ?_
  refine r_loc dX3_init_4 rfl ?_
  refine r_bipush (v := 30) dX3_init_5 rfl ?_
  refine r_newar (k := 30) (n2 := 406) dX3_init_7 rfl (by decide) (Nat.le_of_ble_eq_true rfl) sh_405 rfl hf (fun h1 hf => ?_)
  refine r_putR dX3_init_9 fl_3_9 (sh_tk sh_404 (by decide)) (Or.inr ⟨_, rfl⟩) (Or.inr ⟨rfl, rfl⟩) hf (fun h2 hf => ?_)
  refine r_loc dX3_init_12 rfl ?_
  refine r_bipush (v := 30) dX3_init_13 rfl ?_
  refine r_newar (k := 30) (n2 := 407) dX3_init_15 rfl (by decide) (Nat.le_of_ble_eq_true rfl) sh_406 rfl hf (fun h3 hf => ?_)
  refine r_putR dX3_init_17 fl_3_15 (sh_tk sh_404 (by decide)) (Or.inr ⟨_, rfl⟩) (Or.inr ⟨rfl, rfl⟩) hf (fun h4 hf => ?_)
  refine r_loc dX3_init_20 rfl ?_
  refine r_bipush (v := 30) dX3_init_21 rfl ?_
  refine r_newar (k := 30) (n2 := 408) dX3_init_23 rfl (by decide) (Nat.le_of_ble_eq_true rfl) sh_407 rfl hf (fun h5 hf => ?_)
  refine r_putR dX3_init_25 fl_3_18 (sh_tk sh_404 (by decide)) (Or.inr ⟨_, rfl⟩) (Or.inr ⟨rfl, rfl⟩) hf (fun h6 hf => ?_)
  refine r_loc dX3_init_28 rfl ?_
  refine r_bipush (v := 30) dX3_init_29 rfl ?_
  refine r_newar (k := 30) (n2 := 409) dX3_init_31 rfl (by decide) (Nat.le_of_ble_eq_true rfl) sh_408 rfl hf (fun h7 hf => ?_)
  refine r_putR dX3_init_33 fl_3_22 (sh_tk sh_404 (by decide)) (Or.inr ⟨_, rfl⟩) (Or.inr ⟨rfl, rfl⟩) hf (fun h8 hf => ?_)
  refine r_loc dX3_init_36 rfl ?_
  refine r_bipush (v := 30) dX3_init_37 rfl ?_
  refine r_newar (k := 30) (n2 := 410) dX3_init_39 rfl (by decide) (Nat.le_of_ble_eq_true rfl) sh_409 rfl hf (fun h9 hf => ?_)
  refine r_putR dX3_init_41 fl_3_25 (sh_tk sh_404 (by decide)) (Or.inr ⟨_, rfl⟩) (Or.inr ⟨rfl, rfl⟩) hf (fun h10 hf => ?_)
  refine r_loc dX3_init_44 rfl ?_
  refine r_bipush (v := 30) dX3_init_45 rfl ?_
  refine r_newar (k := 30) (n2 := 411) dX3_init_47 rfl (by decide) (Nat.le_of_ble_eq_true rfl) sh_410 rfl hf (fun h11 hf => ?_)
  refine r_putR dX3_init_49 fl_3_28 (sh_tk sh_404 (by decide)) (Or.inr ⟨_, rfl⟩) (Or.inr ⟨rfl, rfl⟩) hf (fun h12 hf => ?_)
  refine r_loc dX3_init_52 rfl ?_
  refine r_bipush (v := 7) dX3_init_53 rfl ?_
  refine r_newar (k := 7) (n2 := 412) dX3_init_55 rfl (by decide) (Nat.le_of_ble_eq_true rfl) sh_411 rfl hf (fun h13 hf => ?_)
  refine r_putR dX3_init_57 fl_3_31 (sh_tk sh_404 (by decide)) (Or.inr ⟨_, rfl⟩) (Or.inr ⟨rfl, rfl⟩) hf (fun h14 hf => ?_)
  refine r_loc dX3_init_60 rfl ?_
  refine r_iconst (v := 0) dX3_init_61 rfl ?_
  refine r_putIc dX3_init_62 fl_3_34 (sh_tk sh_404 (by decide)) ⟨rfl, rfl⟩ hf (fun h15 hf => ?_)
  refine r_loc dX3_init_65 rfl ?_
  refine r_iconst (v := 0) dX3_init_66 rfl ?_
  refine r_putIc dX3_init_67 fl_3_38 (sh_tk sh_404 (by decide)) ⟨rfl, rfl⟩ hf (fun h16 hf => ?_)
  refine r_loc dX3_init_70 rfl ?_
  refine r_loc dX3_init_71 rfl ?_
  refine r_putR dX3_init_72 fl_3_41 (sh_tk sh_404 (by decide)) (Or.inl ⟨_, rfl⟩) (Or.inr ⟨rfl, rfl⟩) hf (fun h17 hf => ?_)
  cases hf
  exact r_ret trivial dX3_init_75 rfl
def f_cX11_init_0  (h : am_H) : Option (am_H) := nwH h 1 fun h1 => cal (f_cX9_init_1 h1) fun h4 => ptR h4 0 0 1 fun h5 => nwH h5 4 fun h6 => cal (f_cX4_init_4 h6) fun h9 => ptR h9 0 1 4 fun h10 => nwH h10 14 fun h11 => gtR h11 0 0 1 (cal (f_cX5_init_14 h11) fun h14 => ptR h14 0 2 14 fun h15 => nwH h15 27 fun h16 => gtR h16 0 1 4 (bnd (stN 27 h16) fun h19 => ptR h19 0 3 27 fun h20 => nwH h20 35 fun h21 => gtR h21 0 1 4 (cal (f_cX10_init_35 h21) fun h24 => ptR h24 0 4 35 fun h25 => nwH h25 44 fun h26 => gtR h26 0 1 4 (cal (f_cX0_init_44 h26) fun h29 => ptR h29 0 5 44 fun h30 => nwH h30 374 fun h31 => gtR h31 0 1 4 (cal (f_cX1_init_374 h31) fun h34 => ptR h34 0 6 374 fun h35 => nwH h35 401 fun h36 => gtR h36 0 1 4 (cal (f_cX8_init_401 h36) fun h39 => ptR h39 0 7 401 fun h40 => nwH h40 404 fun h41 => gtR h41 0 1 4 (cal (f_cX3_init_404 h41) fun h44 => ptR h44 0 8 404 fun h45 => nwH h45 412 fun h46 => ptR h46 0 9 412 fun h47 => ptI h47 0 10 0 fun h48 => some h48)))))))
theorem rf_cX11_init_0 {X : am_X} {d : Nat} (hd : 11 ≤ d)  {h : am_H} (T : am_N0 h.2.2) {r : am_H} (hf : f_cX11_init_0  h = some r) : am_GG am_N0 X d 11 true cX11_init none 0 [some (.ref 0)] [] (am_SH.take 1, h) (none, (am_SH.take 413, r)) := by
  unfold f_cX11_init_0 at hf
  obtain ⟨d, rfl⟩ : ∃ e, d = e + 1 := ⟨d - 1, by omega⟩
  refine r_loc dX11_init_0 rfl ?_
  refine r_obj dX11_init_1 ct_11_3 (Nat.le_of_ble_eq_true rfl) ?_
  refine r_loc dX11_init_4 rfl ?_
  refine r_new (n2 := 2) dX11_init_5 rfl sh_1 rfl hf (fun h1 hf => ?_)
  refine r_alu dX11_init_8 rfl ?_
  obtain ⟨h4, c2, hf⟩ := cal_inv hf
  have g3 := rf_cX9_init_1 (X := X) (d := d) (by omega) (h := h1) trivial c2
  refine r_spec (pre := []) (rest := [.ref 1, .ref 0]) dX11_init_9 ct_11_11 (Or.inl rfl) rfl (Nat.le_of_ble_eq_true rfl) (Nat.le_of_ble_eq_true rfl) g3 ?_
  refine r_putR dX11_init_12 fl_11_12 (sh_tk sh_0 (by decide)) (Or.inl ⟨_, rfl⟩) (Or.inr ⟨rfl, rfl⟩) hf (fun h5 hf => ?_)
  refine r_loc dX11_init_15 rfl ?_
  refine r_new (n2 := 5) dX11_init_16 rfl sh_4 rfl hf (fun h6 hf => ?_)
  refine r_alu dX11_init_19 rfl ?_
  obtain ⟨h9, c7, hf⟩ := cal_inv hf
  have g8 := rf_cX4_init_4 (X := X) (d := d) (by omega) (h := h6) trivial c7
  refine r_spec (pre := []) (rest := [.ref 4, .ref 0]) dX11_init_20 ct_11_18 (Or.inl rfl) rfl (Nat.le_of_ble_eq_true rfl) (Nat.le_of_ble_eq_true rfl) g8 ?_
  refine r_putR dX11_init_23 fl_11_19 (sh_tk sh_0 (by decide)) (Or.inl ⟨_, rfl⟩) (Or.inr ⟨rfl, rfl⟩) hf (fun h10 hf => ?_)
  refine r_loc dX11_init_26 rfl ?_
  refine r_new (n2 := 15) dX11_init_27 rfl sh_14 rfl hf (fun h11 hf => ?_)
  refine r_alu dX11_init_30 rfl ?_
  refine r_loc dX11_init_31 rfl ?_
  refine r_gtR (y := 1) dX11_init_32 fl_11_12 (sh_tk sh_0 (by decide)) (Or.inl ⟨_, rfl⟩) hf (fun hf => ?_)
  obtain ⟨h14, c12, hf⟩ := cal_inv hf
  have g13 := rf_cX5_init_14 (X := X) (d := d) (by omega) (h := h11) trivial c12
  refine r_spec (pre := [.ref 1]) (rest := [.ref 14, .ref 0]) dX11_init_35 ct_11_25 (Or.inl rfl) rfl (Nat.le_of_ble_eq_true rfl) (Nat.le_of_ble_eq_true rfl) g13 ?_
  refine r_putR dX11_init_38 fl_11_28 (sh_tk sh_0 (by decide)) (Or.inl ⟨_, rfl⟩) (Or.inr ⟨rfl, rfl⟩) hf (fun h15 hf => ?_)
  refine r_loc dX11_init_41 rfl ?_
  refine r_new (n2 := 28) dX11_init_42 rfl (sh_S (s := 27) (by decide)) rfl hf (fun h16 hf => ?_)
  refine r_alu dX11_init_45 rfl ?_
  refine r_loc dX11_init_46 rfl ?_
  refine r_gtR (y := 4) dX11_init_47 fl_11_19 (sh_tk sh_0 (by decide)) (Or.inl ⟨_, rfl⟩) hf (fun hf => ?_)
  obtain ⟨h19, c17, hf⟩ := bnd_inv hf
  have g18 := rf_cX7_init (X := X) (d := d) (by omega) 27 (by decide) (h := h16) trivial (f_cX7_init_eq.trans (congrArg some c17))
  refine r_spec (pre := [.ref 4]) (rest := [.ref 27, .ref 0]) dX11_init_50 ct_11_34 (Or.inl rfl) rfl (Nat.le_of_ble_eq_true rfl) (Nat.le_of_ble_eq_true rfl) g18 ?_
  refine r_putR dX11_init_53 fl_11_37 (sh_tk sh_0 (by decide)) (Or.inl ⟨_, rfl⟩) (Or.inr ⟨rfl, rfl⟩) hf (fun h20 hf => ?_)
  refine r_loc dX11_init_56 rfl ?_
  refine r_new (n2 := 36) dX11_init_57 rfl sh_35 rfl hf (fun h21 hf => ?_)
  refine r_alu dX11_init_60 rfl ?_
  refine r_loc dX11_init_61 rfl ?_
  refine r_gtR (y := 4) dX11_init_62 fl_11_19 (sh_tk sh_0 (by decide)) (Or.inl ⟨_, rfl⟩) hf (fun hf => ?_)
  obtain ⟨h24, c22, hf⟩ := cal_inv hf
  have g23 := rf_cX10_init_35 (X := X) (d := d) (by omega) (h := h21) trivial c22
  refine r_spec (pre := [.ref 4]) (rest := [.ref 35, .ref 0]) dX11_init_65 ct_11_43 (Or.inl rfl) rfl (Nat.le_of_ble_eq_true rfl) (Nat.le_of_ble_eq_true rfl) g23 ?_
  refine r_putR dX11_init_68 fl_11_44 (sh_tk sh_0 (by decide)) (Or.inl ⟨_, rfl⟩) (Or.inr ⟨rfl, rfl⟩) hf (fun h25 hf => ?_)
  refine r_loc dX11_init_71 rfl ?_
  refine r_new (n2 := 45) dX11_init_72 rfl sh_44 rfl hf (fun h26 hf => ?_)
  refine r_alu dX11_init_75 rfl ?_
  refine r_loc dX11_init_76 rfl ?_
  refine r_gtR (y := 4) dX11_init_77 fl_11_19 (sh_tk sh_0 (by decide)) (Or.inl ⟨_, rfl⟩) hf (fun hf => ?_)
  obtain ⟨h29, c27, hf⟩ := cal_inv hf
  have g28 := rf_cX0_init_44 (X := X) (d := d) (by omega) (h := h26) trivial c27
  refine r_spec (pre := [.ref 4]) (rest := [.ref 44, .ref 0]) dX11_init_80 ct_11_50 (Or.inl rfl) rfl (Nat.le_of_ble_eq_true rfl) (Nat.le_of_ble_eq_true rfl) g28 ?_
  refine r_putR dX11_init_83 fl_11_51 (sh_tk sh_0 (by decide)) (Or.inl ⟨_, rfl⟩) (Or.inr ⟨rfl, rfl⟩) hf (fun h30 hf => ?_)
  refine r_loc dX11_init_86 rfl ?_
  refine r_new (n2 := 375) dX11_init_87 rfl sh_374 rfl hf (fun h31 hf => ?_)
  refine r_alu dX11_init_90 rfl ?_
  refine r_loc dX11_init_91 rfl ?_
  refine r_gtR (y := 4) dX11_init_92 fl_11_19 (sh_tk sh_0 (by decide)) (Or.inl ⟨_, rfl⟩) hf (fun hf => ?_)
  obtain ⟨h34, c32, hf⟩ := cal_inv hf
  have g33 := rf_cX1_init_374 (X := X) (d := d) (by omega) (h := h31) trivial c32
  refine r_spec (pre := [.ref 4]) (rest := [.ref 374, .ref 0]) dX11_init_95 ct_11_57 (Or.inl rfl) rfl (Nat.le_of_ble_eq_true rfl) (Nat.le_of_ble_eq_true rfl) g33 ?_
  refine r_putR dX11_init_98 fl_11_58 (sh_tk sh_0 (by decide)) (Or.inl ⟨_, rfl⟩) (Or.inr ⟨rfl, rfl⟩) hf (fun h35 hf => ?_)
  refine r_loc dX11_init_101 rfl ?_
  refine r_new (n2 := 402) dX11_init_102 rfl sh_401 rfl hf (fun h36 hf => ?_)
  refine r_alu dX11_init_105 rfl ?_
  refine r_loc dX11_init_106 rfl ?_
  refine r_gtR (y := 4) dX11_init_107 fl_11_19 (sh_tk sh_0 (by decide)) (Or.inl ⟨_, rfl⟩) hf (fun hf => ?_)
  obtain ⟨h39, c37, hf⟩ := cal_inv hf
  have g38 := rf_cX8_init_401 (X := X) (d := d) (by omega) (h := h36) trivial c37
  refine r_spec (pre := [.ref 4]) (rest := [.ref 401, .ref 0]) dX11_init_110 ct_11_64 (Or.inl rfl) rfl (Nat.le_of_ble_eq_true rfl) (Nat.le_of_ble_eq_true rfl) g38 ?_
  refine r_putR dX11_init_113 fl_11_65 (sh_tk sh_0 (by decide)) (Or.inl ⟨_, rfl⟩) (Or.inr ⟨rfl, rfl⟩) hf (fun h40 hf => ?_)
  refine r_loc dX11_init_116 rfl ?_
  refine r_new (n2 := 405) dX11_init_117 rfl sh_404 rfl hf (fun h41 hf => ?_)
  refine r_alu dX11_init_120 rfl ?_
  refine r_loc dX11_init_121 rfl ?_
  refine r_gtR (y := 4) dX11_init_122 fl_11_19 (sh_tk sh_0 (by decide)) (Or.inl ⟨_, rfl⟩) hf (fun hf => ?_)
  obtain ⟨h44, c42, hf⟩ := cal_inv hf
  have g43 := rf_cX3_init_404 (X := X) (d := d) (by omega) (h := h41) trivial c42
  refine r_spec (pre := [.ref 4]) (rest := [.ref 404, .ref 0]) dX11_init_125 ct_11_71 (Or.inl rfl) rfl (Nat.le_of_ble_eq_true rfl) (Nat.le_of_ble_eq_true rfl) g43 ?_
  refine r_putR dX11_init_128 fl_11_72 (sh_tk sh_0 (by decide)) (Or.inl ⟨_, rfl⟩) (Or.inr ⟨rfl, rfl⟩) hf (fun h45 hf => ?_)
  refine r_loc dX11_init_131 rfl ?_
  refine r_bipush (v := 8) dX11_init_132 rfl ?_
  refine r_newar (k := 8) (n2 := 413) dX11_init_134 rfl (by decide) (Nat.le_of_ble_eq_true rfl) sh_412 rfl hf (fun h46 hf => ?_)
  refine r_putR dX11_init_136 fl_11_76 (sh_tk sh_0 (by decide)) (Or.inr ⟨_, rfl⟩) (Or.inr ⟨rfl, rfl⟩) hf (fun h47 hf => ?_)
  refine r_loc dX11_init_139 rfl ?_
  refine r_iconst (v := 0) dX11_init_140 rfl ?_
  refine r_putIc dX11_init_141 fl_11_80 (sh_tk sh_0 (by decide)) ⟨rfl, rfl⟩ hf (fun h48 hf => ?_)
  cases hf
  exact r_ret trivial dX11_init_144 rfl
def f_cX12_init_413  (h : am_H) : Option (am_H) := nwH h 414 fun h1 => ptR h1 413 0 414 fun h2 => nwH h2 415 fun h3 => ptR h3 413 1 415 fun h4 => ptI h4 413 5 (-1) fun h5 => nwH h5 416 fun h6 => ptR h6 413 11 416 fun h7 => nwH h7 417 fun h8 => ptR h8 413 12 417 fun h9 => nwH h9 418 fun h10 => ptR h10 413 13 418 fun h11 => nwH h11 419 fun h12 => ptR h12 413 14 419 fun h13 => nwH h13 420 fun h14 => ptR h14 413 15 420 fun h15 => nwH h15 421 fun h16 => ptR h16 413 16 421 fun h17 => nwH h17 422 fun h18 => ptR h18 413 17 422 fun h19 => nwH h19 423 fun h20 => ptR h20 413 18 423 fun h21 => nwH h21 424 fun h22 => ptR h22 413 19 424 fun h23 => nwH h23 425 fun h24 => ptR h24 413 20 425 fun h25 => nwH h25 426 fun h26 => ptR h26 413 21 426 fun h27 => nwH h27 427 fun h28 => ptR h28 413 22 427 fun h29 => nwH h29 428 fun h30 => ptR h30 413 23 428 fun h31 => nwH h31 429 fun h32 => ptR h32 413 24 429 fun h33 => nwH h33 430 fun h34 => ptR h34 413 25 430 fun h35 => nwH h35 431 fun h36 => ptR h36 413 26 431 fun h37 => nwH h37 432 fun h38 => ptR h38 413 27 432 fun h39 => nwH h39 433 fun h40 => ptR h40 413 28 433 fun h41 => nwH h41 434 fun h42 => ptR h42 413 29 434 fun h43 => nwH h43 435 fun h44 => ptR h44 413 30 435 fun h45 => nwH h45 436 fun h46 => ptR h46 413 31 436 fun h47 => nwH h47 437 fun h48 => ptR h48 413 40 437 fun h49 => nwH h49 438 fun h50 => ptR h50 413 41 438 fun h51 => ptI h51 413 42 (-1) fun h52 => nwH h52 439 fun h53 => ptR h53 413 43 439 fun h54 => nwH h54 440 fun h55 => ptR h55 413 46 440 fun h56 => nwH h56 441 fun h57 => ptR h57 413 48 441 fun h58 => nwH h58 442 fun h59 => ptR h59 413 49 442 fun h60 => nwH h60 443 fun h61 => ptR h61 413 50 443 fun h62 => nwH h62 444 fun h63 => ptR h63 413 51 444 fun h64 => nwH h64 445 fun h65 => ptR h65 413 52 445 fun h66 => nwH h66 446 fun h67 => ptR h67 413 53 446 fun h68 => nwH h68 447 fun h69 => ptR h69 413 54 447 fun h70 => nwH h70 448 fun h71 => ptR h71 413 58 448 fun h72 => nwH h72 449 fun h73 => ptR h73 413 59 449 fun h74 => chk (am_TPb h74.2.2 = true) (cal (f_X12_clearBank h74) fun h77 => chk (am_TPb h77.2.2 = true) (cal (f_X12_startAnew h77) fun h80 => some h80))
theorem rf_cX12_init_413 {X : am_X} {d : Nat} (hd : 2 ≤ d)  {h : am_H} (T : am_N0 h.2.2) {r : am_H} (hf : f_cX12_init_413  h = some r) : am_GG am_N0 X d 12 true cX12_init none 0 [some (.ref 413)] [] (am_SH.take 414, h) (none, (am_SH.take 450, r)) := by
  unfold f_cX12_init_413 at hf
  obtain ⟨d, rfl⟩ : ∃ e, d = e + 1 := ⟨d - 1, by omega⟩
  refine r_loc dX12_init_0 rfl ?_
  refine r_obj dX12_init_1 ct_12_1 (Nat.le_of_ble_eq_true rfl) ?_
  refine r_loc dX12_init_4 rfl ?_
  refine r_sipush (v := 1620) dX12_init_5 rfl ?_
  refine r_newar (k := 1620) (n2 := 415) dX12_init_8 rfl (by decide) (Nat.le_of_ble_eq_true rfl) sh_414 rfl hf (fun h1 hf => ?_)
  refine r_putR dX12_init_10 fl_12_7 (sh_tk sh_413 (by decide)) (Or.inr ⟨_, rfl⟩) (Or.inr ⟨rfl, rfl⟩) hf (fun h2 hf => ?_)
  refine r_loc dX12_init_13 rfl ?_
  refine r_sipush (v := 1600) dX12_init_14 rfl ?_
  refine r_newar (k := 1600) (n2 := 416) dX12_init_17 rfl (by decide) (Nat.le_of_ble_eq_true rfl) sh_415 rfl hf (fun h3 hf => ?_)
  refine r_putR dX12_init_19 fl_12_13 (sh_tk sh_413 (by decide)) (Or.inr ⟨_, rfl⟩) (Or.inr ⟨rfl, rfl⟩) hf (fun h4 hf => ?_)
  refine r_loc dX12_init_22 rfl ?_
  refine r_iconst (v := (-1)) dX12_init_23 rfl ?_
  refine r_putIc dX12_init_24 fl_12_16 (sh_tk sh_413 (by decide)) ⟨rfl, rfl⟩ hf (fun h5 hf => ?_)
  refine r_loc dX12_init_27 rfl ?_
  refine r_iconst (v := 2) dX12_init_28 rfl ?_
  refine r_newar (k := 2) (n2 := 417) dX12_init_29 rfl (by decide) (Nat.le_of_ble_eq_true rfl) sh_416 rfl hf (fun h6 hf => ?_)
  refine r_putR dX12_init_31 fl_12_20 (sh_tk sh_413 (by decide)) (Or.inr ⟨_, rfl⟩) (Or.inr ⟨rfl, rfl⟩) hf (fun h7 hf => ?_)
  refine r_loc dX12_init_34 rfl ?_
  refine r_iconst (v := 2) dX12_init_35 rfl ?_
  refine r_newar (k := 2) (n2 := 418) dX12_init_36 rfl (by decide) (Nat.le_of_ble_eq_true rfl) sh_417 rfl hf (fun h8 hf => ?_)
  refine r_putR dX12_init_38 fl_12_24 (sh_tk sh_413 (by decide)) (Or.inr ⟨_, rfl⟩) (Or.inr ⟨rfl, rfl⟩) hf (fun h9 hf => ?_)
  refine r_loc dX12_init_41 rfl ?_
  refine r_iconst (v := 2) dX12_init_42 rfl ?_
  refine r_newar (k := 2) (n2 := 419) dX12_init_43 rfl (by decide) (Nat.le_of_ble_eq_true rfl) sh_418 rfl hf (fun h10 hf => ?_)
  refine r_putR dX12_init_45 fl_12_27 (sh_tk sh_413 (by decide)) (Or.inr ⟨_, rfl⟩) (Or.inr ⟨rfl, rfl⟩) hf (fun h11 hf => ?_)
  refine r_loc dX12_init_48 rfl ?_
  refine r_iconst (v := 2) dX12_init_49 rfl ?_
  refine r_newar (k := 2) (n2 := 420) dX12_init_50 rfl (by decide) (Nat.le_of_ble_eq_true rfl) sh_419 rfl hf (fun h12 hf => ?_)
  refine r_putR dX12_init_52 fl_12_30 (sh_tk sh_413 (by decide)) (Or.inr ⟨_, rfl⟩) (Or.inr ⟨rfl, rfl⟩) hf (fun h13 hf => ?_)
  refine r_loc dX12_init_55 rfl ?_
  refine r_iconst (v := 2) dX12_init_56 rfl ?_
  refine r_newar (k := 2) (n2 := 421) dX12_init_57 rfl (by decide) (Nat.le_of_ble_eq_true rfl) sh_420 rfl hf (fun h14 hf => ?_)
  refine r_putR dX12_init_59 fl_12_33 (sh_tk sh_413 (by decide)) (Or.inr ⟨_, rfl⟩) (Or.inr ⟨rfl, rfl⟩) hf (fun h15 hf => ?_)
  refine r_loc dX12_init_62 rfl ?_
  refine r_iconst (v := 2) dX12_init_63 rfl ?_
  refine r_newar (k := 2) (n2 := 422) dX12_init_64 rfl (by decide) (Nat.le_of_ble_eq_true rfl) sh_421 rfl hf (fun h16 hf => ?_)
  refine r_putR dX12_init_66 fl_12_36 (sh_tk sh_413 (by decide)) (Or.inr ⟨_, rfl⟩) (Or.inr ⟨rfl, rfl⟩) hf (fun h17 hf => ?_)
  refine r_loc dX12_init_69 rfl ?_
  refine r_iconst (v := 2) dX12_init_70 rfl ?_
  refine r_newar (k := 2) (n2 := 423) dX12_init_71 rfl (by decide) (Nat.le_of_ble_eq_true rfl) sh_422 rfl hf (fun h18 hf => ?_)
  refine r_putR dX12_init_73 fl_12_39 (sh_tk sh_413 (by decide)) (Or.inr ⟨_, rfl⟩) (Or.inr ⟨rfl, rfl⟩) hf (fun h19 hf => ?_)
  refine r_loc dX12_init_76 rfl ?_
  refine r_bipush (v := 8) dX12_init_77 rfl ?_
  refine r_newar (k := 8) (n2 := 424) dX12_init_79 rfl (by decide) (Nat.le_of_ble_eq_true rfl) sh_423 rfl hf (fun h20 hf => ?_)
  refine r_putR dX12_init_81 fl_12_42 (sh_tk sh_413 (by decide)) (Or.inr ⟨_, rfl⟩) (Or.inr ⟨rfl, rfl⟩) hf (fun h21 hf => ?_)
  refine r_loc dX12_init_84 rfl ?_
  refine r_bipush (v := 12) dX12_init_85 rfl ?_
  refine r_newar (k := 12) (n2 := 425) dX12_init_87 rfl (by decide) (Nat.le_of_ble_eq_true rfl) sh_424 rfl hf (fun h22 hf => ?_)
  refine r_putR dX12_init_89 fl_12_45 (sh_tk sh_413 (by decide)) (Or.inr ⟨_, rfl⟩) (Or.inr ⟨rfl, rfl⟩) hf (fun h23 hf => ?_)
  refine r_loc dX12_init_92 rfl ?_
  refine r_bipush (v := 12) dX12_init_93 rfl ?_
  refine r_newar (k := 12) (n2 := 426) dX12_init_95 rfl (by decide) (Nat.le_of_ble_eq_true rfl) sh_425 rfl hf (fun h24 hf => ?_)
  refine r_putR dX12_init_97 fl_12_48 (sh_tk sh_413 (by decide)) (Or.inr ⟨_, rfl⟩) (Or.inr ⟨rfl, rfl⟩) hf (fun h25 hf => ?_)
  refine r_loc dX12_init_100 rfl ?_
  refine r_bipush (v := 12) dX12_init_101 rfl ?_
  refine r_newar (k := 12) (n2 := 427) dX12_init_103 rfl (by decide) (Nat.le_of_ble_eq_true rfl) sh_426 rfl hf (fun h26 hf => ?_)
  refine r_putR dX12_init_105 fl_12_51 (sh_tk sh_413 (by decide)) (Or.inr ⟨_, rfl⟩) (Or.inr ⟨rfl, rfl⟩) hf (fun h27 hf => ?_)
  refine r_loc dX12_init_108 rfl ?_
  refine r_bipush (v := 12) dX12_init_109 rfl ?_
  refine r_newar (k := 12) (n2 := 428) dX12_init_111 rfl (by decide) (Nat.le_of_ble_eq_true rfl) sh_427 rfl hf (fun h28 hf => ?_)
  refine r_putR dX12_init_113 fl_12_54 (sh_tk sh_413 (by decide)) (Or.inr ⟨_, rfl⟩) (Or.inr ⟨rfl, rfl⟩) hf (fun h29 hf => ?_)
  refine r_loc dX12_init_116 rfl ?_
  refine r_iconst (v := 2) dX12_init_117 rfl ?_
  refine r_newar (k := 2) (n2 := 429) dX12_init_118 rfl (by decide) (Nat.le_of_ble_eq_true rfl) sh_428 rfl hf (fun h30 hf => ?_)
  refine r_putR dX12_init_120 fl_12_57 (sh_tk sh_413 (by decide)) (Or.inr ⟨_, rfl⟩) (Or.inr ⟨rfl, rfl⟩) hf (fun h31 hf => ?_)
  refine r_loc dX12_init_123 rfl ?_
  refine r_iconst (v := 2) dX12_init_124 rfl ?_
  refine r_newar (k := 2) (n2 := 430) dX12_init_125 rfl (by decide) (Nat.le_of_ble_eq_true rfl) sh_429 rfl hf (fun h32 hf => ?_)
  refine r_putR dX12_init_127 fl_12_60 (sh_tk sh_413 (by decide)) (Or.inr ⟨_, rfl⟩) (Or.inr ⟨rfl, rfl⟩) hf (fun h33 hf => ?_)
  refine r_loc dX12_init_130 rfl ?_
  refine r_bipush (v := 8) dX12_init_131 rfl ?_
  refine r_newar (k := 8) (n2 := 431) dX12_init_133 rfl (by decide) (Nat.le_of_ble_eq_true rfl) sh_430 rfl hf (fun h34 hf => ?_)
  refine r_putR dX12_init_135 fl_12_63 (sh_tk sh_413 (by decide)) (Or.inr ⟨_, rfl⟩) (Or.inr ⟨rfl, rfl⟩) hf (fun h35 hf => ?_)
  refine r_loc dX12_init_138 rfl ?_
  refine r_bipush (v := 12) dX12_init_139 rfl ?_
  refine r_newar (k := 12) (n2 := 432) dX12_init_141 rfl (by decide) (Nat.le_of_ble_eq_true rfl) sh_431 rfl hf (fun h36 hf => ?_)
  refine r_putR dX12_init_143 fl_12_67 (sh_tk sh_413 (by decide)) (Or.inr ⟨_, rfl⟩) (Or.inr ⟨rfl, rfl⟩) hf (fun h37 hf => ?_)
  refine r_loc dX12_init_146 rfl ?_
  refine r_sipush (v := 1120) dX12_init_147 rfl ?_
  refine r_newar (k := 1120) (n2 := 433) dX12_init_150 rfl (by decide) (Nat.le_of_ble_eq_true rfl) sh_432 rfl hf (fun h38 hf => ?_)
  refine r_putR dX12_init_152 fl_12_70 (sh_tk sh_413 (by decide)) (Or.inr ⟨_, rfl⟩) (Or.inr ⟨rfl, rfl⟩) hf (fun h39 hf => ?_)
  refine r_loc dX12_init_155 rfl ?_
  refine r_sipush (v := 1120) dX12_init_156 rfl ?_
  refine r_newar (k := 1120) (n2 := 434) dX12_init_159 rfl (by decide) (Nat.le_of_ble_eq_true rfl) sh_433 rfl hf (fun h40 hf => ?_)
  refine r_putR dX12_init_161 fl_12_73 (sh_tk sh_413 (by decide)) (Or.inr ⟨_, rfl⟩) (Or.inr ⟨rfl, rfl⟩) hf (fun h41 hf => ?_)
  refine r_loc dX12_init_164 rfl ?_
  refine r_bipush (v := 90) dX12_init_165 rfl ?_
  refine r_newar (k := 90) (n2 := 435) dX12_init_167 rfl (by decide) (Nat.le_of_ble_eq_true rfl) sh_434 rfl hf (fun h42 hf => ?_)
  refine r_putR dX12_init_169 fl_12_76 (sh_tk sh_413 (by decide)) (Or.inr ⟨_, rfl⟩) (Or.inr ⟨rfl, rfl⟩) hf (fun h43 hf => ?_)
  refine r_loc dX12_init_172 rfl ?_
  refine r_bipush (v := 90) dX12_init_173 rfl ?_
  refine r_newar (k := 90) (n2 := 436) dX12_init_175 rfl (by decide) (Nat.le_of_ble_eq_true rfl) sh_435 rfl hf (fun h44 hf => ?_)
  refine r_putR dX12_init_177 fl_12_79 (sh_tk sh_413 (by decide)) (Or.inr ⟨_, rfl⟩) (Or.inr ⟨rfl, rfl⟩) hf (fun h45 hf => ?_)
  refine r_loc dX12_init_180 rfl ?_
  refine r_bipush (v := 60) dX12_init_181 rfl ?_
  refine r_newar (k := 60) (n2 := 437) dX12_init_183 rfl (by decide) (Nat.le_of_ble_eq_true rfl) sh_436 rfl hf (fun h46 hf => ?_)
  refine r_putR dX12_init_185 fl_12_82 (sh_tk sh_413 (by decide)) (Or.inr ⟨_, rfl⟩) (Or.inr ⟨rfl, rfl⟩) hf (fun h47 hf => ?_)
  refine r_loc dX12_init_188 rfl ?_
  refine r_bipush (v := 59) dX12_init_189 rfl ?_
  refine r_newar (k := 59) (n2 := 438) dX12_init_191 rfl (by decide) (Nat.le_of_ble_eq_true rfl) sh_437 rfl hf (fun h48 hf => ?_)
  refine r_putR dX12_init_193 fl_12_85 (sh_tk sh_413 (by decide)) (Or.inr ⟨_, rfl⟩) (Or.inr ⟨rfl, rfl⟩) hf (fun h49 hf => ?_)
  refine r_loc dX12_init_196 rfl ?_
  refine r_bipush (v := 59) dX12_init_197 rfl ?_
  refine r_newar (k := 59) (n2 := 439) dX12_init_199 rfl (by decide) (Nat.le_of_ble_eq_true rfl) sh_438 rfl hf (fun h50 hf => ?_)
  refine r_putR dX12_init_201 fl_12_88 (sh_tk sh_413 (by decide)) (Or.inr ⟨_, rfl⟩) (Or.inr ⟨rfl, rfl⟩) hf (fun h51 hf => ?_)
  refine r_loc dX12_init_204 rfl ?_
  refine r_iconst (v := (-1)) dX12_init_205 rfl ?_
  refine r_putIc dX12_init_206 fl_12_91 (sh_tk sh_413 (by decide)) ⟨rfl, rfl⟩ hf (fun h52 hf => ?_)
  refine r_loc dX12_init_209 rfl ?_
  refine r_sipush (v := 2419) dX12_init_210 rfl ?_
  refine r_newar (k := 2419) (n2 := 440) dX12_init_213 rfl (by decide) (Nat.le_of_ble_eq_true rfl) sh_439 rfl hf (fun h53 hf => ?_)
  refine r_putR dX12_init_215 fl_12_94 (sh_tk sh_413 (by decide)) (Or.inr ⟨_, rfl⟩) (Or.inr ⟨rfl, rfl⟩) hf (fun h54 hf => ?_)
  refine r_loc dX12_init_218 rfl ?_
  refine r_bipush (v := 8) dX12_init_219 rfl ?_
  refine r_newar (k := 8) (n2 := 441) dX12_init_221 rfl (by decide) (Nat.le_of_ble_eq_true rfl) sh_440 rfl hf (fun h55 hf => ?_)
  refine r_putR dX12_init_223 fl_12_97 (sh_tk sh_413 (by decide)) (Or.inr ⟨_, rfl⟩) (Or.inr ⟨rfl, rfl⟩) hf (fun h56 hf => ?_)
  refine r_loc dX12_init_226 rfl ?_
  refine r_bipush (v := 30) dX12_init_227 rfl ?_
  refine r_newar (k := 30) (n2 := 442) dX12_init_229 rfl (by decide) (Nat.le_of_ble_eq_true rfl) sh_441 rfl hf (fun h57 hf => ?_)
  refine r_putR dX12_init_231 fl_12_100 (sh_tk sh_413 (by decide)) (Or.inr ⟨_, rfl⟩) (Or.inr ⟨rfl, rfl⟩) hf (fun h58 hf => ?_)
  refine r_loc dX12_init_234 rfl ?_
  refine r_bipush (v := 30) dX12_init_235 rfl ?_
  refine r_newar (k := 30) (n2 := 443) dX12_init_237 rfl (by decide) (Nat.le_of_ble_eq_true rfl) sh_442 rfl hf (fun h59 hf => ?_)
  refine r_putR dX12_init_239 fl_12_103 (sh_tk sh_413 (by decide)) (Or.inr ⟨_, rfl⟩) (Or.inr ⟨rfl, rfl⟩) hf (fun h60 hf => ?_)
  refine r_loc dX12_init_242 rfl ?_
  refine r_bipush (v := 30) dX12_init_243 rfl ?_
  refine r_newar (k := 30) (n2 := 444) dX12_init_245 rfl (by decide) (Nat.le_of_ble_eq_true rfl) sh_443 rfl hf (fun h61 hf => ?_)
  refine r_putR dX12_init_247 fl_12_106 (sh_tk sh_413 (by decide)) (Or.inr ⟨_, rfl⟩) (Or.inr ⟨rfl, rfl⟩) hf (fun h62 hf => ?_)
  refine r_loc dX12_init_250 rfl ?_
  refine r_bipush (v := 30) dX12_init_251 rfl ?_
  refine r_newar (k := 30) (n2 := 445) dX12_init_253 rfl (by decide) (Nat.le_of_ble_eq_true rfl) sh_444 rfl hf (fun h63 hf => ?_)
  refine r_putR dX12_init_255 fl_12_109 (sh_tk sh_413 (by decide)) (Or.inr ⟨_, rfl⟩) (Or.inr ⟨rfl, rfl⟩) hf (fun h64 hf => ?_)
  refine r_loc dX12_init_258 rfl ?_
  refine r_bipush (v := 30) dX12_init_259 rfl ?_
  refine r_newar (k := 30) (n2 := 446) dX12_init_261 rfl (by decide) (Nat.le_of_ble_eq_true rfl) sh_445 rfl hf (fun h65 hf => ?_)
  refine r_putR dX12_init_263 fl_12_112 (sh_tk sh_413 (by decide)) (Or.inr ⟨_, rfl⟩) (Or.inr ⟨rfl, rfl⟩) hf (fun h66 hf => ?_)
  refine r_loc dX12_init_266 rfl ?_
  refine r_bipush (v := 7) dX12_init_267 rfl ?_
  refine r_newar (k := 7) (n2 := 447) dX12_init_269 rfl (by decide) (Nat.le_of_ble_eq_true rfl) sh_446 rfl hf (fun h67 hf => ?_)
  refine r_putR dX12_init_271 fl_12_115 (sh_tk sh_413 (by decide)) (Or.inr ⟨_, rfl⟩) (Or.inr ⟨rfl, rfl⟩) hf (fun h68 hf => ?_)
  refine r_loc dX12_init_274 rfl ?_
  refine r_bipush (v := 64) dX12_init_275 rfl ?_
  refine r_newar (k := 64) (n2 := 448) dX12_init_277 rfl (by decide) (Nat.le_of_ble_eq_true rfl) sh_447 rfl hf (fun h69 hf => ?_)
  refine r_putR dX12_init_279 fl_12_118 (sh_tk sh_413 (by decide)) (Or.inr ⟨_, rfl⟩) (Or.inr ⟨rfl, rfl⟩) hf (fun h70 hf => ?_)
  refine r_loc dX12_init_282 rfl ?_
  refine r_sipush (v := 177) dX12_init_283 rfl ?_
  refine r_newar (k := 177) (n2 := 449) dX12_init_286 rfl (by decide) (Nat.le_of_ble_eq_true rfl) sh_448 rfl hf (fun h71 hf => ?_)
  refine r_putR dX12_init_288 fl_12_122 (sh_tk sh_413 (by decide)) (Or.inr ⟨_, rfl⟩) (Or.inr ⟨rfl, rfl⟩) hf (fun h72 hf => ?_)
  refine r_loc dX12_init_291 rfl ?_
  refine r_iconst (v := 3) dX12_init_292 rfl ?_
  refine r_newar (k := 3) (n2 := 450) dX12_init_293 rfl (by decide) (Nat.le_of_ble_eq_true rfl) sh_449 rfl hf (fun h73 hf => ?_)
  refine r_putR dX12_init_295 fl_12_125 (sh_tk sh_413 (by decide)) (Or.inr ⟨_, rfl⟩) (Or.inr ⟨rfl, rfl⟩) hf (fun h74 hf => ?_)
  refine r_loc dX12_init_298 rfl ?_
  obtain ⟨Tp, hf⟩ := chk_inv hf
  obtain ⟨h77, c75, hf⟩ := cal_inv hf
  have g76 := am_GG_N0 (rf_X12_clearBank (X := X) (d := d) (by omega)  (h := h74) (am_TPb_ok Tp) c75)
  rw [← sh_tk_all] at g76
  refine r_virt (pre := []) (rest := []) dX12_init_299 ct_12_128 rfl (sh_tk sh_413 (by decide)) (Nat.le_of_ble_eq_true rfl) (Nat.le_of_ble_eq_true rfl) g76 ?_
  refine r_loc dX12_init_302 rfl ?_
  obtain ⟨Tp, hf⟩ := chk_inv hf
  obtain ⟨h80, c78, hf⟩ := cal_inv hf
  have g79 := am_GG_N0 (rf_X12_startAnew (X := X) (d := d) (by omega)  (h := h77) (am_TPb_ok Tp) c78)
  rw [← sh_tk_all] at g79
  refine r_virt (pre := []) (rest := []) dX12_init_303 ct_12_131 rfl (sh_tk sh_413 (by decide)) (Nat.le_of_ble_eq_true rfl) (Nat.le_of_ble_eq_true rfl) g79 ?_
  cases hf
  exact r_ret trivial dX12_init_306 rfl
def f_cL_law (X : am_X) (h : am_H) : Option (Int32 × am_H) := nwH h 0 fun h1 => cal (f_cX11_init_0 h1) fun h4 => nwH h4 413 fun h5 => cal (f_cX12_init_413 h5) fun h8 => chk (am_TPb h8.2.2 = true) (f_L_law X h8)
theorem rf_cL_law {X : am_X} {d : Nat} (hd : 209 ≤ d) {h : am_H} (T : am_N0 h.2.2) {r : Int32 × am_H} (hf : f_cL_law X h = some r) : am_GG am_N0 X d 13 false cL_law (some .boolean) 0 [some (.retAddr 0), none, none, none] [] (am_SH.take 0, h) (some (.int r.1), (am_SH, r.2)) := by
  obtain ⟨d, rfl⟩ : ∃ e, d = e + 1 := ⟨d - 1, by omega⟩
  unfold f_cL_law at hf
  refine r_new (n2 := 1) dL_law_0 rfl sh_0 rfl hf (fun h1 hf => ?_)
  refine r_alu dL_law_3 rfl ?_
  obtain ⟨h4, c2, hf⟩ := cal_inv hf
  have g3 := rf_cX11_init_0 (X := X) (d := d) (by omega) (h := h1) trivial c2
  refine r_spec (pre := []) (rest := [.ref 0]) dL_law_4 ct_13_9 (Or.inl rfl) rfl (Nat.le_of_ble_eq_true rfl) (Nat.le_of_ble_eq_true rfl) g3 ?_
  refine r_loc (L' := [some (.retAddr 0), some (.ref 0), none, none]) dL_law_7 rfl ?_
  refine r_new (n2 := 414) dL_law_8 rfl sh_413 rfl hf (fun h5 hf => ?_)
  refine r_alu dL_law_11 rfl ?_
  obtain ⟨h8, c6, hf⟩ := cal_inv hf
  have g7 := rf_cX12_init_413 (X := X) (d := d) (by omega) (h := h5) trivial c6
  refine r_spec (pre := []) (rest := [.ref 413]) dL_law_12 ct_13_12 (Or.inl rfl) rfl (Nat.le_of_ble_eq_true rfl) (Nat.le_of_ble_eq_true rfl) g7 ?_
  refine r_loc (L' := [some (.retAddr 0), some (.ref 0), some (.ref 413), none]) dL_law_15 rfl ?_
  refine r_iconst (v := 0) dL_law_16 rfl ?_
  refine r_loc (L' := [some (.retAddr 0), some (.ref 0), some (.ref 413), some (.int 0)]) dL_law_17 rfl ?_
  obtain ⟨Tp, hf⟩ := chk_inv hf
  rw [sh_tk_all]
  exact am_GG_N0 (rf_L_law (X := X) (d := d + 1) (by omega) (am_TPb_ok Tp) hf)
