/-! Lifted methods, by program (wip/whole/lift.py, run1.py) -/
def lp_X6_nearestPair_21 (s0 : Nat) (p1 : Int32) (p4 : Int32) (h : am_H) (k_86 : Int32 → Int32 → Option (Int32)) : Nat → Int32 → Int32 → Int32 → Option (Int32)
  | 0, _, _, _ => none
  | n + 1, x2, x3, x5 => if x5 < 8 then if p4 = p1 then lp_X6_nearestPair_21 s0 p1 p4 h k_86 n x2 x3 (x5 + 1) else if x5 = p1 then lp_X6_nearestPair_21 s0 p1 p4 h k_86 n x2 x3 (x5 + 1) else cal (f_X7_hasBoth s0 p4 x5 h) fun v2 => if v2 = 0 then lp_X6_nearestPair_21 s0 p1 p4 h k_86 n x2 x3 (x5 + 1) else cal (f_X6_marksInNeither s0 p1 p4 x5 h) fun v5 => if v5 < x3 then lp_X6_nearestPair_21 s0 p1 p4 h k_86 n ((p4 * 8) + x5) v5 (x5 + 1) else lp_X6_nearestPair_21 s0 p1 p4 h k_86 n x2 x3 (x5 + 1) else k_86 x2 x3
def lp_X6_nearestPair_8 (s0 : Nat) (p1 : Int32) (h : am_H) : Nat → Int32 → Int32 → Int32 → Option (Int32)
  | 0, _, _, _ => none
  | n + 1, x2, x3, x4 => if x4 < 8 then lp_X6_nearestPair_21 s0 p1 x4 h (fun z7 z8 => lp_X6_nearestPair_8 s0 p1 h n z7 z8 (x4 + 1)) 4000 x2 x3 (x4 + 1) else some x2
def f_X6_nearestPair (s0 : Nat) (x1 : Int32) (h : am_H) : Option (Int32) := lp_X6_nearestPair_8 s0 x1 h  4000 (-1) 7 0
theorem rl_X6_nearestPair_21 {X : am_X} {d : Nat} (hd : 3 ≤ d) (s0 : Nat) (p1 : Int32) (p4 : Int32) (hs0 : s0 ∈ am_ST) {h : am_H} (T : am_TP h.2.2) (k_86 : Int32 → Int32 → Option (Int32)) {r : Int32} (hk_86 : ∀ (z2 : Int32) (z3 : Int32) , k_86 z2 z3 = some r → am_G X d 6 false cX6_nearestPair (some .int) 86 [some (.ref s0), some (.int p1), some (.int z2), some (.int z3), some (.int p4), none, none] [] (am_SH, h) (some (.int r), (am_SH, h))) : ∀ (n : Nat) (x2 : Int32) (x3 : Int32) (x5 : Int32) , lp_X6_nearestPair_21 s0 p1 p4 h k_86 n x2 x3 x5 = some r → am_G X d 6 false cX6_nearestPair (some .int) 21 [some (.ref s0), some (.int p1), some (.int x2), some (.int x3), some (.int p4), some (.int x5), none] [] (am_SH, h) (some (.int r), (am_SH, h)) := by
  obtain ⟨d, rfl⟩ : ∃ e, d = e + 1 := ⟨d - 1, by omega⟩
  intro n
  induction n with
  | zero => intro x2 x3 x5 hf; cases hf
  | succ n ih =>
    intro x2 x3 x5 hf
    rw [lp_X6_nearestPair_21] at hf
    refine r_loc dX6_nearestPair_21 rfl ?_
    refine r_bipush (v := 8) dX6_nearestPair_23 rfl ?_
    refine r_ge (q := 86) dX6_nearestPair_25 rfl hf (fun hf => ?_) (fun hf => ?_)
    · refine r_weak (L := [some (.ref s0), some (.int p1), some (.int x2), some (.int x3), some (.int p4), none, none]) (am_le_s (am_le_s (am_le_s (am_le_s (am_le_s (am_le_n (am_le_n am_le_0))))))) ?_
      exact hk_86 x2 x3 hf
    · refine r_loc dX6_nearestPair_28 rfl ?_
      refine r_loc dX6_nearestPair_30 rfl ?_
      refine r_eq (q := 80) dX6_nearestPair_31 rfl hf (fun hf => ?_) (fun hf => ?_)
      · refine r_loc (L' := [some (.ref s0), some (.int p1), some (.int x2), some (.int x3), some (.int p4), some (.int (x5 + 1)), none]) dX6_nearestPair_80 rfl ?_
        refine r_goto (q := 21) dX6_nearestPair_83 rfl ?_
        exact ih x2 x3 (x5 + 1) hf
      · refine r_loc dX6_nearestPair_34 rfl ?_
        refine r_loc dX6_nearestPair_36 rfl ?_
        refine r_eq (q := 80) dX6_nearestPair_37 rfl hf (fun hf => ?_) (fun hf => ?_)
        · refine r_loc (L' := [some (.ref s0), some (.int p1), some (.int x2), some (.int x3), some (.int p4), some (.int (x5 + 1)), none]) dX6_nearestPair_80 rfl ?_
          refine r_goto (q := 21) dX6_nearestPair_83 rfl ?_
          exact ih x2 x3 (x5 + 1) hf
        · refine r_loc dX6_nearestPair_40 rfl ?_
          refine r_loc dX6_nearestPair_41 rfl ?_
          refine r_loc dX6_nearestPair_43 rfl ?_
          obtain ⟨v2, c1, hf⟩ := cal_inv hf
          have g3 := rf_X7_hasBoth (X := X) (d := d) (by omega) s0 p4 x5 hs0 T c1
          refine r_virt (pre := [.int x5, .int p4]) (rest := []) dX6_nearestPair_45 ct_6_9 rfl ((sh_S hs0)) (Nat.le_of_ble_eq_true rfl) (Nat.le_of_ble_eq_true rfl) g3 ?_
          refine r_eq0 (q := 80) dX6_nearestPair_48 rfl hf (fun hf => ?_) (fun hf => ?_)
          · refine r_loc (L' := [some (.ref s0), some (.int p1), some (.int x2), some (.int x3), some (.int p4), some (.int (x5 + 1)), none]) dX6_nearestPair_80 rfl ?_
            refine r_goto (q := 21) dX6_nearestPair_83 rfl ?_
            exact ih x2 x3 (x5 + 1) hf
          · refine r_loc dX6_nearestPair_51 rfl ?_
            refine r_loc dX6_nearestPair_52 rfl ?_
            refine r_loc dX6_nearestPair_53 rfl ?_
            refine r_loc dX6_nearestPair_55 rfl ?_
            obtain ⟨v5, c4, hf⟩ := cal_inv hf
            have g6 := rf_X6_marksInNeither (X := X) (d := d) (by omega) s0 p1 p4 x5 hs0 T c4
            refine r_stat (pre := [.int x5, .int p4, .int p1, .ref s0]) (rest := []) dX6_nearestPair_57 ct_6_15 rfl (Nat.le_of_ble_eq_true rfl) (Nat.le_of_ble_eq_true rfl) g6 ?_
            refine r_loc (L' := [some (.ref s0), some (.int p1), some (.int x2), some (.int x3), some (.int p4), some (.int x5), some (.int v5)]) dX6_nearestPair_60 rfl ?_
            refine r_loc dX6_nearestPair_62 rfl ?_
            refine r_loc dX6_nearestPair_64 rfl ?_
            refine r_ge (q := 80) dX6_nearestPair_65 rfl hf (fun hf => ?_) (fun hf => ?_)
            · refine r_loc (L' := [some (.ref s0), some (.int p1), some (.int x2), some (.int x3), some (.int p4), some (.int (x5 + 1)), some (.int v5)]) dX6_nearestPair_80 rfl ?_
              refine r_goto (q := 21) dX6_nearestPair_83 rfl ?_
              refine r_weak (L := [some (.ref s0), some (.int p1), some (.int x2), some (.int x3), some (.int p4), some (.int (x5 + 1)), none]) (am_le_s (am_le_s (am_le_s (am_le_s (am_le_s (am_le_s (am_le_n am_le_0))))))) ?_
              exact ih x2 x3 (x5 + 1) hf
            · refine r_loc dX6_nearestPair_68 rfl ?_
              refine r_bipush (v := 8) dX6_nearestPair_70 rfl ?_
              refine r_alu dX6_nearestPair_72 rfl ?_
              refine r_loc dX6_nearestPair_73 rfl ?_
              refine r_alu dX6_nearestPair_75 rfl ?_
              refine r_loc (L' := [some (.ref s0), some (.int p1), some (.int ((p4 * 8) + x5)), some (.int x3), some (.int p4), some (.int x5), some (.int v5)]) dX6_nearestPair_76 rfl ?_
              refine r_loc dX6_nearestPair_77 rfl ?_
              refine r_loc (L' := [some (.ref s0), some (.int p1), some (.int ((p4 * 8) + x5)), some (.int v5), some (.int p4), some (.int x5), some (.int v5)]) dX6_nearestPair_79 rfl ?_
              refine r_loc (L' := [some (.ref s0), some (.int p1), some (.int ((p4 * 8) + x5)), some (.int v5), some (.int p4), some (.int (x5 + 1)), some (.int v5)]) dX6_nearestPair_80 rfl ?_
              refine r_goto (q := 21) dX6_nearestPair_83 rfl ?_
              refine r_weak (L := [some (.ref s0), some (.int p1), some (.int ((p4 * 8) + x5)), some (.int v5), some (.int p4), some (.int (x5 + 1)), none]) (am_le_s (am_le_s (am_le_s (am_le_s (am_le_s (am_le_s (am_le_n am_le_0))))))) ?_
              exact ih ((p4 * 8) + x5) v5 (x5 + 1) hf
theorem rl_X6_nearestPair_8 {X : am_X} {d : Nat} (hd : 3 ≤ d) (s0 : Nat) (p1 : Int32) (hs0 : s0 ∈ am_ST) {h : am_H} (T : am_TP h.2.2) {r : Int32} : ∀ (n : Nat) (x2 : Int32) (x3 : Int32) (x4 : Int32) , lp_X6_nearestPair_8 s0 p1 h n x2 x3 x4 = some r → am_G X d 6 false cX6_nearestPair (some .int) 8 [some (.ref s0), some (.int p1), some (.int x2), some (.int x3), some (.int x4), none, none] [] (am_SH, h) (some (.int r), (am_SH, h)) := by
  obtain ⟨d, rfl⟩ : ∃ e, d = e + 1 := ⟨d - 1, by omega⟩
  intro n
  induction n with
  | zero => intro x2 x3 x4 hf; cases hf
  | succ n ih =>
    intro x2 x3 x4 hf
    rw [lp_X6_nearestPair_8] at hf
    refine r_loc dX6_nearestPair_8 rfl ?_
    refine r_bipush (v := 8) dX6_nearestPair_10 rfl ?_
    refine r_ge (q := 92) dX6_nearestPair_12 rfl hf (fun hf => ?_) (fun hf => ?_)
    · refine r_loc dX6_nearestPair_92 rfl ?_
      cases hf
      exact r_ri T dX6_nearestPair_93
    · refine r_loc dX6_nearestPair_15 rfl ?_
      refine r_iconst (v := 1) dX6_nearestPair_17 rfl ?_
      refine r_alu dX6_nearestPair_18 rfl ?_
      refine r_loc (L' := [some (.ref s0), some (.int p1), some (.int x2), some (.int x3), some (.int x4), some (.int (x4 + 1)), none]) dX6_nearestPair_19 rfl ?_
      refine rl_X6_nearestPair_21 (by omega) s0 p1 x4 hs0 T _ ?_ 4000 x2 x3 (x4 + 1)  hf
      · intro z7 z8 hf
        refine r_loc (L' := [some (.ref s0), some (.int p1), some (.int z7), some (.int z8), some (.int (x4 + 1)), none, none]) dX6_nearestPair_86 rfl ?_
        refine r_goto (q := 8) dX6_nearestPair_89 rfl ?_
        exact ih z7 z8 (x4 + 1) hf
theorem rf_X6_nearestPair {X : am_X} {d : Nat} (hd : 3 ≤ d) (s0 : Nat) (x1 : Int32) (hs0 : s0 ∈ am_ST) {h : am_H} (T : am_TP h.2.2) {r : Int32} (hf : f_X6_nearestPair s0 x1 h = some r) : am_G X d 6 false cX6_nearestPair (some .int) 0 [some (.ref s0), some (.int x1), none, none, none, none, none] [] (am_SH, h) (some (.int r), (am_SH, h)) := by
  unfold f_X6_nearestPair at hf
  obtain ⟨d, rfl⟩ : ∃ e, d = e + 1 := ⟨d - 1, by omega⟩
  refine r_iconst (v := (-1)) dX6_nearestPair_0 rfl ?_
  refine r_loc (L' := [some (.ref s0), some (.int x1), some (.int (-1)), none, none, none, none]) dX6_nearestPair_1 rfl ?_
  refine r_bipush (v := 7) dX6_nearestPair_2 rfl ?_
  refine r_loc (L' := [some (.ref s0), some (.int x1), some (.int (-1)), some (.int 7), none, none, none]) dX6_nearestPair_4 rfl ?_
  refine r_iconst (v := 0) dX6_nearestPair_5 rfl ?_
  refine r_loc (L' := [some (.ref s0), some (.int x1), some (.int (-1)), some (.int 7), some (.int 0), none, none]) dX6_nearestPair_6 rfl ?_
  refine rl_X6_nearestPair_8 (by omega) s0 x1 hs0 T  4000 (-1) 7 0  hf
def f_X11_sires (x1 : Int32) (x2 : Int32) (h : am_H) : Option (Int32) := cal (f_X7_has 27 x1 h) fun v2 => if v2 = 0 then some (-1) else if x2 < 0 then some (-1) else if 2 < x2 then some (-1) else cal (f_X6_nearestPair 27 x1 h) fun v5 => if v5 = (-1) then some (-1) else if x2 = 2 then cal (f_X6_marksInNeither 27 x1 (v5 / 8) (v5 - v5 / 8 * 8) h) fun v8 => some v8 else if x2 = 0 then some (v5 / 8) else some (v5 - v5 / 8 * 8)
theorem rf_X11_sires {X : am_X} {d : Nat} (hd : 4 ≤ d) (x1 : Int32) (x2 : Int32) {h : am_H} (T : am_TP h.2.2) {r : Int32} (hf : f_X11_sires x1 x2 h = some r) : am_G X d 11 false cX11_sires (some .int) 0 [some (.ref 0), some (.int x1), some (.int x2), none, none, none] [] (am_SH, h) (some (.int r), (am_SH, h)) := by
  unfold f_X11_sires at hf
  obtain ⟨d, rfl⟩ : ∃ e, d = e + 1 := ⟨d - 1, by omega⟩
  refine r_loc dX11_sires_0 rfl ?_
  refine r_getR dX11_sires_1 fl_11_37 sh_0 (Or.inl ⟨_, rfl⟩) (tp_0_3 T) ?_
  refine r_loc dX11_sires_4 rfl ?_
  obtain ⟨v2, c1, hf⟩ := cal_inv hf
  have g3 := rf_X7_has (X := X) (d := d) (by omega) 27 x1 st_27 T c1
  refine r_virt (pre := [.int x1]) (rest := []) dX11_sires_5 ct_11_137 rfl ((sh_S st_27)) (Nat.le_of_ble_eq_true rfl) (Nat.le_of_ble_eq_true rfl) g3 ?_
  refine r_eq0 (q := 20) dX11_sires_8 rfl hf (fun hf => ?_) (fun hf => ?_)
  · refine r_iconst (v := (-1)) dX11_sires_20 rfl ?_
    cases hf
    exact r_ri T dX11_sires_21
  · refine r_loc dX11_sires_11 rfl ?_
    refine r_lt0 (q := 20) dX11_sires_12 rfl hf (fun hf => ?_) (fun hf => ?_)
    · refine r_iconst (v := (-1)) dX11_sires_20 rfl ?_
      cases hf
      exact r_ri T dX11_sires_21
    · refine r_loc dX11_sires_15 rfl ?_
      refine r_iconst (v := 2) dX11_sires_16 rfl ?_
      refine r_le (q := 22) dX11_sires_17 rfl hf (fun hf => ?_) (fun hf => ?_)
      · refine r_loc dX11_sires_22 rfl ?_
        refine r_getR dX11_sires_23 fl_11_37 sh_0 (Or.inl ⟨_, rfl⟩) (tp_0_3 T) ?_
        refine r_loc dX11_sires_26 rfl ?_
        obtain ⟨v5, c4, hf⟩ := cal_inv hf
        have g6 := rf_X6_nearestPair (X := X) (d := d) (by omega) 27 x1 st_27 T c4
        refine r_stat (pre := [.int x1, .ref 27]) (rest := []) dX11_sires_27 ct_11_262 rfl (Nat.le_of_ble_eq_true rfl) (Nat.le_of_ble_eq_true rfl) g6 ?_
        refine r_loc (L' := [some (.ref 0), some (.int x1), some (.int x2), some (.int v5), none, none]) dX11_sires_30 rfl ?_
        refine r_loc dX11_sires_31 rfl ?_
        refine r_iconst (v := (-1)) dX11_sires_32 rfl ?_
        refine r_ne (q := 38) dX11_sires_33 rfl hf (fun hf => ?_) (fun hf => ?_)
        · refine r_loc dX11_sires_38 rfl ?_
          refine r_bipush (v := 8) dX11_sires_39 rfl ?_
          refine r_divc dX11_sires_41 (by decide) ?_
          refine r_loc (L' := [some (.ref 0), some (.int x1), some (.int x2), some (.int v5), some (.int (v5 / 8)), none]) dX11_sires_42 rfl ?_
          refine r_loc dX11_sires_44 rfl ?_
          refine r_bipush (v := 8) dX11_sires_45 rfl ?_
          refine r_remc dX11_sires_47 (by decide) ?_
          refine r_loc (L' := [some (.ref 0), some (.int x1), some (.int x2), some (.int v5), some (.int (v5 / 8)), some (.int (v5 - v5 / 8 * 8))]) dX11_sires_48 rfl ?_
          refine r_loc dX11_sires_50 rfl ?_
          refine r_iconst (v := 2) dX11_sires_51 rfl ?_
          refine r_ne (q := 68) dX11_sires_52 rfl hf (fun hf => ?_) (fun hf => ?_)
          · refine r_loc dX11_sires_68 rfl ?_
            refine r_ne0 (q := 77) dX11_sires_69 rfl hf (fun hf => ?_) (fun hf => ?_)
            · refine r_loc dX11_sires_77 rfl ?_
              cases hf
              exact r_ri T dX11_sires_79
            · refine r_loc dX11_sires_72 rfl ?_
              refine r_goto (q := 79) dX11_sires_74 rfl ?_
              cases hf
              exact r_ri T dX11_sires_79
          · refine r_loc dX11_sires_55 rfl ?_
            refine r_getR dX11_sires_56 fl_11_37 sh_0 (Or.inl ⟨_, rfl⟩) (tp_0_3 T) ?_
            refine r_loc dX11_sires_59 rfl ?_
            refine r_loc dX11_sires_60 rfl ?_
            refine r_loc dX11_sires_62 rfl ?_
            obtain ⟨v8, c7, hf⟩ := cal_inv hf
            have g9 := rf_X6_marksInNeither (X := X) (d := d) (by omega) 27 x1 (v5 / 8) (v5 - v5 / 8 * 8) st_27 T c7
            refine r_stat (pre := [.int (v5 - v5 / 8 * 8), .int (v5 / 8), .int x1, .ref 27]) (rest := []) dX11_sires_64 ct_11_267 rfl (Nat.le_of_ble_eq_true rfl) (Nat.le_of_ble_eq_true rfl) g9 ?_
            cases hf
            exact r_ri T dX11_sires_67
        · refine r_iconst (v := (-1)) dX11_sires_36 rfl ?_
          cases hf
          exact r_ri T dX11_sires_37
      · refine r_iconst (v := (-1)) dX11_sires_20 rfl ?_
        cases hf
        exact r_ri T dX11_sires_21
def lp_X6_changes_27 (s0 : Nat) (p1 : Int32) (p2 : Int32) (p3 : Int32) (p4 : Int32) (h : am_H) : Nat → Int32 → Int32 → Option (Int32)
  | 0, _, _ => none
  | n + 1, x5, x6 => if x6 < 6 then rdI h (s0 + 3) 8 p1 fun v7 => rdI h (s0 + 3) 8 p2 fun v8 => rdI h (s0 + 3) 8 p3 fun v9 => rdI h (s0 + 3) 8 p4 fun v10 => if (((((v7 >>> (x6 &&& 31)) &&& 1) + ((v8 >>> (x6 &&& 31)) &&& 1)) + ((v9 >>> (x6 &&& 31)) &&& 1)) + ((v10 >>> (x6 &&& 31)) &&& 1)) = 2 then if ((v7 >>> (x6 &&& 31)) &&& 1) = ((v8 >>> (x6 &&& 31)) &&& 1) then lp_X6_changes_27 s0 p1 p2 p3 p4 h n (x5 + 1) (x6 + 1) else lp_X6_changes_27 s0 p1 p2 p3 p4 h n (x5 + 2) (x6 + 1) else if (((((v7 >>> (x6 &&& 31)) &&& 1) + ((v8 >>> (x6 &&& 31)) &&& 1)) + ((v9 >>> (x6 &&& 31)) &&& 1)) + ((v10 >>> (x6 &&& 31)) &&& 1)) = 1 then lp_X6_changes_27 s0 p1 p2 p3 p4 h n (x5 + 1) (x6 + 1) else if (((((v7 >>> (x6 &&& 31)) &&& 1) + ((v8 >>> (x6 &&& 31)) &&& 1)) + ((v9 >>> (x6 &&& 31)) &&& 1)) + ((v10 >>> (x6 &&& 31)) &&& 1)) = 3 then lp_X6_changes_27 s0 p1 p2 p3 p4 h n (x5 + 1) (x6 + 1) else lp_X6_changes_27 s0 p1 p2 p3 p4 h n x5 (x6 + 1) else some x5
def f_X6_changes (s0 : Nat) (x1 : Int32) (x2 : Int32) (x3 : Int32) (x4 : Int32) (h : am_H) : Option (Int32) := cal (f_X7_hasBoth s0 x1 x2 h) fun v2 => if v2 = 0 then some 0 else cal (f_X7_hasBoth s0 x3 x4 h) fun v5 => if v5 = 0 then some 0 else lp_X6_changes_27 s0 x1 x2 x3 x4 h  4000 0 0
theorem rl_X6_changes_27 {X : am_X} {d : Nat} (hd : 2 ≤ d) (s0 : Nat) (p1 : Int32) (p2 : Int32) (p3 : Int32) (p4 : Int32) (hs0 : s0 ∈ am_ST) {h : am_H} (T : am_TP h.2.2) {r : Int32} : ∀ (n : Nat) (x5 : Int32) (x6 : Int32) , lp_X6_changes_27 s0 p1 p2 p3 p4 h n x5 x6 = some r → am_G X d 6 false cX6_changes (some .int) 27 [some (.ref s0), some (.int p1), some (.int p2), some (.int p3), some (.int p4), some (.int x5), some (.int x6), none, none, none, none, none] [] (am_SH, h) (some (.int r), (am_SH, h)) := by
  obtain ⟨d, rfl⟩ : ∃ e, d = e + 1 := ⟨d - 1, by omega⟩
  intro n
  induction n with
  | zero => intro x5 x6 hf; cases hf
  | succ n ih =>
    intro x5 x6 hf
    rw [lp_X6_changes_27] at hf
    refine r_loc dX6_changes_27 rfl ?_
    refine r_bipush (v := 6) dX6_changes_29 rfl ?_
    refine r_ge (q := 147) dX6_changes_31 rfl hf (fun hf => ?_) (fun hf => ?_)
    · refine r_loc dX6_changes_147 rfl ?_
      cases hf
      exact r_ri T dX6_changes_149
    · refine r_loc dX6_changes_34 rfl ?_
      refine r_getR dX6_changes_35 fl_6_25 (sh_S hs0) (Or.inr ⟨_, rfl⟩) (tp_S_3 T hs0) ?_
      refine r_loc dX6_changes_38 rfl ?_
      refine r_iald dX6_changes_39 (sh_S_3 hs0) hf (fun v7 hf => ?_)
      refine r_loc dX6_changes_40 rfl ?_
      refine r_alu dX6_changes_42 rfl ?_
      refine r_iconst (v := 1) dX6_changes_43 rfl ?_
      refine r_alu dX6_changes_44 rfl ?_
      refine r_loc (L' := [some (.ref s0), some (.int p1), some (.int p2), some (.int p3), some (.int p4), some (.int x5), some (.int x6), some (.int ((v7 >>> (x6 &&& 31)) &&& 1)), none, none, none, none]) dX6_changes_45 rfl ?_
      refine r_loc dX6_changes_47 rfl ?_
      refine r_getR dX6_changes_48 fl_6_25 (sh_S hs0) (Or.inr ⟨_, rfl⟩) (tp_S_3 T hs0) ?_
      refine r_loc dX6_changes_51 rfl ?_
      refine r_iald dX6_changes_52 (sh_S_3 hs0) hf (fun v8 hf => ?_)
      refine r_loc dX6_changes_53 rfl ?_
      refine r_alu dX6_changes_55 rfl ?_
      refine r_iconst (v := 1) dX6_changes_56 rfl ?_
      refine r_alu dX6_changes_57 rfl ?_
      refine r_loc (L' := [some (.ref s0), some (.int p1), some (.int p2), some (.int p3), some (.int p4), some (.int x5), some (.int x6), some (.int ((v7 >>> (x6 &&& 31)) &&& 1)), some (.int ((v8 >>> (x6 &&& 31)) &&& 1)), none, none, none]) dX6_changes_58 rfl ?_
      refine r_loc dX6_changes_60 rfl ?_
      refine r_getR dX6_changes_61 fl_6_25 (sh_S hs0) (Or.inr ⟨_, rfl⟩) (tp_S_3 T hs0) ?_
      refine r_loc dX6_changes_64 rfl ?_
      refine r_iald dX6_changes_65 (sh_S_3 hs0) hf (fun v9 hf => ?_)
      refine r_loc dX6_changes_66 rfl ?_
      refine r_alu dX6_changes_68 rfl ?_
      refine r_iconst (v := 1) dX6_changes_69 rfl ?_
      refine r_alu dX6_changes_70 rfl ?_
      refine r_loc (L' := [some (.ref s0), some (.int p1), some (.int p2), some (.int p3), some (.int p4), some (.int x5), some (.int x6), some (.int ((v7 >>> (x6 &&& 31)) &&& 1)), some (.int ((v8 >>> (x6 &&& 31)) &&& 1)), some (.int ((v9 >>> (x6 &&& 31)) &&& 1)), none, none]) dX6_changes_71 rfl ?_
      refine r_loc dX6_changes_73 rfl ?_
      refine r_getR dX6_changes_74 fl_6_25 (sh_S hs0) (Or.inr ⟨_, rfl⟩) (tp_S_3 T hs0) ?_
      refine r_loc dX6_changes_77 rfl ?_
      refine r_iald dX6_changes_79 (sh_S_3 hs0) hf (fun v10 hf => ?_)
      refine r_loc dX6_changes_80 rfl ?_
      refine r_alu dX6_changes_82 rfl ?_
      refine r_iconst (v := 1) dX6_changes_83 rfl ?_
      refine r_alu dX6_changes_84 rfl ?_
      refine r_loc (L' := [some (.ref s0), some (.int p1), some (.int p2), some (.int p3), some (.int p4), some (.int x5), some (.int x6), some (.int ((v7 >>> (x6 &&& 31)) &&& 1)), some (.int ((v8 >>> (x6 &&& 31)) &&& 1)), some (.int ((v9 >>> (x6 &&& 31)) &&& 1)), some (.int ((v10 >>> (x6 &&& 31)) &&& 1)), none]) dX6_changes_85 rfl ?_
      refine r_loc dX6_changes_87 rfl ?_
      refine r_loc dX6_changes_89 rfl ?_
      refine r_alu dX6_changes_91 rfl ?_
      refine r_loc dX6_changes_92 rfl ?_
      refine r_alu dX6_changes_94 rfl ?_
      refine r_loc dX6_changes_95 rfl ?_
      refine r_alu dX6_changes_97 rfl ?_
      refine r_loc (L' := [some (.ref s0), some (.int p1), some (.int p2), some (.int p3), some (.int p4), some (.int x5), some (.int x6), some (.int ((v7 >>> (x6 &&& 31)) &&& 1)), some (.int ((v8 >>> (x6 &&& 31)) &&& 1)), some (.int ((v9 >>> (x6 &&& 31)) &&& 1)), some (.int ((v10 >>> (x6 &&& 31)) &&& 1)), some (.int (((((v7 >>> (x6 &&& 31)) &&& 1) + ((v8 >>> (x6 &&& 31)) &&& 1)) + ((v9 >>> (x6 &&& 31)) &&& 1)) + ((v10 >>> (x6 &&& 31)) &&& 1)))]) dX6_changes_98 rfl ?_
      refine r_loc dX6_changes_100 rfl ?_
      refine r_iconst (v := 2) dX6_changes_102 rfl ?_
      refine r_ne (q := 126) dX6_changes_103 rfl hf (fun hf => ?_) (fun hf => ?_)
      · refine r_loc dX6_changes_126 rfl ?_
        refine r_iconst (v := 1) dX6_changes_128 rfl ?_
        refine r_eq (q := 138) dX6_changes_129 rfl hf (fun hf => ?_) (fun hf => ?_)
        · refine r_loc (L' := [some (.ref s0), some (.int p1), some (.int p2), some (.int p3), some (.int p4), some (.int (x5 + 1)), some (.int x6), some (.int ((v7 >>> (x6 &&& 31)) &&& 1)), some (.int ((v8 >>> (x6 &&& 31)) &&& 1)), some (.int ((v9 >>> (x6 &&& 31)) &&& 1)), some (.int ((v10 >>> (x6 &&& 31)) &&& 1)), some (.int (((((v7 >>> (x6 &&& 31)) &&& 1) + ((v8 >>> (x6 &&& 31)) &&& 1)) + ((v9 >>> (x6 &&& 31)) &&& 1)) + ((v10 >>> (x6 &&& 31)) &&& 1)))]) dX6_changes_138 rfl ?_
          refine r_loc (L' := [some (.ref s0), some (.int p1), some (.int p2), some (.int p3), some (.int p4), some (.int (x5 + 1)), some (.int (x6 + 1)), some (.int ((v7 >>> (x6 &&& 31)) &&& 1)), some (.int ((v8 >>> (x6 &&& 31)) &&& 1)), some (.int ((v9 >>> (x6 &&& 31)) &&& 1)), some (.int ((v10 >>> (x6 &&& 31)) &&& 1)), some (.int (((((v7 >>> (x6 &&& 31)) &&& 1) + ((v8 >>> (x6 &&& 31)) &&& 1)) + ((v9 >>> (x6 &&& 31)) &&& 1)) + ((v10 >>> (x6 &&& 31)) &&& 1)))]) dX6_changes_141 rfl ?_
          refine r_goto (q := 27) dX6_changes_144 rfl ?_
          refine r_weak (L := [some (.ref s0), some (.int p1), some (.int p2), some (.int p3), some (.int p4), some (.int (x5 + 1)), some (.int (x6 + 1)), none, none, none, none, none]) (am_le_s (am_le_s (am_le_s (am_le_s (am_le_s (am_le_s (am_le_s (am_le_n (am_le_n (am_le_n (am_le_n (am_le_n am_le_0)))))))))))) ?_
          exact ih (x5 + 1) (x6 + 1) hf
        · refine r_loc dX6_changes_132 rfl ?_
          refine r_iconst (v := 3) dX6_changes_134 rfl ?_
          refine r_ne (q := 141) dX6_changes_135 rfl hf (fun hf => ?_) (fun hf => ?_)
          · refine r_loc (L' := [some (.ref s0), some (.int p1), some (.int p2), some (.int p3), some (.int p4), some (.int x5), some (.int (x6 + 1)), some (.int ((v7 >>> (x6 &&& 31)) &&& 1)), some (.int ((v8 >>> (x6 &&& 31)) &&& 1)), some (.int ((v9 >>> (x6 &&& 31)) &&& 1)), some (.int ((v10 >>> (x6 &&& 31)) &&& 1)), some (.int (((((v7 >>> (x6 &&& 31)) &&& 1) + ((v8 >>> (x6 &&& 31)) &&& 1)) + ((v9 >>> (x6 &&& 31)) &&& 1)) + ((v10 >>> (x6 &&& 31)) &&& 1)))]) dX6_changes_141 rfl ?_
            refine r_goto (q := 27) dX6_changes_144 rfl ?_
            refine r_weak (L := [some (.ref s0), some (.int p1), some (.int p2), some (.int p3), some (.int p4), some (.int x5), some (.int (x6 + 1)), none, none, none, none, none]) (am_le_s (am_le_s (am_le_s (am_le_s (am_le_s (am_le_s (am_le_s (am_le_n (am_le_n (am_le_n (am_le_n (am_le_n am_le_0)))))))))))) ?_
            exact ih x5 (x6 + 1) hf
          · refine r_loc (L' := [some (.ref s0), some (.int p1), some (.int p2), some (.int p3), some (.int p4), some (.int (x5 + 1)), some (.int x6), some (.int ((v7 >>> (x6 &&& 31)) &&& 1)), some (.int ((v8 >>> (x6 &&& 31)) &&& 1)), some (.int ((v9 >>> (x6 &&& 31)) &&& 1)), some (.int ((v10 >>> (x6 &&& 31)) &&& 1)), some (.int (((((v7 >>> (x6 &&& 31)) &&& 1) + ((v8 >>> (x6 &&& 31)) &&& 1)) + ((v9 >>> (x6 &&& 31)) &&& 1)) + ((v10 >>> (x6 &&& 31)) &&& 1)))]) dX6_changes_138 rfl ?_
            refine r_loc (L' := [some (.ref s0), some (.int p1), some (.int p2), some (.int p3), some (.int p4), some (.int (x5 + 1)), some (.int (x6 + 1)), some (.int ((v7 >>> (x6 &&& 31)) &&& 1)), some (.int ((v8 >>> (x6 &&& 31)) &&& 1)), some (.int ((v9 >>> (x6 &&& 31)) &&& 1)), some (.int ((v10 >>> (x6 &&& 31)) &&& 1)), some (.int (((((v7 >>> (x6 &&& 31)) &&& 1) + ((v8 >>> (x6 &&& 31)) &&& 1)) + ((v9 >>> (x6 &&& 31)) &&& 1)) + ((v10 >>> (x6 &&& 31)) &&& 1)))]) dX6_changes_141 rfl ?_
            refine r_goto (q := 27) dX6_changes_144 rfl ?_
            refine r_weak (L := [some (.ref s0), some (.int p1), some (.int p2), some (.int p3), some (.int p4), some (.int (x5 + 1)), some (.int (x6 + 1)), none, none, none, none, none]) (am_le_s (am_le_s (am_le_s (am_le_s (am_le_s (am_le_s (am_le_s (am_le_n (am_le_n (am_le_n (am_le_n (am_le_n am_le_0)))))))))))) ?_
            exact ih (x5 + 1) (x6 + 1) hf
      · refine r_loc dX6_changes_106 rfl ?_
        refine r_loc dX6_changes_108 rfl ?_
        refine r_loc dX6_changes_110 rfl ?_
        refine r_ne (q := 119) dX6_changes_112 rfl hf (fun hf => ?_) (fun hf => ?_)
        · refine r_iconst (v := 2) dX6_changes_119 rfl ?_
          refine r_alu dX6_changes_120 rfl ?_
          refine r_loc (L' := [some (.ref s0), some (.int p1), some (.int p2), some (.int p3), some (.int p4), some (.int (x5 + 2)), some (.int x6), some (.int ((v7 >>> (x6 &&& 31)) &&& 1)), some (.int ((v8 >>> (x6 &&& 31)) &&& 1)), some (.int ((v9 >>> (x6 &&& 31)) &&& 1)), some (.int ((v10 >>> (x6 &&& 31)) &&& 1)), some (.int (((((v7 >>> (x6 &&& 31)) &&& 1) + ((v8 >>> (x6 &&& 31)) &&& 1)) + ((v9 >>> (x6 &&& 31)) &&& 1)) + ((v10 >>> (x6 &&& 31)) &&& 1)))]) dX6_changes_121 rfl ?_
          refine r_goto (q := 141) dX6_changes_123 rfl ?_
          refine r_loc (L' := [some (.ref s0), some (.int p1), some (.int p2), some (.int p3), some (.int p4), some (.int (x5 + 2)), some (.int (x6 + 1)), some (.int ((v7 >>> (x6 &&& 31)) &&& 1)), some (.int ((v8 >>> (x6 &&& 31)) &&& 1)), some (.int ((v9 >>> (x6 &&& 31)) &&& 1)), some (.int ((v10 >>> (x6 &&& 31)) &&& 1)), some (.int (((((v7 >>> (x6 &&& 31)) &&& 1) + ((v8 >>> (x6 &&& 31)) &&& 1)) + ((v9 >>> (x6 &&& 31)) &&& 1)) + ((v10 >>> (x6 &&& 31)) &&& 1)))]) dX6_changes_141 rfl ?_
          refine r_goto (q := 27) dX6_changes_144 rfl ?_
          refine r_weak (L := [some (.ref s0), some (.int p1), some (.int p2), some (.int p3), some (.int p4), some (.int (x5 + 2)), some (.int (x6 + 1)), none, none, none, none, none]) (am_le_s (am_le_s (am_le_s (am_le_s (am_le_s (am_le_s (am_le_s (am_le_n (am_le_n (am_le_n (am_le_n (am_le_n am_le_0)))))))))))) ?_
          exact ih (x5 + 2) (x6 + 1) hf
        · refine r_iconst (v := 1) dX6_changes_115 rfl ?_
          refine r_goto (q := 120) dX6_changes_116 rfl ?_
          refine r_alu dX6_changes_120 rfl ?_
          refine r_loc (L' := [some (.ref s0), some (.int p1), some (.int p2), some (.int p3), some (.int p4), some (.int (x5 + 1)), some (.int x6), some (.int ((v7 >>> (x6 &&& 31)) &&& 1)), some (.int ((v8 >>> (x6 &&& 31)) &&& 1)), some (.int ((v9 >>> (x6 &&& 31)) &&& 1)), some (.int ((v10 >>> (x6 &&& 31)) &&& 1)), some (.int (((((v7 >>> (x6 &&& 31)) &&& 1) + ((v8 >>> (x6 &&& 31)) &&& 1)) + ((v9 >>> (x6 &&& 31)) &&& 1)) + ((v10 >>> (x6 &&& 31)) &&& 1)))]) dX6_changes_121 rfl ?_
          refine r_goto (q := 141) dX6_changes_123 rfl ?_
          refine r_loc (L' := [some (.ref s0), some (.int p1), some (.int p2), some (.int p3), some (.int p4), some (.int (x5 + 1)), some (.int (x6 + 1)), some (.int ((v7 >>> (x6 &&& 31)) &&& 1)), some (.int ((v8 >>> (x6 &&& 31)) &&& 1)), some (.int ((v9 >>> (x6 &&& 31)) &&& 1)), some (.int ((v10 >>> (x6 &&& 31)) &&& 1)), some (.int (((((v7 >>> (x6 &&& 31)) &&& 1) + ((v8 >>> (x6 &&& 31)) &&& 1)) + ((v9 >>> (x6 &&& 31)) &&& 1)) + ((v10 >>> (x6 &&& 31)) &&& 1)))]) dX6_changes_141 rfl ?_
          refine r_goto (q := 27) dX6_changes_144 rfl ?_
          refine r_weak (L := [some (.ref s0), some (.int p1), some (.int p2), some (.int p3), some (.int p4), some (.int (x5 + 1)), some (.int (x6 + 1)), none, none, none, none, none]) (am_le_s (am_le_s (am_le_s (am_le_s (am_le_s (am_le_s (am_le_s (am_le_n (am_le_n (am_le_n (am_le_n (am_le_n am_le_0)))))))))))) ?_
          exact ih (x5 + 1) (x6 + 1) hf
theorem rf_X6_changes {X : am_X} {d : Nat} (hd : 2 ≤ d) (s0 : Nat) (x1 : Int32) (x2 : Int32) (x3 : Int32) (x4 : Int32) (hs0 : s0 ∈ am_ST) {h : am_H} (T : am_TP h.2.2) {r : Int32} (hf : f_X6_changes s0 x1 x2 x3 x4 h = some r) : am_G X d 6 false cX6_changes (some .int) 0 [some (.ref s0), some (.int x1), some (.int x2), some (.int x3), some (.int x4), none, none, none, none, none, none, none] [] (am_SH, h) (some (.int r), (am_SH, h)) := by
  unfold f_X6_changes at hf
  obtain ⟨d, rfl⟩ : ∃ e, d = e + 1 := ⟨d - 1, by omega⟩
  refine r_loc dX6_changes_0 rfl ?_
  refine r_loc dX6_changes_1 rfl ?_
  refine r_loc dX6_changes_2 rfl ?_
  obtain ⟨v2, c1, hf⟩ := cal_inv hf
  have g3 := rf_X7_hasBoth (X := X) (d := d) (by omega) s0 x1 x2 hs0 T c1
  refine r_virt (pre := [.int x2, .int x1]) (rest := []) dX6_changes_3 ct_6_9 rfl ((sh_S hs0)) (Nat.le_of_ble_eq_true rfl) (Nat.le_of_ble_eq_true rfl) g3 ?_
  refine r_eq0 (q := 19) dX6_changes_6 rfl hf (fun hf => ?_) (fun hf => ?_)
  · refine r_iconst (v := 0) dX6_changes_19 rfl ?_
    cases hf
    exact r_ri T dX6_changes_20
  · refine r_loc dX6_changes_9 rfl ?_
    refine r_loc dX6_changes_10 rfl ?_
    refine r_loc dX6_changes_11 rfl ?_
    obtain ⟨v5, c4, hf⟩ := cal_inv hf
    have g6 := rf_X7_hasBoth (X := X) (d := d) (by omega) s0 x3 x4 hs0 T c4
    refine r_virt (pre := [.int x4, .int x3]) (rest := []) dX6_changes_13 ct_6_9 rfl ((sh_S hs0)) (Nat.le_of_ble_eq_true rfl) (Nat.le_of_ble_eq_true rfl) g6 ?_
    refine r_ne0 (q := 21) dX6_changes_16 rfl hf (fun hf => ?_) (fun hf => ?_)
    · refine r_iconst (v := 0) dX6_changes_21 rfl ?_
      refine r_loc (L' := [some (.ref s0), some (.int x1), some (.int x2), some (.int x3), some (.int x4), some (.int 0), none, none, none, none, none, none]) dX6_changes_22 rfl ?_
      refine r_iconst (v := 0) dX6_changes_24 rfl ?_
      refine r_loc (L' := [some (.ref s0), some (.int x1), some (.int x2), some (.int x3), some (.int x4), some (.int 0), some (.int 0), none, none, none, none, none]) dX6_changes_25 rfl ?_
      refine rl_X6_changes_27 (by omega) s0 x1 x2 x3 x4 hs0 T  4000 0 0  hf
    · refine r_iconst (v := 0) dX6_changes_19 rfl ?_
      cases hf
      exact r_ri T dX6_changes_20
def jn_X11_quartet_128 (x1 : Int32) (x2 : Int32) (x3 : Int32) (x4 : Int32) (x5 : Int32) (x7 : Int32) (x8 : Int32) (h : am_H) : Option (Int32) := cal (f_X6_changes 27 x1 x4 x2 x3 h) fun v14 => if v14 < x8 then if x5 = 0 then some 2 else some v14 else if x5 = 0 then some x7 else some x8
def jn_X11_quartet_38 (x1 : Int32) (x2 : Int32) (x3 : Int32) (x4 : Int32) (x5 : Int32) (y0 : Int32) (h : am_H) : Option (Int32) := if y0 = 0 then some (-1) else cal (f_X7_hasBoth 27 x1 x2 h) fun v2 => if v2 = 0 then some (-1) else cal (f_X7_hasBoth 27 x3 x4 h) fun v5 => if v5 = 0 then some (-1) else if x5 < 0 then some (-1) else if 1 < x5 then some (-1) else cal (f_X6_changes 27 x1 x2 x3 x4 h) fun v8 => cal (f_X6_changes 27 x1 x3 x2 x4 h) fun v11 => if v11 < v8 then jn_X11_quartet_128 x1 x2 x3 x4 x5 1 v11 h else jn_X11_quartet_128 x1 x2 x3 x4 x5 0 v8 h
def jn_X11_quartet_37 (x1 : Int32) (x2 : Int32) (x3 : Int32) (x4 : Int32) (x5 : Int32) (h : am_H) : Option (Int32) := jn_X11_quartet_38 x1 x2 x3 x4 x5 0 h
def f_X11_quartet (x1 : Int32) (x2 : Int32) (x3 : Int32) (x4 : Int32) (x5 : Int32) (h : am_H) : Option (Int32) := if x1 = x2 then jn_X11_quartet_37 x1 x2 x3 x4 x5 h else if x1 = x3 then jn_X11_quartet_37 x1 x2 x3 x4 x5 h else if x1 = x4 then jn_X11_quartet_37 x1 x2 x3 x4 x5 h else if x2 = x3 then jn_X11_quartet_37 x1 x2 x3 x4 x5 h else if x2 = x4 then jn_X11_quartet_37 x1 x2 x3 x4 x5 h else if x3 = x4 then jn_X11_quartet_37 x1 x2 x3 x4 x5 h else jn_X11_quartet_38 x1 x2 x3 x4 x5 1 h
theorem rj_X11_quartet_128 {X : am_X} {d : Nat} (hd : 3 ≤ d) (x1 : Int32) (x2 : Int32) (x3 : Int32) (x4 : Int32) (x5 : Int32) (x7 : Int32) (x8 : Int32) {h : am_H} (T : am_TP h.2.2) {r : Int32} (hf : jn_X11_quartet_128 x1 x2 x3 x4 x5 x7 x8 h = some r) : am_G X d 11 false cX11_quartet (some .int) 128 [some (.ref 0), some (.int x1), some (.int x2), some (.int x3), some (.int x4), some (.int x5), none, some (.int x7), some (.int x8), none, none] [] (am_SH, h) (some (.int r), (am_SH, h)) := by
  obtain ⟨d, rfl⟩ : ∃ e, d = e + 1 := ⟨d - 1, by omega⟩
  unfold jn_X11_quartet_128 at hf
  refine r_loc dX11_quartet_128 rfl ?_
  refine r_getR dX11_quartet_129 fl_11_37 sh_0 (Or.inl ⟨_, rfl⟩) (tp_0_3 T) ?_
  refine r_loc dX11_quartet_132 rfl ?_
  refine r_loc dX11_quartet_133 rfl ?_
  refine r_loc dX11_quartet_135 rfl ?_
  refine r_loc dX11_quartet_136 rfl ?_
  obtain ⟨v14, c13, hf⟩ := cal_inv hf
  have g15 := rf_X6_changes (X := X) (d := d) (by omega) 27 x1 x4 x2 x3 st_27 T c13
  refine r_stat (pre := [.int x3, .int x2, .int x4, .int x1, .ref 27]) (rest := []) dX11_quartet_137 ct_11_271 rfl (Nat.le_of_ble_eq_true rfl) (Nat.le_of_ble_eq_true rfl) g15 ?_
  refine r_loc (L' := [some (.ref 0), some (.int x1), some (.int x2), some (.int x3), some (.int x4), some (.int x5), none, some (.int x7), some (.int x8), none, some (.int v14)]) dX11_quartet_140 rfl ?_
  refine r_loc dX11_quartet_142 rfl ?_
  refine r_loc dX11_quartet_144 rfl ?_
  refine r_ge (q := 156) dX11_quartet_146 rfl hf (fun hf => ?_) (fun hf => ?_)
  · refine r_loc dX11_quartet_156 rfl ?_
    refine r_ne0 (q := 166) dX11_quartet_158 rfl hf (fun hf => ?_) (fun hf => ?_)
    · refine r_loc dX11_quartet_166 rfl ?_
      cases hf
      exact r_ri T dX11_quartet_168
    · refine r_loc dX11_quartet_161 rfl ?_
      refine r_goto (q := 168) dX11_quartet_163 rfl ?_
      cases hf
      exact r_ri T dX11_quartet_168
  · refine r_iconst (v := 2) dX11_quartet_149 rfl ?_
    refine r_loc (L' := [some (.ref 0), some (.int x1), some (.int x2), some (.int x3), some (.int x4), some (.int x5), none, some (.int 2), some (.int x8), none, some (.int v14)]) dX11_quartet_150 rfl ?_
    refine r_loc dX11_quartet_152 rfl ?_
    refine r_loc (L' := [some (.ref 0), some (.int x1), some (.int x2), some (.int x3), some (.int x4), some (.int x5), none, some (.int 2), some (.int v14), none, some (.int v14)]) dX11_quartet_154 rfl ?_
    refine r_loc dX11_quartet_156 rfl ?_
    refine r_ne0 (q := 166) dX11_quartet_158 rfl hf (fun hf => ?_) (fun hf => ?_)
    · refine r_loc dX11_quartet_166 rfl ?_
      cases hf
      exact r_ri T dX11_quartet_168
    · refine r_loc dX11_quartet_161 rfl ?_
      refine r_goto (q := 168) dX11_quartet_163 rfl ?_
      cases hf
      exact r_ri T dX11_quartet_168
theorem rj_X11_quartet_38 {X : am_X} {d : Nat} (hd : 3 ≤ d) (x1 : Int32) (x2 : Int32) (x3 : Int32) (x4 : Int32) (x5 : Int32) (y0 : Int32) {h : am_H} (T : am_TP h.2.2) {r : Int32} (hf : jn_X11_quartet_38 x1 x2 x3 x4 x5 y0 h = some r) : am_G X d 11 false cX11_quartet (some .int) 38 [some (.ref 0), some (.int x1), some (.int x2), some (.int x3), some (.int x4), some (.int x5), none, none, none, none, none] [.int y0] (am_SH, h) (some (.int r), (am_SH, h)) := by
  obtain ⟨d, rfl⟩ : ∃ e, d = e + 1 := ⟨d - 1, by omega⟩
  unfold jn_X11_quartet_38 at hf
  refine r_loc (L' := [some (.ref 0), some (.int x1), some (.int x2), some (.int x3), some (.int x4), some (.int x5), some (.int y0), none, none, none, none]) dX11_quartet_38 rfl ?_
  refine r_loc dX11_quartet_40 rfl ?_
  refine r_eq0 (q := 81) dX11_quartet_42 rfl hf (fun hf => ?_) (fun hf => ?_)
  · refine r_iconst (v := (-1)) dX11_quartet_81 rfl ?_
    cases hf
    exact r_ri T dX11_quartet_82
  · refine r_loc dX11_quartet_45 rfl ?_
    refine r_getR dX11_quartet_46 fl_11_37 sh_0 (Or.inl ⟨_, rfl⟩) (tp_0_3 T) ?_
    refine r_loc dX11_quartet_49 rfl ?_
    refine r_loc dX11_quartet_50 rfl ?_
    obtain ⟨v2, c1, hf⟩ := cal_inv hf
    have g3 := rf_X7_hasBoth (X := X) (d := d) (by omega) 27 x1 x2 st_27 T c1
    refine r_virt (pre := [.int x2, .int x1]) (rest := []) dX11_quartet_51 ct_11_161 rfl ((sh_S st_27)) (Nat.le_of_ble_eq_true rfl) (Nat.le_of_ble_eq_true rfl) g3 ?_
    refine r_eq0 (q := 81) dX11_quartet_54 rfl hf (fun hf => ?_) (fun hf => ?_)
    · refine r_iconst (v := (-1)) dX11_quartet_81 rfl ?_
      cases hf
      exact r_ri T dX11_quartet_82
    · refine r_loc dX11_quartet_57 rfl ?_
      refine r_getR dX11_quartet_58 fl_11_37 sh_0 (Or.inl ⟨_, rfl⟩) (tp_0_3 T) ?_
      refine r_loc dX11_quartet_61 rfl ?_
      refine r_loc dX11_quartet_62 rfl ?_
      obtain ⟨v5, c4, hf⟩ := cal_inv hf
      have g6 := rf_X7_hasBoth (X := X) (d := d) (by omega) 27 x3 x4 st_27 T c4
      refine r_virt (pre := [.int x4, .int x3]) (rest := []) dX11_quartet_64 ct_11_161 rfl ((sh_S st_27)) (Nat.le_of_ble_eq_true rfl) (Nat.le_of_ble_eq_true rfl) g6 ?_
      refine r_eq0 (q := 81) dX11_quartet_67 rfl hf (fun hf => ?_) (fun hf => ?_)
      · refine r_iconst (v := (-1)) dX11_quartet_81 rfl ?_
        cases hf
        exact r_ri T dX11_quartet_82
      · refine r_loc dX11_quartet_70 rfl ?_
        refine r_lt0 (q := 81) dX11_quartet_72 rfl hf (fun hf => ?_) (fun hf => ?_)
        · refine r_iconst (v := (-1)) dX11_quartet_81 rfl ?_
          cases hf
          exact r_ri T dX11_quartet_82
        · refine r_loc dX11_quartet_75 rfl ?_
          refine r_iconst (v := 1) dX11_quartet_77 rfl ?_
          refine r_le (q := 83) dX11_quartet_78 rfl hf (fun hf => ?_) (fun hf => ?_)
          · refine r_iconst (v := 0) dX11_quartet_83 rfl ?_
            refine r_loc (L' := [some (.ref 0), some (.int x1), some (.int x2), some (.int x3), some (.int x4), some (.int x5), some (.int y0), some (.int 0), none, none, none]) dX11_quartet_84 rfl ?_
            refine r_loc dX11_quartet_86 rfl ?_
            refine r_getR dX11_quartet_87 fl_11_37 sh_0 (Or.inl ⟨_, rfl⟩) (tp_0_3 T) ?_
            refine r_loc dX11_quartet_90 rfl ?_
            refine r_loc dX11_quartet_91 rfl ?_
            refine r_loc dX11_quartet_92 rfl ?_
            refine r_loc dX11_quartet_93 rfl ?_
            obtain ⟨v8, c7, hf⟩ := cal_inv hf
            have g9 := rf_X6_changes (X := X) (d := d) (by omega) 27 x1 x2 x3 x4 st_27 T c7
            refine r_stat (pre := [.int x4, .int x3, .int x2, .int x1, .ref 27]) (rest := []) dX11_quartet_95 ct_11_271 rfl (Nat.le_of_ble_eq_true rfl) (Nat.le_of_ble_eq_true rfl) g9 ?_
            refine r_loc (L' := [some (.ref 0), some (.int x1), some (.int x2), some (.int x3), some (.int x4), some (.int x5), some (.int y0), some (.int 0), some (.int v8), none, none]) dX11_quartet_98 rfl ?_
            refine r_loc dX11_quartet_100 rfl ?_
            refine r_getR dX11_quartet_101 fl_11_37 sh_0 (Or.inl ⟨_, rfl⟩) (tp_0_3 T) ?_
            refine r_loc dX11_quartet_104 rfl ?_
            refine r_loc dX11_quartet_105 rfl ?_
            refine r_loc dX11_quartet_106 rfl ?_
            refine r_loc dX11_quartet_107 rfl ?_
            obtain ⟨v11, c10, hf⟩ := cal_inv hf
            have g12 := rf_X6_changes (X := X) (d := d) (by omega) 27 x1 x3 x2 x4 st_27 T c10
            refine r_stat (pre := [.int x4, .int x2, .int x3, .int x1, .ref 27]) (rest := []) dX11_quartet_109 ct_11_271 rfl (Nat.le_of_ble_eq_true rfl) (Nat.le_of_ble_eq_true rfl) g12 ?_
            refine r_loc (L' := [some (.ref 0), some (.int x1), some (.int x2), some (.int x3), some (.int x4), some (.int x5), some (.int y0), some (.int 0), some (.int v8), some (.int v11), none]) dX11_quartet_112 rfl ?_
            refine r_loc dX11_quartet_114 rfl ?_
            refine r_loc dX11_quartet_116 rfl ?_
            refine r_ge (q := 128) dX11_quartet_118 rfl hf (fun hf => ?_) (fun hf => ?_)
            · refine r_weak (L := [some (.ref 0), some (.int x1), some (.int x2), some (.int x3), some (.int x4), some (.int x5), none, some (.int 0), some (.int v8), none, none]) (am_le_s (am_le_s (am_le_s (am_le_s (am_le_s (am_le_s (am_le_n (am_le_s (am_le_s (am_le_n (am_le_n am_le_0))))))))))) ?_
              exact rj_X11_quartet_128 (by omega) x1 x2 x3 x4 x5 0 v8 T hf
            · refine r_iconst (v := 1) dX11_quartet_121 rfl ?_
              refine r_loc (L' := [some (.ref 0), some (.int x1), some (.int x2), some (.int x3), some (.int x4), some (.int x5), some (.int y0), some (.int 1), some (.int v8), some (.int v11), none]) dX11_quartet_122 rfl ?_
              refine r_loc dX11_quartet_124 rfl ?_
              refine r_loc (L' := [some (.ref 0), some (.int x1), some (.int x2), some (.int x3), some (.int x4), some (.int x5), some (.int y0), some (.int 1), some (.int v11), some (.int v11), none]) dX11_quartet_126 rfl ?_
              refine r_weak (L := [some (.ref 0), some (.int x1), some (.int x2), some (.int x3), some (.int x4), some (.int x5), none, some (.int 1), some (.int v11), none, none]) (am_le_s (am_le_s (am_le_s (am_le_s (am_le_s (am_le_s (am_le_n (am_le_s (am_le_s (am_le_n (am_le_n am_le_0))))))))))) ?_
              exact rj_X11_quartet_128 (by omega) x1 x2 x3 x4 x5 1 v11 T hf
          · refine r_iconst (v := (-1)) dX11_quartet_81 rfl ?_
            cases hf
            exact r_ri T dX11_quartet_82
theorem rj_X11_quartet_37 {X : am_X} {d : Nat} (hd : 3 ≤ d) (x1 : Int32) (x2 : Int32) (x3 : Int32) (x4 : Int32) (x5 : Int32) {h : am_H} (T : am_TP h.2.2) {r : Int32} (hf : jn_X11_quartet_37 x1 x2 x3 x4 x5 h = some r) : am_G X d 11 false cX11_quartet (some .int) 37 [some (.ref 0), some (.int x1), some (.int x2), some (.int x3), some (.int x4), some (.int x5), none, none, none, none, none] [] (am_SH, h) (some (.int r), (am_SH, h)) := by
  obtain ⟨d, rfl⟩ : ∃ e, d = e + 1 := ⟨d - 1, by omega⟩
  unfold jn_X11_quartet_37 at hf
  refine r_iconst (v := 0) dX11_quartet_37 rfl ?_
  exact rj_X11_quartet_38 (by omega) x1 x2 x3 x4 x5 0 T hf
theorem rf_X11_quartet {X : am_X} {d : Nat} (hd : 3 ≤ d) (x1 : Int32) (x2 : Int32) (x3 : Int32) (x4 : Int32) (x5 : Int32) {h : am_H} (T : am_TP h.2.2) {r : Int32} (hf : f_X11_quartet x1 x2 x3 x4 x5 h = some r) : am_G X d 11 false cX11_quartet (some .int) 0 [some (.ref 0), some (.int x1), some (.int x2), some (.int x3), some (.int x4), some (.int x5), none, none, none, none, none] [] (am_SH, h) (some (.int r), (am_SH, h)) := by
  unfold f_X11_quartet at hf
  obtain ⟨d, rfl⟩ : ∃ e, d = e + 1 := ⟨d - 1, by omega⟩
  refine r_loc dX11_quartet_0 rfl ?_
  refine r_loc dX11_quartet_1 rfl ?_
  refine r_eq (q := 37) dX11_quartet_2 rfl hf (fun hf => ?_) (fun hf => ?_)
  · exact rj_X11_quartet_37 (by omega) x1 x2 x3 x4 x5 T hf
  · refine r_loc dX11_quartet_5 rfl ?_
    refine r_loc dX11_quartet_6 rfl ?_
    refine r_eq (q := 37) dX11_quartet_7 rfl hf (fun hf => ?_) (fun hf => ?_)
    · exact rj_X11_quartet_37 (by omega) x1 x2 x3 x4 x5 T hf
    · refine r_loc dX11_quartet_10 rfl ?_
      refine r_loc dX11_quartet_11 rfl ?_
      refine r_eq (q := 37) dX11_quartet_13 rfl hf (fun hf => ?_) (fun hf => ?_)
      · exact rj_X11_quartet_37 (by omega) x1 x2 x3 x4 x5 T hf
      · refine r_loc dX11_quartet_16 rfl ?_
        refine r_loc dX11_quartet_17 rfl ?_
        refine r_eq (q := 37) dX11_quartet_18 rfl hf (fun hf => ?_) (fun hf => ?_)
        · exact rj_X11_quartet_37 (by omega) x1 x2 x3 x4 x5 T hf
        · refine r_loc dX11_quartet_21 rfl ?_
          refine r_loc dX11_quartet_22 rfl ?_
          refine r_eq (q := 37) dX11_quartet_24 rfl hf (fun hf => ?_) (fun hf => ?_)
          · exact rj_X11_quartet_37 (by omega) x1 x2 x3 x4 x5 T hf
          · refine r_loc dX11_quartet_27 rfl ?_
            refine r_loc dX11_quartet_28 rfl ?_
            refine r_eq (q := 37) dX11_quartet_30 rfl hf (fun hf => ?_) (fun hf => ?_)
            · exact rj_X11_quartet_37 (by omega) x1 x2 x3 x4 x5 T hf
            · refine r_iconst (v := 1) dX11_quartet_33 rfl ?_
              refine r_goto (q := 38) dX11_quartet_34 rfl ?_
              exact rj_X11_quartet_38 (by omega) x1 x2 x3 x4 x5 1 T hf
def lp_X6_distanceTo_6 (s0 : Nat) (p1 : Int32) (p2 : Int32) (h : am_H) : Nat → Int32 → Int32 → Option (Int32)
  | 0, _, _ => none
  | n + 1, x3, x4 => if x4 < 8 then if ((p2 >>> (x4 &&& 31)) &&& 1) = 0 then lp_X6_distanceTo_6 s0 p1 p2 h n x3 (x4 + 1) else cal (f_X7_shared s0 p1 x4 h) fun v2 => lp_X6_distanceTo_6 s0 p1 p2 h n (if ((6 : Int32) - v2) < x3 then ((6 : Int32) - v2) else x3) (x4 + 1) else some x3
def f_X6_distanceTo (s0 : Nat) (x1 : Int32) (x2 : Int32) (h : am_H) : Option (Int32) := lp_X6_distanceTo_6 s0 x1 x2 h  4000 6 0
theorem rl_X6_distanceTo_6 {X : am_X} {d : Nat} (hd : 3 ≤ d) (s0 : Nat) (p1 : Int32) (p2 : Int32) (hs0 : s0 ∈ am_ST) {h : am_H} (T : am_TP h.2.2) {r : Int32} : ∀ (n : Nat) (x3 : Int32) (x4 : Int32) , lp_X6_distanceTo_6 s0 p1 p2 h n x3 x4 = some r → am_G X d 6 false cX6_distanceTo (some .int) 6 [some (.ref s0), some (.int p1), some (.int p2), some (.int x3), some (.int x4)] [] (am_SH, h) (some (.int r), (am_SH, h)) := by
  obtain ⟨d, rfl⟩ : ∃ e, d = e + 1 := ⟨d - 1, by omega⟩
  intro n
  induction n with
  | zero => intro x3 x4 hf; cases hf
  | succ n ih =>
    intro x3 x4 hf
    rw [lp_X6_distanceTo_6] at hf
    refine r_loc dX6_distanceTo_6 rfl ?_
    refine r_bipush (v := 8) dX6_distanceTo_8 rfl ?_
    refine r_ge (q := 43) dX6_distanceTo_10 rfl hf (fun hf => ?_) (fun hf => ?_)
    · refine r_loc dX6_distanceTo_43 rfl ?_
      cases hf
      exact r_ri T dX6_distanceTo_44
    · refine r_loc dX6_distanceTo_13 rfl ?_
      refine r_loc dX6_distanceTo_14 rfl ?_
      refine r_alu dX6_distanceTo_16 rfl ?_
      refine r_iconst (v := 1) dX6_distanceTo_17 rfl ?_
      refine r_alu dX6_distanceTo_18 rfl ?_
      refine r_eq0 (q := 37) dX6_distanceTo_19 rfl hf (fun hf => ?_) (fun hf => ?_)
      · refine r_loc (L' := [some (.ref s0), some (.int p1), some (.int p2), some (.int x3), some (.int (x4 + 1))]) dX6_distanceTo_37 rfl ?_
        refine r_goto (q := 6) dX6_distanceTo_40 rfl ?_
        exact ih x3 (x4 + 1) hf
      · refine r_loc dX6_distanceTo_22 rfl ?_
        refine r_bipush (v := 6) dX6_distanceTo_23 rfl ?_
        refine r_loc dX6_distanceTo_25 rfl ?_
        refine r_loc dX6_distanceTo_26 rfl ?_
        refine r_loc dX6_distanceTo_27 rfl ?_
        obtain ⟨v2, c1, hf⟩ := cal_inv hf
        have g3 := rf_X7_shared (X := X) (d := d) (by omega) s0 p1 x4 hs0 T c1
        refine r_virt (pre := [.int x4, .int p1]) (rest := [.int 6, .int x3]) dX6_distanceTo_29 ct_6_43 rfl ((sh_S hs0)) (Nat.le_of_ble_eq_true rfl) (Nat.le_of_ble_eq_true rfl) g3 ?_
        refine r_alu dX6_distanceTo_32 rfl ?_
        refine r_min dX6_distanceTo_33 ct_6_47 (Nat.le_of_ble_eq_true rfl) ?_
        refine r_loc (L' := [some (.ref s0), some (.int p1), some (.int p2), some (.int (if ((6 : Int32) - v2) < x3 then ((6 : Int32) - v2) else x3)), some (.int x4)]) dX6_distanceTo_36 rfl ?_
        refine r_loc (L' := [some (.ref s0), some (.int p1), some (.int p2), some (.int (if ((6 : Int32) - v2) < x3 then ((6 : Int32) - v2) else x3)), some (.int (x4 + 1))]) dX6_distanceTo_37 rfl ?_
        refine r_goto (q := 6) dX6_distanceTo_40 rfl ?_
        exact ih (if ((6 : Int32) - v2) < x3 then ((6 : Int32) - v2) else x3) (x4 + 1) hf
theorem rf_X6_distanceTo {X : am_X} {d : Nat} (hd : 3 ≤ d) (s0 : Nat) (x1 : Int32) (x2 : Int32) (hs0 : s0 ∈ am_ST) {h : am_H} (T : am_TP h.2.2) {r : Int32} (hf : f_X6_distanceTo s0 x1 x2 h = some r) : am_G X d 6 false cX6_distanceTo (some .int) 0 [some (.ref s0), some (.int x1), some (.int x2), none, none] [] (am_SH, h) (some (.int r), (am_SH, h)) := by
  unfold f_X6_distanceTo at hf
  obtain ⟨d, rfl⟩ : ∃ e, d = e + 1 := ⟨d - 1, by omega⟩
  refine r_bipush (v := 6) dX6_distanceTo_0 rfl ?_
  refine r_loc (L' := [some (.ref s0), some (.int x1), some (.int x2), some (.int 6), none]) dX6_distanceTo_2 rfl ?_
  refine r_iconst (v := 0) dX6_distanceTo_3 rfl ?_
  refine r_loc (L' := [some (.ref s0), some (.int x1), some (.int x2), some (.int 6), some (.int 0)]) dX6_distanceTo_4 rfl ?_
  refine rl_X6_distanceTo_6 (by omega) s0 x1 x2 hs0 T  4000 6 0  hf
def jn_X6_leastTree_70 (k_42 : Int32 → Int32 → Int32 → Option (Int32)) (s0 : Nat) (x1 : Int32) (x2 : Int32) (x3 : Int32) (x4 : Int32) (x5 : Int32) (x6 : Int32) (x7 : Int32) (y0 : Int32) (h : am_H) : Option (Int32) := if y0 < x6 then k_42 x7 y0 (x7 + 1) else k_42 x5 x6 (x7 + 1)
def lp_X6_leastTree_42 (s0 : Nat) (p1 : Int32) (p2 : Int32) (p3 : Int32) (p4 : Int32) (h : am_H) (k_93 : Int32 → Int32 → Option (Int32)) : Nat → Int32 → Int32 → Int32 → Option (Int32)
  | 0, _, _, _ => none
  | n + 1, x5, x6, x7 => if x7 < 8 then if ((p1 >>> (x7 &&& 31)) &&& 1) = 0 then jn_X6_leastTree_70 (lp_X6_leastTree_42 s0 p1 p2 p3 p4 h k_93 n) s0 p1 p2 p3 p4 x5 x6 x7 7 h else cal (f_X6_distanceTo s0 x7 p2 h) fun v5 => jn_X6_leastTree_70 (lp_X6_leastTree_42 s0 p1 p2 p3 p4 h k_93 n) s0 p1 p2 p3 p4 x5 x6 x7 v5 h else k_93 x5 x6
def lp_X6_leastTree_21 (s0 : Nat) (h : am_H) : Nat → Int32 → Int32 → Int32 → Int32 → Option (Int32)
  | 0, _, _, _, _ => none
  | n + 1, x1, x2, x3, x4 => if x4 < 8 then if x1 = 0 then some x3 else lp_X6_leastTree_42 s0 x1 x2 x3 x4 h (fun z7 z8 => if z7 = (-1) then lp_X6_leastTree_21 s0 h n x1 x2 x3 (x4 + 1) else lp_X6_leastTree_21 s0 h n (x1 &&& ((x2 ||| ((1 : Int32) <<< (z7 &&& 31))) ^^^ ((-1) : Int32))) (x2 ||| ((1 : Int32) <<< (z7 &&& 31))) (x3 + z8) (x4 + 1)) 4000 (-1) 7 0 else some x3
def f_X6_leastTree (s0 : Nat) (h : am_H) : Option (Int32) := cal (f_X7_bits s0 h) fun v2 => lp_X6_leastTree_21 s0 h  4000 (v2 &&& ((v2 &&& (-v2)) ^^^ ((-1) : Int32))) (v2 &&& (-v2)) 0 0
theorem rj_X6_leastTree_70 {X : am_X} {d : Nat} (hd : 4 ≤ d) (k_42 : Int32 → Int32 → Int32 → Option (Int32)) (s0 : Nat) (x1 : Int32) (x2 : Int32) (x3 : Int32) (x4 : Int32) (x5 : Int32) (x6 : Int32) (x7 : Int32) (y0 : Int32) (hs0 : s0 ∈ am_ST) {h : am_H} (T : am_TP h.2.2) {r : Int32} (hk_42 : ∀ (x5 : Int32) (x6 : Int32) (x7 : Int32) , k_42 x5 x6 x7 = some r → am_G X d 6 false cX6_leastTree (some .int) 42 [some (.ref s0), some (.int x1), some (.int x2), some (.int x3), some (.int x4), some (.int x5), some (.int x6), some (.int x7), none] [] (am_SH, h) (some (.int r), (am_SH, h))) (hf : jn_X6_leastTree_70 k_42 s0 x1 x2 x3 x4 x5 x6 x7 y0 h = some r) : am_G X d 6 false cX6_leastTree (some .int) 70 [some (.ref s0), some (.int x1), some (.int x2), some (.int x3), some (.int x4), some (.int x5), some (.int x6), some (.int x7), none] [.int y0] (am_SH, h) (some (.int r), (am_SH, h)) := by
  obtain ⟨d, rfl⟩ : ∃ e, d = e + 1 := ⟨d - 1, by omega⟩
  unfold jn_X6_leastTree_70 at hf
  refine r_loc (L' := [some (.ref s0), some (.int x1), some (.int x2), some (.int x3), some (.int x4), some (.int x5), some (.int x6), some (.int x7), some (.int y0)]) dX6_leastTree_70 rfl ?_
  refine r_loc dX6_leastTree_72 rfl ?_
  refine r_loc dX6_leastTree_74 rfl ?_
  refine r_ge (q := 87) dX6_leastTree_76 rfl hf (fun hf => ?_) (fun hf => ?_)
  · refine r_loc (L' := [some (.ref s0), some (.int x1), some (.int x2), some (.int x3), some (.int x4), some (.int x5), some (.int x6), some (.int (x7 + 1)), some (.int y0)]) dX6_leastTree_87 rfl ?_
    refine r_goto (q := 42) dX6_leastTree_90 rfl ?_
    refine r_weak (L := [some (.ref s0), some (.int x1), some (.int x2), some (.int x3), some (.int x4), some (.int x5), some (.int x6), some (.int (x7 + 1)), none]) (am_le_s (am_le_s (am_le_s (am_le_s (am_le_s (am_le_s (am_le_s (am_le_s (am_le_n am_le_0))))))))) ?_
    exact hk_42 x5 x6 (x7 + 1) hf
  · refine r_loc dX6_leastTree_79 rfl ?_
    refine r_loc (L' := [some (.ref s0), some (.int x1), some (.int x2), some (.int x3), some (.int x4), some (.int x7), some (.int x6), some (.int x7), some (.int y0)]) dX6_leastTree_81 rfl ?_
    refine r_loc dX6_leastTree_83 rfl ?_
    refine r_loc (L' := [some (.ref s0), some (.int x1), some (.int x2), some (.int x3), some (.int x4), some (.int x7), some (.int y0), some (.int x7), some (.int y0)]) dX6_leastTree_85 rfl ?_
    refine r_loc (L' := [some (.ref s0), some (.int x1), some (.int x2), some (.int x3), some (.int x4), some (.int x7), some (.int y0), some (.int (x7 + 1)), some (.int y0)]) dX6_leastTree_87 rfl ?_
    refine r_goto (q := 42) dX6_leastTree_90 rfl ?_
    refine r_weak (L := [some (.ref s0), some (.int x1), some (.int x2), some (.int x3), some (.int x4), some (.int x7), some (.int y0), some (.int (x7 + 1)), none]) (am_le_s (am_le_s (am_le_s (am_le_s (am_le_s (am_le_s (am_le_s (am_le_s (am_le_n am_le_0))))))))) ?_
    exact hk_42 x7 y0 (x7 + 1) hf
theorem rl_X6_leastTree_42 {X : am_X} {d : Nat} (hd : 4 ≤ d) (s0 : Nat) (p1 : Int32) (p2 : Int32) (p3 : Int32) (p4 : Int32) (hs0 : s0 ∈ am_ST) {h : am_H} (T : am_TP h.2.2) (k_93 : Int32 → Int32 → Option (Int32)) {r : Int32} (hk_93 : ∀ (z5 : Int32) (z6 : Int32) , k_93 z5 z6 = some r → am_G X d 6 false cX6_leastTree (some .int) 93 [some (.ref s0), some (.int p1), some (.int p2), some (.int p3), some (.int p4), some (.int z5), some (.int z6), none, none] [] (am_SH, h) (some (.int r), (am_SH, h))) : ∀ (n : Nat) (x5 : Int32) (x6 : Int32) (x7 : Int32) , lp_X6_leastTree_42 s0 p1 p2 p3 p4 h k_93 n x5 x6 x7 = some r → am_G X d 6 false cX6_leastTree (some .int) 42 [some (.ref s0), some (.int p1), some (.int p2), some (.int p3), some (.int p4), some (.int x5), some (.int x6), some (.int x7), none] [] (am_SH, h) (some (.int r), (am_SH, h)) := by
  obtain ⟨d, rfl⟩ : ∃ e, d = e + 1 := ⟨d - 1, by omega⟩
  intro n
  induction n with
  | zero => intro x5 x6 x7 hf; cases hf
  | succ n ih =>
    intro x5 x6 x7 hf
    rw [lp_X6_leastTree_42] at hf
    refine r_loc dX6_leastTree_42 rfl ?_
    refine r_bipush (v := 8) dX6_leastTree_44 rfl ?_
    refine r_ge (q := 93) dX6_leastTree_46 rfl hf (fun hf => ?_) (fun hf => ?_)
    · refine r_weak (L := [some (.ref s0), some (.int p1), some (.int p2), some (.int p3), some (.int p4), some (.int x5), some (.int x6), none, none]) (am_le_s (am_le_s (am_le_s (am_le_s (am_le_s (am_le_s (am_le_s (am_le_n (am_le_n am_le_0))))))))) ?_
      exact hk_93 x5 x6 hf
    · refine r_loc dX6_leastTree_49 rfl ?_
      refine r_loc dX6_leastTree_50 rfl ?_
      refine r_alu dX6_leastTree_52 rfl ?_
      refine r_iconst (v := 1) dX6_leastTree_53 rfl ?_
      refine r_alu dX6_leastTree_54 rfl ?_
      refine r_eq0 (q := 68) dX6_leastTree_55 rfl hf (fun hf => ?_) (fun hf => ?_)
      · refine r_bipush (v := 7) dX6_leastTree_68 rfl ?_
        exact rj_X6_leastTree_70 (by omega) (lp_X6_leastTree_42 s0 p1 p2 p3 p4 h k_93 n) s0 p1 p2 p3 p4 x5 x6 x7 7 hs0 T (ih) hf
      · refine r_loc dX6_leastTree_58 rfl ?_
        refine r_loc dX6_leastTree_59 rfl ?_
        refine r_loc dX6_leastTree_61 rfl ?_
        obtain ⟨v5, c4, hf⟩ := cal_inv hf
        have g6 := rf_X6_distanceTo (X := X) (d := d) (by omega) s0 x7 p2 hs0 T c4
        refine r_stat (pre := [.int p2, .int x7, .ref s0]) (rest := []) dX6_leastTree_62 ct_6_39 rfl (Nat.le_of_ble_eq_true rfl) (Nat.le_of_ble_eq_true rfl) g6 ?_
        refine r_goto (q := 70) dX6_leastTree_65 rfl ?_
        exact rj_X6_leastTree_70 (by omega) (lp_X6_leastTree_42 s0 p1 p2 p3 p4 h k_93 n) s0 p1 p2 p3 p4 x5 x6 x7 v5 hs0 T (ih) hf
theorem rl_X6_leastTree_21 {X : am_X} {d : Nat} (hd : 4 ≤ d) (s0 : Nat) (hs0 : s0 ∈ am_ST) {h : am_H} (T : am_TP h.2.2) {r : Int32} : ∀ (n : Nat) (x1 : Int32) (x2 : Int32) (x3 : Int32) (x4 : Int32) , lp_X6_leastTree_21 s0 h n x1 x2 x3 x4 = some r → am_G X d 6 false cX6_leastTree (some .int) 21 [some (.ref s0), some (.int x1), some (.int x2), some (.int x3), some (.int x4), none, none, none, none] [] (am_SH, h) (some (.int r), (am_SH, h)) := by
  obtain ⟨d, rfl⟩ : ∃ e, d = e + 1 := ⟨d - 1, by omega⟩
  intro n
  induction n with
  | zero => intro x1 x2 x3 x4 hf; cases hf
  | succ n ih =>
    intro x1 x2 x3 x4 hf
    rw [lp_X6_leastTree_21] at hf
    refine r_loc dX6_leastTree_21 rfl ?_
    refine r_bipush (v := 8) dX6_leastTree_23 rfl ?_
    refine r_ge (q := 123) dX6_leastTree_25 rfl hf (fun hf => ?_) (fun hf => ?_)
    · refine r_loc dX6_leastTree_123 rfl ?_
      cases hf
      exact r_ri T dX6_leastTree_124
    · refine r_loc dX6_leastTree_28 rfl ?_
      refine r_eq0 (q := 123) dX6_leastTree_29 rfl hf (fun hf => ?_) (fun hf => ?_)
      · refine r_loc dX6_leastTree_123 rfl ?_
        cases hf
        exact r_ri T dX6_leastTree_124
      · refine r_iconst (v := (-1)) dX6_leastTree_32 rfl ?_
        refine r_loc (L' := [some (.ref s0), some (.int x1), some (.int x2), some (.int x3), some (.int x4), some (.int (-1)), none, none, none]) dX6_leastTree_33 rfl ?_
        refine r_bipush (v := 7) dX6_leastTree_35 rfl ?_
        refine r_loc (L' := [some (.ref s0), some (.int x1), some (.int x2), some (.int x3), some (.int x4), some (.int (-1)), some (.int 7), none, none]) dX6_leastTree_37 rfl ?_
        refine r_iconst (v := 0) dX6_leastTree_39 rfl ?_
        refine r_loc (L' := [some (.ref s0), some (.int x1), some (.int x2), some (.int x3), some (.int x4), some (.int (-1)), some (.int 7), some (.int 0), none]) dX6_leastTree_40 rfl ?_
        refine rl_X6_leastTree_42 (by omega) s0 x1 x2 x3 x4 hs0 T _ ?_ 4000 (-1) 7 0  hf
        · intro z7 z8 hf
          refine r_loc dX6_leastTree_93 rfl ?_
          refine r_iconst (v := (-1)) dX6_leastTree_95 rfl ?_
          refine r_eq (q := 117) dX6_leastTree_96 rfl hf (fun hf => ?_) (fun hf => ?_)
          · refine r_loc (L' := [some (.ref s0), some (.int x1), some (.int x2), some (.int x3), some (.int (x4 + 1)), some (.int z7), some (.int z8), none, none]) dX6_leastTree_117 rfl ?_
            refine r_goto (q := 21) dX6_leastTree_120 rfl ?_
            refine r_weak (L := [some (.ref s0), some (.int x1), some (.int x2), some (.int x3), some (.int (x4 + 1)), none, none, none, none]) (am_le_s (am_le_s (am_le_s (am_le_s (am_le_s (am_le_n (am_le_n (am_le_n (am_le_n am_le_0))))))))) ?_
            exact ih x1 x2 x3 (x4 + 1) hf
          · refine r_loc dX6_leastTree_99 rfl ?_
            refine r_iconst (v := 1) dX6_leastTree_100 rfl ?_
            refine r_loc dX6_leastTree_101 rfl ?_
            refine r_alu dX6_leastTree_103 rfl ?_
            refine r_alu dX6_leastTree_104 rfl ?_
            refine r_loc (L' := [some (.ref s0), some (.int x1), some (.int (x2 ||| ((1 : Int32) <<< (z7 &&& 31)))), some (.int x3), some (.int x4), some (.int z7), some (.int z8), none, none]) dX6_leastTree_105 rfl ?_
            refine r_loc dX6_leastTree_106 rfl ?_
            refine r_loc dX6_leastTree_107 rfl ?_
            refine r_iconst (v := (-1)) dX6_leastTree_108 rfl ?_
            refine r_alu dX6_leastTree_109 rfl ?_
            refine r_alu dX6_leastTree_110 rfl ?_
            refine r_loc (L' := [some (.ref s0), some (.int (x1 &&& ((x2 ||| ((1 : Int32) <<< (z7 &&& 31))) ^^^ ((-1) : Int32)))), some (.int (x2 ||| ((1 : Int32) <<< (z7 &&& 31)))), some (.int x3), some (.int x4), some (.int z7), some (.int z8), none, none]) dX6_leastTree_111 rfl ?_
            refine r_loc dX6_leastTree_112 rfl ?_
            refine r_loc dX6_leastTree_113 rfl ?_
            refine r_alu dX6_leastTree_115 rfl ?_
            refine r_loc (L' := [some (.ref s0), some (.int (x1 &&& ((x2 ||| ((1 : Int32) <<< (z7 &&& 31))) ^^^ ((-1) : Int32)))), some (.int (x2 ||| ((1 : Int32) <<< (z7 &&& 31)))), some (.int (x3 + z8)), some (.int x4), some (.int z7), some (.int z8), none, none]) dX6_leastTree_116 rfl ?_
            refine r_loc (L' := [some (.ref s0), some (.int (x1 &&& ((x2 ||| ((1 : Int32) <<< (z7 &&& 31))) ^^^ ((-1) : Int32)))), some (.int (x2 ||| ((1 : Int32) <<< (z7 &&& 31)))), some (.int (x3 + z8)), some (.int (x4 + 1)), some (.int z7), some (.int z8), none, none]) dX6_leastTree_117 rfl ?_
            refine r_goto (q := 21) dX6_leastTree_120 rfl ?_
            refine r_weak (L := [some (.ref s0), some (.int (x1 &&& ((x2 ||| ((1 : Int32) <<< (z7 &&& 31))) ^^^ ((-1) : Int32)))), some (.int (x2 ||| ((1 : Int32) <<< (z7 &&& 31)))), some (.int (x3 + z8)), some (.int (x4 + 1)), none, none, none, none]) (am_le_s (am_le_s (am_le_s (am_le_s (am_le_s (am_le_n (am_le_n (am_le_n (am_le_n am_le_0))))))))) ?_
            exact ih (x1 &&& ((x2 ||| ((1 : Int32) <<< (z7 &&& 31))) ^^^ ((-1) : Int32))) (x2 ||| ((1 : Int32) <<< (z7 &&& 31))) (x3 + z8) (x4 + 1) hf
theorem rf_X6_leastTree {X : am_X} {d : Nat} (hd : 4 ≤ d) (s0 : Nat) (hs0 : s0 ∈ am_ST) {h : am_H} (T : am_TP h.2.2) {r : Int32} (hf : f_X6_leastTree s0 h = some r) : am_G X d 6 false cX6_leastTree (some .int) 0 [some (.ref s0), none, none, none, none, none, none, none, none] [] (am_SH, h) (some (.int r), (am_SH, h)) := by
  unfold f_X6_leastTree at hf
  obtain ⟨d, rfl⟩ : ∃ e, d = e + 1 := ⟨d - 1, by omega⟩
  refine r_loc dX6_leastTree_0 rfl ?_
  obtain ⟨v2, c1, hf⟩ := cal_inv hf
  have g3 := rf_X7_bits (X := X) (d := d) (by omega) s0 hs0 T c1
  refine r_virt (pre := []) (rest := []) dX6_leastTree_1 ct_6_35 rfl ((sh_S hs0)) (Nat.le_of_ble_eq_true rfl) (Nat.le_of_ble_eq_true rfl) g3 ?_
  refine r_loc (L' := [some (.ref s0), some (.int v2), none, none, none, none, none, none, none]) dX6_leastTree_4 rfl ?_
  refine r_loc dX6_leastTree_5 rfl ?_
  refine r_loc dX6_leastTree_6 rfl ?_
  refine r_alu dX6_leastTree_7 rfl ?_
  refine r_alu dX6_leastTree_8 rfl ?_
  refine r_loc (L' := [some (.ref s0), some (.int v2), some (.int (v2 &&& (-v2))), none, none, none, none, none, none]) dX6_leastTree_9 rfl ?_
  refine r_loc dX6_leastTree_10 rfl ?_
  refine r_loc dX6_leastTree_11 rfl ?_
  refine r_iconst (v := (-1)) dX6_leastTree_12 rfl ?_
  refine r_alu dX6_leastTree_13 rfl ?_
  refine r_alu dX6_leastTree_14 rfl ?_
  refine r_loc (L' := [some (.ref s0), some (.int (v2 &&& ((v2 &&& (-v2)) ^^^ ((-1) : Int32)))), some (.int (v2 &&& (-v2))), none, none, none, none, none, none]) dX6_leastTree_15 rfl ?_
  refine r_iconst (v := 0) dX6_leastTree_16 rfl ?_
  refine r_loc (L' := [some (.ref s0), some (.int (v2 &&& ((v2 &&& (-v2)) ^^^ ((-1) : Int32)))), some (.int (v2 &&& (-v2))), some (.int 0), none, none, none, none, none]) dX6_leastTree_17 rfl ?_
  refine r_iconst (v := 0) dX6_leastTree_18 rfl ?_
  refine r_loc (L' := [some (.ref s0), some (.int (v2 &&& ((v2 &&& (-v2)) ^^^ ((-1) : Int32)))), some (.int (v2 &&& (-v2))), some (.int 0), some (.int 0), none, none, none, none]) dX6_leastTree_19 rfl ?_
  refine rl_X6_leastTree_21 (by omega) s0 hs0 T  4000 (v2 &&& ((v2 &&& (-v2)) ^^^ ((-1) : Int32))) (v2 &&& (-v2)) 0 0  hf
def f_X11_span  (h : am_H) : Option (Int32) := cal (f_X6_leastTree 27 h) fun v2 => some v2
theorem rf_X11_span {X : am_X} {d : Nat} (hd : 5 ≤ d)  {h : am_H} (T : am_TP h.2.2) {r : Int32} (hf : f_X11_span  h = some r) : am_G X d 11 false cX11_span (some .int) 0 [some (.ref 0)] [] (am_SH, h) (some (.int r), (am_SH, h)) := by
  unfold f_X11_span at hf
  obtain ⟨d, rfl⟩ : ∃ e, d = e + 1 := ⟨d - 1, by omega⟩
  refine r_loc dX11_span_0 rfl ?_
  refine r_getR dX11_span_1 fl_11_37 sh_0 (Or.inl ⟨_, rfl⟩) (tp_0_3 T) ?_
  obtain ⟨v2, c1, hf⟩ := cal_inv hf
  have g3 := rf_X6_leastTree (X := X) (d := d) (by omega) 27 st_27 T c1
  refine r_stat (pre := [.ref 27]) (rest := []) dX11_span_4 ct_11_275 rfl (Nat.le_of_ble_eq_true rfl) (Nat.le_of_ble_eq_true rfl) g3 ?_
  cases hf
  exact r_ri T dX11_span_7
def f_X7_bitOf (x0 : Int32) (h : am_H) : Option (Int32) := if x0 < 0 then some 0 else if x0 < 8 then some ((1 : Int32) <<< (x0 &&& 31)) else some 0
theorem rf_X7_bitOf {X : am_X} {d : Nat} (hd : 0 ≤ d) (x0 : Int32) {h : am_H} (T : am_TP h.2.2) {r : Int32} (hf : f_X7_bitOf x0 h = some r) : am_G X d 7 false cX7_bitOf (some .int) 0 [some (.int x0)] [] (am_SH, h) (some (.int r), (am_SH, h)) := by
  unfold f_X7_bitOf at hf
  refine r_loc dX7_bitOf_0 rfl ?_
  refine r_lt0 (q := 16) dX7_bitOf_1 rfl hf (fun hf => ?_) (fun hf => ?_)
  · refine r_iconst (v := 0) dX7_bitOf_16 rfl ?_
    cases hf
    exact r_ri T dX7_bitOf_17
  · refine r_loc dX7_bitOf_4 rfl ?_
    refine r_bipush (v := 8) dX7_bitOf_5 rfl ?_
    refine r_ge (q := 16) dX7_bitOf_7 rfl hf (fun hf => ?_) (fun hf => ?_)
    · refine r_iconst (v := 0) dX7_bitOf_16 rfl ?_
      cases hf
      exact r_ri T dX7_bitOf_17
    · refine r_iconst (v := 1) dX7_bitOf_10 rfl ?_
      refine r_loc dX7_bitOf_11 rfl ?_
      refine r_alu dX7_bitOf_12 rfl ?_
      refine r_goto (q := 17) dX7_bitOf_13 rfl ?_
      cases hf
      exact r_ri T dX7_bitOf_17
def lp_X7_parentsOf_4 (s0 : Nat) (p1 : Int32) (h : am_H) : Nat → Int32 → Int32 → Option (Int32)
  | 0, _, _ => none
  | n + 1, x2, x3 => if x3 < 8 then if ((p1 >>> (x3 &&& 31)) &&& 1) = 0 then lp_X7_parentsOf_4 s0 p1 h n x2 (x3 + 1) else rdI h (s0 + 6) 8 x3 fun v1 => cal (f_X7_bitOf v1 h) fun v3 => rdI h (s0 + 7) 8 x3 fun v5 => cal (f_X7_bitOf v5 h) fun v7 => lp_X7_parentsOf_4 s0 p1 h n (x2 ||| (v3 ||| v7)) (x3 + 1) else some x2
def f_X7_parentsOf (s0 : Nat) (x1 : Int32) (h : am_H) : Option (Int32) := lp_X7_parentsOf_4 s0 x1 h  4000 0 0
theorem rl_X7_parentsOf_4 {X : am_X} {d : Nat} (hd : 1 ≤ d) (s0 : Nat) (p1 : Int32) (hs0 : s0 ∈ am_ST) {h : am_H} (T : am_TP h.2.2) {r : Int32} : ∀ (n : Nat) (x2 : Int32) (x3 : Int32) , lp_X7_parentsOf_4 s0 p1 h n x2 x3 = some r → am_G X d 7 false cX7_parentsOf (some .int) 4 [some (.ref s0), some (.int p1), some (.int x2), some (.int x3)] [] (am_SH, h) (some (.int r), (am_SH, h)) := by
  obtain ⟨d, rfl⟩ : ∃ e, d = e + 1 := ⟨d - 1, by omega⟩
  intro n
  induction n with
  | zero => intro x2 x3 hf; cases hf
  | succ n ih =>
    intro x2 x3 hf
    rw [lp_X7_parentsOf_4] at hf
    refine r_loc dX7_parentsOf_4 rfl ?_
    refine r_bipush (v := 8) dX7_parentsOf_5 rfl ?_
    refine r_ge (q := 46) dX7_parentsOf_7 rfl hf (fun hf => ?_) (fun hf => ?_)
    · refine r_loc dX7_parentsOf_46 rfl ?_
      cases hf
      exact r_ri T dX7_parentsOf_47
    · refine r_loc dX7_parentsOf_10 rfl ?_
      refine r_loc dX7_parentsOf_11 rfl ?_
      refine r_alu dX7_parentsOf_12 rfl ?_
      refine r_iconst (v := 1) dX7_parentsOf_13 rfl ?_
      refine r_alu dX7_parentsOf_14 rfl ?_
      refine r_eq0 (q := 40) dX7_parentsOf_15 rfl hf (fun hf => ?_) (fun hf => ?_)
      · refine r_loc (L' := [some (.ref s0), some (.int p1), some (.int x2), some (.int (x3 + 1))]) dX7_parentsOf_40 rfl ?_
        refine r_goto (q := 4) dX7_parentsOf_43 rfl ?_
        exact ih x2 (x3 + 1) hf
      · refine r_loc dX7_parentsOf_18 rfl ?_
        refine r_loc dX7_parentsOf_19 rfl ?_
        refine r_getR dX7_parentsOf_20 fl_7_27 (sh_S hs0) (Or.inr ⟨_, rfl⟩) (tp_S_6 T hs0) ?_
        refine r_loc dX7_parentsOf_23 rfl ?_
        refine r_iald dX7_parentsOf_24 (sh_S_6 hs0) hf (fun v1 hf => ?_)
        obtain ⟨v3, c2, hf⟩ := cal_inv hf
        have g4 := rf_X7_bitOf (X := X) (d := d) (by omega) v1 T c2
        refine r_stat (pre := [.int v1]) (rest := [.int x2]) dX7_parentsOf_25 ct_7_108 rfl (Nat.le_of_ble_eq_true rfl) (Nat.le_of_ble_eq_true rfl) g4 ?_
        refine r_loc dX7_parentsOf_28 rfl ?_
        refine r_getR dX7_parentsOf_29 fl_7_30 (sh_S hs0) (Or.inr ⟨_, rfl⟩) (tp_S_7 T hs0) ?_
        refine r_loc dX7_parentsOf_32 rfl ?_
        refine r_iald dX7_parentsOf_33 (sh_S_7 hs0) hf (fun v5 hf => ?_)
        obtain ⟨v7, c6, hf⟩ := cal_inv hf
        have g8 := rf_X7_bitOf (X := X) (d := d) (by omega) v5 T c6
        refine r_stat (pre := [.int v5]) (rest := [.int v3, .int x2]) dX7_parentsOf_34 ct_7_108 rfl (Nat.le_of_ble_eq_true rfl) (Nat.le_of_ble_eq_true rfl) g8 ?_
        refine r_alu dX7_parentsOf_37 rfl ?_
        refine r_alu dX7_parentsOf_38 rfl ?_
        refine r_loc (L' := [some (.ref s0), some (.int p1), some (.int (x2 ||| (v3 ||| v7))), some (.int x3)]) dX7_parentsOf_39 rfl ?_
        refine r_loc (L' := [some (.ref s0), some (.int p1), some (.int (x2 ||| (v3 ||| v7))), some (.int (x3 + 1))]) dX7_parentsOf_40 rfl ?_
        refine r_goto (q := 4) dX7_parentsOf_43 rfl ?_
        exact ih (x2 ||| (v3 ||| v7)) (x3 + 1) hf
theorem rf_X7_parentsOf {X : am_X} {d : Nat} (hd : 1 ≤ d) (s0 : Nat) (x1 : Int32) (hs0 : s0 ∈ am_ST) {h : am_H} (T : am_TP h.2.2) {r : Int32} (hf : f_X7_parentsOf s0 x1 h = some r) : am_G X d 7 false cX7_parentsOf (some .int) 0 [some (.ref s0), some (.int x1), none, none] [] (am_SH, h) (some (.int r), (am_SH, h)) := by
  unfold f_X7_parentsOf at hf
  obtain ⟨d, rfl⟩ : ∃ e, d = e + 1 := ⟨d - 1, by omega⟩
  refine r_iconst (v := 0) dX7_parentsOf_0 rfl ?_
  refine r_loc (L' := [some (.ref s0), some (.int x1), some (.int 0), none]) dX7_parentsOf_1 rfl ?_
  refine r_iconst (v := 0) dX7_parentsOf_2 rfl ?_
  refine r_loc (L' := [some (.ref s0), some (.int x1), some (.int 0), some (.int 0)]) dX7_parentsOf_3 rfl ?_
  refine rl_X7_parentsOf_4 (by omega) s0 x1 hs0 T  4000 0 0  hf
def lp_X6_forebears_9 (s0 : Nat) (h : am_H) : Nat → Int32 → Int32 → Int32 → Option (Int32)
  | 0, _, _, _ => none
  | n + 1, x2, x3, x4 => if x4 < 8 then cal (f_X7_parentsOf s0 x2 h) fun v2 => lp_X6_forebears_9 s0 h n v2 (x3 ||| v2) (x4 + 1) else some x3
def f_X6_forebears (s0 : Nat) (x1 : Int32) (h : am_H) : Option (Int32) := lp_X6_forebears_9 s0 h  4000 ((1 : Int32) <<< (x1 &&& 31)) 0 0
theorem rl_X6_forebears_9 {X : am_X} {d : Nat} (hd : 2 ≤ d) (s0 : Nat) (hs0 : s0 ∈ am_ST) {h : am_H} (T : am_TP h.2.2) {r : Int32} : ∀ (n : Nat) (x2 : Int32) (x3 : Int32) (x4 : Int32) , lp_X6_forebears_9 s0 h n x2 x3 x4 = some r → am_G X d 6 false cX6_forebears (some .int) 9 [some (.ref s0), none, some (.int x2), some (.int x3), some (.int x4)] [] (am_SH, h) (some (.int r), (am_SH, h)) := by
  obtain ⟨d, rfl⟩ : ∃ e, d = e + 1 := ⟨d - 1, by omega⟩
  intro n
  induction n with
  | zero => intro x2 x3 x4 hf; cases hf
  | succ n ih =>
    intro x2 x3 x4 hf
    rw [lp_X6_forebears_9] at hf
    refine r_loc dX6_forebears_9 rfl ?_
    refine r_bipush (v := 8) dX6_forebears_11 rfl ?_
    refine r_ge (q := 32) dX6_forebears_13 rfl hf (fun hf => ?_) (fun hf => ?_)
    · refine r_loc dX6_forebears_32 rfl ?_
      cases hf
      exact r_ri T dX6_forebears_33
    · refine r_loc dX6_forebears_16 rfl ?_
      refine r_loc dX6_forebears_17 rfl ?_
      obtain ⟨v2, c1, hf⟩ := cal_inv hf
      have g3 := rf_X7_parentsOf (X := X) (d := d) (by omega) s0 x2 hs0 T c1
      refine r_virt (pre := [.int x2]) (rest := []) dX6_forebears_18 ct_6_52 rfl ((sh_S hs0)) (Nat.le_of_ble_eq_true rfl) (Nat.le_of_ble_eq_true rfl) g3 ?_
      refine r_loc (L' := [some (.ref s0), none, some (.int v2), some (.int x3), some (.int x4)]) dX6_forebears_21 rfl ?_
      refine r_loc dX6_forebears_22 rfl ?_
      refine r_loc dX6_forebears_23 rfl ?_
      refine r_alu dX6_forebears_24 rfl ?_
      refine r_loc (L' := [some (.ref s0), none, some (.int v2), some (.int (x3 ||| v2)), some (.int x4)]) dX6_forebears_25 rfl ?_
      refine r_loc (L' := [some (.ref s0), none, some (.int v2), some (.int (x3 ||| v2)), some (.int (x4 + 1))]) dX6_forebears_26 rfl ?_
      refine r_goto (q := 9) dX6_forebears_29 rfl ?_
      exact ih v2 (x3 ||| v2) (x4 + 1) hf
theorem rf_X6_forebears {X : am_X} {d : Nat} (hd : 2 ≤ d) (s0 : Nat) (x1 : Int32) (hs0 : s0 ∈ am_ST) {h : am_H} (T : am_TP h.2.2) {r : Int32} (hf : f_X6_forebears s0 x1 h = some r) : am_G X d 6 false cX6_forebears (some .int) 0 [some (.ref s0), some (.int x1), none, none, none] [] (am_SH, h) (some (.int r), (am_SH, h)) := by
  unfold f_X6_forebears at hf
  obtain ⟨d, rfl⟩ : ∃ e, d = e + 1 := ⟨d - 1, by omega⟩
  refine r_iconst (v := 1) dX6_forebears_0 rfl ?_
  refine r_loc dX6_forebears_1 rfl ?_
  refine r_alu dX6_forebears_2 rfl ?_
  refine r_loc (L' := [some (.ref s0), some (.int x1), some (.int ((1 : Int32) <<< (x1 &&& 31))), none, none]) dX6_forebears_3 rfl ?_
  refine r_iconst (v := 0) dX6_forebears_4 rfl ?_
  refine r_loc (L' := [some (.ref s0), some (.int x1), some (.int ((1 : Int32) <<< (x1 &&& 31))), some (.int 0), none]) dX6_forebears_5 rfl ?_
  refine r_iconst (v := 0) dX6_forebears_6 rfl ?_
  refine r_loc (L' := [some (.ref s0), some (.int x1), some (.int ((1 : Int32) <<< (x1 &&& 31))), some (.int 0), some (.int 0)]) dX6_forebears_7 rfl ?_
  refine r_weak (L := [some (.ref s0), none, some (.int ((1 : Int32) <<< (x1 &&& 31))), some (.int 0), some (.int 0)]) (am_le_s (am_le_n (am_le_s (am_le_s (am_le_s am_le_0))))) ?_
  refine rl_X6_forebears_9 (by omega) s0 hs0 T  4000 ((1 : Int32) <<< (x1 &&& 31)) 0 0  hf
def f_X11_line (x1 : Int32) (h : am_H) : Option (Int32) := cal (f_X7_has 27 x1 h) fun v2 => if v2 = 0 then some (-1) else cal (f_X6_forebears 27 x1 h) fun v5 => some v5
theorem rf_X11_line {X : am_X} {d : Nat} (hd : 3 ≤ d) (x1 : Int32) {h : am_H} (T : am_TP h.2.2) {r : Int32} (hf : f_X11_line x1 h = some r) : am_G X d 11 false cX11_line (some .int) 0 [some (.ref 0), some (.int x1)] [] (am_SH, h) (some (.int r), (am_SH, h)) := by
  unfold f_X11_line at hf
  obtain ⟨d, rfl⟩ : ∃ e, d = e + 1 := ⟨d - 1, by omega⟩
  refine r_loc dX11_line_0 rfl ?_
  refine r_getR dX11_line_1 fl_11_37 sh_0 (Or.inl ⟨_, rfl⟩) (tp_0_3 T) ?_
  refine r_loc dX11_line_4 rfl ?_
  obtain ⟨v2, c1, hf⟩ := cal_inv hf
  have g3 := rf_X7_has (X := X) (d := d) (by omega) 27 x1 st_27 T c1
  refine r_virt (pre := [.int x1]) (rest := []) dX11_line_5 ct_11_137 rfl ((sh_S st_27)) (Nat.le_of_ble_eq_true rfl) (Nat.le_of_ble_eq_true rfl) g3 ?_
  refine r_eq0 (q := 22) dX11_line_8 rfl hf (fun hf => ?_) (fun hf => ?_)
  · refine r_iconst (v := (-1)) dX11_line_22 rfl ?_
    cases hf
    exact r_ri T dX11_line_23
  · refine r_loc dX11_line_11 rfl ?_
    refine r_getR dX11_line_12 fl_11_37 sh_0 (Or.inl ⟨_, rfl⟩) (tp_0_3 T) ?_
    refine r_loc dX11_line_15 rfl ?_
    obtain ⟨v5, c4, hf⟩ := cal_inv hf
    have g6 := rf_X6_forebears (X := X) (d := d) (by omega) 27 x1 st_27 T c4
    refine r_stat (pre := [.int x1, .ref 27]) (rest := []) dX11_line_16 ct_11_278 rfl (Nat.le_of_ble_eq_true rfl) (Nat.le_of_ble_eq_true rfl) g6 ?_
    refine r_goto (q := 23) dX11_line_19 rfl ?_
    cases hf
    exact r_ri T dX11_line_23
def jn_X11_litter_49 (k_17 : Int32 → Int32 → Option (Int32)) (x1 : Int32) (x2 : Int32) (x3 : Int32) (h : am_H) : Option (Int32) := k_17 (x2 ||| ((1 : Int32) <<< (x3 &&& 31))) (x3 + 1)
def lp_X11_litter_17 (p1 : Int32) (h : am_H) : Nat → Int32 → Int32 → Option (Int32)
  | 0, _, _ => none
  | n + 1, x2, x3 => if x3 < 8 then rdI h (27 + 6) 8 x3 fun v4 => if v4 = p1 then jn_X11_litter_49 (lp_X11_litter_17 p1 h n) p1 x2 x3 h else rdI h (27 + 7) 8 x3 fun v5 => if v5 = p1 then jn_X11_litter_49 (lp_X11_litter_17 p1 h n) p1 x2 x3 h else lp_X11_litter_17 p1 h n x2 (x3 + 1) else some x2
def f_X11_litter (x1 : Int32) (h : am_H) : Option (Int32) := cal (f_X7_has 27 x1 h) fun v2 => if v2 = 0 then some (-1) else lp_X11_litter_17 x1 h  4000 0 0
theorem rj_X11_litter_49 {X : am_X} {d : Nat} (hd : 1 ≤ d) (k_17 : Int32 → Int32 → Option (Int32)) (x1 : Int32) (x2 : Int32) (x3 : Int32) {h : am_H} (T : am_TP h.2.2) {r : Int32} (hk_17 : ∀ (x2 : Int32) (x3 : Int32) , k_17 x2 x3 = some r → am_G X d 11 false cX11_litter (some .int) 17 [some (.ref 0), some (.int x1), some (.int x2), some (.int x3)] [] (am_SH, h) (some (.int r), (am_SH, h))) (hf : jn_X11_litter_49 k_17 x1 x2 x3 h = some r) : am_G X d 11 false cX11_litter (some .int) 49 [some (.ref 0), some (.int x1), some (.int x2), some (.int x3)] [] (am_SH, h) (some (.int r), (am_SH, h)) := by
  obtain ⟨d, rfl⟩ : ∃ e, d = e + 1 := ⟨d - 1, by omega⟩
  unfold jn_X11_litter_49 at hf
  refine r_loc dX11_litter_49 rfl ?_
  refine r_iconst (v := 1) dX11_litter_50 rfl ?_
  refine r_loc dX11_litter_51 rfl ?_
  refine r_alu dX11_litter_52 rfl ?_
  refine r_alu dX11_litter_53 rfl ?_
  refine r_loc (L' := [some (.ref 0), some (.int x1), some (.int (x2 ||| ((1 : Int32) <<< (x3 &&& 31)))), some (.int x3)]) dX11_litter_54 rfl ?_
  refine r_loc (L' := [some (.ref 0), some (.int x1), some (.int (x2 ||| ((1 : Int32) <<< (x3 &&& 31)))), some (.int (x3 + 1))]) dX11_litter_55 rfl ?_
  refine r_goto (q := 17) dX11_litter_58 rfl ?_
  exact hk_17 (x2 ||| ((1 : Int32) <<< (x3 &&& 31))) (x3 + 1) hf
theorem rl_X11_litter_17 {X : am_X} {d : Nat} (hd : 1 ≤ d) (p1 : Int32) {h : am_H} (T : am_TP h.2.2) {r : Int32} : ∀ (n : Nat) (x2 : Int32) (x3 : Int32) , lp_X11_litter_17 p1 h n x2 x3 = some r → am_G X d 11 false cX11_litter (some .int) 17 [some (.ref 0), some (.int p1), some (.int x2), some (.int x3)] [] (am_SH, h) (some (.int r), (am_SH, h)) := by
  obtain ⟨d, rfl⟩ : ∃ e, d = e + 1 := ⟨d - 1, by omega⟩
  intro n
  induction n with
  | zero => intro x2 x3 hf; cases hf
  | succ n ih =>
    intro x2 x3 hf
    rw [lp_X11_litter_17] at hf
    refine r_loc dX11_litter_17 rfl ?_
    refine r_bipush (v := 8) dX11_litter_18 rfl ?_
    refine r_ge (q := 61) dX11_litter_20 rfl hf (fun hf => ?_) (fun hf => ?_)
    · refine r_loc dX11_litter_61 rfl ?_
      cases hf
      exact r_ri T dX11_litter_62
    · refine r_loc dX11_litter_23 rfl ?_
      refine r_getR dX11_litter_24 fl_11_37 sh_0 (Or.inl ⟨_, rfl⟩) (tp_0_3 T) ?_
      refine r_getR dX11_litter_27 fl_11_155 (sh_S st_27) (Or.inr ⟨_, rfl⟩) (tp_S_6 T st_27) ?_
      refine r_loc dX11_litter_30 rfl ?_
      refine r_iald dX11_litter_31 (sh_S_6 st_27) hf (fun v4 hf => ?_)
      refine r_loc dX11_litter_32 rfl ?_
      refine r_eq (q := 49) dX11_litter_33 rfl hf (fun hf => ?_) (fun hf => ?_)
      · exact rj_X11_litter_49 (by omega) (lp_X11_litter_17 p1 h n) p1 x2 x3 T (ih) hf
      · refine r_loc dX11_litter_36 rfl ?_
        refine r_getR dX11_litter_37 fl_11_37 sh_0 (Or.inl ⟨_, rfl⟩) (tp_0_3 T) ?_
        refine r_getR dX11_litter_40 fl_11_158 (sh_S st_27) (Or.inr ⟨_, rfl⟩) (tp_S_7 T st_27) ?_
        refine r_loc dX11_litter_43 rfl ?_
        refine r_iald dX11_litter_44 (sh_S_7 st_27) hf (fun v5 hf => ?_)
        refine r_loc dX11_litter_45 rfl ?_
        refine r_ne (q := 55) dX11_litter_46 rfl hf (fun hf => ?_) (fun hf => ?_)
        · refine r_loc (L' := [some (.ref 0), some (.int p1), some (.int x2), some (.int (x3 + 1))]) dX11_litter_55 rfl ?_
          refine r_goto (q := 17) dX11_litter_58 rfl ?_
          exact ih x2 (x3 + 1) hf
        · exact rj_X11_litter_49 (by omega) (lp_X11_litter_17 p1 h n) p1 x2 x3 T (ih) hf
theorem rf_X11_litter {X : am_X} {d : Nat} (hd : 1 ≤ d) (x1 : Int32) {h : am_H} (T : am_TP h.2.2) {r : Int32} (hf : f_X11_litter x1 h = some r) : am_G X d 11 false cX11_litter (some .int) 0 [some (.ref 0), some (.int x1), none, none] [] (am_SH, h) (some (.int r), (am_SH, h)) := by
  unfold f_X11_litter at hf
  obtain ⟨d, rfl⟩ : ∃ e, d = e + 1 := ⟨d - 1, by omega⟩
  refine r_loc dX11_litter_0 rfl ?_
  refine r_getR dX11_litter_1 fl_11_37 sh_0 (Or.inl ⟨_, rfl⟩) (tp_0_3 T) ?_
  refine r_loc dX11_litter_4 rfl ?_
  obtain ⟨v2, c1, hf⟩ := cal_inv hf
  have g3 := rf_X7_has (X := X) (d := d) (by omega) 27 x1 st_27 T c1
  refine r_virt (pre := [.int x1]) (rest := []) dX11_litter_5 ct_11_137 rfl ((sh_S st_27)) (Nat.le_of_ble_eq_true rfl) (Nat.le_of_ble_eq_true rfl) g3 ?_
  refine r_ne0 (q := 13) dX11_litter_8 rfl hf (fun hf => ?_) (fun hf => ?_)
  · refine r_iconst (v := 0) dX11_litter_13 rfl ?_
    refine r_loc (L' := [some (.ref 0), some (.int x1), some (.int 0), none]) dX11_litter_14 rfl ?_
    refine r_iconst (v := 0) dX11_litter_15 rfl ?_
    refine r_loc (L' := [some (.ref 0), some (.int x1), some (.int 0), some (.int 0)]) dX11_litter_16 rfl ?_
    refine rl_X11_litter_17 (by omega) x1 T  4000 0 0  hf
  · refine r_iconst (v := (-1)) dX11_litter_11 rfl ?_
    cases hf
    exact r_ri T dX11_litter_12
def jn_X6_steps_54 (k_25 : Int32 → Int32 → Int32 → Option (Int32)) (s0 : Nat) (x2 : Int32) (x4 : Int32) (x5 : Int32) (x6 : Int32) (x7 : Int32) (h : am_H) : Option (Int32) := cal (f_X7_parentsOf s0 x6 h) fun v5 => k_25 (x5 + x7) v5 (x7 + 1)
def lp_X6_steps_25 (s0 : Nat) (p2 : Int32) (p4 : Int32) (p5 : Int32) (h : am_H) (k_74 : Int32 → Option (Int32)) : Nat → Int32 → Int32 → Int32 → Option (Int32)
  | 0, _, _, _ => none
  | n + 1, x3, x6, x7 => if x7 < 8 then if (p4 &&& x6) = 0 then cal (f_X7_parentsOf s0 x6 h) fun v2 => lp_X6_steps_25 s0 p2 p4 p5 h k_74 n x3 v2 (x7 + 1) else if x3 = (-1) then jn_X6_steps_54 (lp_X6_steps_25 s0 p2 p4 p5 h k_74 n) s0 p2 p4 p5 x6 x7 h else if (p5 + x7) < x3 then jn_X6_steps_54 (lp_X6_steps_25 s0 p2 p4 p5 h k_74 n) s0 p2 p4 p5 x6 x7 h else cal (f_X7_parentsOf s0 x6 h) fun v8 => lp_X6_steps_25 s0 p2 p4 p5 h k_74 n x3 v8 (x7 + 1) else k_74 x3
def lp_X6_steps_10 (s0 : Nat) (p2 : Int32) (h : am_H) : Nat → Int32 → Int32 → Int32 → Option (Int32)
  | 0, _, _, _ => none
  | n + 1, x3, x4, x5 => if x5 < 8 then lp_X6_steps_25 s0 p2 x4 x5 h (fun z10 => cal (f_X7_parentsOf s0 x4 h) fun v12 => lp_X6_steps_10 s0 p2 h n z10 v12 (x5 + 1)) 4000 x3 ((1 : Int32) <<< (p2 &&& 31)) 0 else some x3
def f_X6_steps (s0 : Nat) (x1 : Int32) (x2 : Int32) (h : am_H) : Option (Int32) := lp_X6_steps_10 s0 x2 h  4000 (-1) ((1 : Int32) <<< (x1 &&& 31)) 0
theorem rj_X6_steps_54 {X : am_X} {d : Nat} (hd : 2 ≤ d) (k_25 : Int32 → Int32 → Int32 → Option (Int32)) (s0 : Nat) (x2 : Int32) (x4 : Int32) (x5 : Int32) (x6 : Int32) (x7 : Int32) (hs0 : s0 ∈ am_ST) {h : am_H} (T : am_TP h.2.2) {r : Int32} (hk_25 : ∀ (x3 : Int32) (x6 : Int32) (x7 : Int32) , k_25 x3 x6 x7 = some r → am_G X d 6 false cX6_steps (some .int) 25 [some (.ref s0), none, some (.int x2), some (.int x3), some (.int x4), some (.int x5), some (.int x6), some (.int x7)] [] (am_SH, h) (some (.int r), (am_SH, h))) (hf : jn_X6_steps_54 k_25 s0 x2 x4 x5 x6 x7 h = some r) : am_G X d 6 false cX6_steps (some .int) 54 [some (.ref s0), none, some (.int x2), none, some (.int x4), some (.int x5), some (.int x6), some (.int x7)] [] (am_SH, h) (some (.int r), (am_SH, h)) := by
  obtain ⟨d, rfl⟩ : ∃ e, d = e + 1 := ⟨d - 1, by omega⟩
  unfold jn_X6_steps_54 at hf
  refine r_loc dX6_steps_54 rfl ?_
  refine r_loc dX6_steps_56 rfl ?_
  refine r_alu dX6_steps_58 rfl ?_
  refine r_loc (L' := [some (.ref s0), none, some (.int x2), some (.int (x5 + x7)), some (.int x4), some (.int x5), some (.int x6), some (.int x7)]) dX6_steps_59 rfl ?_
  refine r_loc dX6_steps_60 rfl ?_
  refine r_loc dX6_steps_61 rfl ?_
  obtain ⟨v5, c4, hf⟩ := cal_inv hf
  have g6 := rf_X7_parentsOf (X := X) (d := d) (by omega) s0 x6 hs0 T c4
  refine r_virt (pre := [.int x6]) (rest := []) dX6_steps_63 ct_6_52 rfl ((sh_S hs0)) (Nat.le_of_ble_eq_true rfl) (Nat.le_of_ble_eq_true rfl) g6 ?_
  refine r_loc (L' := [some (.ref s0), none, some (.int x2), some (.int (x5 + x7)), some (.int x4), some (.int x5), some (.int v5), some (.int x7)]) dX6_steps_66 rfl ?_
  refine r_loc (L' := [some (.ref s0), none, some (.int x2), some (.int (x5 + x7)), some (.int x4), some (.int x5), some (.int v5), some (.int (x7 + 1))]) dX6_steps_68 rfl ?_
  refine r_goto (q := 25) dX6_steps_71 rfl ?_
  exact hk_25 (x5 + x7) v5 (x7 + 1) hf
theorem rl_X6_steps_25 {X : am_X} {d : Nat} (hd : 2 ≤ d) (s0 : Nat) (p2 : Int32) (p4 : Int32) (p5 : Int32) (hs0 : s0 ∈ am_ST) {h : am_H} (T : am_TP h.2.2) (k_74 : Int32 → Option (Int32)) {r : Int32} (hk_74 : ∀ (z3 : Int32) , k_74 z3 = some r → am_G X d 6 false cX6_steps (some .int) 74 [some (.ref s0), none, some (.int p2), some (.int z3), some (.int p4), some (.int p5), none, none] [] (am_SH, h) (some (.int r), (am_SH, h))) : ∀ (n : Nat) (x3 : Int32) (x6 : Int32) (x7 : Int32) , lp_X6_steps_25 s0 p2 p4 p5 h k_74 n x3 x6 x7 = some r → am_G X d 6 false cX6_steps (some .int) 25 [some (.ref s0), none, some (.int p2), some (.int x3), some (.int p4), some (.int p5), some (.int x6), some (.int x7)] [] (am_SH, h) (some (.int r), (am_SH, h)) := by
  obtain ⟨d, rfl⟩ : ∃ e, d = e + 1 := ⟨d - 1, by omega⟩
  intro n
  induction n with
  | zero => intro x3 x6 x7 hf; cases hf
  | succ n ih =>
    intro x3 x6 x7 hf
    rw [lp_X6_steps_25] at hf
    refine r_loc dX6_steps_25 rfl ?_
    refine r_bipush (v := 8) dX6_steps_27 rfl ?_
    refine r_ge (q := 74) dX6_steps_29 rfl hf (fun hf => ?_) (fun hf => ?_)
    · refine r_weak (L := [some (.ref s0), none, some (.int p2), some (.int x3), some (.int p4), some (.int p5), none, none]) (am_le_s (am_le_n (am_le_s (am_le_s (am_le_s (am_le_s (am_le_n (am_le_n am_le_0)))))))) ?_
      exact hk_74 x3 hf
    · refine r_loc dX6_steps_32 rfl ?_
      refine r_loc dX6_steps_34 rfl ?_
      refine r_alu dX6_steps_36 rfl ?_
      refine r_eq0 (q := 60) dX6_steps_37 rfl hf (fun hf => ?_) (fun hf => ?_)
      · refine r_loc dX6_steps_60 rfl ?_
        refine r_loc dX6_steps_61 rfl ?_
        obtain ⟨v2, c1, hf⟩ := cal_inv hf
        have g3 := rf_X7_parentsOf (X := X) (d := d) (by omega) s0 x6 hs0 T c1
        refine r_virt (pre := [.int x6]) (rest := []) dX6_steps_63 ct_6_52 rfl ((sh_S hs0)) (Nat.le_of_ble_eq_true rfl) (Nat.le_of_ble_eq_true rfl) g3 ?_
        refine r_loc (L' := [some (.ref s0), none, some (.int p2), some (.int x3), some (.int p4), some (.int p5), some (.int v2), some (.int x7)]) dX6_steps_66 rfl ?_
        refine r_loc (L' := [some (.ref s0), none, some (.int p2), some (.int x3), some (.int p4), some (.int p5), some (.int v2), some (.int (x7 + 1))]) dX6_steps_68 rfl ?_
        refine r_goto (q := 25) dX6_steps_71 rfl ?_
        exact ih x3 v2 (x7 + 1) hf
      · refine r_loc dX6_steps_40 rfl ?_
        refine r_iconst (v := (-1)) dX6_steps_41 rfl ?_
        refine r_eq (q := 54) dX6_steps_42 rfl hf (fun hf => ?_) (fun hf => ?_)
        · refine r_weak (L := [some (.ref s0), none, some (.int p2), none, some (.int p4), some (.int p5), some (.int x6), some (.int x7)]) (am_le_s (am_le_n (am_le_s (am_le_n (am_le_s (am_le_s (am_le_s (am_le_s am_le_0)))))))) ?_
          exact rj_X6_steps_54 (by omega) (lp_X6_steps_25 s0 p2 p4 p5 h k_74 n) s0 p2 p4 p5 x6 x7 hs0 T (ih) hf
        · refine r_loc dX6_steps_45 rfl ?_
          refine r_loc dX6_steps_47 rfl ?_
          refine r_alu dX6_steps_49 rfl ?_
          refine r_loc dX6_steps_50 rfl ?_
          refine r_ge (q := 60) dX6_steps_51 rfl hf (fun hf => ?_) (fun hf => ?_)
          · refine r_loc dX6_steps_60 rfl ?_
            refine r_loc dX6_steps_61 rfl ?_
            obtain ⟨v8, c7, hf⟩ := cal_inv hf
            have g9 := rf_X7_parentsOf (X := X) (d := d) (by omega) s0 x6 hs0 T c7
            refine r_virt (pre := [.int x6]) (rest := []) dX6_steps_63 ct_6_52 rfl ((sh_S hs0)) (Nat.le_of_ble_eq_true rfl) (Nat.le_of_ble_eq_true rfl) g9 ?_
            refine r_loc (L' := [some (.ref s0), none, some (.int p2), some (.int x3), some (.int p4), some (.int p5), some (.int v8), some (.int x7)]) dX6_steps_66 rfl ?_
            refine r_loc (L' := [some (.ref s0), none, some (.int p2), some (.int x3), some (.int p4), some (.int p5), some (.int v8), some (.int (x7 + 1))]) dX6_steps_68 rfl ?_
            refine r_goto (q := 25) dX6_steps_71 rfl ?_
            exact ih x3 v8 (x7 + 1) hf
          · refine r_weak (L := [some (.ref s0), none, some (.int p2), none, some (.int p4), some (.int p5), some (.int x6), some (.int x7)]) (am_le_s (am_le_n (am_le_s (am_le_n (am_le_s (am_le_s (am_le_s (am_le_s am_le_0)))))))) ?_
            exact rj_X6_steps_54 (by omega) (lp_X6_steps_25 s0 p2 p4 p5 h k_74 n) s0 p2 p4 p5 x6 x7 hs0 T (ih) hf
theorem rl_X6_steps_10 {X : am_X} {d : Nat} (hd : 2 ≤ d) (s0 : Nat) (p2 : Int32) (hs0 : s0 ∈ am_ST) {h : am_H} (T : am_TP h.2.2) {r : Int32} : ∀ (n : Nat) (x3 : Int32) (x4 : Int32) (x5 : Int32) , lp_X6_steps_10 s0 p2 h n x3 x4 x5 = some r → am_G X d 6 false cX6_steps (some .int) 10 [some (.ref s0), none, some (.int p2), some (.int x3), some (.int x4), some (.int x5), none, none] [] (am_SH, h) (some (.int r), (am_SH, h)) := by
  obtain ⟨d, rfl⟩ : ∃ e, d = e + 1 := ⟨d - 1, by omega⟩
  intro n
  induction n with
  | zero => intro x3 x4 x5 hf; cases hf
  | succ n ih =>
    intro x3 x4 x5 hf
    rw [lp_X6_steps_10] at hf
    refine r_loc dX6_steps_10 rfl ?_
    refine r_bipush (v := 8) dX6_steps_12 rfl ?_
    refine r_ge (q := 88) dX6_steps_14 rfl hf (fun hf => ?_) (fun hf => ?_)
    · refine r_loc dX6_steps_88 rfl ?_
      cases hf
      exact r_ri T dX6_steps_89
    · refine r_iconst (v := 1) dX6_steps_17 rfl ?_
      refine r_loc dX6_steps_18 rfl ?_
      refine r_alu dX6_steps_19 rfl ?_
      refine r_loc (L' := [some (.ref s0), none, some (.int p2), some (.int x3), some (.int x4), some (.int x5), some (.int ((1 : Int32) <<< (p2 &&& 31))), none]) dX6_steps_20 rfl ?_
      refine r_iconst (v := 0) dX6_steps_22 rfl ?_
      refine r_loc (L' := [some (.ref s0), none, some (.int p2), some (.int x3), some (.int x4), some (.int x5), some (.int ((1 : Int32) <<< (p2 &&& 31))), some (.int 0)]) dX6_steps_23 rfl ?_
      refine rl_X6_steps_25 (by omega) s0 p2 x4 x5 hs0 T _ ?_ 4000 x3 ((1 : Int32) <<< (p2 &&& 31)) 0  hf
      · intro z10 hf
        refine r_loc dX6_steps_74 rfl ?_
        refine r_loc dX6_steps_75 rfl ?_
        obtain ⟨v12, c11, hf⟩ := cal_inv hf
        have g13 := rf_X7_parentsOf (X := X) (d := d) (by omega) s0 x4 hs0 T c11
        refine r_virt (pre := [.int x4]) (rest := []) dX6_steps_77 ct_6_52 rfl ((sh_S hs0)) (Nat.le_of_ble_eq_true rfl) (Nat.le_of_ble_eq_true rfl) g13 ?_
        refine r_loc (L' := [some (.ref s0), none, some (.int p2), some (.int z10), some (.int v12), some (.int x5), none, none]) dX6_steps_80 rfl ?_
        refine r_loc (L' := [some (.ref s0), none, some (.int p2), some (.int z10), some (.int v12), some (.int (x5 + 1)), none, none]) dX6_steps_82 rfl ?_
        refine r_goto (q := 10) dX6_steps_85 rfl ?_
        exact ih z10 v12 (x5 + 1) hf
theorem rf_X6_steps {X : am_X} {d : Nat} (hd : 2 ≤ d) (s0 : Nat) (x1 : Int32) (x2 : Int32) (hs0 : s0 ∈ am_ST) {h : am_H} (T : am_TP h.2.2) {r : Int32} (hf : f_X6_steps s0 x1 x2 h = some r) : am_G X d 6 false cX6_steps (some .int) 0 [some (.ref s0), some (.int x1), some (.int x2), none, none, none, none, none] [] (am_SH, h) (some (.int r), (am_SH, h)) := by
  unfold f_X6_steps at hf
  obtain ⟨d, rfl⟩ : ∃ e, d = e + 1 := ⟨d - 1, by omega⟩
  refine r_iconst (v := (-1)) dX6_steps_0 rfl ?_
  refine r_loc (L' := [some (.ref s0), some (.int x1), some (.int x2), some (.int (-1)), none, none, none, none]) dX6_steps_1 rfl ?_
  refine r_iconst (v := 1) dX6_steps_2 rfl ?_
  refine r_loc dX6_steps_3 rfl ?_
  refine r_alu dX6_steps_4 rfl ?_
  refine r_loc (L' := [some (.ref s0), some (.int x1), some (.int x2), some (.int (-1)), some (.int ((1 : Int32) <<< (x1 &&& 31))), none, none, none]) dX6_steps_5 rfl ?_
  refine r_iconst (v := 0) dX6_steps_7 rfl ?_
  refine r_loc (L' := [some (.ref s0), some (.int x1), some (.int x2), some (.int (-1)), some (.int ((1 : Int32) <<< (x1 &&& 31))), some (.int 0), none, none]) dX6_steps_8 rfl ?_
  refine r_weak (L := [some (.ref s0), none, some (.int x2), some (.int (-1)), some (.int ((1 : Int32) <<< (x1 &&& 31))), some (.int 0), none, none]) (am_le_s (am_le_n (am_le_s (am_le_s (am_le_s (am_le_s (am_le_n (am_le_n am_le_0)))))))) ?_
  refine rl_X6_steps_10 (by omega) s0 x2 hs0 T  4000 (-1) ((1 : Int32) <<< (x1 &&& 31)) 0  hf
def f_X11_kin (x1 : Int32) (x2 : Int32) (h : am_H) : Option (Int32) := cal (f_X7_hasBoth 27 x1 x2 h) fun v2 => if v2 = 0 then some (-1) else cal (f_X6_steps 27 x1 x2 h) fun v5 => some v5
theorem rf_X11_kin {X : am_X} {d : Nat} (hd : 3 ≤ d) (x1 : Int32) (x2 : Int32) {h : am_H} (T : am_TP h.2.2) {r : Int32} (hf : f_X11_kin x1 x2 h = some r) : am_G X d 11 false cX11_kin (some .int) 0 [some (.ref 0), some (.int x1), some (.int x2)] [] (am_SH, h) (some (.int r), (am_SH, h)) := by
  unfold f_X11_kin at hf
  obtain ⟨d, rfl⟩ : ∃ e, d = e + 1 := ⟨d - 1, by omega⟩
  refine r_loc dX11_kin_0 rfl ?_
  refine r_getR dX11_kin_1 fl_11_37 sh_0 (Or.inl ⟨_, rfl⟩) (tp_0_3 T) ?_
  refine r_loc dX11_kin_4 rfl ?_
  refine r_loc dX11_kin_5 rfl ?_
  obtain ⟨v2, c1, hf⟩ := cal_inv hf
  have g3 := rf_X7_hasBoth (X := X) (d := d) (by omega) 27 x1 x2 st_27 T c1
  refine r_virt (pre := [.int x2, .int x1]) (rest := []) dX11_kin_6 ct_11_161 rfl ((sh_S st_27)) (Nat.le_of_ble_eq_true rfl) (Nat.le_of_ble_eq_true rfl) g3 ?_
  refine r_eq0 (q := 24) dX11_kin_9 rfl hf (fun hf => ?_) (fun hf => ?_)
  · refine r_iconst (v := (-1)) dX11_kin_24 rfl ?_
    cases hf
    exact r_ri T dX11_kin_25
  · refine r_loc dX11_kin_12 rfl ?_
    refine r_getR dX11_kin_13 fl_11_37 sh_0 (Or.inl ⟨_, rfl⟩) (tp_0_3 T) ?_
    refine r_loc dX11_kin_16 rfl ?_
    refine r_loc dX11_kin_17 rfl ?_
    obtain ⟨v5, c4, hf⟩ := cal_inv hf
    have g6 := rf_X6_steps (X := X) (d := d) (by omega) 27 x1 x2 st_27 T c4
    refine r_stat (pre := [.int x2, .int x1, .ref 27]) (rest := []) dX11_kin_18 ct_11_281 rfl (Nat.le_of_ble_eq_true rfl) (Nat.le_of_ble_eq_true rfl) g6 ?_
    refine r_goto (q := 25) dX11_kin_21 rfl ?_
    cases hf
    exact r_ri T dX11_kin_25
def f_X11_alike (x1 : Int32) (x2 : Int32) (h : am_H) : Option (Int32) := cal (f_X7_hasBoth 27 x1 x2 h) fun v2 => if v2 = 0 then some (-1) else cal (f_X7_shared 27 x1 x2 h) fun v5 => some v5
theorem rf_X11_alike {X : am_X} {d : Nat} (hd : 3 ≤ d) (x1 : Int32) (x2 : Int32) {h : am_H} (T : am_TP h.2.2) {r : Int32} (hf : f_X11_alike x1 x2 h = some r) : am_G X d 11 false cX11_alike (some .int) 0 [some (.ref 0), some (.int x1), some (.int x2)] [] (am_SH, h) (some (.int r), (am_SH, h)) := by
  unfold f_X11_alike at hf
  obtain ⟨d, rfl⟩ : ∃ e, d = e + 1 := ⟨d - 1, by omega⟩
  refine r_loc dX11_alike_0 rfl ?_
  refine r_getR dX11_alike_1 fl_11_37 sh_0 (Or.inl ⟨_, rfl⟩) (tp_0_3 T) ?_
  refine r_loc dX11_alike_4 rfl ?_
  refine r_loc dX11_alike_5 rfl ?_
  obtain ⟨v2, c1, hf⟩ := cal_inv hf
  have g3 := rf_X7_hasBoth (X := X) (d := d) (by omega) 27 x1 x2 st_27 T c1
  refine r_virt (pre := [.int x2, .int x1]) (rest := []) dX11_alike_6 ct_11_161 rfl ((sh_S st_27)) (Nat.le_of_ble_eq_true rfl) (Nat.le_of_ble_eq_true rfl) g3 ?_
  refine r_eq0 (q := 24) dX11_alike_9 rfl hf (fun hf => ?_) (fun hf => ?_)
  · refine r_iconst (v := (-1)) dX11_alike_24 rfl ?_
    cases hf
    exact r_ri T dX11_alike_25
  · refine r_loc dX11_alike_12 rfl ?_
    refine r_getR dX11_alike_13 fl_11_37 sh_0 (Or.inl ⟨_, rfl⟩) (tp_0_3 T) ?_
    refine r_loc dX11_alike_16 rfl ?_
    refine r_loc dX11_alike_17 rfl ?_
    obtain ⟨v5, c4, hf⟩ := cal_inv hf
    have g6 := rf_X7_shared (X := X) (d := d) (by omega) 27 x1 x2 st_27 T c4
    refine r_virt (pre := [.int x2, .int x1]) (rest := []) dX11_alike_18 ct_11_284 rfl ((sh_S st_27)) (Nat.le_of_ble_eq_true rfl) (Nat.le_of_ble_eq_true rfl) g6 ?_
    refine r_goto (q := 25) dX11_alike_21 rfl ?_
    cases hf
    exact r_ri T dX11_alike_25
def lp_X6_mostLike_7 (s0 : Nat) (p1 : Int32) (h : am_H) : Nat → Int32 → Int32 → Int32 → Option (Int32)
  | 0, _, _, _ => none
  | n + 1, x2, x3, x4 => if x4 < 8 then if x4 = p1 then lp_X6_mostLike_7 s0 p1 h n x2 x3 (x4 + 1) else cal (f_X7_has s0 x4 h) fun v2 => if v2 = 0 then lp_X6_mostLike_7 s0 p1 h n x2 x3 (x4 + 1) else cal (f_X7_shared s0 p1 x4 h) fun v5 => if x3 < v5 then cal (f_X7_shared s0 p1 x4 h) fun v8 => lp_X6_mostLike_7 s0 p1 h n x4 v8 (x4 + 1) else lp_X6_mostLike_7 s0 p1 h n x2 x3 (x4 + 1) else some x2
def f_X6_mostLike (s0 : Nat) (x1 : Int32) (h : am_H) : Option (Int32) := lp_X6_mostLike_7 s0 x1 h  4000 (-1) (-1) 0
theorem rl_X6_mostLike_7 {X : am_X} {d : Nat} (hd : 3 ≤ d) (s0 : Nat) (p1 : Int32) (hs0 : s0 ∈ am_ST) {h : am_H} (T : am_TP h.2.2) {r : Int32} : ∀ (n : Nat) (x2 : Int32) (x3 : Int32) (x4 : Int32) , lp_X6_mostLike_7 s0 p1 h n x2 x3 x4 = some r → am_G X d 6 false cX6_mostLike (some .int) 7 [some (.ref s0), some (.int p1), some (.int x2), some (.int x3), some (.int x4)] [] (am_SH, h) (some (.int r), (am_SH, h)) := by
  obtain ⟨d, rfl⟩ : ∃ e, d = e + 1 := ⟨d - 1, by omega⟩
  intro n
  induction n with
  | zero => intro x2 x3 x4 hf; cases hf
  | succ n ih =>
    intro x2 x3 x4 hf
    rw [lp_X6_mostLike_7] at hf
    refine r_loc dX6_mostLike_7 rfl ?_
    refine r_bipush (v := 8) dX6_mostLike_9 rfl ?_
    refine r_ge (q := 57) dX6_mostLike_11 rfl hf (fun hf => ?_) (fun hf => ?_)
    · refine r_loc dX6_mostLike_57 rfl ?_
      cases hf
      exact r_ri T dX6_mostLike_58
    · refine r_loc dX6_mostLike_14 rfl ?_
      refine r_loc dX6_mostLike_16 rfl ?_
      refine r_eq (q := 51) dX6_mostLike_17 rfl hf (fun hf => ?_) (fun hf => ?_)
      · refine r_loc (L' := [some (.ref s0), some (.int p1), some (.int x2), some (.int x3), some (.int (x4 + 1))]) dX6_mostLike_51 rfl ?_
        refine r_goto (q := 7) dX6_mostLike_54 rfl ?_
        exact ih x2 x3 (x4 + 1) hf
      · refine r_loc dX6_mostLike_20 rfl ?_
        refine r_loc dX6_mostLike_21 rfl ?_
        obtain ⟨v2, c1, hf⟩ := cal_inv hf
        have g3 := rf_X7_has (X := X) (d := d) (by omega) s0 x4 hs0 T c1
        refine r_virt (pre := [.int x4]) (rest := []) dX6_mostLike_23 ct_6_21 rfl ((sh_S hs0)) (Nat.le_of_ble_eq_true rfl) (Nat.le_of_ble_eq_true rfl) g3 ?_
        refine r_eq0 (q := 51) dX6_mostLike_26 rfl hf (fun hf => ?_) (fun hf => ?_)
        · refine r_loc (L' := [some (.ref s0), some (.int p1), some (.int x2), some (.int x3), some (.int (x4 + 1))]) dX6_mostLike_51 rfl ?_
          refine r_goto (q := 7) dX6_mostLike_54 rfl ?_
          exact ih x2 x3 (x4 + 1) hf
        · refine r_loc dX6_mostLike_29 rfl ?_
          refine r_loc dX6_mostLike_30 rfl ?_
          refine r_loc dX6_mostLike_31 rfl ?_
          obtain ⟨v5, c4, hf⟩ := cal_inv hf
          have g6 := rf_X7_shared (X := X) (d := d) (by omega) s0 p1 x4 hs0 T c4
          refine r_virt (pre := [.int x4, .int p1]) (rest := []) dX6_mostLike_33 ct_6_43 rfl ((sh_S hs0)) (Nat.le_of_ble_eq_true rfl) (Nat.le_of_ble_eq_true rfl) g6 ?_
          refine r_loc dX6_mostLike_36 rfl ?_
          refine r_le (q := 51) dX6_mostLike_37 rfl hf (fun hf => ?_) (fun hf => ?_)
          · refine r_loc (L' := [some (.ref s0), some (.int p1), some (.int x2), some (.int x3), some (.int (x4 + 1))]) dX6_mostLike_51 rfl ?_
            refine r_goto (q := 7) dX6_mostLike_54 rfl ?_
            exact ih x2 x3 (x4 + 1) hf
          · refine r_loc dX6_mostLike_40 rfl ?_
            refine r_loc (L' := [some (.ref s0), some (.int p1), some (.int x4), some (.int x3), some (.int x4)]) dX6_mostLike_42 rfl ?_
            refine r_loc dX6_mostLike_43 rfl ?_
            refine r_loc dX6_mostLike_44 rfl ?_
            refine r_loc dX6_mostLike_45 rfl ?_
            obtain ⟨v8, c7, hf⟩ := cal_inv hf
            have g9 := rf_X7_shared (X := X) (d := d) (by omega) s0 p1 x4 hs0 T c7
            refine r_virt (pre := [.int x4, .int p1]) (rest := []) dX6_mostLike_47 ct_6_43 rfl ((sh_S hs0)) (Nat.le_of_ble_eq_true rfl) (Nat.le_of_ble_eq_true rfl) g9 ?_
            refine r_loc (L' := [some (.ref s0), some (.int p1), some (.int x4), some (.int v8), some (.int x4)]) dX6_mostLike_50 rfl ?_
            refine r_loc (L' := [some (.ref s0), some (.int p1), some (.int x4), some (.int v8), some (.int (x4 + 1))]) dX6_mostLike_51 rfl ?_
            refine r_goto (q := 7) dX6_mostLike_54 rfl ?_
            exact ih x4 v8 (x4 + 1) hf
theorem rf_X6_mostLike {X : am_X} {d : Nat} (hd : 3 ≤ d) (s0 : Nat) (x1 : Int32) (hs0 : s0 ∈ am_ST) {h : am_H} (T : am_TP h.2.2) {r : Int32} (hf : f_X6_mostLike s0 x1 h = some r) : am_G X d 6 false cX6_mostLike (some .int) 0 [some (.ref s0), some (.int x1), none, none, none] [] (am_SH, h) (some (.int r), (am_SH, h)) := by
  unfold f_X6_mostLike at hf
  obtain ⟨d, rfl⟩ : ∃ e, d = e + 1 := ⟨d - 1, by omega⟩
  refine r_iconst (v := (-1)) dX6_mostLike_0 rfl ?_
  refine r_loc (L' := [some (.ref s0), some (.int x1), some (.int (-1)), none, none]) dX6_mostLike_1 rfl ?_
  refine r_iconst (v := (-1)) dX6_mostLike_2 rfl ?_
  refine r_loc (L' := [some (.ref s0), some (.int x1), some (.int (-1)), some (.int (-1)), none]) dX6_mostLike_3 rfl ?_
  refine r_iconst (v := 0) dX6_mostLike_4 rfl ?_
  refine r_loc (L' := [some (.ref s0), some (.int x1), some (.int (-1)), some (.int (-1)), some (.int 0)]) dX6_mostLike_5 rfl ?_
  refine rl_X6_mostLike_7 (by omega) s0 x1 hs0 T  4000 (-1) (-1) 0  hf
def f_X11_like (x1 : Int32) (h : am_H) : Option (Int32) := cal (f_X7_has 27 x1 h) fun v2 => if v2 = 0 then some (-1) else cal (f_X6_mostLike 27 x1 h) fun v5 => some v5
theorem rf_X11_like {X : am_X} {d : Nat} (hd : 4 ≤ d) (x1 : Int32) {h : am_H} (T : am_TP h.2.2) {r : Int32} (hf : f_X11_like x1 h = some r) : am_G X d 11 false cX11_like (some .int) 0 [some (.ref 0), some (.int x1)] [] (am_SH, h) (some (.int r), (am_SH, h)) := by
  unfold f_X11_like at hf
  obtain ⟨d, rfl⟩ : ∃ e, d = e + 1 := ⟨d - 1, by omega⟩
  refine r_loc dX11_like_0 rfl ?_
  refine r_getR dX11_like_1 fl_11_37 sh_0 (Or.inl ⟨_, rfl⟩) (tp_0_3 T) ?_
  refine r_loc dX11_like_4 rfl ?_
  obtain ⟨v2, c1, hf⟩ := cal_inv hf
  have g3 := rf_X7_has (X := X) (d := d) (by omega) 27 x1 st_27 T c1
  refine r_virt (pre := [.int x1]) (rest := []) dX11_like_5 ct_11_137 rfl ((sh_S st_27)) (Nat.le_of_ble_eq_true rfl) (Nat.le_of_ble_eq_true rfl) g3 ?_
  refine r_eq0 (q := 22) dX11_like_8 rfl hf (fun hf => ?_) (fun hf => ?_)
  · refine r_iconst (v := (-1)) dX11_like_22 rfl ?_
    cases hf
    exact r_ri T dX11_like_23
  · refine r_loc dX11_like_11 rfl ?_
    refine r_getR dX11_like_12 fl_11_37 sh_0 (Or.inl ⟨_, rfl⟩) (tp_0_3 T) ?_
    refine r_loc dX11_like_15 rfl ?_
    obtain ⟨v5, c4, hf⟩ := cal_inv hf
    have g6 := rf_X6_mostLike (X := X) (d := d) (by omega) 27 x1 st_27 T c4
    refine r_stat (pre := [.int x1, .ref 27]) (rest := []) dX11_like_16 ct_11_287 rfl (Nat.le_of_ble_eq_true rfl) (Nat.le_of_ble_eq_true rfl) g6 ?_
    refine r_goto (q := 23) dX11_like_19 rfl ?_
    cases hf
    exact r_ri T dX11_like_23
def lp_X6_leastLikeAll_27 (s0 : Nat) (p1 : Int32) (p2 : Int32) (p3 : Int32) (h : am_H) (k_62 : Int32 → Option (Int32)) : Nat → Int32 → Int32 → Option (Int32)
  | 0, _, _ => none
  | n + 1, x4, x5 => if x5 < 8 then if x5 = p3 then lp_X6_leastLikeAll_27 s0 p1 p2 p3 h k_62 n (x4 + 0) (x5 + 1) else cal (f_X7_shared s0 p3 x5 h) fun v5 => lp_X6_leastLikeAll_27 s0 p1 p2 p3 h k_62 n (x4 + v5) (x5 + 1) else k_62 x4
def lp_X6_leastLikeAll_7 (s0 : Nat) (h : am_H) : Nat → Int32 → Int32 → Int32 → Option (Int32)
  | 0, _, _, _ => none
  | n + 1, x1, x2, x3 => if x3 < 8 then cal (f_X7_has s0 x3 h) fun v2 => if v2 = 0 then lp_X6_leastLikeAll_7 s0 h n x1 x2 (x3 + 1) else lp_X6_leastLikeAll_27 s0 x1 x2 x3 h (fun z7 => if z7 < x2 then lp_X6_leastLikeAll_7 s0 h n x3 z7 (x3 + 1) else lp_X6_leastLikeAll_7 s0 h n x1 x2 (x3 + 1)) 4000 0 0 else some x1
def f_X6_leastLikeAll (s0 : Nat) (h : am_H) : Option (Int32) := lp_X6_leastLikeAll_7 s0 h  4000 (-1) 49 0
theorem rl_X6_leastLikeAll_27 {X : am_X} {d : Nat} (hd : 3 ≤ d) (s0 : Nat) (p1 : Int32) (p2 : Int32) (p3 : Int32) (hs0 : s0 ∈ am_ST) {h : am_H} (T : am_TP h.2.2) (k_62 : Int32 → Option (Int32)) {r : Int32} (hk_62 : ∀ (z4 : Int32) , k_62 z4 = some r → am_G X d 6 false cX6_leastLikeAll (some .int) 62 [some (.ref s0), some (.int p1), some (.int p2), some (.int p3), some (.int z4), none] [] (am_SH, h) (some (.int r), (am_SH, h))) : ∀ (n : Nat) (x4 : Int32) (x5 : Int32) , lp_X6_leastLikeAll_27 s0 p1 p2 p3 h k_62 n x4 x5 = some r → am_G X d 6 false cX6_leastLikeAll (some .int) 27 [some (.ref s0), some (.int p1), some (.int p2), some (.int p3), some (.int x4), some (.int x5)] [] (am_SH, h) (some (.int r), (am_SH, h)) := by
  obtain ⟨d, rfl⟩ : ∃ e, d = e + 1 := ⟨d - 1, by omega⟩
  intro n
  induction n with
  | zero => intro x4 x5 hf; cases hf
  | succ n ih =>
    intro x4 x5 hf
    rw [lp_X6_leastLikeAll_27] at hf
    refine r_loc dX6_leastLikeAll_27 rfl ?_
    refine r_bipush (v := 8) dX6_leastLikeAll_29 rfl ?_
    refine r_ge (q := 62) dX6_leastLikeAll_31 rfl hf (fun hf => ?_) (fun hf => ?_)
    · refine r_weak (L := [some (.ref s0), some (.int p1), some (.int p2), some (.int p3), some (.int x4), none]) (am_le_s (am_le_s (am_le_s (am_le_s (am_le_s (am_le_n am_le_0)))))) ?_
      exact hk_62 x4 hf
    · refine r_loc dX6_leastLikeAll_34 rfl ?_
      refine r_loc dX6_leastLikeAll_36 rfl ?_
      refine r_loc dX6_leastLikeAll_38 rfl ?_
      refine r_ne (q := 46) dX6_leastLikeAll_39 rfl hf (fun hf => ?_) (fun hf => ?_)
      · refine r_loc dX6_leastLikeAll_46 rfl ?_
        refine r_loc dX6_leastLikeAll_47 rfl ?_
        refine r_loc dX6_leastLikeAll_48 rfl ?_
        obtain ⟨v5, c4, hf⟩ := cal_inv hf
        have g6 := rf_X7_shared (X := X) (d := d) (by omega) s0 p3 x5 hs0 T c4
        refine r_virt (pre := [.int x5, .int p3]) (rest := [.int x4]) dX6_leastLikeAll_50 ct_6_43 rfl ((sh_S hs0)) (Nat.le_of_ble_eq_true rfl) (Nat.le_of_ble_eq_true rfl) g6 ?_
        refine r_alu dX6_leastLikeAll_53 rfl ?_
        refine r_loc (L' := [some (.ref s0), some (.int p1), some (.int p2), some (.int p3), some (.int (x4 + v5)), some (.int x5)]) dX6_leastLikeAll_54 rfl ?_
        refine r_loc (L' := [some (.ref s0), some (.int p1), some (.int p2), some (.int p3), some (.int (x4 + v5)), some (.int (x5 + 1))]) dX6_leastLikeAll_56 rfl ?_
        refine r_goto (q := 27) dX6_leastLikeAll_59 rfl ?_
        exact ih (x4 + v5) (x5 + 1) hf
      · refine r_iconst (v := 0) dX6_leastLikeAll_42 rfl ?_
        refine r_goto (q := 53) dX6_leastLikeAll_43 rfl ?_
        refine r_alu dX6_leastLikeAll_53 rfl ?_
        refine r_loc (L' := [some (.ref s0), some (.int p1), some (.int p2), some (.int p3), some (.int (x4 + 0)), some (.int x5)]) dX6_leastLikeAll_54 rfl ?_
        refine r_loc (L' := [some (.ref s0), some (.int p1), some (.int p2), some (.int p3), some (.int (x4 + 0)), some (.int (x5 + 1))]) dX6_leastLikeAll_56 rfl ?_
        refine r_goto (q := 27) dX6_leastLikeAll_59 rfl ?_
        exact ih (x4 + 0) (x5 + 1) hf
theorem rl_X6_leastLikeAll_7 {X : am_X} {d : Nat} (hd : 3 ≤ d) (s0 : Nat) (hs0 : s0 ∈ am_ST) {h : am_H} (T : am_TP h.2.2) {r : Int32} : ∀ (n : Nat) (x1 : Int32) (x2 : Int32) (x3 : Int32) , lp_X6_leastLikeAll_7 s0 h n x1 x2 x3 = some r → am_G X d 6 false cX6_leastLikeAll (some .int) 7 [some (.ref s0), some (.int x1), some (.int x2), some (.int x3), none, none] [] (am_SH, h) (some (.int r), (am_SH, h)) := by
  obtain ⟨d, rfl⟩ : ∃ e, d = e + 1 := ⟨d - 1, by omega⟩
  intro n
  induction n with
  | zero => intro x1 x2 x3 hf; cases hf
  | succ n ih =>
    intro x1 x2 x3 hf
    rw [lp_X6_leastLikeAll_7] at hf
    refine r_loc dX6_leastLikeAll_7 rfl ?_
    refine r_bipush (v := 8) dX6_leastLikeAll_8 rfl ?_
    refine r_ge (q := 79) dX6_leastLikeAll_10 rfl hf (fun hf => ?_) (fun hf => ?_)
    · refine r_loc dX6_leastLikeAll_79 rfl ?_
      cases hf
      exact r_ri T dX6_leastLikeAll_80
    · refine r_loc dX6_leastLikeAll_13 rfl ?_
      refine r_loc dX6_leastLikeAll_14 rfl ?_
      obtain ⟨v2, c1, hf⟩ := cal_inv hf
      have g3 := rf_X7_has (X := X) (d := d) (by omega) s0 x3 hs0 T c1
      refine r_virt (pre := [.int x3]) (rest := []) dX6_leastLikeAll_15 ct_6_21 rfl ((sh_S hs0)) (Nat.le_of_ble_eq_true rfl) (Nat.le_of_ble_eq_true rfl) g3 ?_
      refine r_eq0 (q := 73) dX6_leastLikeAll_18 rfl hf (fun hf => ?_) (fun hf => ?_)
      · refine r_loc (L' := [some (.ref s0), some (.int x1), some (.int x2), some (.int (x3 + 1)), none, none]) dX6_leastLikeAll_73 rfl ?_
        refine r_goto (q := 7) dX6_leastLikeAll_76 rfl ?_
        exact ih x1 x2 (x3 + 1) hf
      · refine r_iconst (v := 0) dX6_leastLikeAll_21 rfl ?_
        refine r_loc (L' := [some (.ref s0), some (.int x1), some (.int x2), some (.int x3), some (.int 0), none]) dX6_leastLikeAll_22 rfl ?_
        refine r_iconst (v := 0) dX6_leastLikeAll_24 rfl ?_
        refine r_loc (L' := [some (.ref s0), some (.int x1), some (.int x2), some (.int x3), some (.int 0), some (.int 0)]) dX6_leastLikeAll_25 rfl ?_
        refine rl_X6_leastLikeAll_27 (by omega) s0 x1 x2 x3 hs0 T _ ?_ 4000 0 0  hf
        · intro z7 hf
          refine r_loc dX6_leastLikeAll_62 rfl ?_
          refine r_loc dX6_leastLikeAll_64 rfl ?_
          refine r_ge (q := 73) dX6_leastLikeAll_65 rfl hf (fun hf => ?_) (fun hf => ?_)
          · refine r_loc (L' := [some (.ref s0), some (.int x1), some (.int x2), some (.int (x3 + 1)), some (.int z7), none]) dX6_leastLikeAll_73 rfl ?_
            refine r_goto (q := 7) dX6_leastLikeAll_76 rfl ?_
            refine r_weak (L := [some (.ref s0), some (.int x1), some (.int x2), some (.int (x3 + 1)), none, none]) (am_le_s (am_le_s (am_le_s (am_le_s (am_le_n (am_le_n am_le_0)))))) ?_
            exact ih x1 x2 (x3 + 1) hf
          · refine r_loc dX6_leastLikeAll_68 rfl ?_
            refine r_loc (L' := [some (.ref s0), some (.int x3), some (.int x2), some (.int x3), some (.int z7), none]) dX6_leastLikeAll_69 rfl ?_
            refine r_loc dX6_leastLikeAll_70 rfl ?_
            refine r_loc (L' := [some (.ref s0), some (.int x3), some (.int z7), some (.int x3), some (.int z7), none]) dX6_leastLikeAll_72 rfl ?_
            refine r_loc (L' := [some (.ref s0), some (.int x3), some (.int z7), some (.int (x3 + 1)), some (.int z7), none]) dX6_leastLikeAll_73 rfl ?_
            refine r_goto (q := 7) dX6_leastLikeAll_76 rfl ?_
            refine r_weak (L := [some (.ref s0), some (.int x3), some (.int z7), some (.int (x3 + 1)), none, none]) (am_le_s (am_le_s (am_le_s (am_le_s (am_le_n (am_le_n am_le_0)))))) ?_
            exact ih x3 z7 (x3 + 1) hf
theorem rf_X6_leastLikeAll {X : am_X} {d : Nat} (hd : 3 ≤ d) (s0 : Nat) (hs0 : s0 ∈ am_ST) {h : am_H} (T : am_TP h.2.2) {r : Int32} (hf : f_X6_leastLikeAll s0 h = some r) : am_G X d 6 false cX6_leastLikeAll (some .int) 0 [some (.ref s0), none, none, none, none, none] [] (am_SH, h) (some (.int r), (am_SH, h)) := by
  unfold f_X6_leastLikeAll at hf
  obtain ⟨d, rfl⟩ : ∃ e, d = e + 1 := ⟨d - 1, by omega⟩
  refine r_iconst (v := (-1)) dX6_leastLikeAll_0 rfl ?_
  refine r_loc (L' := [some (.ref s0), some (.int (-1)), none, none, none, none]) dX6_leastLikeAll_1 rfl ?_
  refine r_bipush (v := 49) dX6_leastLikeAll_2 rfl ?_
  refine r_loc (L' := [some (.ref s0), some (.int (-1)), some (.int 49), none, none, none]) dX6_leastLikeAll_4 rfl ?_
  refine r_iconst (v := 0) dX6_leastLikeAll_5 rfl ?_
  refine r_loc (L' := [some (.ref s0), some (.int (-1)), some (.int 49), some (.int 0), none, none]) dX6_leastLikeAll_6 rfl ?_
  refine rl_X6_leastLikeAll_7 (by omega) s0 hs0 T  4000 (-1) 49 0  hf
def f_X11_odd  (h : am_H) : Option (Int32) := cal (f_X6_leastLikeAll 27 h) fun v2 => some v2
theorem rf_X11_odd {X : am_X} {d : Nat} (hd : 4 ≤ d)  {h : am_H} (T : am_TP h.2.2) {r : Int32} (hf : f_X11_odd  h = some r) : am_G X d 11 false cX11_odd (some .int) 0 [some (.ref 0)] [] (am_SH, h) (some (.int r), (am_SH, h)) := by
  unfold f_X11_odd at hf
  obtain ⟨d, rfl⟩ : ∃ e, d = e + 1 := ⟨d - 1, by omega⟩
  refine r_loc dX11_odd_0 rfl ?_
  refine r_getR dX11_odd_1 fl_11_37 sh_0 (Or.inl ⟨_, rfl⟩) (tp_0_3 T) ?_
  obtain ⟨v2, c1, hf⟩ := cal_inv hf
  have g3 := rf_X6_leastLikeAll (X := X) (d := d) (by omega) 27 st_27 T c1
  refine r_stat (pre := [.ref 27]) (rest := []) dX11_odd_4 ct_11_290 rfl (Nat.le_of_ble_eq_true rfl) (Nat.le_of_ble_eq_true rfl) g3 ?_
  cases hf
  exact r_ri T dX11_odd_7
def lp_X6_countWith_4 (s0 : Nat) (p1 : Int32) (h : am_H) : Nat → Int32 → Int32 → Option (Int32)
  | 0, _, _ => none
  | n + 1, x2, x3 => if x3 < 8 then rdI h (s0 + 3) 8 x3 fun v1 => lp_X6_countWith_4 s0 p1 h n (x2 + ((v1 >>> (p1 &&& 31)) &&& 1)) (x3 + 1) else some x2
def f_X6_countWith (s0 : Nat) (x1 : Int32) (h : am_H) : Option (Int32) := lp_X6_countWith_4 s0 x1 h  4000 0 0
theorem rl_X6_countWith_4 {X : am_X} {d : Nat} (hd : 0 ≤ d) (s0 : Nat) (p1 : Int32) (hs0 : s0 ∈ am_ST) {h : am_H} (T : am_TP h.2.2) {r : Int32} : ∀ (n : Nat) (x2 : Int32) (x3 : Int32) , lp_X6_countWith_4 s0 p1 h n x2 x3 = some r → am_G X d 6 false cX6_countWith (some .int) 4 [some (.ref s0), some (.int p1), some (.int x2), some (.int x3)] [] (am_SH, h) (some (.int r), (am_SH, h)) := by
  intro n
  induction n with
  | zero => intro x2 x3 hf; cases hf
  | succ n ih =>
    intro x2 x3 hf
    rw [lp_X6_countWith_4] at hf
    refine r_loc dX6_countWith_4 rfl ?_
    refine r_bipush (v := 8) dX6_countWith_5 rfl ?_
    refine r_ge (q := 29) dX6_countWith_7 rfl hf (fun hf => ?_) (fun hf => ?_)
    · refine r_loc dX6_countWith_29 rfl ?_
      cases hf
      exact r_ri T dX6_countWith_30
    · refine r_loc dX6_countWith_10 rfl ?_
      refine r_loc dX6_countWith_11 rfl ?_
      refine r_getR dX6_countWith_12 fl_6_25 (sh_S hs0) (Or.inr ⟨_, rfl⟩) (tp_S_3 T hs0) ?_
      refine r_loc dX6_countWith_15 rfl ?_
      refine r_iald dX6_countWith_16 (sh_S_3 hs0) hf (fun v1 hf => ?_)
      refine r_loc dX6_countWith_17 rfl ?_
      refine r_alu dX6_countWith_18 rfl ?_
      refine r_iconst (v := 1) dX6_countWith_19 rfl ?_
      refine r_alu dX6_countWith_20 rfl ?_
      refine r_alu dX6_countWith_21 rfl ?_
      refine r_loc (L' := [some (.ref s0), some (.int p1), some (.int (x2 + ((v1 >>> (p1 &&& 31)) &&& 1))), some (.int x3)]) dX6_countWith_22 rfl ?_
      refine r_loc (L' := [some (.ref s0), some (.int p1), some (.int (x2 + ((v1 >>> (p1 &&& 31)) &&& 1))), some (.int (x3 + 1))]) dX6_countWith_23 rfl ?_
      refine r_goto (q := 4) dX6_countWith_26 rfl ?_
      exact ih (x2 + ((v1 >>> (p1 &&& 31)) &&& 1)) (x3 + 1) hf
theorem rf_X6_countWith {X : am_X} {d : Nat} (hd : 0 ≤ d) (s0 : Nat) (x1 : Int32) (hs0 : s0 ∈ am_ST) {h : am_H} (T : am_TP h.2.2) {r : Int32} (hf : f_X6_countWith s0 x1 h = some r) : am_G X d 6 false cX6_countWith (some .int) 0 [some (.ref s0), some (.int x1), none, none] [] (am_SH, h) (some (.int r), (am_SH, h)) := by
  unfold f_X6_countWith at hf
  refine r_iconst (v := 0) dX6_countWith_0 rfl ?_
  refine r_loc (L' := [some (.ref s0), some (.int x1), some (.int 0), none]) dX6_countWith_1 rfl ?_
  refine r_iconst (v := 0) dX6_countWith_2 rfl ?_
  refine r_loc (L' := [some (.ref s0), some (.int x1), some (.int 0), some (.int 0)]) dX6_countWith_3 rfl ?_
  refine rl_X6_countWith_4 (by omega) s0 x1 hs0 T  4000 0 0  hf
def f_X11_bearers (x1 : Int32) (h : am_H) : Option (Int32) := if x1 < 0 then some (-1) else if x1 < 6 then cal (f_X6_countWith 27 x1 h) fun v2 => some v2 else some (-1)
theorem rf_X11_bearers {X : am_X} {d : Nat} (hd : 1 ≤ d) (x1 : Int32) {h : am_H} (T : am_TP h.2.2) {r : Int32} (hf : f_X11_bearers x1 h = some r) : am_G X d 11 false cX11_bearers (some .int) 0 [some (.ref 0), some (.int x1)] [] (am_SH, h) (some (.int r), (am_SH, h)) := by
  unfold f_X11_bearers at hf
  obtain ⟨d, rfl⟩ : ∃ e, d = e + 1 := ⟨d - 1, by omega⟩
  refine r_loc dX11_bearers_0 rfl ?_
  refine r_lt0 (q := 21) dX11_bearers_1 rfl hf (fun hf => ?_) (fun hf => ?_)
  · refine r_iconst (v := (-1)) dX11_bearers_21 rfl ?_
    cases hf
    exact r_ri T dX11_bearers_22
  · refine r_loc dX11_bearers_4 rfl ?_
    refine r_bipush (v := 6) dX11_bearers_5 rfl ?_
    refine r_ge (q := 21) dX11_bearers_7 rfl hf (fun hf => ?_) (fun hf => ?_)
    · refine r_iconst (v := (-1)) dX11_bearers_21 rfl ?_
      cases hf
      exact r_ri T dX11_bearers_22
    · refine r_loc dX11_bearers_10 rfl ?_
      refine r_getR dX11_bearers_11 fl_11_37 sh_0 (Or.inl ⟨_, rfl⟩) (tp_0_3 T) ?_
      refine r_loc dX11_bearers_14 rfl ?_
      obtain ⟨v2, c1, hf⟩ := cal_inv hf
      have g3 := rf_X6_countWith (X := X) (d := d) (by omega) 27 x1 st_27 T c1
      refine r_stat (pre := [.int x1, .ref 27]) (rest := []) dX11_bearers_15 ct_11_293 rfl (Nat.le_of_ble_eq_true rfl) (Nat.le_of_ble_eq_true rfl) g3 ?_
      refine r_goto (q := 22) dX11_bearers_18 rfl ?_
      cases hf
      exact r_ri T dX11_bearers_22
def lp_X11_pining_4 (h : am_H) : Nat → Int32 → Int32 → Option (Int32)
  | 0, _, _ => none
  | n + 1, x1, x2 => if x2 < 8 then rdI h (27 + 5) 8 x2 fun v1 => if 0 < v1 then lp_X11_pining_4 h n (x1 ||| ((1 : Int32) <<< (x2 &&& 31))) (x2 + 1) else lp_X11_pining_4 h n x1 (x2 + 1) else some x1
def f_X11_pining  (h : am_H) : Option (Int32) := lp_X11_pining_4 h  4000 0 0
theorem rl_X11_pining_4 {X : am_X} {d : Nat} (hd : 0 ≤ d) {h : am_H} (T : am_TP h.2.2) {r : Int32} : ∀ (n : Nat) (x1 : Int32) (x2 : Int32) , lp_X11_pining_4 h n x1 x2 = some r → am_G X d 11 false cX11_pining (some .int) 4 [some (.ref 0), some (.int x1), some (.int x2)] [] (am_SH, h) (some (.int r), (am_SH, h)) := by
  intro n
  induction n with
  | zero => intro x1 x2 hf; cases hf
  | succ n ih =>
    intro x1 x2 hf
    rw [lp_X11_pining_4] at hf
    refine r_loc dX11_pining_4 rfl ?_
    refine r_bipush (v := 8) dX11_pining_5 rfl ?_
    refine r_ge (q := 34) dX11_pining_7 rfl hf (fun hf => ?_) (fun hf => ?_)
    · refine r_loc dX11_pining_34 rfl ?_
      cases hf
      exact r_ri T dX11_pining_35
    · refine r_loc dX11_pining_10 rfl ?_
      refine r_getR dX11_pining_11 fl_11_37 sh_0 (Or.inl ⟨_, rfl⟩) (tp_0_3 T) ?_
      refine r_getR dX11_pining_14 fl_11_152 (sh_S st_27) (Or.inr ⟨_, rfl⟩) (tp_S_5 T st_27) ?_
      refine r_loc dX11_pining_17 rfl ?_
      refine r_iald dX11_pining_18 (sh_S_5 st_27) hf (fun v1 hf => ?_)
      refine r_le0 (q := 28) dX11_pining_19 rfl hf (fun hf => ?_) (fun hf => ?_)
      · refine r_loc (L' := [some (.ref 0), some (.int x1), some (.int (x2 + 1))]) dX11_pining_28 rfl ?_
        refine r_goto (q := 4) dX11_pining_31 rfl ?_
        exact ih x1 (x2 + 1) hf
      · refine r_loc dX11_pining_22 rfl ?_
        refine r_iconst (v := 1) dX11_pining_23 rfl ?_
        refine r_loc dX11_pining_24 rfl ?_
        refine r_alu dX11_pining_25 rfl ?_
        refine r_alu dX11_pining_26 rfl ?_
        refine r_loc (L' := [some (.ref 0), some (.int (x1 ||| ((1 : Int32) <<< (x2 &&& 31)))), some (.int x2)]) dX11_pining_27 rfl ?_
        refine r_loc (L' := [some (.ref 0), some (.int (x1 ||| ((1 : Int32) <<< (x2 &&& 31)))), some (.int (x2 + 1))]) dX11_pining_28 rfl ?_
        refine r_goto (q := 4) dX11_pining_31 rfl ?_
        exact ih (x1 ||| ((1 : Int32) <<< (x2 &&& 31))) (x2 + 1) hf
theorem rf_X11_pining {X : am_X} {d : Nat} (hd : 0 ≤ d)  {h : am_H} (T : am_TP h.2.2) {r : Int32} (hf : f_X11_pining  h = some r) : am_G X d 11 false cX11_pining (some .int) 0 [some (.ref 0), none, none] [] (am_SH, h) (some (.int r), (am_SH, h)) := by
  unfold f_X11_pining at hf
  refine r_iconst (v := 0) dX11_pining_0 rfl ?_
  refine r_loc (L' := [some (.ref 0), some (.int 0), none]) dX11_pining_1 rfl ?_
  refine r_iconst (v := 0) dX11_pining_2 rfl ?_
  refine r_loc (L' := [some (.ref 0), some (.int 0), some (.int 0)]) dX11_pining_3 rfl ?_
  refine rl_X11_pining_4 (by omega) T  4000 0 0  hf
def f_X3_hold (x1 : Int32) (x2 : Int32) (x3 : Int32) (h : am_H) : Option (Int32 × am_H) := bnd (h.1 404 8) fun v1 => if v1 < 0 then some ((-1), h) else if v1 < 30 then wrI h 405 30 v1 x1 fun h2 => wrI h2 406 30 v1 x2 fun h5 => wrI h5 407 30 v1 (vp_nar .boolean x3) fun h8 => bnd (h8.1 404 9) fun v11 => wrI h8 408 30 v1 v11 fun h12 => wrI h12 410 30 v1 (vp_nar .boolean 0) fun h15 => bnd (h15.1 404 8) fun v18 => ptI h15 404 8 (v18 + 1) fun h19 => some (v1, h19) else some ((-1), h)
theorem rf_X3_hold {X : am_X} {d : Nat} (hd : 0 ≤ d) (x1 : Int32) (x2 : Int32) (x3 : Int32) {h : am_H} (T : am_TP h.2.2) {r : Int32 × am_H} (hf : f_X3_hold x1 x2 x3 h = some r) : am_G X d 3 false cX3_hold (some .int) 0 [some (.ref 404), some (.int x1), some (.int x2), some (.int x3), none] [] (am_SH, h) (some (.int r.1), (am_SH, r.2)) := by
  unfold f_X3_hold at hf
  refine r_loc dX3_hold_0 rfl ?_
  refine r_getI dX3_hold_1 fl_3_34 sh_404 rfl hf (fun v1 hf => ?_)
  refine r_loc (L' := [some (.ref 404), some (.int x1), some (.int x2), some (.int x3), some (.int v1)]) dX3_hold_4 rfl ?_
  refine r_loc dX3_hold_6 rfl ?_
  refine r_lt0 (q := 18) dX3_hold_8 rfl hf (fun hf => ?_) (fun hf => ?_)
  · refine r_iconst (v := (-1)) dX3_hold_18 rfl ?_
    cases hf
    exact r_ri T dX3_hold_19
  · refine r_loc dX3_hold_11 rfl ?_
    refine r_bipush (v := 30) dX3_hold_13 rfl ?_
    refine r_lt (q := 20) dX3_hold_15 rfl hf (fun hf => ?_) (fun hf => ?_)
    · refine r_loc dX3_hold_20 rfl ?_
      refine r_getR dX3_hold_21 fl_3_9 sh_404 (Or.inr ⟨_, rfl⟩) (tp_404_1 T) ?_
      refine r_loc dX3_hold_24 rfl ?_
      refine r_loc dX3_hold_26 rfl ?_
      refine r_iast dX3_hold_27 sh_405 hf (fun h2 e4 hf => ?_)
      have T3 := tp_eq e4 T
      refine r_loc dX3_hold_28 rfl ?_
      refine r_getR dX3_hold_29 fl_3_15 sh_404 (Or.inr ⟨_, rfl⟩) (tp_404_2 T3) ?_
      refine r_loc dX3_hold_32 rfl ?_
      refine r_loc dX3_hold_34 rfl ?_
      refine r_iast dX3_hold_35 sh_406 hf (fun h5 e7 hf => ?_)
      have T6 := tp_eq e7 T3
      refine r_loc dX3_hold_36 rfl ?_
      refine r_getR dX3_hold_37 fl_3_18 sh_404 (Or.inr ⟨_, rfl⟩) (tp_404_3 T6) ?_
      refine r_loc dX3_hold_40 rfl ?_
      refine r_loc dX3_hold_42 rfl ?_
      refine r_bast dX3_hold_43 sh_407 rfl hf (fun h8 e10 hf => ?_)
      have T9 := tp_eq e10 T6
      refine r_loc dX3_hold_44 rfl ?_
      refine r_getR dX3_hold_45 fl_3_22 sh_404 (Or.inr ⟨_, rfl⟩) (tp_404_4 T9) ?_
      refine r_loc dX3_hold_48 rfl ?_
      refine r_loc dX3_hold_50 rfl ?_
      refine r_getI dX3_hold_51 fl_3_38 sh_404 rfl hf (fun v11 hf => ?_)
      refine r_iast dX3_hold_54 sh_408 hf (fun h12 e14 hf => ?_)
      have T13 := tp_eq e14 T9
      refine r_loc dX3_hold_55 rfl ?_
      refine r_getR dX3_hold_56 fl_3_28 sh_404 (Or.inr ⟨_, rfl⟩) (tp_404_6 T13) ?_
      refine r_loc dX3_hold_59 rfl ?_
      refine r_iconst (v := 0) dX3_hold_61 rfl ?_
      refine r_bast dX3_hold_62 sh_410 rfl hf (fun h15 e17 hf => ?_)
      have T16 := tp_eq e17 T13
      refine r_loc dX3_hold_63 rfl ?_
      refine r_alu dX3_hold_64 rfl ?_
      refine r_getI dX3_hold_65 fl_3_34 sh_404 rfl hf (fun v18 hf => ?_)
      refine r_iconst (v := 1) dX3_hold_68 rfl ?_
      refine r_alu dX3_hold_69 rfl ?_
      refine r_putI dX3_hold_70 fl_3_34 sh_404 ⟨rfl, rfl⟩ hf (fun h19 e21 hf => ?_)
      have T20 := tp_eq e21 T16
      refine r_loc dX3_hold_73 rfl ?_
      cases hf
      exact r_ri T20 dX3_hold_75
    · refine r_iconst (v := (-1)) dX3_hold_18 rfl ?_
      cases hf
      exact r_ri T dX3_hold_19
def f_X11_held (x1 : Int32) (x2 : Int32) (x3 : Int32) (h : am_H) : Option (Int32 × am_H) := if x1 < 0 then some ((-1), h) else bnd (h.1 4 7) fun v1 => if x1 < (v1 - 1) then if x2 < 0 then some ((-1), h) else if 6 < x2 then some ((-1), h) else cal2 (f_X3_hold x1 x2 x3 h) fun v3 h5 => some (v3, h5) else some ((-1), h)
theorem rf_X11_held {X : am_X} {d : Nat} (hd : 1 ≤ d) (x1 : Int32) (x2 : Int32) (x3 : Int32) {h : am_H} (T : am_TP h.2.2) {r : Int32 × am_H} (hf : f_X11_held x1 x2 x3 h = some r) : am_G X d 11 false cX11_held (some .int) 0 [some (.ref 0), some (.int x1), some (.int x2), some (.int x3)] [] (am_SH, h) (some (.int r.1), (am_SH, r.2)) := by
  unfold f_X11_held at hf
  obtain ⟨d, rfl⟩ : ∃ e, d = e + 1 := ⟨d - 1, by omega⟩
  refine r_loc dX11_held_0 rfl ?_
  refine r_lt0 (q := 27) dX11_held_1 rfl hf (fun hf => ?_) (fun hf => ?_)
  · refine r_iconst (v := (-1)) dX11_held_27 rfl ?_
    cases hf
    exact r_ri T dX11_held_28
  · refine r_loc dX11_held_4 rfl ?_
    refine r_loc dX11_held_5 rfl ?_
    refine r_getR dX11_held_6 fl_11_19 sh_0 (Or.inl ⟨_, rfl⟩) (tp_0_1 T) ?_
    refine r_getI dX11_held_9 fl_11_114 sh_4 rfl hf (fun v1 hf => ?_)
    refine r_iconst (v := 1) dX11_held_12 rfl ?_
    refine r_alu dX11_held_13 rfl ?_
    refine r_ge (q := 27) dX11_held_14 rfl hf (fun hf => ?_) (fun hf => ?_)
    · refine r_iconst (v := (-1)) dX11_held_27 rfl ?_
      cases hf
      exact r_ri T dX11_held_28
    · refine r_loc dX11_held_17 rfl ?_
      refine r_lt0 (q := 27) dX11_held_18 rfl hf (fun hf => ?_) (fun hf => ?_)
      · refine r_iconst (v := (-1)) dX11_held_27 rfl ?_
        cases hf
        exact r_ri T dX11_held_28
      · refine r_loc dX11_held_21 rfl ?_
        refine r_bipush (v := 6) dX11_held_22 rfl ?_
        refine r_le (q := 29) dX11_held_24 rfl hf (fun hf => ?_) (fun hf => ?_)
        · refine r_loc dX11_held_29 rfl ?_
          refine r_getR dX11_held_30 fl_11_72 sh_0 (Or.inl ⟨_, rfl⟩) (tp_0_8 T) ?_
          refine r_loc dX11_held_33 rfl ?_
          refine r_loc dX11_held_34 rfl ?_
          refine r_loc dX11_held_35 rfl ?_
          obtain ⟨v3, h5, c2, hf⟩ := cal2_inv hf
          have g7 := rf_X3_hold (X := X) (d := d) (by omega) x1 x2 x3 T c2
          have T6 : am_TP h5.2.2 := g7.2
          refine r_virt (pre := [.int x3, .int x2, .int x1]) (rest := []) dX11_held_36 ct_11_296 rfl (sh_404) (Nat.le_of_ble_eq_true rfl) (Nat.le_of_ble_eq_true rfl) g7 ?_
          cases hf
          exact r_ri T6 dX11_held_39
        · refine r_iconst (v := (-1)) dX11_held_27 rfl ?_
          cases hf
          exact r_ri T dX11_held_28
def f_X3_takeBack (x1 : Int32) (h : am_H) : Option (Int32 × am_H) := if x1 < 0 then some (0, h) else bnd (h.1 404 8) fun v1 => if x1 < v1 then if x1 < 30 then rdI h 410 30 x1 fun v2 => if v2 = 0 then wrI h 410 30 x1 (vp_nar .boolean 1) fun h3 => bnd (h3.1 404 9) fun v6 => wrI h3 409 30 x1 v6 fun h7 => some (1, h7) else some (0, h) else some (0, h) else some (0, h)
theorem rf_X3_takeBack {X : am_X} {d : Nat} (hd : 0 ≤ d) (x1 : Int32) {h : am_H} (T : am_TP h.2.2) {r : Int32 × am_H} (hf : f_X3_takeBack x1 h = some r) : am_G X d 3 false cX3_takeBack (some .boolean) 0 [some (.ref 404), some (.int x1)] [] (am_SH, h) (some (.int r.1), (am_SH, r.2)) := by
  unfold f_X3_takeBack at hf
  refine r_loc dX3_takeBack_0 rfl ?_
  refine r_lt0 (q := 27) dX3_takeBack_1 rfl hf (fun hf => ?_) (fun hf => ?_)
  · refine r_iconst (v := 0) dX3_takeBack_27 rfl ?_
    cases hf
    exact r_z0 T dX3_takeBack_28
  · refine r_loc dX3_takeBack_4 rfl ?_
    refine r_loc dX3_takeBack_5 rfl ?_
    refine r_getI dX3_takeBack_6 fl_3_34 sh_404 rfl hf (fun v1 hf => ?_)
    refine r_ge (q := 27) dX3_takeBack_9 rfl hf (fun hf => ?_) (fun hf => ?_)
    · refine r_iconst (v := 0) dX3_takeBack_27 rfl ?_
      cases hf
      exact r_z0 T dX3_takeBack_28
    · refine r_loc dX3_takeBack_12 rfl ?_
      refine r_bipush (v := 30) dX3_takeBack_13 rfl ?_
      refine r_ge (q := 27) dX3_takeBack_15 rfl hf (fun hf => ?_) (fun hf => ?_)
      · refine r_iconst (v := 0) dX3_takeBack_27 rfl ?_
        cases hf
        exact r_z0 T dX3_takeBack_28
      · refine r_loc dX3_takeBack_18 rfl ?_
        refine r_getR dX3_takeBack_19 fl_3_28 sh_404 (Or.inr ⟨_, rfl⟩) (tp_404_6 T) ?_
        refine r_loc dX3_takeBack_22 rfl ?_
        refine r_bald dX3_takeBack_23 sh_410 rfl hf (fun v2 hf => ?_)
        refine r_eq0 (q := 29) dX3_takeBack_24 rfl hf (fun hf => ?_) (fun hf => ?_)
        · refine r_loc dX3_takeBack_29 rfl ?_
          refine r_getR dX3_takeBack_30 fl_3_28 sh_404 (Or.inr ⟨_, rfl⟩) (tp_404_6 T) ?_
          refine r_loc dX3_takeBack_33 rfl ?_
          refine r_iconst (v := 1) dX3_takeBack_34 rfl ?_
          refine r_bast dX3_takeBack_35 sh_410 rfl hf (fun h3 e5 hf => ?_)
          have T4 := tp_eq e5 T
          refine r_loc dX3_takeBack_36 rfl ?_
          refine r_getR dX3_takeBack_37 fl_3_25 sh_404 (Or.inr ⟨_, rfl⟩) (tp_404_5 T4) ?_
          refine r_loc dX3_takeBack_40 rfl ?_
          refine r_loc dX3_takeBack_41 rfl ?_
          refine r_getI dX3_takeBack_42 fl_3_38 sh_404 rfl hf (fun v6 hf => ?_)
          refine r_iast dX3_takeBack_45 sh_409 hf (fun h7 e9 hf => ?_)
          have T8 := tp_eq e9 T4
          refine r_iconst (v := 1) dX3_takeBack_46 rfl ?_
          cases hf
          exact r_z1 T8 dX3_takeBack_47
        · refine r_iconst (v := 0) dX3_takeBack_27 rfl ?_
          cases hf
          exact r_z0 T dX3_takeBack_28
def f_X11_untell (x1 : Int32) (h : am_H) : Option (Int32 × am_H) := cal2 (f_X3_takeBack x1 h) fun v2 h4 => zrt v2 (some (v2, h4))
theorem rf_X11_untell {X : am_X} {d : Nat} (hd : 1 ≤ d) (x1 : Int32) {h : am_H} (T : am_TP h.2.2) {r : Int32 × am_H} (hf : f_X11_untell x1 h = some r) : am_G X d 11 false cX11_untell (some .boolean) 0 [some (.ref 0), some (.int x1)] [] (am_SH, h) (some (.int r.1), (am_SH, r.2)) := by
  unfold f_X11_untell at hf
  obtain ⟨d, rfl⟩ : ∃ e, d = e + 1 := ⟨d - 1, by omega⟩
  refine r_loc dX11_untell_0 rfl ?_
  refine r_getR dX11_untell_1 fl_11_72 sh_0 (Or.inl ⟨_, rfl⟩) (tp_0_8 T) ?_
  refine r_loc dX11_untell_4 rfl ?_
  obtain ⟨v2, h4, c1, hf⟩ := cal2_inv hf
  have g6 := rf_X3_takeBack (X := X) (d := d) (by omega) x1 T c1
  have T5 : am_TP h4.2.2 := g6.2
  refine r_virt (pre := [.int x1]) (rest := []) dX11_untell_5 ct_11_300 rfl (sh_404) (Nat.le_of_ble_eq_true rfl) (Nat.le_of_ble_eq_true rfl) g6 ?_
  exact r_zret T5 dX11_untell_8 hf (fun hf => by cases hf; rfl)
def f_X11_later (x1 : Int32) (h : am_H) : Option (Int32 × am_H) := if x1 < 0 then some ((-1), h) else if 1000 < x1 then some ((-1), h) else bnd (h.1 404 9) fun v1 => if ((100000 : Int32) - x1) < v1 then some ((-1), h) else bnd (h.1 404 9) fun v2 => ptI h 404 9 (v2 + x1) fun h3 => bnd (h3.1 404 9) fun v6 => some (v6, h3)
theorem rf_X11_later {X : am_X} {d : Nat} (hd : 0 ≤ d) (x1 : Int32) {h : am_H} (T : am_TP h.2.2) {r : Int32 × am_H} (hf : f_X11_later x1 h = some r) : am_G X d 11 false cX11_later (some .int) 0 [some (.ref 0), some (.int x1)] [] (am_SH, h) (some (.int r.1), (am_SH, r.2)) := by
  unfold f_X11_later at hf
  refine r_loc dX11_later_0 rfl ?_
  refine r_lt0 (q := 26) dX11_later_1 rfl hf (fun hf => ?_) (fun hf => ?_)
  · refine r_iconst (v := (-1)) dX11_later_26 rfl ?_
    cases hf
    exact r_ri T dX11_later_27
  · refine r_loc dX11_later_4 rfl ?_
    refine r_sipush (v := 1000) dX11_later_5 rfl ?_
    refine r_gt (q := 26) dX11_later_8 rfl hf (fun hf => ?_) (fun hf => ?_)
    · refine r_iconst (v := (-1)) dX11_later_26 rfl ?_
      cases hf
      exact r_ri T dX11_later_27
    · refine r_loc dX11_later_11 rfl ?_
      refine r_getR dX11_later_12 fl_11_72 sh_0 (Or.inl ⟨_, rfl⟩) (tp_0_8 T) ?_
      refine r_getI dX11_later_15 fl_11_303 sh_404 rfl hf (fun v1 hf => ?_)
      refine r_ldcw dX11_later_18 k32_11_306 ?_
      refine r_loc dX11_later_21 rfl ?_
      refine r_alu dX11_later_22 rfl ?_
      refine r_le (q := 28) dX11_later_23 rfl hf (fun hf => ?_) (fun hf => ?_)
      · refine r_loc dX11_later_28 rfl ?_
        refine r_getR dX11_later_29 fl_11_72 sh_0 (Or.inl ⟨_, rfl⟩) (tp_0_8 T) ?_
        refine r_alu dX11_later_32 rfl ?_
        refine r_getI dX11_later_33 fl_11_303 sh_404 rfl hf (fun v2 hf => ?_)
        refine r_loc dX11_later_36 rfl ?_
        refine r_alu dX11_later_37 rfl ?_
        refine r_putI dX11_later_38 fl_11_303 sh_404 ⟨rfl, rfl⟩ hf (fun h3 e5 hf => ?_)
        have T4 := tp_eq e5 T
        refine r_loc dX11_later_41 rfl ?_
        refine r_getR dX11_later_42 fl_11_72 sh_0 (Or.inl ⟨_, rfl⟩) (tp_0_8 T4) ?_
        refine r_getI dX11_later_45 fl_11_303 sh_404 rfl hf (fun v6 hf => ?_)
        cases hf
        exact r_ri T4 dX11_later_48
      · refine r_iconst (v := (-1)) dX11_later_26 rfl ?_
        cases hf
        exact r_ri T dX11_later_27
def f_X3_sharedWith (x1 : Int32) (x2 : Int32) (h : am_H) : Option (Int32) := if x1 < 0 then some (-1) else if x1 < 6 then rdI h 8 6 x1 fun v1 => cal (f_J6_bitCount_0f7a4 (v1 ^^^ x2) h) fun v3 => some ((6 : Int32) - v3) else some (-1)
theorem rf_X3_sharedWith {X : am_X} {d : Nat} (hd : 1 ≤ d) (x1 : Int32) (x2 : Int32) {h : am_H} (T : am_TP h.2.2) {r : Int32} (hf : f_X3_sharedWith x1 x2 h = some r) : am_G X d 3 false cX3_sharedWith (some .int) 0 [some (.ref 404), some (.int x1), some (.int x2)] [] (am_SH, h) (some (.int r), (am_SH, h)) := by
  unfold f_X3_sharedWith at hf
  obtain ⟨d, rfl⟩ : ∃ e, d = e + 1 := ⟨d - 1, by omega⟩
  refine r_loc dX3_sharedWith_0 rfl ?_
  refine r_lt0 (q := 30) dX3_sharedWith_1 rfl hf (fun hf => ?_) (fun hf => ?_)
  · refine r_iconst (v := (-1)) dX3_sharedWith_30 rfl ?_
    cases hf
    exact r_ri T dX3_sharedWith_31
  · refine r_loc dX3_sharedWith_4 rfl ?_
    refine r_bipush (v := 6) dX3_sharedWith_5 rfl ?_
    refine r_ge (q := 30) dX3_sharedWith_7 rfl hf (fun hf => ?_) (fun hf => ?_)
    · refine r_iconst (v := (-1)) dX3_sharedWith_30 rfl ?_
      cases hf
      exact r_ri T dX3_sharedWith_31
    · refine r_bipush (v := 6) dX3_sharedWith_10 rfl ?_
      refine r_loc dX3_sharedWith_12 rfl ?_
      refine r_getR dX3_sharedWith_13 fl_3_41 sh_404 (Or.inl ⟨_, rfl⟩) (tp_404_0 T) ?_
      refine r_getR dX3_sharedWith_16 fl_3_66 sh_4 (Or.inr ⟨_, rfl⟩) (tp_4_3 T) ?_
      refine r_loc dX3_sharedWith_19 rfl ?_
      refine r_iald dX3_sharedWith_20 sh_8 hf (fun v1 hf => ?_)
      refine r_loc dX3_sharedWith_21 rfl ?_
      refine r_alu dX3_sharedWith_22 rfl ?_
      obtain ⟨v3, c2, hf⟩ := cal_inv hf
      have g4 := rf_J6_bitCount_0f7a4 (X := X) (d := d) (by omega) (v1 ^^^ x2) T c2
      refine r_stat (pre := [.int (v1 ^^^ x2)]) (rest := [.int 6]) dX3_sharedWith_23 ct_3_69 rfl (Nat.le_of_ble_eq_true rfl) (Nat.le_of_ble_eq_true rfl) g4 ?_
      refine r_alu dX3_sharedWith_26 rfl ?_
      refine r_goto (q := 31) dX3_sharedWith_27 rfl ?_
      cases hf
      exact r_ri T dX3_sharedWith_31
def jn_X3_isFitting_95 (k_15 : Int32 → Option (Int32)) (x1 : Int32) (x2 : Int32) (x3 : Int32) (y0 : Int32) (h : am_H) : Option (Int32) := rdI h 407 30 x3 fun v9 => if y0 = v9 then k_15 (x3 + 1) else some 0
def jn_X3_isFitting_63 (k_15 : Int32 → Option (Int32)) (x1 : Int32) (x2 : Int32) (x3 : Int32) (y0 : Int32) (h : am_H) : Option (Int32) := if y0 = 0 then k_15 (x3 + 1) else rdI h 405 30 x3 fun v4 => cal (f_X3_sharedWith v4 x1 h) fun v6 => rdI h 406 30 x3 fun v8 => if v6 < v8 then jn_X3_isFitting_95 (k_15) x1 x2 x3 0 h else jn_X3_isFitting_95 (k_15) x1 x2 x3 1 h
def jn_X3_isFitting_62 (k_15 : Int32 → Option (Int32)) (x1 : Int32) (x2 : Int32) (x3 : Int32) (h : am_H) : Option (Int32) := jn_X3_isFitting_63 (k_15) x1 x2 x3 0 h
def jn_X3_isFitting_58 (k_15 : Int32 → Option (Int32)) (x1 : Int32) (x2 : Int32) (x3 : Int32) (h : am_H) : Option (Int32) := jn_X3_isFitting_63 (k_15) x1 x2 x3 1 h
def lp_X3_isFitting_15 (p1 : Int32) (p2 : Int32) (h : am_H) : Nat → Int32 → Option (Int32)
  | 0, _ => none
  | n + 1, x3 => bnd (h.1 404 8) fun v2 => if x3 < v2 then if x3 < 30 then rdI h 408 30 x3 fun v3 => if p2 < v3 then jn_X3_isFitting_62 (lp_X3_isFitting_15 p1 p2 h n) p1 p2 x3 h else rdI h 410 30 x3 fun v10 => if v10 = 0 then jn_X3_isFitting_58 (lp_X3_isFitting_15 p1 p2 h n) p1 p2 x3 h else rdI h 409 30 x3 fun v11 => if p2 < v11 then jn_X3_isFitting_58 (lp_X3_isFitting_15 p1 p2 h n) p1 p2 x3 h else jn_X3_isFitting_62 (lp_X3_isFitting_15 p1 p2 h n) p1 p2 x3 h else some 1 else some 1
def f_X3_isFitting (x1 : Int32) (x2 : Int32) (h : am_H) : Option (Int32) := bnd (h.1 4 7) fun v1 => if v1 < 1 then some 0 else lp_X3_isFitting_15 x1 x2 h  4000 0
theorem rj_X3_isFitting_95 {X : am_X} {d : Nat} (hd : 2 ≤ d) (k_15 : Int32 → Option (Int32)) (x1 : Int32) (x2 : Int32) (x3 : Int32) (y0 : Int32) {h : am_H} (T : am_TP h.2.2) {r : Int32} (hk_15 : ∀ (x3 : Int32) , k_15 x3 = some r → am_G X d 3 false cX3_isFitting (some .boolean) 15 [some (.ref 404), some (.int x1), some (.int x2), some (.int x3), none] [] (am_SH, h) (some (.int r), (am_SH, h))) (hf : jn_X3_isFitting_95 k_15 x1 x2 x3 y0 h = some r) : am_G X d 3 false cX3_isFitting (some .boolean) 95 [some (.ref 404), some (.int x1), some (.int x2), some (.int x3), none] [.int y0] (am_SH, h) (some (.int r), (am_SH, h)) := by
  obtain ⟨d, rfl⟩ : ∃ e, d = e + 1 := ⟨d - 1, by omega⟩
  unfold jn_X3_isFitting_95 at hf
  refine r_loc dX3_isFitting_95 rfl ?_
  refine r_getR dX3_isFitting_96 fl_3_18 sh_404 (Or.inr ⟨_, rfl⟩) (tp_404_3 T) ?_
  refine r_loc dX3_isFitting_99 rfl ?_
  refine r_bald dX3_isFitting_100 sh_407 rfl hf (fun v9 hf => ?_)
  refine r_eq (q := 106) dX3_isFitting_101 rfl hf (fun hf => ?_) (fun hf => ?_)
  · refine r_loc (L' := [some (.ref 404), some (.int x1), some (.int x2), some (.int (x3 + 1)), none]) dX3_isFitting_106 rfl ?_
    refine r_goto (q := 15) dX3_isFitting_109 rfl ?_
    exact hk_15 (x3 + 1) hf
  · refine r_iconst (v := 0) dX3_isFitting_104 rfl ?_
    cases hf
    exact r_z0 T dX3_isFitting_105
theorem rj_X3_isFitting_63 {X : am_X} {d : Nat} (hd : 2 ≤ d) (k_15 : Int32 → Option (Int32)) (x1 : Int32) (x2 : Int32) (x3 : Int32) (y0 : Int32) {h : am_H} (T : am_TP h.2.2) {r : Int32} (hk_15 : ∀ (x3 : Int32) , k_15 x3 = some r → am_G X d 3 false cX3_isFitting (some .boolean) 15 [some (.ref 404), some (.int x1), some (.int x2), some (.int x3), none] [] (am_SH, h) (some (.int r), (am_SH, h))) (hf : jn_X3_isFitting_63 k_15 x1 x2 x3 y0 h = some r) : am_G X d 3 false cX3_isFitting (some .boolean) 63 [some (.ref 404), some (.int x1), some (.int x2), some (.int x3), none] [.int y0] (am_SH, h) (some (.int r), (am_SH, h)) := by
  obtain ⟨d, rfl⟩ : ∃ e, d = e + 1 := ⟨d - 1, by omega⟩
  unfold jn_X3_isFitting_63 at hf
  refine r_loc (L' := [some (.ref 404), some (.int x1), some (.int x2), some (.int x3), some (.int y0)]) dX3_isFitting_63 rfl ?_
  refine r_loc dX3_isFitting_65 rfl ?_
  refine r_eq0 (q := 106) dX3_isFitting_67 rfl hf (fun hf => ?_) (fun hf => ?_)
  · refine r_loc (L' := [some (.ref 404), some (.int x1), some (.int x2), some (.int (x3 + 1)), some (.int y0)]) dX3_isFitting_106 rfl ?_
    refine r_goto (q := 15) dX3_isFitting_109 rfl ?_
    refine r_weak (L := [some (.ref 404), some (.int x1), some (.int x2), some (.int (x3 + 1)), none]) (am_le_s (am_le_s (am_le_s (am_le_s (am_le_n am_le_0))))) ?_
    exact hk_15 (x3 + 1) hf
  · refine r_loc dX3_isFitting_70 rfl ?_
    refine r_loc dX3_isFitting_71 rfl ?_
    refine r_getR dX3_isFitting_72 fl_3_9 sh_404 (Or.inr ⟨_, rfl⟩) (tp_404_1 T) ?_
    refine r_loc dX3_isFitting_75 rfl ?_
    refine r_iald dX3_isFitting_76 sh_405 hf (fun v4 hf => ?_)
    refine r_loc dX3_isFitting_77 rfl ?_
    obtain ⟨v6, c5, hf⟩ := cal_inv hf
    have g7 := rf_X3_sharedWith (X := X) (d := d) (by omega) v4 x1 T c5
    refine r_virt (pre := [.int x1, .int v4]) (rest := []) dX3_isFitting_78 ct_3_58 rfl (sh_404) (Nat.le_of_ble_eq_true rfl) (Nat.le_of_ble_eq_true rfl) g7 ?_
    refine r_loc dX3_isFitting_81 rfl ?_
    refine r_getR dX3_isFitting_82 fl_3_15 sh_404 (Or.inr ⟨_, rfl⟩) (tp_404_2 T) ?_
    refine r_loc dX3_isFitting_85 rfl ?_
    refine r_iald dX3_isFitting_86 sh_406 hf (fun v8 hf => ?_)
    refine r_lt (q := 94) dX3_isFitting_87 rfl hf (fun hf => ?_) (fun hf => ?_)
    · refine r_iconst (v := 0) dX3_isFitting_94 rfl ?_
      refine r_weak (L := [some (.ref 404), some (.int x1), some (.int x2), some (.int x3), none]) (am_le_s (am_le_s (am_le_s (am_le_s (am_le_n am_le_0))))) ?_
      exact rj_X3_isFitting_95 (by omega) (k_15) x1 x2 x3 0 T (hk_15) hf
    · refine r_iconst (v := 1) dX3_isFitting_90 rfl ?_
      refine r_goto (q := 95) dX3_isFitting_91 rfl ?_
      refine r_weak (L := [some (.ref 404), some (.int x1), some (.int x2), some (.int x3), none]) (am_le_s (am_le_s (am_le_s (am_le_s (am_le_n am_le_0))))) ?_
      exact rj_X3_isFitting_95 (by omega) (k_15) x1 x2 x3 1 T (hk_15) hf
theorem rj_X3_isFitting_62 {X : am_X} {d : Nat} (hd : 2 ≤ d) (k_15 : Int32 → Option (Int32)) (x1 : Int32) (x2 : Int32) (x3 : Int32) {h : am_H} (T : am_TP h.2.2) {r : Int32} (hk_15 : ∀ (x3 : Int32) , k_15 x3 = some r → am_G X d 3 false cX3_isFitting (some .boolean) 15 [some (.ref 404), some (.int x1), some (.int x2), some (.int x3), none] [] (am_SH, h) (some (.int r), (am_SH, h))) (hf : jn_X3_isFitting_62 k_15 x1 x2 x3 h = some r) : am_G X d 3 false cX3_isFitting (some .boolean) 62 [some (.ref 404), some (.int x1), some (.int x2), some (.int x3), none] [] (am_SH, h) (some (.int r), (am_SH, h)) := by
  obtain ⟨d, rfl⟩ : ∃ e, d = e + 1 := ⟨d - 1, by omega⟩
  unfold jn_X3_isFitting_62 at hf
  refine r_iconst (v := 0) dX3_isFitting_62 rfl ?_
  exact rj_X3_isFitting_63 (by omega) (k_15) x1 x2 x3 0 T (hk_15) hf
theorem rj_X3_isFitting_58 {X : am_X} {d : Nat} (hd : 2 ≤ d) (k_15 : Int32 → Option (Int32)) (x1 : Int32) (x2 : Int32) (x3 : Int32) {h : am_H} (T : am_TP h.2.2) {r : Int32} (hk_15 : ∀ (x3 : Int32) , k_15 x3 = some r → am_G X d 3 false cX3_isFitting (some .boolean) 15 [some (.ref 404), some (.int x1), some (.int x2), some (.int x3), none] [] (am_SH, h) (some (.int r), (am_SH, h))) (hf : jn_X3_isFitting_58 k_15 x1 x2 x3 h = some r) : am_G X d 3 false cX3_isFitting (some .boolean) 58 [some (.ref 404), some (.int x1), some (.int x2), some (.int x3), none] [] (am_SH, h) (some (.int r), (am_SH, h)) := by
  obtain ⟨d, rfl⟩ : ∃ e, d = e + 1 := ⟨d - 1, by omega⟩
  unfold jn_X3_isFitting_58 at hf
  refine r_iconst (v := 1) dX3_isFitting_58 rfl ?_
  refine r_goto (q := 63) dX3_isFitting_59 rfl ?_
  exact rj_X3_isFitting_63 (by omega) (k_15) x1 x2 x3 1 T (hk_15) hf
theorem rl_X3_isFitting_15 {X : am_X} {d : Nat} (hd : 2 ≤ d) (p1 : Int32) (p2 : Int32) {h : am_H} (T : am_TP h.2.2) {r : Int32} : ∀ (n : Nat) (x3 : Int32) , lp_X3_isFitting_15 p1 p2 h n x3 = some r → am_G X d 3 false cX3_isFitting (some .boolean) 15 [some (.ref 404), some (.int p1), some (.int p2), some (.int x3), none] [] (am_SH, h) (some (.int r), (am_SH, h)) := by
  obtain ⟨d, rfl⟩ : ∃ e, d = e + 1 := ⟨d - 1, by omega⟩
  intro n
  induction n with
  | zero => intro x3 hf; cases hf
  | succ n ih =>
    intro x3 hf
    rw [lp_X3_isFitting_15] at hf
    refine r_loc dX3_isFitting_15 rfl ?_
    refine r_loc dX3_isFitting_16 rfl ?_
    refine r_getI dX3_isFitting_17 fl_3_34 sh_404 rfl hf (fun v2 hf => ?_)
    refine r_ge (q := 112) dX3_isFitting_20 rfl hf (fun hf => ?_) (fun hf => ?_)
    · refine r_iconst (v := 1) dX3_isFitting_112 rfl ?_
      cases hf
      exact r_z1 T dX3_isFitting_113
    · refine r_loc dX3_isFitting_23 rfl ?_
      refine r_bipush (v := 30) dX3_isFitting_24 rfl ?_
      refine r_ge (q := 112) dX3_isFitting_26 rfl hf (fun hf => ?_) (fun hf => ?_)
      · refine r_iconst (v := 1) dX3_isFitting_112 rfl ?_
        cases hf
        exact r_z1 T dX3_isFitting_113
      · refine r_loc dX3_isFitting_29 rfl ?_
        refine r_getR dX3_isFitting_30 fl_3_22 sh_404 (Or.inr ⟨_, rfl⟩) (tp_404_4 T) ?_
        refine r_loc dX3_isFitting_33 rfl ?_
        refine r_iald dX3_isFitting_34 sh_408 hf (fun v3 hf => ?_)
        refine r_loc dX3_isFitting_35 rfl ?_
        refine r_gt (q := 62) dX3_isFitting_36 rfl hf (fun hf => ?_) (fun hf => ?_)
        · exact rj_X3_isFitting_62 (by omega) (lp_X3_isFitting_15 p1 p2 h n) p1 p2 x3 T (ih) hf
        · refine r_loc dX3_isFitting_39 rfl ?_
          refine r_getR dX3_isFitting_40 fl_3_28 sh_404 (Or.inr ⟨_, rfl⟩) (tp_404_6 T) ?_
          refine r_loc dX3_isFitting_43 rfl ?_
          refine r_bald dX3_isFitting_44 sh_410 rfl hf (fun v10 hf => ?_)
          refine r_eq0 (q := 58) dX3_isFitting_45 rfl hf (fun hf => ?_) (fun hf => ?_)
          · exact rj_X3_isFitting_58 (by omega) (lp_X3_isFitting_15 p1 p2 h n) p1 p2 x3 T (ih) hf
          · refine r_loc dX3_isFitting_48 rfl ?_
            refine r_getR dX3_isFitting_49 fl_3_25 sh_404 (Or.inr ⟨_, rfl⟩) (tp_404_5 T) ?_
            refine r_loc dX3_isFitting_52 rfl ?_
            refine r_iald dX3_isFitting_53 sh_409 hf (fun v11 hf => ?_)
            refine r_loc dX3_isFitting_54 rfl ?_
            refine r_le (q := 62) dX3_isFitting_55 rfl hf (fun hf => ?_) (fun hf => ?_)
            · exact rj_X3_isFitting_62 (by omega) (lp_X3_isFitting_15 p1 p2 h n) p1 p2 x3 T (ih) hf
            · exact rj_X3_isFitting_58 (by omega) (lp_X3_isFitting_15 p1 p2 h n) p1 p2 x3 T (ih) hf
theorem rf_X3_isFitting {X : am_X} {d : Nat} (hd : 2 ≤ d) (x1 : Int32) (x2 : Int32) {h : am_H} (T : am_TP h.2.2) {r : Int32} (hf : f_X3_isFitting x1 x2 h = some r) : am_G X d 3 false cX3_isFitting (some .boolean) 0 [some (.ref 404), some (.int x1), some (.int x2), none, none] [] (am_SH, h) (some (.int r), (am_SH, h)) := by
  unfold f_X3_isFitting at hf
  obtain ⟨d, rfl⟩ : ∃ e, d = e + 1 := ⟨d - 1, by omega⟩
  refine r_loc dX3_isFitting_0 rfl ?_
  refine r_getR dX3_isFitting_1 fl_3_41 sh_404 (Or.inl ⟨_, rfl⟩) (tp_404_0 T) ?_
  refine r_getI dX3_isFitting_4 fl_3_49 sh_4 rfl hf (fun v1 hf => ?_)
  refine r_iconst (v := 1) dX3_isFitting_7 rfl ?_
  refine r_ge (q := 13) dX3_isFitting_8 rfl hf (fun hf => ?_) (fun hf => ?_)
  · refine r_iconst (v := 0) dX3_isFitting_13 rfl ?_
    refine r_loc (L' := [some (.ref 404), some (.int x1), some (.int x2), some (.int 0), none]) dX3_isFitting_14 rfl ?_
    refine rl_X3_isFitting_15 (by omega) x1 x2 T  4000 0  hf
  · refine r_iconst (v := 0) dX3_isFitting_11 rfl ?_
    cases hf
    exact r_z0 T dX3_isFitting_12
def lp_X3_countFitting_4 (p1 : Int32) (h : am_H) : Nat → Int32 → Int32 → Option (Int32)
  | 0, _, _ => none
  | n + 1, x2, x3 => if x3 < 64 then cal (f_X3_isFitting x3 p1 h) fun v2 => if v2 = 0 then lp_X3_countFitting_4 p1 h n x2 (x3 + 1) else lp_X3_countFitting_4 p1 h n (x2 + 1) (x3 + 1) else some x2
def f_X3_countFitting (x1 : Int32) (h : am_H) : Option (Int32) := lp_X3_countFitting_4 x1 h  4000 0 0
theorem rl_X3_countFitting_4 {X : am_X} {d : Nat} (hd : 3 ≤ d) (p1 : Int32) {h : am_H} (T : am_TP h.2.2) {r : Int32} : ∀ (n : Nat) (x2 : Int32) (x3 : Int32) , lp_X3_countFitting_4 p1 h n x2 x3 = some r → am_G X d 3 false cX3_countFitting (some .int) 4 [some (.ref 404), some (.int p1), some (.int x2), some (.int x3)] [] (am_SH, h) (some (.int r), (am_SH, h)) := by
  obtain ⟨d, rfl⟩ : ∃ e, d = e + 1 := ⟨d - 1, by omega⟩
  intro n
  induction n with
  | zero => intro x2 x3 hf; cases hf
  | succ n ih =>
    intro x2 x3 hf
    rw [lp_X3_countFitting_4] at hf
    refine r_loc dX3_countFitting_4 rfl ?_
    refine r_bipush (v := 64) dX3_countFitting_5 rfl ?_
    refine r_ge (q := 28) dX3_countFitting_7 rfl hf (fun hf => ?_) (fun hf => ?_)
    · refine r_loc dX3_countFitting_28 rfl ?_
      cases hf
      exact r_ri T dX3_countFitting_29
    · refine r_loc dX3_countFitting_10 rfl ?_
      refine r_loc dX3_countFitting_11 rfl ?_
      refine r_loc dX3_countFitting_12 rfl ?_
      obtain ⟨v2, c1, hf⟩ := cal_inv hf
      have g3 := rf_X3_isFitting (X := X) (d := d) (by omega) x3 p1 T c1
      refine r_virt (pre := [.int p1, .int x3]) (rest := []) dX3_countFitting_13 ct_3_45 rfl (sh_404) (Nat.le_of_ble_eq_true rfl) (Nat.le_of_ble_eq_true rfl) g3 ?_
      refine r_eq0 (q := 22) dX3_countFitting_16 rfl hf (fun hf => ?_) (fun hf => ?_)
      · refine r_loc (L' := [some (.ref 404), some (.int p1), some (.int x2), some (.int (x3 + 1))]) dX3_countFitting_22 rfl ?_
        refine r_goto (q := 4) dX3_countFitting_25 rfl ?_
        exact ih x2 (x3 + 1) hf
      · refine r_loc (L' := [some (.ref 404), some (.int p1), some (.int (x2 + 1)), some (.int x3)]) dX3_countFitting_19 rfl ?_
        refine r_loc (L' := [some (.ref 404), some (.int p1), some (.int (x2 + 1)), some (.int (x3 + 1))]) dX3_countFitting_22 rfl ?_
        refine r_goto (q := 4) dX3_countFitting_25 rfl ?_
        exact ih (x2 + 1) (x3 + 1) hf
theorem rf_X3_countFitting {X : am_X} {d : Nat} (hd : 3 ≤ d) (x1 : Int32) {h : am_H} (T : am_TP h.2.2) {r : Int32} (hf : f_X3_countFitting x1 h = some r) : am_G X d 3 false cX3_countFitting (some .int) 0 [some (.ref 404), some (.int x1), none, none] [] (am_SH, h) (some (.int r), (am_SH, h)) := by
  unfold f_X3_countFitting at hf
  obtain ⟨d, rfl⟩ : ∃ e, d = e + 1 := ⟨d - 1, by omega⟩
  refine r_iconst (v := 0) dX3_countFitting_0 rfl ?_
  refine r_loc (L' := [some (.ref 404), some (.int x1), some (.int 0), none]) dX3_countFitting_1 rfl ?_
  refine r_iconst (v := 0) dX3_countFitting_2 rfl ?_
  refine r_loc (L' := [some (.ref 404), some (.int x1), some (.int 0), some (.int 0)]) dX3_countFitting_3 rfl ?_
  refine rl_X3_countFitting_4 (by omega) x1 T  4000 0 0  hf
def f_X11_fits (x1 : Int32) (h : am_H) : Option (Int32) := cal (f_X3_countFitting x1 h) fun v2 => some v2
theorem rf_X11_fits {X : am_X} {d : Nat} (hd : 4 ≤ d) (x1 : Int32) {h : am_H} (T : am_TP h.2.2) {r : Int32} (hf : f_X11_fits x1 h = some r) : am_G X d 11 false cX11_fits (some .int) 0 [some (.ref 0), some (.int x1)] [] (am_SH, h) (some (.int r), (am_SH, h)) := by
  unfold f_X11_fits at hf
  obtain ⟨d, rfl⟩ : ∃ e, d = e + 1 := ⟨d - 1, by omega⟩
  refine r_loc dX11_fits_0 rfl ?_
  refine r_getR dX11_fits_1 fl_11_72 sh_0 (Or.inl ⟨_, rfl⟩) (tp_0_8 T) ?_
  refine r_loc dX11_fits_4 rfl ?_
  obtain ⟨v2, c1, hf⟩ := cal_inv hf
  have g3 := rf_X3_countFitting (X := X) (d := d) (by omega) x1 T c1
  refine r_virt (pre := [.int x1]) (rest := []) dX11_fits_5 ct_11_307 rfl (sh_404) (Nat.le_of_ble_eq_true rfl) (Nat.le_of_ble_eq_true rfl) g3 ?_
  cases hf
  exact r_ri T dX11_fits_8
def lp_X3_knownOf_8 (p1 : Int32) (p2 : Int32) (h : am_H) (k_53 : Int32 → Int32 → Option (Int32)) : Nat → Int32 → Int32 → Int32 → Option (Int32)
  | 0, _, _, _ => none
  | n + 1, x3, x4, x5 => if x5 < 64 then cal (f_X3_isFitting x5 p2 h) fun v2 => if v2 = 0 then lp_X3_knownOf_8 p1 p2 h k_53 n x3 x4 (x5 + 1) else lp_X3_knownOf_8 p1 p2 h k_53 n (x3 + ((x5 >>> (p1 &&& 31)) &&& 1)) (x4 + ((1 : Int32) - ((x5 >>> (p1 &&& 31)) &&& 1))) (x5 + 1) else k_53 x3 x4
def jn_X3_knownOf_65 (x3 : Int32) (x4 : Int32) (h : am_H) : Option (Int32) := if 0 < x3 then some 1 else if 0 < x4 then some 0 else some (-1)
def f_X3_knownOf (x1 : Int32) (x2 : Int32) (h : am_H) : Option (Int32) := lp_X3_knownOf_8 x1 x2 h (fun z4 z5 => if 0 < z4 then if 0 < z5 then some (-2) else jn_X3_knownOf_65 z4 z5 h else jn_X3_knownOf_65 z4 z5 h) 4000 0 0 0
theorem rl_X3_knownOf_8 {X : am_X} {d : Nat} (hd : 3 ≤ d) (p1 : Int32) (p2 : Int32) {h : am_H} (T : am_TP h.2.2) (k_53 : Int32 → Int32 → Option (Int32)) {r : Int32} (hk_53 : ∀ (z3 : Int32) (z4 : Int32) , k_53 z3 z4 = some r → am_G X d 3 false cX3_knownOf (some .int) 53 [none, none, none, some (.int z3), some (.int z4), none] [] (am_SH, h) (some (.int r), (am_SH, h))) : ∀ (n : Nat) (x3 : Int32) (x4 : Int32) (x5 : Int32) , lp_X3_knownOf_8 p1 p2 h k_53 n x3 x4 x5 = some r → am_G X d 3 false cX3_knownOf (some .int) 8 [some (.ref 404), some (.int p1), some (.int p2), some (.int x3), some (.int x4), some (.int x5)] [] (am_SH, h) (some (.int r), (am_SH, h)) := by
  obtain ⟨d, rfl⟩ : ∃ e, d = e + 1 := ⟨d - 1, by omega⟩
  intro n
  induction n with
  | zero => intro x3 x4 x5 hf; cases hf
  | succ n ih =>
    intro x3 x4 x5 hf
    rw [lp_X3_knownOf_8] at hf
    refine r_loc dX3_knownOf_8 rfl ?_
    refine r_bipush (v := 64) dX3_knownOf_10 rfl ?_
    refine r_ge (q := 53) dX3_knownOf_12 rfl hf (fun hf => ?_) (fun hf => ?_)
    · refine r_weak (L := [none, none, none, some (.int x3), some (.int x4), none]) (am_le_n (am_le_n (am_le_n (am_le_s (am_le_s (am_le_n am_le_0)))))) ?_
      exact hk_53 x3 x4 hf
    · refine r_loc dX3_knownOf_15 rfl ?_
      refine r_loc dX3_knownOf_16 rfl ?_
      refine r_loc dX3_knownOf_18 rfl ?_
      obtain ⟨v2, c1, hf⟩ := cal_inv hf
      have g3 := rf_X3_isFitting (X := X) (d := d) (by omega) x5 p2 T c1
      refine r_virt (pre := [.int p2, .int x5]) (rest := []) dX3_knownOf_19 ct_3_45 rfl (sh_404) (Nat.le_of_ble_eq_true rfl) (Nat.le_of_ble_eq_true rfl) g3 ?_
      refine r_eq0 (q := 47) dX3_knownOf_22 rfl hf (fun hf => ?_) (fun hf => ?_)
      · refine r_loc (L' := [some (.ref 404), some (.int p1), some (.int p2), some (.int x3), some (.int x4), some (.int (x5 + 1))]) dX3_knownOf_47 rfl ?_
        refine r_goto (q := 8) dX3_knownOf_50 rfl ?_
        exact ih x3 x4 (x5 + 1) hf
      · refine r_loc dX3_knownOf_25 rfl ?_
        refine r_loc dX3_knownOf_26 rfl ?_
        refine r_loc dX3_knownOf_28 rfl ?_
        refine r_alu dX3_knownOf_29 rfl ?_
        refine r_iconst (v := 1) dX3_knownOf_30 rfl ?_
        refine r_alu dX3_knownOf_31 rfl ?_
        refine r_alu dX3_knownOf_32 rfl ?_
        refine r_loc (L' := [some (.ref 404), some (.int p1), some (.int p2), some (.int (x3 + ((x5 >>> (p1 &&& 31)) &&& 1))), some (.int x4), some (.int x5)]) dX3_knownOf_33 rfl ?_
        refine r_loc dX3_knownOf_34 rfl ?_
        refine r_iconst (v := 1) dX3_knownOf_36 rfl ?_
        refine r_loc dX3_knownOf_37 rfl ?_
        refine r_loc dX3_knownOf_39 rfl ?_
        refine r_alu dX3_knownOf_40 rfl ?_
        refine r_iconst (v := 1) dX3_knownOf_41 rfl ?_
        refine r_alu dX3_knownOf_42 rfl ?_
        refine r_alu dX3_knownOf_43 rfl ?_
        refine r_alu dX3_knownOf_44 rfl ?_
        refine r_loc (L' := [some (.ref 404), some (.int p1), some (.int p2), some (.int (x3 + ((x5 >>> (p1 &&& 31)) &&& 1))), some (.int (x4 + ((1 : Int32) - ((x5 >>> (p1 &&& 31)) &&& 1)))), some (.int x5)]) dX3_knownOf_45 rfl ?_
        refine r_loc (L' := [some (.ref 404), some (.int p1), some (.int p2), some (.int (x3 + ((x5 >>> (p1 &&& 31)) &&& 1))), some (.int (x4 + ((1 : Int32) - ((x5 >>> (p1 &&& 31)) &&& 1)))), some (.int (x5 + 1))]) dX3_knownOf_47 rfl ?_
        refine r_goto (q := 8) dX3_knownOf_50 rfl ?_
        exact ih (x3 + ((x5 >>> (p1 &&& 31)) &&& 1)) (x4 + ((1 : Int32) - ((x5 >>> (p1 &&& 31)) &&& 1))) (x5 + 1) hf
theorem rj_X3_knownOf_65 {X : am_X} {d : Nat} (hd : 3 ≤ d) (x3 : Int32) (x4 : Int32) {h : am_H} (T : am_TP h.2.2) {r : Int32} (hf : jn_X3_knownOf_65 x3 x4 h = some r) : am_G X d 3 false cX3_knownOf (some .int) 65 [none, none, none, some (.int x3), some (.int x4), none] [] (am_SH, h) (some (.int r), (am_SH, h)) := by
  obtain ⟨d, rfl⟩ : ∃ e, d = e + 1 := ⟨d - 1, by omega⟩
  unfold jn_X3_knownOf_65 at hf
  refine r_loc dX3_knownOf_65 rfl ?_
  refine r_le0 (q := 71) dX3_knownOf_66 rfl hf (fun hf => ?_) (fun hf => ?_)
  · refine r_loc dX3_knownOf_71 rfl ?_
    refine r_le0 (q := 80) dX3_knownOf_73 rfl hf (fun hf => ?_) (fun hf => ?_)
    · refine r_iconst (v := (-1)) dX3_knownOf_80 rfl ?_
      cases hf
      exact r_ri T dX3_knownOf_81
    · refine r_iconst (v := 0) dX3_knownOf_76 rfl ?_
      refine r_goto (q := 81) dX3_knownOf_77 rfl ?_
      cases hf
      exact r_ri T dX3_knownOf_81
  · refine r_iconst (v := 1) dX3_knownOf_69 rfl ?_
    cases hf
    exact r_ri T dX3_knownOf_70
theorem rf_X3_knownOf {X : am_X} {d : Nat} (hd : 3 ≤ d) (x1 : Int32) (x2 : Int32) {h : am_H} (T : am_TP h.2.2) {r : Int32} (hf : f_X3_knownOf x1 x2 h = some r) : am_G X d 3 false cX3_knownOf (some .int) 0 [some (.ref 404), some (.int x1), some (.int x2), none, none, none] [] (am_SH, h) (some (.int r), (am_SH, h)) := by
  unfold f_X3_knownOf at hf
  obtain ⟨d, rfl⟩ : ∃ e, d = e + 1 := ⟨d - 1, by omega⟩
  refine r_iconst (v := 0) dX3_knownOf_0 rfl ?_
  refine r_loc (L' := [some (.ref 404), some (.int x1), some (.int x2), some (.int 0), none, none]) dX3_knownOf_1 rfl ?_
  refine r_iconst (v := 0) dX3_knownOf_2 rfl ?_
  refine r_loc (L' := [some (.ref 404), some (.int x1), some (.int x2), some (.int 0), some (.int 0), none]) dX3_knownOf_3 rfl ?_
  refine r_iconst (v := 0) dX3_knownOf_5 rfl ?_
  refine r_loc (L' := [some (.ref 404), some (.int x1), some (.int x2), some (.int 0), some (.int 0), some (.int 0)]) dX3_knownOf_6 rfl ?_
  refine rl_X3_knownOf_8 (by omega) x1 x2 T _ ?_ 4000 0 0 0  hf
  · intro z4 z5 hf
    refine r_loc dX3_knownOf_53 rfl ?_
    refine r_le0 (q := 65) dX3_knownOf_54 rfl hf (fun hf => ?_) (fun hf => ?_)
    · exact rj_X3_knownOf_65 (by omega) z4 z5 T hf
    · refine r_loc dX3_knownOf_57 rfl ?_
      refine r_le0 (q := 65) dX3_knownOf_59 rfl hf (fun hf => ?_) (fun hf => ?_)
      · exact rj_X3_knownOf_65 (by omega) z4 z5 T hf
      · refine r_bipush (v := (-2)) dX3_knownOf_62 rfl ?_
        cases hf
        exact r_ri T dX3_knownOf_64
def f_X11_sure (x1 : Int32) (x2 : Int32) (h : am_H) : Option (Int32) := if x1 < 0 then some (-1) else if x1 < 6 then cal (f_X3_knownOf x1 x2 h) fun v2 => some v2 else some (-1)
theorem rf_X11_sure {X : am_X} {d : Nat} (hd : 4 ≤ d) (x1 : Int32) (x2 : Int32) {h : am_H} (T : am_TP h.2.2) {r : Int32} (hf : f_X11_sure x1 x2 h = some r) : am_G X d 11 false cX11_sure (some .int) 0 [some (.ref 0), some (.int x1), some (.int x2)] [] (am_SH, h) (some (.int r), (am_SH, h)) := by
  unfold f_X11_sure at hf
  obtain ⟨d, rfl⟩ : ∃ e, d = e + 1 := ⟨d - 1, by omega⟩
  refine r_loc dX11_sure_0 rfl ?_
  refine r_lt0 (q := 22) dX11_sure_1 rfl hf (fun hf => ?_) (fun hf => ?_)
  · refine r_iconst (v := (-1)) dX11_sure_22 rfl ?_
    cases hf
    exact r_ri T dX11_sure_23
  · refine r_loc dX11_sure_4 rfl ?_
    refine r_bipush (v := 6) dX11_sure_5 rfl ?_
    refine r_ge (q := 22) dX11_sure_7 rfl hf (fun hf => ?_) (fun hf => ?_)
    · refine r_iconst (v := (-1)) dX11_sure_22 rfl ?_
      cases hf
      exact r_ri T dX11_sure_23
    · refine r_loc dX11_sure_10 rfl ?_
      refine r_getR dX11_sure_11 fl_11_72 sh_0 (Or.inl ⟨_, rfl⟩) (tp_0_8 T) ?_
      refine r_loc dX11_sure_14 rfl ?_
      refine r_loc dX11_sure_15 rfl ?_
      obtain ⟨v2, c1, hf⟩ := cal_inv hf
      have g3 := rf_X3_knownOf (X := X) (d := d) (by omega) x1 x2 T c1
      refine r_virt (pre := [.int x2, .int x1]) (rest := []) dX11_sure_16 ct_11_310 rfl (sh_404) (Nat.le_of_ble_eq_true rfl) (Nat.le_of_ble_eq_true rfl) g3 ?_
      refine r_goto (q := 23) dX11_sure_19 rfl ?_
      cases hf
      exact r_ri T dX11_sure_23
def lp_X3_mostLeftBy_2 (p1 : Int32) (p2 : Int32) (k_21 : am_H → Option (Int32 × am_H)) : Nat → Int32 → am_H → Option (Int32 × am_H)
  | 0, _, _ => none
  | n + 1, x3, h => if 6 < x3 then k_21  h else wrI h 411 7 x3 0 fun h1 => lp_X3_mostLeftBy_2 p1 p2 k_21 n (x3 + 1) h1
def lp_X3_mostLeftBy_26 (p1 : Int32) (p2 : Int32) : Nat → Int32 → Int32 → am_H → Option (Int32 × am_H)
  | 0, _, _, _ => none
  | n + 1, x3, x4, h => if x4 < 64 then cal (f_X3_isFitting x4 p2 h) fun v7 => if v7 = 0 then lp_X3_mostLeftBy_26 p1 p2 n x3 (x4 + 1) h else cal (f_X3_sharedWith p1 x4 h) fun v10 => if v10 < 0 then lp_X3_mostLeftBy_26 p1 p2 n x3 (x4 + 1) h else if 6 < v10 then lp_X3_mostLeftBy_26 p1 p2 n x3 (x4 + 1) h else rdI h 411 7 v10 fun v12 => wrI h 411 7 v10 (v12 + 1) fun h13 => rdI h13 411 7 v10 fun v16 => lp_X3_mostLeftBy_26 p1 p2 n (if x3 < v16 then v16 else x3) (x4 + 1) h13 else some (x3, h)
def f_X3_mostLeftBy (x1 : Int32) (x2 : Int32) (h : am_H) : Option (Int32 × am_H) := lp_X3_mostLeftBy_2 x1 x2 (fun h4 => lp_X3_mostLeftBy_26 x1 x2  4000 0 0 h4) 4000 0 h
theorem rl_X3_mostLeftBy_2 {X : am_X} {d : Nat} (hd : 3 ≤ d) (p1 : Int32) (p2 : Int32) (k_21 : am_H → Option (Int32 × am_H)) {r : Int32 × am_H} (hk_21 : ∀ (h : am_H), am_TP h.2.2 → k_21  h = some r → am_G X d 3 false cX3_mostLeftBy (some .int) 21 [some (.ref 404), some (.int p1), some (.int p2), none, none, none] [] (am_SH, h) (some (.int r.1), (am_SH, r.2))) : ∀ (n : Nat) (x3 : Int32) (h : am_H), am_TP h.2.2 → lp_X3_mostLeftBy_2 p1 p2 k_21 n x3 h = some r → am_G X d 3 false cX3_mostLeftBy (some .int) 2 [some (.ref 404), some (.int p1), some (.int p2), some (.int x3), none, none] [] (am_SH, h) (some (.int r.1), (am_SH, r.2)) := by
  obtain ⟨d, rfl⟩ : ∃ e, d = e + 1 := ⟨d - 1, by omega⟩
  intro n
  induction n with
  | zero => intro x3 h T hf; cases hf
  | succ n ih =>
    intro x3 h T hf
    rw [lp_X3_mostLeftBy_2] at hf
    refine r_loc dX3_mostLeftBy_2 rfl ?_
    refine r_bipush (v := 6) dX3_mostLeftBy_3 rfl ?_
    refine r_gt (q := 21) dX3_mostLeftBy_5 rfl hf (fun hf => ?_) (fun hf => ?_)
    · refine r_weak (L := [some (.ref 404), some (.int p1), some (.int p2), none, none, none]) (am_le_s (am_le_s (am_le_s (am_le_n (am_le_n (am_le_n am_le_0)))))) ?_
      exact hk_21  h T hf
    · refine r_loc dX3_mostLeftBy_8 rfl ?_
      refine r_getR dX3_mostLeftBy_9 fl_3_31 sh_404 (Or.inr ⟨_, rfl⟩) (tp_404_7 T) ?_
      refine r_loc dX3_mostLeftBy_12 rfl ?_
      refine r_iconst (v := 0) dX3_mostLeftBy_13 rfl ?_
      refine r_iast dX3_mostLeftBy_14 sh_411 hf (fun h1 e3 hf => ?_)
      have T2 := tp_eq e3 T
      refine r_loc (L' := [some (.ref 404), some (.int p1), some (.int p2), some (.int (x3 + 1)), none, none]) dX3_mostLeftBy_15 rfl ?_
      refine r_goto (q := 2) dX3_mostLeftBy_18 rfl ?_
      exact ih (x3 + 1) h1 T2 hf
theorem rl_X3_mostLeftBy_26 {X : am_X} {d : Nat} (hd : 3 ≤ d) (p1 : Int32) (p2 : Int32) {r : Int32 × am_H} : ∀ (n : Nat) (x3 : Int32) (x4 : Int32) (h : am_H), am_TP h.2.2 → lp_X3_mostLeftBy_26 p1 p2 n x3 x4 h = some r → am_G X d 3 false cX3_mostLeftBy (some .int) 26 [some (.ref 404), some (.int p1), some (.int p2), some (.int x3), some (.int x4), none] [] (am_SH, h) (some (.int r.1), (am_SH, r.2)) := by
  obtain ⟨d, rfl⟩ : ∃ e, d = e + 1 := ⟨d - 1, by omega⟩
  intro n
  induction n with
  | zero => intro x3 x4 h T hf; cases hf
  | succ n ih =>
    intro x3 x4 h T hf
    rw [lp_X3_mostLeftBy_26] at hf
    refine r_loc dX3_mostLeftBy_26 rfl ?_
    refine r_bipush (v := 64) dX3_mostLeftBy_28 rfl ?_
    refine r_ge (q := 93) dX3_mostLeftBy_30 rfl hf (fun hf => ?_) (fun hf => ?_)
    · refine r_loc dX3_mostLeftBy_93 rfl ?_
      cases hf
      exact r_ri T dX3_mostLeftBy_94
    · refine r_loc dX3_mostLeftBy_33 rfl ?_
      refine r_loc dX3_mostLeftBy_34 rfl ?_
      refine r_loc dX3_mostLeftBy_36 rfl ?_
      obtain ⟨v7, c6, hf⟩ := cal_inv hf
      have g8 := rf_X3_isFitting (X := X) (d := d) (by omega) x4 p2 T c6
      refine r_virt (pre := [.int p2, .int x4]) (rest := []) dX3_mostLeftBy_37 ct_3_45 rfl (sh_404) (Nat.le_of_ble_eq_true rfl) (Nat.le_of_ble_eq_true rfl) g8 ?_
      refine r_eq0 (q := 87) dX3_mostLeftBy_40 rfl hf (fun hf => ?_) (fun hf => ?_)
      · refine r_loc (L' := [some (.ref 404), some (.int p1), some (.int p2), some (.int x3), some (.int (x4 + 1)), none]) dX3_mostLeftBy_87 rfl ?_
        refine r_goto (q := 26) dX3_mostLeftBy_90 rfl ?_
        exact ih x3 (x4 + 1) h T hf
      · refine r_loc dX3_mostLeftBy_43 rfl ?_
        refine r_loc dX3_mostLeftBy_44 rfl ?_
        refine r_loc dX3_mostLeftBy_45 rfl ?_
        obtain ⟨v10, c9, hf⟩ := cal_inv hf
        have g11 := rf_X3_sharedWith (X := X) (d := d) (by omega) p1 x4 T c9
        refine r_virt (pre := [.int x4, .int p1]) (rest := []) dX3_mostLeftBy_47 ct_3_58 rfl (sh_404) (Nat.le_of_ble_eq_true rfl) (Nat.le_of_ble_eq_true rfl) g11 ?_
        refine r_loc (L' := [some (.ref 404), some (.int p1), some (.int p2), some (.int x3), some (.int x4), some (.int v10)]) dX3_mostLeftBy_50 rfl ?_
        refine r_loc dX3_mostLeftBy_52 rfl ?_
        refine r_lt0 (q := 87) dX3_mostLeftBy_54 rfl hf (fun hf => ?_) (fun hf => ?_)
        · refine r_loc (L' := [some (.ref 404), some (.int p1), some (.int p2), some (.int x3), some (.int (x4 + 1)), some (.int v10)]) dX3_mostLeftBy_87 rfl ?_
          refine r_goto (q := 26) dX3_mostLeftBy_90 rfl ?_
          refine r_weak (L := [some (.ref 404), some (.int p1), some (.int p2), some (.int x3), some (.int (x4 + 1)), none]) (am_le_s (am_le_s (am_le_s (am_le_s (am_le_s (am_le_n am_le_0)))))) ?_
          exact ih x3 (x4 + 1) h T hf
        · refine r_loc dX3_mostLeftBy_57 rfl ?_
          refine r_bipush (v := 6) dX3_mostLeftBy_59 rfl ?_
          refine r_gt (q := 87) dX3_mostLeftBy_61 rfl hf (fun hf => ?_) (fun hf => ?_)
          · refine r_loc (L' := [some (.ref 404), some (.int p1), some (.int p2), some (.int x3), some (.int (x4 + 1)), some (.int v10)]) dX3_mostLeftBy_87 rfl ?_
            refine r_goto (q := 26) dX3_mostLeftBy_90 rfl ?_
            refine r_weak (L := [some (.ref 404), some (.int p1), some (.int p2), some (.int x3), some (.int (x4 + 1)), none]) (am_le_s (am_le_s (am_le_s (am_le_s (am_le_s (am_le_n am_le_0)))))) ?_
            exact ih x3 (x4 + 1) h T hf
          · refine r_loc dX3_mostLeftBy_64 rfl ?_
            refine r_getR dX3_mostLeftBy_65 fl_3_31 sh_404 (Or.inr ⟨_, rfl⟩) (tp_404_7 T) ?_
            refine r_loc dX3_mostLeftBy_68 rfl ?_
            refine r_alu dX3_mostLeftBy_70 rfl ?_
            refine r_iald dX3_mostLeftBy_71 sh_411 hf (fun v12 hf => ?_)
            refine r_iconst (v := 1) dX3_mostLeftBy_72 rfl ?_
            refine r_alu dX3_mostLeftBy_73 rfl ?_
            refine r_iast dX3_mostLeftBy_74 sh_411 hf (fun h13 e15 hf => ?_)
            have T14 := tp_eq e15 T
            refine r_loc dX3_mostLeftBy_75 rfl ?_
            refine r_loc dX3_mostLeftBy_76 rfl ?_
            refine r_getR dX3_mostLeftBy_77 fl_3_31 sh_404 (Or.inr ⟨_, rfl⟩) (tp_404_7 T14) ?_
            refine r_loc dX3_mostLeftBy_80 rfl ?_
            refine r_iald dX3_mostLeftBy_82 sh_411 hf (fun v16 hf => ?_)
            refine r_max dX3_mostLeftBy_83 ct_3_61 (Nat.le_of_ble_eq_true rfl) ?_
            refine r_loc (L' := [some (.ref 404), some (.int p1), some (.int p2), some (.int (if x3 < v16 then v16 else x3)), some (.int x4), some (.int v10)]) dX3_mostLeftBy_86 rfl ?_
            refine r_loc (L' := [some (.ref 404), some (.int p1), some (.int p2), some (.int (if x3 < v16 then v16 else x3)), some (.int (x4 + 1)), some (.int v10)]) dX3_mostLeftBy_87 rfl ?_
            refine r_goto (q := 26) dX3_mostLeftBy_90 rfl ?_
            refine r_weak (L := [some (.ref 404), some (.int p1), some (.int p2), some (.int (if x3 < v16 then v16 else x3)), some (.int (x4 + 1)), none]) (am_le_s (am_le_s (am_le_s (am_le_s (am_le_s (am_le_n am_le_0)))))) ?_
            exact ih (if x3 < v16 then v16 else x3) (x4 + 1) h13 T14 hf
theorem rf_X3_mostLeftBy {X : am_X} {d : Nat} (hd : 3 ≤ d) (x1 : Int32) (x2 : Int32) {h : am_H} (T : am_TP h.2.2) {r : Int32 × am_H} (hf : f_X3_mostLeftBy x1 x2 h = some r) : am_G X d 3 false cX3_mostLeftBy (some .int) 0 [some (.ref 404), some (.int x1), some (.int x2), none, none, none] [] (am_SH, h) (some (.int r.1), (am_SH, r.2)) := by
  unfold f_X3_mostLeftBy at hf
  obtain ⟨d, rfl⟩ : ∃ e, d = e + 1 := ⟨d - 1, by omega⟩
  refine r_iconst (v := 0) dX3_mostLeftBy_0 rfl ?_
  refine r_loc (L' := [some (.ref 404), some (.int x1), some (.int x2), some (.int 0), none, none]) dX3_mostLeftBy_1 rfl ?_
  refine rl_X3_mostLeftBy_2 (by omega) x1 x2 _ ?_ 4000 0 h T hf
  · intro h4 T5 hf
    refine r_iconst (v := 0) dX3_mostLeftBy_21 rfl ?_
    refine r_loc (L' := [some (.ref 404), some (.int x1), some (.int x2), some (.int 0), none, none]) dX3_mostLeftBy_22 rfl ?_
    refine r_iconst (v := 0) dX3_mostLeftBy_23 rfl ?_
    refine r_loc (L' := [some (.ref 404), some (.int x1), some (.int x2), some (.int 0), some (.int 0), none]) dX3_mostLeftBy_24 rfl ?_
    refine rl_X3_mostLeftBy_26 (by omega) x1 x2  4000 0 0 h4 T5 hf
def lp_X3_bestToAsk_8 (p1 : Int32) : Nat → Int32 → Int32 → Int32 → am_H → Option (Int32 × am_H)
  | 0, _, _, _, _ => none
  | n + 1, x2, x3, x4, h => bnd (h.1 4 7) fun v1 => if x4 < (v1 - 1) then cal2 (f_X3_mostLeftBy x4 p1 h) fun v3 h5 => if 0 < v3 then if v3 < x3 then lp_X3_bestToAsk_8 p1 n x4 v3 (x4 + 1) h5 else lp_X3_bestToAsk_8 p1 n x2 x3 (x4 + 1) h5 else lp_X3_bestToAsk_8 p1 n x2 x3 (x4 + 1) h5 else some (x2, h)
def f_X3_bestToAsk (x1 : Int32) (h : am_H) : Option (Int32 × am_H) := lp_X3_bestToAsk_8 x1  4000 (-1) 65 0 h
theorem rl_X3_bestToAsk_8 {X : am_X} {d : Nat} (hd : 4 ≤ d) (p1 : Int32) {r : Int32 × am_H} : ∀ (n : Nat) (x2 : Int32) (x3 : Int32) (x4 : Int32) (h : am_H), am_TP h.2.2 → lp_X3_bestToAsk_8 p1 n x2 x3 x4 h = some r → am_G X d 3 false cX3_bestToAsk (some .int) 8 [some (.ref 404), some (.int p1), some (.int x2), some (.int x3), some (.int x4), none] [] (am_SH, h) (some (.int r.1), (am_SH, r.2)) := by
  obtain ⟨d, rfl⟩ : ∃ e, d = e + 1 := ⟨d - 1, by omega⟩
  intro n
  induction n with
  | zero => intro x2 x3 x4 h T hf; cases hf
  | succ n ih =>
    intro x2 x3 x4 h T hf
    rw [lp_X3_bestToAsk_8] at hf
    refine r_loc dX3_bestToAsk_8 rfl ?_
    refine r_loc dX3_bestToAsk_10 rfl ?_
    refine r_getR dX3_bestToAsk_11 fl_3_41 sh_404 (Or.inl ⟨_, rfl⟩) (tp_404_0 T) ?_
    refine r_getI dX3_bestToAsk_14 fl_3_49 sh_4 rfl hf (fun v1 hf => ?_)
    refine r_iconst (v := 1) dX3_bestToAsk_17 rfl ?_
    refine r_alu dX3_bestToAsk_18 rfl ?_
    refine r_ge (q := 54) dX3_bestToAsk_19 rfl hf (fun hf => ?_) (fun hf => ?_)
    · refine r_loc dX3_bestToAsk_54 rfl ?_
      cases hf
      exact r_ri T dX3_bestToAsk_55
    · refine r_loc dX3_bestToAsk_22 rfl ?_
      refine r_loc dX3_bestToAsk_23 rfl ?_
      refine r_loc dX3_bestToAsk_25 rfl ?_
      obtain ⟨v3, h5, c2, hf⟩ := cal2_inv hf
      have g7 := rf_X3_mostLeftBy (X := X) (d := d) (by omega) x4 p1 T c2
      have T6 : am_TP h5.2.2 := g7.2
      refine r_virt (pre := [.int p1, .int x4]) (rest := []) dX3_bestToAsk_26 ct_3_54 rfl (sh_404) (Nat.le_of_ble_eq_true rfl) (Nat.le_of_ble_eq_true rfl) g7 ?_
      refine r_loc (L' := [some (.ref 404), some (.int p1), some (.int x2), some (.int x3), some (.int x4), some (.int v3)]) dX3_bestToAsk_29 rfl ?_
      refine r_loc dX3_bestToAsk_31 rfl ?_
      refine r_le0 (q := 48) dX3_bestToAsk_33 rfl hf (fun hf => ?_) (fun hf => ?_)
      · refine r_loc (L' := [some (.ref 404), some (.int p1), some (.int x2), some (.int x3), some (.int (x4 + 1)), some (.int v3)]) dX3_bestToAsk_48 rfl ?_
        refine r_goto (q := 8) dX3_bestToAsk_51 rfl ?_
        refine r_weak (L := [some (.ref 404), some (.int p1), some (.int x2), some (.int x3), some (.int (x4 + 1)), none]) (am_le_s (am_le_s (am_le_s (am_le_s (am_le_s (am_le_n am_le_0)))))) ?_
        exact ih x2 x3 (x4 + 1) h5 T6 hf
      · refine r_loc dX3_bestToAsk_36 rfl ?_
        refine r_loc dX3_bestToAsk_38 rfl ?_
        refine r_ge (q := 48) dX3_bestToAsk_39 rfl hf (fun hf => ?_) (fun hf => ?_)
        · refine r_loc (L' := [some (.ref 404), some (.int p1), some (.int x2), some (.int x3), some (.int (x4 + 1)), some (.int v3)]) dX3_bestToAsk_48 rfl ?_
          refine r_goto (q := 8) dX3_bestToAsk_51 rfl ?_
          refine r_weak (L := [some (.ref 404), some (.int p1), some (.int x2), some (.int x3), some (.int (x4 + 1)), none]) (am_le_s (am_le_s (am_le_s (am_le_s (am_le_s (am_le_n am_le_0)))))) ?_
          exact ih x2 x3 (x4 + 1) h5 T6 hf
        · refine r_loc dX3_bestToAsk_42 rfl ?_
          refine r_loc (L' := [some (.ref 404), some (.int p1), some (.int x4), some (.int x3), some (.int x4), some (.int v3)]) dX3_bestToAsk_44 rfl ?_
          refine r_loc dX3_bestToAsk_45 rfl ?_
          refine r_loc (L' := [some (.ref 404), some (.int p1), some (.int x4), some (.int v3), some (.int x4), some (.int v3)]) dX3_bestToAsk_47 rfl ?_
          refine r_loc (L' := [some (.ref 404), some (.int p1), some (.int x4), some (.int v3), some (.int (x4 + 1)), some (.int v3)]) dX3_bestToAsk_48 rfl ?_
          refine r_goto (q := 8) dX3_bestToAsk_51 rfl ?_
          refine r_weak (L := [some (.ref 404), some (.int p1), some (.int x4), some (.int v3), some (.int (x4 + 1)), none]) (am_le_s (am_le_s (am_le_s (am_le_s (am_le_s (am_le_n am_le_0)))))) ?_
          exact ih x4 v3 (x4 + 1) h5 T6 hf
theorem rf_X3_bestToAsk {X : am_X} {d : Nat} (hd : 4 ≤ d) (x1 : Int32) {h : am_H} (T : am_TP h.2.2) {r : Int32 × am_H} (hf : f_X3_bestToAsk x1 h = some r) : am_G X d 3 false cX3_bestToAsk (some .int) 0 [some (.ref 404), some (.int x1), none, none, none, none] [] (am_SH, h) (some (.int r.1), (am_SH, r.2)) := by
  unfold f_X3_bestToAsk at hf
  obtain ⟨d, rfl⟩ : ∃ e, d = e + 1 := ⟨d - 1, by omega⟩
  refine r_iconst (v := (-1)) dX3_bestToAsk_0 rfl ?_
  refine r_loc (L' := [some (.ref 404), some (.int x1), some (.int (-1)), none, none, none]) dX3_bestToAsk_1 rfl ?_
  refine r_bipush (v := 65) dX3_bestToAsk_2 rfl ?_
  refine r_loc (L' := [some (.ref 404), some (.int x1), some (.int (-1)), some (.int 65), none, none]) dX3_bestToAsk_4 rfl ?_
  refine r_iconst (v := 0) dX3_bestToAsk_5 rfl ?_
  refine r_loc (L' := [some (.ref 404), some (.int x1), some (.int (-1)), some (.int 65), some (.int 0), none]) dX3_bestToAsk_6 rfl ?_
  refine rl_X3_bestToAsk_8 (by omega) x1  4000 (-1) 65 0 h T hf
def f_X11_ask (x1 : Int32) (x2 : Int32) (h : am_H) : Option (Int32 × am_H) := if x1 < 0 then some ((-1), h) else if 1 < x1 then some ((-1), h) else cal2 (f_X3_bestToAsk x2 h) fun v2 h4 => if x1 = 0 then some (v2, h4) else if v2 = (-1) then some (v2, h4) else cal2 (f_X3_mostLeftBy v2 x2 h4) fun v8 h10 => some (v8, h10)
theorem rf_X11_ask {X : am_X} {d : Nat} (hd : 5 ≤ d) (x1 : Int32) (x2 : Int32) {h : am_H} (T : am_TP h.2.2) {r : Int32 × am_H} (hf : f_X11_ask x1 x2 h = some r) : am_G X d 11 false cX11_ask (some .int) 0 [some (.ref 0), some (.int x1), some (.int x2), none] [] (am_SH, h) (some (.int r.1), (am_SH, r.2)) := by
  unfold f_X11_ask at hf
  obtain ⟨d, rfl⟩ : ∃ e, d = e + 1 := ⟨d - 1, by omega⟩
  refine r_loc dX11_ask_0 rfl ?_
  refine r_lt0 (q := 9) dX11_ask_1 rfl hf (fun hf => ?_) (fun hf => ?_)
  · refine r_iconst (v := (-1)) dX11_ask_9 rfl ?_
    cases hf
    exact r_ri T dX11_ask_10
  · refine r_loc dX11_ask_4 rfl ?_
    refine r_iconst (v := 1) dX11_ask_5 rfl ?_
    refine r_le (q := 11) dX11_ask_6 rfl hf (fun hf => ?_) (fun hf => ?_)
    · refine r_loc dX11_ask_11 rfl ?_
      refine r_getR dX11_ask_12 fl_11_72 sh_0 (Or.inl ⟨_, rfl⟩) (tp_0_8 T) ?_
      refine r_loc dX11_ask_15 rfl ?_
      obtain ⟨v2, h4, c1, hf⟩ := cal2_inv hf
      have g6 := rf_X3_bestToAsk (X := X) (d := d) (by omega) x2 T c1
      have T5 : am_TP h4.2.2 := g6.2
      refine r_virt (pre := [.int x2]) (rest := []) dX11_ask_16 ct_11_313 rfl (sh_404) (Nat.le_of_ble_eq_true rfl) (Nat.le_of_ble_eq_true rfl) g6 ?_
      refine r_loc (L' := [some (.ref 0), some (.int x1), some (.int x2), some (.int v2)]) dX11_ask_19 rfl ?_
      refine r_loc dX11_ask_20 rfl ?_
      refine r_eq0 (q := 29) dX11_ask_21 rfl hf (fun hf => ?_) (fun hf => ?_)
      · refine r_loc dX11_ask_29 rfl ?_
        refine r_goto (q := 42) dX11_ask_30 rfl ?_
        cases hf
        exact r_ri T5 dX11_ask_42
      · refine r_loc dX11_ask_24 rfl ?_
        refine r_iconst (v := (-1)) dX11_ask_25 rfl ?_
        refine r_ne (q := 33) dX11_ask_26 rfl hf (fun hf => ?_) (fun hf => ?_)
        · refine r_loc dX11_ask_33 rfl ?_
          refine r_getR dX11_ask_34 fl_11_72 sh_0 (Or.inl ⟨_, rfl⟩) (tp_0_8 T5) ?_
          refine r_loc dX11_ask_37 rfl ?_
          refine r_loc dX11_ask_38 rfl ?_
          obtain ⟨v8, h10, c7, hf⟩ := cal2_inv hf
          have g12 := rf_X3_mostLeftBy (X := X) (d := d) (by omega) v2 x2 T5 c7
          have T11 : am_TP h10.2.2 := g12.2
          refine r_virt (pre := [.int x2, .int v2]) (rest := []) dX11_ask_39 ct_11_316 rfl (sh_404) (Nat.le_of_ble_eq_true rfl) (Nat.le_of_ble_eq_true rfl) g12 ?_
          cases hf
          exact r_ri T11 dX11_ask_42
        · refine r_loc dX11_ask_29 rfl ?_
          refine r_goto (q := 42) dX11_ask_30 rfl ?_
          cases hf
          exact r_ri T5 dX11_ask_42
    · refine r_iconst (v := (-1)) dX11_ask_9 rfl ?_
      cases hf
      exact r_ri T dX11_ask_10
def jn_X1_put_18 (x1 : Int32) (s2 : Nat) (h : am_H) : Option (Int32 × am_H) := some (0, h)
def f_X1_put (x1 : Int32) (s2 : Nat) (h : am_H) : Option (Int32 × am_H) := if x1 < 0 then jn_X1_put_18 x1 s2 h else if x1 < 3 then rdR h 375 3 x1 fun u1 => cal (f_X7_copyFrom u1 s2 h) fun h4 => wrI h4 376 3 x1 (vp_nar .boolean 1) fun h7 => some (1, h7) else jn_X1_put_18 x1 s2 h
theorem rj_X1_put_18 {X : am_X} {d : Nat} (hd : 2 ≤ d) (x1 : Int32) (s2 : Nat) (hs2 : s2 ∈ am_ST) {h : am_H} (T : am_TP h.2.2) {r : Int32 × am_H} (hf : jn_X1_put_18 x1 s2 h = some r) : am_G X d 1 false cX1_put (some .boolean) 18 [some (.ref 374), some (.int x1), some (.ref s2), none] [] (am_SH, h) (some (.int r.1), (am_SH, r.2)) := by
  obtain ⟨d, rfl⟩ : ∃ e, d = e + 1 := ⟨d - 1, by omega⟩
  unfold jn_X1_put_18 at hf
  refine r_alu dX1_put_18 rfl ?_
  refine r_loc (L' := [some (.ref 374), some (.int x1), some (.ref s2), some (.null)]) dX1_put_19 rfl ?_
  refine r_loc dX1_put_20 rfl ?_
  refine r_nonnullN (q := 26) dX1_put_21 rfl ?_
  refine r_iconst (v := 0) dX1_put_24 rfl ?_
  cases hf
  exact r_z0 T dX1_put_25
theorem rf_X1_put {X : am_X} {d : Nat} (hd : 2 ≤ d) (x1 : Int32) (s2 : Nat) (hs2 : s2 ∈ am_ST) {h : am_H} (T : am_TP h.2.2) {r : Int32 × am_H} (hf : f_X1_put x1 s2 h = some r) : am_G X d 1 false cX1_put (some .boolean) 0 [some (.ref 374), some (.int x1), some (.ref s2), none] [] (am_SH, h) (some (.int r.1), (am_SH, r.2)) := by
  unfold f_X1_put at hf
  obtain ⟨d, rfl⟩ : ∃ e, d = e + 1 := ⟨d - 1, by omega⟩
  refine r_loc dX1_put_0 rfl ?_
  refine r_lt0 (q := 18) dX1_put_1 rfl hf (fun hf => ?_) (fun hf => ?_)
  · exact rj_X1_put_18 (by omega) x1 s2 hs2 T hf
  · refine r_loc dX1_put_4 rfl ?_
    refine r_iconst (v := 3) dX1_put_5 rfl ?_
    refine r_ge (q := 18) dX1_put_6 rfl hf (fun hf => ?_) (fun hf => ?_)
    · exact rj_X1_put_18 (by omega) x1 s2 hs2 T hf
    · refine r_loc dX1_put_9 rfl ?_
      refine r_getR dX1_put_10 fl_1_11 sh_374 (Or.inr ⟨_, rfl⟩) (tp_374_0 T) ?_
      refine r_loc dX1_put_13 rfl ?_
      refine r_aald dX1_put_14 sh_375 hf (fun u1 hin hy hf => ?_)
      have q2 := tp_kept_375 T hin hy
      refine r_goto (q := 19) dX1_put_15 rfl ?_
      refine r_loc (L' := [some (.ref 374), some (.int x1), some (.ref s2), some (.ref u1)]) dX1_put_19 rfl ?_
      refine r_loc dX1_put_20 rfl ?_
      refine r_nonnullR (q := 26) dX1_put_21 rfl ?_
      refine r_loc dX1_put_26 rfl ?_
      refine r_loc dX1_put_27 rfl ?_
      obtain ⟨h4, c3, hf⟩ := cal_inv hf
      have g6 := rf_X7_copyFrom (X := X) (d := d) (by omega) u1 s2 q2 hs2 T c3
      have T5 : am_TP h4.2.2 := g6.2
      refine r_virt (pre := [.ref s2]) (rest := []) dX1_put_28 ct_1_24 rfl ((sh_S q2)) (Nat.le_of_ble_eq_true rfl) (Nat.le_of_ble_eq_true rfl) g6 ?_
      refine r_loc dX1_put_31 rfl ?_
      refine r_getR dX1_put_32 fl_1_17 sh_374 (Or.inr ⟨_, rfl⟩) (tp_374_1 T5) ?_
      refine r_loc dX1_put_35 rfl ?_
      refine r_iconst (v := 1) dX1_put_36 rfl ?_
      refine r_bast dX1_put_37 sh_376 rfl hf (fun h7 e9 hf => ?_)
      have T8 := tp_eq e9 T5
      refine r_iconst (v := 1) dX1_put_38 rfl ?_
      cases hf
      exact r_z1 T8 dX1_put_39
def f_X11_image (x1 : Int32) (h : am_H) : Option (Int32 × am_H) := cal2 (f_X1_put x1 27 h) fun v2 h4 => if v2 = 0 then some ((-1), h4) else bnd (h4.1 27 9) fun v7 => some (v7, h4)
theorem rf_X11_image {X : am_X} {d : Nat} (hd : 3 ≤ d) (x1 : Int32) {h : am_H} (T : am_TP h.2.2) {r : Int32 × am_H} (hf : f_X11_image x1 h = some r) : am_G X d 11 false cX11_image (some .int) 0 [some (.ref 0), some (.int x1)] [] (am_SH, h) (some (.int r.1), (am_SH, r.2)) := by
  unfold f_X11_image at hf
  obtain ⟨d, rfl⟩ : ∃ e, d = e + 1 := ⟨d - 1, by omega⟩
  refine r_loc dX11_image_0 rfl ?_
  refine r_getR dX11_image_1 fl_11_58 sh_0 (Or.inl ⟨_, rfl⟩) (tp_0_6 T) ?_
  refine r_loc dX11_image_4 rfl ?_
  refine r_loc dX11_image_5 rfl ?_
  refine r_getR dX11_image_6 fl_11_37 sh_0 (Or.inl ⟨_, rfl⟩) (tp_0_3 T) ?_
  obtain ⟨v2, h4, c1, hf⟩ := cal2_inv hf
  have g6 := rf_X1_put (X := X) (d := d) (by omega) x1 27 st_27 T c1
  have T5 : am_TP h4.2.2 := g6.2
  refine r_virt (pre := [.ref 27, .int x1]) (rest := []) dX11_image_9 ct_11_319 rfl (sh_374) (Nat.le_of_ble_eq_true rfl) (Nat.le_of_ble_eq_true rfl) g6 ?_
  refine r_eq0 (q := 25) dX11_image_12 rfl hf (fun hf => ?_) (fun hf => ?_)
  · refine r_iconst (v := (-1)) dX11_image_25 rfl ?_
    cases hf
    exact r_ri T5 dX11_image_26
  · refine r_loc dX11_image_15 rfl ?_
    refine r_getR dX11_image_16 fl_11_37 sh_0 (Or.inl ⟨_, rfl⟩) (tp_0_3 T5) ?_
    refine r_getI dX11_image_19 fl_11_173 (sh_S st_27) rfl hf (fun v7 hf => ?_)
    refine r_goto (q := 26) dX11_image_22 rfl ?_
    cases hf
    exact r_ri T5 dX11_image_26
def jn_X1_take_27 (s2 : Nat) (h : am_H) : Option (Int32 × am_H) := some (0, h)
def f_X1_take (x1 : Int32) (s2 : Nat) (h : am_H) : Option (Int32 × am_H) := if x1 < 0 then jn_X1_take_27 s2 h else if x1 < 3 then rdI h 376 3 x1 fun v1 => if v1 = 0 then jn_X1_take_27 s2 h else rdR h 375 3 x1 fun u2 => cal (f_X7_copyFrom s2 u2 h) fun h5 => some (1, h5) else jn_X1_take_27 s2 h
theorem rj_X1_take_27 {X : am_X} {d : Nat} (hd : 2 ≤ d) (s2 : Nat) (hs2 : s2 ∈ am_ST) {h : am_H} (T : am_TP h.2.2) {r : Int32 × am_H} (hf : jn_X1_take_27 s2 h = some r) : am_G X d 1 false cX1_take (some .boolean) 27 [none, none, some (.ref s2), none] [] (am_SH, h) (some (.int r.1), (am_SH, r.2)) := by
  obtain ⟨d, rfl⟩ : ∃ e, d = e + 1 := ⟨d - 1, by omega⟩
  unfold jn_X1_take_27 at hf
  refine r_alu dX1_take_27 rfl ?_
  refine r_loc (L' := [none, none, some (.ref s2), some (.null)]) dX1_take_28 rfl ?_
  refine r_loc dX1_take_29 rfl ?_
  refine r_nonnullN (q := 35) dX1_take_30 rfl ?_
  refine r_iconst (v := 0) dX1_take_33 rfl ?_
  cases hf
  exact r_z0 T dX1_take_34
theorem rf_X1_take {X : am_X} {d : Nat} (hd : 2 ≤ d) (x1 : Int32) (s2 : Nat) (hs2 : s2 ∈ am_ST) {h : am_H} (T : am_TP h.2.2) {r : Int32 × am_H} (hf : f_X1_take x1 s2 h = some r) : am_G X d 1 false cX1_take (some .boolean) 0 [some (.ref 374), some (.int x1), some (.ref s2), none] [] (am_SH, h) (some (.int r.1), (am_SH, r.2)) := by
  unfold f_X1_take at hf
  obtain ⟨d, rfl⟩ : ∃ e, d = e + 1 := ⟨d - 1, by omega⟩
  refine r_loc dX1_take_0 rfl ?_
  refine r_lt0 (q := 27) dX1_take_1 rfl hf (fun hf => ?_) (fun hf => ?_)
  · refine r_weak (L := [none, none, some (.ref s2), none]) (am_le_n (am_le_n (am_le_s (am_le_n am_le_0)))) ?_
    exact rj_X1_take_27 (by omega) s2 hs2 T hf
  · refine r_loc dX1_take_4 rfl ?_
    refine r_iconst (v := 3) dX1_take_5 rfl ?_
    refine r_ge (q := 27) dX1_take_6 rfl hf (fun hf => ?_) (fun hf => ?_)
    · refine r_weak (L := [none, none, some (.ref s2), none]) (am_le_n (am_le_n (am_le_s (am_le_n am_le_0)))) ?_
      exact rj_X1_take_27 (by omega) s2 hs2 T hf
    · refine r_loc dX1_take_9 rfl ?_
      refine r_getR dX1_take_10 fl_1_17 sh_374 (Or.inr ⟨_, rfl⟩) (tp_374_1 T) ?_
      refine r_loc dX1_take_13 rfl ?_
      refine r_bald dX1_take_14 sh_376 rfl hf (fun v1 hf => ?_)
      refine r_eq0 (q := 27) dX1_take_15 rfl hf (fun hf => ?_) (fun hf => ?_)
      · refine r_weak (L := [none, none, some (.ref s2), none]) (am_le_n (am_le_n (am_le_s (am_le_n am_le_0)))) ?_
        exact rj_X1_take_27 (by omega) s2 hs2 T hf
      · refine r_loc dX1_take_18 rfl ?_
        refine r_getR dX1_take_19 fl_1_11 sh_374 (Or.inr ⟨_, rfl⟩) (tp_374_0 T) ?_
        refine r_loc dX1_take_22 rfl ?_
        refine r_aald dX1_take_23 sh_375 hf (fun u2 hin hy hf => ?_)
        have q3 := tp_kept_375 T hin hy
        refine r_goto (q := 28) dX1_take_24 rfl ?_
        refine r_loc (L' := [some (.ref 374), some (.int x1), some (.ref s2), some (.ref u2)]) dX1_take_28 rfl ?_
        refine r_loc dX1_take_29 rfl ?_
        refine r_nonnullR (q := 35) dX1_take_30 rfl ?_
        refine r_loc dX1_take_35 rfl ?_
        refine r_loc dX1_take_36 rfl ?_
        obtain ⟨h5, c4, hf⟩ := cal_inv hf
        have g7 := rf_X7_copyFrom (X := X) (d := d) (by omega) s2 u2 hs2 q3 T c4
        have T6 : am_TP h5.2.2 := g7.2
        refine r_virt (pre := [.ref u2]) (rest := []) dX1_take_37 ct_1_24 rfl ((sh_S hs2)) (Nat.le_of_ble_eq_true rfl) (Nat.le_of_ble_eq_true rfl) g7 ?_
        refine r_iconst (v := 1) dX1_take_40 rfl ?_
        cases hf
        exact r_z1 T6 dX1_take_41
def f_X11_back (x1 : Int32) (h : am_H) : Option (Int32 × am_H) := cal2 (f_X1_take x1 27 h) fun v2 h4 => if v2 = 0 then some ((-1), h4) else cal (f_X0_begin 27 h4) fun h8 => bnd (h8.1 27 9) fun v11 => some (v11, h8)
theorem rf_X11_back {X : am_X} {d : Nat} (hd : 4 ≤ d) (x1 : Int32) {h : am_H} (T : am_TP h.2.2) {r : Int32 × am_H} (hf : f_X11_back x1 h = some r) : am_G X d 11 false cX11_back (some .int) 0 [some (.ref 0), some (.int x1)] [] (am_SH, h) (some (.int r.1), (am_SH, r.2)) := by
  unfold f_X11_back at hf
  obtain ⟨d, rfl⟩ : ∃ e, d = e + 1 := ⟨d - 1, by omega⟩
  refine r_loc dX11_back_0 rfl ?_
  refine r_getR dX11_back_1 fl_11_58 sh_0 (Or.inl ⟨_, rfl⟩) (tp_0_6 T) ?_
  refine r_loc dX11_back_4 rfl ?_
  refine r_loc dX11_back_5 rfl ?_
  refine r_getR dX11_back_6 fl_11_37 sh_0 (Or.inl ⟨_, rfl⟩) (tp_0_3 T) ?_
  obtain ⟨v2, h4, c1, hf⟩ := cal2_inv hf
  have g6 := rf_X1_take (X := X) (d := d) (by omega) x1 27 st_27 T c1
  have T5 : am_TP h4.2.2 := g6.2
  refine r_virt (pre := [.ref 27, .int x1]) (rest := []) dX11_back_9 ct_11_322 rfl (sh_374) (Nat.le_of_ble_eq_true rfl) (Nat.le_of_ble_eq_true rfl) g6 ?_
  refine r_ne0 (q := 17) dX11_back_12 rfl hf (fun hf => ?_) (fun hf => ?_)
  · refine r_loc dX11_back_17 rfl ?_
    refine r_getR dX11_back_18 fl_11_51 sh_0 (Or.inl ⟨_, rfl⟩) (tp_0_5 T5) ?_
    refine r_loc dX11_back_21 rfl ?_
    refine r_getR dX11_back_22 fl_11_37 sh_0 (Or.inl ⟨_, rfl⟩) (tp_0_3 T5) ?_
    obtain ⟨h8, c7, hf⟩ := cal_inv hf
    have g10 := rf_X0_begin (X := X) (d := d) (by omega) 27 st_27 T5 c7
    have T9 : am_TP h8.2.2 := g10.2
    refine r_virt (pre := [.ref 27]) (rest := []) dX11_back_25 ct_11_104 rfl (sh_44) (Nat.le_of_ble_eq_true rfl) (Nat.le_of_ble_eq_true rfl) g10 ?_
    refine r_loc dX11_back_28 rfl ?_
    refine r_getR dX11_back_29 fl_11_37 sh_0 (Or.inl ⟨_, rfl⟩) (tp_0_3 T9) ?_
    refine r_getI dX11_back_32 fl_11_173 (sh_S st_27) rfl hf (fun v11 hf => ?_)
    cases hf
    exact r_ri T9 dX11_back_35
  · refine r_iconst (v := (-1)) dX11_back_15 rfl ?_
    cases hf
    exact r_ri T5 dX11_back_16
def f_X11_about (x1 : Int32) (h : am_H) : Option (Int32) := if x1 = 0 then cal (f_X7_count 27 h) fun v2 => some v2 else if x1 = 1 then bnd (h.1 4 6) fun v4 => some v4 else if x1 = 2 then cal (f_X7_bits 27 h) fun v6 => some v6 else if x1 = 3 then bnd (h.1 27 8) fun v8 => some v8 else if x1 = 4 then bnd (h.1 27 9) fun v9 => some v9 else if x1 = 5 then bnd (h.1 27 10) fun v10 => some v10 else if x1 = 6 then bnd (h.1 44 1) fun v11 => some v11 else if x1 = 7 then bnd (h.1 44 2) fun v12 => bnd (h.1 44 1) fun v13 => some (v12 - v13) else if x1 = 8 then bnd (h.1 404 8) fun v14 => some v14 else if x1 = 9 then bnd (h.1 404 9) fun v15 => some v15 else if x1 = 10 then bnd (h.1 1 3) fun v16 => some v16 else if x1 = 11 then bnd (h.1 10 4) fun v17 => some v17 else if x1 = 12 then bnd (h.1 0 10) fun v18 => some v18 else if x1 = 13 then bnd (h.1 4 8) fun v19 => some v19 else if x1 = 14 then bnd (h.1 4 7) fun v20 => some v20 else some (-1)
theorem rf_X11_about {X : am_X} {d : Nat} (hd : 2 ≤ d) (x1 : Int32) {h : am_H} (T : am_TP h.2.2) {r : Int32} (hf : f_X11_about x1 h = some r) : am_G X d 11 false cX11_about (some .int) 0 [some (.ref 0), some (.int x1)] [] (am_SH, h) (some (.int r), (am_SH, h)) := by
  unfold f_X11_about at hf
  obtain ⟨d, rfl⟩ : ∃ e, d = e + 1 := ⟨d - 1, by omega⟩
  refine r_loc dX11_about_0 rfl ?_
  refine r_swc (x := x1) (v := 0) (off := 75) (q := 76) dX11_about_1 rfl rfl hf (fun hf => ?_) (fun n0 hf => ?_)
  · refine r_loc dX11_about_76 rfl ?_
    refine r_getR dX11_about_77 fl_11_37 sh_0 (Or.inl ⟨_, rfl⟩) (tp_0_3 T) ?_
    obtain ⟨v2, c1, hf⟩ := cal_inv hf
    have g3 := rf_X7_count (X := X) (d := d) (by omega) 27 st_27 T c1
    refine r_virt (pre := []) (rest := []) dX11_about_80 ct_11_231 rfl ((sh_S st_27)) (Nat.le_of_ble_eq_true rfl) (Nat.le_of_ble_eq_true rfl) g3 ?_
    cases hf
    exact r_ri T dX11_about_83
  refine r_swc (x := x1) (v := 1) (off := 83) (q := 84) dX11_about_1 rfl rfl hf (fun hf => ?_) (fun n1 hf => ?_)
  · refine r_loc dX11_about_84 rfl ?_
    refine r_getR dX11_about_85 fl_11_19 sh_0 (Or.inl ⟨_, rfl⟩) (tp_0_1 T) ?_
    refine r_getI dX11_about_88 fl_11_218 sh_4 rfl hf (fun v4 hf => ?_)
    cases hf
    exact r_ri T dX11_about_91
  refine r_swc (x := x1) (v := 2) (off := 91) (q := 92) dX11_about_1 rfl rfl hf (fun hf => ?_) (fun n2 hf => ?_)
  · refine r_loc dX11_about_92 rfl ?_
    refine r_getR dX11_about_93 fl_11_37 sh_0 (Or.inl ⟨_, rfl⟩) (tp_0_3 T) ?_
    obtain ⟨v6, c5, hf⟩ := cal_inv hf
    have g7 := rf_X7_bits (X := X) (d := d) (by omega) 27 st_27 T c5
    refine r_virt (pre := []) (rest := []) dX11_about_96 ct_11_208 rfl ((sh_S st_27)) (Nat.le_of_ble_eq_true rfl) (Nat.le_of_ble_eq_true rfl) g7 ?_
    cases hf
    exact r_ri T dX11_about_99
  refine r_swc (x := x1) (v := 3) (off := 99) (q := 100) dX11_about_1 rfl rfl hf (fun hf => ?_) (fun n3 hf => ?_)
  · refine r_loc dX11_about_100 rfl ?_
    refine r_getR dX11_about_101 fl_11_37 sh_0 (Or.inl ⟨_, rfl⟩) (tp_0_3 T) ?_
    refine r_getI dX11_about_104 fl_11_188 (sh_S st_27) rfl hf (fun v8 hf => ?_)
    cases hf
    exact r_ri T dX11_about_107
  refine r_swc (x := x1) (v := 4) (off := 107) (q := 108) dX11_about_1 rfl rfl hf (fun hf => ?_) (fun n4 hf => ?_)
  · refine r_loc dX11_about_108 rfl ?_
    refine r_getR dX11_about_109 fl_11_37 sh_0 (Or.inl ⟨_, rfl⟩) (tp_0_3 T) ?_
    refine r_getI dX11_about_112 fl_11_173 (sh_S st_27) rfl hf (fun v9 hf => ?_)
    cases hf
    exact r_ri T dX11_about_115
  refine r_swc (x := x1) (v := 5) (off := 115) (q := 116) dX11_about_1 rfl rfl hf (fun hf => ?_) (fun n5 hf => ?_)
  · refine r_loc dX11_about_116 rfl ?_
    refine r_getR dX11_about_117 fl_11_37 sh_0 (Or.inl ⟨_, rfl⟩) (tp_0_3 T) ?_
    refine r_getI dX11_about_120 fl_11_325 (sh_S st_27) rfl hf (fun v10 hf => ?_)
    cases hf
    exact r_ri T dX11_about_123
  refine r_swc (x := x1) (v := 6) (off := 123) (q := 124) dX11_about_1 rfl rfl hf (fun hf => ?_) (fun n6 hf => ?_)
  · refine r_loc dX11_about_124 rfl ?_
    refine r_getR dX11_about_125 fl_11_51 sh_0 (Or.inl ⟨_, rfl⟩) (tp_0_5 T) ?_
    refine r_getI dX11_about_128 fl_11_328 sh_44 rfl hf (fun v11 hf => ?_)
    cases hf
    exact r_ri T dX11_about_131
  refine r_swc (x := x1) (v := 7) (off := 131) (q := 132) dX11_about_1 rfl rfl hf (fun hf => ?_) (fun n7 hf => ?_)
  · refine r_loc dX11_about_132 rfl ?_
    refine r_getR dX11_about_133 fl_11_51 sh_0 (Or.inl ⟨_, rfl⟩) (tp_0_5 T) ?_
    refine r_getI dX11_about_136 fl_11_331 sh_44 rfl hf (fun v12 hf => ?_)
    refine r_loc dX11_about_139 rfl ?_
    refine r_getR dX11_about_140 fl_11_51 sh_0 (Or.inl ⟨_, rfl⟩) (tp_0_5 T) ?_
    refine r_getI dX11_about_143 fl_11_328 sh_44 rfl hf (fun v13 hf => ?_)
    refine r_alu dX11_about_146 rfl ?_
    cases hf
    exact r_ri T dX11_about_147
  refine r_swc (x := x1) (v := 8) (off := 147) (q := 148) dX11_about_1 rfl rfl hf (fun hf => ?_) (fun n8 hf => ?_)
  · refine r_loc dX11_about_148 rfl ?_
    refine r_getR dX11_about_149 fl_11_72 sh_0 (Or.inl ⟨_, rfl⟩) (tp_0_8 T) ?_
    refine r_getI dX11_about_152 fl_11_111 sh_404 rfl hf (fun v14 hf => ?_)
    cases hf
    exact r_ri T dX11_about_155
  refine r_swc (x := x1) (v := 9) (off := 155) (q := 156) dX11_about_1 rfl rfl hf (fun hf => ?_) (fun n9 hf => ?_)
  · refine r_loc dX11_about_156 rfl ?_
    refine r_getR dX11_about_157 fl_11_72 sh_0 (Or.inl ⟨_, rfl⟩) (tp_0_8 T) ?_
    refine r_getI dX11_about_160 fl_11_303 sh_404 rfl hf (fun v15 hf => ?_)
    cases hf
    exact r_ri T dX11_about_163
  refine r_swc (x := x1) (v := 10) (off := 163) (q := 164) dX11_about_1 rfl rfl hf (fun hf => ?_) (fun n10 hf => ?_)
  · refine r_loc dX11_about_164 rfl ?_
    refine r_getR dX11_about_165 fl_11_12 sh_0 (Or.inl ⟨_, rfl⟩) (tp_0_0 T) ?_
    refine r_getI dX11_about_168 fl_11_84 sh_1 rfl hf (fun v16 hf => ?_)
    cases hf
    exact r_ri T dX11_about_171
  refine r_swc (x := x1) (v := 11) (off := 171) (q := 172) dX11_about_1 rfl rfl hf (fun hf => ?_) (fun n11 hf => ?_)
  · refine r_loc dX11_about_172 rfl ?_
    refine r_getR dX11_about_173 fl_11_19 sh_0 (Or.inl ⟨_, rfl⟩) (tp_0_1 T) ?_
    refine r_getR dX11_about_176 fl_11_334 sh_4 (Or.inl ⟨_, rfl⟩) (tp_4_5 T) ?_
    refine r_getI dX11_about_179 fl_11_338 sh_10 rfl hf (fun v17 hf => ?_)
    cases hf
    exact r_ri T dX11_about_182
  refine r_swc (x := x1) (v := 12) (off := 182) (q := 183) dX11_about_1 rfl rfl hf (fun hf => ?_) (fun n12 hf => ?_)
  · refine r_loc dX11_about_183 rfl ?_
    refine r_getI dX11_about_184 fl_11_80 sh_0 rfl hf (fun v18 hf => ?_)
    cases hf
    exact r_ri T dX11_about_187
  refine r_swc (x := x1) (v := 13) (off := 187) (q := 188) dX11_about_1 rfl rfl hf (fun hf => ?_) (fun n13 hf => ?_)
  · refine r_loc dX11_about_188 rfl ?_
    refine r_getR dX11_about_189 fl_11_19 sh_0 (Or.inl ⟨_, rfl⟩) (tp_0_1 T) ?_
    refine r_getI dX11_about_192 fl_11_176 sh_4 rfl hf (fun v19 hf => ?_)
    cases hf
    exact r_ri T dX11_about_195
  refine r_swc (x := x1) (v := 14) (off := 195) (q := 196) dX11_about_1 rfl rfl hf (fun hf => ?_) (fun n14 hf => ?_)
  · refine r_loc dX11_about_196 rfl ?_
    refine r_getR dX11_about_197 fl_11_19 sh_0 (Or.inl ⟨_, rfl⟩) (tp_0_1 T) ?_
    refine r_getI dX11_about_200 fl_11_114 sh_4 rfl hf (fun v20 hf => ?_)
    cases hf
    exact r_ri T dX11_about_203
  refine r_swdt (q := 204) dX11_about_1 (by decide) ⟨Or.inr n0, Or.inr n1, Or.inr n2, Or.inr n3, Or.inr n4, Or.inr n5, Or.inr n6, Or.inr n7, Or.inr n8, Or.inr n9, Or.inr n10, Or.inr n11, Or.inr n12, Or.inr n13, Or.inr n14, trivial⟩ rfl ?_
  refine r_iconst (v := (-1)) dX11_about_204 rfl ?_
  cases hf
  exact r_ri T dX11_about_205
def f_X12_clearBank  (h : am_H) : Option (am_H) := bnd (h.1 413 33) fun v1 => wrI h 416 2 v1 0 fun h2 => bnd (h2.1 413 33) fun v5 => wrI h2 417 2 v5 0 fun h6 => bnd (h6.1 413 33) fun v9 => wrI h6 418 2 v9 0 fun h10 => bnd (h10.1 413 33) fun v13 => wrI h10 419 2 v13 3 fun h14 => bnd (h14.1 413 33) fun v17 => wrI h14 420 2 v17 0 fun h18 => bnd (h18.1 413 33) fun v21 => wrI h18 421 2 v21 0 fun h22 => bnd (h22.1 413 33) fun v25 => wrI h22 422 2 v25 0 fun h26 => bnd (h26.1 413 33) fun v29 => ptI h26 413 34 ((560 : Int32) * v29) fun h30 => some h30
theorem rf_X12_clearBank {X : am_X} {d : Nat} (hd : 0 ≤ d)  {h : am_H} (T : am_TP h.2.2) {r : am_H} (hf : f_X12_clearBank  h = some r) : am_G X d 12 false cX12_clearBank none 0 [some (.ref 413)] [] (am_SH, h) (none, (am_SH, r)) := by
  unfold f_X12_clearBank at hf
  refine r_loc dX12_clearBank_0 rfl ?_
  refine r_getR dX12_clearBank_1 fl_12_20 sh_413 (Or.inr ⟨_, rfl⟩) (tp_413_11 T) ?_
  refine r_loc dX12_clearBank_4 rfl ?_
  refine r_getI dX12_clearBank_5 fl_12_235 sh_413 rfl hf (fun v1 hf => ?_)
  refine r_iconst (v := 0) dX12_clearBank_8 rfl ?_
  refine r_iast dX12_clearBank_9 sh_416 hf (fun h2 e4 hf => ?_)
  have T3 := tp_eq e4 T
  refine r_loc dX12_clearBank_10 rfl ?_
  refine r_getR dX12_clearBank_11 fl_12_24 sh_413 (Or.inr ⟨_, rfl⟩) (tp_413_12 T3) ?_
  refine r_loc dX12_clearBank_14 rfl ?_
  refine r_getI dX12_clearBank_15 fl_12_235 sh_413 rfl hf (fun v5 hf => ?_)
  refine r_iconst (v := 0) dX12_clearBank_18 rfl ?_
  refine r_iast dX12_clearBank_19 sh_417 hf (fun h6 e8 hf => ?_)
  have T7 := tp_eq e8 T3
  refine r_loc dX12_clearBank_20 rfl ?_
  refine r_getR dX12_clearBank_21 fl_12_27 sh_413 (Or.inr ⟨_, rfl⟩) (tp_413_13 T7) ?_
  refine r_loc dX12_clearBank_24 rfl ?_
  refine r_getI dX12_clearBank_25 fl_12_235 sh_413 rfl hf (fun v9 hf => ?_)
  refine r_iconst (v := 0) dX12_clearBank_28 rfl ?_
  refine r_iast dX12_clearBank_29 sh_418 hf (fun h10 e12 hf => ?_)
  have T11 := tp_eq e12 T7
  refine r_loc dX12_clearBank_30 rfl ?_
  refine r_getR dX12_clearBank_31 fl_12_30 sh_413 (Or.inr ⟨_, rfl⟩) (tp_413_14 T11) ?_
  refine r_loc dX12_clearBank_34 rfl ?_
  refine r_getI dX12_clearBank_35 fl_12_235 sh_413 rfl hf (fun v13 hf => ?_)
  refine r_iconst (v := 3) dX12_clearBank_38 rfl ?_
  refine r_iast dX12_clearBank_39 sh_419 hf (fun h14 e16 hf => ?_)
  have T15 := tp_eq e16 T11
  refine r_loc dX12_clearBank_40 rfl ?_
  refine r_getR dX12_clearBank_41 fl_12_33 sh_413 (Or.inr ⟨_, rfl⟩) (tp_413_15 T15) ?_
  refine r_loc dX12_clearBank_44 rfl ?_
  refine r_getI dX12_clearBank_45 fl_12_235 sh_413 rfl hf (fun v17 hf => ?_)
  refine r_iconst (v := 0) dX12_clearBank_48 rfl ?_
  refine r_iast dX12_clearBank_49 sh_420 hf (fun h18 e20 hf => ?_)
  have T19 := tp_eq e20 T15
  refine r_loc dX12_clearBank_50 rfl ?_
  refine r_getR dX12_clearBank_51 fl_12_36 sh_413 (Or.inr ⟨_, rfl⟩) (tp_413_16 T19) ?_
  refine r_loc dX12_clearBank_54 rfl ?_
  refine r_getI dX12_clearBank_55 fl_12_235 sh_413 rfl hf (fun v21 hf => ?_)
  refine r_iconst (v := 0) dX12_clearBank_58 rfl ?_
  refine r_iast dX12_clearBank_59 sh_421 hf (fun h22 e24 hf => ?_)
  have T23 := tp_eq e24 T19
  refine r_loc dX12_clearBank_60 rfl ?_
  refine r_getR dX12_clearBank_61 fl_12_39 sh_413 (Or.inr ⟨_, rfl⟩) (tp_413_17 T23) ?_
  refine r_loc dX12_clearBank_64 rfl ?_
  refine r_getI dX12_clearBank_65 fl_12_235 sh_413 rfl hf (fun v25 hf => ?_)
  refine r_iconst (v := 0) dX12_clearBank_68 rfl ?_
  refine r_iast dX12_clearBank_69 sh_422 hf (fun h26 e28 hf => ?_)
  have T27 := tp_eq e28 T23
  refine r_loc dX12_clearBank_70 rfl ?_
  refine r_sipush (v := 560) dX12_clearBank_71 rfl ?_
  refine r_loc dX12_clearBank_74 rfl ?_
  refine r_getI dX12_clearBank_75 fl_12_235 sh_413 rfl hf (fun v29 hf => ?_)
  refine r_alu dX12_clearBank_78 rfl ?_
  refine r_putI dX12_clearBank_79 fl_12_238 sh_413 ⟨rfl, rfl⟩ hf (fun h30 e32 hf => ?_)
  have T31 := tp_eq e32 T27
  cases hf
  exact r_ret T31 dX12_clearBank_82 rfl
def f_X12_clearPlace (x1 : Int32) (h : am_H) : Option (am_H) := wrI h 437 59 ((0 : Int32) + x1) 0 fun h1 => wrI h1 437 59 ((8 : Int32) + x1) 0 fun h4 => wrI h4 437 59 ((16 : Int32) + x1) 0 fun h7 => wrI h7 437 59 ((24 : Int32) + x1) 0 fun h10 => wrI h10 437 59 ((32 : Int32) + x1) 0 fun h13 => wrI h13 437 59 ((40 : Int32) + x1) (-1) fun h16 => wrI h16 437 59 ((48 : Int32) + x1) (-1) fun h19 => some h19
theorem rf_X12_clearPlace {X : am_X} {d : Nat} (hd : 0 ≤ d) (x1 : Int32) {h : am_H} (T : am_TP h.2.2) {r : am_H} (hf : f_X12_clearPlace x1 h = some r) : am_G X d 12 false cX12_clearPlace none 0 [some (.ref 413), some (.int x1)] [] (am_SH, h) (none, (am_SH, r)) := by
  unfold f_X12_clearPlace at hf
  refine r_loc dX12_clearPlace_0 rfl ?_
  refine r_getR dX12_clearPlace_1 fl_12_85 sh_413 (Or.inr ⟨_, rfl⟩) (tp_413_40 T) ?_
  refine r_iconst (v := 0) dX12_clearPlace_4 rfl ?_
  refine r_loc dX12_clearPlace_5 rfl ?_
  refine r_alu dX12_clearPlace_6 rfl ?_
  refine r_iconst (v := 0) dX12_clearPlace_7 rfl ?_
  refine r_iast dX12_clearPlace_8 sh_437 hf (fun h1 e3 hf => ?_)
  have T2 := tp_eq e3 T
  refine r_loc dX12_clearPlace_9 rfl ?_
  refine r_getR dX12_clearPlace_10 fl_12_85 sh_413 (Or.inr ⟨_, rfl⟩) (tp_413_40 T2) ?_
  refine r_bipush (v := 8) dX12_clearPlace_13 rfl ?_
  refine r_loc dX12_clearPlace_15 rfl ?_
  refine r_alu dX12_clearPlace_16 rfl ?_
  refine r_iconst (v := 0) dX12_clearPlace_17 rfl ?_
  refine r_iast dX12_clearPlace_18 sh_437 hf (fun h4 e6 hf => ?_)
  have T5 := tp_eq e6 T2
  refine r_loc dX12_clearPlace_19 rfl ?_
  refine r_getR dX12_clearPlace_20 fl_12_85 sh_413 (Or.inr ⟨_, rfl⟩) (tp_413_40 T5) ?_
  refine r_bipush (v := 16) dX12_clearPlace_23 rfl ?_
  refine r_loc dX12_clearPlace_25 rfl ?_
  refine r_alu dX12_clearPlace_26 rfl ?_
  refine r_iconst (v := 0) dX12_clearPlace_27 rfl ?_
  refine r_iast dX12_clearPlace_28 sh_437 hf (fun h7 e9 hf => ?_)
  have T8 := tp_eq e9 T5
  refine r_loc dX12_clearPlace_29 rfl ?_
  refine r_getR dX12_clearPlace_30 fl_12_85 sh_413 (Or.inr ⟨_, rfl⟩) (tp_413_40 T8) ?_
  refine r_bipush (v := 24) dX12_clearPlace_33 rfl ?_
  refine r_loc dX12_clearPlace_35 rfl ?_
  refine r_alu dX12_clearPlace_36 rfl ?_
  refine r_iconst (v := 0) dX12_clearPlace_37 rfl ?_
  refine r_iast dX12_clearPlace_38 sh_437 hf (fun h10 e12 hf => ?_)
  have T11 := tp_eq e12 T8
  refine r_loc dX12_clearPlace_39 rfl ?_
  refine r_getR dX12_clearPlace_40 fl_12_85 sh_413 (Or.inr ⟨_, rfl⟩) (tp_413_40 T11) ?_
  refine r_bipush (v := 32) dX12_clearPlace_43 rfl ?_
  refine r_loc dX12_clearPlace_45 rfl ?_
  refine r_alu dX12_clearPlace_46 rfl ?_
  refine r_iconst (v := 0) dX12_clearPlace_47 rfl ?_
  refine r_iast dX12_clearPlace_48 sh_437 hf (fun h13 e15 hf => ?_)
  have T14 := tp_eq e15 T11
  refine r_loc dX12_clearPlace_49 rfl ?_
  refine r_getR dX12_clearPlace_50 fl_12_85 sh_413 (Or.inr ⟨_, rfl⟩) (tp_413_40 T14) ?_
  refine r_bipush (v := 40) dX12_clearPlace_53 rfl ?_
  refine r_loc dX12_clearPlace_55 rfl ?_
  refine r_alu dX12_clearPlace_56 rfl ?_
  refine r_iconst (v := (-1)) dX12_clearPlace_57 rfl ?_
  refine r_iast dX12_clearPlace_58 sh_437 hf (fun h16 e18 hf => ?_)
  have T17 := tp_eq e18 T14
  refine r_loc dX12_clearPlace_59 rfl ?_
  refine r_getR dX12_clearPlace_60 fl_12_85 sh_413 (Or.inr ⟨_, rfl⟩) (tp_413_40 T17) ?_
  refine r_bipush (v := 48) dX12_clearPlace_63 rfl ?_
  refine r_loc dX12_clearPlace_65 rfl ?_
  refine r_alu dX12_clearPlace_66 rfl ?_
  refine r_iconst (v := (-1)) dX12_clearPlace_67 rfl ?_
  refine r_iast dX12_clearPlace_68 sh_437 hf (fun h19 e21 hf => ?_)
  have T20 := tp_eq e21 T17
  cases hf
  exact r_ret T20 dX12_clearPlace_69 rfl
def lp_X12_startAnew_2 (k_21 : am_H → Option (am_H)) : Nat → Int32 → am_H → Option (am_H)
  | 0, _, _ => none
  | n + 1, x1, h => if x1 < 59 then wrI h 437 59 x1 0 fun h1 => lp_X12_startAnew_2 k_21 n (x1 + 1) h1 else k_21  h
def lp_X12_startAnew_23 (k_40 : am_H → Option (am_H)) : Nat → Int32 → am_H → Option (am_H)
  | 0, _, _ => none
  | n + 1, x1, h => if x1 < 8 then cal (f_X12_clearPlace x1 h) fun h7 => lp_X12_startAnew_23 k_40 n (x1 + 1) h7 else k_40  h
def lp_X12_startAnew_42 (k_130 : am_H → Option (am_H)) : Nat → Int32 → am_H → Option (am_H)
  | 0, _, _ => none
  | n + 1, x1, h => bnd (h.1 413 32) fun v12 => rdI h 417 2 v12 fun v13 => if x1 < v13 then bnd (h.1 413 32) fun v14 => rdI h 424 12 (((6 : Int32) * v14) + x1) fun v15 => wrI h 437 59 ((0 : Int32) + x1) v15 fun h16 => rdI h16 425 12 (((6 : Int32) * v14) + x1) fun v19 => wrI h16 437 59 ((8 : Int32) + x1) v19 fun h20 => rdI h20 426 12 (((6 : Int32) * v14) + x1) fun v23 => wrI h20 437 59 ((16 : Int32) + x1) v23 fun h24 => rdI h24 427 12 (((6 : Int32) * v14) + x1) fun v27 => wrI h24 437 59 ((24 : Int32) + x1) v27 fun h28 => lp_X12_startAnew_42 k_130 n (x1 + 1) h28 else k_130  h
def lp_X12_startAnew_184 : Nat → Int32 → am_H → Option (am_H)
  | 0, _, _ => none
  | n + 1, x1, h => if x1 < 3 then wrI h 449 3 x1 (vp_nar .boolean 0) fun h55 => lp_X12_startAnew_184 n (x1 + 1) h55 else some h
def f_X12_startAnew  (h : am_H) : Option (am_H) := lp_X12_startAnew_2 (fun h4 => lp_X12_startAnew_23 (fun h10 => lp_X12_startAnew_42 (fun h31 => bnd (h31.1 413 32) fun v33 => rdI h31 420 2 v33 fun v34 => wrI h31 437 59 56 v34 fun h35 => bnd (h35.1 413 32) fun v38 => rdI h35 421 2 v38 fun v39 => wrI h35 437 59 58 v39 fun h40 => ptI h40 413 44 0 fun h43 => ptI h43 413 45 0 fun h46 => ptI h46 413 55 0 fun h49 => ptI h49 413 47 0 fun h52 => lp_X12_startAnew_184  4000 0 h52) 4000 0 h10) 4000 0 h4) 4000 0 h
theorem rl_X12_startAnew_2 {X : am_X} {d : Nat} (hd : 1 ≤ d) (k_21 : am_H → Option (am_H)) {r : am_H} (hk_21 : ∀ (h : am_H), am_TP h.2.2 → k_21  h = some r → am_G X d 12 false cX12_startAnew none 21 [some (.ref 413), none, none] [] (am_SH, h) (none, (am_SH, r))) : ∀ (n : Nat) (x1 : Int32) (h : am_H), am_TP h.2.2 → lp_X12_startAnew_2 k_21 n x1 h = some r → am_G X d 12 false cX12_startAnew none 2 [some (.ref 413), some (.int x1), none] [] (am_SH, h) (none, (am_SH, r)) := by
  obtain ⟨d, rfl⟩ : ∃ e, d = e + 1 := ⟨d - 1, by omega⟩
  intro n
  induction n with
  | zero => intro x1 h T hf; cases hf
  | succ n ih =>
    intro x1 h T hf
    rw [lp_X12_startAnew_2] at hf
    refine r_loc dX12_startAnew_2 rfl ?_
    refine r_bipush (v := 59) dX12_startAnew_3 rfl ?_
    refine r_ge (q := 21) dX12_startAnew_5 rfl hf (fun hf => ?_) (fun hf => ?_)
    · refine r_weak (L := [some (.ref 413), none, none]) (am_le_s (am_le_n (am_le_n am_le_0))) ?_
      exact hk_21  h T hf
    · refine r_loc dX12_startAnew_8 rfl ?_
      refine r_getR dX12_startAnew_9 fl_12_85 sh_413 (Or.inr ⟨_, rfl⟩) (tp_413_40 T) ?_
      refine r_loc dX12_startAnew_12 rfl ?_
      refine r_iconst (v := 0) dX12_startAnew_13 rfl ?_
      refine r_iast dX12_startAnew_14 sh_437 hf (fun h1 e3 hf => ?_)
      have T2 := tp_eq e3 T
      refine r_loc (L' := [some (.ref 413), some (.int (x1 + 1)), none]) dX12_startAnew_15 rfl ?_
      refine r_goto (q := 2) dX12_startAnew_18 rfl ?_
      exact ih (x1 + 1) h1 T2 hf
theorem rl_X12_startAnew_23 {X : am_X} {d : Nat} (hd : 1 ≤ d) (k_40 : am_H → Option (am_H)) {r : am_H} (hk_40 : ∀ (h : am_H), am_TP h.2.2 → k_40  h = some r → am_G X d 12 false cX12_startAnew none 40 [some (.ref 413), none, none] [] (am_SH, h) (none, (am_SH, r))) : ∀ (n : Nat) (x1 : Int32) (h : am_H), am_TP h.2.2 → lp_X12_startAnew_23 k_40 n x1 h = some r → am_G X d 12 false cX12_startAnew none 23 [some (.ref 413), some (.int x1), none] [] (am_SH, h) (none, (am_SH, r)) := by
  obtain ⟨d, rfl⟩ : ∃ e, d = e + 1 := ⟨d - 1, by omega⟩
  intro n
  induction n with
  | zero => intro x1 h T hf; cases hf
  | succ n ih =>
    intro x1 h T hf
    rw [lp_X12_startAnew_23] at hf
    refine r_loc dX12_startAnew_23 rfl ?_
    refine r_bipush (v := 8) dX12_startAnew_24 rfl ?_
    refine r_ge (q := 40) dX12_startAnew_26 rfl hf (fun hf => ?_) (fun hf => ?_)
    · refine r_weak (L := [some (.ref 413), none, none]) (am_le_s (am_le_n (am_le_n am_le_0))) ?_
      exact hk_40  h T hf
    · refine r_loc dX12_startAnew_29 rfl ?_
      refine r_loc dX12_startAnew_30 rfl ?_
      obtain ⟨h7, c6, hf⟩ := cal_inv hf
      have g9 := rf_X12_clearPlace (X := X) (d := d) (by omega) x1 T c6
      have T8 : am_TP h7.2.2 := g9.2
      refine r_virt (pre := [.int x1]) (rest := []) dX12_startAnew_31 ct_12_359 rfl (sh_413) (Nat.le_of_ble_eq_true rfl) (Nat.le_of_ble_eq_true rfl) g9 ?_
      refine r_loc (L' := [some (.ref 413), some (.int (x1 + 1)), none]) dX12_startAnew_34 rfl ?_
      refine r_goto (q := 23) dX12_startAnew_37 rfl ?_
      exact ih (x1 + 1) h7 T8 hf
theorem rl_X12_startAnew_42 {X : am_X} {d : Nat} (hd : 1 ≤ d) (k_130 : am_H → Option (am_H)) {r : am_H} (hk_130 : ∀ (h : am_H), am_TP h.2.2 → k_130  h = some r → am_G X d 12 false cX12_startAnew none 130 [some (.ref 413), none, none] [] (am_SH, h) (none, (am_SH, r))) : ∀ (n : Nat) (x1 : Int32) (h : am_H), am_TP h.2.2 → lp_X12_startAnew_42 k_130 n x1 h = some r → am_G X d 12 false cX12_startAnew none 42 [some (.ref 413), some (.int x1), none] [] (am_SH, h) (none, (am_SH, r)) := by
  obtain ⟨d, rfl⟩ : ∃ e, d = e + 1 := ⟨d - 1, by omega⟩
  intro n
  induction n with
  | zero => intro x1 h T hf; cases hf
  | succ n ih =>
    intro x1 h T hf
    rw [lp_X12_startAnew_42] at hf
    refine r_loc dX12_startAnew_42 rfl ?_
    refine r_loc dX12_startAnew_43 rfl ?_
    refine r_getR dX12_startAnew_44 fl_12_24 sh_413 (Or.inr ⟨_, rfl⟩) (tp_413_12 T) ?_
    refine r_loc dX12_startAnew_47 rfl ?_
    refine r_getI dX12_startAnew_48 fl_12_244 sh_413 rfl hf (fun v12 hf => ?_)
    refine r_iald dX12_startAnew_51 sh_417 hf (fun v13 hf => ?_)
    refine r_ge (q := 130) dX12_startAnew_52 rfl hf (fun hf => ?_) (fun hf => ?_)
    · refine r_weak (L := [some (.ref 413), none, none]) (am_le_s (am_le_n (am_le_n am_le_0))) ?_
      exact hk_130  h T hf
    · refine r_bipush (v := 6) dX12_startAnew_55 rfl ?_
      refine r_loc dX12_startAnew_57 rfl ?_
      refine r_getI dX12_startAnew_58 fl_12_244 sh_413 rfl hf (fun v14 hf => ?_)
      refine r_alu dX12_startAnew_61 rfl ?_
      refine r_loc dX12_startAnew_62 rfl ?_
      refine r_alu dX12_startAnew_63 rfl ?_
      refine r_loc (L' := [some (.ref 413), some (.int x1), some (.int (((6 : Int32) * v14) + x1))]) dX12_startAnew_64 rfl ?_
      refine r_loc dX12_startAnew_65 rfl ?_
      refine r_getR dX12_startAnew_66 fl_12_85 sh_413 (Or.inr ⟨_, rfl⟩) (tp_413_40 T) ?_
      refine r_iconst (v := 0) dX12_startAnew_69 rfl ?_
      refine r_loc dX12_startAnew_70 rfl ?_
      refine r_alu dX12_startAnew_71 rfl ?_
      refine r_loc dX12_startAnew_72 rfl ?_
      refine r_getR dX12_startAnew_73 fl_12_45 sh_413 (Or.inr ⟨_, rfl⟩) (tp_413_19 T) ?_
      refine r_loc dX12_startAnew_76 rfl ?_
      refine r_iald dX12_startAnew_77 sh_424 hf (fun v15 hf => ?_)
      refine r_iast dX12_startAnew_78 sh_437 hf (fun h16 e18 hf => ?_)
      have T17 := tp_eq e18 T
      refine r_loc dX12_startAnew_79 rfl ?_
      refine r_getR dX12_startAnew_80 fl_12_85 sh_413 (Or.inr ⟨_, rfl⟩) (tp_413_40 T17) ?_
      refine r_bipush (v := 8) dX12_startAnew_83 rfl ?_
      refine r_loc dX12_startAnew_85 rfl ?_
      refine r_alu dX12_startAnew_86 rfl ?_
      refine r_loc dX12_startAnew_87 rfl ?_
      refine r_getR dX12_startAnew_88 fl_12_48 sh_413 (Or.inr ⟨_, rfl⟩) (tp_413_20 T17) ?_
      refine r_loc dX12_startAnew_91 rfl ?_
      refine r_iald dX12_startAnew_92 sh_425 hf (fun v19 hf => ?_)
      refine r_iast dX12_startAnew_93 sh_437 hf (fun h20 e22 hf => ?_)
      have T21 := tp_eq e22 T17
      refine r_loc dX12_startAnew_94 rfl ?_
      refine r_getR dX12_startAnew_95 fl_12_85 sh_413 (Or.inr ⟨_, rfl⟩) (tp_413_40 T21) ?_
      refine r_bipush (v := 16) dX12_startAnew_98 rfl ?_
      refine r_loc dX12_startAnew_100 rfl ?_
      refine r_alu dX12_startAnew_101 rfl ?_
      refine r_loc dX12_startAnew_102 rfl ?_
      refine r_getR dX12_startAnew_103 fl_12_51 sh_413 (Or.inr ⟨_, rfl⟩) (tp_413_21 T21) ?_
      refine r_loc dX12_startAnew_106 rfl ?_
      refine r_iald dX12_startAnew_107 sh_426 hf (fun v23 hf => ?_)
      refine r_iast dX12_startAnew_108 sh_437 hf (fun h24 e26 hf => ?_)
      have T25 := tp_eq e26 T21
      refine r_loc dX12_startAnew_109 rfl ?_
      refine r_getR dX12_startAnew_110 fl_12_85 sh_413 (Or.inr ⟨_, rfl⟩) (tp_413_40 T25) ?_
      refine r_bipush (v := 24) dX12_startAnew_113 rfl ?_
      refine r_loc dX12_startAnew_115 rfl ?_
      refine r_alu dX12_startAnew_116 rfl ?_
      refine r_loc dX12_startAnew_117 rfl ?_
      refine r_getR dX12_startAnew_118 fl_12_54 sh_413 (Or.inr ⟨_, rfl⟩) (tp_413_22 T25) ?_
      refine r_loc dX12_startAnew_121 rfl ?_
      refine r_iald dX12_startAnew_122 sh_427 hf (fun v27 hf => ?_)
      refine r_iast dX12_startAnew_123 sh_437 hf (fun h28 e30 hf => ?_)
      have T29 := tp_eq e30 T25
      refine r_loc (L' := [some (.ref 413), some (.int (x1 + 1)), some (.int (((6 : Int32) * v14) + x1))]) dX12_startAnew_124 rfl ?_
      refine r_goto (q := 42) dX12_startAnew_127 rfl ?_
      refine r_weak (L := [some (.ref 413), some (.int (x1 + 1)), none]) (am_le_s (am_le_s (am_le_n am_le_0))) ?_
      exact ih (x1 + 1) h28 T29 hf
theorem rl_X12_startAnew_184 {X : am_X} {d : Nat} (hd : 1 ≤ d) {r : am_H} : ∀ (n : Nat) (x1 : Int32) (h : am_H), am_TP h.2.2 → lp_X12_startAnew_184 n x1 h = some r → am_G X d 12 false cX12_startAnew none 184 [some (.ref 413), some (.int x1), none] [] (am_SH, h) (none, (am_SH, r)) := by
  obtain ⟨d, rfl⟩ : ∃ e, d = e + 1 := ⟨d - 1, by omega⟩
  intro n
  induction n with
  | zero => intro x1 h T hf; cases hf
  | succ n ih =>
    intro x1 h T hf
    rw [lp_X12_startAnew_184] at hf
    refine r_loc dX12_startAnew_184 rfl ?_
    refine r_iconst (v := 3) dX12_startAnew_185 rfl ?_
    refine r_ge (q := 202) dX12_startAnew_186 rfl hf (fun hf => ?_) (fun hf => ?_)
    · cases hf
      exact r_ret T dX12_startAnew_202 rfl
    · refine r_loc dX12_startAnew_189 rfl ?_
      refine r_getR dX12_startAnew_190 fl_12_125 sh_413 (Or.inr ⟨_, rfl⟩) (tp_413_59 T) ?_
      refine r_loc dX12_startAnew_193 rfl ?_
      refine r_iconst (v := 0) dX12_startAnew_194 rfl ?_
      refine r_bast dX12_startAnew_195 sh_449 rfl hf (fun h55 e57 hf => ?_)
      have T56 := tp_eq e57 T
      refine r_loc (L' := [some (.ref 413), some (.int (x1 + 1)), none]) dX12_startAnew_196 rfl ?_
      refine r_goto (q := 184) dX12_startAnew_199 rfl ?_
      exact ih (x1 + 1) h55 T56 hf
theorem rf_X12_startAnew {X : am_X} {d : Nat} (hd : 1 ≤ d)  {h : am_H} (T : am_TP h.2.2) {r : am_H} (hf : f_X12_startAnew  h = some r) : am_G X d 12 false cX12_startAnew none 0 [some (.ref 413), none, none] [] (am_SH, h) (none, (am_SH, r)) := by
  unfold f_X12_startAnew at hf
  obtain ⟨d, rfl⟩ : ∃ e, d = e + 1 := ⟨d - 1, by omega⟩
  refine r_iconst (v := 0) dX12_startAnew_0 rfl ?_
  refine r_loc (L' := [some (.ref 413), some (.int 0), none]) dX12_startAnew_1 rfl ?_
  refine rl_X12_startAnew_2 (by omega) _ ?_ 4000 0 h T hf
  · intro h4 T5 hf
    refine r_iconst (v := 0) dX12_startAnew_21 rfl ?_
    refine r_loc (L' := [some (.ref 413), some (.int 0), none]) dX12_startAnew_22 rfl ?_
    refine rl_X12_startAnew_23 (by omega) _ ?_ 4000 0 h4 T5 hf
    · intro h10 T11 hf
      refine r_iconst (v := 0) dX12_startAnew_40 rfl ?_
      refine r_loc (L' := [some (.ref 413), some (.int 0), none]) dX12_startAnew_41 rfl ?_
      refine rl_X12_startAnew_42 (by omega) _ ?_ 4000 0 h10 T11 hf
      · intro h31 T32 hf
        refine r_loc dX12_startAnew_130 rfl ?_
        refine r_getR dX12_startAnew_131 fl_12_85 sh_413 (Or.inr ⟨_, rfl⟩) (tp_413_40 T32) ?_
        refine r_bipush (v := 56) dX12_startAnew_134 rfl ?_
        refine r_loc dX12_startAnew_136 rfl ?_
        refine r_getR dX12_startAnew_137 fl_12_33 sh_413 (Or.inr ⟨_, rfl⟩) (tp_413_15 T32) ?_
        refine r_loc dX12_startAnew_140 rfl ?_
        refine r_getI dX12_startAnew_141 fl_12_244 sh_413 rfl hf (fun v33 hf => ?_)
        refine r_iald dX12_startAnew_144 sh_420 hf (fun v34 hf => ?_)
        refine r_iast dX12_startAnew_145 sh_437 hf (fun h35 e37 hf => ?_)
        have T36 := tp_eq e37 T32
        refine r_loc dX12_startAnew_146 rfl ?_
        refine r_getR dX12_startAnew_147 fl_12_85 sh_413 (Or.inr ⟨_, rfl⟩) (tp_413_40 T36) ?_
        refine r_bipush (v := 58) dX12_startAnew_150 rfl ?_
        refine r_loc dX12_startAnew_152 rfl ?_
        refine r_getR dX12_startAnew_153 fl_12_36 sh_413 (Or.inr ⟨_, rfl⟩) (tp_413_16 T36) ?_
        refine r_loc dX12_startAnew_156 rfl ?_
        refine r_getI dX12_startAnew_157 fl_12_244 sh_413 rfl hf (fun v38 hf => ?_)
        refine r_iald dX12_startAnew_160 sh_421 hf (fun v39 hf => ?_)
        refine r_iast dX12_startAnew_161 sh_437 hf (fun h40 e42 hf => ?_)
        have T41 := tp_eq e42 T36
        refine r_loc dX12_startAnew_162 rfl ?_
        refine r_iconst (v := 0) dX12_startAnew_163 rfl ?_
        refine r_putI dX12_startAnew_164 fl_12_363 sh_413 ⟨rfl, rfl⟩ hf (fun h43 e45 hf => ?_)
        have T44 := tp_eq e45 T41
        refine r_loc dX12_startAnew_167 rfl ?_
        refine r_iconst (v := 0) dX12_startAnew_168 rfl ?_
        refine r_putI dX12_startAnew_169 fl_12_366 sh_413 ⟨rfl, rfl⟩ hf (fun h46 e48 hf => ?_)
        have T47 := tp_eq e48 T44
        refine r_loc dX12_startAnew_172 rfl ?_
        refine r_iconst (v := 0) dX12_startAnew_173 rfl ?_
        refine r_putI dX12_startAnew_174 fl_12_369 sh_413 ⟨rfl, rfl⟩ hf (fun h49 e51 hf => ?_)
        have T50 := tp_eq e51 T47
        refine r_loc dX12_startAnew_177 rfl ?_
        refine r_iconst (v := 0) dX12_startAnew_178 rfl ?_
        refine r_putI dX12_startAnew_179 fl_12_372 sh_413 ⟨rfl, rfl⟩ hf (fun h52 e54 hf => ?_)
        have T53 := tp_eq e54 T50
        refine r_iconst (v := 0) dX12_startAnew_182 rfl ?_
        refine r_loc (L' := [some (.ref 413), some (.int 0), none]) dX12_startAnew_183 rfl ?_
        refine rl_X12_startAnew_184 (by omega)  4000 0 h52 T53 hf
def f_X12_sign (x1 : Int32) (h : am_H) : Option (Int32) := bnd (h.1 413 3) fun v1 => if x1 < v1 then rdI h 415 1600 x1 fun v2 => some (v2 &&& 255) else some 0
theorem rf_X12_sign {X : am_X} {d : Nat} (hd : 0 ≤ d) (x1 : Int32) {h : am_H} (T : am_TP h.2.2) {r : Int32} (hf : f_X12_sign x1 h = some r) : am_G X d 12 false cX12_sign (some .int) 0 [some (.ref 413), some (.int x1)] [] (am_SH, h) (some (.int r), (am_SH, h)) := by
  unfold f_X12_sign at hf
  refine r_loc dX12_sign_0 rfl ?_
  refine r_loc dX12_sign_1 rfl ?_
  refine r_getI dX12_sign_2 fl_12_134 sh_413 rfl hf (fun v1 hf => ?_)
  refine r_ge (q := 21) dX12_sign_5 rfl hf (fun hf => ?_) (fun hf => ?_)
  · refine r_iconst (v := 0) dX12_sign_21 rfl ?_
    cases hf
    exact r_ri T dX12_sign_22
  · refine r_loc dX12_sign_8 rfl ?_
    refine r_getR dX12_sign_9 fl_12_13 sh_413 (Or.inr ⟨_, rfl⟩) (tp_413_1 T) ?_
    refine r_loc dX12_sign_12 rfl ?_
    refine r_bald dX12_sign_13 sh_415 rfl hf (fun v2 hf => ?_)
    refine r_sipush (v := 255) dX12_sign_14 rfl ?_
    refine r_alu dX12_sign_17 rfl ?_
    refine r_goto (q := 22) dX12_sign_18 rfl ?_
    cases hf
    exact r_ri T dX12_sign_22
def f_X12_isLetter (x0 : Int32) (h : am_H) : Option (Int32) := if x0 < 97 then some 0 else if 122 < x0 then some 0 else some 1
theorem rf_X12_isLetter {X : am_X} {d : Nat} (hd : 0 ≤ d) (x0 : Int32) {h : am_H} (T : am_TP h.2.2) {r : Int32} (hf : f_X12_isLetter x0 h = some r) : am_G X d 12 false cX12_isLetter (some .boolean) 0 [some (.int x0)] [] (am_SH, h) (some (.int r), (am_SH, h)) := by
  unfold f_X12_isLetter at hf
  refine r_loc dX12_isLetter_0 rfl ?_
  refine r_bipush (v := 97) dX12_isLetter_1 rfl ?_
  refine r_lt (q := 16) dX12_isLetter_3 rfl hf (fun hf => ?_) (fun hf => ?_)
  · refine r_iconst (v := 0) dX12_isLetter_16 rfl ?_
    cases hf
    exact r_z0 T dX12_isLetter_17
  · refine r_loc dX12_isLetter_6 rfl ?_
    refine r_bipush (v := 122) dX12_isLetter_7 rfl ?_
    refine r_gt (q := 16) dX12_isLetter_9 rfl hf (fun hf => ?_) (fun hf => ?_)
    · refine r_iconst (v := 0) dX12_isLetter_16 rfl ?_
      cases hf
      exact r_z0 T dX12_isLetter_17
    · refine r_iconst (v := 1) dX12_isLetter_12 rfl ?_
      refine r_goto (q := 17) dX12_isLetter_13 rfl ?_
      cases hf
      exact r_z1 T dX12_isLetter_17
def f_X12_isDigit (x0 : Int32) (h : am_H) : Option (Int32) := if x0 < 48 then some 0 else if 57 < x0 then some 0 else some 1
theorem rf_X12_isDigit {X : am_X} {d : Nat} (hd : 0 ≤ d) (x0 : Int32) {h : am_H} (T : am_TP h.2.2) {r : Int32} (hf : f_X12_isDigit x0 h = some r) : am_G X d 12 false cX12_isDigit (some .boolean) 0 [some (.int x0)] [] (am_SH, h) (some (.int r), (am_SH, h)) := by
  unfold f_X12_isDigit at hf
  refine r_loc dX12_isDigit_0 rfl ?_
  refine r_bipush (v := 48) dX12_isDigit_1 rfl ?_
  refine r_lt (q := 16) dX12_isDigit_3 rfl hf (fun hf => ?_) (fun hf => ?_)
  · refine r_iconst (v := 0) dX12_isDigit_16 rfl ?_
    cases hf
    exact r_z0 T dX12_isDigit_17
  · refine r_loc dX12_isDigit_6 rfl ?_
    refine r_bipush (v := 57) dX12_isDigit_7 rfl ?_
    refine r_gt (q := 16) dX12_isDigit_9 rfl hf (fun hf => ?_) (fun hf => ?_)
    · refine r_iconst (v := 0) dX12_isDigit_16 rfl ?_
      cases hf
      exact r_z0 T dX12_isDigit_17
    · refine r_iconst (v := 1) dX12_isDigit_12 rfl ?_
      refine r_goto (q := 17) dX12_isDigit_13 rfl ?_
      cases hf
      exact r_z1 T dX12_isDigit_17
def f_X12_isSign (x0 : Int32) (h : am_H) : Option (Int32) := if x0 = 59 then some 1 else if x0 = 40 then some 1 else if x0 = 41 then some 1 else if x0 = 60 then some 1 else if x0 = 62 then some 1 else if x0 = 61 then some 1 else if x0 = 43 then some 1 else if x0 = 45 then some 1 else if x0 = 42 then some 1 else if x0 = 47 then some 1 else if x0 = 37 then some 1 else some 0
theorem rf_X12_isSign {X : am_X} {d : Nat} (hd : 0 ≤ d) (x0 : Int32) {h : am_H} (T : am_TP h.2.2) {r : Int32} (hf : f_X12_isSign x0 h = some r) : am_G X d 12 false cX12_isSign (some .boolean) 0 [some (.int x0)] [] (am_SH, h) (some (.int r), (am_SH, h)) := by
  unfold f_X12_isSign at hf
  refine r_loc dX12_isSign_0 rfl ?_
  refine r_bipush (v := 59) dX12_isSign_1 rfl ?_
  refine r_eq (q := 66) dX12_isSign_3 rfl hf (fun hf => ?_) (fun hf => ?_)
  · refine r_iconst (v := 1) dX12_isSign_66 rfl ?_
    refine r_goto (q := 71) dX12_isSign_67 rfl ?_
    cases hf
    exact r_z1 T dX12_isSign_71
  · refine r_loc dX12_isSign_6 rfl ?_
    refine r_bipush (v := 40) dX12_isSign_7 rfl ?_
    refine r_eq (q := 66) dX12_isSign_9 rfl hf (fun hf => ?_) (fun hf => ?_)
    · refine r_iconst (v := 1) dX12_isSign_66 rfl ?_
      refine r_goto (q := 71) dX12_isSign_67 rfl ?_
      cases hf
      exact r_z1 T dX12_isSign_71
    · refine r_loc dX12_isSign_12 rfl ?_
      refine r_bipush (v := 41) dX12_isSign_13 rfl ?_
      refine r_eq (q := 66) dX12_isSign_15 rfl hf (fun hf => ?_) (fun hf => ?_)
      · refine r_iconst (v := 1) dX12_isSign_66 rfl ?_
        refine r_goto (q := 71) dX12_isSign_67 rfl ?_
        cases hf
        exact r_z1 T dX12_isSign_71
      · refine r_loc dX12_isSign_18 rfl ?_
        refine r_bipush (v := 60) dX12_isSign_19 rfl ?_
        refine r_eq (q := 66) dX12_isSign_21 rfl hf (fun hf => ?_) (fun hf => ?_)
        · refine r_iconst (v := 1) dX12_isSign_66 rfl ?_
          refine r_goto (q := 71) dX12_isSign_67 rfl ?_
          cases hf
          exact r_z1 T dX12_isSign_71
        · refine r_loc dX12_isSign_24 rfl ?_
          refine r_bipush (v := 62) dX12_isSign_25 rfl ?_
          refine r_eq (q := 66) dX12_isSign_27 rfl hf (fun hf => ?_) (fun hf => ?_)
          · refine r_iconst (v := 1) dX12_isSign_66 rfl ?_
            refine r_goto (q := 71) dX12_isSign_67 rfl ?_
            cases hf
            exact r_z1 T dX12_isSign_71
          · refine r_loc dX12_isSign_30 rfl ?_
            refine r_bipush (v := 61) dX12_isSign_31 rfl ?_
            refine r_eq (q := 66) dX12_isSign_33 rfl hf (fun hf => ?_) (fun hf => ?_)
            · refine r_iconst (v := 1) dX12_isSign_66 rfl ?_
              refine r_goto (q := 71) dX12_isSign_67 rfl ?_
              cases hf
              exact r_z1 T dX12_isSign_71
            · refine r_loc dX12_isSign_36 rfl ?_
              refine r_bipush (v := 43) dX12_isSign_37 rfl ?_
              refine r_eq (q := 66) dX12_isSign_39 rfl hf (fun hf => ?_) (fun hf => ?_)
              · refine r_iconst (v := 1) dX12_isSign_66 rfl ?_
                refine r_goto (q := 71) dX12_isSign_67 rfl ?_
                cases hf
                exact r_z1 T dX12_isSign_71
              · refine r_loc dX12_isSign_42 rfl ?_
                refine r_bipush (v := 45) dX12_isSign_43 rfl ?_
                refine r_eq (q := 66) dX12_isSign_45 rfl hf (fun hf => ?_) (fun hf => ?_)
                · refine r_iconst (v := 1) dX12_isSign_66 rfl ?_
                  refine r_goto (q := 71) dX12_isSign_67 rfl ?_
                  cases hf
                  exact r_z1 T dX12_isSign_71
                · refine r_loc dX12_isSign_48 rfl ?_
                  refine r_bipush (v := 42) dX12_isSign_49 rfl ?_
                  refine r_eq (q := 66) dX12_isSign_51 rfl hf (fun hf => ?_) (fun hf => ?_)
                  · refine r_iconst (v := 1) dX12_isSign_66 rfl ?_
                    refine r_goto (q := 71) dX12_isSign_67 rfl ?_
                    cases hf
                    exact r_z1 T dX12_isSign_71
                  · refine r_loc dX12_isSign_54 rfl ?_
                    refine r_bipush (v := 47) dX12_isSign_55 rfl ?_
                    refine r_eq (q := 66) dX12_isSign_57 rfl hf (fun hf => ?_) (fun hf => ?_)
                    · refine r_iconst (v := 1) dX12_isSign_66 rfl ?_
                      refine r_goto (q := 71) dX12_isSign_67 rfl ?_
                      cases hf
                      exact r_z1 T dX12_isSign_71
                    · refine r_loc dX12_isSign_60 rfl ?_
                      refine r_bipush (v := 37) dX12_isSign_61 rfl ?_
                      refine r_ne (q := 70) dX12_isSign_63 rfl hf (fun hf => ?_) (fun hf => ?_)
                      · refine r_iconst (v := 0) dX12_isSign_70 rfl ?_
                        cases hf
                        exact r_z0 T dX12_isSign_71
                      · refine r_iconst (v := 1) dX12_isSign_66 rfl ?_
                        refine r_goto (q := 71) dX12_isSign_67 rfl ?_
                        cases hf
                        exact r_z1 T dX12_isSign_71
def jn_X12_isKept_77 (x0 : Int64) (y0 : Int32) (h : am_H) : Option (Int32) := if y0 = 0 then if (lg_cmp x0 499850700147) = 0 then some 1 else if (lg_cmp x0 1685217655) = 0 then some 1 else if (lg_cmp x0 418430675813) = 0 then some 1 else if (lg_cmp x0 1818584692) = 0 then some 1 else if (lg_cmp x0 1835101817) = 0 then some 1 else if (lg_cmp x0 2036687218) = 0 then some 1 else if (lg_cmp x0 28530) = 0 then some 1 else if (lg_cmp x0 6385252) = 0 then some 1 else if (lg_cmp x0 7237492) = 0 then some 1 else some 0 else some 1
def jn_X12_isKept_72 (x0 : Int64) (h : am_H) : Option (Int32) := jn_X12_isKept_77 x0 1 h
def f_X12_isKept (x0 : Int64) (h : am_H) : Option (Int32) := if (lg_cmp x0 1919905645) = 0 then jn_X12_isKept_72 x0 h else if (lg_cmp x0 448545973363) = 0 then jn_X12_isKept_72 x0 h else if (lg_cmp x0 500136504939) = 0 then jn_X12_isKept_72 x0 h else if (lg_cmp x0 1651862635) = 0 then jn_X12_isKept_72 x0 h else if (lg_cmp x0 24948) = 0 then jn_X12_isKept_72 x0 h else if (lg_cmp x0 469786323827) = 0 then jn_X12_isKept_72 x0 h else if (lg_cmp x0 1953459300) = 0 then jn_X12_isKept_72 x0 h else if (lg_cmp x0 422826700644) = 0 then jn_X12_isKept_72 x0 h else if (lg_cmp x0 482805179763) = 0 then jn_X12_isKept_72 x0 h else jn_X12_isKept_77 x0 0 h
theorem rj_X12_isKept_77 {X : am_X} {d : Nat} (hd : 0 ≤ d) (x0 : Int64) (y0 : Int32) {h : am_H} (T : am_TP h.2.2) {r : Int32} (hf : jn_X12_isKept_77 x0 y0 h = some r) : am_G X d 12 false cX12_isKept (some .boolean) 77 [some (.long x0), none, none] [.int y0] (am_SH, h) (some (.int r), (am_SH, h)) := by
  unfold jn_X12_isKept_77 at hf
  refine r_loc (L' := [some (.long x0), none, some (.int y0)]) dX12_isKept_77 rfl ?_
  refine r_loc dX12_isKept_78 rfl ?_
  refine r_ne0 (q := 154) dX12_isKept_79 rfl hf (fun hf => ?_) (fun hf => ?_)
  · refine r_iconst (v := 1) dX12_isKept_154 rfl ?_
    refine r_goto (q := 159) dX12_isKept_155 rfl ?_
    cases hf
    exact r_z1 T dX12_isKept_159
  · refine r_loc dX12_isKept_82 rfl ?_
    refine r_ldc2 dX12_isKept_83 k64_12_158 ?_
    refine r_alu dX12_isKept_86 rfl ?_
    refine r_eq0 (q := 154) dX12_isKept_87 rfl hf (fun hf => ?_) (fun hf => ?_)
    · refine r_iconst (v := 1) dX12_isKept_154 rfl ?_
      refine r_goto (q := 159) dX12_isKept_155 rfl ?_
      cases hf
      exact r_z1 T dX12_isKept_159
    · refine r_loc dX12_isKept_90 rfl ?_
      refine r_ldc2 dX12_isKept_91 k64_12_160 ?_
      refine r_alu dX12_isKept_94 rfl ?_
      refine r_eq0 (q := 154) dX12_isKept_95 rfl hf (fun hf => ?_) (fun hf => ?_)
      · refine r_iconst (v := 1) dX12_isKept_154 rfl ?_
        refine r_goto (q := 159) dX12_isKept_155 rfl ?_
        cases hf
        exact r_z1 T dX12_isKept_159
      · refine r_loc dX12_isKept_98 rfl ?_
        refine r_ldc2 dX12_isKept_99 k64_12_162 ?_
        refine r_alu dX12_isKept_102 rfl ?_
        refine r_eq0 (q := 154) dX12_isKept_103 rfl hf (fun hf => ?_) (fun hf => ?_)
        · refine r_iconst (v := 1) dX12_isKept_154 rfl ?_
          refine r_goto (q := 159) dX12_isKept_155 rfl ?_
          cases hf
          exact r_z1 T dX12_isKept_159
        · refine r_loc dX12_isKept_106 rfl ?_
          refine r_ldc2 dX12_isKept_107 k64_12_164 ?_
          refine r_alu dX12_isKept_110 rfl ?_
          refine r_eq0 (q := 154) dX12_isKept_111 rfl hf (fun hf => ?_) (fun hf => ?_)
          · refine r_iconst (v := 1) dX12_isKept_154 rfl ?_
            refine r_goto (q := 159) dX12_isKept_155 rfl ?_
            cases hf
            exact r_z1 T dX12_isKept_159
          · refine r_loc dX12_isKept_114 rfl ?_
            refine r_ldc2 dX12_isKept_115 k64_12_166 ?_
            refine r_alu dX12_isKept_118 rfl ?_
            refine r_eq0 (q := 154) dX12_isKept_119 rfl hf (fun hf => ?_) (fun hf => ?_)
            · refine r_iconst (v := 1) dX12_isKept_154 rfl ?_
              refine r_goto (q := 159) dX12_isKept_155 rfl ?_
              cases hf
              exact r_z1 T dX12_isKept_159
            · refine r_loc dX12_isKept_122 rfl ?_
              refine r_ldc2 dX12_isKept_123 k64_12_168 ?_
              refine r_alu dX12_isKept_126 rfl ?_
              refine r_eq0 (q := 154) dX12_isKept_127 rfl hf (fun hf => ?_) (fun hf => ?_)
              · refine r_iconst (v := 1) dX12_isKept_154 rfl ?_
                refine r_goto (q := 159) dX12_isKept_155 rfl ?_
                cases hf
                exact r_z1 T dX12_isKept_159
              · refine r_loc dX12_isKept_130 rfl ?_
                refine r_ldc2 dX12_isKept_131 k64_12_170 ?_
                refine r_alu dX12_isKept_134 rfl ?_
                refine r_eq0 (q := 154) dX12_isKept_135 rfl hf (fun hf => ?_) (fun hf => ?_)
                · refine r_iconst (v := 1) dX12_isKept_154 rfl ?_
                  refine r_goto (q := 159) dX12_isKept_155 rfl ?_
                  cases hf
                  exact r_z1 T dX12_isKept_159
                · refine r_loc dX12_isKept_138 rfl ?_
                  refine r_ldc2 dX12_isKept_139 k64_12_172 ?_
                  refine r_alu dX12_isKept_142 rfl ?_
                  refine r_eq0 (q := 154) dX12_isKept_143 rfl hf (fun hf => ?_) (fun hf => ?_)
                  · refine r_iconst (v := 1) dX12_isKept_154 rfl ?_
                    refine r_goto (q := 159) dX12_isKept_155 rfl ?_
                    cases hf
                    exact r_z1 T dX12_isKept_159
                  · refine r_loc dX12_isKept_146 rfl ?_
                    refine r_ldc2 dX12_isKept_147 k64_12_174 ?_
                    refine r_alu dX12_isKept_150 rfl ?_
                    refine r_ne0 (q := 158) dX12_isKept_151 rfl hf (fun hf => ?_) (fun hf => ?_)
                    · refine r_iconst (v := 0) dX12_isKept_158 rfl ?_
                      cases hf
                      exact r_z0 T dX12_isKept_159
                    · refine r_iconst (v := 1) dX12_isKept_154 rfl ?_
                      refine r_goto (q := 159) dX12_isKept_155 rfl ?_
                      cases hf
                      exact r_z1 T dX12_isKept_159
theorem rj_X12_isKept_72 {X : am_X} {d : Nat} (hd : 0 ≤ d) (x0 : Int64) {h : am_H} (T : am_TP h.2.2) {r : Int32} (hf : jn_X12_isKept_72 x0 h = some r) : am_G X d 12 false cX12_isKept (some .boolean) 72 [some (.long x0), none, none] [] (am_SH, h) (some (.int r), (am_SH, h)) := by
  unfold jn_X12_isKept_72 at hf
  refine r_iconst (v := 1) dX12_isKept_72 rfl ?_
  refine r_goto (q := 77) dX12_isKept_73 rfl ?_
  exact rj_X12_isKept_77 (by omega) x0 1 T hf
theorem rf_X12_isKept {X : am_X} {d : Nat} (hd : 0 ≤ d) (x0 : Int64) {h : am_H} (T : am_TP h.2.2) {r : Int32} (hf : f_X12_isKept x0 h = some r) : am_G X d 12 false cX12_isKept (some .boolean) 0 [some (.long x0), none, none] [] (am_SH, h) (some (.int r), (am_SH, h)) := by
  unfold f_X12_isKept at hf
  refine r_loc dX12_isKept_0 rfl ?_
  refine r_ldc2 dX12_isKept_1 k64_12_140 ?_
  refine r_alu dX12_isKept_4 rfl ?_
  refine r_eq0 (q := 72) dX12_isKept_5 rfl hf (fun hf => ?_) (fun hf => ?_)
  · exact rj_X12_isKept_72 (by omega) x0 T hf
  · refine r_loc dX12_isKept_8 rfl ?_
    refine r_ldc2 dX12_isKept_9 k64_12_142 ?_
    refine r_alu dX12_isKept_12 rfl ?_
    refine r_eq0 (q := 72) dX12_isKept_13 rfl hf (fun hf => ?_) (fun hf => ?_)
    · exact rj_X12_isKept_72 (by omega) x0 T hf
    · refine r_loc dX12_isKept_16 rfl ?_
      refine r_ldc2 dX12_isKept_17 k64_12_144 ?_
      refine r_alu dX12_isKept_20 rfl ?_
      refine r_eq0 (q := 72) dX12_isKept_21 rfl hf (fun hf => ?_) (fun hf => ?_)
      · exact rj_X12_isKept_72 (by omega) x0 T hf
      · refine r_loc dX12_isKept_24 rfl ?_
        refine r_ldc2 dX12_isKept_25 k64_12_146 ?_
        refine r_alu dX12_isKept_28 rfl ?_
        refine r_eq0 (q := 72) dX12_isKept_29 rfl hf (fun hf => ?_) (fun hf => ?_)
        · exact rj_X12_isKept_72 (by omega) x0 T hf
        · refine r_loc dX12_isKept_32 rfl ?_
          refine r_ldc2 dX12_isKept_33 k64_12_148 ?_
          refine r_alu dX12_isKept_36 rfl ?_
          refine r_eq0 (q := 72) dX12_isKept_37 rfl hf (fun hf => ?_) (fun hf => ?_)
          · exact rj_X12_isKept_72 (by omega) x0 T hf
          · refine r_loc dX12_isKept_40 rfl ?_
            refine r_ldc2 dX12_isKept_41 k64_12_150 ?_
            refine r_alu dX12_isKept_44 rfl ?_
            refine r_eq0 (q := 72) dX12_isKept_45 rfl hf (fun hf => ?_) (fun hf => ?_)
            · exact rj_X12_isKept_72 (by omega) x0 T hf
            · refine r_loc dX12_isKept_48 rfl ?_
              refine r_ldc2 dX12_isKept_49 k64_12_152 ?_
              refine r_alu dX12_isKept_52 rfl ?_
              refine r_eq0 (q := 72) dX12_isKept_53 rfl hf (fun hf => ?_) (fun hf => ?_)
              · exact rj_X12_isKept_72 (by omega) x0 T hf
              · refine r_loc dX12_isKept_56 rfl ?_
                refine r_ldc2 dX12_isKept_57 k64_12_154 ?_
                refine r_alu dX12_isKept_60 rfl ?_
                refine r_eq0 (q := 72) dX12_isKept_61 rfl hf (fun hf => ?_) (fun hf => ?_)
                · exact rj_X12_isKept_72 (by omega) x0 T hf
                · refine r_loc dX12_isKept_64 rfl ?_
                  refine r_ldc2 dX12_isKept_65 k64_12_156 ?_
                  refine r_alu dX12_isKept_68 rfl ?_
                  refine r_ne0 (q := 76) dX12_isKept_69 rfl hf (fun hf => ?_) (fun hf => ?_)
                  · refine r_iconst (v := 0) dX12_isKept_76 rfl ?_
                    exact rj_X12_isKept_77 (by omega) x0 0 T hf
                  · exact rj_X12_isKept_72 (by omega) x0 T hf
def jn_X12_goOn_45 (k_8 : am_H → Option (am_H))  (h : am_H) : Option (am_H) := bnd (h.1 413 6) fun v11 => ptI h 413 6 (v11 + 1) fun h12 => k_8  h12
def lp_X12_goOn_8 (k_58 : am_H → Option (am_H)) : Nat → am_H → Option (am_H)
  | 0, _ => none
  | n + 1, h => bnd (h.1 413 6) fun v5 => bnd (h.1 413 3) fun v6 => if v5 < v6 then bnd (h.1 413 6) fun v7 => cal (f_X12_sign v7 h) fun v9 => if v9 = 32 then jn_X12_goOn_45 (lp_X12_goOn_8 k_58 n)  h else bnd (h.1 413 6) fun v15 => cal (f_X12_sign v15 h) fun v17 => if v17 = 10 then jn_X12_goOn_45 (lp_X12_goOn_8 k_58 n)  h else k_58  h else k_58  h
def jn_X12_goOn_309 (k_259 : am_H → Option (am_H))  (h : am_H) : Option (am_H) := bnd (h.1 413 7) fun v62 => ptI h 413 7 (v62 + 1) fun h63 => k_259  h63
def lp_X12_goOn_259 (k_322 : am_H → Option (am_H)) : Nat → am_H → Option (am_H)
  | 0, _ => none
  | n + 1, h => bnd (h.1 413 7) fun v53 => cal (f_X12_sign v53 h) fun v55 => cal (f_X12_isDigit v55 h) fun v58 => if v58 = 0 then k_322  h else bnd (h.1 413 7) fun v60 => bnd (h.1 413 6) fun v61 => if (v60 - v61) < 4 then bnd (h.1 413 9) fun v66 => bnd (h.1 413 7) fun v67 => cal (f_X12_sign v67 h) fun v69 => ptI h 413 9 ((((10 : Int32) * v66) + v69) - 48) fun h71 => jn_X12_goOn_309 (lp_X12_goOn_259 k_322 n)  h71 else jn_X12_goOn_309 (lp_X12_goOn_259 k_322 n)  h
def lp_X12_goOn_119 (k_146 : am_H → Option (am_H)) : Nat → am_H → Option (am_H)
  | 0, _ => none
  | n + 1, h => bnd (h.1 413 7) fun v94 => cal (f_X12_sign v94 h) fun v96 => cal (f_X12_isLetter v96 h) fun v99 => if v99 = 0 then k_146  h else bnd (h.1 413 7) fun v101 => ptI h 413 7 (v101 + 1) fun h102 => lp_X12_goOn_119 k_146 n  h102
def lp_X12_goOn_156 (k_199 : am_H → Option (am_H)) : Nat → Int32 → am_H → Option (am_H)
  | 0, _, _ => none
  | n + 1, x2, h => bnd (h.1 413 7) fun v111 => if x2 < v111 then bnd (h.1 413 6) fun v112 => if x2 < (v112 + 8) then bnd (h.2.1 413 10) fun v113 => cal (f_X12_sign x2 h) fun v115 => ptL h 413 10 ((v113 <<< (Int32.toInt64 8 &&& 63)) ||| (Int32.toInt64 v115)) fun h117 => lp_X12_goOn_156 k_199 n (x2 + 1) h117 else k_199  h else k_199  h
def jn_X12_goOn_199  (h : am_H) : Option (am_H) := bnd (h.1 413 7) fun v122 => bnd (h.1 413 6) fun v123 => if 8 < (v122 - v123) then ptI h 413 8 1 fun h134 => some h134 else bnd (h.2.1 413 10) fun v124 => cal (f_X12_isKept v124 h) fun v126 => if v126 = 0 then ptI h 413 8 2 fun h128 => some h128 else ptI h 413 8 3 fun h131 => some h131
def jn_X12_goOn_58  (h : am_H) : Option (am_H) := bnd (h.1 413 6) fun v21 => cal (f_X12_sign v21 h) fun v23 => bnd (h.1 413 6) fun v25 => ptI h 413 7 (v25 + 1) fun h26 => bnd (h26.1 413 6) fun v29 => bnd (h26.1 413 3) fun v30 => if v29 < v30 then cal (f_X12_isLetter v23 h26) fun v32 => if v32 = 0 then cal (f_X12_isDigit v23 h26) fun v35 => if v35 = 0 then cal (f_X12_isSign v23 h26) fun v38 => if v38 = 0 then ptI h26 413 8 1 fun h40 => some h40 else ptI h26 413 8 5 fun h43 => some h43 else ptI h26 413 9 0 fun h46 => bnd (h46.1 413 6) fun v49 => ptI h46 413 7 v49 fun h50 => lp_X12_goOn_259 (fun h74 => bnd (h74.1 413 7) fun v76 => bnd (h74.1 413 6) fun v77 => if 4 < (v76 - v77) then ptI h74 413 8 1 fun h78 => some h78 else bnd (h74.1 413 7) fun v81 => cal (f_X12_sign v81 h74) fun v83 => cal (f_X12_isLetter v83 h74) fun v86 => if v86 = 0 then ptI h74 413 8 4 fun h88 => some h88 else ptI h74 413 8 1 fun h91 => some h91) 4000  h50 else lp_X12_goOn_119 (fun h105 => ptL h105 413 10 0 fun h107 => bnd (h107.1 413 6) fun v110 => lp_X12_goOn_156 (fun h120 => jn_X12_goOn_199  h120) 4000 v110 h107) 4000  h26 else ptI h26 413 8 0 fun h137 => bnd (h137.1 413 3) fun v140 => ptI h137 413 6 v140 fun h141 => bnd (h141.1 413 3) fun v144 => ptI h141 413 7 v144 fun h145 => some h145
def f_X12_goOn  (h : am_H) : Option (am_H) := bnd (h.1 413 7) fun v1 => ptI h 413 6 v1 fun h2 => lp_X12_goOn_8 (fun h19 => jn_X12_goOn_58  h19) 4000  h2
theorem rj_X12_goOn_45 {X : am_X} {d : Nat} (hd : 1 ≤ d) (k_8 : am_H → Option (am_H))  {h : am_H} (T : am_TP h.2.2) {r : am_H} (hk_8 : ∀ (h : am_H), am_TP h.2.2 → k_8  h = some r → am_G X d 12 false cX12_goOn none 8 [some (.ref 413), none, none] [] (am_SH, h) (none, (am_SH, r))) (hf : jn_X12_goOn_45 k_8  h = some r) : am_G X d 12 false cX12_goOn none 45 [some (.ref 413), none, none] [] (am_SH, h) (none, (am_SH, r)) := by
  obtain ⟨d, rfl⟩ : ∃ e, d = e + 1 := ⟨d - 1, by omega⟩
  unfold jn_X12_goOn_45 at hf
  refine r_loc dX12_goOn_45 rfl ?_
  refine r_alu dX12_goOn_46 rfl ?_
  refine r_getI dX12_goOn_47 fl_12_179 sh_413 rfl hf (fun v11 hf => ?_)
  refine r_iconst (v := 1) dX12_goOn_50 rfl ?_
  refine r_alu dX12_goOn_51 rfl ?_
  refine r_putI dX12_goOn_52 fl_12_179 sh_413 ⟨rfl, rfl⟩ hf (fun h12 e14 hf => ?_)
  have T13 := tp_eq e14 T
  refine r_goto (q := 8) dX12_goOn_55 rfl ?_
  exact hk_8  h12 T13 hf
theorem rl_X12_goOn_8 {X : am_X} {d : Nat} (hd : 1 ≤ d) (k_58 : am_H → Option (am_H)) {r : am_H} (hk_58 : ∀ (h : am_H), am_TP h.2.2 → k_58  h = some r → am_G X d 12 false cX12_goOn none 58 [some (.ref 413), none, none] [] (am_SH, h) (none, (am_SH, r))) : ∀ (n : Nat) (h : am_H), am_TP h.2.2 → lp_X12_goOn_8 k_58 n h = some r → am_G X d 12 false cX12_goOn none 8 [some (.ref 413), none, none] [] (am_SH, h) (none, (am_SH, r)) := by
  obtain ⟨d, rfl⟩ : ∃ e, d = e + 1 := ⟨d - 1, by omega⟩
  intro n
  induction n with
  | zero => intro h T hf; cases hf
  | succ n ih =>
    intro h T hf
    rw [lp_X12_goOn_8] at hf
    refine r_loc dX12_goOn_8 rfl ?_
    refine r_getI dX12_goOn_9 fl_12_179 sh_413 rfl hf (fun v5 hf => ?_)
    refine r_loc dX12_goOn_12 rfl ?_
    refine r_getI dX12_goOn_13 fl_12_134 sh_413 rfl hf (fun v6 hf => ?_)
    refine r_ge (q := 58) dX12_goOn_16 rfl hf (fun hf => ?_) (fun hf => ?_)
    · exact hk_58  h T hf
    · refine r_loc dX12_goOn_19 rfl ?_
      refine r_loc dX12_goOn_20 rfl ?_
      refine r_getI dX12_goOn_21 fl_12_179 sh_413 rfl hf (fun v7 hf => ?_)
      obtain ⟨v9, c8, hf⟩ := cal_inv hf
      have g10 := rf_X12_sign (X := X) (d := d) (by omega) v7 T c8
      refine r_virt (pre := [.int v7]) (rest := []) dX12_goOn_24 ct_12_182 rfl (sh_413) (Nat.le_of_ble_eq_true rfl) (Nat.le_of_ble_eq_true rfl) g10 ?_
      refine r_bipush (v := 32) dX12_goOn_27 rfl ?_
      refine r_eq (q := 45) dX12_goOn_29 rfl hf (fun hf => ?_) (fun hf => ?_)
      · exact rj_X12_goOn_45 (by omega) (lp_X12_goOn_8 k_58 n)  T (ih) hf
      · refine r_loc dX12_goOn_32 rfl ?_
        refine r_loc dX12_goOn_33 rfl ?_
        refine r_getI dX12_goOn_34 fl_12_179 sh_413 rfl hf (fun v15 hf => ?_)
        obtain ⟨v17, c16, hf⟩ := cal_inv hf
        have g18 := rf_X12_sign (X := X) (d := d) (by omega) v15 T c16
        refine r_virt (pre := [.int v15]) (rest := []) dX12_goOn_37 ct_12_182 rfl (sh_413) (Nat.le_of_ble_eq_true rfl) (Nat.le_of_ble_eq_true rfl) g18 ?_
        refine r_bipush (v := 10) dX12_goOn_40 rfl ?_
        refine r_ne (q := 58) dX12_goOn_42 rfl hf (fun hf => ?_) (fun hf => ?_)
        · exact hk_58  h T hf
        · exact rj_X12_goOn_45 (by omega) (lp_X12_goOn_8 k_58 n)  T (ih) hf
theorem rj_X12_goOn_309 {X : am_X} {d : Nat} (hd : 1 ≤ d) (k_259 : am_H → Option (am_H))  {h : am_H} (T : am_TP h.2.2) {r : am_H} (hk_259 : ∀ (h : am_H), am_TP h.2.2 → k_259  h = some r → am_G X d 12 false cX12_goOn none 259 [some (.ref 413), none, none] [] (am_SH, h) (none, (am_SH, r))) (hf : jn_X12_goOn_309 k_259  h = some r) : am_G X d 12 false cX12_goOn none 309 [some (.ref 413), none, none] [] (am_SH, h) (none, (am_SH, r)) := by
  obtain ⟨d, rfl⟩ : ∃ e, d = e + 1 := ⟨d - 1, by omega⟩
  unfold jn_X12_goOn_309 at hf
  refine r_loc dX12_goOn_309 rfl ?_
  refine r_alu dX12_goOn_310 rfl ?_
  refine r_getI dX12_goOn_311 fl_12_176 sh_413 rfl hf (fun v62 hf => ?_)
  refine r_iconst (v := 1) dX12_goOn_314 rfl ?_
  refine r_alu dX12_goOn_315 rfl ?_
  refine r_putI dX12_goOn_316 fl_12_176 sh_413 ⟨rfl, rfl⟩ hf (fun h63 e65 hf => ?_)
  have T64 := tp_eq e65 T
  refine r_goto (q := 259) dX12_goOn_319 rfl ?_
  exact hk_259  h63 T64 hf
theorem rl_X12_goOn_259 {X : am_X} {d : Nat} (hd : 1 ≤ d) (k_322 : am_H → Option (am_H)) {r : am_H} (hk_322 : ∀ (h : am_H), am_TP h.2.2 → k_322  h = some r → am_G X d 12 false cX12_goOn none 322 [some (.ref 413), none, none] [] (am_SH, h) (none, (am_SH, r))) : ∀ (n : Nat) (h : am_H), am_TP h.2.2 → lp_X12_goOn_259 k_322 n h = some r → am_G X d 12 false cX12_goOn none 259 [some (.ref 413), none, none] [] (am_SH, h) (none, (am_SH, r)) := by
  obtain ⟨d, rfl⟩ : ∃ e, d = e + 1 := ⟨d - 1, by omega⟩
  intro n
  induction n with
  | zero => intro h T hf; cases hf
  | succ n ih =>
    intro h T hf
    rw [lp_X12_goOn_259] at hf
    refine r_loc dX12_goOn_259 rfl ?_
    refine r_loc dX12_goOn_260 rfl ?_
    refine r_getI dX12_goOn_261 fl_12_176 sh_413 rfl hf (fun v53 hf => ?_)
    obtain ⟨v55, c54, hf⟩ := cal_inv hf
    have g56 := rf_X12_sign (X := X) (d := d) (by omega) v53 T c54
    refine r_virt (pre := [.int v53]) (rest := []) dX12_goOn_264 ct_12_182 rfl (sh_413) (Nat.le_of_ble_eq_true rfl) (Nat.le_of_ble_eq_true rfl) g56 ?_
    obtain ⟨v58, c57, hf⟩ := cal_inv hf
    have g59 := rf_X12_isDigit (X := X) (d := d) (by omega) v55 T c57
    refine r_stat (pre := [.int v55]) (rest := []) dX12_goOn_267 ct_12_201 rfl (Nat.le_of_ble_eq_true rfl) (Nat.le_of_ble_eq_true rfl) g59 ?_
    refine r_eq0 (q := 322) dX12_goOn_270 rfl hf (fun hf => ?_) (fun hf => ?_)
    · exact hk_322  h T hf
    · refine r_loc dX12_goOn_273 rfl ?_
      refine r_getI dX12_goOn_274 fl_12_176 sh_413 rfl hf (fun v60 hf => ?_)
      refine r_loc dX12_goOn_277 rfl ?_
      refine r_getI dX12_goOn_278 fl_12_179 sh_413 rfl hf (fun v61 hf => ?_)
      refine r_alu dX12_goOn_281 rfl ?_
      refine r_iconst (v := 4) dX12_goOn_282 rfl ?_
      refine r_ge (q := 309) dX12_goOn_283 rfl hf (fun hf => ?_) (fun hf => ?_)
      · exact rj_X12_goOn_309 (by omega) (lp_X12_goOn_259 k_322 n)  T (ih) hf
      · refine r_loc dX12_goOn_286 rfl ?_
        refine r_bipush (v := 10) dX12_goOn_287 rfl ?_
        refine r_loc dX12_goOn_289 rfl ?_
        refine r_getI dX12_goOn_290 fl_12_204 sh_413 rfl hf (fun v66 hf => ?_)
        refine r_alu dX12_goOn_293 rfl ?_
        refine r_loc dX12_goOn_294 rfl ?_
        refine r_loc dX12_goOn_295 rfl ?_
        refine r_getI dX12_goOn_296 fl_12_176 sh_413 rfl hf (fun v67 hf => ?_)
        obtain ⟨v69, c68, hf⟩ := cal_inv hf
        have g70 := rf_X12_sign (X := X) (d := d) (by omega) v67 T c68
        refine r_virt (pre := [.int v67]) (rest := [.int ((10 : Int32) * v66), .ref 413]) dX12_goOn_299 ct_12_182 rfl (sh_413) (Nat.le_of_ble_eq_true rfl) (Nat.le_of_ble_eq_true rfl) g70 ?_
        refine r_alu dX12_goOn_302 rfl ?_
        refine r_bipush (v := 48) dX12_goOn_303 rfl ?_
        refine r_alu dX12_goOn_305 rfl ?_
        refine r_putI dX12_goOn_306 fl_12_204 sh_413 ⟨rfl, rfl⟩ hf (fun h71 e73 hf => ?_)
        have T72 := tp_eq e73 T
        exact rj_X12_goOn_309 (by omega) (lp_X12_goOn_259 k_322 n)  T72 (ih) hf
theorem rl_X12_goOn_119 {X : am_X} {d : Nat} (hd : 1 ≤ d) (k_146 : am_H → Option (am_H)) {r : am_H} (hk_146 : ∀ (h : am_H), am_TP h.2.2 → k_146  h = some r → am_G X d 12 false cX12_goOn none 146 [some (.ref 413), none, none] [] (am_SH, h) (none, (am_SH, r))) : ∀ (n : Nat) (h : am_H), am_TP h.2.2 → lp_X12_goOn_119 k_146 n h = some r → am_G X d 12 false cX12_goOn none 119 [some (.ref 413), none, none] [] (am_SH, h) (none, (am_SH, r)) := by
  obtain ⟨d, rfl⟩ : ∃ e, d = e + 1 := ⟨d - 1, by omega⟩
  intro n
  induction n with
  | zero => intro h T hf; cases hf
  | succ n ih =>
    intro h T hf
    rw [lp_X12_goOn_119] at hf
    refine r_loc dX12_goOn_119 rfl ?_
    refine r_loc dX12_goOn_120 rfl ?_
    refine r_getI dX12_goOn_121 fl_12_176 sh_413 rfl hf (fun v94 hf => ?_)
    obtain ⟨v96, c95, hf⟩ := cal_inv hf
    have g97 := rf_X12_sign (X := X) (d := d) (by omega) v94 T c95
    refine r_virt (pre := [.int v94]) (rest := []) dX12_goOn_124 ct_12_182 rfl (sh_413) (Nat.le_of_ble_eq_true rfl) (Nat.le_of_ble_eq_true rfl) g97 ?_
    obtain ⟨v99, c98, hf⟩ := cal_inv hf
    have g100 := rf_X12_isLetter (X := X) (d := d) (by omega) v96 T c98
    refine r_stat (pre := [.int v96]) (rest := []) dX12_goOn_127 ct_12_189 rfl (Nat.le_of_ble_eq_true rfl) (Nat.le_of_ble_eq_true rfl) g100 ?_
    refine r_eq0 (q := 146) dX12_goOn_130 rfl hf (fun hf => ?_) (fun hf => ?_)
    · exact hk_146  h T hf
    · refine r_loc dX12_goOn_133 rfl ?_
      refine r_alu dX12_goOn_134 rfl ?_
      refine r_getI dX12_goOn_135 fl_12_176 sh_413 rfl hf (fun v101 hf => ?_)
      refine r_iconst (v := 1) dX12_goOn_138 rfl ?_
      refine r_alu dX12_goOn_139 rfl ?_
      refine r_putI dX12_goOn_140 fl_12_176 sh_413 ⟨rfl, rfl⟩ hf (fun h102 e104 hf => ?_)
      have T103 := tp_eq e104 T
      refine r_goto (q := 119) dX12_goOn_143 rfl ?_
      exact ih  h102 T103 hf
theorem rl_X12_goOn_156 {X : am_X} {d : Nat} (hd : 1 ≤ d) (k_199 : am_H → Option (am_H)) {r : am_H} (hk_199 : ∀ (h : am_H), am_TP h.2.2 → k_199  h = some r → am_G X d 12 false cX12_goOn none 199 [some (.ref 413), none, none] [] (am_SH, h) (none, (am_SH, r))) : ∀ (n : Nat) (x2 : Int32) (h : am_H), am_TP h.2.2 → lp_X12_goOn_156 k_199 n x2 h = some r → am_G X d 12 false cX12_goOn none 156 [some (.ref 413), none, some (.int x2)] [] (am_SH, h) (none, (am_SH, r)) := by
  obtain ⟨d, rfl⟩ : ∃ e, d = e + 1 := ⟨d - 1, by omega⟩
  intro n
  induction n with
  | zero => intro x2 h T hf; cases hf
  | succ n ih =>
    intro x2 h T hf
    rw [lp_X12_goOn_156] at hf
    refine r_loc dX12_goOn_156 rfl ?_
    refine r_loc dX12_goOn_157 rfl ?_
    refine r_getI dX12_goOn_158 fl_12_176 sh_413 rfl hf (fun v111 hf => ?_)
    refine r_ge (q := 199) dX12_goOn_161 rfl hf (fun hf => ?_) (fun hf => ?_)
    · refine r_weak (L := [some (.ref 413), none, none]) (am_le_s (am_le_n (am_le_n am_le_0))) ?_
      exact hk_199  h T hf
    · refine r_loc dX12_goOn_164 rfl ?_
      refine r_loc dX12_goOn_165 rfl ?_
      refine r_getI dX12_goOn_166 fl_12_179 sh_413 rfl hf (fun v112 hf => ?_)
      refine r_bipush (v := 8) dX12_goOn_169 rfl ?_
      refine r_alu dX12_goOn_171 rfl ?_
      refine r_ge (q := 199) dX12_goOn_172 rfl hf (fun hf => ?_) (fun hf => ?_)
      · refine r_weak (L := [some (.ref 413), none, none]) (am_le_s (am_le_n (am_le_n am_le_0))) ?_
        exact hk_199  h T hf
      · refine r_loc dX12_goOn_175 rfl ?_
        refine r_loc dX12_goOn_176 rfl ?_
        refine r_getL dX12_goOn_177 fl_12_193 sh_413 rfl hf (fun v113 hf => ?_)
        refine r_bipush (v := 8) dX12_goOn_180 rfl ?_
        refine r_alu dX12_goOn_182 rfl ?_
        refine r_loc dX12_goOn_183 rfl ?_
        refine r_loc dX12_goOn_184 rfl ?_
        obtain ⟨v115, c114, hf⟩ := cal_inv hf
        have g116 := rf_X12_sign (X := X) (d := d) (by omega) x2 T c114
        refine r_virt (pre := [.int x2]) (rest := [.long (v113 <<< (Int32.toInt64 8 &&& 63)), .ref 413]) dX12_goOn_185 ct_12_182 rfl (sh_413) (Nat.le_of_ble_eq_true rfl) (Nat.le_of_ble_eq_true rfl) g116 ?_
        refine r_alu dX12_goOn_188 rfl ?_
        refine r_alu dX12_goOn_189 rfl ?_
        refine r_putL dX12_goOn_190 fl_12_193 sh_413 ⟨rfl, rfl⟩ hf (fun h117 e119 hf => ?_)
        have T118 := tp_eq e119 T
        refine r_loc (L' := [some (.ref 413), none, some (.int (x2 + 1))]) dX12_goOn_193 rfl ?_
        refine r_goto (q := 156) dX12_goOn_196 rfl ?_
        exact ih (x2 + 1) h117 T118 hf
theorem rj_X12_goOn_199 {X : am_X} {d : Nat} (hd : 1 ≤ d)  {h : am_H} (T : am_TP h.2.2) {r : am_H} (hf : jn_X12_goOn_199  h = some r) : am_G X d 12 false cX12_goOn none 199 [some (.ref 413), none, none] [] (am_SH, h) (none, (am_SH, r)) := by
  obtain ⟨d, rfl⟩ : ∃ e, d = e + 1 := ⟨d - 1, by omega⟩
  unfold jn_X12_goOn_199 at hf
  refine r_loc dX12_goOn_199 rfl ?_
  refine r_loc dX12_goOn_200 rfl ?_
  refine r_getI dX12_goOn_201 fl_12_176 sh_413 rfl hf (fun v122 hf => ?_)
  refine r_loc dX12_goOn_204 rfl ?_
  refine r_getI dX12_goOn_205 fl_12_179 sh_413 rfl hf (fun v123 hf => ?_)
  refine r_alu dX12_goOn_208 rfl ?_
  refine r_bipush (v := 8) dX12_goOn_209 rfl ?_
  refine r_le (q := 218) dX12_goOn_211 rfl hf (fun hf => ?_) (fun hf => ?_)
  · refine r_loc dX12_goOn_218 rfl ?_
    refine r_getL dX12_goOn_219 fl_12_193 sh_413 rfl hf (fun v124 hf => ?_)
    obtain ⟨v126, c125, hf⟩ := cal_inv hf
    have g127 := rf_X12_isKept (X := X) (d := d) (by omega) v124 T c125
    refine r_stat (pre := [.long v124]) (rest := [.ref 413]) dX12_goOn_222 ct_12_197 rfl (Nat.le_of_ble_eq_true rfl) (Nat.le_of_ble_eq_true rfl) g127 ?_
    refine r_eq0 (q := 232) dX12_goOn_225 rfl hf (fun hf => ?_) (fun hf => ?_)
    · refine r_iconst (v := 2) dX12_goOn_232 rfl ?_
      refine r_putI dX12_goOn_233 fl_12_186 sh_413 ⟨rfl, rfl⟩ hf (fun h128 e130 hf => ?_)
      have T129 := tp_eq e130 T
      refine r_goto (q := 377) dX12_goOn_236 rfl ?_
      cases hf
      exact r_ret T129 dX12_goOn_377 rfl
    · refine r_iconst (v := 3) dX12_goOn_228 rfl ?_
      refine r_goto (q := 233) dX12_goOn_229 rfl ?_
      refine r_putI dX12_goOn_233 fl_12_186 sh_413 ⟨rfl, rfl⟩ hf (fun h131 e133 hf => ?_)
      have T132 := tp_eq e133 T
      refine r_goto (q := 377) dX12_goOn_236 rfl ?_
      cases hf
      exact r_ret T132 dX12_goOn_377 rfl
  · refine r_iconst (v := 1) dX12_goOn_214 rfl ?_
    refine r_goto (q := 233) dX12_goOn_215 rfl ?_
    refine r_putI dX12_goOn_233 fl_12_186 sh_413 ⟨rfl, rfl⟩ hf (fun h134 e136 hf => ?_)
    have T135 := tp_eq e136 T
    refine r_goto (q := 377) dX12_goOn_236 rfl ?_
    cases hf
    exact r_ret T135 dX12_goOn_377 rfl
theorem rj_X12_goOn_58 {X : am_X} {d : Nat} (hd : 1 ≤ d)  {h : am_H} (T : am_TP h.2.2) {r : am_H} (hf : jn_X12_goOn_58  h = some r) : am_G X d 12 false cX12_goOn none 58 [some (.ref 413), none, none] [] (am_SH, h) (none, (am_SH, r)) := by
  obtain ⟨d, rfl⟩ : ∃ e, d = e + 1 := ⟨d - 1, by omega⟩
  unfold jn_X12_goOn_58 at hf
  refine r_loc dX12_goOn_58 rfl ?_
  refine r_loc dX12_goOn_59 rfl ?_
  refine r_getI dX12_goOn_60 fl_12_179 sh_413 rfl hf (fun v21 hf => ?_)
  obtain ⟨v23, c22, hf⟩ := cal_inv hf
  have g24 := rf_X12_sign (X := X) (d := d) (by omega) v21 T c22
  refine r_virt (pre := [.int v21]) (rest := []) dX12_goOn_63 ct_12_182 rfl (sh_413) (Nat.le_of_ble_eq_true rfl) (Nat.le_of_ble_eq_true rfl) g24 ?_
  refine r_loc (L' := [some (.ref 413), some (.int v23), none]) dX12_goOn_66 rfl ?_
  refine r_loc dX12_goOn_67 rfl ?_
  refine r_loc dX12_goOn_68 rfl ?_
  refine r_getI dX12_goOn_69 fl_12_179 sh_413 rfl hf (fun v25 hf => ?_)
  refine r_iconst (v := 1) dX12_goOn_72 rfl ?_
  refine r_alu dX12_goOn_73 rfl ?_
  refine r_putI dX12_goOn_74 fl_12_176 sh_413 ⟨rfl, rfl⟩ hf (fun h26 e28 hf => ?_)
  have T27 := tp_eq e28 T
  refine r_loc dX12_goOn_77 rfl ?_
  refine r_getI dX12_goOn_78 fl_12_179 sh_413 rfl hf (fun v29 hf => ?_)
  refine r_loc dX12_goOn_81 rfl ?_
  refine r_getI dX12_goOn_82 fl_12_134 sh_413 rfl hf (fun v30 hf => ?_)
  refine r_lt (q := 112) dX12_goOn_85 rfl hf (fun hf => ?_) (fun hf => ?_)
  · refine r_loc dX12_goOn_112 rfl ?_
    obtain ⟨v32, c31, hf⟩ := cal_inv hf
    have g33 := rf_X12_isLetter (X := X) (d := d) (by omega) v23 T27 c31
    refine r_stat (pre := [.int v23]) (rest := []) dX12_goOn_113 ct_12_189 rfl (Nat.le_of_ble_eq_true rfl) (Nat.le_of_ble_eq_true rfl) g33 ?_
    refine r_eq0 (q := 239) dX12_goOn_116 rfl hf (fun hf => ?_) (fun hf => ?_)
    · refine r_loc dX12_goOn_239 rfl ?_
      obtain ⟨v35, c34, hf⟩ := cal_inv hf
      have g36 := rf_X12_isDigit (X := X) (d := d) (by omega) v23 T27 c34
      refine r_stat (pre := [.int v23]) (rest := []) dX12_goOn_240 ct_12_201 rfl (Nat.le_of_ble_eq_true rfl) (Nat.le_of_ble_eq_true rfl) g36 ?_
      refine r_eq0 (q := 361) dX12_goOn_243 rfl hf (fun hf => ?_) (fun hf => ?_)
      · refine r_loc dX12_goOn_361 rfl ?_
        refine r_loc dX12_goOn_362 rfl ?_
        obtain ⟨v38, c37, hf⟩ := cal_inv hf
        have g39 := rf_X12_isSign (X := X) (d := d) (by omega) v23 T27 c37
        refine r_stat (pre := [.int v23]) (rest := [.ref 413]) dX12_goOn_363 ct_12_207 rfl (Nat.le_of_ble_eq_true rfl) (Nat.le_of_ble_eq_true rfl) g39 ?_
        refine r_eq0 (q := 373) dX12_goOn_366 rfl hf (fun hf => ?_) (fun hf => ?_)
        · refine r_iconst (v := 1) dX12_goOn_373 rfl ?_
          refine r_putI dX12_goOn_374 fl_12_186 sh_413 ⟨rfl, rfl⟩ hf (fun h40 e42 hf => ?_)
          have T41 := tp_eq e42 T27
          cases hf
          exact r_ret T41 dX12_goOn_377 rfl
        · refine r_iconst (v := 5) dX12_goOn_369 rfl ?_
          refine r_goto (q := 374) dX12_goOn_370 rfl ?_
          refine r_putI dX12_goOn_374 fl_12_186 sh_413 ⟨rfl, rfl⟩ hf (fun h43 e45 hf => ?_)
          have T44 := tp_eq e45 T27
          cases hf
          exact r_ret T44 dX12_goOn_377 rfl
      · refine r_loc dX12_goOn_246 rfl ?_
        refine r_iconst (v := 0) dX12_goOn_247 rfl ?_
        refine r_putI dX12_goOn_248 fl_12_204 sh_413 ⟨rfl, rfl⟩ hf (fun h46 e48 hf => ?_)
        have T47 := tp_eq e48 T27
        refine r_loc dX12_goOn_251 rfl ?_
        refine r_loc dX12_goOn_252 rfl ?_
        refine r_getI dX12_goOn_253 fl_12_179 sh_413 rfl hf (fun v49 hf => ?_)
        refine r_putI dX12_goOn_256 fl_12_176 sh_413 ⟨rfl, rfl⟩ hf (fun h50 e52 hf => ?_)
        have T51 := tp_eq e52 T47
        refine r_weak (L := [some (.ref 413), none, none]) (am_le_s (am_le_n (am_le_n am_le_0))) ?_
        refine rl_X12_goOn_259 (by omega) _ ?_ 4000  h50 T51 hf
        · intro h74 T75 hf
          refine r_loc dX12_goOn_322 rfl ?_
          refine r_loc dX12_goOn_323 rfl ?_
          refine r_getI dX12_goOn_324 fl_12_176 sh_413 rfl hf (fun v76 hf => ?_)
          refine r_loc dX12_goOn_327 rfl ?_
          refine r_getI dX12_goOn_328 fl_12_179 sh_413 rfl hf (fun v77 hf => ?_)
          refine r_alu dX12_goOn_331 rfl ?_
          refine r_iconst (v := 4) dX12_goOn_332 rfl ?_
          refine r_gt (q := 350) dX12_goOn_333 rfl hf (fun hf => ?_) (fun hf => ?_)
          · refine r_iconst (v := 1) dX12_goOn_350 rfl ?_
            refine r_goto (q := 355) dX12_goOn_351 rfl ?_
            refine r_putI dX12_goOn_355 fl_12_186 sh_413 ⟨rfl, rfl⟩ hf (fun h78 e80 hf => ?_)
            have T79 := tp_eq e80 T75
            refine r_goto (q := 377) dX12_goOn_358 rfl ?_
            cases hf
            exact r_ret T79 dX12_goOn_377 rfl
          · refine r_loc dX12_goOn_336 rfl ?_
            refine r_loc dX12_goOn_337 rfl ?_
            refine r_getI dX12_goOn_338 fl_12_176 sh_413 rfl hf (fun v81 hf => ?_)
            obtain ⟨v83, c82, hf⟩ := cal_inv hf
            have g84 := rf_X12_sign (X := X) (d := d) (by omega) v81 T75 c82
            refine r_virt (pre := [.int v81]) (rest := [.ref 413]) dX12_goOn_341 ct_12_182 rfl (sh_413) (Nat.le_of_ble_eq_true rfl) (Nat.le_of_ble_eq_true rfl) g84 ?_
            obtain ⟨v86, c85, hf⟩ := cal_inv hf
            have g87 := rf_X12_isLetter (X := X) (d := d) (by omega) v83 T75 c85
            refine r_stat (pre := [.int v83]) (rest := [.ref 413]) dX12_goOn_344 ct_12_189 rfl (Nat.le_of_ble_eq_true rfl) (Nat.le_of_ble_eq_true rfl) g87 ?_
            refine r_eq0 (q := 354) dX12_goOn_347 rfl hf (fun hf => ?_) (fun hf => ?_)
            · refine r_iconst (v := 4) dX12_goOn_354 rfl ?_
              refine r_putI dX12_goOn_355 fl_12_186 sh_413 ⟨rfl, rfl⟩ hf (fun h88 e90 hf => ?_)
              have T89 := tp_eq e90 T75
              refine r_goto (q := 377) dX12_goOn_358 rfl ?_
              cases hf
              exact r_ret T89 dX12_goOn_377 rfl
            · refine r_iconst (v := 1) dX12_goOn_350 rfl ?_
              refine r_goto (q := 355) dX12_goOn_351 rfl ?_
              refine r_putI dX12_goOn_355 fl_12_186 sh_413 ⟨rfl, rfl⟩ hf (fun h91 e93 hf => ?_)
              have T92 := tp_eq e93 T75
              refine r_goto (q := 377) dX12_goOn_358 rfl ?_
              cases hf
              exact r_ret T92 dX12_goOn_377 rfl
    · refine r_weak (L := [some (.ref 413), none, none]) (am_le_s (am_le_n (am_le_n am_le_0))) ?_
      refine rl_X12_goOn_119 (by omega) _ ?_ 4000  h26 T27 hf
      · intro h105 T106 hf
        refine r_loc dX12_goOn_146 rfl ?_
        refine r_alu (st' := [.long 0, .ref 413]) dX12_goOn_147 rfl ?_
        refine r_putL dX12_goOn_148 fl_12_193 sh_413 ⟨rfl, rfl⟩ hf (fun h107 e109 hf => ?_)
        have T108 := tp_eq e109 T106
        refine r_loc dX12_goOn_151 rfl ?_
        refine r_getI dX12_goOn_152 fl_12_179 sh_413 rfl hf (fun v110 hf => ?_)
        refine r_loc (L' := [some (.ref 413), none, some (.int v110)]) dX12_goOn_155 rfl ?_
        refine rl_X12_goOn_156 (by omega) _ ?_ 4000 v110 h107 T108 hf
        · intro h120 T121 hf
          exact rj_X12_goOn_199 (by omega)  T121 hf
  · refine r_loc dX12_goOn_88 rfl ?_
    refine r_iconst (v := 0) dX12_goOn_89 rfl ?_
    refine r_putI dX12_goOn_90 fl_12_186 sh_413 ⟨rfl, rfl⟩ hf (fun h137 e139 hf => ?_)
    have T138 := tp_eq e139 T27
    refine r_loc dX12_goOn_93 rfl ?_
    refine r_loc dX12_goOn_94 rfl ?_
    refine r_getI dX12_goOn_95 fl_12_134 sh_413 rfl hf (fun v140 hf => ?_)
    refine r_putI dX12_goOn_98 fl_12_179 sh_413 ⟨rfl, rfl⟩ hf (fun h141 e143 hf => ?_)
    have T142 := tp_eq e143 T138
    refine r_loc dX12_goOn_101 rfl ?_
    refine r_loc dX12_goOn_102 rfl ?_
    refine r_getI dX12_goOn_103 fl_12_134 sh_413 rfl hf (fun v144 hf => ?_)
    refine r_putI dX12_goOn_106 fl_12_176 sh_413 ⟨rfl, rfl⟩ hf (fun h145 e147 hf => ?_)
    have T146 := tp_eq e147 T142
    refine r_goto (q := 377) dX12_goOn_109 rfl ?_
    cases hf
    exact r_ret T146 dX12_goOn_377 rfl
theorem rf_X12_goOn {X : am_X} {d : Nat} (hd : 1 ≤ d)  {h : am_H} (T : am_TP h.2.2) {r : am_H} (hf : f_X12_goOn  h = some r) : am_G X d 12 false cX12_goOn none 0 [some (.ref 413), none, none] [] (am_SH, h) (none, (am_SH, r)) := by
  unfold f_X12_goOn at hf
  obtain ⟨d, rfl⟩ : ∃ e, d = e + 1 := ⟨d - 1, by omega⟩
  refine r_loc dX12_goOn_0 rfl ?_
  refine r_loc dX12_goOn_1 rfl ?_
  refine r_getI dX12_goOn_2 fl_12_176 sh_413 rfl hf (fun v1 hf => ?_)
  refine r_putI dX12_goOn_5 fl_12_179 sh_413 ⟨rfl, rfl⟩ hf (fun h2 e4 hf => ?_)
  have T3 := tp_eq e4 T
  refine rl_X12_goOn_8 (by omega) _ ?_ 4000  h2 T3 hf
  · intro h19 T20 hf
    exact rj_X12_goOn_58 (by omega)  T20 hf
def f_X12_isGood  (h : am_H) : Option (Int32) := bnd (h.1 413 4) fun v1 => if v1 = 0 then some 1 else some 0
theorem rf_X12_isGood {X : am_X} {d : Nat} (hd : 0 ≤ d)  {h : am_H} (T : am_TP h.2.2) {r : Int32} (hf : f_X12_isGood  h = some r) : am_G X d 12 false cX12_isGood (some .boolean) 0 [some (.ref 413)] [] (am_SH, h) (some (.int r), (am_SH, h)) := by
  unfold f_X12_isGood at hf
  refine r_loc dX12_isGood_0 rfl ?_
  refine r_getI dX12_isGood_1 fl_12_137 sh_413 rfl hf (fun v1 hf => ?_)
  refine r_ne0 (q := 11) dX12_isGood_4 rfl hf (fun hf => ?_) (fun hf => ?_)
  · refine r_iconst (v := 0) dX12_isGood_11 rfl ?_
    cases hf
    exact r_z0 T dX12_isGood_12
  · refine r_iconst (v := 1) dX12_isGood_7 rfl ?_
    refine r_goto (q := 12) dX12_isGood_8 rfl ?_
    cases hf
    exact r_z1 T dX12_isGood_12
def f_X12_fails (x1 : Int32) (x2 : Int32) (h : am_H) : Option (am_H) := bnd (h.1 413 4) fun v1 => if 0 < v1 then some h else ptI h 413 4 x1 fun h2 => ptI h2 413 5 x2 fun h5 => some h5
theorem rf_X12_fails {X : am_X} {d : Nat} (hd : 0 ≤ d) (x1 : Int32) (x2 : Int32) {h : am_H} (T : am_TP h.2.2) {r : am_H} (hf : f_X12_fails x1 x2 h = some r) : am_G X d 12 false cX12_fails none 0 [some (.ref 413), some (.int x1), some (.int x2)] [] (am_SH, h) (none, (am_SH, r)) := by
  unfold f_X12_fails at hf
  refine r_loc dX12_fails_0 rfl ?_
  refine r_getI dX12_fails_1 fl_12_137 sh_413 rfl hf (fun v1 hf => ?_)
  refine r_le0 (q := 8) dX12_fails_4 rfl hf (fun hf => ?_) (fun hf => ?_)
  · refine r_loc dX12_fails_8 rfl ?_
    refine r_loc dX12_fails_9 rfl ?_
    refine r_putI dX12_fails_10 fl_12_137 sh_413 ⟨rfl, rfl⟩ hf (fun h2 e4 hf => ?_)
    have T3 := tp_eq e4 T
    refine r_loc dX12_fails_13 rfl ?_
    refine r_loc dX12_fails_14 rfl ?_
    refine r_putI dX12_fails_15 fl_12_16 sh_413 ⟨rfl, rfl⟩ hf (fun h5 e7 hf => ?_)
    have T6 := tp_eq e7 T3
    cases hf
    exact r_ret T6 dX12_fails_18 rfl
  · cases hf
    exact r_ret T dX12_fails_7 rfl
def f_X12_misplaced  (h : am_H) : Option (am_H) := bnd (h.1 413 8) fun v1 => if v1 = 1 then bnd (h.1 413 6) fun v7 => cal (f_X12_fails 1 v7 h) fun h9 => some h9 else bnd (h.1 413 6) fun v2 => cal (f_X12_fails 2 v2 h) fun h4 => some h4
theorem rf_X12_misplaced {X : am_X} {d : Nat} (hd : 1 ≤ d)  {h : am_H} (T : am_TP h.2.2) {r : am_H} (hf : f_X12_misplaced  h = some r) : am_G X d 12 false cX12_misplaced none 0 [some (.ref 413)] [] (am_SH, h) (none, (am_SH, r)) := by
  unfold f_X12_misplaced at hf
  obtain ⟨d, rfl⟩ : ∃ e, d = e + 1 := ⟨d - 1, by omega⟩
  refine r_loc dX12_misplaced_0 rfl ?_
  refine r_loc dX12_misplaced_1 rfl ?_
  refine r_getI dX12_misplaced_2 fl_12_186 sh_413 rfl hf (fun v1 hf => ?_)
  refine r_iconst (v := 1) dX12_misplaced_5 rfl ?_
  refine r_ne (q := 13) dX12_misplaced_6 rfl hf (fun hf => ?_) (fun hf => ?_)
  · refine r_iconst (v := 2) dX12_misplaced_13 rfl ?_
    refine r_loc dX12_misplaced_14 rfl ?_
    refine r_getI dX12_misplaced_15 fl_12_179 sh_413 rfl hf (fun v2 hf => ?_)
    obtain ⟨h4, c3, hf⟩ := cal_inv hf
    have g6 := rf_X12_fails (X := X) (d := d) (by omega) 2 v2 T c3
    have T5 : am_TP h4.2.2 := g6.2
    refine r_virt (pre := [.int v2, .int 2]) (rest := []) dX12_misplaced_18 ct_12_210 rfl (sh_413) (Nat.le_of_ble_eq_true rfl) (Nat.le_of_ble_eq_true rfl) g6 ?_
    cases hf
    exact r_ret T5 dX12_misplaced_21 rfl
  · refine r_iconst (v := 1) dX12_misplaced_9 rfl ?_
    refine r_goto (q := 14) dX12_misplaced_10 rfl ?_
    refine r_loc dX12_misplaced_14 rfl ?_
    refine r_getI dX12_misplaced_15 fl_12_179 sh_413 rfl hf (fun v7 hf => ?_)
    obtain ⟨h9, c8, hf⟩ := cal_inv hf
    have g11 := rf_X12_fails (X := X) (d := d) (by omega) 1 v7 T c8
    have T10 : am_TP h9.2.2 := g11.2
    refine r_virt (pre := [.int v7, .int 1]) (rest := []) dX12_misplaced_18 ct_12_210 rfl (sh_413) (Nat.le_of_ble_eq_true rfl) (Nat.le_of_ble_eq_true rfl) g11 ?_
    cases hf
    exact r_ret T10 dX12_misplaced_21 rfl
