/-! The constructors, by program (wip/whole/ctor.py) -/
def chk {ρ : Type} (p : Prop) [Decidable p] (F : Option ρ) : Option ρ := if p then F else none
theorem chk_inv {ρ : Type} {p : Prop} [Decidable p] {F : Option ρ} {r : ρ} (h : chk p F = some r) : p ∧ F = some r := by
  unfold chk at h
  split at h
  · rename_i hp
    exact ⟨hp, h⟩
  · cases h
theorem am_GG_N0 {TP : (Nat → Nat → Option Nat) → Prop} {X : am_X} {d o : Nat} {ini : Bool} {cc : ByteArray} {ret : Option FieldType} {pc : Nat} {L : am_L} {st : List Value} {σ : am_S} {out : Option Value × am_S} (h : am_GG TP X d o ini cc ret pc L st σ out) : am_GG am_N0 X d o ini cc ret pc L st σ out := ⟨h.1, trivial⟩
def am_TPb (R : Nat → Nat → Option Nat) : Bool := am_R0.all (fun q => R q.1 q.2.1 == some q.2.2) && am_ST.all (fun s => R s 0 == some 4 && R s 1 == some (s + 1) && R s 2 == some (s + 2) && R s 3 == some (s + 3) && R s 4 == some (s + 4) && R s 5 == some (s + 5) && R s 6 == some (s + 6) && R s 7 == some (s + 7)) && (List.range 41).all (fun j => match R 45 j with
  | some y => am_ST.contains y
  | none => false)
theorem am_TPb_ok {R : Nat → Nat → Option Nat} (h : am_TPb R = true) : am_TP R := by
  unfold am_TPb at h
  simp only [Bool.and_eq_true, List.all_eq_true, beq_iff_eq] at h
  refine ⟨h.1.1, fun s hs => ?_, fun j hj => ?_⟩
  · have := h.1.2 s hs
    simp only [and_assoc] at this
    exact this
  · have := h.2 j (List.mem_range.mpr hj)
    split at this
    · rename_i y hy
      exact ⟨y, hy, by simpa using this⟩
    · cases this
def am_PS (s : Nat) (R : Nat → Nat → Option Nat) : Prop := R s 1 = some (s + 1) ∧ R s 2 = some (s + 2) ∧ R s 3 = some (s + 3) ∧ R s 4 = some (s + 4) ∧ R s 5 = some (s + 5) ∧ R s 6 = some (s + 6) ∧ R s 7 = some (s + 7)
def am_PSb (s : Nat) (R : Nat → Nat → Option Nat) : Bool := R s 1 == some (s + 1) && R s 2 == some (s + 2) && R s 3 == some (s + 3) && R s 4 == some (s + 4) && R s 5 == some (s + 5) && R s 6 == some (s + 6) && R s 7 == some (s + 7)
theorem am_PS_ok {s : Nat} {R : Nat → Nat → Option Nat} (h : am_PSb s R = true) : am_PS s R := by
  unfold am_PSb at h
  simp only [Bool.and_eq_true, beq_iff_eq, and_assoc] at h
  exact h
def am_PF (b : Nat) (R : Nat → Nat → Option Nat) : Prop := R b 0 = some (b + 1) ∧ R b 1 = some (b + 2) ∧ R b 2 = some (b + 3)
def am_PFb (b : Nat) (R : Nat → Nat → Option Nat) : Bool := R b 0 == some (b + 1) && R b 1 == some (b + 2) && R b 2 == some (b + 3)
theorem am_PF_ok {b : Nat} {R : Nat → Nat → Option Nat} (h : am_PFb b R = true) : am_PF b R := by
  unfold am_PFb at h
  simp only [Bool.and_eq_true, beq_iff_eq, and_assoc] at h
  exact h
def am_oS (S : List am_Sh) (s : Nat) : Prop := S[s]? = some (.inl 6) ∧ S[s + 1]? = some (.inr (.int, 8)) ∧ S[s + 2]? = some (.inr (.int, 8)) ∧ S[s + 3]? = some (.inr (.int, 8)) ∧ S[s + 4]? = some (.inr (.int, 8)) ∧ S[s + 5]? = some (.inr (.int, 8)) ∧ S[s + 6]? = some (.inr (.int, 8)) ∧ S[s + 7]? = some (.inr (.int, 8))
theorem am_oS_tk {n s : Nat} (hs : s ∈ am_ST) (hn : s + 7 < n) : am_oS (am_SH.take n) s := ⟨sh_tk (sh_S hs) (by omega), sh_tk (sh_S_1 hs) (by omega), sh_tk (sh_S_2 hs) (by omega), sh_tk (sh_S_3 hs) (by omega), sh_tk (sh_S_4 hs) (by omega), sh_tk (sh_S_5 hs) (by omega), sh_tk (sh_S_6 hs) (by omega), sh_tk (sh_S_7 hs) (by omega)⟩
section AMOS
variable {S : List am_Sh} {s : Nat} {R : Nat → Nat → Option Nat}
theorem oS_0 (h : am_oS S s) : S[s]? = some (.inl 6) := h.1
theorem oS_1 (h : am_oS S s) : S[s + 1]? = some (.inr (.int, 8)) := h.2.1
theorem oS_2 (h : am_oS S s) : S[s + 2]? = some (.inr (.int, 8)) := h.2.2.1
theorem oS_3 (h : am_oS S s) : S[s + 3]? = some (.inr (.int, 8)) := h.2.2.2.1
theorem oS_4 (h : am_oS S s) : S[s + 4]? = some (.inr (.int, 8)) := h.2.2.2.2.1
theorem oS_5 (h : am_oS S s) : S[s + 5]? = some (.inr (.int, 8)) := h.2.2.2.2.2.1
theorem oS_6 (h : am_oS S s) : S[s + 6]? = some (.inr (.int, 8)) := h.2.2.2.2.2.2.1
theorem oS_7 (h : am_oS S s) : S[s + 7]? = some (.inr (.int, 8)) := h.2.2.2.2.2.2.2
theorem pS_1 (h : am_PS s R) (_ : am_oS S s) : R s 1 = some (s + 1) := h.1
theorem pS_2 (h : am_PS s R) (_ : am_oS S s) : R s 2 = some (s + 2) := h.2.1
theorem pS_3 (h : am_PS s R) (_ : am_oS S s) : R s 3 = some (s + 3) := h.2.2.1
theorem pS_4 (h : am_PS s R) (_ : am_oS S s) : R s 4 = some (s + 4) := h.2.2.2.1
theorem pS_5 (h : am_PS s R) (_ : am_oS S s) : R s 5 = some (s + 5) := h.2.2.2.2.1
theorem pS_6 (h : am_PS s R) (_ : am_oS S s) : R s 6 = some (s + 6) := h.2.2.2.2.2.1
theorem pS_7 (h : am_PS s R) (_ : am_oS S s) : R s 7 = some (s + 7) := h.2.2.2.2.2.2
end AMOS
theorem am_PS_eq {s : Nat} {h h1 : am_H} (e : h1.2.2 = h.2.2) (T : am_PS s h.2.2) : am_PS s h1.2.2 := by rw [e]; exact T

theorem qj_X7_remove_85 {S : List am_Sh} {X : am_X} {d : Nat} (hd : 0 ≤ d) (k_62 : Int32 → am_H → Option (am_H)) (s0 : Nat) (x1 : Int32) (x2 : Int32) (hs0 : am_oS S s0) {h : am_H} (T : (am_PS s0) h.2.2) {r : am_H} (hk_62 : ∀ (x2 : Int32) (h : am_H), (am_PS s0) h.2.2 → k_62 x2 h = some r → am_GG (am_PS s0) X d 7 false cX7_remove none 62 [some (.ref s0), some (.int x1), some (.int x2)] [] (S, h) (none, (S, r))) (hf : jn_X7_remove_85 k_62 s0 x1 x2 h = some r) : am_GG (am_PS s0) X d 7 false cX7_remove none 85 [some (.ref s0), some (.int x1), some (.int x2)] [] (S, h) (none, (S, r)) := by
  unfold jn_X7_remove_85 at hf
  refine r_loc dX7_remove_85 rfl ?_
  refine r_getR dX7_remove_86 fl_7_30 (oS_0 hs0) (Or.inr ⟨_, rfl⟩) (pS_7 T hs0) ?_
  refine r_loc dX7_remove_89 rfl ?_
  refine r_iald dX7_remove_90 (oS_7 hs0) hf (fun v23 hf => ?_)
  refine r_loc dX7_remove_91 rfl ?_
  refine r_ne (q := 102) dX7_remove_92 rfl hf (fun hf => ?_) (fun hf => ?_)
  · refine r_loc (L' := [some (.ref s0), some (.int x1), some (.int (x2 + 1))]) dX7_remove_102 rfl ?_
    refine r_goto (q := 62) dX7_remove_105 rfl ?_
    exact hk_62 (x2 + 1) h T hf
  · refine r_loc dX7_remove_95 rfl ?_
    refine r_getR dX7_remove_96 fl_7_30 (oS_0 hs0) (Or.inr ⟨_, rfl⟩) (pS_7 T hs0) ?_
    refine r_loc dX7_remove_99 rfl ?_
    refine r_iconst (v := (-1)) dX7_remove_100 rfl ?_
    refine r_iast dX7_remove_101 (oS_7 hs0) hf (fun h24 e26 hf => ?_)
    have T25 := tp_eq e26 T
    refine r_loc (L' := [some (.ref s0), some (.int x1), some (.int (x2 + 1))]) dX7_remove_102 rfl ?_
    refine r_goto (q := 62) dX7_remove_105 rfl ?_
    exact hk_62 (x2 + 1) h24 T25 hf
theorem ql_X7_remove_62 {S : List am_Sh} {X : am_X} {d : Nat} (hd : 0 ≤ d) (s0 : Nat) (p1 : Int32) (hs0 : am_oS S s0) {r : am_H} : ∀ (n : Nat) (x2 : Int32) (h : am_H), (am_PS s0) h.2.2 → lp_X7_remove_62 s0 p1 n x2 h = some r → am_GG (am_PS s0) X d 7 false cX7_remove none 62 [some (.ref s0), some (.int p1), some (.int x2)] [] (S, h) (none, (S, r)) := by
  intro n
  induction n with
  | zero => intro x2 h T hf; cases hf
  | succ n ih =>
    intro x2 h T hf
    rw [lp_X7_remove_62] at hf
    refine r_loc dX7_remove_62 rfl ?_
    refine r_bipush (v := 8) dX7_remove_63 rfl ?_
    refine r_ge (q := 108) dX7_remove_65 rfl hf (fun hf => ?_) (fun hf => ?_)
    · cases hf
      exact r_ret T dX7_remove_108 rfl
    · refine r_loc dX7_remove_68 rfl ?_
      refine r_getR dX7_remove_69 fl_7_27 (oS_0 hs0) (Or.inr ⟨_, rfl⟩) (pS_6 T hs0) ?_
      refine r_loc dX7_remove_72 rfl ?_
      refine r_iald dX7_remove_73 (oS_6 hs0) hf (fun v22 hf => ?_)
      refine r_loc dX7_remove_74 rfl ?_
      refine r_ne (q := 85) dX7_remove_75 rfl hf (fun hf => ?_) (fun hf => ?_)
      · exact qj_X7_remove_85 (by omega) (lp_X7_remove_62 s0 p1 n) s0 p1 x2 hs0 T (ih) hf
      · refine r_loc dX7_remove_78 rfl ?_
        refine r_getR dX7_remove_79 fl_7_27 (oS_0 hs0) (Or.inr ⟨_, rfl⟩) (pS_6 T hs0) ?_
        refine r_loc dX7_remove_82 rfl ?_
        refine r_iconst (v := (-1)) dX7_remove_83 rfl ?_
        refine r_iast dX7_remove_84 (oS_6 hs0) hf (fun h27 e29 hf => ?_)
        have T28 := tp_eq e29 T
        exact qj_X7_remove_85 (by omega) (lp_X7_remove_62 s0 p1 n) s0 p1 x2 hs0 T28 (ih) hf
theorem qf_X7_remove {S : List am_Sh} {X : am_X} {d : Nat} (hd : 0 ≤ d) (s0 : Nat) (x1 : Int32) (hs0 : am_oS S s0) {h : am_H} (T : (am_PS s0) h.2.2) {r : am_H} (hf : f_X7_remove s0 x1 h = some r) : am_GG (am_PS s0) X d 7 false cX7_remove none 0 [some (.ref s0), some (.int x1), none] [] (S, h) (none, (S, r)) := by
  unfold f_X7_remove at hf
  refine r_loc dX7_remove_0 rfl ?_
  refine r_lt0 (q := 10) dX7_remove_1 rfl hf (fun hf => ?_) (fun hf => ?_)
  · cases hf
    exact r_ret T dX7_remove_10 rfl
  · refine r_loc dX7_remove_4 rfl ?_
    refine r_bipush (v := 8) dX7_remove_5 rfl ?_
    refine r_lt (q := 11) dX7_remove_7 rfl hf (fun hf => ?_) (fun hf => ?_)
    · refine r_loc dX7_remove_11 rfl ?_
      refine r_getR dX7_remove_12 fl_7_9 (oS_0 hs0) (Or.inr ⟨_, rfl⟩) (pS_1 T hs0) ?_
      refine r_loc dX7_remove_15 rfl ?_
      refine r_iconst (v := 0) dX7_remove_16 rfl ?_
      refine r_iast dX7_remove_17 (oS_1 hs0) hf (fun h1 e3 hf => ?_)
      have T2 := tp_eq e3 T
      refine r_loc dX7_remove_18 rfl ?_
      refine r_getR dX7_remove_19 fl_7_15 (oS_0 hs0) (Or.inr ⟨_, rfl⟩) (pS_2 T2 hs0) ?_
      refine r_loc dX7_remove_22 rfl ?_
      refine r_iconst (v := (-1)) dX7_remove_23 rfl ?_
      refine r_iast dX7_remove_24 (oS_2 hs0) hf (fun h4 e6 hf => ?_)
      have T5 := tp_eq e6 T2
      refine r_loc dX7_remove_25 rfl ?_
      refine r_getR dX7_remove_26 fl_7_18 (oS_0 hs0) (Or.inr ⟨_, rfl⟩) (pS_3 T5 hs0) ?_
      refine r_loc dX7_remove_29 rfl ?_
      refine r_iconst (v := 0) dX7_remove_30 rfl ?_
      refine r_iast dX7_remove_31 (oS_3 hs0) hf (fun h7 e9 hf => ?_)
      have T8 := tp_eq e9 T5
      refine r_loc dX7_remove_32 rfl ?_
      refine r_getR dX7_remove_33 fl_7_21 (oS_0 hs0) (Or.inr ⟨_, rfl⟩) (pS_4 T8 hs0) ?_
      refine r_loc dX7_remove_36 rfl ?_
      refine r_iconst (v := 0) dX7_remove_37 rfl ?_
      refine r_iast dX7_remove_38 (oS_4 hs0) hf (fun h10 e12 hf => ?_)
      have T11 := tp_eq e12 T8
      refine r_loc dX7_remove_39 rfl ?_
      refine r_getR dX7_remove_40 fl_7_24 (oS_0 hs0) (Or.inr ⟨_, rfl⟩) (pS_5 T11 hs0) ?_
      refine r_loc dX7_remove_43 rfl ?_
      refine r_iconst (v := 0) dX7_remove_44 rfl ?_
      refine r_iast dX7_remove_45 (oS_5 hs0) hf (fun h13 e15 hf => ?_)
      have T14 := tp_eq e15 T11
      refine r_loc dX7_remove_46 rfl ?_
      refine r_getR dX7_remove_47 fl_7_27 (oS_0 hs0) (Or.inr ⟨_, rfl⟩) (pS_6 T14 hs0) ?_
      refine r_loc dX7_remove_50 rfl ?_
      refine r_iconst (v := (-1)) dX7_remove_51 rfl ?_
      refine r_iast dX7_remove_52 (oS_6 hs0) hf (fun h16 e18 hf => ?_)
      have T17 := tp_eq e18 T14
      refine r_loc dX7_remove_53 rfl ?_
      refine r_getR dX7_remove_54 fl_7_30 (oS_0 hs0) (Or.inr ⟨_, rfl⟩) (pS_7 T17 hs0) ?_
      refine r_loc dX7_remove_57 rfl ?_
      refine r_iconst (v := (-1)) dX7_remove_58 rfl ?_
      refine r_iast dX7_remove_59 (oS_7 hs0) hf (fun h19 e21 hf => ?_)
      have T20 := tp_eq e21 T17
      refine r_iconst (v := 0) dX7_remove_60 rfl ?_
      refine r_loc (L' := [some (.ref s0), some (.int x1), some (.int 0)]) dX7_remove_61 rfl ?_
      refine ql_X7_remove_62 (by omega) s0 x1 hs0  4000 0 h19 T20 hf
    · cases hf
      exact r_ret T dX7_remove_10 rfl
theorem qf_X9_withLetter {X : am_X} {d : Nat} (hd : 0 ≤ d) (x0 : Int64) (x2 : Int32) {h : am_H} (T : am_N0 h.2.2) {r : Int64} (hf : f_X9_withLetter x0 x2 h = some r) : am_GG am_N0 X d 9 false cX9_withLetter (some .long) 0 [some (.long x0), none, some (.int x2)] [] (am_SH.take 4, h) (some (.long r), (am_SH.take 4, h)) := by
  unfold f_X9_withLetter at hf
  refine r_loc dX9_withLetter_0 rfl ?_
  refine r_ldc2 dX9_withLetter_1 k64_9_84 ?_
  refine r_alu dX9_withLetter_4 rfl ?_
  refine r_loc dX9_withLetter_5 rfl ?_
  refine r_bipush (v := 97) dX9_withLetter_6 rfl ?_
  refine r_alu dX9_withLetter_8 rfl ?_
  refine r_iconst (v := 1) dX9_withLetter_9 rfl ?_
  refine r_alu dX9_withLetter_10 rfl ?_
  refine r_alu dX9_withLetter_11 rfl ?_
  refine r_alu dX9_withLetter_12 rfl ?_
  cases hf
  exact r_ret T dX9_withLetter_13 rfl
theorem qf_X2_clear_10 {X : am_X} {d : Nat} (hd : 0 ≤ d)  {h : am_H} (T : (am_PF 10) h.2.2) {r : am_H} (hf : f_X2_clear_10  h = some r) : am_GG (am_PF 10) X d 2 false cX2_clear none 0 [some (.ref 10)] [] (am_SH.take 14, h) (none, (am_SH.take 14, r)) := by
  unfold f_X2_clear_10 at hf
  refine r_loc dX2_clear_0 rfl ?_
  refine r_iconst (v := 0) dX2_clear_1 rfl ?_
  refine r_putI dX2_clear_2 fl_2_21 (sh_tk sh_10 (by decide)) ⟨rfl, rfl⟩ hf (fun h1 e3 hf => ?_)
  have T2 := tp_eq e3 T
  refine r_loc dX2_clear_5 rfl ?_
  refine r_iconst (v := 0) dX2_clear_6 rfl ?_
  refine r_putI dX2_clear_7 fl_2_25 (sh_tk sh_10 (by decide)) ⟨rfl, rfl⟩ hf (fun h4 e6 hf => ?_)
  have T5 := tp_eq e6 T2
  cases hf
  exact r_ret T5 dX2_clear_10 rfl
theorem qf_X2_addStep_10 {X : am_X} {d : Nat} (hd : 0 ≤ d) (x1 : Int32) (x2 : Int32) {h : am_H} (T : (am_PF 10) h.2.2) {r : am_H} (hf : f_X2_addStep_10 x1 x2 h = some r) : am_GG (am_PF 10) X d 2 false cX2_addStep none 0 [some (.ref 10), some (.int x1), some (.int x2)] [] (am_SH.take 14, h) (none, (am_SH.take 14, r)) := by
  unfold f_X2_addStep_10 at hf
  refine r_loc dX2_addStep_0 rfl ?_
  refine r_getI dX2_addStep_1 fl_2_21 (sh_tk sh_10 (by decide)) rfl hf (fun v1 hf => ?_)
  refine r_lt0 (q := 47) dX2_addStep_4 rfl hf (fun hf => ?_) (fun hf => ?_)
  · cases hf
    exact r_ret T dX2_addStep_47 rfl
  · refine r_loc dX2_addStep_7 rfl ?_
    refine r_getI dX2_addStep_8 fl_2_21 (sh_tk sh_10 (by decide)) rfl hf (fun v2 hf => ?_)
    refine r_sipush (v := 300) dX2_addStep_11 rfl ?_
    refine r_ge (q := 47) dX2_addStep_14 rfl hf (fun hf => ?_) (fun hf => ?_)
    · cases hf
      exact r_ret T dX2_addStep_47 rfl
    · refine r_loc dX2_addStep_17 rfl ?_
      refine r_getR dX2_addStep_18 fl_2_9 (sh_tk sh_10 (by decide)) (Or.inr ⟨_, rfl⟩) (T.1) ?_
      refine r_loc dX2_addStep_21 rfl ?_
      refine r_getI dX2_addStep_22 fl_2_21 (sh_tk sh_10 (by decide)) rfl hf (fun v3 hf => ?_)
      refine r_loc dX2_addStep_25 rfl ?_
      refine r_iast dX2_addStep_26 (sh_tk sh_11 (by decide)) hf (fun h4 e6 hf => ?_)
      have T5 := tp_eq e6 T
      refine r_loc dX2_addStep_27 rfl ?_
      refine r_getR dX2_addStep_28 fl_2_15 (sh_tk sh_10 (by decide)) (Or.inr ⟨_, rfl⟩) (T5.2.1) ?_
      refine r_loc dX2_addStep_31 rfl ?_
      refine r_getI dX2_addStep_32 fl_2_21 (sh_tk sh_10 (by decide)) rfl hf (fun v7 hf => ?_)
      refine r_loc dX2_addStep_35 rfl ?_
      refine r_iast dX2_addStep_36 (sh_tk sh_12 (by decide)) hf (fun h8 e10 hf => ?_)
      have T9 := tp_eq e10 T5
      refine r_loc dX2_addStep_37 rfl ?_
      refine r_alu dX2_addStep_38 rfl ?_
      refine r_getI dX2_addStep_39 fl_2_21 (sh_tk sh_10 (by decide)) rfl hf (fun v11 hf => ?_)
      refine r_iconst (v := 1) dX2_addStep_42 rfl ?_
      refine r_alu dX2_addStep_43 rfl ?_
      refine r_putI dX2_addStep_44 fl_2_21 (sh_tk sh_10 (by decide)) ⟨rfl, rfl⟩ hf (fun h12 e14 hf => ?_)
      have T13 := tp_eq e14 T9
      cases hf
      exact r_ret T13 dX2_addStep_47 rfl
def f_X2_beAsUntold_10  (h : am_H) : Option (am_H) := cal (f_X2_clear_10 h) fun h2 => cal (f_X2_addStep_10 14 0 h2) fun h6 => cal (f_X2_addStep_10 16 0 h6) fun h10 => cal (f_X2_addStep_10 25 0 h10) fun h14 => some h14
theorem qf_X2_beAsUntold_10 {X : am_X} {d : Nat} (hd : 1 ≤ d)  {h : am_H} (T : (am_PF 10) h.2.2) {r : am_H} (hf : f_X2_beAsUntold_10  h = some r) : am_GG (am_PF 10) X d 2 false cX2_beAsUntold none 0 [some (.ref 10)] [] (am_SH.take 14, h) (none, (am_SH.take 14, r)) := by
  unfold f_X2_beAsUntold_10 at hf
  obtain ⟨d, rfl⟩ : ∃ e, d = e + 1 := ⟨d - 1, by omega⟩
  refine r_loc dX2_beAsUntold_0 rfl ?_
  obtain ⟨h2, c1, hf⟩ := cal_inv hf
  have g4 := qf_X2_clear_10 (X := X) (d := d) (by omega) T c1
  have T3 : (am_PF 10) h2.2.2 := g4.2
  refine r_virt (pre := []) (rest := []) dX2_beAsUntold_1 ct_2_28 rfl ((sh_tk sh_10 (by decide))) (Nat.le_of_ble_eq_true rfl) (Nat.le_of_ble_eq_true rfl) g4 ?_
  refine r_loc dX2_beAsUntold_4 rfl ?_
  refine r_bipush (v := 14) dX2_beAsUntold_5 rfl ?_
  refine r_iconst (v := 0) dX2_beAsUntold_7 rfl ?_
  obtain ⟨h6, c5, hf⟩ := cal_inv hf
  have g8 := qf_X2_addStep_10 (X := X) (d := d) (by omega) 14 0 T3 c5
  have T7 : (am_PF 10) h6.2.2 := g8.2
  refine r_virt (pre := [.int 0, .int 14]) (rest := []) dX2_beAsUntold_8 ct_2_31 rfl ((sh_tk sh_10 (by decide))) (Nat.le_of_ble_eq_true rfl) (Nat.le_of_ble_eq_true rfl) g8 ?_
  refine r_loc dX2_beAsUntold_11 rfl ?_
  refine r_bipush (v := 16) dX2_beAsUntold_12 rfl ?_
  refine r_iconst (v := 0) dX2_beAsUntold_14 rfl ?_
  obtain ⟨h10, c9, hf⟩ := cal_inv hf
  have g12 := qf_X2_addStep_10 (X := X) (d := d) (by omega) 16 0 T7 c9
  have T11 : (am_PF 10) h10.2.2 := g12.2
  refine r_virt (pre := [.int 0, .int 16]) (rest := []) dX2_beAsUntold_15 ct_2_31 rfl ((sh_tk sh_10 (by decide))) (Nat.le_of_ble_eq_true rfl) (Nat.le_of_ble_eq_true rfl) g12 ?_
  refine r_loc dX2_beAsUntold_18 rfl ?_
  refine r_bipush (v := 25) dX2_beAsUntold_19 rfl ?_
  refine r_iconst (v := 0) dX2_beAsUntold_21 rfl ?_
  obtain ⟨h14, c13, hf⟩ := cal_inv hf
  have g16 := qf_X2_addStep_10 (X := X) (d := d) (by omega) 25 0 T11 c13
  have T15 : (am_PF 10) h14.2.2 := g16.2
  refine r_virt (pre := [.int 0, .int 25]) (rest := []) dX2_beAsUntold_22 ct_2_31 rfl ((sh_tk sh_10 (by decide))) (Nat.le_of_ble_eq_true rfl) (Nat.le_of_ble_eq_true rfl) g16 ?_
  cases hf
  exact r_ret T15 dX2_beAsUntold_25 rfl
theorem qf_X2_clear_23 {X : am_X} {d : Nat} (hd : 0 ≤ d)  {h : am_H} (T : (am_PF 23) h.2.2) {r : am_H} (hf : f_X2_clear_23  h = some r) : am_GG (am_PF 23) X d 2 false cX2_clear none 0 [some (.ref 23)] [] (am_SH.take 27, h) (none, (am_SH.take 27, r)) := by
  unfold f_X2_clear_23 at hf
  refine r_loc dX2_clear_0 rfl ?_
  refine r_iconst (v := 0) dX2_clear_1 rfl ?_
  refine r_putI dX2_clear_2 fl_2_21 (sh_tk sh_23 (by decide)) ⟨rfl, rfl⟩ hf (fun h1 e3 hf => ?_)
  have T2 := tp_eq e3 T
  refine r_loc dX2_clear_5 rfl ?_
  refine r_iconst (v := 0) dX2_clear_6 rfl ?_
  refine r_putI dX2_clear_7 fl_2_25 (sh_tk sh_23 (by decide)) ⟨rfl, rfl⟩ hf (fun h4 e6 hf => ?_)
  have T5 := tp_eq e6 T2
  cases hf
  exact r_ret T5 dX2_clear_10 rfl
theorem qf_X2_addStep_23 {X : am_X} {d : Nat} (hd : 0 ≤ d) (x1 : Int32) (x2 : Int32) {h : am_H} (T : (am_PF 23) h.2.2) {r : am_H} (hf : f_X2_addStep_23 x1 x2 h = some r) : am_GG (am_PF 23) X d 2 false cX2_addStep none 0 [some (.ref 23), some (.int x1), some (.int x2)] [] (am_SH.take 27, h) (none, (am_SH.take 27, r)) := by
  unfold f_X2_addStep_23 at hf
  refine r_loc dX2_addStep_0 rfl ?_
  refine r_getI dX2_addStep_1 fl_2_21 (sh_tk sh_23 (by decide)) rfl hf (fun v1 hf => ?_)
  refine r_lt0 (q := 47) dX2_addStep_4 rfl hf (fun hf => ?_) (fun hf => ?_)
  · cases hf
    exact r_ret T dX2_addStep_47 rfl
  · refine r_loc dX2_addStep_7 rfl ?_
    refine r_getI dX2_addStep_8 fl_2_21 (sh_tk sh_23 (by decide)) rfl hf (fun v2 hf => ?_)
    refine r_sipush (v := 300) dX2_addStep_11 rfl ?_
    refine r_ge (q := 47) dX2_addStep_14 rfl hf (fun hf => ?_) (fun hf => ?_)
    · cases hf
      exact r_ret T dX2_addStep_47 rfl
    · refine r_loc dX2_addStep_17 rfl ?_
      refine r_getR dX2_addStep_18 fl_2_9 (sh_tk sh_23 (by decide)) (Or.inr ⟨_, rfl⟩) (T.1) ?_
      refine r_loc dX2_addStep_21 rfl ?_
      refine r_getI dX2_addStep_22 fl_2_21 (sh_tk sh_23 (by decide)) rfl hf (fun v3 hf => ?_)
      refine r_loc dX2_addStep_25 rfl ?_
      refine r_iast dX2_addStep_26 (sh_tk sh_24 (by decide)) hf (fun h4 e6 hf => ?_)
      have T5 := tp_eq e6 T
      refine r_loc dX2_addStep_27 rfl ?_
      refine r_getR dX2_addStep_28 fl_2_15 (sh_tk sh_23 (by decide)) (Or.inr ⟨_, rfl⟩) (T5.2.1) ?_
      refine r_loc dX2_addStep_31 rfl ?_
      refine r_getI dX2_addStep_32 fl_2_21 (sh_tk sh_23 (by decide)) rfl hf (fun v7 hf => ?_)
      refine r_loc dX2_addStep_35 rfl ?_
      refine r_iast dX2_addStep_36 (sh_tk sh_25 (by decide)) hf (fun h8 e10 hf => ?_)
      have T9 := tp_eq e10 T5
      refine r_loc dX2_addStep_37 rfl ?_
      refine r_alu dX2_addStep_38 rfl ?_
      refine r_getI dX2_addStep_39 fl_2_21 (sh_tk sh_23 (by decide)) rfl hf (fun v11 hf => ?_)
      refine r_iconst (v := 1) dX2_addStep_42 rfl ?_
      refine r_alu dX2_addStep_43 rfl ?_
      refine r_putI dX2_addStep_44 fl_2_21 (sh_tk sh_23 (by decide)) ⟨rfl, rfl⟩ hf (fun h12 e14 hf => ?_)
      have T13 := tp_eq e14 T9
      cases hf
      exact r_ret T13 dX2_addStep_47 rfl
theorem qf_X2_beAsUntold_23 {X : am_X} {d : Nat} (hd : 1 ≤ d)  {h : am_H} (T : (am_PF 23) h.2.2) {r : am_H} (hf : f_X2_beAsUntold_23  h = some r) : am_GG (am_PF 23) X d 2 false cX2_beAsUntold none 0 [some (.ref 23)] [] (am_SH.take 27, h) (none, (am_SH.take 27, r)) := by
  unfold f_X2_beAsUntold_23 at hf
  obtain ⟨d, rfl⟩ : ∃ e, d = e + 1 := ⟨d - 1, by omega⟩
  refine r_loc dX2_beAsUntold_0 rfl ?_
  obtain ⟨h2, c1, hf⟩ := cal_inv hf
  have g4 := qf_X2_clear_23 (X := X) (d := d) (by omega) T c1
  have T3 : (am_PF 23) h2.2.2 := g4.2
  refine r_virt (pre := []) (rest := []) dX2_beAsUntold_1 ct_2_28 rfl ((sh_tk sh_23 (by decide))) (Nat.le_of_ble_eq_true rfl) (Nat.le_of_ble_eq_true rfl) g4 ?_
  refine r_loc dX2_beAsUntold_4 rfl ?_
  refine r_bipush (v := 14) dX2_beAsUntold_5 rfl ?_
  refine r_iconst (v := 0) dX2_beAsUntold_7 rfl ?_
  obtain ⟨h6, c5, hf⟩ := cal_inv hf
  have g8 := qf_X2_addStep_23 (X := X) (d := d) (by omega) 14 0 T3 c5
  have T7 : (am_PF 23) h6.2.2 := g8.2
  refine r_virt (pre := [.int 0, .int 14]) (rest := []) dX2_beAsUntold_8 ct_2_31 rfl ((sh_tk sh_23 (by decide))) (Nat.le_of_ble_eq_true rfl) (Nat.le_of_ble_eq_true rfl) g8 ?_
  refine r_loc dX2_beAsUntold_11 rfl ?_
  refine r_bipush (v := 16) dX2_beAsUntold_12 rfl ?_
  refine r_iconst (v := 0) dX2_beAsUntold_14 rfl ?_
  obtain ⟨h10, c9, hf⟩ := cal_inv hf
  have g12 := qf_X2_addStep_23 (X := X) (d := d) (by omega) 16 0 T7 c9
  have T11 : (am_PF 23) h10.2.2 := g12.2
  refine r_virt (pre := [.int 0, .int 16]) (rest := []) dX2_beAsUntold_15 ct_2_31 rfl ((sh_tk sh_23 (by decide))) (Nat.le_of_ble_eq_true rfl) (Nat.le_of_ble_eq_true rfl) g12 ?_
  refine r_loc dX2_beAsUntold_18 rfl ?_
  refine r_bipush (v := 25) dX2_beAsUntold_19 rfl ?_
  refine r_iconst (v := 0) dX2_beAsUntold_21 rfl ?_
  obtain ⟨h14, c13, hf⟩ := cal_inv hf
  have g16 := qf_X2_addStep_23 (X := X) (d := d) (by omega) 25 0 T11 c13
  have T15 : (am_PF 23) h14.2.2 := g16.2
  refine r_virt (pre := [.int 0, .int 25]) (rest := []) dX2_beAsUntold_22 ct_2_31 rfl ((sh_tk sh_23 (by decide))) (Nat.le_of_ble_eq_true rfl) (Nat.le_of_ble_eq_true rfl) g16 ?_
  cases hf
  exact r_ret T15 dX2_beAsUntold_25 rfl
def lp_cX7_init_82 (s0 : Nat) : Nat → Int32 → am_H → Option (am_H)
  | 0, _, _ => none
  | n + 1, x2, h => if x2 < 8 then chk (am_PSb s0 h.2.2 = true) (cal (f_X7_remove s0 x2 h) fun h21 => lp_cX7_init_82 s0 n (x2 + 1) h21) else some h
def f_cX7_init (s0 : Nat) (h : am_H) : Option (am_H) := nwH h (s0 + 1) fun h1 => ptR h1 s0 1 (s0 + 1) fun h2 => nwH h2 (s0 + 2) fun h3 => ptR h3 s0 2 (s0 + 2) fun h4 => nwH h4 (s0 + 3) fun h5 => ptR h5 s0 3 (s0 + 3) fun h6 => nwH h6 (s0 + 4) fun h7 => ptR h7 s0 4 (s0 + 4) fun h8 => nwH h8 (s0 + 5) fun h9 => ptR h9 s0 5 (s0 + 5) fun h10 => nwH h10 (s0 + 6) fun h11 => ptR h11 s0 6 (s0 + 6) fun h12 => nwH h12 (s0 + 7) fun h13 => ptR h13 s0 7 (s0 + 7) fun h14 => ptI h14 s0 8 0 fun h15 => ptI h15 s0 9 0 fun h16 => ptI h16 s0 10 0 fun h17 => ptR h17 s0 0 4 fun h18 => lp_cX7_init_82 s0  4000 0 h18
theorem rl_cX7_init_82 {X : am_X} {d : Nat} (hd : 1 ≤ d) (s0 : Nat) (hs0 : s0 ∈ am_ST) {r : am_H} : ∀ (n : Nat) (x2 : Int32) (h : am_H), am_N0 h.2.2 → lp_cX7_init_82 s0 n x2 h = some r → am_GG am_N0 X d 7 true cX7_init none 82 [some (.ref s0), none, some (.int x2)] [] (am_SH.take (s0 + 8), h) (none, (am_SH.take (s0 + 8), r)) := by
  obtain ⟨d, rfl⟩ : ∃ e, d = e + 1 := ⟨d - 1, by omega⟩
  intro n
  induction n with
  | zero => intro x2 h T hf; cases hf
  | succ n ih =>
    intro x2 h T hf
    rw [lp_cX7_init_82] at hf
    refine r_loc dX7_init_82 rfl ?_
    refine r_bipush (v := 8) dX7_init_83 rfl ?_
    refine r_ge (q := 99) dX7_init_85 rfl hf (fun hf => ?_) (fun hf => ?_)
    · cases hf
      exact r_ret T dX7_init_99 rfl
    · refine r_loc dX7_init_88 rfl ?_
      refine r_loc dX7_init_89 rfl ?_
      obtain ⟨Tp, hf⟩ := chk_inv hf
      have oS : am_oS (am_SH.take (s0 + 8)) s0 := am_oS_tk hs0 (by omega)
      obtain ⟨h21, c19, hf⟩ := cal_inv hf
      have g20 := am_GG_N0 (qf_X7_remove (X := X) (d := d) (by omega) s0 x2 oS (am_PS_ok Tp) c19)
      refine r_virt (pre := [.int x2]) (rest := []) dX7_init_90 ct_7_47 rfl (sh_tk (sh_S hs0) (by omega)) (Nat.le_of_ble_eq_true rfl) (Nat.le_of_ble_eq_true rfl) g20 ?_
      refine r_loc (L' := [some (.ref s0), none, some (.int (x2 + 1))]) dX7_init_93 rfl ?_
      refine r_goto (q := 82) dX7_init_96 rfl ?_
      exact ih (x2 + 1) h21 trivial hf
theorem rf_cX7_init {X : am_X} {d : Nat} (hd : 1 ≤ d) (s0 : Nat) (hs0 : s0 ∈ am_ST) {h : am_H} (T : am_N0 h.2.2) {r : am_H} (hf : f_cX7_init s0 h = some r) : am_GG am_N0 X d 7 true cX7_init none 0 [some (.ref s0), some (.ref 4), none] [] (am_SH.take (s0 + 1), h) (none, (am_SH.take (s0 + 8), r)) := by
  unfold f_cX7_init at hf
  obtain ⟨d, rfl⟩ : ∃ e, d = e + 1 := ⟨d - 1, by omega⟩
  refine r_loc dX7_init_0 rfl ?_
  refine r_obj dX7_init_1 ct_7_3 (Nat.le_of_ble_eq_true rfl) ?_
  refine r_loc dX7_init_4 rfl ?_
  refine r_bipush (v := 8) dX7_init_5 rfl ?_
  refine r_newar (k := 8) (n2 := (s0 + 2)) dX7_init_7 rfl (by decide) (Nat.le_of_ble_eq_true rfl) (sh_S_1 hs0) rfl hf (fun h1 hf => ?_)
  refine r_putR dX7_init_9 fl_7_9 (sh_tk (sh_S hs0) (by omega)) (Or.inr ⟨_, rfl⟩) (Or.inr ⟨rfl, rfl⟩) hf (fun h2 hf => ?_)
  refine r_loc dX7_init_12 rfl ?_
  refine r_bipush (v := 8) dX7_init_13 rfl ?_
  refine r_newar (k := 8) (n2 := (s0 + 3)) dX7_init_15 rfl (by decide) (Nat.le_of_ble_eq_true rfl) (sh_S_2 hs0) rfl hf (fun h3 hf => ?_)
  refine r_putR dX7_init_17 fl_7_15 (sh_tk (sh_S hs0) (by omega)) (Or.inr ⟨_, rfl⟩) (Or.inr ⟨rfl, rfl⟩) hf (fun h4 hf => ?_)
  refine r_loc dX7_init_20 rfl ?_
  refine r_bipush (v := 8) dX7_init_21 rfl ?_
  refine r_newar (k := 8) (n2 := (s0 + 4)) dX7_init_23 rfl (by decide) (Nat.le_of_ble_eq_true rfl) (sh_S_3 hs0) rfl hf (fun h5 hf => ?_)
  refine r_putR dX7_init_25 fl_7_18 (sh_tk (sh_S hs0) (by omega)) (Or.inr ⟨_, rfl⟩) (Or.inr ⟨rfl, rfl⟩) hf (fun h6 hf => ?_)
  refine r_loc dX7_init_28 rfl ?_
  refine r_bipush (v := 8) dX7_init_29 rfl ?_
  refine r_newar (k := 8) (n2 := (s0 + 5)) dX7_init_31 rfl (by decide) (Nat.le_of_ble_eq_true rfl) (sh_S_4 hs0) rfl hf (fun h7 hf => ?_)
  refine r_putR dX7_init_33 fl_7_21 (sh_tk (sh_S hs0) (by omega)) (Or.inr ⟨_, rfl⟩) (Or.inr ⟨rfl, rfl⟩) hf (fun h8 hf => ?_)
  refine r_loc dX7_init_36 rfl ?_
  refine r_bipush (v := 8) dX7_init_37 rfl ?_
  refine r_newar (k := 8) (n2 := (s0 + 6)) dX7_init_39 rfl (by decide) (Nat.le_of_ble_eq_true rfl) (sh_S_5 hs0) rfl hf (fun h9 hf => ?_)
  refine r_putR dX7_init_41 fl_7_24 (sh_tk (sh_S hs0) (by omega)) (Or.inr ⟨_, rfl⟩) (Or.inr ⟨rfl, rfl⟩) hf (fun h10 hf => ?_)
  refine r_loc dX7_init_44 rfl ?_
  refine r_bipush (v := 8) dX7_init_45 rfl ?_
  refine r_newar (k := 8) (n2 := (s0 + 7)) dX7_init_47 rfl (by decide) (Nat.le_of_ble_eq_true rfl) (sh_S_6 hs0) rfl hf (fun h11 hf => ?_)
  refine r_putR dX7_init_49 fl_7_27 (sh_tk (sh_S hs0) (by omega)) (Or.inr ⟨_, rfl⟩) (Or.inr ⟨rfl, rfl⟩) hf (fun h12 hf => ?_)
  refine r_loc dX7_init_52 rfl ?_
  refine r_bipush (v := 8) dX7_init_53 rfl ?_
  refine r_newar (k := 8) (n2 := (s0 + 8)) dX7_init_55 rfl (by decide) (Nat.le_of_ble_eq_true rfl) (sh_S_7 hs0) rfl hf (fun h13 hf => ?_)
  refine r_putR dX7_init_57 fl_7_30 (sh_tk (sh_S hs0) (by omega)) (Or.inr ⟨_, rfl⟩) (Or.inr ⟨rfl, rfl⟩) hf (fun h14 hf => ?_)
  refine r_loc dX7_init_60 rfl ?_
  refine r_iconst (v := 0) dX7_init_61 rfl ?_
  refine r_putIc dX7_init_62 fl_7_33 (sh_tk (sh_S hs0) (by omega)) ⟨rfl, rfl⟩ hf (fun h15 hf => ?_)
  refine r_loc dX7_init_65 rfl ?_
  refine r_iconst (v := 0) dX7_init_66 rfl ?_
  refine r_putIc dX7_init_67 fl_7_37 (sh_tk (sh_S hs0) (by omega)) ⟨rfl, rfl⟩ hf (fun h16 hf => ?_)
  refine r_loc dX7_init_70 rfl ?_
  refine r_iconst (v := 0) dX7_init_71 rfl ?_
  refine r_putIc dX7_init_72 fl_7_40 (sh_tk (sh_S hs0) (by omega)) ⟨rfl, rfl⟩ hf (fun h17 hf => ?_)
  refine r_loc dX7_init_75 rfl ?_
  refine r_loc dX7_init_76 rfl ?_
  refine r_putR dX7_init_77 fl_7_43 (sh_tk (sh_S hs0) (by omega)) (Or.inl ⟨_, rfl⟩) (Or.inr ⟨rfl, rfl⟩) hf (fun h18 hf => ?_)
  refine r_iconst (v := 0) dX7_init_80 rfl ?_
  refine r_loc (L' := [some (.ref s0), some (.ref 4), some (.int 0)]) dX7_init_81 rfl ?_
  refine r_weak (L := [some (.ref s0), none, some (.int 0)]) (am_le_s (am_le_n (am_le_s am_le_0))) ?_
  refine rl_cX7_init_82 (by omega) s0 hs0  4000 0 h18 trivial hf
