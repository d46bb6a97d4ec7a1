/-! THE START: the world at the law's entry, out of the tables' words; what then is owed of f_L_law alone -/
theorem st_in1 {w : Cond} (h : w ∈ tables_1_1) : w ∈ lw_tbl := List.mem_append_right _ (List.mem_append_left _ h)
theorem st_in2 {w : Cond} (h : w ∈ tables_1_2) : w ∈ lw_tbl := List.mem_append_right _ (List.mem_append_right _ (List.mem_append_left _ h))
theorem st_in5 {w : Cond} (h : w ∈ tables_1_5) : w ∈ lw_tbl := List.mem_append_right _ (List.mem_append_right _ (List.mem_append_right _ (List.mem_append_right _ (List.mem_append_right _ (List.mem_append_left _ h)))))
theorem st_T {w : Cond} (h : w ∈ am_T) : w ∈ lw_tbl := (List.mem_filter.mp h).1
theorem st_inst (ci : Nat) (h : ci < 12) : Cond.instantiable (am_nm ci) (am_N ci) ∈ lw_tbl := match ci, h with
  | 0, _ => st_in2 (List.mem_of_getElem? (i := 113) rfl)
  | 1, _ => st_in2 (List.mem_of_getElem? (i := 134) rfl)
  | 2, _ => st_in1 (List.mem_of_getElem? (i := 128) rfl)
  | 3, _ => st_in2 (List.mem_of_getElem? (i := 175) rfl)
  | 4, _ => st_in1 (List.mem_of_getElem? (i := 122) rfl)
  | 5, _ => st_in1 (List.mem_of_getElem? (i := 229) rfl)
  | 6, _ => st_in2 (List.mem_of_getElem? (i := 25) rfl)
  | 7, _ => st_in2 (List.mem_of_getElem? (i := 150) rfl)
  | 8, _ => st_in1 (List.mem_of_getElem? (i := 30) rfl)
  | 9, _ => st_in2 (List.mem_of_getElem? (i := 91) rfl)
  | 10, _ => st_in1 (List.mem_of_getElem? (i := 22) rfl)
  | 11, _ => st_in5 (List.mem_of_getElem? (i := 163) rfl)
  | n + 12, h => absurd h (by omega)
theorem st_cls {s : State} {args : Array Value} (hts : ∀ w ∈ lw_tbl, w.before args s = true) : ∃ D : va_G, ∀ (c : Nat) (q : vw_C), vwCl[c]? = some q → u_Kn s q.1 q.2.1 q.2.2 (D.1 c) (D.2 c) := by
  have h : ∀ c : Nat, ∃ r : ClassId × (Nat → Nat), ∀ q : vw_C, vwCl[c]? = some q → u_Kn s q.1 q.2.1 q.2.2 r.1 r.2 := by
    intro c
    by_cases hc : c < 12
    · obtain ⟨h1, h2, -⟩ := am_cls c hc
      obtain ⟨cC, iS, hk⟩ := u_known (ws := am_T) (fun w hw => hts w (st_T hw)) h2 (hts _ (st_inst c hc))
      exact ⟨(cC, iS), fun q hq => by rw [h1] at hq; cases hq; exact hk⟩
    · exact ⟨(0, fun _ => 0), fun q hq => absurd (List.getElem?_eq_some_iff.mp hq).1 (by show ¬ c < 12; exact hc)⟩
  obtain ⟨f, hf⟩ := Classical.axiomOfChoice h
  exact ⟨(fun c => (f c).1, fun c => (f c).2), hf⟩
theorem st_arr {s : State} {args : Array Value} {ty : FieldType} (h : (Cond.arrayClass ty).before args s = true) : ∃ c : ClassId, ArrOfT s c ty ∧ s.vm.findClass ("[" ++ ty.toString) = some c := by
  obtain ⟨c, k, comp, h1, h2, h3⟩ := Cond.arrayClass_spec h
  exact ⟨c, fun n z => ⟨(fun k h => by cases h), k, h2, comp, h3⟩, h1⟩
theorem st_arro {s : State} {args : Array Value} {C : String} (h : (Cond.arrayOver (.object C)).before args s = true) : ∃ c : ClassId, ArrOfT s c (.object C) ∧ va_RA s c (.object C) := by
  obtain ⟨comp, c, k, h1, -, h2, h3, h4⟩ := Cond.arrayOver_spec h
  exact ⟨c, fun n z => ⟨(fun k h => by cases h), k, h2, comp, h3⟩, k, comp, h2, h3, h1, h4⟩
theorem st_K {s : State} {args : Array Value} (hts : ∀ w ∈ lw_tbl, w.before args s = true) : ∃ (tc : FieldType → ClassId) (D : va_G), va_K D vwCl (am_tys tc) s := by
  obtain ⟨D, hD⟩ := st_cls hts
  obtain ⟨cI, i1, i2⟩ := st_arr (hts _ (st_T am_fa_int))
  obtain ⟨cL, l1, l2⟩ := st_arr (hts _ (st_T am_fa_long))
  obtain ⟨cB, b1, b2⟩ := st_arr (hts _ (st_T am_fa_byte))
  obtain ⟨cZ, z1, z2⟩ := st_arr (hts _ (st_T am_fa_boolean))
  obtain ⟨cO, o1, o2⟩ := st_arro (C := RX7) (hts _ (st_in2 (List.mem_of_getElem? (i := 119) rfl)))
  refine ⟨fun ty => match ty with
    | .int => cI
    | .long => cL
    | .byte => cB
    | .boolean => cZ
    | _ => cO, D, hD, fun k q hk => ?_⟩
  match k, hk with
  | 0, hk => cases hk; exact ⟨i1, i2⟩
  | 1, hk => cases hk; exact ⟨l1, l2⟩
  | 2, hk => cases hk; exact ⟨b1, b2⟩
  | 3, hk => cases hk; exact ⟨z1, z2⟩
  | 4, hk => cases hk; exact ⟨o1, o2⟩
  | k + 5, hk => exact absurd (List.getElem?_eq_some_iff.mp hk).1 (by simp [am_tys])
/-- the words of narrow_1 on the text's bytes, by their place -/
def st_bw (j : Nat) : Cond := Cond.eq (.elem (.field (.string RX9 39) "java/lang/String" "value" "[B") (.int (Int32.ofNat j))) (.int (am_byt.getD j 0))
theorem st_by {s : State} {args : Array Value} (hgv : (Cond.and given_1 narrow_1).before args s = true) : ∀ j : Nat, j < 91 → (st_bw j).before args s = true := by
  have h : ∀ j : Fin 91, st_bw j.val ∈ flatC (Cond.and given_1 narrow_1) := by decide +kernel
  exact fun j hj => flat_of_before _ hgv _ (h ⟨j, hj⟩)
theorem st_SF {s : State} {args : Array Value} (hts : ∀ w ∈ lw_tbl, w.before args s = true) (hgv : (Cond.and given_1 narrow_1).before args s = true) : ∃ sa : Nat, am_SF s.heap.size sa s s.heap := by
  have hA : ∀ a : Nat, a < s.heap.size → ¬ (fun q => s.heap.size ≤ q) a := fun a ha => Nat.not_le.mpr ha
  have hf := flat_of_before _ hgv
  obtain ⟨adK, adV, h1, h2⟩ := vk_Sof (args := args) (s := s) (N := 1) (tm := fun _ => Term.string RX9 39) (len := [91]) (byt := [am_byt]) (A := fun q => s.heap.size ≤ q)
    (fun i hi => by cases i with
      | zero => decide
      | succ n => omega)
    (fun i hi => hf _ (by decide +kernel)) (fun i hi => hf _ (by decide +kernel)) (fun i hi => hf _ (by decide +kernel))
    (fun i hi => by cases i with
      | zero => exact hf _ (by decide +kernel)
      | succ n => omega)
    (fun i hi j hj => by cases i with
      | zero => exact st_by hgv j hj
      | succ n => omega)
    (fun i j hi hj hij => by omega) hA
  have h0 := h2 0 (by decide)
  refine ⟨adK 0, vk_R.of (hts _ (st_in1 (List.mem_of_getElem? (i := 35) rfl))) h0, ⟨adV, ?_⟩, ?_, ?_⟩
  · refine ⟨fun i hi => ?_, fun i j hi hj _ => by omega⟩
    have hi0 : i = 0 := by omega
    subst hi0
    exact h1.1 0 (by decide)
  · exact va_Zof (hts _ (st_in1 (List.mem_of_getElem? (i := 45) rfl))) (hts _ (st_in1 (List.mem_of_getElem? (i := 3) rfl))) (va_eqi (hf _ (by decide +kernel))) hA
  · exact va_Zqof (hts _ (st_in1 (List.mem_of_getElem? (i := 61) rfl))) (hts _ (st_in1 (List.mem_of_getElem? (i := 5) rfl))) (hf _ (by decide +kernel)) hA
theorem st_RO {s : State} {args : Array Value} {b : Nat} {X : am_X} (hts : ∀ w ∈ lw_tbl, w.before args s = true) (hgv : (Cond.and given_1 narrow_1).before args s = true) (hX : va_X b X.1 X.2 s s.heap) (hb : b < s.heap.size) : ∃ sa : Nat, am_RO X s.heap.size b sa s s.heap := by
  obtain ⟨sa, h⟩ := st_SF hts hgv
  exact ⟨sa, hX, hb, Nat.le_refl _, va_AO.of (hts _ (st_in2 (List.mem_of_getElem? (i := 119) rfl))), va_Nw.of rfl (hts _ (st_in1 (List.mem_of_getElem? (i := 129) rfl))), h⟩
theorem st_tot : am_tot (am_SH, (am_hE).1, (am_hE).2.1, (am_hE).2.2) ≤ 7302250 := by decide +kernel
theorem st_len : am_SH.length ≤ 600000 := by decide +kernel
def am_Math : Prop := ∀ (X : am_X) (h0 : am_H), X.1 ≤ 3072 → am_ctor am_hE = some h0 → am_okh h0 = true → ∃ h, f_L_law X h0 = some (1, h)
theorem st_run (hM : am_Math) (X : am_X) (hL : X.1 ≤ 3072) : ∃ h : am_H, f_cL_law X am_hE = some (1, h) := by
  obtain ⟨h0, e1, e2⟩ := am_h0
  obtain ⟨h, e⟩ := hM X h0 hL e1 e2
  have ht : am_TPb h0.2.2 = true := by
    simp only [am_okh, Bool.and_eq_true] at e2
    exact e2.1.1.1.1
  exact ⟨h, by rw [f_cL_law_eq e1 ht]; exact e⟩
set_option maxHeartbeats 4000000 in
theorem st_whole (hM : am_Math) {p : Program} {e : Env} {s : State} {m : MethodId} {below : List Frame} {meth : Method} {c : Code} (l : Launch) {b L : Nat} {xs : Nat → Int32} (hL : L ≤ 3072) (C0 : lw_At p s m meth c b L xs) : W p l e room_1 s m #[Value.ref b] below meth c s.heap [] 0 0 (lw_Z below #[Value.ref b] s) (entryFrame m ([Value.ref b] : List Value).toArray 4) := by
  obtain ⟨hx, hb, hr, hml, hown, hts, hX, hbl, hlocks, hgv⟩ := C0
  obtain ⟨tc, D, hK⟩ := st_K hts
  obtain ⟨sa, hRO⟩ := st_RO (X := (L, xs)) hts hgv hX hbl
  obtain ⟨h, hf⟩ := st_run hM (L, xs) hL
  obtain ⟨⟨n, hrun⟩, -⟩ := rf_cL_law (X := (L, xs)) (d := 1000) (by decide) (h := am_hE) trivial hf
  have C : am_Cx p s m #[Value.ref b] meth c (L, xs) tc D s.heap.size b sa 13 false cL_law (some .boolean) 4 0 := ⟨hx, hb, hr, hml, hown, fun w hw => hts w (st_T hw), hK, fun h => (by cases h), hRO, rfl⟩
  have hl : am_LR s.heap.size b sa ((lg_sl ([.ref b] : List Value) ++ List.replicate (4 - (lg_sl ([.ref b] : List Value)).length) Slot.unset).toArray) 4 [some (.retAddr 0), none, none, none] := am_ent_LR (bs := s.heap.size) (b := b) (sa := sa) (as := [.retAddr 0]) (n := 4) (Nat.le_of_ble_eq_true rfl)
  rw [lg_entry_eq]
  have key := am_sound (l := l) am_str n 1000 13 false cL_law (some .boolean) 0 [some (.retAddr 0), none, none, none] [] (am_SH.take 0, am_hE) (some (.int 1), (am_SH, h)) hrun p e room_1 s m #[Value.ref b] below meth c tc D s.heap.size b sa 4 0 0 (lw_Z below #[Value.ref b] s) _ C hl (Nat.zero_le _) (Nat.zero_le _) ⟨by rw [Nat.zero_add]; exact st_len, by rw [Nat.zero_add]; exact st_tot⟩ (by decide) (by decide) ?_ s.heap [] (fun k q hk => by simp [am_wl] at hk) va_S.rf
  · exact key
  · intro pc' ls' he H locs hP' hS'
    obtain ⟨ty, e1, e2, e3⟩ := he
    refine va_forget hS'.2.2 (W.widen (k := 600000) (n := 7302250) (by rw [Nat.sub_zero]; exact st_len) (by rw [Nat.sub_zero]; exact st_tot) ?_)
    exact lw_ret hx hb hr hlocks e3
