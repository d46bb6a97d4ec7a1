theorem dJ0_length_8abf5_0 : decode cJ0_length_8abf5 0 = .ok (.aload_n 0, 1) := by decide +kernel
theorem dJ0_length_8abf5_1 : decode cJ0_length_8abf5 1 = .ok (.getfield 9, 3) := by decide +kernel
theorem dJ0_length_8abf5_4 : decode cJ0_length_8abf5 4 = .ok (.arraylength, 1) := by decide +kernel
theorem dJ0_length_8abf5_5 : decode cJ0_length_8abf5 5 = .ok (.aload_n 0, 1) := by decide +kernel
theorem dJ0_length_8abf5_6 : decode cJ0_length_8abf5 6 = .ok (.invokevirtual 335, 3) := by decide +kernel
theorem dJ0_length_8abf5_9 : decode cJ0_length_8abf5 9 = .ok (.ishr, 1) := by decide +kernel
theorem dJ0_length_8abf5_10 : decode cJ0_length_8abf5 10 = .ok (.ireturn, 1) := by decide +kernel
theorem dJ0_charAt_5068e_0 : decode cJ0_charAt_5068e 0 = .ok (.aload_n 0, 1) := by decide +kernel
theorem dJ0_charAt_5068e_1 : decode cJ0_charAt_5068e 1 = .ok (.invokevirtual 492, 3) := by decide +kernel
theorem dJ0_charAt_5068e_4 : decode cJ0_charAt_5068e 4 = .ok (.ifCond .eq 12, 3) := by decide +kernel
theorem dJ0_charAt_5068e_7 : decode cJ0_charAt_5068e 7 = .ok (.aload_n 0, 1) := by decide +kernel
theorem dJ0_charAt_5068e_8 : decode cJ0_charAt_5068e 8 = .ok (.getfield 9, 3) := by decide +kernel
theorem dJ0_charAt_5068e_11 : decode cJ0_charAt_5068e 11 = .ok (.iload_n 1, 1) := by decide +kernel
theorem dJ0_charAt_5068e_12 : decode cJ0_charAt_5068e 12 = .ok (.invokestatic 495, 3) := by decide +kernel
theorem dJ0_charAt_5068e_15 : decode cJ0_charAt_5068e 15 = .ok (.ireturn, 1) := by decide +kernel
theorem dJ0_charAt_5068e_16 : decode cJ0_charAt_5068e 16 = .ok (.aload_n 0, 1) := by decide +kernel
theorem dJ0_charAt_5068e_17 : decode cJ0_charAt_5068e 17 = .ok (.getfield 9, 3) := by decide +kernel
theorem dJ0_charAt_5068e_20 : decode cJ0_charAt_5068e 20 = .ok (.iload_n 1, 1) := by decide +kernel
theorem dJ0_charAt_5068e_21 : decode cJ0_charAt_5068e 21 = .ok (.invokestatic 498, 3) := by decide +kernel
theorem dJ0_charAt_5068e_24 : decode cJ0_charAt_5068e 24 = .ok (.ireturn, 1) := by decide +kernel
theorem dJ0_coder_7d493_0 : decode cJ0_coder_7d493 0 = .ok (.getstatic 38, 3) := by decide +kernel
theorem dJ0_coder_7d493_3 : decode cJ0_coder_7d493 3 = .ok (.ifCond .eq 10, 3) := by decide +kernel
theorem dJ0_coder_7d493_6 : decode cJ0_coder_7d493 6 = .ok (.aload_n 0, 1) := by decide +kernel
theorem dJ0_coder_7d493_7 : decode cJ0_coder_7d493 7 = .ok (.getfield 15, 3) := by decide +kernel
theorem dJ0_coder_7d493_10 : decode cJ0_coder_7d493 10 = .ok (.goto 4, 3) := by decide +kernel
theorem dJ0_coder_7d493_13 : decode cJ0_coder_7d493 13 = .ok (.iconst 1, 1) := by decide +kernel
theorem dJ0_coder_7d493_14 : decode cJ0_coder_7d493 14 = .ok (.ireturn, 1) := by decide +kernel
theorem dJ0_isLatin1_aae02_0 : decode cJ0_isLatin1_aae02 0 = .ok (.getstatic 38, 3) := by decide +kernel
theorem dJ0_isLatin1_aae02_3 : decode cJ0_isLatin1_aae02 3 = .ok (.ifCond .eq 14, 3) := by decide +kernel
theorem dJ0_isLatin1_aae02_6 : decode cJ0_isLatin1_aae02 6 = .ok (.aload_n 0, 1) := by decide +kernel
theorem dJ0_isLatin1_aae02_7 : decode cJ0_isLatin1_aae02 7 = .ok (.getfield 15, 3) := by decide +kernel
theorem dJ0_isLatin1_aae02_10 : decode cJ0_isLatin1_aae02 10 = .ok (.ifCond .ne 7, 3) := by decide +kernel
theorem dJ0_isLatin1_aae02_13 : decode cJ0_isLatin1_aae02 13 = .ok (.iconst 1, 1) := by decide +kernel
theorem dJ0_isLatin1_aae02_14 : decode cJ0_isLatin1_aae02 14 = .ok (.goto 4, 3) := by decide +kernel
theorem dJ0_isLatin1_aae02_17 : decode cJ0_isLatin1_aae02 17 = .ok (.iconst 0, 1) := by decide +kernel
theorem dJ0_isLatin1_aae02_18 : decode cJ0_isLatin1_aae02 18 = .ok (.ireturn, 1) := by decide +kernel
theorem dJ0_checkIndex_df160_0 : decode cJ0_checkIndex_df160 0 = .ok (.iload_n 0, 1) := by decide +kernel
theorem dJ0_checkIndex_df160_1 : decode cJ0_checkIndex_df160 1 = .ok (.iload_n 1, 1) := by decide +kernel
theorem dJ0_checkIndex_df160_2 : decode cJ0_checkIndex_df160 2 = .ok (.getstatic 1053, 3) := by decide +kernel
theorem dJ0_checkIndex_df160_5 : decode cJ0_checkIndex_df160 5 = .ok (.invokestatic 1059, 3) := by decide +kernel
theorem dJ0_checkIndex_df160_8 : decode cJ0_checkIndex_df160 8 = .ok (.pop, 1) := by decide +kernel
theorem dJ0_checkIndex_df160_9 : decode cJ0_checkIndex_df160 9 = .ok (.return_, 1) := by decide +kernel
theorem dJ1_charAt_3b067_0 : decode cJ1_charAt_3b067 0 = .ok (.iload_n 1, 1) := by decide +kernel
theorem dJ1_charAt_3b067_1 : decode cJ1_charAt_3b067 1 = .ok (.aload_n 0, 1) := by decide +kernel
theorem dJ1_charAt_3b067_2 : decode cJ1_charAt_3b067 2 = .ok (.arraylength, 1) := by decide +kernel
theorem dJ1_charAt_3b067_3 : decode cJ1_charAt_3b067 3 = .ok (.invokestatic 9, 3) := by decide +kernel
theorem dJ1_charAt_3b067_6 : decode cJ1_charAt_3b067 6 = .ok (.aload_n 0, 1) := by decide +kernel
theorem dJ1_charAt_3b067_7 : decode cJ1_charAt_3b067 7 = .ok (.iload_n 1, 1) := by decide +kernel
theorem dJ1_charAt_3b067_8 : decode cJ1_charAt_3b067 8 = .ok (.baload, 1) := by decide +kernel
theorem dJ1_charAt_3b067_9 : decode cJ1_charAt_3b067 9 = .ok (.sipush 255, 3) := by decide +kernel
theorem dJ1_charAt_3b067_12 : decode cJ1_charAt_3b067 12 = .ok (.iand, 1) := by decide +kernel
theorem dJ1_charAt_3b067_13 : decode cJ1_charAt_3b067 13 = .ok (.i2c, 1) := by decide +kernel
theorem dJ1_charAt_3b067_14 : decode cJ1_charAt_3b067 14 = .ok (.ireturn, 1) := by decide +kernel
theorem dJ3_checkIndex_8e157_0 : decode cJ3_checkIndex_8e157 0 = .ok (.iload_n 0, 1) := by decide +kernel
theorem dJ3_checkIndex_8e157_1 : decode cJ3_checkIndex_8e157 1 = .ok (.ifCond .lt 8, 3) := by decide +kernel
theorem dJ3_checkIndex_8e157_4 : decode cJ3_checkIndex_8e157 4 = .ok (.iload_n 0, 1) := by decide +kernel
theorem dJ3_checkIndex_8e157_5 : decode cJ3_checkIndex_8e157 5 = .ok (.iload_n 1, 1) := by decide +kernel
theorem dJ3_checkIndex_8e157_6 : decode cJ3_checkIndex_8e157 6 = .ok (.if_icmp .lt 10, 3) := by decide +kernel
theorem dJ3_checkIndex_8e157_9 : decode cJ3_checkIndex_8e157 9 = .ok (.aload_n 2, 1) := by decide +kernel
theorem dJ3_checkIndex_8e157_10 : decode cJ3_checkIndex_8e157 10 = .ok (.iload_n 0, 1) := by decide +kernel
theorem dJ3_checkIndex_8e157_11 : decode cJ3_checkIndex_8e157 11 = .ok (.iload_n 1, 1) := by decide +kernel
theorem dJ3_checkIndex_8e157_12 : decode cJ3_checkIndex_8e157 12 = .ok (.invokestatic 95, 3) := by decide +kernel
theorem dJ3_checkIndex_8e157_15 : decode cJ3_checkIndex_8e157 15 = .ok (.athrow, 1) := by decide +kernel
theorem dJ3_checkIndex_8e157_16 : decode cJ3_checkIndex_8e157 16 = .ok (.iload_n 0, 1) := by decide +kernel
theorem dJ3_checkIndex_8e157_17 : decode cJ3_checkIndex_8e157 17 = .ok (.ireturn, 1) := by decide +kernel
/-! String.length and String.charAt on the text of Tape: the JDK's own bytecode (by program: wip/whole/mk17.py) -/
theorem sg_len : Cond.code yJ0_length_8abf5 cJ0_length_8abf5 1 (some .int) ∈ am_T ∧ Cond.initialized yJ0_length_8abf5.cls ∈ am_T ∧ Cond.instanceMethod yJ0_length_8abf5 ∈ am_T ∧ Cond.selects yJ0_length_8abf5.cls yJ0_length_8abf5 yJ0_length_8abf5 ∈ am_T := ⟨(am_t1 (List.mem_of_getElem? (i := 39) rfl) rfl), (am_t1 (List.mem_of_getElem? (i := 3) rfl) rfl), ⟨(am_t1 (List.mem_of_getElem? (i := 37) rfl) rfl), (am_t1 (List.mem_of_getElem? (i := 38) rfl) rfl)⟩⟩
theorem sg_chr : Cond.code yJ0_charAt_5068e cJ0_charAt_5068e 2 (some .char) ∈ am_T ∧ Cond.initialized yJ0_charAt_5068e.cls ∈ am_T ∧ Cond.instanceMethod yJ0_charAt_5068e ∈ am_T ∧ Cond.selects yJ0_charAt_5068e.cls yJ0_charAt_5068e yJ0_charAt_5068e ∈ am_T := ⟨(am_t1 (List.mem_of_getElem? (i := 49) rfl) rfl), (am_t1 (List.mem_of_getElem? (i := 3) rfl) rfl), ⟨(am_t1 (List.mem_of_getElem? (i := 47) rfl) rfl), (am_t1 (List.mem_of_getElem? (i := 48) rfl) rfl)⟩⟩
theorem sg_cod : Cond.code yJ0_coder_7d493 cJ0_coder_7d493 1 (some .byte) ∈ am_T ∧ Cond.initialized yJ0_coder_7d493.cls ∈ am_T ∧ Cond.instanceMethod yJ0_coder_7d493 ∈ am_T ∧ Cond.selects yJ0_coder_7d493.cls yJ0_coder_7d493 yJ0_coder_7d493 ∈ am_T := ⟨(am_t1 (List.mem_of_getElem? (i := 43) rfl) rfl), (am_t1 (List.mem_of_getElem? (i := 3) rfl) rfl), ⟨(am_t1 (List.mem_of_getElem? (i := 41) rfl) rfl), (am_t1 (List.mem_of_getElem? (i := 42) rfl) rfl)⟩⟩
theorem sg_lat : Cond.code yJ0_isLatin1_aae02 cJ0_isLatin1_aae02 1 (some .boolean) ∈ am_T ∧ Cond.initialized yJ0_isLatin1_aae02.cls ∈ am_T ∧ Cond.instanceMethod yJ0_isLatin1_aae02 ∈ am_T ∧ Cond.selects yJ0_isLatin1_aae02.cls yJ0_isLatin1_aae02 yJ0_isLatin1_aae02 ∈ am_T := ⟨(am_t1 (List.mem_of_getElem? (i := 53) rfl) rfl), (am_t1 (List.mem_of_getElem? (i := 3) rfl) rfl), ⟨(am_t1 (List.mem_of_getElem? (i := 51) rfl) rfl), (am_t1 (List.mem_of_getElem? (i := 52) rfl) rfl)⟩⟩
theorem sg_ci0 : Cond.code yJ0_checkIndex_df160 cJ0_checkIndex_df160 2 none ∈ am_T ∧ Cond.initialized yJ0_checkIndex_df160.cls ∈ am_T ∧ Cond.static yJ0_checkIndex_df160 ∈ am_T := ⟨(am_t1 (List.mem_of_getElem? (i := 59) rfl) rfl), (am_t1 (List.mem_of_getElem? (i := 3) rfl) rfl), (am_t1 (List.mem_of_getElem? (i := 58) rfl) rfl)⟩
theorem sg_lch : Cond.code yJ1_charAt_3b067 cJ1_charAt_3b067 2 (some .char) ∈ am_T ∧ Cond.initialized yJ1_charAt_3b067.cls ∈ am_T ∧ Cond.static yJ1_charAt_3b067 ∈ am_T := ⟨(am_t1 (List.mem_of_getElem? (i := 56) rfl) rfl), (am_t1 (List.mem_of_getElem? (i := 4) rfl) rfl), (am_t1 (List.mem_of_getElem? (i := 55) rfl) rfl)⟩
theorem sg_ci3 : Cond.code yJ3_checkIndex_8e157 cJ3_checkIndex_8e157 3 (some .int) ∈ am_T ∧ Cond.initialized yJ3_checkIndex_8e157.cls ∈ am_T ∧ Cond.static yJ3_checkIndex_8e157 ∈ am_T := ⟨(am_t1 (List.mem_of_getElem? (i := 64) rfl) rfl), (am_t1 (List.mem_of_getElem? (i := 5) rfl) rfl), (am_t1 (List.mem_of_getElem? (i := 63) rfl) rfl)⟩
theorem sl_len : Cond.methodLink RX9 41 yJ0_length_8abf5 ∈ am_T := (am_t1 (List.mem_of_getElem? (i := 36) rfl) rfl)
theorem sl_chr : Cond.methodLink RX9 46 yJ0_charAt_5068e ∈ am_T := (am_t1 (List.mem_of_getElem? (i := 46) rfl) rfl)
theorem sl_cod : Cond.methodLink RJ0 335 yJ0_coder_7d493 ∈ am_T := (am_t1 (List.mem_of_getElem? (i := 40) rfl) rfl)
theorem sl_lat : Cond.methodLink RJ0 492 yJ0_isLatin1_aae02 ∈ am_T := (am_t1 (List.mem_of_getElem? (i := 50) rfl) rfl)
theorem sl_lch : Cond.methodLink RJ0 495 yJ1_charAt_3b067 ∈ am_T := (am_t1 (List.mem_of_getElem? (i := 54) rfl) rfl)
theorem sl_ci0 : Cond.methodLink RJ1 9 yJ0_checkIndex_df160 ∈ am_T := (am_t1 (List.mem_of_getElem? (i := 57) rfl) rfl)
theorem sl_ci3 : Cond.methodLink RJ0 1059 yJ3_checkIndex_8e157 ∈ am_T := (am_t1 (List.mem_of_getElem? (i := 62) rfl) rfl)
theorem sf_val : Cond.fieldLink RJ0 9 "java/lang/String" "value" "[B" ∈ am_T := (am_t8 (List.mem_of_getElem? (i := 146) rfl) rfl)
theorem sf_csz : Cond.fieldLink RJ0 38 "java/lang/String" "COMPACT_STRINGS" "Z" ∈ am_T := (am_t1 (List.mem_of_getElem? (i := 44) rfl) rfl)
theorem sf_cdr : Cond.fieldLink RJ0 15 "java/lang/String" "coder" "B" ∈ am_T := (am_t8 (List.mem_of_getElem? (i := 147) rfl) rfl)
theorem sf_fmt : Cond.fieldLink RJ0 1053 "jdk/internal/util/Preconditions" "SIOOBE_FORMATTER" "Ljava/util/function/BiFunction;" ∈ am_T := (am_t1 (List.mem_of_getElem? (i := 60) rfl) rfl)
def am_SP (bs sa : Nat) (U : State) : Prop := am_SF bs sa U U.heap ∧ bs ≤ U.heap.size
def am_sw2 (y : MethodName) (cc : ByteArray) (n : Nat) (ret : Option FieldType) : List Cond := Cond.code y cc n ret :: am_T
theorem am_sw2_in {y : MethodName} {cc : ByteArray} {n : Nat} {ret : Option FieldType} (h : Cond.code y cc n ret ∈ am_T) : ∀ w ∈ am_sw2 y cc n ret, w ∈ am_T := fun w hw => by
  rcases List.mem_cons.mp hw with rfl | hw
  · exact h
  · exact hw
theorem am_SPb {bs sa : Nat} {av : List Value} : FrameBlind (va_Pc av (am_SP bs sa)) := by
  intro a U g mk h
  exact ⟨h.1, am_SF.same (s := U) (U := U.calling g mk a) rfl h.2.1, h.2.2⟩
theorem am_SPb2 {bs sa v : Nat} {av : List Value} : FrameBlind (va_Pc av (fun U => am_SP bs sa U ∧ va_T .byte v 91 (fun j => .int (am_byt.getD j 0)) (fun q => bs ≤ q) U U.heap)) := by
  intro a U g mk h
  exact ⟨h.1, ⟨am_SF.same (s := U) (U := U.calling g mk a) rfl h.2.1.1, h.2.1.2⟩, va_T.moved (u := U) (U := U.calling g mk a) (Vm.Alike.refl U.vm) h.2.2⟩
theorem am_chr_ok : ∀ j, j < 91 → am_byt.getD j 0 &&& 255 = am_chr j := by decide +kernel
def am_QN (_ : Array Value) (st : State) (o : Outcome) (t : State) : Prop := o = .returned none ∧ t.heap = st.heap
section SCALL
variable {p : Program} {l : Launch} {e : Env} {R : Room} {s : State} {m : MethodId} {args : Array Value} {below : List Frame} {meth : Method} {c : Code} {H : Heap} {locs : List Loc} {cells slots : Nat} {Q : State → Prop} {g : JFrame} {rest : List Value} {a : Array Value}
theorem am_callN (hr : CallRun p l e R s m args below meth c H locs cells slots 0 0 g rest (am_QN a) (fun _ => False)) (kk : W p l e R s m args below meth c H locs cells slots Q { g with pc := g.pc + 3, stack := rest }) : W p l e R s m args below meth c H locs cells slots Q g := by
  intro T hT X
  obtain ⟨v, st₀, t, T', L, h0, X', hL, e1, ⟨hv, hh⟩, st⟩ := hr T hT X
  cases hv
  obtain ⟨t2, a1, b1⟩ := kk T' (by rw [e1, hh, h0]) (Stand.forget X' (fun q h => (hL q h).elim))
  exact ⟨t2, st t2 a1, b1⟩
end SCALL
def am_rm2 (f lo : Nat) : Room := { frames := f, cells := 0, slots := 0, locals := lo }
set_option maxHeartbeats 4000000 in
theorem sm_cod {l : Launch} {bs sa : Nat} : Met l yJ0_coder_7d493 (am_sw2 yJ0_coder_7d493 cJ0_coder_7d493 1 (some .byte)) (am_rm2 0 0) (va_Pc [.ref sa] (am_SP bs sa)) (QcRead 0) 0 0 (fun _ => False) := by
  refine va_MetF (cc := cJ0_coder_7d493) (maxL := 1) (ret := (some .byte)) (by decide +kernel) rfl ?_
  intro p e s mi args below meth c s₁ B hml hv
  obtain ⟨rfl, hSF, hz⟩ := hv
  have hx := B.exec
  have hb := B.bytes
  have hr := B.returns
  have hlocks := B.notSynchronized
  have hts : ∀ w ∈ am_T, w.before ([.ref sa] : List Value).toArray s = true := fun w hw => atoms_spec (ws := am_sw2 yJ0_coder_7d493 cJ0_coder_7d493 1 (some .byte)) B.pre w (List.mem_cons_of_mem _ hw)
  have hown : s.vm.findClass yJ0_coder_7d493.cls = some mi.cls := findClass_of_methodNamed B.named
  have hS : va_S (fun q => bs ≤ q) s.heap s.heap [] := va_S.rf
  have hl := lv_entry ([.ref sa]) (n := 1) (Nat.le_of_ble_eq_true rfl)
  rw [lg_entry_eq]
  generalize (lg_sl ([.ref sa]) ++ List.replicate (1 - (lg_sl ([.ref sa])).length) Slot.unset).toArray = ls at hl ⊢
  have hl : lv_has ls 1 [(0, .ref sa)] := hl
  obtain ⟨-, ⟨adV, hE⟩, hZ, -⟩ := hSF
  refine va_gets hx hb hZ hS hown (hts _ sf_csz) (fun _ h => h) dJ0_coder_7d493_0 ?_
  refine lv_if_eq (tgt := 13) hx hb dJ0_coder_7d493_3 (by decide) (fun z => absurd z (by decide)) (fun _ => ?_)
  refine lv_aload_n hx hb dJ0_coder_7d493_6 rfl (lv_at hl 0 rfl) ?_
  refine vk_getf hx hb (hE.1 0 (by decide)).2.1 hS hown (hts _ sf_cdr) (fun _ h => h) dJ0_coder_7d493_7 ?_
  refine lv_goto (tgt := 14) hx hb dJ0_coder_7d493_10 (by decide) ?_
  exact W.zret hx hb hr rfl (fun t ht _ => ⟨rfl, ht⟩) (fun q h => by cases h) dJ0_coder_7d493_14
set_option maxHeartbeats 4000000 in
theorem sm_lat {l : Launch} {bs sa : Nat} : Met l yJ0_isLatin1_aae02 (am_sw2 yJ0_isLatin1_aae02 cJ0_isLatin1_aae02 1 (some .boolean)) (am_rm2 0 0) (va_Pc [.ref sa] (am_SP bs sa)) (QcRead 1) 0 0 (fun _ => False) := by
  refine va_MetF (cc := cJ0_isLatin1_aae02) (maxL := 1) (ret := (some .boolean)) (by decide +kernel) rfl ?_
  intro p e s mi args below meth c s₁ B hml hv
  obtain ⟨rfl, hSF, hz⟩ := hv
  have hx := B.exec
  have hb := B.bytes
  have hr := B.returns
  have hlocks := B.notSynchronized
  have hts : ∀ w ∈ am_T, w.before ([.ref sa] : List Value).toArray s = true := fun w hw => atoms_spec (ws := am_sw2 yJ0_isLatin1_aae02 cJ0_isLatin1_aae02 1 (some .boolean)) B.pre w (List.mem_cons_of_mem _ hw)
  have hown : s.vm.findClass yJ0_isLatin1_aae02.cls = some mi.cls := findClass_of_methodNamed B.named
  have hS : va_S (fun q => bs ≤ q) s.heap s.heap [] := va_S.rf
  have hl := lv_entry ([.ref sa]) (n := 1) (Nat.le_of_ble_eq_true rfl)
  rw [lg_entry_eq]
  generalize (lg_sl ([.ref sa]) ++ List.replicate (1 - (lg_sl ([.ref sa])).length) Slot.unset).toArray = ls at hl ⊢
  have hl : lv_has ls 1 [(0, .ref sa)] := hl
  obtain ⟨-, ⟨adV, hE⟩, hZ, -⟩ := hSF
  refine va_gets hx hb hZ hS hown (hts _ sf_csz) (fun _ h => h) dJ0_isLatin1_aae02_0 ?_
  refine lv_if_eq (tgt := 17) hx hb dJ0_isLatin1_aae02_3 (by decide) (fun z => absurd z (by decide)) (fun _ => ?_)
  refine lv_aload_n hx hb dJ0_isLatin1_aae02_6 rfl (lv_at hl 0 rfl) ?_
  refine vk_getf hx hb (hE.1 0 (by decide)).2.1 hS hown (hts _ sf_cdr) (fun _ h => h) dJ0_isLatin1_aae02_7 ?_
  refine lv_if_ne (tgt := 17) hx hb dJ0_isLatin1_aae02_10 (by decide) (fun z => absurd rfl z) (fun _ => ?_)
  refine lv_iconst (v := 1) hx hb dJ0_isLatin1_aae02_13 (by decide) ?_
  refine lv_goto (tgt := 18) hx hb dJ0_isLatin1_aae02_14 (by decide) ?_
  exact W.zret hx hb hr rfl (fun t ht _ => ⟨rfl, ht⟩) (fun q h => by cases h) dJ0_isLatin1_aae02_18
set_option maxHeartbeats 4000000 in
theorem sm_ci3R {l : Launch} {bs sa : Nat} {i n : Int32} {z : Nat} (h0 : ¬ i < 0) (h1 : i < n) : Met l yJ3_checkIndex_8e157 (am_sw2 yJ3_checkIndex_8e157 cJ3_checkIndex_8e157 3 (some .int)) (am_rm2 0 0) (va_Pc [.int i, .int n, .ref z] (am_SP bs sa)) (QcRead i) 0 0 (fun _ => False) := by
  refine va_MetF (cc := cJ3_checkIndex_8e157) (maxL := 3) (ret := (some .int)) (by decide +kernel) rfl ?_
  intro p e s mi args below meth c s₁ B hml hv
  obtain ⟨rfl, hSF, hz⟩ := hv
  have hx := B.exec
  have hb := B.bytes
  have hr := B.returns
  have hlocks := B.notSynchronized
  have hts : ∀ w ∈ am_T, w.before ([.int i, .int n, .ref z] : List Value).toArray s = true := fun w hw => atoms_spec (ws := am_sw2 yJ3_checkIndex_8e157 cJ3_checkIndex_8e157 3 (some .int)) B.pre w (List.mem_cons_of_mem _ hw)
  have hown : s.vm.findClass yJ3_checkIndex_8e157.cls = some mi.cls := findClass_of_methodNamed B.named
  have hS : va_S (fun q => bs ≤ q) s.heap s.heap [] := va_S.rf
  have hl := lv_entry ([.int i, .int n, .ref z]) (n := 3) (Nat.le_of_ble_eq_true rfl)
  rw [lg_entry_eq]
  generalize (lg_sl ([.int i, .int n, .ref z]) ++ List.replicate (3 - (lg_sl ([.int i, .int n, .ref z])).length) Slot.unset).toArray = ls at hl ⊢
  have hl : lv_has ls 3 [(0, .int i), (1, .int n), (2, .ref z)] := hl
  refine lv_iload_n hx hb dJ3_checkIndex_8e157_0 rfl (lv_at hl 0 rfl) ?_
  refine lv_if_lt (tgt := 9) hx hb dJ3_checkIndex_8e157_1 (by decide) (fun z => absurd z h0) (fun _ => ?_)
  refine lv_iload_n hx hb dJ3_checkIndex_8e157_4 rfl (lv_at hl 0 rfl) ?_
  refine lv_iload_n hx hb dJ3_checkIndex_8e157_5 rfl (lv_at hl 1 rfl) ?_
  refine lv_icmp_lt (tgt := 16) hx hb dJ3_checkIndex_8e157_6 (by decide) (fun _ => ?_) (fun z => absurd h1 z)
  refine lv_iload_n hx hb dJ3_checkIndex_8e157_16 rfl (lv_at hl 0 rfl) ?_
  exact W.iret hx hb hr (fun t ht _ => ⟨rfl, ht⟩) (fun q h => by cases h) dJ3_checkIndex_8e157_17
set_option maxHeartbeats 4000000 in
theorem sm_ci3N {l : Launch} {bs sa : Nat} {i n : Int32} (h0 : ¬ i < 0) (h1 : i < n) : Met l yJ3_checkIndex_8e157 (am_sw2 yJ3_checkIndex_8e157 cJ3_checkIndex_8e157 3 (some .int)) (am_rm2 0 0) (va_Pc [.int i, .int n, .null] (am_SP bs sa)) (QcRead i) 0 0 (fun _ => False) := by
  refine va_MetF (cc := cJ3_checkIndex_8e157) (maxL := 3) (ret := (some .int)) (by decide +kernel) rfl ?_
  intro p e s mi args below meth c s₁ B hml hv
  obtain ⟨rfl, hSF, hz⟩ := hv
  have hx := B.exec
  have hb := B.bytes
  have hr := B.returns
  have hlocks := B.notSynchronized
  have hts : ∀ w ∈ am_T, w.before ([.int i, .int n, .null] : List Value).toArray s = true := fun w hw => atoms_spec (ws := am_sw2 yJ3_checkIndex_8e157 cJ3_checkIndex_8e157 3 (some .int)) B.pre w (List.mem_cons_of_mem _ hw)
  have hown : s.vm.findClass yJ3_checkIndex_8e157.cls = some mi.cls := findClass_of_methodNamed B.named
  have hS : va_S (fun q => bs ≤ q) s.heap s.heap [] := va_S.rf
  have hl := lv_entry ([.int i, .int n, .null]) (n := 3) (Nat.le_of_ble_eq_true rfl)
  rw [lg_entry_eq]
  generalize (lg_sl ([.int i, .int n, .null]) ++ List.replicate (3 - (lg_sl ([.int i, .int n, .null])).length) Slot.unset).toArray = ls at hl ⊢
  have hl : lv_has ls 3 [(0, .int i), (1, .int n), (2, .null)] := hl
  refine lv_iload_n hx hb dJ3_checkIndex_8e157_0 rfl (lv_at hl 0 rfl) ?_
  refine lv_if_lt (tgt := 9) hx hb dJ3_checkIndex_8e157_1 (by decide) (fun z => absurd z h0) (fun _ => ?_)
  refine lv_iload_n hx hb dJ3_checkIndex_8e157_4 rfl (lv_at hl 0 rfl) ?_
  refine lv_iload_n hx hb dJ3_checkIndex_8e157_5 rfl (lv_at hl 1 rfl) ?_
  refine lv_icmp_lt (tgt := 16) hx hb dJ3_checkIndex_8e157_6 (by decide) (fun _ => ?_) (fun z => absurd h1 z)
  refine lv_iload_n hx hb dJ3_checkIndex_8e157_16 rfl (lv_at hl 0 rfl) ?_
  exact W.iret hx hb hr (fun t ht _ => ⟨rfl, ht⟩) (fun q h => by cases h) dJ3_checkIndex_8e157_17
set_option maxHeartbeats 4000000 in
theorem sm_ci0 {l : Launch} {bs sa : Nat} {i n : Int32} (h0 : ¬ i < 0) (h1 : i < n) : Met l yJ0_checkIndex_df160 (am_sw2 yJ0_checkIndex_df160 cJ0_checkIndex_df160 2 none) (am_rm2 1 30) (va_Pc [.int i, .int n] (am_SP bs sa)) (am_QN) 0 0 (fun _ => False) := by
  refine va_MetF (cc := cJ0_checkIndex_df160) (maxL := 2) (ret := none) (by decide +kernel) rfl ?_
  intro p e s mi args below meth c s₁ B hml hv
  obtain ⟨rfl, hSF, hz⟩ := hv
  have hSF0 := hSF
  have hx := B.exec
  have hb := B.bytes
  have hr := B.returns
  have hlocks := B.notSynchronized
  have hts : ∀ w ∈ am_T, w.before ([.int i, .int n] : List Value).toArray s = true := fun w hw => atoms_spec (ws := am_sw2 yJ0_checkIndex_df160 cJ0_checkIndex_df160 2 none) B.pre w (List.mem_cons_of_mem _ hw)
  have hown : s.vm.findClass yJ0_checkIndex_df160.cls = some mi.cls := findClass_of_methodNamed B.named
  have hS : va_S (fun q => bs ≤ q) s.heap s.heap [] := va_S.rf
  have hl := lv_entry ([.int i, .int n]) (n := 2) (Nat.le_of_ble_eq_true rfl)
  rw [lg_entry_eq]
  generalize (lg_sl ([.int i, .int n]) ++ List.replicate (2 - (lg_sl ([.int i, .int n])).length) Slot.unset).toArray = ls at hl ⊢
  have hl : lv_has ls 2 [(0, .int i), (1, .int n)] := hl
  obtain ⟨-, -, -, hZq⟩ := hSF
  refine lv_iload_n hx hb dJ0_checkIndex_df160_0 rfl (lv_at hl 0 rfl) ?_
  refine lv_iload_n hx hb dJ0_checkIndex_df160_1 rfl (lv_at hl 1 rfl) ?_
  rcases hZq with hZ | ⟨z, hZ⟩
  · refine va_gets hx hb hZ hS hown (hts _ sf_fmt) (fun _ h => h) dJ0_checkIndex_df160_2 ?_
    refine W.callR (r := i) (W.runS (As := [.int i, .int n, .null]) (rest := []) ⟨hx, hb, hml, hown, hts⟩ (sm_ci3N (l := l) (bs := bs) (sa := sa) h0 h1) (va_cwS 3 hts (am_good (fun w hw => by
      rcases List.mem_append.mp hw with h | h
      · simp only [List.mem_cons, List.not_mem_nil, or_false] at h
        rcases h with rfl | rfl | rfl
        · exact sl_ci3
        · exact sg_ci3.2.2
        · exact sg_ci3.2.1
      · exact am_sw2_in sg_ci3.1 w h)) rfl rfl rfl (by decide +kernel) ⟨Nat.le_of_ble_eq_true rfl, Nat.le_of_ble_eq_true rfl⟩) ⟨am_SPb, fun U hU hW => ⟨rfl, by rw [hU]; exact hSF0.warm hW, by rw [hU]; exact hz⟩⟩ rfl rfl hl.1 rfl (lv_room (Nat.le_of_ble_eq_true rfl)) dJ0_checkIndex_df160_5 ⟨Nat.zero_le _, Nat.zero_le _⟩) ?_
    refine lv_pop hx hb dJ0_checkIndex_df160_8 rfl ?_
    exact W.vret hx hb hr (fun t ht _ => ⟨rfl, ht⟩) (fun q h => by cases h) dJ0_checkIndex_df160_9
  · refine va_gets hx hb hZ hS hown (hts _ sf_fmt) (fun _ h => h) dJ0_checkIndex_df160_2 ?_
    refine W.callR (r := i) (W.runS (As := [.int i, .int n, .ref z]) (rest := []) ⟨hx, hb, hml, hown, hts⟩ (sm_ci3R (l := l) (bs := bs) (sa := sa) h0 h1) (va_cwS 3 hts (am_good (fun w hw => by
      rcases List.mem_append.mp hw with h | h
      · simp only [List.mem_cons, List.not_mem_nil, or_false] at h
        rcases h with rfl | rfl | rfl
        · exact sl_ci3
        · exact sg_ci3.2.2
        · exact sg_ci3.2.1
      · exact am_sw2_in sg_ci3.1 w h)) rfl rfl rfl (by decide +kernel) ⟨Nat.le_of_ble_eq_true rfl, Nat.le_of_ble_eq_true rfl⟩) ⟨am_SPb, fun U hU hW => ⟨rfl, by rw [hU]; exact hSF0.warm hW, by rw [hU]; exact hz⟩⟩ rfl rfl hl.1 rfl (lv_room (Nat.le_of_ble_eq_true rfl)) dJ0_checkIndex_df160_5 ⟨Nat.zero_le _, Nat.zero_le _⟩) ?_
    refine lv_pop hx hb dJ0_checkIndex_df160_8 rfl ?_
    exact W.vret hx hb hr (fun t ht _ => ⟨rfl, ht⟩) (fun q h => by cases h) dJ0_checkIndex_df160_9
set_option maxHeartbeats 4000000 in
theorem sm_lch {l : Launch} {bs sa : Nat} {av : Nat} {i : Int32} (hi : am_in i 91) : Met l yJ1_charAt_3b067 (am_sw2 yJ1_charAt_3b067 cJ1_charAt_3b067 2 (some .char)) (am_rm2 2 60) (va_Pc [.ref av, .int i] (fun U => am_SP bs sa U ∧ va_T .byte av 91 (fun j => .int (am_byt.getD j 0)) (fun q => bs ≤ q) U U.heap)) (QcRead (am_byt.getD i.toNatClampNeg 0 &&& 255)) 0 0 (fun _ => False) := by
  refine va_MetF (cc := cJ1_charAt_3b067) (maxL := 2) (ret := (some .char)) (by decide +kernel) rfl ?_
  intro p e s mi args below meth c s₁ B hml hv
  obtain ⟨rfl, ⟨hSF0, hz⟩, hTT⟩ := hv
  have hx := B.exec
  have hb := B.bytes
  have hr := B.returns
  have hlocks := B.notSynchronized
  have hts : ∀ w ∈ am_T, w.before ([.ref av, .int i] : List Value).toArray s = true := fun w hw => atoms_spec (ws := am_sw2 yJ1_charAt_3b067 cJ1_charAt_3b067 2 (some .char)) B.pre w (List.mem_cons_of_mem _ hw)
  have hown : s.vm.findClass yJ1_charAt_3b067.cls = some mi.cls := findClass_of_methodNamed B.named
  have hS : va_S (fun q => bs ≤ q) s.heap s.heap [] := va_S.rf
  have hl := lv_entry ([.ref av, .int i]) (n := 2) (Nat.le_of_ble_eq_true rfl)
  rw [lg_entry_eq]
  generalize (lg_sl ([.ref av, .int i]) ++ List.replicate (2 - (lg_sl ([.ref av, .int i])).length) Slot.unset).toArray = ls at hl ⊢
  have hl : lv_has ls 2 [(0, .ref av), (1, .int i)] := hl
  have h0 : ¬ i < 0 := am_nn hi.1
  have h1 : i < 91 := by
    rw [Int32.lt_iff_toInt_lt]
    have := hi.2
    simpa using this
  refine lv_iload_n hx hb dJ1_charAt_3b067_0 rfl (lv_at hl 1 rfl) ?_
  refine lv_aload_n hx hb dJ1_charAt_3b067_1 rfl (lv_at hl 0 rfl) ?_
  refine va_tlen (v := 91) hx hb hTT hS (by decide) dJ1_charAt_3b067_2 ?_
  refine am_callN (W.runS (As := [.int i, .int 91]) (rest := []) ⟨hx, hb, hml, hown, hts⟩ (sm_ci0 (l := l) (bs := bs) (sa := sa) h0 h1) (va_cwS 2 hts (am_good (fun w hw => by
      rcases List.mem_append.mp hw with h | h
      · simp only [List.mem_cons, List.not_mem_nil, or_false] at h
        rcases h with rfl | rfl | rfl
        · exact sl_ci0
        · exact sg_ci0.2.2
        · exact sg_ci0.2.1
      · exact am_sw2_in sg_ci0.1 w h)) rfl rfl rfl (by decide +kernel) ⟨Nat.le_of_ble_eq_true rfl, Nat.le_of_ble_eq_true rfl⟩) ⟨am_SPb, fun U hU hW => ⟨rfl, by rw [hU]; exact hSF0.warm hW, by rw [hU]; exact hz⟩⟩ rfl rfl hl.1 rfl (lv_room (Nat.le_of_ble_eq_true rfl)) dJ1_charAt_3b067_3 ⟨Nat.zero_le _, Nat.zero_le _⟩) ?_
  refine lv_aload_n hx hb dJ1_charAt_3b067_6 rfl (lv_at hl 0 rfl) ?_
  refine lv_iload_n hx hb dJ1_charAt_3b067_7 rfl (lv_at hl 1 rfl) ?_
  refine va_tb hx hb hTT hS (am_inv hi) rfl dJ1_charAt_3b067_8 ?_
  refine lv_sipush (v := 255) hx hb dJ1_charAt_3b067_9 (by decide) ?_
  refine lv_iand hx hb dJ1_charAt_3b067_12 ?_
  refine lv_i2c (v := am_byt.getD i.toNatClampNeg 0 &&& 255) hx hb dJ1_charAt_3b067_13 (sc_c2 _) ?_
  exact W.zret hx hb hr (sc_nar _) (fun t ht _ => ⟨rfl, ht⟩) (fun q h => by cases h) dJ1_charAt_3b067_14
set_option maxHeartbeats 4000000 in
theorem sm_len {l : Launch} {bs sa : Nat} : Met l yJ0_length_8abf5 (am_sw2 yJ0_length_8abf5 cJ0_length_8abf5 1 (some .int)) (am_rm2 1 30) (va_Pc [.ref sa] (am_SP bs sa)) (QcRead 91) 0 0 (fun _ => False) := by
  refine va_MetF (cc := cJ0_length_8abf5) (maxL := 1) (ret := (some .int)) (by decide +kernel) rfl ?_
  intro p e s mi args below meth c s₁ B hml hv
  obtain ⟨rfl, hSF0, hz⟩ := hv
  have hx := B.exec
  have hb := B.bytes
  have hr := B.returns
  have hlocks := B.notSynchronized
  have hts : ∀ w ∈ am_T, w.before ([.ref sa] : List Value).toArray s = true := fun w hw => atoms_spec (ws := am_sw2 yJ0_length_8abf5 cJ0_length_8abf5 1 (some .int)) B.pre w (List.mem_cons_of_mem _ hw)
  have hown : s.vm.findClass yJ0_length_8abf5.cls = some mi.cls := findClass_of_methodNamed B.named
  have hS : va_S (fun q => bs ≤ q) s.heap s.heap [] := va_S.rf
  have hl := lv_entry ([.ref sa]) (n := 1) (Nat.le_of_ble_eq_true rfl)
  rw [lg_entry_eq]
  generalize (lg_sl ([.ref sa]) ++ List.replicate (1 - (lg_sl ([.ref sa])).length) Slot.unset).toArray = ls at hl ⊢
  have hl : lv_has ls 1 [(0, .ref sa)] := hl
  obtain ⟨-, ⟨adV, hE⟩, hZ, -⟩ := id hSF0
  refine lv_aload_n hx hb dJ0_length_8abf5_0 rfl (lv_at hl 0 rfl) ?_
  refine vk_getf hx hb (hE.1 0 (by decide)).2.2.1 hS hown (hts _ sf_val) (fun _ h => h) dJ0_length_8abf5_1 ?_
  refine va_tlen (v := 91) hx hb (hE.1 0 (by decide)).2.2.2 hS (by decide) dJ0_length_8abf5_4 ?_
  refine lv_aload_n hx hb dJ0_length_8abf5_5 rfl (lv_at hl 0 rfl) ?_
  refine W.callR (r := 0) (W.runV (As := []) (rest := [.int 91]) ⟨hx, hb, hml, hown, hts⟩ (sm_cod (l := l) (bs := bs) (sa := sa)) (cwV 0 hts (am_good (fun w hw => by
      rcases List.mem_append.mp hw with h | h
      · simp only [List.mem_cons, List.not_mem_nil, or_false] at h
        rcases h with rfl | rfl | rfl | rfl
        · exact sl_cod
        · exact sg_cod.2.2.1
        · exact sg_cod.2.2.2
        · exact sg_cod.2.1
      · exact am_sw2_in sg_cod.1 w h)) rfl rfl rfl (by decide +kernel) ⟨Nat.le_of_ble_eq_true rfl, Nat.le_of_ble_eq_true rfl⟩) ⟨am_SPb, vk_recv hE (i := 0) (by decide) hS, fun U hU hW => ⟨rfl, by rw [hU]; exact hSF0.warm hW, by rw [hU]; exact hz⟩⟩ rfl rfl hl.1 rfl (lv_room (Nat.le_of_ble_eq_true rfl)) dJ0_length_8abf5_6 ⟨Nat.zero_le _, Nat.zero_le _⟩) ?_
  refine lv_ishr hx hb dJ0_length_8abf5_9 ?_
  exact W.iret (v := 91) hx hb hr (fun t ht _ => ⟨rfl, ht⟩) (fun q h => by cases h) dJ0_length_8abf5_10
set_option maxHeartbeats 4000000 in
theorem sm_chr {l : Launch} {bs sa : Nat} {i : Int32} (hi : am_in i 91) : Met l yJ0_charAt_5068e (am_sw2 yJ0_charAt_5068e cJ0_charAt_5068e 2 (some .char)) (am_rm2 3 100) (va_Pc [.ref sa, .int i] (am_SP bs sa)) (QcRead (am_chr i.toNatClampNeg)) 0 0 (fun _ => False) := by
  refine va_MetF (cc := cJ0_charAt_5068e) (maxL := 2) (ret := (some .char)) (by decide +kernel) rfl ?_
  intro p e s mi args below meth c s₁ B hml hv
  obtain ⟨rfl, hSF0, hz⟩ := hv
  have hx := B.exec
  have hb := B.bytes
  have hr := B.returns
  have hlocks := B.notSynchronized
  have hts : ∀ w ∈ am_T, w.before ([.ref sa, .int i] : List Value).toArray s = true := fun w hw => atoms_spec (ws := am_sw2 yJ0_charAt_5068e cJ0_charAt_5068e 2 (some .char)) B.pre w (List.mem_cons_of_mem _ hw)
  have hown : s.vm.findClass yJ0_charAt_5068e.cls = some mi.cls := findClass_of_methodNamed B.named
  have hS : va_S (fun q => bs ≤ q) s.heap s.heap [] := va_S.rf
  have hl := lv_entry ([.ref sa, .int i]) (n := 2) (Nat.le_of_ble_eq_true rfl)
  rw [lg_entry_eq]
  generalize (lg_sl ([.ref sa, .int i]) ++ List.replicate (2 - (lg_sl ([.ref sa, .int i])).length) Slot.unset).toArray = ls at hl ⊢
  have hl : lv_has ls 2 [(0, .ref sa), (1, .int i)] := hl
  obtain ⟨-, ⟨adV, hE⟩, hZ, -⟩ := id hSF0
  have hch : am_byt.getD i.toNatClampNeg 0 &&& 255 = am_chr i.toNatClampNeg := by
    have hj : i.toNatClampNeg < 91 := by show i.toInt.toNat < 91; have := hi.1; have := hi.2; omega
    exact am_chr_ok _ hj
  refine lv_aload_n hx hb dJ0_charAt_5068e_0 rfl (lv_at hl 0 rfl) ?_
  refine W.callR (r := 1) (W.runV (As := []) (rest := []) ⟨hx, hb, hml, hown, hts⟩ (sm_lat (l := l) (bs := bs) (sa := sa)) (cwV 0 hts (am_good (fun w hw => by
      rcases List.mem_append.mp hw with h | h
      · simp only [List.mem_cons, List.not_mem_nil, or_false] at h
        rcases h with rfl | rfl | rfl | rfl
        · exact sl_lat
        · exact sg_lat.2.2.1
        · exact sg_lat.2.2.2
        · exact sg_lat.2.1
      · exact am_sw2_in sg_lat.1 w h)) rfl rfl rfl (by decide +kernel) ⟨Nat.le_of_ble_eq_true rfl, Nat.le_of_ble_eq_true rfl⟩) ⟨am_SPb, vk_recv hE (i := 0) (by decide) hS, fun U hU hW => ⟨rfl, by rw [hU]; exact hSF0.warm hW, by rw [hU]; exact hz⟩⟩ rfl rfl hl.1 rfl (lv_room (Nat.le_of_ble_eq_true rfl)) dJ0_charAt_5068e_1 ⟨Nat.zero_le _, Nat.zero_le _⟩) ?_
  refine lv_if_eq (pc := 4) (tgt := 16) hx hb dJ0_charAt_5068e_4 (by decide) (fun z => absurd z (by decide)) (fun _ => ?_)
  refine lv_aload_n hx hb dJ0_charAt_5068e_7 rfl (lv_at hl 0 rfl) ?_
  refine vk_getf hx hb (hE.1 0 (by decide)).2.2.1 hS hown (hts _ sf_val) (fun _ h => h) dJ0_charAt_5068e_8 ?_
  refine lv_iload_n hx hb dJ0_charAt_5068e_11 rfl (lv_at hl 1 rfl) ?_
  refine W.callR (r := am_chr i.toNatClampNeg) (by rw [← hch]; exact W.runS (As := [.ref (adV 0), .int i]) (rest := []) ⟨hx, hb, hml, hown, hts⟩ (sm_lch (l := l) (bs := bs) (sa := sa) (av := adV 0) hi) (va_cwS 2 hts (am_good (fun w hw => by
      rcases List.mem_append.mp hw with h | h
      · simp only [List.mem_cons, List.not_mem_nil, or_false] at h
        rcases h with rfl | rfl | rfl
        · exact sl_lch
        · exact sg_lch.2.2
        · exact sg_lch.2.1
      · exact am_sw2_in sg_lch.1 w h)) rfl rfl rfl (by decide +kernel) ⟨Nat.le_of_ble_eq_true rfl, Nat.le_of_ble_eq_true rfl⟩) ⟨am_SPb2, fun U hU hW => ⟨rfl, ⟨by rw [hU]; exact hSF0.warm hW, by rw [hU]; exact hz⟩, by rw [hU]; exact (hE.1 0 (by decide)).2.2.2.moved hW.alike⟩⟩ rfl rfl hl.1 rfl (lv_room (Nat.le_of_ble_eq_true rfl)) dJ0_charAt_5068e_12 ⟨Nat.zero_le _, Nat.zero_le _⟩) ?_
  exact W.zret hx hb hr (by rw [← hch]; exact sc_nar _) (fun t ht _ => ⟨rfl, ht⟩) (fun q h => by cases h) dJ0_charAt_5068e_15
