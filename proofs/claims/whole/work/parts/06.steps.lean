/-! THE STEPS: what each kind of instruction of the abstract machine is on the real one -/
section AMS
variable {p : Program} {l : Launch} {e : Env} {R : Room} {s : State} {m : MethodId} {args : Array Value} {below : List Frame} {meth : Method} {c : Code} {H : Heap} {locs : List Loc} {cells slots : Nat} {Q : State → Prop}
variable {cc : ByteArray} {pc k : Nat} {ls : Array Slot} {st st' : List Value} {i : Instr} {bs b sa : Nat}
set_option maxHeartbeats 4000000 in
theorem am_alu_W (hx : p.tables.exec = Jvm.exec) (hb : c.code = cc) (h : am_alu i st = some (k, st')) (hd : decode cc pc = .ok (i, k))
    (kk : W p l e R s m args below meth c H locs cells slots Q (F0 m (pc + k) ls (st'.map (am_rv bs b sa)))) : W p l e R s m args below meth c H locs cells slots Q (F0 m pc ls (st.map (am_rv bs b sa))) := by
  unfold am_alu at h
  split at h
  all_goals (try (split at h))
  all_goals (simp only [Option.some.injEq, Prod.mk.injEq, reduceCtorEq] at h)
  all_goals (obtain ⟨rfl, rfl⟩ := h)
  all_goals (simp only [List.map_cons, am_rvI, am_rvL, am_rvN, am_rvR] at kk ⊢)
  · exact lv_iconst hx hb hd rfl kk
  · exact lv_bipush hx hb hd rfl kk
  · exact lv_sipush hx hb hd rfl kk
  · exact lv_lconst hx hb hd rfl kk
  · exact lv_null hx hb hd kk
  · exact lv_iadd hx hb hd kk
  · exact lv_isub hx hb hd kk
  · exact lv_imul hx hb hd kk
  · exact lv_iand hx hb hd kk
  · exact lv_ior hx hb hd kk
  · exact lv_ixor hx hb hd kk
  · exact lv_idiv hx hb hd (by assumption) kk
  · exact lv_irem hx hb hd (by assumption) kk
  · exact lv_ineg hx hb hd kk
  · exact lv_ishl hx hb hd kk
  · exact lv_ishr hx hb hd kk
  · exact lv_iushr hx hb hd rfl kk
  · exact lv_ladd hx hb hd kk
  · exact lv_lmul hx hb hd kk
  · exact lv_lor hx hb hd kk
  · exact lv_lshl hx hb hd rfl kk
  · exact W.lcmp hx hb hd kk
  · exact lv_i2l hx hb hd rfl kk
  · exact lv_i2b hx hb hd rfl kk
  · exact lv_i2c hx hb hd rfl kk
  · exact lv_dup hx hb hd (by rw [am_rv_cat]; assumption) kk
  · rename_i hc
    exact lv_dup2_11 hx hb hd (by rw [am_rv_cat]; exact hc.1) (by rw [am_rv_cat]; exact hc.2) kk
  · exact lv_pop hx hb hd (by rw [am_rv_cat]; assumption) kk
theorem am_jmp_eq {q : Nat} {o : Int} (h : am_jmp pc o = some q) : (pc : Int) + o = (q : Int) := by
  unfold am_jmp at h
  split at h
  · simp only [Option.some.injEq] at h
    omega
  · simp at h
set_option maxHeartbeats 4000000 in
theorem am_br_W {t : Bool} {off : Int} {q : Nat} (hx : p.tables.exec = Jvm.exec) (hb : c.code = cc) (h : am_br i st = some (t, off, st')) (hd : decode cc pc = .ok (i, 3)) (hj : am_jmp pc off = some q)
    (kk : W p l e R s m args below meth c H locs cells slots Q (F0 m (if t = true then q else pc + 3) ls (st'.map (am_rv bs b sa)))) : W p l e R s m args below meth c H locs cells slots Q (F0 m pc ls (st.map (am_rv bs b sa))) := by
  unfold am_br am_if at h
  split at h
  all_goals (simp only [Option.some.injEq, Prod.mk.injEq, reduceCtorEq] at h)
  all_goals (obtain ⟨rfl, rfl, rfl⟩ := h)
  all_goals (simp only [List.map_cons, am_rvI, am_rvL, am_rvN, am_rvR, decide_eq_true_eq] at kk ⊢)
  · exact lv_goto hx hb hd (am_jmp_eq hj) kk
  · exact lv_if_eq hx hb hd (am_jmp_eq hj) (fun z => by rwa [if_pos z] at kk) (fun z => by rwa [if_neg z] at kk)
  · exact lv_if_ne hx hb hd (am_jmp_eq hj) (fun z => by first | rwa [if_pos z] at kk | (rw [if_pos (by simpa using z)] at kk; exact kk)) (fun z => by first | rwa [if_neg z] at kk | (rw [if_neg (by simpa using z)] at kk; exact kk))
  · exact lv_if_lt hx hb hd (am_jmp_eq hj) (fun z => by rwa [if_pos z] at kk) (fun z => by rwa [if_neg z] at kk)
  · exact lv_if_ge hx hb hd (am_jmp_eq hj) (fun z => by rwa [if_pos z] at kk) (fun z => by rwa [if_neg z] at kk)
  · exact lv_if_gt hx hb hd (am_jmp_eq hj) (fun z => by rwa [if_pos z] at kk) (fun z => by rwa [if_neg z] at kk)
  · exact lv_if_le hx hb hd (am_jmp_eq hj) (fun z => by rwa [if_pos z] at kk) (fun z => by rwa [if_neg z] at kk)
  · exact lv_icmp_eq hx hb hd (am_jmp_eq hj) (fun z => by rwa [if_pos z] at kk) (fun z => by rwa [if_neg z] at kk)
  · exact lv_icmp_ne hx hb hd (am_jmp_eq hj) (fun z => by first | rwa [if_pos z] at kk | (rw [if_pos (by simpa using z)] at kk; exact kk)) (fun z => by first | rwa [if_neg z] at kk | (rw [if_neg (by simpa using z)] at kk; exact kk))
  · exact lv_icmp_lt hx hb hd (am_jmp_eq hj) (fun z => by rwa [if_pos z] at kk) (fun z => by rwa [if_neg z] at kk)
  · exact lv_icmp_ge hx hb hd (am_jmp_eq hj) (fun z => by rwa [if_pos z] at kk) (fun z => by rwa [if_neg z] at kk)
  · exact lv_icmp_gt hx hb hd (am_jmp_eq hj) (fun z => by rwa [if_pos z] at kk) (fun z => by rwa [if_neg z] at kk)
  · exact lv_icmp_le hx hb hd (am_jmp_eq hj) (fun z => by rwa [if_pos z] at kk) (fun z => by rwa [if_neg z] at kk)
  · exact lv_ifnullN hx hb hd (am_jmp_eq hj) kk
  · exact lv_ifnull hx hb hd kk
  · exact lv_ifnonnullN hx hb hd kk
  · exact lv_ifnonnull hx hb hd (am_jmp_eq hj) kk
theorem am_sw_W {off : Int} {q : Nat} (hx : p.tables.exec = Jvm.exec) (hb : c.code = cc) (h : am_sw i st = some (off, st')) (hd : decode cc pc = .ok (i, k)) (hj : am_jmp pc off = some q)
    (kk : W p l e R s m args below meth c H locs cells slots Q (F0 m q ls (st'.map (am_rv bs b sa)))) : W p l e R s m args below meth c H locs cells slots Q (F0 m pc ls (st.map (am_rv bs b sa))) := by
  unfold am_sw at h
  split at h
  · split at h
    · rename_i hc
      simp only [Option.some.injEq, Prod.mk.injEq] at h
      obtain ⟨rfl, rfl⟩ := h
      simp only [List.map_cons, am_rvI]
      exact lv_tableOut hx hb hd hc (am_jmp_eq hj) kk
    · rename_i hc
      split at h
      · rename_i o ho
        simp only [Option.some.injEq, Prod.mk.injEq] at h
        obtain ⟨rfl, rfl⟩ := h
        simp only [List.map_cons, am_rvI]
        exact lv_tableIn hx hb hd (fun z => hc (Or.inl z)) (fun z => hc (Or.inr z)) ho (am_jmp_eq hj) kk
      · simp at h
  · split at h
    · rename_i hc
      simp only [Option.some.injEq, Prod.mk.injEq] at h
      obtain ⟨rfl, rfl⟩ := h
      simp only [List.map_cons, am_rvI]
      exact lv_lookup hx hb hd hc rfl (am_jmp_eq hj) kk
    · simp at h
  · simp at h
end AMS
