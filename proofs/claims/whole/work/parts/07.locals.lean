/-! THE LOCALS -/
def am_lp (bs b sa : Nat) (L : am_L) : List (Nat × Value) := (List.range L.length).filterMap (fun i => match L[i]? with
  | some (some v) => some (i, am_rv bs b sa v)
  | _ => none)
theorem am_lp_mem {bs b sa : Nat} {L : am_L} {j : Nat} {w : Value} : (j, w) ∈ am_lp bs b sa L ↔ ∃ v, L[j]? = some (some v) ∧ w = am_rv bs b sa v := by
  unfold am_lp
  rw [List.mem_filterMap]
  constructor
  · rintro ⟨i, -, h⟩
    split at h
    · rename_i v hv
      simp only [Option.some.injEq, Prod.mk.injEq] at h
      obtain ⟨rfl, rfl⟩ := h
      exact ⟨v, hv, rfl⟩
    · simp at h
  · rintro ⟨v, hv, rfl⟩
    exact ⟨j, List.mem_range.mpr (List.getElem?_eq_some_iff.mp hv).1, by rw [hv]⟩
def am_LR (bs b sa : Nat) (ls : Array Slot) (nL : Nat) (L : am_L) : Prop := L.length = nL ∧ lv_has ls nL (am_lp bs b sa L)
theorem am_has_sub {ls : Array Slot} {n : Nat} {l l' : List (Nat × Value)} (h : lv_has ls n l) (hs : ∀ q ∈ l', q ∈ l) : lv_has ls n l' := ⟨h.1, h.2.1, fun q hq => h.2.2 q (hs q hq)⟩
section AML
variable {bs b sa : Nat} {ls : Array Slot} {nL : Nat} {L : am_L}
theorem am_LR.at {i : Nat} {v : Value} (h : am_LR bs b sa ls nL L) (hv : am_ld L i = v) (hn : v ≠ .float 0) : ls[i]? = some (.val (am_rv bs b sa v)) := by
  unfold am_ld at hv
  split at hv
  · rename_i u hu
    subst hv
    exact h.2.2.2 (i, am_rv bs b sa u) (am_lp_mem.mpr ⟨u, hu, rfl⟩)
  · exact absurd hv.symm hn
theorem am_ld_inv {i : Nat} {v : Value} (hv : am_ld L i = v) (hn : v ≠ .float 0) : L[i]? = some (some v) := by
  unfold am_ld at hv
  split at hv
  · rename_i u hu
    subst hv
    exact hu
  · exact absurd hv.symm hn
theorem am_cut_len (i : Nat) : (am_cut L i).length = L.length := by
  unfold am_cut
  split
  · rfl
  · split
    · split <;> simp
    · rfl
theorem am_cut_get {i j : Nat} {u : Value} (h : (am_cut L i)[j]? = some (some u)) : L[j]? = some (some u) ∧ ¬ (j + 1 = i ∧ u.category = 2) := by
  unfold am_cut at h
  split at h
  · exact ⟨h, fun z => by omega⟩
  · rename_i i
    split at h
    · rename_i v hv
      split at h
      · rename_i hc
        by_cases hj : j = i
        · subst hj
          rw [List.getElem?_set_self (List.getElem?_eq_some_iff.mp hv).1] at h
          simp at h
        · rw [List.getElem?_set_ne (Ne.symm hj)] at h
          exact ⟨h, fun z => hj (by omega)⟩
      · rename_i hc
        refine ⟨h, fun z => ?_⟩
        have hj : j = i := by omega
        subst hj
        rw [hv] at h
        simp only [Option.some.injEq] at h
        subst h
        exact hc z.2
    · rename_i hv
      refine ⟨h, fun z => ?_⟩
      have hj : j = i := by omega
      subst hj
      exact hv u h
theorem am_LR.st1 {i : Nat} {v : Value} {ls' : Array Slot} (h : am_LR bs b sa ls nL L) (hi : i < L.length) (h' : lv_has ls' nL ((i, am_rv bs b sa v) :: (am_lp bs b sa L).filter (fun q => !(q.1 == i) && !(q.1 + 1 == i && q.2.category == 2)))) : am_LR bs b sa ls' nL (am_st1 L i v) := by
  refine ⟨by unfold am_st1; simp [am_cut_len, h.1], am_has_sub h' ?_⟩
  rintro ⟨j, w⟩ hq
  obtain ⟨u, hu, rfl⟩ := am_lp_mem.mp hq
  unfold am_st1 at hu
  by_cases hj : j = i
  · subst hj
    rw [List.getElem?_set_self (by rw [am_cut_len]; exact hi)] at hu
    simp only [Option.some.injEq] at hu
    subst hu
    exact List.mem_cons_self
  · rw [List.getElem?_set_ne (Ne.symm hj)] at hu
    obtain ⟨h1, h2⟩ := am_cut_get hu
    refine List.mem_cons_of_mem _ (List.mem_filter.mpr ⟨am_lp_mem.mpr ⟨u, h1, rfl⟩, ?_⟩)
    simp only [am_rv_cat, Bool.and_eq_true, Bool.not_eq_true', beq_eq_false_iff_ne, Bool.and_eq_false_iff, ne_eq]
    refine ⟨hj, ?_⟩
    by_cases h3 : j + 1 = i
    · exact Or.inr (fun z => h2 ⟨h3, z⟩)
    · exact Or.inl h3
theorem am_LR.st2 {i : Nat} {v : Value} {ls' : Array Slot} (h : am_LR bs b sa ls nL L) (hi : i + 1 < L.length) (h' : lv_has ls' nL ((i, am_rv bs b sa v) :: (am_lp bs b sa L).filter (fun q => !(q.1 == i) && (!(q.1 == i + 1) && !(q.1 + 1 == i && q.2.category == 2))))) : am_LR bs b sa ls' nL (am_st2 L i v) := by
  refine ⟨by unfold am_st2; simp [am_cut_len, h.1], am_has_sub h' ?_⟩
  rintro ⟨j, w⟩ hq
  obtain ⟨u, hu, rfl⟩ := am_lp_mem.mp hq
  unfold am_st2 at hu
  by_cases hj2 : j = i + 1
  · subst hj2
    rw [List.getElem?_set_self (by simp [am_cut_len]; exact hi)] at hu
    simp at hu
  · rw [List.getElem?_set_ne (Ne.symm hj2)] at hu
    by_cases hj : j = i
    · subst hj
      rw [List.getElem?_set_self (by rw [am_cut_len]; omega)] at hu
      simp only [Option.some.injEq] at hu
      subst hu
      exact List.mem_cons_self
    · rw [List.getElem?_set_ne (Ne.symm hj)] at hu
      obtain ⟨h1, h2⟩ := am_cut_get hu
      refine List.mem_cons_of_mem _ (List.mem_filter.mpr ⟨am_lp_mem.mpr ⟨u, h1, rfl⟩, ?_⟩)
      simp only [am_rv_cat, Bool.and_eq_true, Bool.not_eq_true', beq_eq_false_iff_ne, Bool.and_eq_false_iff, ne_eq]
      refine ⟨hj, hj2, ?_⟩
      by_cases h3 : j + 1 = i
      · exact Or.inr (fun z => h2 ⟨h3, z⟩)
      · exact Or.inl h3
end AML
section AML2
variable {p : Program} {l : Launch} {e : Env} {R : Room} {s : State} {m : MethodId} {args : Array Value} {below : List Frame} {meth : Method} {c : Code} {H : Heap} {locs : List Loc} {cells slots : Nat} {Q : State → Prop}
variable {cc : ByteArray} {pc k nL : Nat} {ls : Array Slot} {st st' : List Value} {i : Instr} {bs b sa : Nat} {L L' : am_L}
set_option maxHeartbeats 4000000 in
theorem am_loc_W (hx : p.tables.exec = Jvm.exec) (hb : c.code = cc) (h : am_loc i L st = some (k, L', st')) (hd : decode cc pc = .ok (i, k)) (hl : am_LR bs b sa ls nL L)
    (kk : ∀ ls', am_LR bs b sa ls' nL L' → W p l e R s m args below meth c H locs cells slots Q (F0 m (pc + k) ls' (st'.map (am_rv bs b sa)))) : W p l e R s m args below meth c H locs cells slots Q (F0 m pc ls (st.map (am_rv bs b sa))) := by
  have hlen := hl.1
  unfold am_loc at h
  split at h
  · unfold am_ldI at h
    split at h <;> simp only [Option.some.injEq, Prod.mk.injEq, reduceCtorEq] at h
    rename_i x hv
    obtain ⟨rfl, rfl, rfl⟩ := h
    exact lv_iload_n hx hb hd rfl (hl.at hv (by simp)) (kk ls hl)
  · unfold am_ldI at h
    split at h <;> simp only [Option.some.injEq, Prod.mk.injEq, reduceCtorEq] at h
    rename_i x hv
    obtain ⟨rfl, rfl, rfl⟩ := h
    exact lv_iload hx hb hd (hl.at hv (by simp)) (kk ls hl)
  · unfold am_ldL at h
    split at h <;> simp only [Option.some.injEq, Prod.mk.injEq, reduceCtorEq] at h
    rename_i x hv
    obtain ⟨rfl, rfl, rfl⟩ := h
    exact lv_lload_n hx hb hd rfl (hl.at hv (by simp)) (kk ls hl)
  · unfold am_ldL at h
    split at h <;> simp only [Option.some.injEq, Prod.mk.injEq, reduceCtorEq] at h
    rename_i x hv
    obtain ⟨rfl, rfl, rfl⟩ := h
    exact lv_lload hx hb hd (hl.at hv (by simp)) (kk ls hl)
  · unfold am_ldA at h
    split at h <;> simp only [Option.some.injEq, Prod.mk.injEq, reduceCtorEq] at h
    · rename_i x hv
      obtain ⟨rfl, rfl, rfl⟩ := h
      exact lv_aload_n hx hb hd rfl (hl.at hv (by simp)) (kk ls hl)
    · rename_i x hv
      obtain ⟨rfl, rfl, rfl⟩ := h
      cases x with
      | zero => exact lv_aload_n hx hb hd rfl (hl.at hv (by simp)) (kk ls hl)
      | succ x => exact lv_aload_n hx hb hd rfl (hl.at hv (by simp)) (kk ls hl)
    · rename_i hv
      obtain ⟨rfl, rfl, rfl⟩ := h
      exact lv_aload_nN hx hb hd rfl (hl.at hv (by simp)) (kk ls hl)
  · unfold am_ldA at h
    split at h <;> simp only [Option.some.injEq, Prod.mk.injEq, reduceCtorEq] at h
    · rename_i x hv
      obtain ⟨rfl, rfl, rfl⟩ := h
      exact lv_aload hx hb hd (hl.at hv (by simp)) (kk ls hl)
    · rename_i x hv
      obtain ⟨rfl, rfl, rfl⟩ := h
      cases x with
      | zero => exact lv_aload hx hb hd (hl.at hv (by simp)) (kk ls hl)
      | succ x => exact lv_aload hx hb hd (hl.at hv (by simp)) (kk ls hl)
    · rename_i hv
      obtain ⟨rfl, rfl, rfl⟩ := h
      exact lv_aloadN hx hb hd (hl.at hv (by simp)) (kk ls hl)
  · unfold am_stI at h
    split at h <;> (try split at h) <;> simp only [Option.some.injEq, Prod.mk.injEq, reduceCtorEq] at h
    rename_i x st hi
    obtain ⟨rfl, rfl, rfl⟩ := h
    exact lv_istore_n hx hb hd rfl hl.2 (by rw [← hlen]; exact hi) rfl (fun ls' h' => kk ls' (hl.st1 hi h'))
  · unfold am_stI at h
    split at h <;> (try split at h) <;> simp only [Option.some.injEq, Prod.mk.injEq, reduceCtorEq] at h
    rename_i x st hi
    obtain ⟨rfl, rfl, rfl⟩ := h
    exact lv_istore hx hb hd hl.2 (by rw [← hlen]; exact hi) rfl (fun ls' h' => kk ls' (hl.st1 hi h'))
  · unfold am_stL at h
    split at h <;> (try split at h) <;> simp only [Option.some.injEq, Prod.mk.injEq, reduceCtorEq] at h
    rename_i x st hi
    obtain ⟨rfl, rfl, rfl⟩ := h
    exact lv_lstore_n hx hb hd rfl hl.2 (by rw [← hlen]; exact hi) rfl (fun ls' h' => kk ls' (hl.st2 hi h'))
  · unfold am_stL at h
    split at h <;> (try split at h) <;> simp only [Option.some.injEq, Prod.mk.injEq, reduceCtorEq] at h
    rename_i x st hi
    obtain ⟨rfl, rfl, rfl⟩ := h
    exact lv_lstore hx hb hd hl.2 (by rw [← hlen]; exact hi) rfl (fun ls' h' => kk ls' (hl.st2 hi h'))
  · unfold am_stA at h
    split at h <;> (try split at h) <;> simp only [Option.some.injEq, Prod.mk.injEq, reduceCtorEq] at h
    · rename_i x st hi
      obtain ⟨rfl, rfl, rfl⟩ := h
      exact lv_astore_n hx hb hd rfl hl.2 (by rw [← hlen]; exact hi) rfl (fun ls' h' => kk ls' (hl.st1 hi h'))
    · rename_i st hi
      obtain ⟨rfl, rfl, rfl⟩ := h
      exact lv_astore_nN hx hb hd rfl hl.2 (by rw [← hlen]; exact hi) rfl (fun ls' h' => kk ls' (hl.st1 hi h'))
  · unfold am_stA at h
    split at h <;> (try split at h) <;> simp only [Option.some.injEq, Prod.mk.injEq, reduceCtorEq] at h
    · rename_i x st hi
      obtain ⟨rfl, rfl, rfl⟩ := h
      exact lv_astore hx hb hd hl.2 (by rw [← hlen]; exact hi) rfl (fun ls' h' => kk ls' (hl.st1 hi h'))
    · rename_i st hi
      obtain ⟨rfl, rfl, rfl⟩ := h
      exact lv_astoreN hx hb hd hl.2 (by rw [← hlen]; exact hi) rfl (fun ls' h' => kk ls' (hl.st1 hi h'))
  · split at h <;> (try split at h) <;> simp only [Option.some.injEq, Prod.mk.injEq, reduceCtorEq] at h
    rename_i x hv hi
    obtain ⟨rfl, rfl, rfl⟩ := h
    have hv1 := am_ld_inv hv (by simp)
    obtain ⟨q, hq⟩ := List.getElem?_of_mem (am_lp_mem.mpr ⟨_, hv1, rfl⟩ : (_, am_rv bs b sa (.int x)) ∈ am_lp bs b sa L)
    exact lv_iinc hx hb hd hl.2 hq rfl (by rw [← hlen]; exact hi) rfl (fun ls' h' => kk ls' (hl.st1 (v := .int _) hi h'))
  · simp at h
end AML2
