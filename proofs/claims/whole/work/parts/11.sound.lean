/-! THE REAL MACHINE DOES AS THE ABSTRACT ONE -/
/-- the method's end -/
def am_end (cc : ByteArray) (ret : Option FieldType) (pc : Nat) (v : Option Value) : Prop := match v with
  | none => ret = none ∧ decode cc pc = .ok (.return_, 1)
  | some (.int x) => ∃ ty, ret = some ty ∧ narrow ty (.int x) = .int x ∧ decode cc pc = .ok (.ireturn, 1)
  | some (.long _) => ret = some .long ∧ decode cc pc = .ok (.lreturn, 1)
  | some (.ref _) => ∃ ty, ret = some ty ∧ ((∃ n, ty = .object n) ∨ ∃ t, ty = .array t) ∧ decode cc pc = .ok (.areturn, 1)
  | _ => False
theorem am_ret_end {i : Instr} {ret : Option FieldType} {st : List Value} {v : Option Value} {cc : ByteArray} {pc : Nat} (h : am_ret i ret st = some v) (hd : decode cc pc = .ok (i, 1)) : am_end cc ret pc v ∧ st = v.toList := by
  unfold am_ret at h
  split at h
  · split at h
    · rename_i hn
      simp only [Option.some.injEq] at h
      subst h
      exact ⟨⟨_, rfl, hn, hd⟩, rfl⟩
    · simp at h
  · simp only [Option.some.injEq] at h
    subst h
    exact ⟨⟨rfl, hd⟩, rfl⟩
  · simp only [Option.some.injEq] at h
    subst h
    exact ⟨⟨_, rfl, Or.inl ⟨_, rfl⟩, hd⟩, rfl⟩
  · simp only [Option.some.injEq] at h
    subst h
    exact ⟨⟨_, rfl, Or.inr ⟨_, rfl⟩, hd⟩, rfl⟩
  · simp only [Option.some.injEq] at h
    subst h
    exact ⟨⟨rfl, hd⟩, rfl⟩
  · simp at h
/-- String.length and String.charAt on the text -/
def am_strW (l : Launch) : Prop := ∀ (p : Program) (e : Env) (R : Room) (s : State) (m : MethodId) (args : Array Value) (below : List Frame) (meth : Method) (c : Code) (H : Heap) (locs : List Loc) (cells slots : Nat) (Q : State → Prop) (cc : ByteArray) (pc : Nat) (ls : Array Slot) (rest : List Value) (bs sa : Nat),
  p.tables.exec = Jvm.exec → c.code = cc → c.maxLocals = ls.size → s.vm.findClass RX9 = some m.cls → (∀ w ∈ am_T, w.before args s = true) → am_SF bs sa s s.heap → bs ≤ s.heap.size → va_S (fun q => bs ≤ q) s.heap H locs → 10 ≤ R.frames → 640 ≤ R.locals → cells ≤ R.cells → slots ≤ R.slots → am_cat rest ≤ 8 →
  (decode cc pc = .ok (.invokevirtual 41, 3) → (∀ locs1, va_S (fun q => bs ≤ q) s.heap H locs1 → W p l e R s m args below meth c H locs1 cells slots Q (F0 m (pc + 3) ls (.int 91 :: rest))) → W p l e R s m args below meth c H locs cells slots Q (F0 m pc ls (.ref sa :: rest))) ∧
  (∀ j : Int32, am_in j 91 → decode cc pc = .ok (.invokevirtual 46, 3) → (∀ locs1, va_S (fun q => bs ≤ q) s.heap H locs1 → W p l e R s m args below meth c H locs1 cells slots Q (F0 m (pc + 3) ls (.int (am_chr j.toNatClampNeg) :: rest))) → W p l e R s m args below meth c H locs cells slots Q (F0 m pc ls (.int j :: .ref sa :: rest)))
theorem am_SF.warm {bs sa : Nat} {s U : State} {H : Heap} (hW : s.WarmedH U.vm) (h : am_SF bs sa s H) : am_SF bs sa U H := by
  obtain ⟨h1, ⟨adV, h2⟩, h3, h4⟩ := h
  exact ⟨h1.warm hW, ⟨adV, h2.moved hW.alike⟩, h3.moved hW.alike, h4.moved hW.alike⟩
theorem am_SF.same {bs sa : Nat} {s U : State} {H : Heap} (hv : U.vm = s.vm) (h : am_SF bs sa s H) : am_SF bs sa U H := by
  obtain ⟨h1, ⟨adV, h2⟩, h3, h4⟩ := h
  have ha : s.vm.Alike U.vm := by rw [hv]; exact Vm.Alike.refl _
  exact ⟨h1.same hv, ⟨adV, h2.moved ha⟩, h3.moved ha, h4.moved ha⟩
theorem am_SF.kept {bs sa : Nat} {U : State} {H H1 : Heap} (h : am_SF bs sa U H) (hq : ∀ a : Nat, a < H.size → ¬ (fun q => bs ≤ q) a → H1[a]? = H[a]?) : am_SF bs sa U H1 := by
  obtain ⟨h1, ⟨adV, h2⟩, h3, h4⟩ := h
  exact ⟨h1, ⟨adV, h2.kept hq⟩, h3.kept hq, h4.kept hq⟩
theorem am_RO.warm {X : am_X} {bs b sa : Nat} {s U : State} {H : Heap} (hW : s.WarmedH U.vm) (h : am_RO X bs b sa s H) : am_RO X bs b sa U H := by
  obtain ⟨h1, h2, h3, h4, h5, h6⟩ := h
  exact ⟨h1.moved hW.alike, h2, h3, h4.moved hW.alike, h5.warmM hW, h6.warm hW⟩
theorem am_RO.same {X : am_X} {bs b sa : Nat} {s U : State} {H : Heap} (hv : U.vm = s.vm) (h : am_RO X bs b sa s H) : am_RO X bs b sa U H := by
  obtain ⟨h1, h2, h3, h4, h5, h6⟩ := h
  have ha : s.vm.Alike U.vm := by rw [hv]; exact Vm.Alike.refl _
  exact ⟨h1.moved ha, h2, h3, h4.moved ha, va_Nw.same rfl hv.symm h5, h6.same hv⟩
theorem am_RO.kept {X : am_X} {bs b sa : Nat} {U : State} {H H1 : Heap} (h : am_RO X bs b sa U H) (hz : H.size ≤ H1.size) (hq : ∀ a : Nat, a < H.size → ¬ (fun q => bs ≤ q) a → H1[a]? = H[a]?) : am_RO X bs b sa U H1 := by
  obtain ⟨h1, h2, h3, h4, h5, h6⟩ := h
  exact ⟨h1.kept (hq b (by omega) (Nat.not_le.mpr h2)), h2, by omega, h4, h5, h6.kept hq⟩
def am_Cx (p : Program) (s : State) (m : MethodId) (args : Array Value) (meth : Method) (c : Code) (X : am_X) (tc : FieldType → ClassId) (D : va_G) (bs b sa o : Nat) (ini : Bool) (cc : ByteArray) (ret : Option FieldType) (nL n0 : Nat) : Prop :=
  p.tables.exec = Jvm.exec ∧ c.code = cc ∧ meth.sig.returnType = ret ∧ c.maxLocals = nL ∧ s.vm.findClass (am_own o) = some m.cls ∧ (∀ w ∈ am_T, w.before args s = true) ∧ va_K D vwCl (am_tys tc) s ∧ (ini = true → meth.name = "<init>") ∧ am_RO X bs b sa s s.heap ∧ s.heap.size = bs + n0
def am_Wt (p : Program) (l : Launch) (e : Env) (R : Room) (s : State) (m : MethodId) (args : Array Value) (below : List Frame) (meth : Method) (c : Code) (tc : FieldType → ClassId) (D : va_G) (bs b sa n0 t0 : Nat) (Q : State → Prop) (pc : Nat) (ls : Array Slot) (st : List Value) (σ : am_S) : Prop :=
  ∀ H locs, va_P D vwCl (am_wl tc bs b sa σ) H → va_S (fun q => bs ≤ q) s.heap H locs → W p l e R s m args below meth c H locs (σ.1.length - n0) (am_tot σ - t0) Q (F0 m pc ls (st.map (am_rv bs b sa)))
/-- the abstract run's promise about the real one -/
def am_Snd (l : Launch) (X : am_X) (d o : Nat) (ini : Bool) (cc : ByteArray) (ret : Option FieldType) (pc : Nat) (L : am_L) (st : List Value) (σ : am_S) (out : Option Value × am_S) : Prop :=
  ∀ (p : Program) (e : Env) (R : Room) (s : State) (m : MethodId) (args : Array Value) (below : List Frame) (meth : Method) (c : Code) (tc : FieldType → ClassId) (D : va_G) (bs b sa nL n0 t0 : Nat) (Q : State → Prop) (ls : Array Slot),
    am_Cx p s m args meth c X tc D bs b sa o ini cc ret nL n0 → am_LR bs b sa ls nL L → n0 ≤ σ.1.length → t0 ≤ am_tot σ → out.2.1.length ≤ n0 + R.cells ∧ am_tot out.2 ≤ t0 + R.slots → d ≤ R.frames → 64 * d ≤ R.locals →
    (∀ pc' ls', am_end cc ret pc' out.1 → am_Wt p l e R s m args below meth c tc D bs b sa n0 t0 Q pc' ls' out.1.toList out.2) → am_Wt p l e R s m args below meth c tc D bs b sa n0 t0 Q pc ls st σ
def am_ws (m : am_M) : List Cond := Cond.code m.2.2.2.2.1 m.2.1 m.2.2.1 m.2.2.2.1 :: am_T
def am_rm (d mc ms : Nat) : Room := { frames := d, cells := mc, slots := ms, locals := 64 * d }
def am_B (X : am_X) (tc : FieldType → ClassId) (D : va_G) (bs b sa : Nat) (σ : am_S) (U : State) : Prop := va_P D vwCl (am_wl tc bs b sa σ) U.heap ∧ va_K D vwCl (am_tys tc) U ∧ am_RO X bs b sa U U.heap ∧ U.heap.size = bs + σ.1.length
def am_Q (tc : FieldType → ClassId) (D : va_G) (bs b sa : Nat) (v : Option Value) (σ' : am_S) : Array Value → State → Outcome → State → Prop := fun _ st o t => o = .returned (v.map (am_rv bs b sa)) ∧ va_P D vwCl (am_wl tc bs b sa σ') t.heap ∧ va_F (fun q => bs ≤ q) st t
theorem am_args_in {bs b sa : Nat} : ∀ (as : List Value) (k j : Nat) (v : Value), (am_args as)[j]? = some (some v) → (k + j, am_rv bs b sa v) ∈ lv_args k (as.map (am_rv bs b sa)) := by
  intro as
  induction as with
  | nil => intro k j v h; simp [am_args] at h
  | cons u r ih =>
    intro k j v h
    simp only [List.map_cons, lv_args, am_rv_cat]
    by_cases hc : u.category = 2
    · have e : am_args (u :: r) = some u :: none :: am_args r := by simp [am_args, hc]
      rw [e] at h
      cases j with
      | zero =>
        simp only [List.getElem?_cons_zero, Option.some.injEq] at h
        subst h
        exact List.mem_cons_self
      | succ j =>
        cases j with
        | zero => simp at h
        | succ j =>
          simp only [List.getElem?_cons_succ] at h
          have := ih (k + 2) j v h
          rw [if_pos hc]
          rw [show k + (j + 1 + 1) = k + 2 + j by omega]
          exact List.mem_cons_of_mem _ this
    · have e : am_args (u :: r) = some u :: am_args r := by simp [am_args, hc]
      rw [e] at h
      cases j with
      | zero =>
        simp only [List.getElem?_cons_zero, Option.some.injEq] at h
        subst h
        exact List.mem_cons_self
      | succ j =>
        simp only [List.getElem?_cons_succ] at h
        have := ih (k + 1) j v h
        rw [if_neg hc]
        rw [show k + (j + 1) = k + 1 + j by omega]
        exact List.mem_cons_of_mem _ this
theorem am_sl_len {bs b sa : Nat} : ∀ (as : List Value), (lg_sl (as.map (am_rv bs b sa))).length = (am_args as).length := by
  intro as
  induction as with
  | nil => rfl
  | cons u r ih =>
    by_cases hc : u.category = 2
    · simp only [lg_sl, am_args, List.map_cons, List.flatMap_cons, List.length_append, am_rv_cat, hc] at ih ⊢
      rw [ih]
      rfl
    · simp only [lg_sl, am_args, List.map_cons, List.flatMap_cons, List.length_append, am_rv_cat, hc] at ih ⊢
      rw [ih]
      rfl
theorem am_ent_LR {bs b sa : Nat} {as : List Value} {n : Nat} (h : (am_args as).length ≤ n) : am_LR bs b sa ((lg_sl (as.map (am_rv bs b sa)) ++ List.replicate (n - (lg_sl (as.map (am_rv bs b sa))).length) Slot.unset).toArray) n (am_ent as n) := by
  refine ⟨by simp [am_ent]; omega, am_has_sub (lv_entry (as.map (am_rv bs b sa)) (n := n) (by rw [am_sl_len]; exact h)) ?_⟩
  rintro ⟨j, w⟩ hq
  obtain ⟨v, hv, rfl⟩ := am_lp_mem.mp hq
  unfold am_ent at hv
  by_cases hj : j < (am_args as).length
  · rw [List.getElem?_append_left hj] at hv
    have := am_args_in (bs := bs) (b := b) (sa := sa) as 0 j v hv
    rwa [Nat.zero_add] at this
  · rw [List.getElem?_append_right (by omega), List.getElem?_replicate] at hv
    split at hv <;> simp at hv
theorem am_B_calling {X : am_X} {tc : FieldType → ClassId} {D : va_G} {bs b sa : Nat} {σ : am_S} {av : List Value} : FrameBlind (va_Pc av (am_B X tc D bs b sa σ)) := by
  intro a U g mk h
  obtain ⟨h1, h2, h3, h4, h5⟩ := h
  exact ⟨h1, h2, va_K.moved (u := U) (U := U.calling g mk a) (Vm.Alike.refl U.vm) h3, am_RO.same (s := U) (U := U.calling g mk a) rfl h4, h5⟩
set_option maxHeartbeats 4000000 in
theorem am_met {l : Launch} {X : am_X} {d κ : Nat} {m : am_M} {as : List Value} {σ σ' : am_S} {v : Option Value} {tc : FieldType → ClassId} {D : va_G} {bs b sa : Nat} (hS : am_Snd l X d m.1 m.2.2.2.2.2.2 m.2.1 m.2.2.2.1 0 (am_ent as m.2.2.1) [] σ (v, σ')) (hm : am_okM κ m) (hlen : (am_args as).length ≤ m.2.2.1) (hmono : σ.1.length ≤ σ'.1.length ∧ am_tot σ ≤ am_tot σ') :
    Met l m.2.2.2.2.1 (am_ws m) (am_rm d (σ'.1.length - σ.1.length) (am_tot σ' - am_tot σ)) (va_Pc (as.map (am_rv bs b sa)) (am_B X tc D bs b sa σ)) (am_Q tc D bs b sa v σ') (σ'.1.length - σ.1.length) (am_tot σ' - am_tot σ) (fun q => bs ≤ q) := by
  obtain ⟨o1, o2, o3, o4, o5, o6, o7, o8, -⟩ := hm
  refine Met.ofW (cc := m.2.1) (maxL := m.2.2.1) (ret := m.2.2.2.1) o7 rfl ?_
  intro p e s mi args below meth c s₁ B hml hv
  obtain ⟨rfl, hP, hK, hRO, hsz⟩ := hv
  have hts : ∀ w ∈ am_T, w.before (as.map (am_rv bs b sa)).toArray s = true := fun w hw => atoms_spec (ws := am_ws m) B.pre w (List.mem_cons_of_mem _ hw)
  have hown : s.vm.findClass (am_own m.1) = some mi.cls := by rw [o5]; exact findClass_of_methodNamed B.named
  have hlocks := B.notSynchronized
  have hx := B.exec
  have hb := B.bytes
  have hr := B.returns
  have hin : meth.name = m.2.2.2.2.1.name := (name_of_methodNamed B.named B.method).1
  have C : am_Cx p s mi (as.map (am_rv bs b sa)).toArray meth c X tc D bs b sa m.1 m.2.2.2.2.2.2 m.2.1 m.2.2.2.1 m.2.2.1 σ.1.length := ⟨hx, hb, hr, hml, hown, hts, hK, fun h => by rw [hin]; exact o8 h, hRO, hsz⟩
  rw [lg_entry_eq]
  have key := hS p e (headSpec (am_ws m) (am_rm d (σ'.1.length - σ.1.length) (am_tot σ' - am_tot σ))).room s mi (as.map (am_rv bs b sa)).toArray below meth c tc D bs b sa m.2.2.1 σ.1.length (am_tot σ) (MQ below (am_Q tc D bs b sa v σ') (as.map (am_rv bs b sa)).toArray s (σ'.1.length - σ.1.length) (am_tot σ' - am_tot σ) (fun q => bs ≤ q)) _ C (am_ent_LR hlen) (Nat.le_refl _) (Nat.le_refl _) ⟨by show σ'.1.length ≤ σ.1.length + (σ'.1.length - σ.1.length); omega, by show am_tot σ' ≤ am_tot σ + (am_tot σ' - am_tot σ); omega⟩ (Nat.le_refl d) (Nat.le_refl _) ?_ s.heap [] hP va_S.rf
  · simp only [Nat.sub_self] at key
    exact key
  · intro pc' ls' he H locs hP' hS'
    have hq : ∀ t : State, t.heap = H → s.WarmedH t.vm → am_Q tc D bs b sa v σ' (as.map (am_rv bs b sa)).toArray s (.returned (v.map (am_rv bs b sa))) t := fun t ht _ => ⟨rfl, by rw [ht]; exact hP', hS'.F ht⟩
    have hf : ∀ q ∈ locs, (fun q => bs ≤ q) q.base := hS'.2.2
    cases v with
    | none =>
      obtain ⟨e1, e2⟩ := he
      exact W.vret hx hb (hr.trans e1) hq hf e2
    | some w =>
      cases w with
      | int x =>
        obtain ⟨ty, e1, e2, e3⟩ := he
        exact W.zret hx hb (hr.trans e1) e2 hq hf e3
      | long x =>
        obtain ⟨e1, e2⟩ := he
        exact W.lret hx hb (hr.trans e1) hq hf e2
      | ref a =>
        obtain ⟨ty, e1, e2, e3⟩ := he
        exact W.aret hx hb (hr.trans e1) e2 (Or.inr ⟨_, rfl⟩) hq hf e3
      | _ => exact absurd he (by simp [am_end])
section AMC
variable {p : Program} {l : Launch} {e : Env} {R : Room} {s : State} {m : MethodId} {args : Array Value} {below : List Frame} {meth : Method} {c : Code} {H : Heap} {locs : List Loc} {cells slots mc ms pc : Nat} {Q : State → Prop} {ls : Array Slot} {st0 rest : List Value} {bs b sa : Nat} {tc : FieldType → ClassId} {D : va_G} {v : Option Value} {σ' : am_S} {a : Array Value}
/-- behind a call -/
theorem am_after (hr : va_Run p l e R s m args below meth c H locs cells slots mc ms (F0 m pc ls st0) rest (am_Q tc D bs b sa v σ' a) (fun q => bs ≤ q)) (hS : va_S (fun q => bs ≤ q) s.heap H locs)
    (kk : ∀ (H1 : Heap) (locs1 : List Loc), va_P D vwCl (am_wl tc bs b sa σ') H1 → va_S (fun q => bs ≤ q) s.heap H1 locs1 → W p l e R s m args below meth c H1 locs1 (cells + mc) (slots + ms) Q (F0 m (pc + 3) ls ((v.map (am_rv bs b sa)).toList ++ rest))) : W p l e R s m args below meth c H locs cells slots Q (F0 m pc ls st0) := by
  intro T hT X
  obtain ⟨w, st₀, t, T', L, h0, X', hL, e1, e2, ⟨hv, hP1, hz, hk⟩, st⟩ := hr T hT X
  cases hv
  rw [h0] at hz hk
  obtain ⟨t2, a1, b1⟩ := kk T'.heap (locs ++ L) (by rw [e1]; exact hP1) ⟨Nat.le_trans hS.1 (by rw [e1]; exact hz), fun q h1 h2 => by rw [e1, hk q (Nat.lt_of_lt_of_le h1 hS.1) h2]; exact hS.2.1 q h1 h2, fun q hq => by
      rcases List.mem_append.mp hq with h | h
      · exact hS.2.2 q h
      · exact hL q h⟩ T' rfl X'
  exact ⟨t2, st t2 a1, b1⟩
/-- the heap's size, out of the walk -/
theorem am_size {σ : am_S} {g : JFrame} {n0 : Nat} (hs0 : s.heap.size = bs + n0) (hn0 : n0 ≤ σ.1.length) (hP : va_P D vwCl (am_wl tc bs b sa σ) H) (hS : va_S (fun q => bs ≤ q) s.heap H locs) (kk : H.size = bs + σ.1.length → W p l e R s m args below meth c H locs (σ.1.length - n0) slots Q g) : W p l e R s m args below meth c H locs (σ.1.length - n0) slots Q g := by
  intro T hT Y
  have h1 : T.heap.size ≤ s.heap.size + (σ.1.length - n0) := Y.heapSize
  have h2 : bs + σ.1.length ≤ H.size := by
    have h3 := hS.1
    by_cases h4 : σ.1.length = n0
    · omega
    · have h5 : σ.1.length - 1 < σ.1.length := by omega
      have h6 := (hP _ _ (am_wl_at (tc := tc) (bs := bs) (b := b) (sa := sa) h5)).lt
      simp only at h6
      omega
  exact kk (by rw [hT] at h1; omega) T hT Y
end AMC
