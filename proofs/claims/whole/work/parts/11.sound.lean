/-! THE REAL MACHINE DOES AS THE ABSTRACT ONE -/
/-- the method's end -/
def am_end (cc : ByteArray) (ret : Option FieldType) (pc : Nat) (v : Option Value) : Prop := match v with
  | none => ret = none ∧ decode cc pc = .ok (.return_, 1)
  | some (.int x) => ∃ ty, ret = some ty ∧ narrow ty (.int x) = .int x ∧ decode cc pc = .ok (.ireturn, 1)
  | some (.long _) => ret = some .long ∧ decode cc pc = .ok (.lreturn, 1)
  | some (.ref _) => ∃ ty, ret = some ty ∧ ((∃ n, ty = .object n) ∨ ∃ t, ty = .array t) ∧ decode cc pc = .ok (.areturn, 1)
  | _ => False
theorem am_ret_end {i : Instr} {ret : Option FieldType} {st : List Value} {v : Option Value} {cc : ByteArray} {pc : Nat} (h : am_ret i ret st = some v) (hd : decode cc pc = .ok (i, 1)) : am_end cc ret pc v ∧ st = v.toList := by
  unfold am_ret at h
  split at h
  · split at h
    · rename_i hn
      simp only [Option.some.injEq] at h
      subst h
      exact ⟨⟨_, rfl, hn, hd⟩, rfl⟩
    · simp at h
  · simp only [Option.some.injEq] at h
    subst h
    exact ⟨⟨rfl, hd⟩, rfl⟩
  · simp only [Option.some.injEq] at h
    subst h
    exact ⟨⟨_, rfl, Or.inl ⟨_, rfl⟩, hd⟩, rfl⟩
  · simp only [Option.some.injEq] at h
    subst h
    exact ⟨⟨_, rfl, Or.inr ⟨_, rfl⟩, hd⟩, rfl⟩
  · simp only [Option.some.injEq] at h
    subst h
    exact ⟨⟨rfl, hd⟩, rfl⟩
  · simp at h
/-- String.length and String.charAt on the text -/
def am_strW (l : Launch) : Prop := ∀ (p : Program) (e : Env) (R : Room) (s : State) (m : MethodId) (args : Array Value) (below : List Frame) (meth : Method) (c : Code) (H : Heap) (locs : List Loc) (cells slots : Nat) (Q : State → Prop) (cc : ByteArray) (pc : Nat) (ls : Array Slot) (rest : List Value) (bs sa : Nat),
  p.tables.exec = Jvm.exec → c.code = cc → c.maxLocals = ls.size → s.vm.findClass RX9 = some m.cls → (∀ w ∈ am_T, w.before args s = true) → am_SF bs sa s s.heap → bs ≤ s.heap.size → va_S (fun q => bs ≤ q) s.heap H locs → 10 ≤ R.frames → 640 ≤ R.locals → cells ≤ R.cells → slots ≤ R.slots → am_cat rest ≤ 8 →
  (decode cc pc = .ok (.invokevirtual 41, 3) → (∀ locs1, va_S (fun q => bs ≤ q) s.heap H locs1 → W p l e R s m args below meth c H locs1 cells slots Q (F0 m (pc + 3) ls (.int 91 :: rest))) → W p l e R s m args below meth c H locs cells slots Q (F0 m pc ls (.ref sa :: rest))) ∧
  (∀ j : Int32, am_in j 91 → decode cc pc = .ok (.invokevirtual 46, 3) → (∀ locs1, va_S (fun q => bs ≤ q) s.heap H locs1 → W p l e R s m args below meth c H locs1 cells slots Q (F0 m (pc + 3) ls (.int (am_chr j.toNatClampNeg) :: rest))) → W p l e R s m args below meth c H locs cells slots Q (F0 m pc ls (.int j :: .ref sa :: rest)))
theorem am_SF.warm {bs sa : Nat} {s U : State} {H : Heap} (hW : s.WarmedH U.vm) (h : am_SF bs sa s H) : am_SF bs sa U H := by
  obtain ⟨h1, ⟨adV, h2⟩, h3, h4⟩ := h
  exact ⟨h1.warm hW, ⟨adV, h2.moved hW.alike⟩, h3.moved hW.alike, h4.moved hW.alike⟩
theorem am_SF.same {bs sa : Nat} {s U : State} {H : Heap} (hv : U.vm = s.vm) (h : am_SF bs sa s H) : am_SF bs sa U H := by
  obtain ⟨h1, ⟨adV, h2⟩, h3, h4⟩ := h
  have ha : s.vm.Alike U.vm := by rw [hv]; exact Vm.Alike.refl _
  exact ⟨h1.same hv, ⟨adV, h2.moved ha⟩, h3.moved ha, h4.moved ha⟩
theorem am_SF.kept {bs sa : Nat} {U : State} {H H1 : Heap} (h : am_SF bs sa U H) (hq : ∀ a : Nat, a < H.size → ¬ (fun q => bs ≤ q) a → H1[a]? = H[a]?) : am_SF bs sa U H1 := by
  obtain ⟨h1, ⟨adV, h2⟩, h3, h4⟩ := h
  exact ⟨h1, ⟨adV, h2.kept hq⟩, h3.kept hq, h4.kept hq⟩
theorem am_RO.warm {X : am_X} {bs b sa : Nat} {s U : State} {H : Heap} (hW : s.WarmedH U.vm) (h : am_RO X bs b sa s H) : am_RO X bs b sa U H := by
  obtain ⟨h1, h2, h3, h4, h5, h6⟩ := h
  exact ⟨h1.moved hW.alike, h2, h3, h4.moved hW.alike, h5.warmM hW, h6.warm hW⟩
theorem am_RO.same {X : am_X} {bs b sa : Nat} {s U : State} {H : Heap} (hv : U.vm = s.vm) (h : am_RO X bs b sa s H) : am_RO X bs b sa U H := by
  obtain ⟨h1, h2, h3, h4, h5, h6⟩ := h
  have ha : s.vm.Alike U.vm := by rw [hv]; exact Vm.Alike.refl _
  exact ⟨h1.moved ha, h2, h3, h4.moved ha, va_Nw.same rfl hv.symm h5, h6.same hv⟩
theorem am_RO.kept {X : am_X} {bs b sa : Nat} {U : State} {H H1 : Heap} (h : am_RO X bs b sa U H) (hz : H.size ≤ H1.size) (hq : ∀ a : Nat, a < H.size → ¬ (fun q => bs ≤ q) a → H1[a]? = H[a]?) : am_RO X bs b sa U H1 := by
  obtain ⟨h1, h2, h3, h4, h5, h6⟩ := h
  exact ⟨h1.kept (hq b (by omega) (Nat.not_le.mpr h2)), h2, by omega, h4, h5, h6.kept hq⟩
def am_Cx (p : Program) (s : State) (m : MethodId) (args : Array Value) (meth : Method) (c : Code) (X : am_X) (tc : FieldType → ClassId) (D : va_G) (bs b sa o : Nat) (ini : Bool) (cc : ByteArray) (ret : Option FieldType) (nL n0 : Nat) : Prop :=
  p.tables.exec = Jvm.exec ∧ c.code = cc ∧ meth.sig.returnType = ret ∧ c.maxLocals = nL ∧ s.vm.findClass (am_own o) = some m.cls ∧ (∀ w ∈ am_T, w.before args s = true) ∧ va_K D vwCl (am_tys tc) s ∧ (ini = true → meth.name = "<init>") ∧ am_RO X bs b sa s s.heap ∧ s.heap.size = bs + n0
def am_Wt (p : Program) (l : Launch) (e : Env) (R : Room) (s : State) (m : MethodId) (args : Array Value) (below : List Frame) (meth : Method) (c : Code) (tc : FieldType → ClassId) (D : va_G) (bs b sa n0 t0 : Nat) (Q : State → Prop) (pc : Nat) (ls : Array Slot) (st : List Value) (σ : am_S) : Prop :=
  ∀ H locs, va_P D vwCl (am_wl tc bs b sa σ) H → va_S (fun q => bs ≤ q) s.heap H locs → W p l e R s m args below meth c H locs (σ.1.length - n0) (am_tot σ - t0) Q (F0 m pc ls (st.map (am_rv bs b sa)))
/-- the abstract run's promise about the real one -/
def am_Snd (l : Launch) (X : am_X) (d o : Nat) (ini : Bool) (cc : ByteArray) (ret : Option FieldType) (pc : Nat) (L : am_L) (st : List Value) (σ : am_S) (out : Option Value × am_S) : Prop :=
  ∀ (p : Program) (e : Env) (R : Room) (s : State) (m : MethodId) (args : Array Value) (below : List Frame) (meth : Method) (c : Code) (tc : FieldType → ClassId) (D : va_G) (bs b sa nL n0 t0 : Nat) (Q : State → Prop) (ls : Array Slot),
    am_Cx p s m args meth c X tc D bs b sa o ini cc ret nL n0 → am_LR bs b sa ls nL L → n0 ≤ σ.1.length → t0 ≤ am_tot σ → out.2.1.length ≤ n0 + R.cells ∧ am_tot out.2 ≤ t0 + R.slots → d ≤ R.frames → 64 * d ≤ R.locals →
    (∀ pc' ls', am_end cc ret pc' out.1 → am_Wt p l e R s m args below meth c tc D bs b sa n0 t0 Q pc' ls' out.1.toList out.2) → am_Wt p l e R s m args below meth c tc D bs b sa n0 t0 Q pc ls st σ
