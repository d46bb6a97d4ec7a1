/-! THE WORLD: how the machine's numbered objects lie on the heap: object a at the address bs + a -/
def am_rv (bs b sa : Nat) : Value → Value
  | .ref a => .ref (bs + a)
  | .retAddr 0 => .ref b
  | .retAddr _ => .ref sa
  | v => v
theorem am_rv_cat (bs b sa : Nat) (v : Value) : (am_rv bs b sa v).category = v.category := by
  cases v with
  | retAddr k => cases k <;> rfl
  | _ => rfl
theorem am_rvI (bs b sa : Nat) (x : Int32) : am_rv bs b sa (.int x) = .int x := rfl
theorem am_rvL (bs b sa : Nat) (x : Int64) : am_rv bs b sa (.long x) = .long x := rfl
theorem am_rvN (bs b sa : Nat) : am_rv bs b sa .null = .null := rfl
theorem am_rvR (bs b sa a : Nat) : am_rv bs b sa (.ref a) = .ref (bs + a) := rfl
theorem am_rv0 (bs b sa : Nat) : am_rv bs b sa (.retAddr 0) = .ref b := rfl
theorem am_rv1 (bs b sa : Nat) : am_rv bs b sa (.retAddr 1) = .ref sa := rfl
def am_arr (bs : Nat) (σ : am_S) (a : Nat) (ty : FieldType) (n : Nat) : vp_A := (n, match ty with
  | .long => .inr (.inl (σ.2.2.1 a))
  | .object _ => .inr (.inr (.inr (.inr (fun i => (σ.2.2.2 a i).map (fun x => bs + x)))))
  | _ => .inl (σ.2.1 a))
def am_cel (tc : FieldType → ClassId) (bs b sa : Nat) (σ : am_S) (a : Nat) : va_E := match σ.1[a]? with
  | some (.inr (ty, n)) => .inl (tc ty, am_arr bs σ a ty n)
  | some (.inl ci) => .inr (ci, (List.range (am_N ci)).map (fun k => am_rv bs b sa (am_fv (am_ty ci k) σ a k)))
  | none => .inr (0, [])
def am_wl (tc : FieldType → ClassId) (bs b sa : Nat) (σ : am_S) : va_W := (List.range σ.1.length).map (fun a => (bs + a, am_cel tc bs b sa σ a))
def am_tys (tc : FieldType → ClassId) : List (ClassId × FieldType) := [(tc .int, .int), (tc .long, .long), (tc .byte, .byte), (tc .boolean, .boolean), (tc (.object RX7), .object RX7)]
section AMW
variable {tc : FieldType → ClassId} {bs b sa : Nat} {σ σ' : am_S}
theorem am_wl_len : (am_wl tc bs b sa σ).length = σ.1.length := by simp [am_wl]
theorem am_wl_at {a : Nat} (h : a < σ.1.length) : (am_wl tc bs b sa σ)[a]? = some (bs + a, am_cel tc bs b sa σ a) := by
  simp [am_wl, h]
theorem am_wl_inv {k : Nat} {q : Nat × va_E} (h : (am_wl tc bs b sa σ)[k]? = some q) : k < σ.1.length ∧ q = (bs + k, am_cel tc bs b sa σ k) := by
  have hk : k < σ.1.length := by
    have := (List.getElem?_eq_some_iff.mp h).1
    rwa [am_wl_len] at this
  rw [am_wl_at hk] at h
  exact ⟨hk, (Option.some.inj h).symm⟩
theorem am_lt {a : Nat} {x : am_Sh} (h : σ.1[a]? = some x) : a < σ.1.length := (List.getElem?_eq_some_iff.mp h).1
theorem am_wl_arr {a n : Nat} {ty : FieldType} (h : σ.1[a]? = some (.inr (ty, n))) : (am_wl tc bs b sa σ)[a]? = some (bs + a, .inl (tc ty, am_arr bs σ a ty n)) := by
  rw [am_wl_at (am_lt h)]
  simp [am_cel, h]
theorem am_wl_obj {a ci : Nat} (h : σ.1[a]? = some (.inl ci)) : (am_wl tc bs b sa σ)[a]? = some (bs + a, .inr (ci, (List.range (am_N ci)).map (fun k => am_rv bs b sa (am_fv (am_ty ci k) σ a k)))) := by
  rw [am_wl_at (am_lt h)]
  simp [am_cel, h]
theorem am_D : va_D (fun q => bs ≤ q) (am_wl tc bs b sa σ) := by
  refine ⟨fun i j p q hi hj hpq => ?_, fun k q hk => ?_⟩
  · obtain ⟨-, rfl⟩ := am_wl_inv hi
    obtain ⟨-, rfl⟩ := am_wl_inv hj
    simp at hpq
    exact hpq
  · obtain ⟨-, rfl⟩ := am_wl_inv hk
    simp
/-- one cell is written -/
theorem am_wl_set {a : Nat} {e : va_E} (ha : a < σ.1.length) (h1 : σ'.1 = σ.1) (he : am_cel tc bs b sa σ' a = e) (ho : ∀ x, x ≠ a → am_cel tc bs b sa σ' x = am_cel tc bs b sa σ x) : (am_wl tc bs b sa σ).set a (bs + a, e) = am_wl tc bs b sa σ' := by
  apply List.ext_getElem?
  intro k
  have hl : a < (am_wl tc bs b sa σ).length := by rw [am_wl_len]; exact ha
  by_cases hk : k = a
  · subst hk
    rw [List.getElem?_set_self hl, am_wl_at (by rw [h1]; exact ha), he]
  · rw [List.getElem?_set_ne (Ne.symm hk)]
    by_cases hk2 : k < σ.1.length
    · rw [am_wl_at hk2, am_wl_at (by rw [h1]; exact hk2), ho k hk]
    · rw [List.getElem?_eq_none (by rw [am_wl_len]; omega), List.getElem?_eq_none (by rw [am_wl_len, h1]; omega)]
theorem am_u2_ne {α : Type} {f : Nat → Nat → α} {a k x : Nat} {v : α} (h : x ≠ a) : am_u2 f a k v x = f x := by
  funext y
  simp [am_u2, h]
theorem am_u2_eq {α : Type} (f : Nat → Nat → α) (a k : Nat) (v : α) : am_u2 f a k v a = fun y => if y = k then v else f a y := by
  funext y
  simp [am_u2]
/-- the cell depends on what the functions say of its number -/
theorem am_cel_cong {x : Nat} (h0 : σ'.1 = σ.1) (h1 : σ'.2.1 x = σ.2.1 x) (h2 : σ'.2.2.1 x = σ.2.2.1 x) (h3 : σ'.2.2.2 x = σ.2.2.2 x) : am_cel tc bs b sa σ' x = am_cel tc bs b sa σ x := by
  have hf : ∀ (ty : FieldType) (k : Nat), am_fv ty σ' x k = am_fv ty σ x k := by
    intro ty k
    cases ty <;> simp [am_fv, h1, h2, h3]
  unfold am_cel
  rw [h0]
  cases σ.1[x]? with
  | none => rfl
  | some s =>
    cases s with
    | inl ci => simp [hf]
    | inr q =>
      obtain ⟨ty, n⟩ := q
      cases ty <;> simp [am_arr, h1, h2, h3]
theorem am_wl_setI {a k : Nat} {v : Int32} {e : va_E} (ha : a < σ.1.length) (he : am_cel tc bs b sa (σ.1, am_u2 σ.2.1 a k v, σ.2.2.1, σ.2.2.2) a = e) : (am_wl tc bs b sa σ).set a (bs + a, e) = am_wl tc bs b sa (σ.1, am_u2 σ.2.1 a k v, σ.2.2.1, σ.2.2.2) :=
  am_wl_set ha rfl he (fun _ hx => am_cel_cong rfl (am_u2_ne hx) rfl rfl)
theorem am_wl_setL {a k : Nat} {v : Int64} {e : va_E} (ha : a < σ.1.length) (he : am_cel tc bs b sa (σ.1, σ.2.1, am_u2 σ.2.2.1 a k v, σ.2.2.2) a = e) : (am_wl tc bs b sa σ).set a (bs + a, e) = am_wl tc bs b sa (σ.1, σ.2.1, am_u2 σ.2.2.1 a k v, σ.2.2.2) :=
  am_wl_set ha rfl he (fun _ hx => am_cel_cong rfl rfl (am_u2_ne hx) rfl)
theorem am_wl_setR {a k : Nat} {v : Option Nat} {e : va_E} (ha : a < σ.1.length) (he : am_cel tc bs b sa (σ.1, σ.2.1, σ.2.2.1, am_u2 σ.2.2.2 a k v) a = e) : (am_wl tc bs b sa σ).set a (bs + a, e) = am_wl tc bs b sa (σ.1, σ.2.1, σ.2.2.1, am_u2 σ.2.2.2 a k v) :=
  am_wl_set ha rfl he (fun _ hx => am_cel_cong rfl rfl rfl (am_u2_ne hx))
/-- a new object behind the others -/
theorem am_new_len {sh : am_Sh} : (am_new sh σ).1.length = σ.1.length + 1 := by simp [am_new]
theorem am_new_old {sh : am_Sh} {x : Nat} (h : x < σ.1.length) : am_cel tc bs b sa (am_new sh σ) x = am_cel tc bs b sa σ x := by
  have hx : x ≠ σ.1.length := by omega
  have hf : ∀ (ty : FieldType) (k : Nat), am_fv ty (am_new sh σ) x k = am_fv ty σ x k := by
    intro ty k
    cases ty <;> simp [am_fv, am_new, hx]
  unfold am_cel
  rw [show (am_new sh σ).1[x]? = σ.1[x]? by simp [am_new, List.getElem?_append_left h]]
  cases σ.1[x]? with
  | none => rfl
  | some s =>
    cases s with
    | inl ci => simp [hf]
    | inr q =>
      obtain ⟨ty, n⟩ := q
      cases ty <;> simp [am_arr, am_new, hx]
theorem am_wl_new {sh : am_Sh} {e : va_E} (he : am_cel tc bs b sa (am_new sh σ) σ.1.length = e) : am_wl tc bs b sa σ ++ [(bs + σ.1.length, e)] = am_wl tc bs b sa (am_new sh σ) := by
  apply List.ext_getElem?
  intro k
  by_cases hk : k < σ.1.length
  · rw [List.getElem?_append_left (by rw [am_wl_len]; exact hk), am_wl_at hk, am_wl_at (by rw [am_new_len]; omega), am_new_old hk]
  · rw [List.getElem?_append_right (by rw [am_wl_len]; omega), am_wl_len]
    by_cases hk2 : k = σ.1.length
    · subst hk2
      rw [am_wl_at (by rw [am_new_len]; omega), he]
      simp
    · rw [List.getElem?_eq_none (by simp; omega), List.getElem?_eq_none (by rw [am_wl_len, am_new_len]; omega)]
end AMW
/-- how many slots -/
def am_sz : am_Sh → Nat
  | .inl ci => am_N ci
  | .inr q => q.2
def am_tot (σ : am_S) : Nat := (σ.1.map am_sz).sum
theorem am_tot_new {sh : am_Sh} {σ : am_S} : am_tot (am_new sh σ) = am_tot σ + am_sz sh := by simp [am_tot, am_new]
theorem am_fw_sh {ty : FieldType} {σ σ' : am_S} {a k : Nat} {v : Value} (h : am_fw ty σ a k v = some σ') : σ'.1 = σ.1 := by
  unfold am_fw at h
  split at h <;> simp at h <;> rw [← h]
theorem am_hp_sh {X : am_X} {o : Nat} {ini : Bool} {i : Instr} {st st' : List Value} {σ σ' : am_S} {k : Nat} (h : am_hp X o ini i st σ = some (k, st', σ')) : σ.1.length ≤ σ'.1.length ∧ am_tot σ ≤ am_tot σ' := by
  have same : ∀ {τ : am_S}, τ.1 = σ.1 → σ.1.length ≤ τ.1.length ∧ am_tot σ ≤ am_tot τ := fun e => by
    unfold am_tot; rw [e]; exact ⟨Nat.le_refl _, Nat.le_refl _⟩
  have new : ∀ {sh : am_Sh}, σ.1.length ≤ (am_new sh σ).1.length ∧ am_tot σ ≤ am_tot (am_new sh σ) := fun {sh} => by
    rw [am_tot_new, am_new_len]; omega
  unfold am_hp at h
  split at h
  all_goals first
    | (simp at h; done)
    | (unfold am_ar at h; split at h <;> (try split at h) <;> simp at h <;> (obtain ⟨-, -, rfl⟩ := h; exact same rfl))
    | (unfold am_aw at h; split at h <;> (try split at h) <;> simp at h <;> (obtain ⟨-, -, rfl⟩ := h; exact same rfl))
    | (split at h <;> (try split at h) <;> simp at h <;> (obtain ⟨-, -, rfl⟩ := h; first | exact same rfl | exact new))
    | (simp at h; obtain ⟨-, -, rfl⟩ := h; exact same rfl)
    | skip
  split at h
  · split at h
    · rw [Option.map_eq_some_iff] at h
      obtain ⟨τ, h2, h3⟩ := h
      simp only [Prod.mk.injEq] at h3
      obtain ⟨-, -, rfl⟩ := h3
      exact same (am_fw_sh h2)
    · simp at h
  · simp at h
