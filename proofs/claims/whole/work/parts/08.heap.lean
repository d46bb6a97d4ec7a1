/-! THE HEAP -/
def am_tyOk : FieldType → Bool
  | .int => true
  | .long => true
  | .object _ => true
  | .array _ => true
  | _ => false
theorem am_cls (ci : Nat) (h : ci < 12) : vwCl[ci]? = some (am_nm ci, am_fT ci, am_N ci) ∧ (∀ w ∈ u_ws (am_nm ci) (am_fT ci) (am_N ci), w ∈ am_T) ∧ (∀ k, k < am_N ci → parseFieldDescriptor (am_fT ci k).2.2.1 = some (am_ty ci k)) ∧ (∀ a, a < am_N ci → ∀ b, b < am_N ci → a ≠ b → (am_fT ci a).2.1 ≠ (am_fT ci b).2.1) ∧ (∀ k, k < am_N ci → am_tyOk (am_ty ci k) = true) := match ci, h with
  | 0, _ => ⟨rfl, am_lay_0, tyX0_ok, nmX0, by decide +kernel⟩
  | 1, _ => ⟨rfl, am_lay_1, tyX1_ok, nmX1, by decide +kernel⟩
  | 2, _ => ⟨rfl, am_lay_2, tyX2_ok, nmX2, by decide +kernel⟩
  | 3, _ => ⟨rfl, am_lay_3, tyX3_ok, nmX3, by decide +kernel⟩
  | 4, _ => ⟨rfl, am_lay_4, tyX4_ok, nmX4, by decide +kernel⟩
  | 5, _ => ⟨rfl, am_lay_5, tyX5_ok, nmX5, by decide +kernel⟩
  | 6, _ => ⟨rfl, am_lay_6, tyX7_ok, nmX7, by decide +kernel⟩
  | 7, _ => ⟨rfl, am_lay_7, tyX8_ok, nmX8, by decide +kernel⟩
  | 8, _ => ⟨rfl, am_lay_8, tyX9_ok, nmX9, by decide +kernel⟩
  | 9, _ => ⟨rfl, am_lay_9, tyX10_ok, nmX10, by decide +kernel⟩
  | 10, _ => ⟨rfl, am_lay_10, tyX11_ok, nmX11, by decide +kernel⟩
  | 11, _ => ⟨rfl, am_lay_11, tyX12_ok, nmX12, by decide +kernel⟩
  | n + 12, h => absurd h (by omega)
theorem am_look_in {α : Type} {l : List (Nat × α)} {i : Nat} {v : α} (h : am_look l i = some v) : (i, v) ∈ l := by
  induction l with
  | nil => simp [am_look] at h
  | cons q r ih =>
    obtain ⟨j, u⟩ := q
    unfold am_look at h
    split at h
    · rename_i e
      simp only [Option.some.injEq] at h
      simp only at e
      subst e
      subst h
      exact List.mem_cons_self
    · exact List.mem_cons_of_mem _ (ih h)
/-- the text of Tape, the static that its charAt reads -/
def am_byt : List Int32 := am_txt.toList.map (fun c => Int32.ofNat c.toNat)
def am_SF (bs sa : Nat) (U : State) (H : Heap) : Prop := vk_R RX9 39 am_txt sa U ∧ (∃ adV : Nat → Nat, vk_S 1 [91] [am_byt] (fun _ => sa) adV (fun q => bs ≤ q) U H) ∧ va_Z "java/lang/String" "COMPACT_STRINGS" "Z" (.int 1) (fun q => bs ≤ q) U H ∧ va_Zq "jdk/internal/util/Preconditions" "SIOOBE_FORMATTER" "Ljava/util/function/BiFunction;" (fun q => bs ≤ q) U H
/-- what is only read -/
def am_RO (X : am_X) (bs b sa : Nat) (U : State) (H : Heap) : Prop := va_X b X.1 X.2 U H ∧ b < bs ∧ bs ≤ H.size ∧ va_AO RX7 U ∧ va_Nw (.methodLinkNest RX4 29 yX2_init RX11) U ∧ am_SF bs sa U H
def am_KK (tc : FieldType → ClassId) (D : va_G) (U : State) : Prop := va_K D vwCl (am_tys tc) U
theorem am_tk_ok {tc : FieldType → ClassId} {ty : FieldType} {k : Nat} (h : am_tk ty = some k) : (am_tys tc)[k]? = some (tc ty, ty) := by
  unfold am_tk at h
  split at h
  · cases h; rfl
  · cases h; rfl
  · cases h; rfl
  · cases h; rfl
  · split at h
    · rename_i e
      subst e
      cases h
      rfl
    · cases h
  · cases h
section AMH
variable {p : Program} {l : Launch} {e : Env} {R : Room} {s : State} {m : MethodId} {args : Array Value} {below : List Frame} {meth : Method} {c : Code} {H : Heap} {locs : List Loc} {Q : State → Prop}
variable {cc : ByteArray} {pc k n0 t0 : Nat} {ls : Array Slot} {st st' : List Value} {i : Instr} {bs b sa : Nat} {tc : FieldType → ClassId} {D : va_G} {σ σ' : am_S} {X : am_X} {o : Nat} {ini : Bool}
theorem am_fresh {q : Nat} {x : va_E} {H1 : Heap} (hP : va_P D vwCl (am_wl tc bs b sa σ ++ [(q, x)]) H1) (hD : va_D (fun q => bs ≤ q) (am_wl tc bs b sa σ ++ [(q, x)])) (hz : H1.size ≤ bs + σ.1.length + 1) : q = bs + σ.1.length := by
  have h1 : (am_wl tc bs b sa σ ++ [(q, x)])[σ.1.length]? = some (q, x) := by
    rw [List.getElem?_append_right (by rw [am_wl_len]; exact Nat.le_refl _), am_wl_len]
    simp
  have h2 : q < H1.size := (hP _ _ h1).lt
  have h3 : bs ≤ q := hD.2 _ _ h1
  by_cases h4 : q = bs + σ.1.length
  · exact h4
  · have h5 : q - bs < σ.1.length := by omega
    have h6 : (am_wl tc bs b sa σ ++ [(q, x)])[q - bs]? = some (bs + (q - bs), am_cel tc bs b sa σ (q - bs)) := by
      rw [List.getElem?_append_left (by rw [am_wl_len]; exact h5), am_wl_at h5]
    have h7 := hD.1 _ _ _ _ h6 h1 (by show bs + (q - bs) = q; omega)
    omega
theorem am_fw_cel {ci k a : Nat} {v : Value} (h : am_fw (am_ty ci k) σ a k v = some σ') (ha : σ.1[a]? = some (.inl ci)) (hk : k < am_N ci) : (am_wl tc bs b sa σ).set a (bs + a, .inr (ci, ((List.range (am_N ci)).map (fun k => am_rv bs b sa (am_fv (am_ty ci k) σ a k))).set k (am_rv bs b sa v))) = am_wl tc bs b sa σ' ∧ narrow (am_ty ci k) (am_rv bs b sa v) = am_rv bs b sa v ∧ fits (am_ty ci k) (am_rv bs b sa v) = true := by
  have key : ∀ τ : am_S, τ.1 = σ.1 → am_fv (am_ty ci k) τ a k = v → (∀ j, j ≠ k → ∀ ty, am_fv ty τ a j = am_fv ty σ a j) → (∀ x, x ≠ a → am_cel tc bs b sa τ x = am_cel tc bs b sa σ x) → (am_wl tc bs b sa σ).set a (bs + a, .inr (ci, ((List.range (am_N ci)).map (fun k => am_rv bs b sa (am_fv (am_ty ci k) σ a k))).set k (am_rv bs b sa v))) = am_wl tc bs b sa τ := by
    intro τ h1 h2 h3 h4
    refine am_wl_set (am_lt ha) h1 ?_ h4
    unfold am_cel
    rw [h1, ha]
    simp only
    congr 2
    apply List.ext_getElem?
    intro j
    by_cases hj : j = k
    · subst hj
      rw [List.getElem?_set_self (by simpa using hk)]
      simp [hk, h2]
    · rw [List.getElem?_set_ne (Ne.symm hj)]
      by_cases hjN : j < am_N ci <;> simp [hjN, h3 j hj]
  unfold am_fw at h
  split at h
  · rename_i x e1
    simp only [Option.some.injEq] at h
    subst h
    refine ⟨key _ rfl (by rw [e1]; simp [am_fv, am_u2]) (fun j hj ty => by cases ty <;> simp [am_fv, am_u2, hj]) (fun x hx => am_cel_cong rfl (am_u2_ne hx) rfl rfl), by rw [e1]; rfl, by rw [e1]; rfl⟩
  · rename_i x e1
    simp only [Option.some.injEq] at h
    subst h
    refine ⟨key _ rfl (by rw [e1]; simp [am_fv, am_u2]) (fun j hj ty => by cases ty <;> simp [am_fv, am_u2, hj]) (fun x hx => am_cel_cong rfl rfl (am_u2_ne hx) rfl), by rw [e1]; rfl, by rw [e1]; rfl⟩
  · rename_i x e1
    simp only [Option.some.injEq] at h
    subst h
    refine ⟨key _ rfl (by rw [e1]; simp [am_fv, am_u2, am_rf]) (fun j hj ty => by cases ty <;> simp [am_fv, am_u2, hj]) (fun x hx => am_cel_cong rfl rfl rfl (am_u2_ne hx)), by rw [e1]; rfl, by rw [e1]; rfl⟩
  · rename_i x e1
    simp only [Option.some.injEq] at h
    subst h
    refine ⟨key _ rfl (by rw [e1]; simp [am_fv, am_u2, am_rf]) (fun j hj ty => by cases ty <;> simp [am_fv, am_u2, hj]) (fun x hx => am_cel_cong rfl rfl rfl (am_u2_ne hx)), by rw [e1]; rfl, by rw [e1]; rfl⟩
  · simp at h
theorem am_fs_at {ci k a : Nat} (hk : k < am_N ci) : ((List.range (am_N ci)).map (fun k => am_rv bs b sa (am_fv (am_ty ci k) σ a k)))[k]? = some (am_rv bs b sa (am_fv (am_ty ci k) σ a k)) := by
  simp [hk]
theorem am_cel_arrI {a n : Nat} {ty : FieldType} {f : Nat → Nat → Int32} (ha : σ.1[a]? = some (.inr (ty, n))) (ht : ty = .int ∨ ty = .byte ∨ ty = .boolean) : am_cel tc bs b sa (σ.1, f, σ.2.2.1, σ.2.2.2) a = .inl (tc ty, n, .inl (f a)) := by
  unfold am_cel
  simp only [ha]
  rcases ht with rfl | rfl | rfl <;> rfl
end AMH
