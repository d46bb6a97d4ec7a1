theorem am_call_inv {o κ rc : Nat} {m : am_M} {i : Instr} (h : am_call o i = some (κ, rc, m)) : ∃ ix, am_ct o ix = some (κ, rc, m) ∧ ((i = .invokevirtual ix ∧ (κ = 0 ∨ κ = 6 ∨ κ = 7)) ∨ (i = .invokestatic ix ∧ (κ = 1 ∨ κ = 4 ∨ κ = 8 ∨ κ = 9)) ∨ (i = .invokespecial ix ∧ (κ = 2 ∨ κ = 3 ∨ κ = 5))) := by
  unfold am_call at h
  split at h
  · rename_i ix
    refine ⟨ix, ?_⟩
    split at h <;> simp only [Option.some.injEq, Prod.mk.injEq, reduceCtorEq] at h
    all_goals
      rename_i r hr
      obtain ⟨rfl, rfl⟩ := h
      exact ⟨hr, Or.inl ⟨rfl, by simp⟩⟩
  · rename_i ix
    refine ⟨ix, ?_⟩
    split at h <;> simp only [Option.some.injEq, Prod.mk.injEq, reduceCtorEq] at h
    all_goals
      rename_i r hr
      obtain ⟨rfl, rfl⟩ := h
      exact ⟨hr, Or.inr (Or.inl ⟨rfl, by simp⟩)⟩
  · rename_i ix
    refine ⟨ix, ?_⟩
    split at h <;> simp only [Option.some.injEq, Prod.mk.injEq, reduceCtorEq] at h
    all_goals
      rename_i r hr
      obtain ⟨rfl, rfl⟩ := h
      exact ⟨hr, Or.inr (Or.inr ⟨rfl, by simp⟩)⟩
  · simp at h
theorem am_pop_inv {κ rc : Nat} {m : am_M} {st as rest : List Value} {σ : am_S} (h : am_pop κ rc m st σ = some (as, rest)) : ∃ pre : List Value, pre.length = m.2.2.2.2.2.1 ∧ ((κ = 1 ∧ as = pre.reverse ∧ st = pre ++ rest) ∨ (κ ≠ 1 ∧ ∃ a, as = .ref a :: pre.reverse ∧ st = pre ++ .ref a :: rest ∧ (κ = 0 → σ.1[a]? = some (.inl rc)))) := by
  unfold am_pop at h
  simp only at h
  split at h
  · rename_i hn
    refine ⟨st.take m.2.2.2.2.2.1, by simp; omega, ?_⟩
    split at h
    · rename_i hκ
      simp only [Option.some.injEq, Prod.mk.injEq] at h
      obtain ⟨rfl, rfl⟩ := h
      exact Or.inl ⟨hκ, rfl, (List.take_append_drop _ _).symm⟩
    · rename_i hκ
      split at h
      · rename_i a rest' hd
        have e : st = st.take m.2.2.2.2.2.1 ++ .ref a :: rest' := by rw [← hd]; exact (List.take_append_drop _ _).symm
        split at h
        · split at h
          · rename_i h0 ha
            simp only [Option.some.injEq, Prod.mk.injEq] at h
            obtain ⟨rfl, rfl⟩ := h
            exact Or.inr ⟨hκ, a, rfl, e, fun _ => ha⟩
          · simp at h
        · rename_i h0
          simp only [Option.some.injEq, Prod.mk.injEq] at h
          obtain ⟨rfl, rfl⟩ := h
          exact Or.inr ⟨hκ, a, rfl, e, fun z => absurd z h0⟩
      · simp at h
  · simp at h
theorem am_good {X : List Cond} (h : ∀ w ∈ X, w ∈ am_T) : GoodIn am_T X := fun w hw => ⟨h w hw, good_of_word (List.mem_filter.mp (h w hw)).2⟩
theorem am_cat_rv {bs b sa : Nat} (st : List Value) : ((st.map (am_rv bs b sa)).map fun v => v.category).sum = am_cat st := by
  unfold am_cat
  rw [List.map_map]
  congr 1
  apply List.map_congr_left
  intro v _
  exact am_rv_cat bs b sa v
theorem am_ws_in {m : am_M} {κ : Nat} (hm : am_okM κ m) : ∀ w ∈ am_ws m, w ∈ am_T := fun w hw => by
  rcases List.mem_cons.mp hw with rfl | h
  · exact hm.1
  · exact h
theorem am_cpy_inv {st rest : List Value} {σ σ' : am_S} (h : am_cpy st σ = some (rest, σ')) : ∃ (n dp sp : Int32) (x y n0 n1 : Nat), st = .int n :: .int dp :: .ref y :: .int sp :: .ref x :: rest ∧ σ.1[x]? = some (.inr (.int, n0)) ∧ σ.1[y]? = some (.inr (.int, n1)) ∧ (0 ≤ sp.toInt ∧ 0 ≤ dp.toInt ∧ 0 ≤ n.toInt ∧ sp.toInt + n.toInt ≤ n0 ∧ dp.toInt + n.toInt ≤ n1 ∧ x ≠ y) ∧ σ' = (σ.1, (fun a => if a = y then va_cpy (σ.2.1 x) (σ.2.1 y) sp.toNatClampNeg dp.toNatClampNeg n.toNatClampNeg else σ.2.1 a), σ.2.2.1, σ.2.2.2) := by
  unfold am_cpy at h
  split at h
  · split at h
    · split at h
      · rename_i n0 n1 h0 h1 hc
        simp only [Option.some.injEq, Prod.mk.injEq] at h
        obtain ⟨rfl, rfl⟩ := h
        exact ⟨_, _, _, _, _, n0, n1, rfl, h0, h1, hc, rfl⟩
      · simp at h
    · simp at h
  · simp at h
theorem am_nn {z : Int32} (h : 0 ≤ z.toInt) : ¬ z < 0 := fun q => by
  have := Int32.lt_iff_toInt_lt.mp q
  simp at this
  omega
set_option maxHeartbeats 16000000 in
theorem am_sound {l : Launch} {X : am_X} (hstr : am_strW l) : ∀ (n : Nat) (d o : Nat) (ini : Bool) (cc : ByteArray) (ret : Option FieldType) (pc : Nat) (L : am_L) (st : List Value) (σ : am_S) (out : Option Value × am_S), am_run X n d o ini cc ret pc L st σ = some out → am_Snd l X d o ini cc ret pc L st σ out := by
  intro n
  induction n with
  | zero => intro d o ini cc ret pc L st σ out h; simp [am_run] at h
  | succ n ih =>
    intro d o ini cc ret pc L st σ out h
    intro p e R s m args below meth c tc D bs b sa nL n0 t0 Q ls C hl hn0 ht0 hbud hd1 hd2 hQ H locs hP hS
    obtain ⟨hx, hb, hr, hml, hown, hts, hK, hini, hRO, hs0⟩ := id C
    obtain ⟨i, len, hd, hvw⟩ := am_inv_run h
    clear h
    rcases hvw with ⟨v, hv, rfl, rfl⟩ | ⟨st', hv, h⟩ | ⟨L', st', hv, h⟩ | ⟨t, off, st', q, hv, rfl, hj, h⟩ | ⟨off, st', q, hv, hj, h⟩ | ⟨st', σ', hv, h⟩ | ⟨κ, rc, mm, d', hv, rfl, rfl, h⟩
    · obtain ⟨he, rfl⟩ := am_ret_end hv hd
      exact hQ pc ls he H locs hP hS
    · exact am_alu_W hx hb hv hd (ih _ _ _ _ _ _ _ _ _ _ h p e R s m args below meth c tc D bs b sa nL n0 t0 Q ls C hl hn0 ht0 hbud hd1 hd2 hQ H locs hP hS)
    · exact am_loc_W hx hb hv hd hl (fun ls' hl' => ih _ _ _ _ _ _ _ _ _ _ h p e R s m args below meth c tc D bs b sa nL n0 t0 Q ls' C hl' hn0 ht0 hbud hd1 hd2 hQ H locs hP hS)
    · exact am_br_W hx hb hv hd hj (ih _ _ _ _ _ _ _ _ _ _ h p e R s m args below meth c tc D bs b sa nL n0 t0 Q ls C hl hn0 ht0 hbud hd1 hd2 hQ H locs hP hS)
    · exact am_sw_W hx hb hv hd hj (ih _ _ _ _ _ _ _ _ _ _ h p e R s m args below meth c tc D bs b sa nL n0 t0 Q ls C hl hn0 ht0 hbud hd1 hd2 hQ H locs hP hS)
    · have h1 := am_hp_sh hv
      have h2 := am_mono n h
      exact am_hp_W hx hb hown hts hK hini hRO hs0 hn0 ht0 hv hd ⟨by omega, by omega⟩ hP hS (fun H' locs' hP' hS' => ih _ _ _ _ _ _ _ _ _ _ h p e R s m args below meth c tc D bs b sa nL n0 t0 Q ls C hl (by omega) (by omega) hbud hd1 hd2 hQ H' locs' hP' hS')
    · obtain ⟨ix, hct, hi⟩ := am_call_inv hv
      have hok := am_ct_all o _ (am_look_in hct)
      have hsz : c.maxLocals = ls.size := by rw [hml]; exact hl.2.1.symm
      unfold am_callV at h
      rcases h with h | h | h | h | h | h | h
      · obtain ⟨rfl, a, rest, rfl, hcat, h⟩ := h
        have hI : i = .invokespecial ix := by rcases hi with ⟨-, z⟩ | ⟨-, z⟩ | ⟨z, -⟩ <;> first | exact z | (exact absurd z (by decide))
        subst hI
        have hk : Cond.methodLink (am_own o) ix objectInit ∈ am_T := by
          unfold am_okC at hok
          simp at hok
          exact hok
        refine W.objInit hx hb hown (hts _ hk) (hts _ am_fobj.1) (hts _ am_fobj.2) rfl hsz.symm rfl hd (by omega) (by show 2 * 0 + ((rest.map (am_rv bs b sa)).map fun v => v.category).sum + 12 ≤ _; rw [am_cat_rv]; omega) ?_
        exact ih _ _ _ _ _ _ _ _ _ _ h p e R s m args below meth c tc D bs b sa nL n0 t0 Q ls C hl hn0 ht0 hbud hd1 hd2 hQ H locs hP hS
      · obtain ⟨rfl, rest, σ', hc, hcat, h⟩ := h
        have hI : i = .invokestatic ix := by rcases hi with ⟨-, z⟩ | ⟨z, -⟩ | ⟨-, z⟩ <;> first | exact z | (exact absurd z (by decide))
        subst hI
        have hk : Cond.methodLink (am_own o) ix arraycopyName ∈ am_T := by
          unfold am_okC at hok
          simp at hok
          exact hok
        obtain ⟨nn, dp, sp, x, y, m0, m1, rfl, g0, g1, ⟨c1, c2, c3, c4, c5, c6⟩, rfl⟩ := am_cpy_inv hc
        have e1 : nn.toNatClampNeg = nn.toInt.toNat := rfl
        have e2 : sp.toNatClampNeg = sp.toInt.toNat := rfl
        have e3 : dp.toNatClampNeg = dp.toInt.toNat := rfl
        refine va_copyi (ty := .int) hx hb hsz hown (hts _ hk) (hts _ am_fcpy.1) (hts _ am_fcpy.2.1) (hts _ am_fcpy.2.2) hK hP am_D hS x y 0 0 (am_wl_arr g0) (am_wl_arr g1) rfl rfl rfl (am_nn c1) (am_nn c2) (am_nn c3) (by omega) (by omega) (fun _ _ => rfl) (by omega) (by
            have : nativeFrameWords "java/lang/System" "arraycopy" 5 = 7 := by decide +kernel
            rw [am_cat_rv, this]
            omega) hd (fun H1 locs1 hP1 hD1 hS1 => ?_)
        have hset : (am_wl tc bs b sa σ).set y (bs + y, .inl (tc .int, m1, .inl (va_cpy (σ.2.1 x) (σ.2.1 y) sp.toNatClampNeg dp.toNatClampNeg nn.toNatClampNeg))) = am_wl tc bs b sa (σ.1, (fun a => if a = y then va_cpy (σ.2.1 x) (σ.2.1 y) sp.toNatClampNeg dp.toNatClampNeg nn.toNatClampNeg else σ.2.1 a), σ.2.2.1, σ.2.2.2) := by
          refine am_wl_set (am_lt g1) rfl ?_ (fun z hz => am_cel_cong rfl (by simp [hz]) rfl rfl)
          rw [am_cel_arrI g1 (Or.inl rfl)]
          simp
        have hP2 := hP1
        rw [show (am_wl tc bs b sa σ).set y (bs + y, .inl (tc .int, m1, .inl (va_cpy (σ.2.1 x) (σ.2.1 y) sp.toNatClampNeg dp.toNatClampNeg nn.toNatClampNeg))) = _ from hset] at hP2
        exact ih _ _ _ _ _ _ _ _ _ _ h p e R s m args below meth c tc D bs b sa nL n0 t0 Q ls C hl hn0 ht0 hbud hd1 hd2 hQ H1 locs1 hP2 hS1
      · obtain ⟨rfl, rest, rfl, hcat, hdd, h⟩ := h
        have hk : o = 9 ∧ ix = 41 := by
          unfold am_okC at hok
          simp at hok
          exact hok
        obtain ⟨rfl, rfl⟩ := hk
        have hI : i = .invokevirtual 41 := by rcases hi with ⟨z, -⟩ | ⟨-, z⟩ | ⟨-, z⟩ <;> first | exact z | (exact absurd z (by decide))
        subst hI
        have hmo := am_mono n h
        refine (hstr p e R s m args below meth c H locs _ _ Q cc pc ls (rest.map (am_rv bs b sa)) bs sa hx hb hsz hown hts hRO.2.2.2.2.2 hRO.2.2.1 hS (by omega) (by omega) (by omega) (by omega) (by unfold am_cat; rw [am_cat_rv]; exact hcat)).1 hd (fun locs1 hS1 => ?_)
        exact ih _ _ _ _ _ _ _ _ _ _ h p e R s m args below meth c tc D bs b sa nL n0 t0 Q ls C hl hn0 ht0 hbud hd1 hd2 hQ H locs1 hP hS1
      · obtain ⟨rfl, j, rest, rfl, hcat, hdd, hj, h⟩ := h
        have hk : o = 9 ∧ ix = 46 := by
          unfold am_okC at hok
          simp at hok
          exact hok
        obtain ⟨rfl, rfl⟩ := hk
        have hI : i = .invokevirtual 46 := by rcases hi with ⟨z, -⟩ | ⟨-, z⟩ | ⟨-, z⟩ <;> first | exact z | (exact absurd z (by decide))
        subst hI
        have hmo := am_mono n h
        refine (hstr p e R s m args below meth c H locs _ _ Q cc pc ls (rest.map (am_rv bs b sa)) bs sa hx hb hsz hown hts hRO.2.2.2.2.2 hRO.2.2.1 hS (by omega) (by omega) (by omega) (by omega) (by unfold am_cat; rw [am_cat_rv]; exact hcat)).2 j hj hd (fun locs1 hS1 => ?_)
        exact ih _ _ _ _ _ _ _ _ _ _ h p e R s m args below meth c tc D bs b sa nL n0 t0 Q ls C hl hn0 ht0 hbud hd1 hd2 hQ H locs1 hP hS1
      · obtain ⟨rfl, x, y, rest, rfl, hcat, h⟩ := h
        have hk : Cond.methodLink (am_own o) ix Lib.Math.max.name ∈ am_T := by
          unfold am_okC at hok
          simp at hok
          exact hok
        have hI : i = .invokestatic ix := by rcases hi with ⟨-, z⟩ | ⟨z, -⟩ | ⟨-, z⟩ <;> first | exact z | (exact absurd z (by decide))
        subst hI
        have hmo := am_mono n h
        refine va_mmax hx hb hsz hown (hts _ hk) (hts _ am_fmax.1) (hts _ am_fmax.2.1) (hts _ am_fmax.2.2) (by omega) (by rw [am_cat_rv]; omega) (by omega) (by omega) hd ?_
        exact ih _ _ _ _ _ _ _ _ _ _ h p e R s m args below meth c tc D bs b sa nL n0 t0 Q ls C hl hn0 ht0 hbud hd1 hd2 hQ H locs hP hS
      · obtain ⟨rfl, x, y, rest, rfl, hcat, h⟩ := h
        have hk : Cond.methodLink (am_own o) ix Lib.Math.min.name ∈ am_T := by
          unfold am_okC at hok
          simp at hok
          exact hok
        have hI : i = .invokestatic ix := by rcases hi with ⟨-, z⟩ | ⟨z, -⟩ | ⟨-, z⟩ <;> first | exact z | (exact absurd z (by decide))
        subst hI
        have hmo := am_mono n h
        refine va_mmin hx hb hsz hown (hts _ hk) (hts _ am_fmin.1) (hts _ am_fmin.2.1) (hts _ am_fmin.2.2) (by omega) (by rw [am_cat_rv]; omega) (by omega) (by omega) hd ?_
        exact ih _ _ _ _ _ _ _ _ _ _ h p e R s m args below meth c tc D bs b sa nL n0 t0 Q ls C hl hn0 ht0 hbud hd1 hd2 hQ H locs hP hS
      · obtain ⟨hne, as, rest, v, σ', hp, hcat, hlen, h1, h⟩ := h
        have hmo1 := am_mono n h1
        have hmo2 := am_mono n h
        simp only at hmo1
        have hsnd := ih _ _ _ _ _ _ _ _ _ _ h1
        obtain ⟨pre, hpl, hpp⟩ := am_pop_inv hp
        have cont : ∀ H1 locs1, va_P D vwCl (am_wl tc bs b sa σ') H1 → va_S (fun q => bs ≤ q) s.heap H1 locs1 → W p l e R s m args below meth c H1 locs1 ((σ.1.length - n0) + (σ'.1.length - σ.1.length)) ((am_tot σ - t0) + (am_tot σ' - am_tot σ)) Q (F0 m (pc + 3) ls ((v.map (am_rv bs b sa)).toList ++ rest.map (am_rv bs b sa))) := by
          intro H1 locs1 hP1 hS1
          rw [show σ.1.length - n0 + (σ'.1.length - σ.1.length) = σ'.1.length - n0 by omega, show am_tot σ - t0 + (am_tot σ' - am_tot σ) = am_tot σ' - t0 by omega, show (v.map (am_rv bs b sa)).toList ++ rest.map (am_rv bs b sa) = (v.toList ++ rest).map (am_rv bs b sa) by cases v <;> simp]
          exact ih _ _ _ _ _ _ _ _ _ _ h p e R s m args below meth c tc D bs b sa nL n0 t0 Q ls C hl (by omega) (by omega) hbud hd1 hd2 hQ H1 locs1 hP1 hS1
        have hcatr : 2 * (F0 m pc ls (st.map (am_rv bs b sa))).monitorRoom + ((rest.map (am_rv bs b sa)).map fun v => v.category).sum ≤ 8 := lv_room (by rw [am_cat_rv]; exact hcat)
        have hf : (σ.1.length - n0) + (σ'.1.length - σ.1.length) ≤ R.cells ∧ (am_tot σ - t0) + (am_tot σ' - am_tot σ) ≤ R.slots := ⟨by omega, by omega⟩
        refine am_size hs0 hn0 hP hS (fun hsz2 => ?_)
        have hPc : ∀ U : State, U.heap = H → s.WarmedH U.vm → va_Pc (as.map (am_rv bs b sa)) (am_B X tc D bs b sa σ) (as.map (am_rv bs b sa)).toArray U := fun U hU hW => ⟨rfl, by rw [hU]; exact hP, va_K.moved hW.alike hK, by rw [hU]; exact (hRO.warm hW).kept hS.1 hS.2.1, by rw [hU]; exact hsz2⟩
        have hκ : κ = 0 ∨ κ = 1 ∨ κ = 2 ∨ κ = 5 := by
          rcases hi with ⟨-, z⟩ | ⟨-, z⟩ | ⟨-, z⟩ <;> omega
        rcases hκ with rfl | rfl | rfl | rfl
        · have hI : i = .invokevirtual ix := by rcases hi with ⟨z, -⟩ | ⟨-, z⟩ | ⟨-, z⟩ <;> first | exact z | (exact absurd z (by decide))
          subst hI
          have hk : Cond.methodLink (am_own o) ix mm.2.2.2.2.1 ∈ am_T ∧ am_okM 0 mm ∧ am_nm rc = mm.2.2.2.2.1.cls := by
            unfold am_okC at hok
            simp at hok
            exact hok
          obtain ⟨k1, k2, k3⟩ := hk
          have hM := am_met (tc := tc) (D := D) (bs := bs) (b := b) (sa := sa) hsnd k2 hlen hmo1
          obtain ⟨q1, q2, q3, q4, q5, q6, q7, q8, q9, -⟩ := id k2
          rcases hpp with ⟨z, -⟩ | ⟨-, a, rfl, rfl, hrc⟩
          · exact absurd z (by decide)
          have hrc := hrc rfl
          obtain ⟨r, hr1, -⟩ := hP _ _ (am_wl_obj hrc)
          have hr2 : am_nm rc = r.1 := by unfold am_nm; rw [show vwCl[rc]? = some r from hr1]
          have hcell := va_recv hK hP hr1 (am_wl_obj hrc)
          rw [← hr2, k3] at hcell
          exact am_after (va_runV (As := pre.reverse.map (am_rv bs b sa)) (rest := rest.map (am_rv bs b sa)) ⟨hx, hb, hml, hown, hts⟩ hM (cwV mm.2.2.2.2.2.1 hts (am_good (fun w hw => by
              rcases List.mem_append.mp hw with h | h
              · simp only [List.mem_cons, List.not_mem_nil, or_false] at h
                rcases h with rfl | rfl | rfl | rfl
                · exact k1
                · exact (q9 rfl).1
                · exact (q9 rfl).2
                · exact q2
              · exact am_ws_in k2 w h)) rfl rfl rfl ⟨rfl, q3.1, q3.2, q4⟩ ⟨by show d' + 1 ≤ R.frames; omega, by show 8 + (mm.2.2.1 + 11) + 64 * d' ≤ R.locals; omega⟩) ⟨am_B_calling, hcell, hPc⟩ rfl (by simp [hpl]) hl.2.1 (by simp [am_rvR]) hcatr hd hf) hS cont
        · have hI : i = .invokestatic ix := by rcases hi with ⟨-, z⟩ | ⟨z, -⟩ | ⟨-, z⟩ <;> first | exact z | (exact absurd z (by decide))
          subst hI
          have hk : Cond.methodLink (am_own o) ix mm.2.2.2.2.1 ∈ am_T ∧ am_okM 1 mm := by
            unfold am_okC at hok
            simp at hok
            exact hok
          obtain ⟨k1, k2⟩ := hk
          have hM := am_met (tc := tc) (D := D) (bs := bs) (b := b) (sa := sa) hsnd k2 hlen hmo1
          obtain ⟨q1, q2, q3, q4, q5, q6, q7, q8, -, q10, -⟩ := id k2
          have hpp2 : as = pre.reverse ∧ st = pre ++ rest := by
            rcases hpp with ⟨-, z⟩ | ⟨z, -⟩
            · exact z
            · exact absurd rfl z
          obtain ⟨rfl, rfl⟩ := hpp2
          exact am_after (va_runS (As := pre.reverse.map (am_rv bs b sa)) (rest := rest.map (am_rv bs b sa)) ⟨hx, hb, hml, hown, hts⟩ hM (va_cwS mm.2.2.2.2.2.1 hts (am_good (fun w hw => by
              rcases List.mem_append.mp hw with h | h
              · simp only [List.mem_cons, List.not_mem_nil, or_false] at h
                rcases h with rfl | rfl | rfl
                · exact k1
                · exact q10 rfl
                · exact q2
              · exact am_ws_in k2 w h)) rfl rfl rfl ⟨q3.1, q3.2, q4⟩ ⟨by show d' + 1 ≤ R.frames; omega, by show 8 + (mm.2.2.1 + 11) + 64 * d' ≤ R.locals; omega⟩) ⟨am_B_calling, hPc⟩ rfl (by simp [hpl]) hl.2.1 (by simp) hcatr hd hf) hS cont
        · have hI : i = .invokespecial ix := by rcases hi with ⟨-, z⟩ | ⟨-, z⟩ | ⟨z, -⟩ <;> first | exact z | (exact absurd z (by decide))
          subst hI
          have hk : Cond.methodLink (am_own o) ix mm.2.2.2.2.1 ∈ am_T ∧ am_okM 2 mm := by
            unfold am_okC at hok
            simp at hok
            exact hok
          obtain ⟨k1, k2⟩ := hk
          have hM := am_met (tc := tc) (D := D) (bs := bs) (b := b) (sa := sa) hsnd k2 hlen hmo1
          obtain ⟨q1, q2, q3, q4, q5, q6, q7, q8, -, -, q11⟩ := id k2
          obtain ⟨q12, q13, q14⟩ := q11 (Or.inl rfl)
          rcases hpp with ⟨z, -⟩ | ⟨-, a, rfl, rfl, -⟩
          · exact absurd z (by decide)
          exact am_after (va_runI (As := pre.reverse.map (am_rv bs b sa)) (rest := rest.map (am_rv bs b sa)) ⟨hx, hb, hml, hown, hts⟩ hM (cwI mm.2.2.2.2.2.1 hts (am_good (am_ws_in k2)) (by unfold am_ws; rw [q14]) rfl rfl (hts _ q2) (hts _ k1) (hts _ q12) q13 ⟨q3.1, q3.2, q4⟩ ⟨by show d' + 1 ≤ R.frames; omega, by show 8 + (mm.2.2.1 + 11) + 64 * d' ≤ R.locals; omega⟩) ⟨am_B_calling, hPc⟩ rfl (by simp [hpl]) hl.2.1 (by simp [am_rvR]) hcatr hd hf) hS cont
        · have hI : i = .invokespecial ix := by rcases hi with ⟨-, z⟩ | ⟨-, z⟩ | ⟨z, -⟩ <;> first | exact z | (exact absurd z (by decide))
          subst hI
          have hk : o = 4 ∧ ix = 29 ∧ mm = mX2_init := by
            unfold am_okC at hok
            simp only at hok
            simpa using hok
          obtain ⟨rfl, rfl, rfl⟩ := hk
          have k2 := am_okM5
          have hM := am_met (tc := tc) (D := D) (bs := bs) (b := b) (sa := sa) hsnd k2 hlen hmo1
          obtain ⟨q1, q2, q3, q4, q5, q6, q7, q8, -, -, q11⟩ := id k2
          obtain ⟨q12, q13, q14⟩ := q11 (Or.inr rfl)
          rcases hpp with ⟨z, -⟩ | ⟨-, a, rfl, rfl, -⟩
          · exact absurd z (by decide)
          exact am_after (va_runIN (As := pre.reverse.map (am_rv bs b sa)) (rest := rest.map (am_rv bs b sa)) ⟨hx, hb, hml, hown, hts⟩ hM ⟨va_cnB 0 hts (am_good (am_ws_in k2)) rfl rfl rfl hRO.2.2.2.2.1 (hts _ q2) ⟨q3.1, q3.2, q4⟩ ⟨by show d' + 1 ≤ R.frames; omega, by show 8 + (1 + 11) + 64 * d' ≤ R.locals; omega⟩, q13, hts _ q12⟩ ⟨am_B_calling, hPc⟩ rfl (by simpa using hpl) hl.2.1 (by simp [am_rvR]) hcatr hd hf) hS cont
