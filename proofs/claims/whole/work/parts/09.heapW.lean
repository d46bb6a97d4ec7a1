section AMHW
variable {p : Program} {l : Launch} {e : Env} {R : Room} {s : State} {m : MethodId} {args : Array Value} {below : List Frame} {meth : Method} {c : Code} {H : Heap} {locs : List Loc} {Q : State → Prop}
variable {cc : ByteArray} {pc k n0 t0 : Nat} {ls : Array Slot} {st st' : List Value} {i : Instr} {bs b sa : Nat} {tc : FieldType → ClassId} {D : va_G} {σ σ' : am_S} {X : am_X} {o : Nat} {ini : Bool}
theorem am_inv {x : Int32} {n : Nat} (h : am_in x n) : vp_in x n := vp_in_iff.mpr h
set_option maxHeartbeats 4000000 in
theorem am_new_W {q : Nat} {x : va_E} {sh : am_Sh} {H1 : Heap} {pc2 sz : Nat} (hP : va_P D vwCl (am_wl tc bs b sa σ ++ [(q, x)]) H1) (hD : va_D (fun q => bs ≤ q) (am_wl tc bs b sa σ ++ [(q, x)])) (hs0 : s.heap.size = bs + n0) (hn0 : n0 ≤ σ.1.length) (ht0 : t0 ≤ am_tot σ) (hx : am_cel tc bs b sa (am_new sh σ) σ.1.length = x) (hz : sz = am_sz sh)
    (kk : va_P D vwCl (am_wl tc bs b sa (am_new sh σ)) H1 → W p l e R s m args below meth c H1 locs ((am_new sh σ).1.length - n0) (am_tot (am_new sh σ) - t0) Q (F0 m pc2 ls (.ref (bs + σ.1.length) :: st))) : W p l e R s m args below meth c H1 locs (σ.1.length - n0 + 1) (am_tot σ - t0 + sz) Q (F0 m pc2 ls (.ref q :: st)) := by
  intro T hT Y
  have h1 : T.heap.size ≤ s.heap.size + (σ.1.length - n0 + 1) := Y.heapSize
  have hq : q = bs + σ.1.length := am_fresh hP hD (by rw [← hT]; omega)
  subst hq
  subst hz
  have k2 := kk (by rw [← am_wl_new hx]; exact hP) T hT
  rw [am_new_len, am_tot_new, show σ.1.length + 1 - n0 = σ.1.length - n0 + 1 by omega, show am_tot σ + am_sz sh - t0 = am_tot σ - t0 + am_sz sh by omega] at k2
  exact k2 Y
theorem am_newTc {cA : ClassId} {ty : FieldType} {j : Nat} (hK : va_K D vwCl (am_tys tc) s) (hK1 : va_K D vwCl (am_tys tc ++ [(cA, ty)]) s) (hj : (am_tys tc)[j]? = some (tc ty, ty)) (hn : s.vm.findClass ("[" ++ ty.toString) = some (tc ty) → va_RA s cA ty → cA = tc ty) (hr : va_RA s (tc ty) ty → s.vm.findClass ("[" ++ ty.toString) = some (tc ty)) : cA = tc ty :=
  hn (hr (hK.2 j _ hj).2) (hK1.2 5 (cA, ty) rfl).2
theorem am_rf_rv {r : Option Nat} : am_rv bs b sa (am_rf r) = va_rf (r.map (fun x => bs + x)) := by
  cases r <;> rfl
set_option maxHeartbeats 16000000 in
theorem am_hp_W (hx : p.tables.exec = Jvm.exec) (hb : c.code = cc) (hown : s.vm.findClass (am_own o) = some m.cls) (hts : ∀ w ∈ am_T, w.before args s = true) (hK : va_K D vwCl (am_tys tc) s) (hini : ini = true → meth.name = "<init>") (hRO : am_RO X bs b sa s s.heap) (hs0 : s.heap.size = bs + n0) (hn0 : n0 ≤ σ.1.length) (ht0 : t0 ≤ am_tot σ)
    (h : am_hp X o ini i st σ = some (k, st', σ')) (hd : decode cc pc = .ok (i, k)) (hbud : σ'.1.length ≤ n0 + R.cells ∧ am_tot σ' ≤ t0 + R.slots)
    (hP : va_P D vwCl (am_wl tc bs b sa σ) H) (hS : va_S (fun q => bs ≤ q) s.heap H locs)
    (kk : ∀ H' locs', va_P D vwCl (am_wl tc bs b sa σ') H' → va_S (fun q => bs ≤ q) s.heap H' locs' → W p l e R s m args below meth c H' locs' (σ'.1.length - n0) (am_tot σ' - t0) Q (F0 m (pc + k) ls (st'.map (am_rv bs b sa)))) : W p l e R s m args below meth c H locs (σ.1.length - n0) (am_tot σ - t0) Q (F0 m pc ls (st.map (am_rv bs b sa))) := by
  obtain ⟨hX, hbbs, hbz, hAO, hNs, hSF⟩ := hRO
  have hbl : b < s.heap.size := by omega
  have hbA : ¬ (fun q : Nat => bs ≤ q) b := Nat.not_le.mpr hbbs
  have hA : ∀ q, s.heap.size ≤ q → (fun q : Nat => bs ≤ q) q := fun q hq => by show bs ≤ q; omega
  have hD : va_D (fun q => bs ≤ q) (am_wl tc bs b sa σ) := am_D
  unfold am_hp at h
  split at h
  · -- getfield
    split at h
    · rename_i ix a rest xo ci fk hfl
      split at h
      · rename_i ha
        simp only [Option.some.injEq, Prod.mk.injEq] at h
        obtain ⟨rfl, rfl, rfl⟩ := h
        obtain ⟨h1, h2, h3, h4⟩ := am_fl_all o _ (am_look_in hfl)
        obtain ⟨c1, c2, c3, c4, c5⟩ := am_cls _ h4
        refine va_get (ref := am_nm ci) (C := am_nm ci) (T := am_fT ci) (N := am_N ci) hx hb hts c2 hown hK hP _ (am_wl_obj ha) c1 fk h2 (hts _ h1) (fun x hx => by rwa [h3] at hx) (am_fs_at h2) hd ?_
        exact kk H locs hP hS
      · simp at h
    · simp at h
  · -- putfield
    split at h
    · rename_i ix v a rest xo ci fk hfl
      split at h
      · rename_i hc
        rw [Option.map_eq_some_iff] at h
        obtain ⟨τ, hw, h⟩ := h
        simp only [Prod.mk.injEq] at h
        obtain ⟨rfl, rfl, rfl⟩ := h
        obtain ⟨ha, hfin⟩ := hc
        obtain ⟨h1, h2, h3, h4⟩ := am_fl_all o _ (am_look_in hfl)
        obtain ⟨c1, c2, c3, c4, c5⟩ := am_cls _ h4
        obtain ⟨g1, g2, g3⟩ := am_fw_cel (tc := tc) (bs := bs) (b := b) (sa := sa) hw ha h2
        have hsh := am_fw_sh hw
        have hlen : fk < ((List.range (am_N ci)).map (fun k => am_rv bs b sa (am_fv (am_ty ci k) σ a k))).length := by simpa using h2
        have htot : am_tot τ = am_tot σ := by unfold am_tot; rw [hsh]
        rw [hsh, htot] at kk
        rcases hfin with hf | ⟨hi, hf⟩
        · by_cases hf2 : (am_fT ci fk).2.2.2 = false
          · refine va_put (ref := am_nm ci) (C := am_nm ci) (T := am_fT ci) (N := am_N ci) hx hb hts c2 (am_ty ci) c3 c4 hown hK hP hD hS _ (am_wl_obj ha) c1 fk h2 (hts _ h1) (fun x hx => by rwa [h3] at hx) hf2 (c3 fk h2) g2 g3 hlen hd (fun H1 locs1 hP1 hD1 hS1 => ?_)
            rw [g1] at hP1
            exact kk H1 locs1 hP1 hS1
          · exact absurd hf hf2
        · by_cases hf2 : (am_fT ci fk).2.2.2 = false
          · refine va_put (ref := am_nm ci) (C := am_nm ci) (T := am_fT ci) (N := am_N ci) hx hb hts c2 (am_ty ci) c3 c4 hown hK hP hD hS _ (am_wl_obj ha) c1 fk h2 (hts _ h1) (fun x hx => by rwa [h3] at hx) hf2 (c3 fk h2) g2 g3 hlen hd (fun H1 locs1 hP1 hD1 hS1 => ?_)
            rw [g1] at hP1
            exact kk H1 locs1 hP1 hS1
          · refine va_putF (own := am_own o) (ref := am_nm ci) (C := am_nm ci) (T := am_fT ci) (N := am_N ci) hx hb hts c2 (am_ty ci) c3 c4 hown hK hP hD hS _ (am_wl_obj ha) c1 fk h2 (hts _ h1) (fun x hx => by rwa [h3] at hx) (by simpa using hf2) (hini hi) hf (c3 fk h2) g2 g3 hlen hd (fun H1 locs1 hP1 hD1 hS1 => ?_)
            rw [g1] at hP1
            exact kk H1 locs1 hP1 hS1
      · simp at h
    · simp at h
  · -- iaload
    unfold am_ar at h
    split at h
    · rename_i ix a rest xo ty n ha
      split at h
      · rename_i hc
        simp only [Option.some.injEq, Prod.mk.injEq] at h
        obtain ⟨rfl, rfl, rfl⟩ := h
        obtain ⟨ht, hi⟩ := hc
        cases ty <;> simp only [am_tI, Bool.false_eq_true] at ht
        exact va_iald hx hb hK hP _ 0 (am_wl_arr ha) rfl (am_inv hi) hd (kk H locs hP hS)
      · simp at h
    · simp at h
  · -- baload
    unfold am_ar at h
    split at h
    · rename_i ix a rest xo ty n ha
      split at h
      · rename_i hc
        simp only [Option.some.injEq, Prod.mk.injEq] at h
        obtain ⟨rfl, rfl, rfl⟩ := h
        obtain ⟨ht, hi⟩ := hc
        cases ty <;> simp only [am_tB, Bool.false_eq_true] at ht
        · exact va_bald hx hb hK hP _ 2 (am_wl_arr ha) rfl (am_inv hi) hd (kk H locs hP hS)
        · exact va_zald hx hb hK hP _ 3 (am_wl_arr ha) rfl (am_inv hi) hd (kk H locs hP hS)
      · simp at h
    · simp at h
  · -- the script
    split at h
    · rename_i hc
      simp only [Option.some.injEq, Prod.mk.injEq] at h
      obtain ⟨rfl, rfl, rfl⟩ := h
      exact va_sld hx hb hX hbl hbA hS (am_inv hc) hd (kk H locs hP hS)
    · simp at h
  · -- laload
    split at h
    · rename_i ix a rest xo n ha
      split at h
      · rename_i hc
        simp only [Option.some.injEq, Prod.mk.injEq] at h
        obtain ⟨rfl, rfl, rfl⟩ := h
        exact va_lald hx hb hK hP _ 1 (am_wl_arr ha) rfl (am_inv hc) hd (kk H locs hP hS)
      · simp at h
    · simp at h
  · -- aaload
    split at h
    · rename_i ix a rest xo C n ha
      split at h
      · rename_i hc
        simp only [Option.some.injEq, Prod.mk.injEq] at h
        obtain ⟨rfl, rfl, rfl⟩ := h
        obtain ⟨rfl, hi⟩ := hc
        refine va_aldq hx hb hK hP _ 4 (am_wl_arr ha) rfl (am_inv hi) hd ?_
        have k2 := kk H locs hP hS
        simp only [List.map_cons, am_rf_rv] at k2
        exact k2
      · simp at h
    · simp at h
  · -- iastore
    unfold am_aw at h
    split at h
    · rename_i ix x a rest xo ty n ha
      split at h
      · rename_i hc
        simp only [Option.some.injEq, Prod.mk.injEq] at h
        obtain ⟨rfl, rfl, rfl⟩ := h
        obtain ⟨ht, hi⟩ := hc
        cases ty <;> simp only [am_tI, Bool.false_eq_true] at ht
        refine va_iast hx hb hK hP hD hS _ 0 (am_wl_arr ha) rfl (am_inv hi) hd (fun H1 locs1 hP1 hD1 hS1 => kk H1 locs1 ?_ hS1)
        rwa [am_wl_setI (am_lt ha) (by rw [am_cel_arrI ha (Or.inl rfl), am_u2_eq]; rfl)] at hP1
      · simp at h
    · simp at h
  · -- bastore
    unfold am_aw at h
    split at h
    · rename_i ix x a rest xo ty n ha
      split at h
      · rename_i hc
        simp only [Option.some.injEq, Prod.mk.injEq] at h
        obtain ⟨rfl, rfl, rfl⟩ := h
        obtain ⟨ht, hi⟩ := hc
        cases ty <;> simp only [am_tB, Bool.false_eq_true] at ht
        · refine va_bast hx hb hK hP hD hS _ 2 (am_wl_arr ha) rfl (am_inv hi) hd (fun H1 locs1 hP1 hD1 hS1 => kk H1 locs1 ?_ hS1)
          rwa [am_wl_setI (am_lt ha) (by rw [am_cel_arrI ha (Or.inr (Or.inl rfl)), am_u2_eq]; rfl)] at hP1
        · refine va_zast hx hb hK hP hD hS _ 3 (am_wl_arr ha) rfl (am_inv hi) hd (fun H1 locs1 hP1 hD1 hS1 => kk H1 locs1 ?_ hS1)
          rwa [am_wl_setI (am_lt ha) (by rw [am_cel_arrI ha (Or.inr (Or.inr rfl)), am_u2_eq]; rfl)] at hP1
      · simp at h
    · simp at h
  · -- lastore
    split at h
    · rename_i ix x a rest xo n ha
      split at h
      · rename_i hc
        simp only [Option.some.injEq, Prod.mk.injEq] at h
        obtain ⟨rfl, rfl, rfl⟩ := h
        refine va_last hx hb hK hP hD hS _ 1 (am_wl_arr ha) rfl (am_inv hc) hd (fun H1 locs1 hP1 hD1 hS1 => kk H1 locs1 ?_ hS1)
        rwa [am_wl_setL (am_lt ha) (by unfold am_cel; simp only [ha]; unfold am_arr; simp only [am_u2_eq]; rfl)] at hP1
      · simp at h
    · simp at h
  · -- aastore
    split at h
    · rename_i y ix a rest xo xp C n ci ha hy
      split at h
      · rename_i hc
        simp only [Option.some.injEq, Prod.mk.injEq] at h
        obtain ⟨rfl, rfl, rfl⟩ := h
        obtain ⟨rfl, rfl, hi⟩ := hc
        refine va_astq (r := (RX7, TX7, 11)) hx hb hK hP hD hS _ 4 _ 6 (am_wl_arr ha) rfl (am_wl_obj hy) rfl (am_inv hi) hd (fun H1 locs1 hP1 hD1 hS1 => kk H1 locs1 ?_ hS1)
        have hf : (fun z => Option.map (fun x => bs + x) (if z = ix.toNatClampNeg then some y else σ.2.2.2 a z)) = va_up (fun z => Option.map (fun x => bs + x) (σ.2.2.2 a z)) ix.toNatClampNeg (some (bs + y)) := by
          funext z
          by_cases hz : z = ix.toNatClampNeg <;> simp [va_up, hz]
        rwa [am_wl_setR (k := ix.toNatClampNeg) (v := some y) (am_lt ha) (by
          unfold am_cel
          simp only [ha]
          unfold am_arr
          simp only [am_u2_eq]
          rw [hf])] at hP1
      · simp at h
    · simp at h
  · -- arraylength
    split at h
    · rename_i a rest xo ty n ha
      split at h
      · rename_i hc
        simp only [Option.some.injEq, Prod.mk.injEq] at h
        obtain ⟨rfl, rfl, rfl⟩ := h
        obtain ⟨q, hq⟩ := Option.isSome_iff_exists.mp hc
        exact va_alen hx hb hK hP _ q (am_wl_arr ha) (am_tk_ok hq) rfl hd (kk H locs hP hS)
      · simp at h
    · simp at h
  · -- the script's length
    simp only [Option.some.injEq, Prod.mk.injEq] at h
    obtain ⟨rfl, rfl, rfl⟩ := h
    exact va_slen hx hb hX hbl hbA hS hd (kk H locs hP hS)
  · -- new
    split at h
    · rename_i ix rest xo ci hcl
      simp only [Option.some.injEq, Prod.mk.injEq] at h
      obtain ⟨rfl, rfl, rfl⟩ := h
      obtain ⟨h1, h2, h3, h4⟩ := am_cl_all o _ (am_look_in hcl)
      obtain ⟨c1, c2, c3, c4, c5⟩ := am_cls _ h4
      rw [am_new_len, am_tot_new] at hbud
      have hz : am_sz (.inl ci) = am_N ci := rfl
      rw [hz] at hbud
      refine va_new (ci := ci) (fs := (List.range (am_N ci)).map (fun k => am_rv bs b sa (am_fv (am_ty ci k) (am_new (.inl ci) σ) σ.1.length k))) (C := am_nm ci) (T := am_fT ci) (N := am_N ci) hx hb hts c2 (am_ty ci) c3 hown (hts _ h1) (hts _ h2) (hts _ h3) hK hP hD hS hA c1 (fun j hj => ?_) (by omega) (by omega) hd (fun q H1 hP1 hD1 hS1 => ?_)
      · unfold vp_V
        rw [List.getD_eq_getElem?_getD]
        simp only [hj, List.getElem?_map, List.getElem?_range, Option.map_some, Option.getD_some]
        have h5 := c5 j hj
        simp only at h5 ⊢
        generalize am_ty ci j = ty at h5 ⊢
        cases ty <;> first | (simp [am_tyOk] at h5; done) | simp [am_fv, am_new, am_rf, defaultValue, am_rv]
      · exact am_new_W hP1 hD1 hs0 hn0 ht0 (by unfold am_cel; simp [am_new]) rfl (fun hP2 => kk H1 locs hP2 hS1)
    · simp at h
  · -- newarray
    split at h
    · rename_i t n rest xo ty hty
      split at h
      · rename_i hn
        simp only [Option.some.injEq, Prod.mk.injEq] at h
        obtain ⟨rfl, rfl, rfl⟩ := h
        rw [am_new_len, am_tot_new] at hbud
        have hz : am_sz (.inr (ty, n.toNatClampNeg)) = n.toNatClampNeg := rfl
        rw [hz] at hbud
        have hn0' : ¬ n < 0 := fun z => by have := Int32.lt_iff_toInt_lt.mp z; simp at this; omega
        have hn1 : n.toNatClampNeg ≤ 60000 := by show n.toInt.toNat ≤ 60000; omega
        have tcEq : ∀ {cA : ClassId} {j : Nat}, (am_tys tc)[j]? = some (tc ty, ty) → (∀ x, va_RA s x ty = (s.vm.findClass ("[" ++ ty.toString) = some x)) → va_K D vwCl (am_tys tc ++ [(cA, ty)]) s → cA = tc ty := fun hj hr hK1 => by
          have g1 := (hK.2 _ _ hj).2
          have g2 := (hK1.2 5 (_, ty) rfl).2
          rw [hr] at g1 g2
          exact Option.some.inj (g2.symm.trans g1)
        unfold am_newa at hty
        split at hty <;> simp only [Option.some.injEq, reduceCtorEq] at hty <;> subst hty
        · refine va_newa (atype := .int) (ty := .int) (a0 := (n.toNatClampNeg, .inl (fun _ => 0))) hx hb (hts _ am_fa_int) rfl hK hP hD hS hA (fun cA => rfl) hn0' rfl (by show n.toNatClampNeg * 4 ≤ _; omega) (by omega) (by omega) hd (fun q cA H1 hK1 hP1 hD1 hS1 => ?_)
          have hc := tcEq (j := 0) rfl (fun _ => rfl) hK1
          subst hc
          exact am_new_W hP1 hD1 hs0 hn0 ht0 (by unfold am_cel; simp [am_new, am_arr]) rfl (fun hP2 => kk H1 locs hP2 hS1)
        · refine va_newa (atype := .long) (ty := .long) (a0 := (n.toNatClampNeg, .inr (.inl (fun _ => 0)))) hx hb (hts _ am_fa_long) rfl hK hP hD hS hA (fun cA => rfl) hn0' rfl (by show n.toNatClampNeg * 8 ≤ _; omega) (by omega) (by omega) hd (fun q cA H1 hK1 hP1 hD1 hS1 => ?_)
          have hc := tcEq (j := 1) rfl (fun _ => rfl) hK1
          subst hc
          exact am_new_W hP1 hD1 hs0 hn0 ht0 (by unfold am_cel; simp [am_new, am_arr]) rfl (fun hP2 => kk H1 locs hP2 hS1)
        · refine va_newa (atype := .byte) (ty := .byte) (a0 := (n.toNatClampNeg, .inl (fun _ => 0))) hx hb (hts _ am_fa_byte) rfl hK hP hD hS hA (fun cA => rfl) hn0' rfl (by show n.toNatClampNeg * 1 ≤ _; omega) (by omega) (by omega) hd (fun q cA H1 hK1 hP1 hD1 hS1 => ?_)
          have hc := tcEq (j := 2) rfl (fun _ => rfl) hK1
          subst hc
          exact am_new_W hP1 hD1 hs0 hn0 ht0 (by unfold am_cel; simp [am_new, am_arr]) rfl (fun hP2 => kk H1 locs hP2 hS1)
        · refine va_newa (atype := .boolean) (ty := .boolean) (a0 := (n.toNatClampNeg, .inl (fun _ => 0))) hx hb (hts _ am_fa_boolean) rfl hK hP hD hS hA (fun cA => rfl) hn0' rfl (by show n.toNatClampNeg * 1 ≤ _; omega) (by omega) (by omega) hd (fun q cA H1 hK1 hP1 hD1 hS1 => ?_)
          have hc := tcEq (j := 3) rfl (fun _ => rfl) hK1
          subst hc
          exact am_new_W hP1 hD1 hs0 hn0 ht0 (by unfold am_cel; simp [am_new, am_arr]) rfl (fun hP2 => kk H1 locs hP2 hS1)
      · simp at h
    · simp at h
  · -- anewarray
    split at h
    · rename_i ix n rest xo hcl
      split at h
      · rename_i hn
        simp only [Option.some.injEq, Prod.mk.injEq] at h
        obtain ⟨rfl, rfl, rfl⟩ := h
        obtain ⟨h1, h2, h3, h4⟩ := am_cl_all o _ (am_look_in hcl)
        rw [am_new_len, am_tot_new] at hbud
        have hz : am_sz (.inr (.object RX7, n.toNatClampNeg)) = n.toNatClampNeg := rfl
        rw [hz] at hbud
        have hn0' : ¬ n < 0 := fun z => by have := Int32.lt_iff_toInt_lt.mp z; simp at this; omega
        have hn1 : n.toNatClampNeg ≤ 60000 := by show n.toInt.toNat ≤ 60000; omega
        refine va_newq (C := RX7) hx hb hown (hts _ h1) hAO hK hP hD hS hA hn0' rfl (by omega) (by omega) (by omega) hd (fun q cA H1 hK1 hP1 hD1 hS1 => ?_)
        have hc : cA = tc (.object RX7) := by
          obtain ⟨_, _, _, _, _, g1⟩ := (hK.2 4 _ rfl).2
          obtain ⟨_, _, _, _, _, g2⟩ := (hK1.2 5 (cA, .object RX7) rfl).2
          exact Option.some.inj (g2.symm.trans g1)
        subst hc
        exact am_new_W hP1 hD1 hs0 hn0 ht0 (by unfold am_cel; simp [am_new, am_arr]) rfl (fun hP2 => kk H1 locs hP2 hS1)
      · simp at h
    · simp at h
  · -- ldc
    split at h
    · rename_i hk
      simp only [Option.some.injEq, Prod.mk.injEq] at h
      obtain ⟨rfl, rfl, rfl⟩ := h
      exact lv_ldc hx hb hown (hts _ (am_k32_all o _ (am_look_in hk))) hd (kk H locs hP hS)
    · split at h
      · rename_i hc
        simp only [Option.some.injEq, Prod.mk.injEq] at h
        obtain ⟨rfl, rfl, rfl⟩ := h
        obtain ⟨rfl, rfl⟩ := hc
        exact va_ldcS hx hb hown hSF.1 hd (kk H locs hP hS)
      · simp at h
  · split at h
    · rename_i hk
      simp only [Option.some.injEq, Prod.mk.injEq] at h
      obtain ⟨rfl, rfl, rfl⟩ := h
      exact lv_ldcw hx hb hown (hts _ (am_k32_all o _ (am_look_in hk))) hd (kk H locs hP hS)
    · simp at h
  · split at h
    · rename_i hk
      simp only [Option.some.injEq, Prod.mk.injEq] at h
      obtain ⟨rfl, rfl, rfl⟩ := h
      exact lv_ldc2 hx hb hown (hts _ (am_k64_all o _ (am_look_in hk))) hd (kk H locs hP hS)
    · simp at h
  · simp at h
end AMHW
