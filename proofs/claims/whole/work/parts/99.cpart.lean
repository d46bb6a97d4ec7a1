/-! the class reads what comes of two, as on paper -/
section CP
variable {B : Nat → Nat} {L : Nat}
theorem CS_pre {f f1 : Nat → Nat → Int32} {g g1 : (Nat → Nat → Int64) × (Nat → Nat → Option Nat)} {out : Option (Int32 × am_H)} {r : PR} (h : CFr f f1 g g1) (h14 : f1 14 = f 14) (s : CS f1 g1 B L out r) : CS f g B L out r := by
  rcases r with ⟨c, p⟩ | ⟨t', u', C'⟩
  · obtain ⟨f', g', a1, a2, a3, a4⟩ := s
    exact ⟨f', g', a1, a2, a3, h.trans a4⟩
  · obtain ⟨f', g', a1, a2, a3, a4⟩ := s
    exact ⟨f', g', a1, a2, h.trans a3, a4.trans h14⟩
abbrev CRp := Int32 → Int32 → am_H → Option (Int32 × am_H)
def SIM (B : Nat → Nat) (L : Nat) (rp : CRp) (pp : RPt) (level w : Nat) : Prop := ∀ t u C f g, TV B L t → C.length ≤ 9 * u → u ≤ 30 → CE f g B L t u C → CS f g B L (rp (Int32.ofNat level) (Int32.ofNat w) (f, g)) (pp level w t u C)
theorem CFr.refl {f : Nat → Nat → Int32} {g : (Nat → Nat → Int64) × (Nat → Nat → Option Nat)} : CFr f f g g := ⟨fun _ _ _ _ _ _ => rfl, fun _ _ _ => rfl, rfl, fun _ _ => rfl⟩
theorem c_pl {rp : CRp} {pp : RPt} {level w N : Nat} (hN : N ≤ 30) (h6 : level ≤ 5) (hw : w ≤ 7) (hp : SRP B L pp) (hs : SIM B L rp pp (level + 1) w) : ∀ m k i t u C f g, i + m = N → TV B L t → C.length ≤ 9 * u → u ≤ 30 → CE f g B L t u C → CS f g B L (lp_X5_readJoined_28 rp (Int32.ofNat level) (Int32.ofNat w) (Int32.ofNat N) (k + m + 1) (Int32.ofNat i) (f, g)) (PLp (tk B L) pp level w m t u C) := by
  intro m
  induction m with
  | zero =>
    intro k i t u C f g hi ht hC hu h
    rw [lp_X5_readJoined_28, if_neg (by rw [on_lt (by omega) (by omega)]; omega), PLp]
    exact ⟨f, g, rfl, h, CFr.refl, rfl⟩
  | succ m ih =>
    intro k i t u C f g hi ht hC hu h
    have hk := ht.go.2.2.2
    rw [lp_X5_readJoined_28, if_pos (by rw [on_lt (by omega) (by omega)]; omega), bnd_eq, PLp]
    simp only [h.1.2.1]
    rw [X5_levelOf hk, cal_some]
    have hl6 : lvO t.1 ≤ 6 := by unfold lvO; (repeat' split) <;> decide
    by_cases c : lvO t.1 = level
    · rw [if_pos (by rw [c]), if_pos c, bnd_eq]
      obtain ⟨f1, g1, a1, a2, a3, a4, -⟩ := adv h ht
      rw [a1, cal_some, on_succ]
      have s := hs (tk B L t.2.2.1) u C f1 g1 ht.go.1 hC hu a2
      have z := hp (level + 1) w (tk B L t.2.2.1) u C hw ht.go.1
      revert s z
      generalize pp (level + 1) w (tk B L t.2.2.1) u C = r
      intro s z
      rcases r with ⟨c', p'⟩ | ⟨t', u', C'⟩
      · obtain ⟨f2, g2, b1, b2, b3, b4⟩ := s
        rw [b1, cal2_some, if_pos rfl]
        exact ⟨f2, g2, rfl, b2, b3, a3.trans b4⟩
      · obtain ⟨f2, g2, b1, b2, b3, b4⟩ := s
        obtain ⟨z1, z2, z3, z4⟩ := z
        rw [b1, cal2_some, if_neg (by decide)]
        obtain ⟨f3, d1, d2, d3, d4⟩ := X2_addStep b2 (by omega) t.1 0 0 (fun _ => rfl)
        rw [d1, cal_some, on_succ]
        exact CS_pre (a3.trans (b3.trans d3)) (by rw [d4, b4, a4]) (ih k (i + 1) t' u' ((t.1, 0) :: C') f3 g2 (by omega) z4 (by simp only [List.length_cons]; omega) z3 d2)
    · rw [if_neg (fun z => c ((on_inj (by omega) (by omega)).mp z)), if_neg c]
      exact ⟨f, g, rfl, h, CFr.refl, rfl⟩
theorem c_pj {rp : CRp} {pp : RPt} {level w : Nat} (h6 : level ≤ 5) (hw : w ≤ 7) (hp : SRP B L pp) (hs : SIM B L rp pp (level + 1) w) {t : TK} {u : Nat} {C : List (Nat × Nat)} {f : Nat → Nat → Int32} {g : (Nat → Nat → Int64) × (Nat → Nat → Option Nat)} (ht : TV B L t) (hC : C.length ≤ 9 * u) (hu : u ≤ 30) (h : CE f g B L t u C) : CS f g B L (f_X5_readJoined rp (Int32.ofNat level) (Int32.ofNat w) (f, g)) (PJ (tk B L) pp level w t u C) := by
  unfold f_X5_readJoined PJ
  rw [on_succ]
  have s := hs t u C f g ht hC hu h
  have z := hp (level + 1) w t u C hw ht
  revert s z
  generalize pp (level + 1) w t u C = r
  intro s z
  rcases r with ⟨c', p'⟩ | ⟨t', u', C'⟩
  · obtain ⟨f2, g2, b1, b2, b3, b4⟩ := s
    rw [b1, cal2_some, if_pos rfl]
    exact ⟨f2, g2, rfl, b2, b3, b4⟩
  · obtain ⟨f2, g2, b1, b2, b3, b4⟩ := s
    obtain ⟨z1, z2, z3, z4⟩ := z
    rw [b1, cal2_some, if_neg (by decide)]
    refine CS_pre b3 b4 ?_
    simp only
    by_cases c : level = 3
    · rw [if_pos (show Int32.ofNat level = 3 by rw [c]; rfl), if_pos c]
      exact c_pl (N := 1) (by decide) h6 hw hp hs 1 3998 0 t' u' C' f2 g2 rfl z4 (by omega) z3 b2
    · have nc : ¬ Int32.ofNat level = 3 := fun z => c ((on_inj (a := level) (b := 3) (by omega) (by decide)).mp z)
      rw [if_neg nc, if_neg c]
      exact c_pl (N := 30) (by decide) h6 hw hp hs 30 3969 0 t' u' C' f2 g2 rfl z4 (by omega) z3 b2
theorem c_pn {rp : CRp} {pp : RPt} {w : Nat} (hw : w ≤ 7) (hp : SRP B L pp) (hs : w ≤ 6 → SIM B L rp pp 3 (w + 1)) {t : TK} {u : Nat} {C : List (Nat × Nat)} {f : Nat → Nat → Int32} {g : (Nat → Nat → Int64) × (Nat → Nat → Option Nat)} (ht : TV B L t) (hC : C.length ≤ 9 * u) (hu : u ≤ 30) (h : CE f g B L t u C) : CS f g B L (f_X5_readNot rp (Int32.ofNat w) (f, g)) (PN (tk B L) pp w t u C) := by
  unfold f_X5_readNot PN
  by_cases c : 6 < w
  · rw [if_pos (by rw [show (6 : Int32) = Int32.ofNat 6 from rfl, on_lt (by omega) (by omega)]; exact c), if_pos c]
    refine CS_cs h.1 ht.go.2.2.2 ?_
    rw [X5_cannotStand h.1 ht.go.2.2.2, cal2_some, zrt_0]
  · rw [if_neg (by rw [show (6 : Int32) = Int32.ofNat 6 from rfl, on_lt (by omega) (by omega)]; exact c), if_neg c]
    obtain ⟨f1, g1, a1, a2, a3, a4, -⟩ := adv h ht
    rw [a1, cal_some, on_succ]
    have s := hs (by omega) (tk B L t.2.2.1) u C f1 g1 ht.go.1 hC hu a2
    have z := hp 3 (w + 1) (tk B L t.2.2.1) u C (by omega) ht.go.1
    revert s z
    generalize pp 3 (w + 1) (tk B L t.2.2.1) u C = r
    intro s z
    have e3 : Int32.ofNat 3 = 3 := rfl
    rw [e3] at s
    rcases r with ⟨c', p'⟩ | ⟨t', u', C'⟩
    · obtain ⟨f2, g2, b1, b2, b3, b4⟩ := s
      rw [b1, cal2_some, if_pos rfl]
      exact ⟨f2, g2, rfl, b2, b3, a3.trans b4⟩
    · obtain ⟨f2, g2, b1, b2, b3, b4⟩ := s
      obtain ⟨z1, z2, z3, z4⟩ := z
      rw [b1, cal2_some, if_neg (by decide)]
      obtain ⟨f3, d1, d2, d3, d4⟩ := X2_addStep b2 (by omega) 13 0 0 (fun _ => rfl)
      have d1' : f_X2_addStep_23 13 0 (f2, g2) = _ := d1
      rw [d1', cal_some]
      exact ⟨f3, g2, rfl, d2, a3.trans (b3.trans d3), by rw [d4, b4, a4]⟩
theorem c_pu {rp : CRp} {pp : RPt} {w : Nat} (hw : w ≤ 7) (hp : SRP B L pp) (hs : w ≤ 6 → SIM B L rp pp 1 (w + 1)) {t : TK} {u : Nat} {C : List (Nat × Nat)} {f : Nat → Nat → Int32} {g : (Nat → Nat → Int64) × (Nat → Nat → Option Nat)} (ht : TV B L t) (hC : C.length ≤ 9 * u) (hu : u ≤ 30) (h : CE f g B L t u C) : CS f g B L (f_X5_readUnit rp (Int32.ofNat w) (f, g)) (PU (tk B L) pp w t u C) := by
  have hk := ht.go.2.2.2
  have one : ¬ (1 : Int32) = 0 := by decide
  have hno : ∀ x : Int32, CS f g B L (cal2 (f_X5_cannotStand (f, g)) fun v44 h46 => zrt v44 (some (v44, h46))) (csE t) := fun _ => CS_cs h.1 hk (by rw [X5_cannotStand h.1 hk, cal2_some, zrt_0])
  have hu30 : Int32.ofNat u < 30 ↔ u < 30 := by rw [show (30 : Int32) = Int32.ofNat 30 from rfl, on_lt (by omega) (by omega)]
  -- one more unit
  have h1 : CE (am_u2 f 23 4 (Int32.ofNat (u + 1))) g B L t (u + 1) C := by
    obtain ⟨a1, a2, a3, a4, a5⟩ := h
    refine ⟨by unfold CT; rw [u2_ne (by decide)]; exact a1, ?_, by rw [au_nk (by decide)]; exact a3, au_same, CLc_cong (fun i _ => by rw [u2_ne (by decide)]) (fun i _ => by rw [u2_ne (by decide)]) a5⟩
    obtain ⟨t1, t2, t3, t4, t5⟩ := a2
    exact ⟨by rw [u2_ne (by decide)]; exact t1, t2, by rw [u2_ne (by decide)]; exact t3, t4, t5⟩
  have fr1 : CFr f (am_u2 f 23 4 (Int32.ofNat (u + 1))) g g := ⟨fun a _ _ z _ _ => u2_ne z, fun k _ _ => by rw [u2_ne (by decide)], rfl, fun _ _ => rfl⟩
  have e14 : am_u2 f 23 4 (Int32.ofNat (u + 1)) 14 = f 14 := u2_ne (by decide)
  unfold f_X5_readUnit PU
  rw [bnd_eq]
  simp only [h.1.2.1, kiff hk (show (29 : Int32) = Int32.ofNat 29 from rfl) (by decide), kiff hk (show (3 : Int32) = Int32.ofNat 3 from rfl) (by decide), kiff hk (show (14 : Int32) = Int32.ofNat 14 from rfl) (by decide), kiff hk (show (15 : Int32) = Int32.ofNat 15 from rfl) (by decide), kiff hk (show (16 : Int32) = Int32.ofNat 16 from rfl) (by decide), kiff hk (show (17 : Int32) = Int32.ofNat 17 from rfl) (by decide)]
  by_cases p : isPl t.1 = true
  · rw [if_pos p]
    have hp' : t.1 = 29 ∨ t.1 = 3 ∨ t.1 = 14 ∨ t.1 = 15 ∨ t.1 = 16 ∨ t.1 = 17 := by
      simp only [isPl, Bool.or_eq_true, beq_iff_eq] at p
      omega
    have n19 : ¬ Int32.ofNat t.1 = 19 := fun z => by
      have := (kiff hk (show (19 : Int32) = Int32.ofNat 19 from rfl) (by decide)).mp z
      omega
    have j43 : jn_X5_readUnit_43 rp (Int32.ofNat w) (Int32.ofNat t.1) (f, g) = jn_X5_readUnit_77 rp (Int32.ofNat w) (Int32.ofNat t.1) 1 (f, g) := by
      unfold jn_X5_readUnit_43 jn_X5_readUnit_48 jn_X5_readUnit_65 jn_X5_readUnit_66
      rw [if_neg n19, if_neg one]
    have hall : (if t.1 = 29 then jn_X5_readUnit_43 rp (Int32.ofNat w) (Int32.ofNat t.1) (f, g) else if t.1 = 3 then jn_X5_readUnit_43 rp (Int32.ofNat w) (Int32.ofNat t.1) (f, g) else if t.1 = 14 then jn_X5_readUnit_43 rp (Int32.ofNat w) (Int32.ofNat t.1) (f, g) else if t.1 = 15 then jn_X5_readUnit_43 rp (Int32.ofNat w) (Int32.ofNat t.1) (f, g) else if t.1 = 16 then jn_X5_readUnit_43 rp (Int32.ofNat w) (Int32.ofNat t.1) (f, g) else if t.1 = 17 then jn_X5_readUnit_43 rp (Int32.ofNat w) (Int32.ofNat t.1) (f, g) else jn_X5_readUnit_48 rp (Int32.ofNat w) (Int32.ofNat t.1) 0 (f, g)) = jn_X5_readUnit_43 rp (Int32.ofNat w) (Int32.ofNat t.1) (f, g) := by
      rcases hp' with z | z | z | z | z | z <;> rw [z] <;> rfl
    rw [hall, j43]
    unfold jn_X5_readUnit_77
    rw [bnd_eq]
    simp only [h.2.2.2.1, hu30]
    by_cases c : 30 ≤ u
    · rw [if_neg (by omega), if_pos c]; exact hno 0
    · rw [if_pos (show u < 30 by omega), if_neg c, bnd_eq, ptI_eq, if_neg one, bnd_eq]
      simp only [on_succ, h1.1.1, u2_ne (show (1 : Nat) ≠ 23 by decide)]
      obtain ⟨f2, d1, d2, d3, d4⟩ := X2_addStep h1 (by omega) t.1 (f 1 6) t.2.2.2.1 (fun z => h.1.2.2.2.1 z)
      rw [d1, cal_some]
      obtain ⟨f3, g3, a1, a2, a3, a4, -⟩ := adv d2 ht
      rw [a1, cal_some]
      exact ⟨f3, g3, rfl, a2, fr1.trans (d3.trans a3), by rw [a4, d4, e14]⟩
  · rw [if_neg p]
    have hp' : ¬ t.1 = 29 ∧ ¬ t.1 = 3 ∧ ¬ t.1 = 14 ∧ ¬ t.1 = 15 ∧ ¬ t.1 = 16 ∧ ¬ t.1 = 17 := by
      simp only [isPl, Bool.or_eq_true, beq_iff_eq] at p
      omega
    rw [if_neg hp'.1, if_neg hp'.2.1, if_neg hp'.2.2.1, if_neg hp'.2.2.2.1, if_neg hp'.2.2.2.2.1, if_neg hp'.2.2.2.2.2]
    unfold jn_X5_readUnit_48
    simp only [kiff hk (show (19 : Int32) = Int32.ofNat 19 from rfl) (by decide)]
    have h6w : (6 : Int32) < Int32.ofNat w ↔ 6 < w := by rw [show (6 : Int32) = Int32.ofNat 6 from rfl, on_lt (by omega) (by omega)]
    simp only [h6w]
    have j65 : CS f g B L (jn_X5_readUnit_65 rp (Int32.ofNat w) (Int32.ofNat t.1) 0 (f, g)) (csE t) := by
      unfold jn_X5_readUnit_65 jn_X5_readUnit_66
      rw [if_pos rfl, if_pos rfl]; exact hno 0
    by_cases c19 : t.1 = 19
    · rw [if_pos c19]
      by_cases cw : 6 < w
      · rw [if_pos cw, if_neg (fun z => by omega)]; exact j65
      · rw [if_neg cw, if_pos ⟨c19, by omega⟩]
        unfold jn_X5_readUnit_66 jn_X5_readUnit_77
        rw [if_pos rfl, if_neg one, bnd_eq]
        simp only [h.2.2.2.1, hu30]
        by_cases c : 30 ≤ u
        · rw [if_neg (by omega), if_pos c]; exact hno 0
        · rw [if_pos (show u < 30 by omega), if_neg c, bnd_eq, ptI_eq, if_pos True.intro]
          simp only [on_succ]
          obtain ⟨f3, g3, a1, a2, a3, a4, -⟩ := adv h1 ht
          rw [a1, cal_some]
          have s := hs (by omega) (tk B L t.2.2.1) (u + 1) C f3 g3 ht.go.1 (by omega) (by omega) a2
          have z := hp 1 (w + 1) (tk B L t.2.2.1) (u + 1) C (by omega) ht.go.1
          revert s z
          generalize pp 1 (w + 1) (tk B L t.2.2.1) (u + 1) C = r
          intro s z
          have e1 : Int32.ofNat 1 = 1 := rfl
          rw [e1] at s
          have fr := fr1.trans a3
          rcases r with ⟨c', p'⟩ | ⟨t', u', C'⟩
          · obtain ⟨f4, g4, b1, b2, b3, b4⟩ := s
            rw [b1, cal2_some, if_pos rfl]
            exact ⟨f4, g4, rfl, b2, b3, fr.trans b4⟩
          · obtain ⟨f4, g4, b1, b2, b3, b4⟩ := s
            obtain ⟨z1, z2, z3, z4⟩ := z
            have hk' := z4.go.2.2.2
            rw [b1, cal2_some, if_neg one, bnd_eq]
            simp only [b2.1.2.1, kiff hk' (show (20 : Int32) = Int32.ofNat 20 from rfl) (by decide)]
            by_cases c20 : t'.1 = 20
            · rw [if_pos c20, if_pos c20]
              obtain ⟨f5, g5, d1, d2, d3, d4, -⟩ := adv b2 z4
              rw [d1, cal_some]
              exact ⟨f5, g5, rfl, d2, fr.trans (b3.trans d3), by rw [d4, b4, a4, e14]⟩
            · rw [if_neg c20, if_neg c20]
              refine CS_pre (fr.trans b3) (by rw [b4, a4, e14]) (CS_cs b2.1 hk' ?_)
              rw [X5_cannotStand b2.1 hk', cal2_some, zrt_0]
    · rw [if_neg c19, if_neg (fun z => c19 z.1)]; exact j65
theorem CS_zrt {f : Nat → Nat → Int32} {g : (Nat → Nat → Int64) × (Nat → Nat → Option Nat)} {out : Option (Int32 × am_H)} {r : PR} (s : CS f g B L out r) : CS f g B L (cal2 out fun v2 h4 => zrt v2 (some (v2, h4))) r := by
  rcases r with ⟨c, p⟩ | ⟨t', u', C'⟩
  · obtain ⟨f', g', a1, a2⟩ := s
    exact ⟨f', g', by rw [a1, cal2_some, zrt_0], a2⟩
  · obtain ⟨f', g', a1, a2⟩ := s
    exact ⟨f', g', by rw [a1, cal2_some, zrt_1], a2⟩
theorem c_pe : ∀ n level w, 1 ≤ level → level ≤ 6 → w ≤ 7 → 6 * (7 - w) + (7 - level) ≤ n → SIM B L (f_X5_readPart n) (PE (tk B L) n) level w := by
  intro n
  induction n with
  | zero => intro level w h1 h2 h3 h4; omega
  | succ n ih =>
    intro level w l1 l6 hw hn t u C f g ht hC hu h
    have hk := ht.go.2.2.2
    rw [f_X5_readPart, PE]
    simp only
    unfold f_X5_readPart_b
    have e6 : Int32.ofNat level < 6 ↔ level < 6 := by rw [show (6 : Int32) = Int32.ofNat 6 from rfl, on_lt (by omega) (by omega)]
    have e3 : Int32.ofNat level = 3 ↔ level = 3 := by rw [show (3 : Int32) = Int32.ofNat 3 from rfl, on_inj (by omega) (by omega)]
    simp only [e6, e3]
    by_cases c : level < 6
    · rw [if_pos c, if_pos c]
      have hj := CS_zrt (c_pj (f := f) (g := g) (by omega) hw (SZ_pe n) (ih (level + 1) w (by omega) (by omega) hw (by omega)) ht hC hu h)
      by_cases c3 : level = 3
      · rw [if_pos c3, bnd_eq]
        simp only [h.1.2.1, kiff hk (show (13 : Int32) = Int32.ofNat 13 from rfl) (by decide)]
        by_cases c13 : t.1 = 13
        · rw [if_pos c13, if_pos ⟨c3, c13⟩]
          exact CS_zrt (c_pn (f := f) (g := g) hw (SZ_pe n) (fun z => ih 3 (w + 1) (by omega) (by omega) (by omega) (by omega)) ht hC hu h)
        · rw [if_neg c13, if_neg (fun z => c13 z.2)]
          exact hj
      · rw [if_neg c3, if_neg (fun z => c3 z.1)]
        exact hj
    · rw [if_neg c, if_neg c]
      exact CS_zrt (c_pu (f := f) (g := g) hw (SZ_pe n) (fun z => ih 1 (w + 1) (by omega) (by omega) (by omega) (by omega)) ht hC hu h)
end CP
