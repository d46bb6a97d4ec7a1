/-! the class reads lines, as on paper -/
def bitsO (D : DR) : Nat := D.1 5 * 128 + D.1 6 * 256 + D.1 7 * 512 + D.1 8 * 1024
def CD (f : Nat → Nat → Int32) (g : (Nat → Nat → Int64) × (Nat → Nat → Option Nat)) (D : DR) : Prop := (f 17 6 = Int32.ofNat (D.1 0) ∧ f 17 7 = Int32.ofNat (D.1 1) ∧ f 17 8 = Int32.ofNat (D.1 2) ∧ f 17 9 = Int32.ofNat (D.1 3) ∧ f 17 10 = Int32.ofNat (D.1 4)) ∧ f 14 3 = Int32.ofNat (bitsO D) ∧ (∀ i, i < D.1 0 → g.1 15 i = Int64.ofNat (D.2.1 0 i) ∧ D.2.1 0 i < 2 ^ 40 ∧ f 18 i = Int32.ofNat (D.2.1 1 i)) ∧ (∀ i, i < D.1 1 → g.1 16 i = Int64.ofNat (D.2.1 2 i) ∧ D.2.1 2 i < 2 ^ 40 ∧ f 19 i = Int32.ofNat (D.2.1 3 i) ∧ f 20 i = Int32.ofNat (D.2.1 4 i) ∧ f 21 i = Int32.ofNat (D.2.1 5 i) ∧ f 22 i = Int32.ofNat (D.2.1 6 i)) ∧ f 23 3 = Int32.ofNat D.2.2.length ∧ f 23 4 = Int32.ofNat (D.1 9) ∧ CLc f D.2.2
def QF (f f' : Nat → Nat → Int32) (g g' : (Nat → Nat → Int64) × (Nat → Nat → Option Nat)) : Prop := (∀ a, a ≠ 1 → a ≠ 14 → f' a = f a) ∧ (∀ k, k ≠ 4 → f' 14 k = f 14 k) ∧ g'.2 = g.2 ∧ ∀ a, a ≠ 1 → g'.1 a = g.1 a
def FRc (f f' : Nat → Nat → Int32) (g g' : (Nat → Nat → Int64) × (Nat → Nat → Option Nat)) : Prop := (∀ a, a ≠ 1 → ¬ (14 ≤ a ∧ a ≤ 26) → f' a = f a) ∧ g'.2 = g.2 ∧ ∀ a, a ≠ 1 → a ≠ 15 → a ≠ 16 → g'.1 a = g.1 a
def CDT (f : Nat → Nat → Int32) (g : (Nat → Nat → Int64) × (Nat → Nat → Option Nat)) (B : Nat → Nat) (L : Nat) (D : DR) (t : TK) : Prop := CT f g t ∧ TPc f g B L ∧ TV B L t ∧ CD f g D
def FAc (f : Nat → Nat → Int32) (g : (Nat → Nat → Int64) × (Nat → Nat → Option Nat)) (out : Option (Int32 × am_H)) (e : Nat × Nat) : Prop := ∃ f' g', out = some (0, (f', g')) ∧ f' 14 6 = Int32.ofNat e.1 ∧ f' 14 7 = Int32.ofNat e.2 ∧ FRc f f' g g'
def KR (f : Nat → Nat → Int32) (g : (Nat → Nat → Int64) × (Nat → Nat → Option Nat)) (B : Nat → Nat) (L : Nat) (out : Option (Int32 × am_H)) : LR → Prop
  | .inl e => FAc f g out e
  | .inr (t', D') => ∃ f' g', out = some (1, (f', g')) ∧ CDT f' g' B L D' t' ∧ FRc f f' g g' ∧ f' 14 6 = f 14 6 ∧ f' 14 7 = f 14 7
theorem QF.refl {f : Nat → Nat → Int32} {g : (Nat → Nat → Int64) × (Nat → Nat → Option Nat)} : QF f f g g := ⟨fun _ _ _ => rfl, fun _ _ => rfl, rfl, fun _ _ => rfl⟩
theorem QF.trans {f f' f'' : Nat → Nat → Int32} {g g' g'' : (Nat → Nat → Int64) × (Nat → Nat → Option Nat)} (h : QF f f' g g') (h' : QF f' f'' g' g'') : QF f f'' g g'' := ⟨fun a z1 z2 => (h'.1 a z1 z2).trans (h.1 a z1 z2), fun k z => (h'.2.1 k z).trans (h.2.1 k z), h'.2.2.1.trans h.2.2.1, fun a z => (h'.2.2.2 a z).trans (h.2.2.2 a z)⟩
theorem QF.fr {f f' : Nat → Nat → Int32} {g g' : (Nat → Nat → Int64) × (Nat → Nat → Option Nat)} (h : QF f f' g g') : FRc f f' g g' := ⟨fun a z1 z2 => h.1 a z1 (by omega), h.2.2.1, fun a z1 _ _ => h.2.2.2 a z1⟩
theorem FRc.trans {f f' f'' : Nat → Nat → Int32} {g g' g'' : (Nat → Nat → Int64) × (Nat → Nat → Option Nat)} (h : FRc f f' g g') (h' : FRc f' f'' g' g'') : FRc f f'' g g'' := ⟨fun a z1 z2 => (h'.1 a z1 z2).trans (h.1 a z1 z2), h'.2.1.trans h.2.1, fun a z1 z2 z3 => (h'.2.2 a z1 z2 z3).trans (h.2.2 a z1 z2 z3)⟩
theorem FRc.refl {f : Nat → Nat → Int32} {g : (Nat → Nat → Int64) × (Nat → Nat → Option Nat)} : FRc f f g g := ⟨fun _ _ _ => rfl, rfl, fun _ _ _ _ => rfl⟩
theorem FAc.pre {f f1 : Nat → Nat → Int32} {g g1 : (Nat → Nat → Int64) × (Nat → Nat → Option Nat)} {out : Option (Int32 × am_H)} {e : Nat × Nat} (h : FRc f f1 g g1) (s : FAc f1 g1 out e) : FAc f g out e := by
  obtain ⟨f', g', a1, a2, a3, a4⟩ := s
  exact ⟨f', g', a1, a2, a3, h.trans a4⟩
theorem FAc.zrt {f : Nat → Nat → Int32} {g : (Nat → Nat → Int64) × (Nat → Nat → Option Nat)} {out : Option (Int32 × am_H)} {e : Nat × Nat} (s : FAc f g out e) : FAc f g (cal2 out fun v h => zrt v (some (v, h))) e := by
  obtain ⟨f', g', a1, a2⟩ := s
  exact ⟨f', g', by rw [a1, cal2_some, zrt_0], a2⟩
theorem FAc.iff {f : Nat → Nat → Int32} {g : (Nat → Nat → Int64) × (Nat → Nat → Option Nat)} {out : Option (Int32 × am_H)} {e : Nat × Nat} {k : Int32 → am_H → Option (Int32 × am_H)} (s : FAc f g out e) (hk : ∀ h, k 0 h = some (0, h)) : FAc f g (cal2 out k) e := by
  obtain ⟨f', g', a1, a2⟩ := s
  exact ⟨f', g', by rw [a1, cal2_some, hk], a2⟩
theorem CD_q {f f' : Nat → Nat → Int32} {g g' : (Nat → Nat → Int64) × (Nat → Nat → Option Nat)} {D : DR} (h : QF f f' g g') (c : CD f g D) : CD f' g' D := by
  obtain ⟨c1, c2, c3, c4, c5, c6, c7⟩ := c
  obtain ⟨q1, q2, q3, q4⟩ := h
  refine ⟨by rw [q1 17 (by decide) (by decide)]; exact c1, by rw [q2 3 (by decide)]; exact c2, fun i hi => by rw [q4 15 (by decide), q1 18 (by decide) (by decide)]; exact c3 i hi, fun i hi => by rw [q4 16 (by decide), q1 19 (by decide) (by decide), q1 20 (by decide) (by decide), q1 21 (by decide) (by decide), q1 22 (by decide) (by decide)]; exact c4 i hi, by rw [q1 23 (by decide) (by decide)]; exact c5, by rw [q1 23 (by decide) (by decide)]; exact c6, CLc_cong (fun i _ => by rw [q1 24 (by decide) (by decide)]) (fun i _ => by rw [q1 25 (by decide) (by decide)]) c7⟩
section KA
variable {f : Nat → Nat → Int32} {g : (Nat → Nat → Int64) × (Nat → Nat → Option Nat)} {B : Nat → Nat} {L : Nat} {D : DR} {t : TK}
theorem CDT.k (h : CDT f g B L D t) : t.1 ≤ 32 := h.2.2.1.go.2.2.2
theorem fail_fr {c p : Int32} : FRc f (am_u2 (am_u2 f 14 6 c) 14 7 p) g g := ⟨fun a z1 z2 => by rw [u2_ne (by omega), u2_ne (by omega)], rfl, fun _ _ _ _ => rfl⟩
theorem FA_cs (h : CDT f g B L D t) : FAc f g (f_X5_cannotStand (f, g)) (if t.1 = 32 then 1 else 2, t.2.1) := ⟨_, g, X5_cannotStand h.1 h.k, by rw [au_nk (by decide), au_same], by rw [au_same], fail_fr⟩
theorem FA_as (h : CDT f g B L D t) (c : Nat) : FAc f g (f_X5_failAs (Int32.ofNat c) (f, g)) (c, t.2.1) := ⟨_, g, X5_failAs h.1 _, by rw [au_nk (by decide), au_same], by rw [au_same], fail_fr⟩
theorem c_adv (h : CDT f g B L D t) : ∃ f' g', f_X9_advance (f, g) = some (f', g') ∧ CDT f' g' B L D (tk B L t.2.2.1) ∧ QF f f' g g' ∧ f' 14 = f 14 := by
  obtain ⟨h1, h2, h3, h4⟩ := h
  obtain ⟨f', g', a1, a2, a3, a4, a5, a6⟩ := X9_advance h2 h1.1 h3.go.2.1
  have q : QF f f' g g' := ⟨fun a z _ => a4 a z, fun k _ => by rw [a4 14 (by decide)], a5, a6⟩
  exact ⟨f', g', a1, ⟨a2, a3, h3.go.1, CD_q q h4⟩, q, a4 14 (by decide)⟩
theorem c_take (h : CDT f g B L D t) {k : Nat} (hk : k ≤ 32) : match pTk (tk B L) k t with
    | .inl e => FAc f g (f_X5_take (Int32.ofNat k) (f, g)) e
    | .inr t' => ∃ f' g', f_X5_take (Int32.ofNat k) (f, g) = some (1, (f', g')) ∧ CDT f' g' B L D t' ∧ QF f f' g g' := by
  unfold f_X5_take pTk
  rw [bnd_eq]
  have e : f 1 4 = Int32.ofNat k ↔ t.1 = k := by rw [h.1.2.1, on_inj (by have := h.k; omega) (by omega)]
  simp only [e]
  by_cases c : t.1 = k
  · rw [if_pos c, if_pos c]
    obtain ⟨f', g', a1, a2, a3, -⟩ := c_adv h
    exact ⟨f', g', by rw [a1, cal_some], a2, a3⟩
  · rw [if_neg c, if_neg c]
    exact (FA_cs h).zrt
theorem tk_nu {B : Nat → Nat} {L : Nat} {t : TK} (h : TV B L t) (hk : t.1 = 29) : t.2.2.2.1 < 100000 := by
  obtain ⟨p, hp, rfl⟩ := h
  unfold tk tkAt at hk ⊢
  have nb : ∀ (c : Nat → Nat) n, (∀ i, i < n → c i ≤ 57) → nuN c n < 10 ^ n := fun c n => by
    induction n with
    | zero => intro _; simp [nuN]
    | succ n ih =>
      intro hc
      have := ih (fun i hi => hc i (by omega))
      have := hc n (by omega)
      rw [nuN, Nat.pow_succ]; omega
  have hwk : ∀ N, wk N ≠ 29 := fun N => by rcases wk_spec N with ⟨a, -⟩ | ⟨a, -⟩ <;> omega
  have hsg : ∀ c, sgK c ≠ 29 := fun c => by unfold sgK; (repeat' split) <;> decide
  by_cases c : tkQ B L p < L
  · rw [if_pos c] at hk ⊢
    by_cases c1 : isLt (chA B L (tkQ B L p)) = true
    · rw [if_pos c1] at hk
      simp only at hk
      split at hk
      · omega
      · exact absurd hk (hwk _)
    · rw [if_neg c1] at hk ⊢
      by_cases c2 : isDg (chA B L (tkQ B L p)) = true
      · rw [if_pos c2] at hk ⊢
        simp only at hk ⊢
        by_cases c3 : 4 < tkD B L (tkQ B L p) ∨ isLt (chA B L (tkQ B L p + tkD B L (tkQ B L p))) = true
        · rw [if_pos c3] at hk; omega
        · have := nb (fun i => chA B L (tkQ B L p + i)) (tkD B L (tkQ B L p)) (fun i hi => by
            have := (rl_spec (P := fun i => isDg (chA B L i)) 1600 (tkQ B L p)).1 i hi
            simp only [isDg, Bool.and_eq_true] at this
            exact of_decide_eq_true this.2)
          have h4 : tkD B L (tkQ B L p) ≤ 4 := by omega
          have : 10 ^ tkD B L (tkQ B L p) ≤ 10 ^ 4 := Nat.pow_le_pow_right (by decide) h4
          omega
      · rw [if_neg c2] at hk
        exact absurd hk (hsg _)
  · rw [if_neg c] at hk
    simp only at hk; omega
theorem tk_w {B : Nat → Nat} {L : Nat} {t : TK} (h : TV B L t) (hk : t.1 = 30) : ∃ M, WMr t.2.2.2.2 M := by
  obtain ⟨p, hp, rfl⟩ := h
  unfold tk tkAt at hk ⊢
  have hsg : ∀ c, sgK c ≠ 30 := fun c => by unfold sgK; (repeat' split) <;> decide
  by_cases c : tkQ B L p < L
  · rw [if_pos c] at hk ⊢
    by_cases c1 : isLt (chA B L (tkQ B L p)) = true
    · rw [if_pos c1] at hk ⊢
      simp only at hk ⊢
      by_cases c8 : 8 < tkW B L (tkQ B L p)
      · rw [if_pos c8] at hk; omega
      · exact ⟨_, wtok (by omega)⟩
    · rw [if_neg c1] at hk
      by_cases c2 : isDg (chA B L (tkQ B L p)) = true
      · rw [if_pos c2] at hk
        simp only at hk
        split at hk <;> omega
      · rw [if_neg c2] at hk
        exact absurd hk (hsg _)
  · rw [if_neg c] at hk
    simp only at hk; omega
theorem c_num (h : CDT f g B L D t) {lo hi : Nat} (hlo : lo ≤ 10) (hhi : hi ≤ 1000) : match pNu (tk B L) lo hi t with
    | .inl e => FAc f g (f_X5_readNumber (Int32.ofNat lo) (Int32.ofNat hi) (f, g)) e
    | .inr x => ∃ f' g', f_X5_readNumber (Int32.ofNat lo) (Int32.ofNat hi) (f, g) = some (1, (f', g')) ∧ CDT f' g' B L D x.2 ∧ QF f f' g g' ∧ f' 14 4 = Int32.ofNat x.1 := by
  unfold f_X5_readNumber pNu
  rw [bnd_eq]
  simp only [h.1.2.1, kiff h.k (show (29 : Int32) = Int32.ofNat 29 from rfl) (by decide)]
  by_cases c : t.1 = 29
  · have hnu := tk_nu h.2.2.1 c
    have e6 := h.1.2.2.2.1 c
    rw [if_pos c, if_pos c, bnd_eq]
    simp only [e6]
    have l1 : Int32.ofNat t.2.2.2.1 < Int32.ofNat lo ↔ t.2.2.2.1 < lo := on_lt (by omega) (by omega)
    have l2 : Int32.ofNat hi < Int32.ofNat t.2.2.2.1 ↔ hi < t.2.2.2.1 := on_lt (by omega) (by omega)
    have fa : FAc f g (cal2 (f_X5_failAs 4 (f, g)) fun v4 h6 => zrt v4 (some (v4, h6))) (4, t.2.1) := (FA_as h 4).zrt
    simp only [l1]
    by_cases c1 : t.2.2.2.1 < lo
    · rw [if_pos c1, if_pos (Or.inl c1)]
      exact fa
    · rw [if_neg c1, bnd_eq]
      simp only [l2]
      by_cases c2 : hi < t.2.2.2.1
      · rw [if_pos c2, if_pos (Or.inr c2)]
        exact fa
      · rw [if_neg c2, if_neg (fun z => z.elim c1 c2), bnd_eq, ptI_eq]
        have q1 : QF f (am_u2 f 14 4 (Int32.ofNat t.2.2.2.1)) g g := ⟨fun a _ z => u2_ne z, fun k z => au_nk z, rfl, fun _ _ => rfl⟩
        have h1 : CDT (am_u2 f 14 4 (Int32.ofNat t.2.2.2.1)) g B L D t := by
          obtain ⟨k1, k2, k3, k4⟩ := h
          refine ⟨by unfold CT; rw [u2_ne (by decide)]; exact k1, ?_, k3, CD_q q1 k4⟩
          obtain ⟨t1, t2, t3, t4, t5⟩ := k2
          exact ⟨by rw [u2_ne (by decide)]; exact t1, t2, by rw [u2_ne (by decide)]; exact t3, t4, t5⟩
        obtain ⟨f', g', a1, a2, a3, a4⟩ := c_adv h1
        refine ⟨f', g', by rw [a1, cal_some], a2, q1.trans a3, by rw [a4, au_same]⟩
  · rw [if_neg c, if_neg c]
    exact (FA_cs h).zrt
theorem c_find15 {N n : Nat} (hN : N < 2 ^ 40) (hn : n ≤ 4) (hg : ∀ i, i < n → g.1 15 i = Int64.ofNat (D.2.1 0 i) ∧ D.2.1 0 i < 2 ^ 40) : ∀ m k i, i + m = n → lp_X5_find_15_3 (Int32.ofNat n) (Int64.ofNat N) (f, g) (k + m + 1) (Int32.ofNat i) = some (if fndN (D.2.1 0) N m i = 99 then -1 else Int32.ofNat (fndN (D.2.1 0) N m i)) := by
  intro m
  induction m with
  | zero =>
    intro k i hi
    rw [lp_X5_find_15_3, if_neg (by rw [on_lt (by omega) (by omega)]; omega)]
    rfl
  | succ m ih =>
    intro k i hi
    rw [lp_X5_find_15_3, if_pos (by rw [on_lt (by omega) (by omega)]; omega), if_pos (by rw [show (4 : Int32) = Int32.ofNat 4 from rfl, on_lt (by omega) (by omega)]; omega)]
    obtain ⟨g1, g2⟩ := hg i (by omega)
    unfold rdL
    rw [if_pos (on_in (by omega) (by decide)), on_nat (by omega)]
    simp only [g1]
    rw [fndN]
    by_cases c : D.2.1 0 i = N
    · rw [if_pos (lgc.mpr (by rw [c])), if_pos c, if_neg (by omega)]
    · rw [if_neg (fun z => c ((on64 (by omega) (by omega)).mp (lgc.mp z))), if_neg c, on_succ]
      exact ih k (i + 1) (by omega)
theorem c_find16 {N n : Nat} (hN : N < 2 ^ 40) (hn : n ≤ 6) (hg : ∀ i, i < n → g.1 16 i = Int64.ofNat (D.2.1 2 i) ∧ D.2.1 2 i < 2 ^ 40) : ∀ m k i, i + m = n → lp_X5_find_16_3 (Int32.ofNat n) (Int64.ofNat N) (f, g) (k + m + 1) (Int32.ofNat i) = some (if fndN (D.2.1 2) N m i = 99 then -1 else Int32.ofNat (fndN (D.2.1 2) N m i)) := by
  intro m
  induction m with
  | zero =>
    intro k i hi
    rw [lp_X5_find_16_3, if_neg (by rw [on_lt (by omega) (by omega)]; omega)]
    rfl
  | succ m ih =>
    intro k i hi
    rw [lp_X5_find_16_3, if_pos (by rw [on_lt (by omega) (by omega)]; omega), if_pos (by rw [show (6 : Int32) = Int32.ofNat 6 from rfl, on_lt (by omega) (by omega)]; omega)]
    obtain ⟨g1, g2⟩ := hg i (by omega)
    unfold rdL
    rw [if_pos (on_in (by omega) (by decide)), on_nat (by omega)]
    simp only [g1]
    rw [fndN]
    by_cases c : D.2.1 2 i = N
    · rw [if_pos (lgc.mpr (by rw [c])), if_pos c, if_neg (by omega)]
    · rw [if_neg (fun z => c ((on64 (by omega) (by omega)).mp (lgc.mp z))), if_neg c, on_succ]
      exact ih k (i + 1) (by omega)
theorem m1_99 {x : Nat} (hx : x ≤ 99) : (if x = 99 then (-1 : Int32) else Int32.ofNat x) = -1 ↔ x = 99 := by
  by_cases c : x = 99
  · rw [if_pos c]; exact ⟨fun _ => c, fun _ => rfl⟩
  · rw [if_neg c]
    constructor
    · intro z; exact absurd (show Int32.ofNat x < 0 by rw [z]; decide) (nneg (by omega))
    · intro z; exact absurd z c
theorem fnd_99 {names : Nat → Nat} {w m i : Nat} (h : i + m ≤ 90) : fndN names w m i ≤ 99 := by
  rcases fnd_spec (names := names) (w := w) m i h with ⟨a, -⟩ | ⟨-, a, -⟩ <;> omega
/-- a new name of a room -/
theorem c_nm15 (h : CDT f g B L D t) (hn : D.1 0 < 4) : match pNm (tk B L) (D.2.1 0) (D.1 0) t with
    | .inl e => FAc f g (f_X5_readNewName_14_15 (Int32.ofNat (D.1 0)) (f, g)) e
    | .inr x => ∃ f' g', f_X5_readNewName_14_15 (Int32.ofNat (D.1 0)) (f, g) = some (1, (f', g')) ∧ CDT f' g' B L D x.2 ∧ FRc f f' g g' ∧ f' 14 = f 14 ∧ g'.1 15 (D.1 0) = Int64.ofNat x.1 ∧ x.1 < 2 ^ 40 := by
  unfold f_X5_readNewName_14_15 pNm
  rw [bnd_eq]
  simp only [h.1.2.1, kiff h.k (show (30 : Int32) = Int32.ofNat 30 from rfl) (by decide)]
  by_cases c : t.1 = 30
  · obtain ⟨M, hM⟩ := tk_w h.2.2.1 c
    have hw := (WMr_lt hM).1
    have e7 := h.1.2.2.2.2 c
    rw [if_pos c, if_pos c, bnd_eq]
    simp only [e7]
    have hf := c_find15 (f := f) (g := g) (D := D) (N := t.2.2.2.2) hw (n := D.1 0) (by omega) (fun i hi => ⟨(h.2.2.2.2.2.1 i hi).1, (h.2.2.2.2.2.1 i hi).2.1⟩) (D.1 0) (3999 - D.1 0) 0 (by omega)
    rw [show 3999 - D.1 0 + D.1 0 + 1 = 4000 by omega] at hf
    have hf' : f_X5_find_15 (Int32.ofNat (D.1 0)) (Int64.ofNat t.2.2.2.2) (f, g) = _ := hf
    rw [hf', cal_some]
    simp only [m1_99 (fnd_99 (names := D.2.1 0) (w := t.2.2.2.2) (m := D.1 0) (i := 0) (by omega))]
    by_cases c9 : fndN (D.2.1 0) t.2.2.2.2 (D.1 0) 0 = 99
    · rw [if_pos c9, if_neg (nneg (by omega)), if_pos (show Int32.ofNat (D.1 0) < 4 by rw [show (4 : Int32) = Int32.ofNat 4 from rfl, on_lt (by omega) (by omega)]; exact hn), bnd_eq, if_pos c9]
      simp only [e7]
      unfold wrL
      rw [if_pos (on_in hn (by decide)), on_nat (by omega)]
      have h1 : CDT f (am_u2 g.1 15 (D.1 0) (Int64.ofNat t.2.2.2.2), g.2) B L D t := by
        obtain ⟨k1, k2, k3, k4⟩ := h
        have e15 : ∀ a i, ¬ (a = 15 ∧ i = D.1 0) → am_u2 g.1 15 (D.1 0) (Int64.ofNat t.2.2.2.2) a i = g.1 a i := fun a i z => by simp [am_u2, z]
        refine ⟨⟨k1.1, k1.2.1, k1.2.2.1, k1.2.2.2.1, fun z => by simp only; rw [e15 1 7 (by omega)]; exact k1.2.2.2.2 z⟩, ?_, k3, ?_⟩
        · obtain ⟨t1, t2, t3, t4, t5⟩ := k2
          exact ⟨t1, t2, t3, t4, fun i hi => by simp only; rw [e15 3 i (by omega)]; exact t5 i hi⟩
        · obtain ⟨d1, d2, d3, d4, d5⟩ := k4
          exact ⟨d1, d2, fun i hi => by simp only; rw [e15 15 i (by omega)]; exact d3 i hi, fun i hi => by simp only; rw [e15 16 i (by omega)]; exact d4 i hi, d5⟩
      obtain ⟨f', g', a1, a2, a3, a4⟩ := c_adv h1
      refine ⟨f', g', by simp only; rw [a1, cal_some], a2, FRc.trans (f' := f) (g' := (am_u2 g.1 15 (D.1 0) (Int64.ofNat t.2.2.2.2), g.2)) ⟨fun _ _ _ => rfl, rfl, fun a _ z _ => by funext b; simp [am_u2, z]⟩ a3.fr, a4, ?_, hw⟩
      rw [a3.2.2.2 15 (by decide)]
      simp [am_u2]
    · rw [if_neg c9, if_neg c9]
      exact (FA_as h 3).zrt
  · rw [if_neg c, if_neg c]
    exact (FA_cs h).zrt
theorem c_nm16 (h : CDT f g B L D t) (hn : D.1 1 < 6) : match pNm (tk B L) (D.2.1 2) (D.1 1) t with
    | .inl e => FAc f g (f_X5_readNewName_14_16 (Int32.ofNat (D.1 1)) (f, g)) e
    | .inr x => ∃ f' g', f_X5_readNewName_14_16 (Int32.ofNat (D.1 1)) (f, g) = some (1, (f', g')) ∧ CDT f' g' B L D x.2 ∧ FRc f f' g g' ∧ f' 14 = f 14 ∧ g'.1 16 (D.1 1) = Int64.ofNat x.1 ∧ x.1 < 2 ^ 40 := by
  unfold f_X5_readNewName_14_16 pNm
  rw [bnd_eq]
  simp only [h.1.2.1, kiff h.k (show (30 : Int32) = Int32.ofNat 30 from rfl) (by decide)]
  by_cases c : t.1 = 30
  · obtain ⟨M, hM⟩ := tk_w h.2.2.1 c
    have hw := (WMr_lt hM).1
    have e7 := h.1.2.2.2.2 c
    rw [if_pos c, if_pos c, bnd_eq]
    simp only [e7]
    have hf := c_find16 (f := f) (g := g) (D := D) (N := t.2.2.2.2) hw (n := D.1 1) (by omega) (fun i hi => ⟨(h.2.2.2.2.2.2.1 i hi).1, (h.2.2.2.2.2.2.1 i hi).2.1⟩) (D.1 1) (3999 - D.1 1) 0 (by omega)
    rw [show 3999 - D.1 1 + D.1 1 + 1 = 4000 by omega] at hf
    have hf' : f_X5_find_16 (Int32.ofNat (D.1 1)) (Int64.ofNat t.2.2.2.2) (f, g) = _ := hf
    rw [hf', cal_some]
    simp only [m1_99 (fnd_99 (names := D.2.1 2) (w := t.2.2.2.2) (m := D.1 1) (i := 0) (by omega))]
    by_cases c9 : fndN (D.2.1 2) t.2.2.2.2 (D.1 1) 0 = 99
    · rw [if_pos c9, if_neg (nneg (by omega)), if_pos (show Int32.ofNat (D.1 1) < 6 by rw [show (6 : Int32) = Int32.ofNat 6 from rfl, on_lt (by omega) (by omega)]; exact hn), bnd_eq, if_pos c9]
      simp only [e7]
      unfold wrL
      rw [if_pos (on_in hn (by decide)), on_nat (by omega)]
      have h1 : CDT f (am_u2 g.1 16 (D.1 1) (Int64.ofNat t.2.2.2.2), g.2) B L D t := by
        obtain ⟨k1, k2, k3, k4⟩ := h
        have e15 : ∀ a i, ¬ (a = 16 ∧ i = D.1 1) → am_u2 g.1 16 (D.1 1) (Int64.ofNat t.2.2.2.2) a i = g.1 a i := fun a i z => by simp [am_u2, z]
        refine ⟨⟨k1.1, k1.2.1, k1.2.2.1, k1.2.2.2.1, fun z => by simp only; rw [e15 1 7 (by omega)]; exact k1.2.2.2.2 z⟩, ?_, k3, ?_⟩
        · obtain ⟨t1, t2, t3, t4, t5⟩ := k2
          exact ⟨t1, t2, t3, t4, fun i hi => by simp only; rw [e15 3 i (by omega)]; exact t5 i hi⟩
        · obtain ⟨d1, d2, d3, d4, d5⟩ := k4
          exact ⟨d1, d2, fun i hi => by simp only; rw [e15 15 i (by omega)]; exact d3 i hi, fun i hi => by simp only; rw [e15 16 i (by omega)]; exact d4 i hi, d5⟩
      obtain ⟨f', g', a1, a2, a3, a4⟩ := c_adv h1
      refine ⟨f', g', by simp only; rw [a1, cal_some], a2, FRc.trans (f' := f) (g' := (am_u2 g.1 16 (D.1 1) (Int64.ofNat t.2.2.2.2), g.2)) ⟨fun _ _ _ => rfl, rfl, fun a _ _ z => by funext b; simp [am_u2, z]⟩ a3.fr, a4, ?_, hw⟩
      rw [a3.2.2.2 16 (by decide)]
      simp [am_u2]
    · rw [if_neg c9, if_neg c9]
      exact (FA_as h 3).zrt
  · rw [if_neg c, if_neg c]
    exact (FA_cs h).zrt
theorem on_subN {a b : Nat} (h : b ≤ a) (ha : a < 2147483648) : Int32.ofNat a - Int32.ofNat b = Int32.ofNat (a - b) := by
  rw [← Int32.toInt_inj, ti_sub (by rw [on_toInt (by omega), on_toInt (by omega)]; omega) (by rw [on_toInt (by omega), on_toInt (by omega)]; omega), on_toInt (by omega), on_toInt (by omega), on_toInt (by omega)]
  omega
theorem smB_mono {bu ro : Nat → Nat} {r : Nat} : ∀ n m, n ≤ m → smB bu ro r n ≤ smB bu ro r m
  | n, 0, h => by rw [Nat.le_zero.mp h]; exact Nat.le_refl _
  | n, m + 1, h => by
    by_cases e : n = m + 1
    · rw [e]; exact Nat.le_refl _
    · have := smB_mono (bu := bu) (ro := ro) (r := r) n m (by omega)
      rw [smB]; omega
theorem c_left {r H : Nat} (hn : D.1 1 ≤ 6) (hr : r < 90) (hH : H ≤ 99) (hs : smB (D.2.1 3) (D.2.1 4) r (D.1 1) ≤ H) (h7 : f 17 7 = Int32.ofNat (D.1 1)) (ha : ∀ i, i < D.1 1 → f 19 i = Int32.ofNat (D.2.1 3 i) ∧ f 20 i = Int32.ofNat (D.2.1 4 i) ∧ D.2.1 4 i < 90) : ∀ m k i, i + m = D.1 1 → lp_X4_leftIn_17_21 (Int32.ofNat r) (f, g) (k + m + 1) (Int32.ofNat (H - smB (D.2.1 3) (D.2.1 4) r i)) (Int32.ofNat i) = some (Int32.ofNat (H - smB (D.2.1 3) (D.2.1 4) r (D.1 1))) := by
  intro m
  induction m with
  | zero =>
    intro k i hi
    obtain rfl : i = D.1 1 := by omega
    rw [lp_X4_leftIn_17_21, bnd_eq]
    simp only [h7]
    rw [if_neg (by rw [on_lt (by omega) (by omega)]; omega)]
  | succ m ih =>
    intro k i hi
    obtain ⟨a1, a2, a3⟩ := ha i (by omega)
    have mono := smB_mono (bu := D.2.1 3) (ro := D.2.1 4) (r := r) (i + 1) (D.1 1) (by omega)
    rw [lp_X4_leftIn_17_21, bnd_eq]
    simp only [h7]
    rw [if_pos (by rw [on_lt (by omega) (by omega)]; omega), if_pos (by rw [show (6 : Int32) = Int32.ofNat 6 from rfl, on_lt (by omega) (by omega)]; omega), rdI_n (by omega) (by decide)]
    simp only [a2]
    have ihh := ih k (i + 1) (by omega)
    rw [smB] at mono ihh
    by_cases c : D.2.1 4 i = r
    · rw [if_pos c] at mono ihh
      rw [if_pos (by rw [c]), rdI_n (by omega) (by decide)]
      simp only [a1]
      rw [on_subN (by omega) (by omega), on_succ, show H - smB (D.2.1 3) (D.2.1 4) r i - D.2.1 3 i = H - (smB (D.2.1 3) (D.2.1 4) r i + D.2.1 3 i) by omega]
      exact ihh
    · rw [if_neg c] at ihh
      rw [if_neg (fun z => c ((on_inj (by omega) (by omega)).mp z)), on_succ]
      exact ihh
theorem c_room (hD : DV D) (h : CDT f g B L D t) {bk : Nat} (hb : bk ≤ 20) : match pRm (tk B L) D bk t with
    | .inl e => FAc f g (f_X5_readRoomFor (Int32.ofNat bk) (f, g)) e
    | .inr x => ∃ f' g', f_X5_readRoomFor (Int32.ofNat bk) (f, g) = some (1, (f', g')) ∧ CDT f' g' B L D x.2 ∧ QF f f' g g' ∧ f' 14 4 = Int32.ofNat x.1 := by
  obtain ⟨d0, d1, d2, d3, d4, d5, d6, d7, -⟩ := hD
  unfold f_X5_readRoomFor pRm
  rw [bnd_eq]
  simp only [h.1.2.1, kiff h.k (show (30 : Int32) = Int32.ofNat 30 from rfl) (by decide)]
  by_cases c : t.1 = 30
  · obtain ⟨M, hM⟩ := tk_w h.2.2.1 c
    have hw := (WMr_lt hM).1
    have e7 := h.1.2.2.2.2 c
    rw [if_pos c, if_pos c, bnd_eq, bnd_eq]
    simp only [e7, h.2.2.2.1.1]
    have hf := c_find15 (f := f) (g := g) (D := D) (N := t.2.2.2.2) hw (n := D.1 0) (by omega) (fun i hi => ⟨(h.2.2.2.2.2.1 i hi).1, (h.2.2.2.2.2.1 i hi).2.1⟩) (D.1 0) (3999 - D.1 0) 0 (by omega)
    rw [show 3999 - D.1 0 + D.1 0 + 1 = 4000 by omega] at hf
    have hf' : f_X5_find_15 (Int32.ofNat (D.1 0)) (Int64.ofNat t.2.2.2.2) (f, g) = _ := hf
    rw [hf', cal_some]
    simp only [m1_99 (fnd_99 (names := D.2.1 0) (w := t.2.2.2.2) (m := D.1 0) (i := 0) (by omega))]
    by_cases c9 : fndN (D.2.1 0) t.2.2.2.2 (D.1 0) 0 = 99
    · rw [if_pos c9, if_pos c9]
      exact (FA_as h 5).zrt
    · rw [if_neg c9, if_neg c9, if_neg c9]
      rcases fnd_spec (names := D.2.1 0) (w := t.2.2.2.2) (D.1 0) 0 (by omega) with ⟨z1, -⟩ | ⟨z1, z2, z3⟩
      · exact absurd z1 c9
      · generalize fndN (D.2.1 0) t.2.2.2.2 (D.1 0) 0 = r at z2
        have z2' : r < D.1 0 := by omega
        obtain ⟨e1, e2⟩ := d6 r z2'
        have hl := c_left (f := f) (g := g) (D := D) (r := r) (H := D.2.1 1 r) d1 (by omega) e1 e2 h.2.2.2.1.2.1 (fun i hi => ⟨(h.2.2.2.2.2.2.1 i hi).2.2.1, (h.2.2.2.2.2.2.1 i hi).2.2.2.1, by have := (d7 i hi).2.2.1; omega⟩) (D.1 1) (3999 - D.1 1) 0 (by omega)
        rw [show 3999 - D.1 1 + D.1 1 + 1 = 4000 by omega, smB, Nat.sub_zero] at hl
        have hL : f_X4_leftIn_17 (Int32.ofNat r) (f, g) = some (Int32.ofNat (D.2.1 1 r - smB (D.2.1 3) (D.2.1 4) r (D.1 1))) := by
          unfold f_X4_leftIn_17 f_X4_hasRoom_17
          rw [if_neg (nneg (by omega)), bnd_eq]
          simp only [h.2.2.2.1.1]
          rw [if_pos (by rw [on_lt (by omega) (by omega)]; exact z2'), if_pos (by rw [show (4 : Int32) = Int32.ofNat 4 from rfl, on_lt (by omega) (by omega)]; omega), cal_some, if_neg (by decide), rdI_n (by omega) (by decide)]
          simp only [(h.2.2.2.2.2.1 r z2').2.2]
          exact hl
        rw [hL, cal_some]
        have l1 : Int32.ofNat (D.2.1 1 r - smB (D.2.1 3) (D.2.1 4) r (D.1 1)) < Int32.ofNat bk ↔ D.2.1 1 r - smB (D.2.1 3) (D.2.1 4) r (D.1 1) < bk := on_lt (by omega) (by omega)
        simp only [l1]
        by_cases c3 : D.2.1 1 r - smB (D.2.1 3) (D.2.1 4) r (D.1 1) < bk
        · rw [if_pos c3, if_pos c3]
          exact (FA_as h 3).zrt
        · rw [if_neg c3, if_neg c3, ptI_eq]
          have q1 : QF f (am_u2 f 14 4 (Int32.ofNat r)) g g := ⟨fun a _ z => u2_ne z, fun k z => au_nk z, rfl, fun _ _ => rfl⟩
          have h1 : CDT (am_u2 f 14 4 (Int32.ofNat r)) g B L D t := by
            obtain ⟨k1, k2, k3, k4⟩ := h
            refine ⟨by unfold CT; rw [u2_ne (by decide)]; exact k1, ?_, k3, CD_q q1 k4⟩
            obtain ⟨t1, t2, t3, t4, t5⟩ := k2
            exact ⟨by rw [u2_ne (by decide)]; exact t1, t2, by rw [u2_ne (by decide)]; exact t3, t4, t5⟩
          obtain ⟨f', g', a1, a2, a3, a4⟩ := c_adv h1
          refine ⟨f', g', by rw [a1, cal_some], a2, q1.trans a3, by rw [a4, au_same]⟩
  · rw [if_neg c, if_neg c]
    exact (FA_cs h).zrt
end KA
