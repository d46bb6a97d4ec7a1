/-! the model's text and tokens -/
def TPm (f : Nat → Nat → Int32) (B : Nat → Nat) (L : Nat) : Prop := f 413 3 = Int32.ofNat L ∧ L ≤ 1600 ∧ (∀ i, i < L → f 415 i &&& 255 = Int32.ofNat (B i)) ∧ ∀ i, i < L → B i < 256
def mtk (k : Nat) : Nat := if k < 18 then 3 else if k = 30 then 2 else if k = 29 then 4 else if k = 31 then 0 else if k = 32 then 1 else 5
def MT (f : Nat → Nat → Int32) (g : (Nat → Nat → Int64) × (Nat → Nat → Option Nat)) (B : Nat → Nat) (L : Nat) (t : TK) : Prop := f 413 6 = Int32.ofNat t.2.1 ∧ f 413 7 = Int32.ofNat t.2.2.1 ∧ f 413 8 = Int32.ofNat (mtk t.1) ∧ (t.1 = 29 → f 413 9 = Int32.ofNat t.2.2.2.1) ∧ (t.1 < 18 ∨ t.1 = 30 → ∃ M, g.1 413 10 = Int64.ofNat M ∧ WMr t.2.2.2.2 M ∧ t.1 = wk t.2.2.2.2) ∧ (17 < t.1 → t.1 < 29 → t.1 = sgK (chA B L t.2.1)) ∧ t.2.1 ≤ 1600
section GO
variable {f : Nat → Nat → Int32} {g : (Nat → Nat → Int64) × (Nat → Nat → Option Nat)} {B : Nat → Nat} {L p : Nat}
theorem ch_lt (hB : ∀ i, i < L → B i < 256) : chA B L p < 256 := by
  unfold chA; split
  · exact hB p (by assumption)
  · decide
theorem X12_sign (T : TPm f B L) (hp : p ≤ 100000) : f_X12_sign (Int32.ofNat p) (f, g) = some (Int32.ofNat (chA B L p)) := by
  obtain ⟨t1, t2, t3, t4⟩ := T
  unfold f_X12_sign chA
  rw [bnd_eq]
  simp only [t1]
  by_cases c : p < L
  · rw [if_pos ((on_lt (by omega) (by omega)).mpr c), if_pos c, rdI_n (by omega) (by decide)]
    simp only [t3 p c]
  · rw [if_neg (fun z => c ((on_lt (by omega) (by omega)).mp z)), if_neg c]; rfl
theorem X12_isLetter {c : Nat} (hc : c < 256) {h : am_H} : f_X12_isLetter (Int32.ofNat c) h = some (if isLt c = true then 1 else 0) := by
  have k : ∀ c : Fin 256, f_X12_isLetter (Int32.ofNat c.val) am_hE = some (if isLt c.val = true then 1 else 0) := by decide +kernel
  exact k ⟨c, hc⟩
theorem X12_isDigit {c : Nat} (hc : c < 256) {h : am_H} : f_X12_isDigit (Int32.ofNat c) h = some (if isDg c = true then 1 else 0) := by
  have k : ∀ c : Fin 256, f_X12_isDigit (Int32.ofNat c.val) am_hE = some (if isDg c.val = true then 1 else 0) := by decide +kernel
  exact k ⟨c, hc⟩
theorem X12_isSign {c : Nat} (hc : c < 256) {h : am_H} : f_X12_isSign (Int32.ofNat c) h = some (if sgK c = 32 then 0 else 1) := by
  have k : ∀ c : Fin 256, f_X12_isSign (Int32.ofNat c.val) am_hE = some (if sgK c.val = 32 then 0 else 1) := by decide +kernel
  exact k ⟨c, hc⟩
theorem TPm_fr {f' : Nat → Nat → Int32} (h1 : f' 413 3 = f 413 3) (h2 : f' 415 = f 415) (T : TPm f B L) : TPm f' B L := by
  obtain ⟨t1, t2, t3, t4⟩ := T
  exact ⟨by rw [h1]; exact t1, t2, by rw [h2]; exact t3, t4⟩
theorem TPm_at {v : Int32} {k : Nat} (hk : k ≠ 3) (T : TPm f B L) : TPm (am_u2 f 413 k v) B L := TPm_fr (au_nk (by omega)) (u2_ne (by decide)) T
theorem ceq {c n : Nat} (hc : c < 256) (hn : n < 256) : Int32.ofNat c = Int32.ofNat n ↔ c = n := on_inj (by omega) (by omega)
theorem g_blank {k : am_H → Option am_H} : ∀ m n p (f : Nat → Nat → Int32), L ≤ p + m → p ≤ L → f 413 6 = Int32.ofNat p → TPm f B L → lp_X12_goOn_8 k (n + m + 1) (f, g) = k (am_u2 f 413 6 (Int32.ofNat (p + rl (fun i => isBl (chA B L i)) m p)), g) := by
  intro m
  induction m with
  | zero =>
    intro n p f hm hp h6 T
    have hL := T.2.1
    rw [lp_X12_goOn_8, bnd_eq, bnd_eq]
    simp only [h6, T.1]
    rw [if_neg (by rw [on_lt (by omega) (by omega)]; omega), rl, Nat.add_zero, au_self h6]
  | succ m ih =>
    intro n p f hm hp h6 T
    have hL := T.2.1
    rw [lp_X12_goOn_8, bnd_eq, bnd_eq]
    simp only [h6, T.1]
    rw [rl]
    by_cases c : p < L
    · have hB := ch_lt (p := p) T.2.2.2
      rw [if_pos ((on_lt (by omega) (by omega)).mpr c), bnd_eq, X12_sign T (by omega), cal_some, bnd_eq, X12_sign T (by omega), cal_some]
      have jn : jn_X12_goOn_45 (lp_X12_goOn_8 k (n + (m + 1))) (f, g) = lp_X12_goOn_8 k (n + m + 1) (am_u2 f 413 6 (Int32.ofNat (p + 1)), g) := by
        unfold jn_X12_goOn_45
        rw [bnd_eq, ptI_eq]
        simp only [h6, on_succ]
        rfl
      have e := ih n (p + 1) (am_u2 f 413 6 (Int32.ofNat (p + 1))) (by omega) (by omega) au_same (TPm_at (by decide) T)
      rw [au_au] at e
      rw [jn]
      have e2 : p + (rl (fun i => isBl (chA B L i)) m (p + 1) + 1) = p + 1 + rl (fun i => isBl (chA B L i)) m (p + 1) := by omega
      by_cases c1 : chA B L p = 32
      · rw [if_pos (by rw [c1]; rfl), if_pos (by simp [isBl, c1]), e2]
        exact e
      · have n32 : ¬ Int32.ofNat (chA B L p) = 32 := fun z => c1 ((ceq hB (show 32 < 256 by decide)).mp z)
        rw [if_neg n32]
        by_cases c2 : chA B L p = 10
        · rw [if_pos (by rw [c2]; rfl), if_pos (by simp [isBl, c2]), e2]
          exact e
        · have n10 : ¬ Int32.ofNat (chA B L p) = 10 := fun z => c2 ((ceq hB (show 10 < 256 by decide)).mp z)
          rw [if_neg n10, if_neg (by simp [isBl, c1, c2]), Nat.add_zero, au_self h6]
    · rw [if_neg (fun z => c ((on_lt (by omega) (by omega)).mp z)), if_neg (fun z => c (ch_in (P := isBl) (by decide) z)), Nat.add_zero, au_self h6]
theorem g_let {k : am_H → Option am_H} : ∀ m n p (f : Nat → Nat → Int32), L ≤ p + m → p ≤ L + 1 → f 413 7 = Int32.ofNat p → TPm f B L → lp_X12_goOn_119 k (n + m + 1) (f, g) = k (am_u2 f 413 7 (Int32.ofNat (p + rl (fun i => isLt (chA B L i)) m p)), g) := by
  intro m
  induction m with
  | zero =>
    intro n p f hm hp h7 T
    have hL := T.2.1
    have c : ¬ isLt (chA B L p) = true := fun z => by have := ch_in (P := isLt) (by decide) z; omega
    rw [lp_X12_goOn_119, bnd_eq]
    simp only [h7]
    rw [X12_sign T (by omega), cal_some, X12_isLetter (ch_lt T.2.2.2), cal_some, if_neg c, if_pos rfl, rl, Nat.add_zero, au_self h7]
  | succ m ih =>
    intro n p f hm hp h7 T
    have hL := T.2.1
    rw [lp_X12_goOn_119, bnd_eq]
    simp only [h7]
    rw [X12_sign T (by omega), cal_some, X12_isLetter (ch_lt T.2.2.2), cal_some, rl]
    by_cases c : isLt (chA B L p) = true
    · have := ch_in (P := isLt) (by decide) c
      rw [if_pos c, if_neg (by decide), bnd_eq, ptI_eq, if_pos c]
      simp only [h7, on_succ]
      have e := ih n (p + 1) (am_u2 f 413 7 (Int32.ofNat (p + 1))) (by omega) (by omega) au_same (TPm_at (by decide) T)
      rw [au_au] at e
      rw [show p + (rl (fun i => isLt (chA B L i)) m (p + 1) + 1) = p + 1 + rl (fun i => isLt (chA B L i)) m (p + 1) by omega]
      exact e
    · rw [if_neg c, if_pos rfl, if_neg c, Nat.add_zero, au_self h7]
/-- the digits: no more than four are taken -/
theorem g_dig {k : am_H → Option am_H} {q : Nat} : ∀ m n i (f : Nat → Nat → Int32), L ≤ q + i + m → q + i ≤ L → f 413 6 = Int32.ofNat q → f 413 7 = Int32.ofNat (q + i) → (i ≤ 4 → f 413 9 = Int32.ofNat (nuN (fun j => chA B L (q + j)) i)) → TPm f B L → ∃ f', lp_X12_goOn_259 k (n + m + 1) (f, g) = k (f', g) ∧ f' 413 7 = Int32.ofNat (q + (i + rl (fun i => isDg (chA B L i)) m (q + i))) ∧ (i + rl (fun i => isDg (chA B L i)) m (q + i) ≤ 4 → f' 413 9 = Int32.ofNat (nuN (fun j => chA B L (q + j)) (i + rl (fun i => isDg (chA B L i)) m (q + i)))) ∧ (∀ a, a ≠ 413 → f' a = f a) ∧ ∀ k, k ≠ 7 → k ≠ 9 → f' 413 k = f 413 k := by
  intro m
  induction m with
  | zero =>
    intro n i f hm hp h6 h7 h9 T
    have hL := T.2.1
    have c : ¬ isDg (chA B L (q + i)) = true := fun z => by have := ch_in (P := isDg) (by decide) z; omega
    refine ⟨f, ?_, h7, h9, fun _ _ => rfl, fun _ _ _ => rfl⟩
    rw [lp_X12_goOn_259, bnd_eq]
    simp only [h7]
    rw [X12_sign T (by omega), cal_some, X12_isDigit (ch_lt T.2.2.2), cal_some, if_neg c, if_pos rfl]
  | succ m ih =>
    intro n i f hm hp h6 h7 h9 T
    have hL := T.2.1
    rw [lp_X12_goOn_259, bnd_eq]
    simp only [h7]
    rw [X12_sign T (by omega), cal_some, X12_isDigit (ch_lt T.2.2.2), cal_some, rl]
    by_cases c : isDg (chA B L (q + i)) = true
    · have hin := ch_in (P := isDg) (by decide) c
      have hge : 48 ≤ chA B L (q + i) := by
        unfold isDg at c; rw [Bool.and_eq_true] at c; exact of_decide_eq_true c.1
      have hsub : Int32.ofNat (q + i) - Int32.ofNat q = Int32.ofNat i := by
        rw [← on_add, Int32.add_comm, Int32.add_sub_cancel]
      rw [if_pos c, if_neg (by decide), bnd_eq, bnd_eq, if_pos c]
      simp only [h6, hsub]
      have jn : ∀ f0 : Nat → Nat → Int32, f0 413 7 = Int32.ofNat (q + i) → jn_X12_goOn_309 (lp_X12_goOn_259 k (n + (m + 1))) (f0, g) = lp_X12_goOn_259 k (n + m + 1) (am_u2 f0 413 7 (Int32.ofNat (q + (i + 1))), g) := fun f0 h0 => by
        unfold jn_X12_goOn_309
        rw [bnd_eq, ptI_eq]
        simp only [h0, on_succ]
        rfl
      have es : i + (rl (fun i => isDg (chA B L i)) m (q + i + 1) + 1) = i + 1 + rl (fun i => isDg (chA B L i)) m (q + (i + 1)) := by rw [← Nat.add_assoc q i 1]; omega
      rw [es]
      by_cases c4 : i < 4
      · have hv : 10 * Int32.ofNat (nuN (fun j => chA B L (q + j)) i) + Int32.ofNat (chA B L (q + i)) - 48 = Int32.ofNat (nuN (fun j => chA B L (q + j)) (i + 1)) := by
          obtain ⟨d, hd⟩ : ∃ d, chA B L (q + i) = d + 48 := ⟨chA B L (q + i) - 48, by omega⟩
          rw [nuN, hd, show d + 48 - 48 = d by omega, show (48 : Int32) = Int32.ofNat 48 from rfl, ← on_add d 48, ← Int32.add_assoc, Int32.add_sub_cancel, show (10 : Int32) = Int32.ofNat 10 from rfl, ← Int32.ofNat_mul, on_add, Nat.mul_comm]
        rw [if_pos (by rw [show (4 : Int32) = Int32.ofNat 4 from rfl, on_lt (by omega) (by omega)]; exact c4), bnd_eq, bnd_eq, X12_sign T (by omega), cal_some, ptI_eq]
        simp only [h9 (by omega), hv]
        rw [jn _ (by rw [au_nk (by decide)]; exact h7)]
        obtain ⟨f', a1, a2, a3, a4, a5⟩ := ih n (i + 1) (am_u2 (am_u2 f 413 9 (Int32.ofNat (nuN (fun j => chA B L (q + j)) (i + 1)))) 413 7 (Int32.ofNat (q + (i + 1)))) (by omega) (by omega) (by rw [au_nk (by decide), au_nk (by decide)]; exact h6) au_same (fun _ => by rw [au_nk (by decide), au_same]) (TPm_at (by decide) (TPm_at (by decide) T))
        exact ⟨f', a1, a2, a3, fun a ha => by rw [a4 a ha, u2_ne ha, u2_ne ha], fun k z1 z2 => by rw [a5 k z1 z2, au_nk z1, au_nk z2]⟩
      · rw [if_neg (by rw [show (4 : Int32) = Int32.ofNat 4 from rfl, on_lt (by omega) (by omega)]; exact c4), jn f h7]
        obtain ⟨f', a1, a2, a3, a4, a5⟩ := ih n (i + 1) (am_u2 f 413 7 (Int32.ofNat (q + (i + 1)))) (by omega) (by omega) (by rw [au_nk (by decide)]; exact h6) au_same (fun z => by omega) (TPm_at (by decide) T)
        exact ⟨f', a1, a2, a3, fun a ha => by rw [a4 a ha, u2_ne ha], fun k z1 z2 => by rw [a5 k z1 z2, au_nk z1]⟩
    · rw [if_neg c, if_pos rfl, if_neg c]
      exact ⟨f, rfl, h7, h9, fun _ _ => rfl, fun _ _ _ => rfl⟩
theorem sh8 {a c : Nat} (ha : a < 2 ^ 56) (hc : c < 256) : (Int64.ofNat a <<< (Int32.toInt64 8 &&& 63)) ||| Int32.toInt64 (Int32.ofNat c) = Int64.ofNat (a * 256 + c) := by
  have k : ∀ d : Fin 256, Int32.toInt64 (Int32.ofNat d.val) = Int64.ofNat d.val := by decide +kernel
  have e8 : (Int32.toInt64 8 &&& 63) = (8 : Int64) := by decide
  have kc : Int32.toInt64 (Int32.ofNat c) = Int64.ofNat c := k ⟨c, hc⟩
  rw [e8, kc]
  apply Int64.toBitVec_inj.mp
  rw [Int64.toBitVec_or, Int64.toBitVec_shiftLeft]
  have e1 : ((8 : Int64).toBitVec.smod 64) = 8#64 := by decide
  rw [e1]
  show (BitVec.ofNat 64 a <<< (8#64)) ||| BitVec.ofNat 64 c = BitVec.ofNat 64 (a * 256 + c)
  apply BitVec.eq_of_toNat_eq
  rw [BitVec.toNat_or, BitVec.shiftLeft_eq', BitVec.toNat_shiftLeft, BitVec.toNat_ofNat, BitVec.toNat_ofNat, BitVec.toNat_ofNat, BitVec.toNat_ofNat, show (8 : Nat) % 2 ^ 64 = 8 from rfl, Nat.mod_eq_of_lt (show a < 2 ^ 64 by omega), Nat.mod_eq_of_lt (show c < 2 ^ 64 by omega), Nat.mod_eq_of_lt (show a * 256 + c < 2 ^ 64 by omega)]
  rw [Nat.shiftLeft_eq, Nat.mod_eq_of_lt (show a * 2 ^ 8 < 2 ^ 64 by omega), ← Nat.shiftLeft_eq, ← Nat.shiftLeft_add_eq_or_of_lt (show c < 2 ^ 8 by omega), Nat.shiftLeft_eq]
theorem g_name {k : am_H → Option am_H} {q l : Nat} (hl : q + l ≤ 100000) (hB : ∀ i, i < l → 97 ≤ chA B L (q + i) ∧ chA B L (q + i) ≤ 122) : ∀ m n i (g : (Nat → Nat → Int64) × (Nat → Nat → Option Nat)), i + m = 8 → i ≤ l → f 413 6 = Int32.ofNat q → f 413 7 = Int32.ofNat (q + l) → TPm f B L → g.1 413 10 = Int64.ofNat (wM (fun j => chA B L (q + j)) i) → ∃ g', lp_X12_goOn_156 k (n + m + 1) (Int32.ofNat (q + i)) (f, g) = k (f, g') ∧ (l ≤ 8 → g'.1 413 10 = Int64.ofNat (wM (fun j => chA B L (q + j)) l)) ∧ g'.2 = g.2 ∧ ∀ a, a ≠ 413 → g'.1 a = g.1 a := by
  intro m
  induction m with
  | zero =>
    intro n i g hi hil h6 h7 T h10
    have e8 : Int32.ofNat q + 8 = Int32.ofNat (q + 8) := on_add q 8
    refine ⟨g, ?_, fun z => ?_, rfl, fun _ _ => rfl⟩
    · rw [lp_X12_goOn_156, bnd_eq]
      simp only [h7, h6]
      by_cases c : i < l
      · rw [if_pos (by rw [on_lt (by omega) (by omega)]; omega), bnd_eq, e8, if_neg (by rw [on_lt (by omega) (by omega)]; omega)]
      · rw [if_neg (by rw [on_lt (by omega) (by omega)]; omega)]
    · have : i = l := by omega
      rw [← this]; exact h10
  | succ m ih =>
    intro n i g hi hil h6 h7 T h10
    have e8 : Int32.ofNat q + 8 = Int32.ofNat (q + 8) := on_add q 8
    rw [lp_X12_goOn_156, bnd_eq]
    simp only [h7, h6]
    by_cases c : i < l
    · have hb := wM_b (c := fun j => chA B L (q + j)) i (fun j hj => hB j (by omega))
      have h56 : wM (fun j => chA B L (q + j)) i < 2 ^ 56 := by
        have h6 : 256 ^ i ≤ 256 ^ 7 := Nat.pow_le_pow_right (by decide) (by omega)
        have := hb.1
        omega
      have hc := hB i c
      rw [if_pos (by rw [on_lt (by omega) (by omega)]; omega), bnd_eq, e8, if_pos (by rw [on_lt (by omega) (by omega)]; omega), bnd_eq, X12_sign T (by omega), cal_some]
      unfold ptL
      simp only [h10]
      rw [sh8 h56 (by omega), on_succ]
      obtain ⟨g', a1, a2, a3, a4⟩ := ih n (i + 1) (am_u2 g.1 413 10 (Int64.ofNat (wM (fun j => chA B L (q + j)) i * 256 + chA B L (q + i))), g.2) (by omega) (by omega) h6 h7 T (by simp [am_u2, wM])
      exact ⟨g', a1, a2, a3, fun a ha => by rw [a4 a ha]; funext b; simp [am_u2, ha]⟩
    · have : i = l := by omega
      rw [if_neg (by rw [on_lt (by omega) (by omega)]; omega)]
      exact ⟨g, rfl, fun _ => by rw [← this]; exact h10, rfl, fun _ _ => rfl⟩
/-- a word of the house's own -/
theorem kwq {N M i : Nat} {c : Int64} (h : WMr N M) (hi : i < 18) (hc : c = Int64.ofNat (kwM.getD i 0)) : lg_cmp (Int64.ofNat M) c = 0 ↔ wk N = i := by
  rw [lgc, hc, on64 (WMr_lt h).2 (WMr_lt (WMr_kw i hi)).2, wk_kw h hi]
theorem X12_isKept {N M : Nat} (h : WMr N M) {hh : am_H} : f_X12_isKept (Int64.ofNat M) hh = some (if wk N < 18 then 1 else 0) := by
  unfold f_X12_isKept jn_X12_isKept_72 jn_X12_isKept_77
  simp only [kwq h (show 0 < 18 by decide) (show (1919905645 : Int64) = _ from rfl), kwq h (show 1 < 18 by decide) (show (448545973363 : Int64) = _ from rfl), kwq h (show 2 < 18 by decide) (show (500136504939 : Int64) = _ from rfl), kwq h (show 3 < 18 by decide) (show (1651862635 : Int64) = _ from rfl), kwq h (show 4 < 18 by decide) (show (24948 : Int64) = _ from rfl), kwq h (show 5 < 18 by decide) (show (469786323827 : Int64) = _ from rfl), kwq h (show 6 < 18 by decide) (show (1953459300 : Int64) = _ from rfl), kwq h (show 7 < 18 by decide) (show (422826700644 : Int64) = _ from rfl), kwq h (show 8 < 18 by decide) (show (482805179763 : Int64) = _ from rfl), kwq h (show 9 < 18 by decide) (show (499850700147 : Int64) = _ from rfl), kwq h (show 10 < 18 by decide) (show (1685217655 : Int64) = _ from rfl), kwq h (show 11 < 18 by decide) (show (28530 : Int64) = _ from rfl), kwq h (show 12 < 18 by decide) (show (6385252 : Int64) = _ from rfl), kwq h (show 13 < 18 by decide) (show (7237492 : Int64) = _ from rfl), kwq h (show 14 < 18 by decide) (show (418430675813 : Int64) = _ from rfl), kwq h (show 15 < 18 by decide) (show (1818584692 : Int64) = _ from rfl), kwq h (show 16 < 18 by decide) (show (1835101817 : Int64) = _ from rfl), kwq h (show 17 < 18 by decide) (show (2036687218 : Int64) = _ from rfl)]
  have hw : wk N < 31 := by rcases wk_spec N with ⟨a, -⟩ | ⟨a, -⟩ <;> omega
  generalize wk N = w at hw
  have k : ∀ w : Fin 31, (if w.val = 0 then (if (1 : Int32) = 0 then (none : Option Int32) else some 1) else some 0) = (if w.val = 0 then (if (1 : Int32) = 0 then (none : Option Int32) else some 1) else some 0) := fun _ => rfl
  revert hw
  revert w
  have all : ∀ P : Nat → Prop, (∀ w : Fin 31, P w.val) → ∀ w, w < 31 → P w := fun P h w hw => h ⟨w, hw⟩
  refine all _ ?_
  decide +kernel
end GO
