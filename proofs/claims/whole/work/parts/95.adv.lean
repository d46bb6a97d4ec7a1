/-! the class's tape and tokens -/
def TPc (f : Nat → Nat → Int32) (g : (Nat → Nat → Int64) × (Nat → Nat → Option Nat)) (B : Nat → Nat) (L : Nat) : Prop := f 1 3 = Int32.ofNat L ∧ L ≤ 1600 ∧ (∀ i, i < L → f 2 i = Int32.ofNat (B i)) ∧ (∀ i, i < L → B i < 256) ∧ ∀ i, i < 18 → g.1 3 i = Int64.ofNat (kwN.getD i 0)
def CT (f : Nat → Nat → Int32) (g : (Nat → Nat → Int64) × (Nat → Nat → Option Nat)) (t : TK) : Prop := f 1 2 = Int32.ofNat t.2.2.1 ∧ f 1 4 = Int32.ofNat t.1 ∧ f 1 5 = Int32.ofNat t.2.1 ∧ (t.1 = 29 → f 1 6 = Int32.ofNat t.2.2.2.1) ∧ (t.1 = 30 → g.1 1 7 = Int64.ofNat t.2.2.2.2)
def lkv (B : Nat → Nat) (L p : Nat) : Int32 := if p < L then Int32.ofNat (B p) else -1
theorem lgc {x y : Int64} : lg_cmp x y = 0 ↔ x = y := by
  unfold lg_cmp
  by_cases h : x > y
  · rw [if_pos h]
    constructor
    · intro e; exact absurd e (by decide)
    · intro e; subst e; exact absurd h (by rw [gt_iff_lt, Int64.lt_iff_toInt_lt]; omega)
  · rw [if_neg h]
    by_cases e : x = y
    · rw [if_pos e]; exact ⟨fun _ => e, fun _ => rfl⟩
    · rw [if_neg e]; exact ⟨fun z => absurd z (by decide), fun z => absurd z e⟩
theorem on64 {a b : Nat} (ha : a < 2 ^ 64) (hb : b < 2 ^ 64) : Int64.ofNat a = Int64.ofNat b ↔ a = b := by
  constructor
  · intro h
    have h2 := congrArg (fun z : Int64 => z.toBitVec.toNat) h
    have e : ∀ n, n < 2 ^ 64 → (Int64.ofNat n).toBitVec.toNat = n := fun n hn => by
      show (BitVec.ofNat 64 n).toNat = n
      rw [BitVec.toNat_ofNat]; exact Nat.mod_eq_of_lt hn
    simp only [e a ha, e b hb] at h2
    exact h2
  · intro h; rw [h]
theorem au_au {f : Nat → Nat → Int32} {a k : Nat} {v w : Int32} : am_u2 (am_u2 f a k v) a k w = am_u2 f a k w := by
  funext x y
  by_cases h : x = a ∧ y = k
  · obtain ⟨rfl, rfl⟩ := h; rw [au_same, au_same]
  · simp only [am_u2, h, if_false]
theorem au_self {f : Nat → Nat → Int32} {a k : Nat} {v : Int32} (h : f a k = v) : am_u2 f a k v = f := by
  funext x y
  by_cases e : x = a ∧ y = k
  · obtain ⟨rfl, rfl⟩ := e; rw [au_same, h]
  · simp only [am_u2, e, if_false]
section AD
variable {f : Nat → Nat → Int32} {g : (Nat → Nat → Int64) × (Nat → Nat → Option Nat)} {B : Nat → Nat} {L p : Nat}
theorem X9_look (T : TPc f g B L) (h : f 1 2 = Int32.ofNat p) (hp : p ≤ 1600) : f_X9_look (f, g) = some (lkv B L p) := by
  obtain ⟨t1, t2, t3, t4, t5⟩ := T
  unfold f_X9_look lkv
  rw [bnd_eq]
  simp only [h, t1]
  rw [if_neg (nneg (by omega)), bnd_eq, bnd_eq]
  by_cases c : p < L
  · rw [if_pos ((on_lt (by omega) (by omega)).mpr c), bnd_eq, if_pos (by rw [show (1600 : Int32) = Int32.ofNat 1600 from rfl, on_lt (by omega) (by omega)]; omega), bnd_eq, rdI_n (by omega) (by decide), if_pos c]
    simp only [t3 p c]
  · rw [if_neg (fun z => c ((on_lt (by omega) (by omega)).mp z)), if_neg c]
theorem r97 (a n : Nat) (ha : a < 2147483648) (hn : n < 2147483648) : (Int32.ofNat a < Int32.ofNat n ↔ a < n) := on_lt ha hn
theorem oeq (a n : Nat) (ha : a < 2147483648) (hn : n < 2147483648) : (Int32.ofNat a = Int32.ofNat n ↔ a = n) := on_inj ha hn
theorem X9_isBlank (hB : ∀ i, i < L → B i < 256) {h : am_H} : f_X9_isBlank (lkv B L p) h = some (if isBl (chA B L p) = true then 1 else 0) := by
  unfold f_X9_isBlank lkv chA isBl
  by_cases c : p < L
  · have := hB p c
    rw [if_pos c, if_pos c, show (32 : Int32) = Int32.ofNat 32 from rfl, show (10 : Int32) = Int32.ofNat 10 from rfl, ]
    simp only [oeq (B p) 32 (by omega) (by decide), oeq (B p) 10 (by omega) (by decide), Bool.or_eq_true, beq_iff_eq]
    by_cases a : B p = 32 <;> by_cases b : B p = 10 <;> simp [a, b]
  · rw [if_neg c, if_neg c]; rfl
theorem X9_isLetter (hB : ∀ i, i < L → B i < 256) {h : am_H} : f_X9_isLetter (lkv B L p) h = some (if isLt (chA B L p) = true then 1 else 0) := by
  unfold f_X9_isLetter lkv chA isLt
  by_cases c : p < L
  · have := hB p c
    rw [if_pos c, if_pos c, show (97 : Int32) = Int32.ofNat 97 from rfl, show (122 : Int32) = Int32.ofNat 122 from rfl]
    simp only [r97 (B p) 97 (by omega) (by decide), r97 122 (B p) (by decide) (by omega), Bool.and_eq_true, decide_eq_true_eq]
    by_cases a : B p < 97
    · rw [if_pos a, if_neg (by omega)]
    · by_cases b : 122 < B p
      · rw [if_neg a, if_pos b, if_neg (by omega)]
      · rw [if_neg a, if_neg b, if_pos (by omega)]
  · rw [if_neg c, if_neg c]; rfl
theorem X9_isDigit (hB : ∀ i, i < L → B i < 256) {h : am_H} : f_X9_isDigit (lkv B L p) h = some (if isDg (chA B L p) = true then 1 else 0) := by
  unfold f_X9_isDigit lkv chA isDg
  by_cases c : p < L
  · have := hB p c
    rw [if_pos c, if_pos c, show (48 : Int32) = Int32.ofNat 48 from rfl, show (57 : Int32) = Int32.ofNat 57 from rfl]
    simp only [r97 (B p) 48 (by omega) (by decide), r97 57 (B p) (by decide) (by omega), Bool.and_eq_true, decide_eq_true_eq]
    by_cases a : B p < 48
    · rw [if_pos a, if_neg (by omega)]
    · by_cases b : 57 < B p
      · rw [if_neg a, if_pos b, if_neg (by omega)]
      · rw [if_neg a, if_neg b, if_pos (by omega)]
  · rw [if_neg c, if_neg c]; rfl
theorem X9_signKind (hB : ∀ i, i < L → B i < 256) (hp : p < L) {h : am_H} : f_X9_signKind (lkv B L p) h = some (Int32.ofNat (sgK (chA B L p))) := by
  have := hB p hp
  unfold lkv chA
  rw [if_pos hp, if_pos hp]
  generalize B p = c at this
  have k : ∀ c : Fin 256, f_X9_signKind (Int32.ofNat c.val) am_hE = some (Int32.ofNat (sgK c.val)) := by decide +kernel
  exact k ⟨c, this⟩
theorem TPc_at {v : Int32} {k : Nat} (hk : k ≠ 3) (T : TPc f g B L) : TPc (am_u2 f 1 k v) g B L := by
  obtain ⟨t1, t2, t3, t4, t5⟩ := T
  exact ⟨by rw [au_nk (by omega)]; exact t1, t2, fun i hi => by rw [u2_ne (by decide)]; exact t3 i hi, t4, t5⟩
theorem TPc_w {v : Int64} (T : TPc f g B L) : TPc f (am_u2 g.1 1 7 v, g.2) B L := by
  obtain ⟨t1, t2, t3, t4, t5⟩ := T
  exact ⟨t1, t2, t3, t4, fun i hi => by
    have : am_u2 g.1 1 7 v 3 i = g.1 3 i := by simp [am_u2]
    show am_u2 g.1 1 7 v 3 i = _
    rw [this]; exact t5 i hi⟩
theorem lt1600 {i : Nat} (h : i < 1600) : Int32.ofNat i < 1600 := by
  rw [show (1600 : Int32) = Int32.ofNat 1600 from rfl, on_lt (by omega) (by omega)]; exact h
theorem c_blank {k : am_H → Option am_H} : ∀ m n i p (f : Nat → Nat → Int32), i + m = 1600 → p ≤ 1600 → f 1 2 = Int32.ofNat p → TPc f g B L → lp_X9_advance_2 k (n + m + 1) (Int32.ofNat i) (f, g) = k (am_u2 f 1 2 (Int32.ofNat (p + rl (fun i => isBl (chA B L i)) m p)), g) := by
  intro m
  induction m with
  | zero =>
    intro n i p f hi hp h2 T
    obtain rfl : i = 1600 := by omega
    rw [lp_X9_advance_2, if_neg (by decide), rl, Nat.add_zero, au_self h2]
  | succ m ih =>
    intro n i p f hi hp h2 T
    rw [lp_X9_advance_2, if_pos (lt1600 (by omega)), X9_look T h2 hp, cal_some, X9_isBlank T.2.2.2.1, cal_some, rl]
    by_cases c : isBl (chA B L p) = true
    · have := ch_in (P := isBl) (by decide) c
      have := T.2.1
      rw [if_pos c, if_neg (by decide), bnd_eq, ptI_eq]
      simp only [h2, on_succ, c, if_true]
      have e := ih n (i + 1) (p + 1) (am_u2 f 1 2 (Int32.ofNat (p + 1))) (by omega) (by omega) au_same (TPc_at (by decide) T)
      rw [au_au] at e
      rw [show p + (rl (fun i => isBl (chA B L i)) m (p + 1) + 1) = p + 1 + rl (fun i => isBl (chA B L i)) m (p + 1) by omega]
      exact e
    · rw [if_neg c, if_pos rfl, if_neg c, Nat.add_zero, au_self h2]
theorem c_digits {k : Int32 → am_H → Option am_H} {q : Nat} : ∀ m n i (f : Nat → Nat → Int32), i + m = 1600 → q + i ≤ 1600 → f 1 2 = Int32.ofNat (q + i) → f 1 6 = Int32.ofNat (nuN (fun j => chA B L (q + j)) i) → TPc f g B L → lp_X9_takeNumber_9 k (n + m + 1) (Int32.ofNat i) (Int32.ofNat i) (f, g) = k (Int32.ofNat (i + rl (fun i => isDg (chA B L i)) m (q + i))) (am_u2 (am_u2 f 1 6 (Int32.ofNat (nuN (fun j => chA B L (q + j)) (i + rl (fun i => isDg (chA B L i)) m (q + i))))) 1 2 (Int32.ofNat (q + (i + rl (fun i => isDg (chA B L i)) m (q + i)))), g) := by
  intro m
  induction m with
  | zero =>
    intro n i f hi hp h2 h6 T
    obtain rfl : i = 1600 := by omega
    rw [lp_X9_takeNumber_9, if_neg (by decide), rl, Nat.add_zero, au_self h6, au_self h2]
  | succ m ih =>
    intro n i f hi hp h2 h6 T
    rw [lp_X9_takeNumber_9, if_pos (lt1600 (by omega)), X9_look T h2 hp, cal_some, X9_isDigit T.2.2.2.1, cal_some, rl]
    by_cases c : isDg (chA B L (q + i)) = true
    · have hin := ch_in (P := isDg) (by decide) c
      have h1600 := T.2.1
      have hb := T.2.2.2.1 (q + i) hin
      have hlk : lkv B L (q + i) = Int32.ofNat (chA B L (q + i)) := by unfold lkv chA; rw [if_pos hin, if_pos hin]
      have hge : 48 ≤ chA B L (q + i) := by
        unfold isDg at c; rw [Bool.and_eq_true] at c; exact of_decide_eq_true c.1
      have hv : Int32.ofNat (nuN (fun j => chA B L (q + j)) i) * 10 + Int32.ofNat (chA B L (q + i)) - 48 = Int32.ofNat (nuN (fun j => chA B L (q + j)) (i + 1)) := by
        obtain ⟨d, hd⟩ : ∃ d, chA B L (q + i) = d + 48 := ⟨chA B L (q + i) - 48, by omega⟩
        rw [nuN, hd, show d + 48 - 48 = d by omega, show (48 : Int32) = Int32.ofNat 48 from rfl, ← on_add d 48, ← Int32.add_assoc, Int32.add_sub_cancel, show (10 : Int32) = Int32.ofNat 10 from rfl, ← Int32.ofNat_mul, on_add]
      rw [if_pos c, if_neg (by decide), bnd_eq, cal_some, ptI_eq, bnd_eq, ptI_eq]
      simp only [h6, hlk, hv, on_succ, c, if_true]
      have e12 : am_u2 f 1 6 (Int32.ofNat (nuN (fun j => chA B L (q + j)) (i + 1))) 1 2 = Int32.ofNat (q + i) := by rw [au_nk (by decide)]; exact h2
      simp only [e12, on_succ]
      have e := ih n (i + 1) (am_u2 (am_u2 f 1 6 (Int32.ofNat (nuN (fun j => chA B L (q + j)) (i + 1)))) 1 2 (Int32.ofNat (q + i + 1))) (by omega) (by omega) au_same (by rw [au_nk (by decide), au_same]) (TPc_at (by decide) (TPc_at (by decide) T))
      have swap : ∀ (x y z w : Int32), am_u2 (am_u2 (am_u2 (am_u2 f 1 6 x) 1 2 y) 1 6 z) 1 2 w = am_u2 (am_u2 f 1 6 z) 1 2 w := fun x y z w => by
        funext a b
        by_cases e1 : a = 1 ∧ b = 2
        · obtain ⟨rfl, rfl⟩ := e1; rw [au_same, au_same]
        · by_cases e2 : a = 1 ∧ b = 6
          · obtain ⟨rfl, rfl⟩ := e2; simp [am_u2]
          · simp [am_u2, e1, e2]
      rw [swap] at e
      rw [show i + (rl (fun i => isDg (chA B L i)) m (q + i + 1) + 1) = i + 1 + rl (fun i => isDg (chA B L i)) m (q + (i + 1)) by rw [← Nat.add_assoc q i 1]; omega]
      exact e
    · rw [if_neg c, if_pos rfl, if_neg c, Nat.add_zero, au_self h6, au_self h2]
theorem let64 {c : Nat} (h : 97 ≤ c ∧ c ≤ 122) : Int32.toInt64 (Int32.ofNat c - 97 + 1) = Int64.ofNat (c - 96) := by
  have k : ∀ d : Fin 26, Int32.toInt64 (Int32.ofNat (d.val + 97) - 97 + 1) = Int64.ofNat (d.val + 97 - 96) := by decide
  have := k ⟨c - 97, by omega⟩
  simp only at this
  rwa [show c - 97 + 97 = c by omega] at this
theorem c_letters {k : Int32 → am_H → Option am_H} {q : Nat} : ∀ m n i (f : Nat → Nat → Int32) (g : (Nat → Nat → Int64) × (Nat → Nat → Option Nat)), i + m = 1600 → q + i ≤ 1600 → f 1 2 = Int32.ofNat (q + i) → g.1 1 7 = Int64.ofNat (wN (fun j => chA B L (q + j)) i) → TPc f g B L → ∃ g', lp_X9_takeWord_9 k (n + m + 1) (Int32.ofNat i) (Int32.ofNat i) (f, g) = k (Int32.ofNat (i + rl (fun i => isLt (chA B L i)) m (q + i))) (am_u2 f 1 2 (Int32.ofNat (q + (i + rl (fun i => isLt (chA B L i)) m (q + i)))), g') ∧ g'.1 1 7 = Int64.ofNat (wN (fun j => chA B L (q + j)) (i + rl (fun i => isLt (chA B L i)) m (q + i))) ∧ g'.2 = g.2 ∧ ∀ a, a ≠ 1 → g'.1 a = g.1 a := by
  intro m
  induction m with
  | zero =>
    intro n i f g hi hp h2 h7 T
    obtain rfl : i = 1600 := by omega
    rw [lp_X9_takeWord_9, if_neg (by decide), rl, Nat.add_zero, au_self h2]
    exact ⟨g, rfl, h7, rfl, fun _ _ => rfl⟩
  | succ m ih =>
    intro n i f g hi hp h2 h7 T
    rw [lp_X9_takeWord_9, if_pos (lt1600 (by omega)), X9_look T h2 hp, cal_some, X9_isLetter T.2.2.2.1, cal_some, rl]
    by_cases c : isLt (chA B L (q + i)) = true
    · have hin := ch_in (P := isLt) (by decide) c
      have h1600 := T.2.1
      have hlk : lkv B L (q + i) = Int32.ofNat (chA B L (q + i)) := by unfold lkv chA; rw [if_pos hin, if_pos hin]
      have hge : 97 ≤ chA B L (q + i) ∧ chA B L (q + i) ≤ 122 := by
        unfold isLt at c; rw [Bool.and_eq_true] at c; exact ⟨of_decide_eq_true c.1, of_decide_eq_true c.2⟩
      have hv : Int64.ofNat (wN (fun j => chA B L (q + j)) i) * 32 + Int32.toInt64 (Int32.ofNat (chA B L (q + i)) - 97 + 1) = Int64.ofNat (wN (fun j => chA B L (q + j)) (i + 1)) := by
        rw [let64 hge, wN, show (32 : Int64) = Int64.ofNat 32 from rfl, ← Int64.ofNat_mul, ← Int64.ofNat_add]
      rw [if_pos c, if_neg (by decide), bnd_eq, cal_some]
      unfold f_X9_withLetter
      simp only [h7, hlk, hv]
      rw [cal_some]
      unfold ptL
      simp only
      rw [bnd_eq, ptI_eq]
      simp only [h2, on_succ, c, if_true]
      obtain ⟨g', a1, a2, a3, a4⟩ := ih n (i + 1) (am_u2 f 1 2 (Int32.ofNat (q + i + 1))) (am_u2 g.1 1 7 (Int64.ofNat (wN (fun j => chA B L (q + j)) (i + 1))), g.2) (by omega) (by omega) au_same (by simp [am_u2]) (TPc_at (by decide) (TPc_w T))
      rw [au_au] at a1
      rw [show i + (rl (fun i => isLt (chA B L i)) m (q + i + 1) + 1) = i + 1 + rl (fun i => isLt (chA B L i)) m (q + (i + 1)) by rw [← Nat.add_assoc q i 1]; omega]
      exact ⟨g', a1, a2, a3, fun a ha => by rw [a4 a ha]; funext b; simp [am_u2, ha]⟩
    · rw [if_neg c, if_pos rfl, if_neg c, Nat.add_zero, au_self h2]
      exact ⟨g, rfl, h7, rfl, fun _ _ => rfl⟩
theorem c_kind {N : Nat} (hN : N < 2 ^ 40) (T : TPc f g B L) : ∀ m n i, i + m = 18 → lp_X9_wordKind_2 (Int64.ofNat N) (f, g) (n + m + 1) (Int32.ofNat i) = some (Int32.ofNat (wkF N m i)) := by
  intro m
  have hk : ∀ i, i < 18 → kwN.getD i 0 < 2 ^ 64 := fun i hi => by
    have k : ∀ i : Fin 18, kwN.getD i.val 0 < 2 ^ 64 := by decide +kernel
    exact k ⟨i, hi⟩
  induction m with
  | zero =>
    intro n i hi
    obtain rfl : i = 18 := by omega
    rw [lp_X9_wordKind_2, if_neg (by decide)]
    rfl
  | succ m ih =>
    intro n i hi
    have hl : Int32.ofNat i < 18 := by
      rw [show (18 : Int32) = Int32.ofNat 18 from rfl, on_lt (by omega) (by omega)]; omega
    rw [lp_X9_wordKind_2, if_pos hl]
    unfold rdL
    rw [if_pos (on_in (by omega) (by decide)), on_nat (by omega)]
    simp only [T.2.2.2.2 i (by omega)]
    rw [wkF]
    by_cases c : kwN.getD i 0 = N
    · rw [if_pos (lgc.mpr (by rw [c])), if_pos c]
    · rw [if_neg (fun z => c ((on64 (hk i (by omega)) (by omega)).mp (lgc.mp z))), if_neg c, on_succ, show n + (m + 1) = n + m + 1 from rfl, ih n (i + 1) (by omega)]
theorem X9_wordKind {N : Nat} (hN : N < 2 ^ 40) (T : TPc f g B L) : f_X9_wordKind (Int64.ofNat N) (f, g) = some (Int32.ofNat (wk N)) := c_kind hN T 18 3981 0 rfl
theorem wtok {q : Nat} (hl : tkW B L q ≤ 8) : WMr (wN (fun i => chA B L (q + i)) (tkW B L q)) (wM (fun i => chA B L (q + i)) (tkW B L q)) := by
  refine ⟨_, _, hl, fun i hi => ?_, rfl, rfl⟩
  have := (rl_spec (P := fun i => isLt (chA B L i)) 1600 q).1 i hi
  simp only [isLt, Bool.and_eq_true] at this
  exact ⟨of_decide_eq_true this.1, of_decide_eq_true this.2⟩
/-- the class goes on to the next token -/
theorem X9_advance (T : TPc f g B L) (h2 : f 1 2 = Int32.ofNat p) (hp : p ≤ L) : ∃ f' g', f_X9_advance (f, g) = some (f', g') ∧ CT f' g' (tk B L p) ∧ TPc f' g' B L ∧ (∀ a, a ≠ 1 → f' a = f a) ∧ g'.2 = g.2 ∧ ∀ a, a ≠ 1 → g'.1 a = g.1 a := by
  have hL := T.2.1
  obtain ⟨hq1, hq2⟩ := tkQ_le (B := B) hp
  have hb := c_blank (g := g) (B := B) (L := L) (k := fun h11 => jn_X9_advance_35 h11) 1600 2399 0 p f rfl (by omega) h2 T
  have hb' : f_X9_advance (f, g) = jn_X9_advance_35 (am_u2 f 1 2 (Int32.ofNat (tkQ B L p)), g) := hb
  rw [hb']
  clear hb hb'
  unfold tk
  generalize tkQ B L p = q at hq1 hq2
  let f1 := am_u2 (am_u2 f 1 2 (Int32.ofNat q)) 1 5 (Int32.ofNat q)
  have T1 : TPc f1 g B L := TPc_at (by decide) (TPc_at (by decide) T)
  have p1 : f1 1 2 = Int32.ofNat q := by show am_u2 _ 1 5 _ 1 2 = _; rw [au_nk (by decide), au_same]
  have p5 : f1 1 5 = Int32.ofNat q := au_same
  have fr1 : ∀ a, a ≠ 1 → f1 a = f a := fun a ha => by show am_u2 (am_u2 _ _ _ _) _ _ _ a = _; rw [u2_ne ha, u2_ne ha]
  have hj : jn_X9_advance_35 (am_u2 f 1 2 (Int32.ofNat q), g) = (if lkv B L q = -1 then ptI (f1, g) 1 4 31 fun h44 => some h44 else cal (f_X9_isLetter (lkv B L q) (f1, g)) fun v21 => if v21 = 0 then cal (f_X9_isDigit (lkv B L q) (f1, g)) fun v24 => if v24 = 0 then cal (f_X9_signKind (lkv B L q) (f1, g)) fun v27 => ptI (f1, g) 1 4 v27 fun h29 => bnd (h29.1 1 2) fun v32 => ptI h29 1 2 (v32 + 1) fun h33 => some h33 else cal (f_X9_takeNumber (f1, g)) fun h37 => some h37 else cal (f_X9_takeWord (f1, g)) fun h41 => some h41) := by
    unfold jn_X9_advance_35
    rw [bnd_eq, ptI_eq]
    simp only [au_same]
    have := X9_look T1 p1 (by omega)
    have this' : f_X9_look (am_u2 (am_u2 f 1 2 (Int32.ofNat q)) 1 5 (Int32.ofNat q), g) = some (lkv B L q) := this
    rw [this', cal_some]
  rw [hj]
  clear hj
  unfold tkAt
  by_cases c : q < L
  · have hbq := T.2.2.2.1 q c
    have hlk : lkv B L q = Int32.ofNat (chA B L q) := by unfold lkv chA; rw [if_pos c, if_pos c]
    have hcb : chA B L q < 256 := by unfold chA; rw [if_pos c]; exact hbq
    have nm1 : ¬ lkv B L q = -1 := fun z => nneg (i := chA B L q) (by omega) (by rw [← hlk, z]; decide)
    rw [if_neg nm1, X9_isLetter T.2.2.2.1, cal_some, if_pos c]
    by_cases c1 : isLt (chA B L q) = true
    · rw [if_pos c1, if_neg (by decide), if_pos c1]
      unfold f_X9_takeWord
      obtain ⟨g', a1, a2, a3, a4⟩ := c_letters (B := B) (L := L) (q := q) (k := fun z24 h25 => jn_X9_takeWord_60 z24 h25) 1600 2399 0 f1 (am_u2 g.1 1 7 0, g.2) rfl (by omega) p1 (by simp [am_u2, wN]) (TPc_w T1)
      have a1' : lp_X9_takeWord_9 (fun z24 h25 => jn_X9_takeWord_60 z24 h25) 4000 0 0 (f1, am_u2 g.1 1 7 0, g.2) = jn_X9_takeWord_60 (Int32.ofNat (0 + tkW B L q)) (am_u2 f1 1 2 (Int32.ofNat (q + (0 + tkW B L q))), g') := a1
      have hle : tkW B L q ≤ 1600 := (rl_spec (P := fun i => isLt (chA B L i)) 1600 q).2.2
      have a2' : g'.1 1 7 = Int64.ofNat (wN (fun i => chA B L (q + i)) (0 + tkW B L q)) := a2
      have T2 : TPc (am_u2 f1 1 2 (Int32.ofNat (q + (0 + tkW B L q)))) g' B L := by
        obtain ⟨t1, t2, t3, t4, t5⟩ := TPc_at (k := 2) (v := Int32.ofNat (q + (0 + tkW B L q))) (by decide) T1
        exact ⟨t1, t2, t3, t4, fun i hi => by rw [a4 3 (by decide)]; have := t5 i hi; simpa [am_u2] using this⟩
      rw [Nat.zero_add] at a1' a2' T2
      unfold ptL
      simp only
      rw [a1']
      unfold jn_X9_takeWord_60
      have fin : ∀ kd : Nat, (kd = 30 → g'.1 1 7 = Int64.ofNat (wN (fun i => chA B L (q + i)) (tkW B L q))) → kd ≠ 29 → ∃ f'' g'', (cal (ptI (am_u2 f1 1 2 (Int32.ofNat (q + tkW B L q)), g') 1 4 (Int32.ofNat kd) fun h34 => some h34) fun h41 => some h41) = some (f'', g'') ∧ CT f'' g'' ⟨kd, q, q + tkW B L q, 0, wN (fun i => chA B L (q + i)) (tkW B L q)⟩ ∧ TPc f'' g'' B L ∧ (∀ a, a ≠ 1 → f'' a = f a) ∧ g''.2 = g.2 ∧ ∀ a, a ≠ 1 → g''.1 a = g.1 a := fun kd hk hk2 => by
        rw [ptI_eq, cal_some]
        refine ⟨am_u2 (am_u2 f1 1 2 (Int32.ofNat (q + tkW B L q))) 1 4 (Int32.ofNat kd), g', rfl, ⟨by rw [au_nk (by decide), au_same], au_same, by rw [au_nk (by decide), au_nk (by decide)]; exact p5, fun h => absurd h hk2, hk⟩, TPc_at (by decide) T2, fun a ha => by rw [u2_ne ha, u2_ne ha, fr1 a ha], a3, fun a ha => by rw [a4 a ha]; funext b; simp [am_u2, ha]⟩
      by_cases c8 : 8 < tkW B L q
      · rw [if_pos (by rw [show (8 : Int32) = Int32.ofNat 8 from rfl, on_lt (by omega) (by omega)]; exact c8), if_pos c8]
        exact fin 32 (fun h => absurd h (by decide)) (by decide)
      · rw [if_neg (by rw [show (8 : Int32) = Int32.ofNat 8 from rfl, on_lt (by omega) (by omega)]; exact c8), if_neg c8, bnd_eq]
        simp only [a2']
        rw [X9_wordKind (WMr_lt (wtok (by omega))).1 T2, cal_some]
        exact fin _ (fun _ => a2') (by
          rcases wk_spec (wN (fun i => chA B L (q + i)) (tkW B L q)) with ⟨z, -⟩ | ⟨z, -⟩ <;> omega)
    · rw [if_neg c1, if_pos rfl, X9_isDigit T.2.2.2.1, cal_some, if_neg c1]
      by_cases c2 : isDg (chA B L q) = true
      · rw [if_pos c2, if_neg (by decide), if_pos c2]
        unfold f_X9_takeNumber
        have hle : tkD B L q ≤ 1600 := (rl_spec (P := fun i => isDg (chA B L i)) 1600 q).2.2
        have hrun : q + tkD B L q ≤ L := run_le (P := isDg) (B := B) (by decide) hq2
        have a1 := c_digits (g := g) (B := B) (L := L) (q := q) (k := fun z21 h22 => jn_X9_takeNumber_64 z21 h22) 1600 2399 0 (am_u2 f1 1 6 0) rfl (by omega) (by rw [au_nk (by decide)]; exact p1) (by rw [au_same]; rfl) (TPc_at (by decide) T1)
        have a1' : lp_X9_takeNumber_9 (fun z21 h22 => jn_X9_takeNumber_64 z21 h22) 4000 0 0 (am_u2 f1 1 6 0, g) = jn_X9_takeNumber_64 (Int32.ofNat (0 + tkD B L q)) (am_u2 (am_u2 (am_u2 f1 1 6 0) 1 6 (Int32.ofNat (nuN (fun j => chA B L (q + j)) (0 + tkD B L q)))) 1 2 (Int32.ofNat (q + (0 + tkD B L q))), g) := a1
        rw [Nat.zero_add, au_au] at a1'
        rw [ptI_eq]
        simp only
        rw [a1']
        have T2 : TPc (am_u2 (am_u2 f1 1 6 (Int32.ofNat (nuN (fun j => chA B L (q + j)) (tkD B L q)))) 1 2 (Int32.ofNat (q + tkD B L q))) g B L := TPc_at (by decide) (TPc_at (by decide) T1)
        unfold jn_X9_takeNumber_64
        have fin : ∀ kd : Nat, kd ≠ 30 → ∃ f'' g'', (cal (ptI (am_u2 (am_u2 f1 1 6 (Int32.ofNat (nuN (fun j => chA B L (q + j)) (tkD B L q)))) 1 2 (Int32.ofNat (q + tkD B L q)), g) 1 4 (Int32.ofNat kd) fun h24 => some h24) fun h37 => some h37) = some (f'', g'') ∧ CT f'' g'' ⟨kd, q, q + tkD B L q, nuN (fun i => chA B L (q + i)) (tkD B L q), 0⟩ ∧ TPc f'' g'' B L ∧ (∀ a, a ≠ 1 → f'' a = f a) ∧ g''.2 = g.2 ∧ ∀ a, a ≠ 1 → g''.1 a = g.1 a := fun kd hk2 => by
          rw [ptI_eq, cal_some]
          refine ⟨am_u2 (am_u2 (am_u2 f1 1 6 (Int32.ofNat (nuN (fun j => chA B L (q + j)) (tkD B L q)))) 1 2 (Int32.ofNat (q + tkD B L q))) 1 4 (Int32.ofNat kd), g, rfl, ⟨by rw [au_nk (by decide), au_same], au_same, by rw [au_nk (by decide), au_nk (by decide), au_nk (by decide)]; exact p5, fun h => by rw [au_nk (by decide), au_nk (by decide), au_same], fun h => absurd h hk2⟩, TPc_at (by decide) T2, fun a ha => by rw [u2_ne ha, u2_ne ha, u2_ne ha, fr1 a ha], rfl, fun a ha => rfl⟩
        by_cases c4 : 4 < tkD B L q
        · rw [if_pos (by rw [show (4 : Int32) = Int32.ofNat 4 from rfl, on_lt (by omega) (by omega)]; exact c4), if_pos (Or.inl c4)]
          exact fin 32 (by decide)
        · rw [if_neg (by rw [show (4 : Int32) = Int32.ofNat 4 from rfl, on_lt (by omega) (by omega)]; exact c4), X9_look T2 au_same (by omega), cal_some, X9_isLetter T.2.2.2.1, cal_some]
          by_cases c5 : isLt (chA B L (q + tkD B L q)) = true
          · rw [if_pos c5, if_neg (by decide), if_pos (Or.inr c5)]
            exact fin 32 (by decide)
          · rw [if_neg c5, if_pos rfl, if_neg (fun z => z.elim c4 c5)]
            exact fin 29 (by decide)
      · rw [if_neg c2, if_pos rfl, X9_signKind T.2.2.2.1 c, cal_some, ptI_eq, bnd_eq, ptI_eq, if_neg c2]
        have e12 : am_u2 f1 1 4 (Int32.ofNat (sgK (chA B L q))) 1 2 = Int32.ofNat q := by rw [au_nk (by decide)]; exact p1
        simp only [e12, on_succ]
        have hsg : sgK (chA B L q) ≠ 29 ∧ sgK (chA B L q) ≠ 30 := by unfold sgK; (repeat' split) <;> decide
        exact ⟨am_u2 (am_u2 f1 1 4 (Int32.ofNat (sgK (chA B L q)))) 1 2 (Int32.ofNat (q + 1)), g, rfl, ⟨au_same, by rw [au_nk (by decide), au_same], by rw [au_nk (by decide), au_nk (by decide)]; exact p5, fun h => absurd h hsg.1, fun h => absurd h hsg.2⟩, TPc_at (by decide) (TPc_at (by decide) T1), fun a ha => by rw [u2_ne ha, u2_ne ha, fr1 a ha], rfl, fun a ha => rfl⟩
  · have hlk : lkv B L q = -1 := by unfold lkv; rw [if_neg c]
    rw [if_pos hlk, if_neg c, ptI_eq]
    exact ⟨am_u2 f1 1 4 31, g, rfl, ⟨by rw [au_nk (by decide)]; exact p1, au_same, by rw [au_nk (by decide)]; exact p5, fun h => absurd h (by simp), fun h => absurd h (by simp)⟩, TPc_at (by decide) T1, fun a ha => by rw [u2_ne ha, fr1 a ha], rfl, fun a ha => rfl⟩
end AD
