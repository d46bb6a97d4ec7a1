/-! the tokens of a text, on paper -/
def isBl (c : Nat) : Bool := c == 32 || c == 10
def isLt (c : Nat) : Bool := decide (97 ≤ c) && decide (c ≤ 122)
def isDg (c : Nat) : Bool := decide (48 ≤ c) && decide (c ≤ 57)
def rl (P : Nat → Bool) : Nat → Nat → Nat
  | 0, _ => 0
  | n + 1, p => if P p = true then rl P n (p + 1) + 1 else 0
def wN (c : Nat → Nat) : Nat → Nat
  | 0 => 0
  | n + 1 => wN c n * 32 + (c n - 96)
def wM (c : Nat → Nat) : Nat → Nat
  | 0 => 0
  | n + 1 => wM c n * 256 + c n
def nuN (c : Nat → Nat) : Nat → Nat
  | 0 => 0
  | n + 1 => nuN c n * 10 + (c n - 48)
def sgK (c : Nat) : Nat := if c = 37 then 28 else if c = 40 then 19 else if c = 41 then 20 else if c = 42 then 26 else if c = 43 then 24 else if c = 45 then 25 else if c = 47 then 27 else if c = 59 then 18 else if c = 60 then 21 else if c = 61 then 23 else if c = 62 then 22 else 32
def kwN : List Nat := [605677, 8892563, 21583307, 87435, 52, 13683059, 671108, 2702820, 17086643, 21016755, 149559, 498, 1476, 14836, 1451365, 398548, 427481, 824370]
def kwM : List Nat := [1919905645, 448545973363, 500136504939, 1651862635, 24948, 469786323827, 1953459300, 422826700644, 482805179763, 499850700147, 1685217655, 28530, 6385252, 7237492, 418430675813, 1818584692, 1835101817, 2036687218]
def kwL : List (List Nat) := [[114, 111, 111, 109], [104, 111, 108, 100, 115], [116, 114, 117, 110, 107], [98, 117, 108, 107], [97, 116], [109, 97, 114, 107, 115], [116, 111, 108, 100], [98, 114, 111, 111, 100], [112, 105, 110, 101, 115], [116, 97, 108, 101, 115], [100, 114, 97, 119], [111, 114], [97, 110, 100], [110, 111, 116], [97, 108, 105, 107, 101], [108, 101, 102, 116], [109, 97, 110, 121], [121, 101, 97, 114]]
def kwC (i : Nat) (j : Nat) : Nat := ((kwL.getD i []).getD j 0)
def kwl (i : Nat) : Nat := (kwL.getD i []).length
def wkF (N : Nat) : Nat → Nat → Nat
  | 0, _ => 30
  | m + 1, i => if kwN.getD i 0 = N then i else wkF N m (i + 1)
def wk (N : Nat) : Nat := wkF N 18 0
/-- a token: its kind, its place, the place behind it, its number, its word -/
abbrev TK := Nat × Nat × Nat × Nat × Nat
def chA (B : Nat → Nat) (L p : Nat) : Nat := if p < L then B p else 0
def tkQ (B : Nat → Nat) (L p : Nat) : Nat := p + rl (fun i => isBl (chA B L i)) 1600 p
def tkW (B : Nat → Nat) (L q : Nat) : Nat := rl (fun i => isLt (chA B L i)) 1600 q
def tkD (B : Nat → Nat) (L q : Nat) : Nat := rl (fun i => isDg (chA B L i)) 1600 q
def tkAt (B : Nat → Nat) (L q : Nat) : TK := if q < L then (if isLt (chA B L q) = true then ⟨if 8 < tkW B L q then 32 else wk (wN (fun i => chA B L (q + i)) (tkW B L q)), q, q + tkW B L q, 0, wN (fun i => chA B L (q + i)) (tkW B L q)⟩ else if isDg (chA B L q) = true then ⟨if 4 < tkD B L q ∨ isLt (chA B L (q + tkD B L q)) = true then 32 else 29, q, q + tkD B L q, nuN (fun i => chA B L (q + i)) (tkD B L q), 0⟩ else ⟨sgK (chA B L q), q, q + 1, 0, 0⟩) else ⟨31, q, q, 0, 0⟩
def tk (B : Nat → Nat) (L p : Nat) : TK := tkAt B L (tkQ B L p)
/-- one word as both write it -/
def WMr (N M : Nat) : Prop := ∃ c l, l ≤ 8 ∧ (∀ i, i < l → 97 ≤ c i ∧ c i ≤ 122) ∧ N = wN c l ∧ M = wM c l
theorem wN_b {c : Nat → Nat} : ∀ l, (∀ i, i < l → 97 ≤ c i ∧ c i ≤ 122) → wN c l < 32 ^ l ∧ (0 < l → 0 < wN c l)
  | 0, _ => ⟨by simp [wN], fun h => absurd h (by decide)⟩
  | l + 1, h => by
    obtain ⟨h1, -⟩ := wN_b (c := c) l (fun i hi => h i (by omega))
    have := h l (by omega)
    rw [wN, Nat.pow_succ]
    exact ⟨by omega, fun _ => by omega⟩
theorem wM_b {c : Nat → Nat} : ∀ l, (∀ i, i < l → 97 ≤ c i ∧ c i ≤ 122) → wM c l < 256 ^ l ∧ (0 < l → 0 < wM c l)
  | 0, _ => ⟨by simp [wM], fun h => absurd h (by decide)⟩
  | l + 1, h => by
    obtain ⟨h1, -⟩ := wM_b (c := c) l (fun i hi => h i (by omega))
    have := h l (by omega)
    rw [wM, Nat.pow_succ]
    exact ⟨by omega, fun _ => by omega⟩
theorem w_inj {c c' : Nat → Nat} : ∀ l l', (∀ i, i < l → 97 ≤ c i ∧ c i ≤ 122) → (∀ i, i < l' → 97 ≤ c' i ∧ c' i ≤ 122) → (wN c l = wN c' l' ↔ wM c l = wM c' l')
  | 0, 0, _, _ => by simp [wN, wM]
  | 0, l' + 1, _, h' => by
    have h1 := (wN_b (l' + 1) h').2 (by omega)
    have h2 := (wM_b (l' + 1) h').2 (by omega)
    simp only [wN, wM] at h1 h2 ⊢
    omega
  | l + 1, 0, h, _ => by
    have h1 := (wN_b (l + 1) h).2 (by omega)
    have h2 := (wM_b (l + 1) h).2 (by omega)
    simp only [wN, wM] at h1 h2 ⊢
    omega
  | l + 1, l' + 1, h, h' => by
    have ih := w_inj (c := c) (c' := c') l l' (fun i hi => h i (by omega)) (fun i hi => h' i (by omega))
    have a := h l (by omega)
    have b := h' l' (by omega)
    rw [wN, wN, wM, wM]
    constructor
    · intro e
      have e1 : wN c l = wN c' l' := by omega
      have e2 := ih.mp e1
      omega
    · intro e
      have e1 : wM c l = wM c' l' := by omega
      have e2 := ih.mpr e1
      omega
theorem WMr_eq {N M N' M' : Nat} (h : WMr N M) (h' : WMr N' M') : N = N' ↔ M = M' := by
  obtain ⟨c, l, -, h2, rfl, rfl⟩ := h
  obtain ⟨c', l', -, h2', rfl, rfl⟩ := h'
  exact w_inj l l' h2 h2'
theorem WMr_lt {N M : Nat} (h : WMr N M) : N < 2 ^ 40 ∧ M < 2 ^ 64 := by
  obtain ⟨c, l, hl, h2, rfl, rfl⟩ := h
  have h3 := (wN_b l h2).1
  have h4 := (wM_b l h2).1
  have h5 : 32 ^ l ≤ 32 ^ 8 := Nat.pow_le_pow_right (by decide) hl
  have h6 : 256 ^ l ≤ 256 ^ 8 := Nat.pow_le_pow_right (by decide) hl
  exact ⟨by omega, by omega⟩
theorem WMr_kw (i : Nat) (hi : i < 18) : WMr (kwN.getD i 0) (kwM.getD i 0) := by
  have k : ∀ i : Fin 18, kwl i.val ≤ 8 ∧ (∀ j : Fin 8, j.val < kwl i.val → 97 ≤ kwC i.val j.val ∧ kwC i.val j.val ≤ 122) ∧ kwN.getD i.val 0 = wN (kwC i.val) (kwl i.val) ∧ kwM.getD i.val 0 = wM (kwC i.val) (kwl i.val) := by decide +kernel
  obtain ⟨k1, k2, k3, k4⟩ := k ⟨i, hi⟩
  exact ⟨kwC i, kwl i, k1, fun j hj => k2 ⟨j, by simp only at k1 hj ⊢; omega⟩ hj, k3, k4⟩
theorem wkF_spec {N : Nat} : ∀ m i, i + m = 18 → (wkF N m i < 18 ∧ i ≤ wkF N m i ∧ kwN.getD (wkF N m i) 0 = N) ∨ (wkF N m i = 30 ∧ ∀ j, i ≤ j → j < 18 → kwN.getD j 0 ≠ N)
  | 0, i, h => Or.inr ⟨rfl, fun j h1 h2 => by omega⟩
  | m + 1, i, h => by
    rw [wkF]
    by_cases c : kwN.getD i 0 = N
    · rw [if_pos c]; exact Or.inl ⟨by omega, Nat.le_refl _, c⟩
    · rw [if_neg c]
      rcases wkF_spec (N := N) m (i + 1) (by omega) with ⟨a1, a2, a3⟩ | ⟨a1, a2⟩
      · exact Or.inl ⟨a1, by omega, a3⟩
      · refine Or.inr ⟨a1, fun j h1 h2 => ?_⟩
        by_cases e : j = i
        · subst e; exact c
        · exact a2 j (by omega) h2
theorem wk_spec (N : Nat) : (wk N < 18 ∧ kwN.getD (wk N) 0 = N) ∨ (wk N = 30 ∧ ∀ j, j < 18 → kwN.getD j 0 ≠ N) := by
  rcases wkF_spec (N := N) 18 0 rfl with ⟨a1, -, a3⟩ | ⟨a1, a2⟩
  · exact Or.inl ⟨a1, a3⟩
  · exact Or.inr ⟨a1, fun j hj => a2 j (Nat.zero_le _) hj⟩
theorem kwN_inj {i j : Nat} (hi : i < 18) (hj : j < 18) (h : kwN.getD i 0 = kwN.getD j 0) : i = j := by
  have k : ∀ i j : Fin 18, kwN.getD i.val 0 = kwN.getD j.val 0 → i.val = j.val := by decide +kernel
  exact k ⟨i, hi⟩ ⟨j, hj⟩ h
/-- which word, asked of the model's writing -/
theorem wk_kw {N M i : Nat} (h : WMr N M) (hi : i < 18) : wk N = i ↔ M = kwM.getD i 0 := by
  rw [← WMr_eq h (WMr_kw i hi)]
  rcases wk_spec N with ⟨a1, a2⟩ | ⟨a1, a2⟩
  · constructor
    · intro e; rw [← e]; exact a2.symm
    · intro e; exact kwN_inj a1 hi (a2.trans e)
  · constructor
    · intro e; omega
    · intro e; exact absurd e.symm (a2 i hi)
theorem rl_spec {P : Nat → Bool} : ∀ n p, (∀ i, i < rl P n p → P (p + i) = true) ∧ (rl P n p < n → P (p + rl P n p) = false) ∧ rl P n p ≤ n
  | 0, p => ⟨fun i h => by simp [rl] at h, fun h => by simp [rl] at h, Nat.le_refl _⟩
  | n + 1, p => by
    obtain ⟨h1, h2, h3⟩ := rl_spec (P := P) n (p + 1)
    rw [rl]
    by_cases c : P p = true
    · rw [if_pos c]
      refine ⟨fun i hi => ?_, fun h => ?_, by omega⟩
      · by_cases e : i = 0
        · subst e; exact c
        · have := h1 (i - 1) (by omega)
          rwa [show p + 1 + (i - 1) = p + i by omega] at this
      · have := h2 (by omega)
        rwa [show p + 1 + rl P n (p + 1) = p + (rl P n (p + 1) + 1) by omega] at this
    · rw [if_neg c]
      exact ⟨fun i hi => absurd hi (by omega), fun _ => by simpa using c, by omega⟩
theorem ch_in {P : Nat → Bool} {B : Nat → Nat} {L : Nat} (h0 : P 0 = false) {p : Nat} (h : P (chA B L p) = true) : p < L := by
  unfold chA at h
  split at h
  · assumption
  · rw [h0] at h; exact absurd h (by decide)
theorem tkQ_le {B : Nat → Nat} {L p : Nat} (hp : p ≤ L) : p ≤ tkQ B L p ∧ tkQ B L p ≤ L := by
  unfold tkQ
  obtain ⟨h1, -, -⟩ := rl_spec (P := fun i => isBl (chA B L i)) 1600 p
  refine ⟨by omega, ?_⟩
  generalize rl (fun i => isBl (chA B L i)) 1600 p = r at h1
  by_cases e : r = 0
  · omega
  · have := ch_in (P := isBl) (by decide) (h1 (r - 1) (by omega))
    omega
theorem run_le {P : Nat → Bool} {B : Nat → Nat} {L q : Nat} (h0 : P 0 = false) (hq : q ≤ L) : q + rl (fun i => P (chA B L i)) 1600 q ≤ L := by
  obtain ⟨h1, -, -⟩ := rl_spec (P := fun i => P (chA B L i)) 1600 q
  generalize rl (fun i => P (chA B L i)) 1600 q = r at h1
  by_cases e : r = 0
  · omega
  · have := ch_in (P := P) h0 (h1 (r - 1) (by omega))
    omega
theorem run_pos {P : Nat → Bool} {q : Nat} (h : P q = true) : 0 < rl P 1600 q := by
  rw [rl, if_pos h]; omega
/-- what holds of every token -/
theorem tk_ok (B : Nat → Nat) {L p : Nat} (hp : p ≤ L) : p ≤ (tk B L p).2.1 ∧ (tk B L p).2.1 ≤ L ∧ (tk B L p).2.2.1 ≤ L ∧ ((tk B L p).1 ≠ 31 → (tk B L p).2.1 < (tk B L p).2.2.1) ∧ ((tk B L p).1 = 31 → (tk B L p).2.2.1 = L ∧ (tk B L p).2.1 = L) ∧ (tk B L p).1 ≤ 32 := by
  obtain ⟨h1, h2⟩ := tkQ_le (B := B) hp
  unfold tk
  generalize tkQ B L p = q at h1 h2
  unfold tkAt
  have hsg : ∀ c, sgK c ≠ 31 ∧ sgK c ≤ 32 := fun c => by unfold sgK; (repeat' split) <;> decide
  have hwk : ∀ N, wk N ≠ 31 ∧ wk N ≤ 32 := fun N => by rcases wk_spec N with ⟨a, -⟩ | ⟨a, -⟩ <;> omega
  by_cases c : q < L
  · rw [if_pos c]
    by_cases c1 : isLt (chA B L q) = true
    · rw [if_pos c1]
      have := run_pos (P := fun i => isLt (chA B L i)) c1
      have r := run_le (P := isLt) (B := B) (by decide) h2
      have k := hwk (wN (fun i => chA B L (q + i)) (tkW B L q))
      refine ⟨h1, h2, r, fun _ => by simp only [tkW]; omega, fun h => ?_, ?_⟩
      · simp only at h; split at h <;> omega
      · simp only; split <;> omega
    · rw [if_neg c1]
      by_cases c2 : isDg (chA B L q) = true
      · rw [if_pos c2]
        have := run_pos (P := fun i => isDg (chA B L i)) c2
        have r := run_le (P := isDg) (B := B) (by decide) h2
        refine ⟨h1, h2, r, fun _ => by simp only [tkD]; omega, fun h => ?_, ?_⟩
        · simp only at h; split at h <;> omega
        · simp only; split <;> omega
      · rw [if_neg c2]
        exact ⟨h1, h2, by simp only; omega, fun _ => by simp only; omega, fun h => absurd h (hsg _).1, (hsg _).2⟩
  · rw [if_neg c]
    exact ⟨h1, h2, h2, fun h => absurd rfl h, fun _ => ⟨by simp only; omega, by simp only; omega⟩, by simp only; omega⟩
