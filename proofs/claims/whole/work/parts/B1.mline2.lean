/-! the model reads lines: rooms, numbers told once, what comes of two -/
theorem gu_ne {α : Type} {f : Nat → Nat → α} {a b k : Nat} {v : α} (h : b ≠ a) : am_u2 f a k v b = f b := by
  funext j
  simp [am_u2, h]
theorem gu_same {α : Type} {f : Nat → Nat → α} {a k : Nat} {v : α} : am_u2 f a k v a k = v := by simp [am_u2]
theorem gu_nk {α : Type} {f : Nat → Nat → α} {a b k j : Nat} {v : α} (h : j ≠ k) : am_u2 f a k v b j = f b j := by simp [am_u2, h]
section PR2
variable {ρ : Type} {f : Nat → Nat → Int32} {g : (Nat → Nat → Int64) × (Nat → Nat → Option Nat)} {a n j k : Nat}
theorem wrIp {v : Int32} {F : am_H → Option ρ} (hj : j < n) (hn : n ≤ 2147483648) : wrI (f, g) a n (Int32.ofNat j) v F = F (am_u2 f a j v, g) := wrI_n hj hn
theorem wrLp {v : Int64} {F : am_H → Option ρ} (hj : j < n) (hn : n ≤ 2147483648) : wrL (f, g) a n (Int32.ofNat j) v F = F (f, am_u2 g.1 a j v, g.2) := by
  unfold wrL
  rw [if_pos (on_in hj hn), on_nat (by omega)]
theorem rdIv {v : Int32} {F : Int32 → Option ρ} (hj : j < n) (hn : n ≤ 2147483648) (e : f a j = v) : rdI (f, g) a n (Int32.ofNat j) F = F v := by
  rw [rdI_n hj hn]
  show F (f a j) = F v
  rw [e]
theorem ptIp {v : Int32} {F : am_H → Option ρ} : ptI (f, g) a k v F = F (am_u2 f a k v, g) := rfl
theorem bndv {v : Int32} {F : Int32 → Option ρ} (e : f a k = v) : bnd ((f, g).1 a k) F = F v := by
  show F (f a k) = F v
  rw [e]
theorem bndw {v : Int64} {F : Int64 → Option ρ} (e : g.1 a k = v) : bnd ((f, g).2.1 a k) F = F v := by
  show F (g.1 a k) = F v
  rw [e]
end PR2
theorem bR_as {α β γ : Type} (x : (Nat × Nat) ⊕ α) (k : α → (Nat × Nat) ⊕ β) (l : β → (Nat × Nat) ⊕ γ) : bR (bR x k) l = bR x (fun a => bR (k a) l) := by
  cases x <;> rfl
theorem zrt_if {c : Prop} [Decidable c] : zrt (if c then (1 : Int32) else 0) (some (if c then (1 : Int32) else 0)) = some (if c then 1 else 0) := by
  by_cases h : c
  · rw [if_pos h, zrt_1]
  · rw [if_neg h, zrt_0]
def kEnd (h : am_H) : Option am_H := cal (f_X12_isSignHere 59 h) fun v => cal (f_X12_must v h) fun h2 => some h2
/-- which word a long says -/
def nx (x : Int64) (k : Nat) : Prop := ∀ i, i < 18 → ∀ c : Int64, c = Int64.ofNat (kwM.getD i 0) → (lg_cmp x c = 0 ↔ k = i)
section LB
variable {f : Nat → Nat → Int32} {g : (Nat → Nat → Int64) × (Nat → Nat → Option Nat)} {B : Nat → Nat} {L rb : Nat} {D : DR} {t : TK} {e : Nat × Nat}
theorem KM_pre {f1 : Nat → Nat → Int32} {g1 : (Nat → Nat → Int64) × (Nat → Nat → Option Nat)} {out : Option am_H} {r : LR} (h : FRm rb f f1 g g1) (s : KM f1 g1 B L rb out r) : KM f g B L rb out r := by
  rcases r with e | ⟨t', D'⟩
  · obtain ⟨f', g', a1, a2, a3⟩ := s
    exact ⟨f', g', a1, a2, h.trans a3⟩
  · obtain ⟨f', g', a1, a2, a3⟩ := s
    exact ⟨f', g', a1, a2, h.trans a3⟩
theorem end_ok (h : MDT f g B L rb D t) : KM f g B L rb (kEnd (f, g)) (bR (pTk (tk B L) 18 t) fun t' => .inr (t', D)) := by
  have s := m_must (k := 18) h (v := if t.1 = 18 then 1 else 0) rfl
  unfold kEnd
  have e59 : f_X12_isSignHere 59 (f, g) = some (if t.1 = 18 then 1 else 0) := X12_isSignHere (s := 18) (c := 59) h.1.1 h.1.2.1 h.k (by decide) rfl (by decide)
  rw [e59, cal_some]
  rcases hx : pTk (tk B L) 18 t with e | t'
  · rw [hx] at s
    obtain ⟨f', a1, a2, a3⟩ := s
    rw [a1, cal_some, bR_l]
    exact ⟨f', g, rfl, a2, a3.m⟩
  · rw [hx] at s
    obtain ⟨f', g', a1, a2, a3⟩ := s
    rw [a1, cal_some, bR_r]
    exact ⟨f', g', rfl, a2, a3.m⟩
theorem end_bad (h : BDm f g B L rb e) : KM f g B L rb (kEnd (f, g)) (.inl e) := by
  obtain ⟨v, hv⟩ := bad_sign h
  unfold kEnd
  rw [hv, cal_some, bad_must h, cal_some]
  exact ⟨f, g, rfl, h, FRm.refl⟩
theorem KM_end {out : Option am_H} {r : LR} (s : KM f g B L rb out r) {F : am_H → Option am_H} (hF : ∀ h, F h = kEnd h) : KM f g B L rb (cal out F) (bR r fun x => bR (pTk (tk B L) 18 x.1) fun t9 => .inr (t9, x.2)) := by
  rcases r with e | ⟨t', D'⟩
  · obtain ⟨f', g', a1, a2, a3⟩ := s
    rw [a1, cal_some, hF, bR_l]
    exact KM_pre a3 (end_bad a2)
  · obtain ⟨f', g', a1, a2, a3⟩ := s
    rw [a1, cal_some, hF, bR_r]
    exact KM_pre a3 (end_ok a2)
theorem nx_of (h : MT f g B L t) (hk : t.1 < 18) : nx (g.1 413 10) t.1 := by
  obtain ⟨M, m1, m2, m3⟩ := h.2.2.2.2.1 (Or.inl hk)
  intro i hi c hc
  rw [m1, kwq m2 hi hc, ← m3]
theorem st191 {x : Int64} {k : Nat} (hx : nx x k) (h10 : k ≠ 10) (h : am_H) : jn_X12_readLine_191 x h = kEnd h := by
  unfold jn_X12_readLine_191
  rw [if_neg (fun z => h10 ((hx 10 (by decide) 1685217655 rfl).mp z))]
  rfl
theorem st166 {x : Int64} {k : Nat} (hx : nx x k) (h9 : k ≠ 9) (h : am_H) : jn_X12_readLine_166 x h = jn_X12_readLine_191 x h := by
  unfold jn_X12_readLine_166
  rw [if_neg (fun z => h9 ((hx 9 (by decide) 499850700147 rfl).mp z))]
theorem st141 {x : Int64} {k : Nat} (hx : nx x k) (h8 : k ≠ 8) (h : am_H) : jn_X12_readLine_141 x h = jn_X12_readLine_166 x h := by
  unfold jn_X12_readLine_141
  rw [if_neg (fun z => h8 ((hx 8 (by decide) 482805179763 rfl).mp z))]
theorem st129 {x : Int64} {k : Nat} (hx : nx x k) (h7 : k ≠ 7) (h : am_H) : jn_X12_readLine_129 x h = jn_X12_readLine_141 x h := by
  unfold jn_X12_readLine_129
  rw [if_neg (fun z => h7 ((hx 7 (by decide) 422826700644 rfl).mp z))]
theorem st117 {x : Int64} {k : Nat} (hx : nx x k) (h2 : k ≠ 2) (h : am_H) : jn_X12_readLine_117 x h = jn_X12_readLine_129 x h := by
  unfold jn_X12_readLine_117
  rw [if_neg (fun z => h2 ((hx 2 (by decide) 500136504939 rfl).mp z))]
/-- what may be written -/
theorem FRm_w {a : Nat} {v : Int32} (ha : 416 ≤ a ∧ a ≤ 422 ∨ a = 428 ∨ a = 429) : FRm rb f (am_u2 f a rb v) g g := ⟨fun b z1 z2 z3 => u2_ne (by omega), fun k _ _ => by rw [u2_ne (by omega)], fun b _ i hi => au_nk hi, fun i _ => by rw [u2_ne (by omega)], fun b _ i _ => by rw [u2_ne (by omega)], fun i _ => ⟨by rw [u2_ne (by omega)], by rw [u2_ne (by omega)]⟩, rfl, fun _ _ _ _ => rfl⟩
theorem FRm_w423 {j : Nat} {v : Int32} (hj : 4 * rb ≤ j ∧ j < 4 * rb + 4) : FRm rb f (am_u2 f 423 j v) g g := ⟨fun b z1 z2 z3 => u2_ne (by omega), fun k _ _ => by rw [u2_ne (by omega)], fun b _ i hi => by rw [u2_ne (by omega)], fun i hi => au_nk (by omega), fun b _ i _ => by rw [u2_ne (by omega)], fun i _ => ⟨by rw [u2_ne (by omega)], by rw [u2_ne (by omega)]⟩, rfl, fun _ _ _ _ => rfl⟩
theorem FRm_w424 {a j : Nat} {v : Int32} (ha : 424 ≤ a ∧ a ≤ 427) (hj : 6 * rb ≤ j ∧ j < 6 * rb + 6) : FRm rb f (am_u2 f a j v) g g := ⟨fun b z1 z2 z3 => u2_ne (by omega), fun k _ _ => by rw [u2_ne (by omega)], fun b _ i hi => by rw [u2_ne (by omega)], fun i hi => by rw [u2_ne (by omega)], fun b _ i hi => au_nk (by omega), fun i _ => ⟨by rw [u2_ne (by omega)], by rw [u2_ne (by omega)]⟩, rfl, fun _ _ _ _ => rfl⟩
theorem FRm_wL {a j : Nat} {v : Int64} (ha : a = 430 ∨ a = 431) : FRm rb f f g (am_u2 g.1 a j v, g.2) := ⟨fun _ _ _ _ => rfl, fun _ _ _ => rfl, fun _ _ _ _ => rfl, fun _ _ => rfl, fun _ _ _ _ => rfl, fun _ _ => ⟨rfl, rfl⟩, rfl, fun b z1 z2 z3 => gu_ne (by omega)⟩
theorem FRm_w37 {k : Nat} {v : Int32} (hk : 34 ≤ k ∧ k ≤ 37) : FRm rb f (am_u2 f 413 k v) g g := ⟨fun b z1 z2 z3 => u2_ne (by omega), fun k' _ z => au_nk (by omega), fun b _ i hi => by rw [u2_ne (by omega)], fun i hi => by rw [u2_ne (by omega)], fun b _ i hi => by rw [u2_ne (by omega)], fun i _ => ⟨by rw [u2_ne (by omega)], by rw [u2_ne (by omega)]⟩, rfl, fun _ _ _ _ => rfl⟩
theorem MG_w {a j : Nat} {v : Int32} (ha : a ≠ 413 ∧ a ≠ 415) (h : MG f g B L rb t) : MG (am_u2 f a j v) g B L rb t := MG_fr (fun k _ => by rw [u2_ne (Ne.symm ha.1)]) (u2_ne (Ne.symm ha.2)) h
theorem MG_wL {a j : Nat} {v : Int64} (ha : a ≠ 413) (h : MG f g B L rb t) : MG f (am_u2 g.1 a j v, g.2) B L rb t := by
  obtain ⟨⟨a1, a2, a3, a4, a5, a6, a7⟩, T, hb, h33, h4, tv⟩ := h
  refine ⟨⟨a1, a2, a3, a4, fun z => ?_, a6, a7⟩, T, hb, h33, h4, tv⟩
  obtain ⟨M, m1, m2⟩ := a5 z
  refine ⟨M, ?_, m2⟩
  show am_u2 g.1 a j v 413 10 = _
  rw [gu_ne (Ne.symm ha)]
  exact m1
theorem BD_w {a j : Nat} {v : Int32} (ha : a ≠ 413 ∧ a ≠ 415) (h : BDm f g B L rb e) : BDm (am_u2 f a j v) g B L rb e := BD_fr (fun k => by rw [u2_ne (Ne.symm ha.1)]) (u2_ne (Ne.symm ha.2)) rfl h
theorem BD_wL {a j : Nat} {v : Int64} (ha : a ≠ 413) (h : BDm f g B L rb e) : BDm f (am_u2 g.1 a j v, g.2) B L rb e := BD_fr (fun _ => rfl) rfl (gu_ne (Ne.symm ha)) h
theorem MDr_w {a j : Nat} {v : Int32} (ha : a ≠ 418 ∧ a ≠ 428 ∧ a ≠ 429 ∧ a ≠ 432 ∧ a ≠ 433 ∧ a ≠ 413) (m : MDr f rb D) : MDr (am_u2 f a j v) rb D := MDr_cong (fun b z => u2_ne (by omega)) (by rw [u2_ne (by omega)]) m
theorem MDT_wL {a n : Nat} {v : Int64} (ha : a = 430 ∧ n = 4 * rb + D.1 0 ∨ a = 431 ∧ n = 6 * rb + D.1 1) (h : MDT f g B L rb D t) : MDT f (am_u2 g.1 a n v, g.2) B L rb D t := by
  obtain ⟨G, m1, m2, m3, m4⟩ := h
  refine ⟨MG_wL (by omega) G, m1, fun i hi => ?_, fun i hi => ?_, m4⟩
  · show (∃ M, am_u2 g.1 a n v 430 (4 * rb + i) = _ ∧ _) ∧ _
    by_cases c : a = 430
    · rw [gu_nk (by omega)]; exact m2 i hi
    · rw [gu_ne (by omega)]; exact m2 i hi
  · show (∃ M, am_u2 g.1 a n v 431 (6 * rb + i) = _ ∧ _) ∧ _
    by_cases c : a = 431
    · rw [gu_nk (by omega)]; exact m3 i hi
    · rw [gu_ne (by omega)]; exact m3 i hi
theorem MDT_w {a n : Nat} {v : Int32} (ha : a = 423 ∧ n = 4 * rb + D.1 0 ∨ (424 ≤ a ∧ a ≤ 427) ∧ n = 6 * rb + D.1 1) (h : MDT f g B L rb D t) : MDT (am_u2 f a n v) g B L rb D t := by
  obtain ⟨G, m1, m2, m3, m4⟩ := h
  have q : ∀ b i, (424 ≤ b ∧ b ≤ 427) → i < D.1 1 → am_u2 f a n v b (6 * rb + i) = f b (6 * rb + i) := fun b i hb hi => by
    by_cases c : b = a
    · exact au_nk (by omega)
    · rw [u2_ne c]
  refine ⟨MG_w (by omega) G, by rw [u2_ne (by omega), u2_ne (by omega), u2_ne (by omega), u2_ne (by omega), u2_ne (by omega), u2_ne (by omega)]; exact m1, fun i hi => ?_, fun i hi => ?_, MDr_w (by omega) m4⟩
  · by_cases c : a = 423
    · rw [au_nk (by omega)]; exact m2 i hi
    · rw [u2_ne (by omega)]; exact m2 i hi
  · rw [q 424 i (by omega) hi, q 425 i (by omega) hi, q 426 i (by omega) hi, q 427 i (by omega) hi]
    exact m3 i hi
theorem MDr_D {D' : DR} (h5 : D'.1 5 = D.1 5) (h9 : D'.1 9 = D.1 9) (h2 : D'.2.2 = D.2.2) (m : MDr f rb D) : MDr f rb D' := by
  unfold MDr at m ⊢
  rw [h5, h9, h2]
  exact m
theorem mbits_D {s s' : Nat → Nat} {X X' : (Nat → Nat → Nat) × List (Nat × Nat)} (h : ∀ k, 5 ≤ k → k ≤ 8 → s' k = s k) : mbits (s', X') = mbits (s, X) := by
  unfold mbits
  simp only
  rw [h 5 (by decide) (by decide), h 6 (by decide) (by decide), h 7 (by decide) (by decide), h 8 (by decide) (by decide)]
/-- a room is told -/
def kRoom (x1 : Int64) (h11 : am_H) : Option am_H := bnd (h11.1 413 33) fun v66 => bnd (h11.1 413 33) fun v67 => rdI h11 416 2 v67 fun v68 => cal (f_X12_roomHere h11) fun v70 => cal2 (f_X12_fresh v70 h11) fun v73 h75 => wrL h75 430 8 (((4 : Int32) * v66) + v68) v73 fun h78 => bnd (h78.1 413 33) fun v81 => bnd (h78.1 413 33) fun v82 => rdI h78 416 2 v82 fun v83 => cal2 (f_X12_after 448545973363 0 99 h78) fun v85 h87 => wrI h87 423 8 (((4 : Int32) * v81) + v83) v85 fun h90 => bnd (h90.1 413 33) fun v93 => rdI h90 416 2 v93 fun v94 => wrI h90 416 2 v93 (v94 + 1) fun h95 => jn_X12_readLine_117 x1 h95
theorem room_end {x1 : Int64} (hx : nx x1 0) (h : am_H) : jn_X12_readLine_117 x1 h = kEnd h := by
  rw [st117 hx (by decide), st129 hx (by decide), st141 hx (by decide), st166 hx (by decide), st191 hx (by decide)]
theorem room_bad {x1 : Int64} (hx : nx x1 0) (hn : D.1 0 < 4) (h : BDm f g B L rb e) (h416 : f 416 rb = Int32.ofNat (D.1 0)) (v : Int32) : KM f g B L rb (wrI (f, g) 423 8 (Int32.ofNat (4 * rb + D.1 0)) v fun h90 => bnd (h90.1 413 33) fun v93 => rdI h90 416 2 v93 fun v94 => wrI h90 416 2 v93 (v94 + 1) fun h95 => jn_X12_readLine_117 x1 h95) (.inl e) := by
  have hrb := h.2.2.1
  have h33 := h.2.2.2.1
  have h1 := BD_w (a := 423) (j := 4 * rb + D.1 0) (v := v) (by decide) h
  have q := FRm_w423 (f := f) (g := g) (rb := rb) (j := 4 * rb + D.1 0) (v := v) (by omega)
  rw [wrIp (by omega) (by decide), bndv h1.2.2.2.1, rdIv hrb (by decide) (show am_u2 f 423 (4 * rb + D.1 0) v 416 rb = Int32.ofNat (D.1 0) by rw [u2_ne (by decide)]; exact h416), wrIp hrb (by decide), room_end hx]
  exact KM_pre (q.trans (FRm_w (by decide))) (end_bad (BD_w (by decide) h1))
theorem m_room {x1 : Int64} (hx : nx x1 0) (hn : D.1 0 < 4) (h : MDT f g B L rb D t) : KM f g B L rb (kRoom x1 (f, g)) (bR (pNm (tk B L) (D.2.1 0) (D.1 0) t) fun x => bR (pTk (tk B L) 1 x.2) fun t2 => bR (pNu (tk B L) 0 99 t2) fun y => bR (pTk (tk B L) 18 y.2) fun t4 =>
    .inr (t4, sN D.1 0 (D.1 0 + 1), aN (aN D.2.1 0 (D.1 0) x.1) 1 (D.1 0) y.1, D.2.2)) := by
  have hrb := h.1.2.2.1
  have h33 := h.1.2.2.2.1
  have h416 := h.2.1.1
  have ix : (4 : Int32) * Int32.ofNat rb + Int32.ofNat (D.1 0) = Int32.ofNat (4 * rb + D.1 0) := by rw [bx4 (t := 0), on_add]
  unfold kRoom
  rw [bndv h33, bndv h33, rdIv hrb (by decide) h416, X12_roomHere h (by omega), cal_some]
  have s := m_fresh (names := D.2.1 0) (n := D.1 0) (by omega) h (x := (if t.1 = 30 then (if fndN (D.2.1 0) t.2.2.2.2 (D.1 0) 0 = 99 then -1 else Int32.ofNat (fndN (D.2.1 0) t.2.2.2.2 (D.1 0) 0)) else -1)) rfl
  rcases hp : pNm (tk B L) (D.2.1 0) (D.1 0) t with e | x
  · rw [hp] at s
    obtain ⟨v, f1, a1, a2, a3⟩ := s
    have e416 : f1 416 rb = Int32.ofNat (D.1 0) := by rw [a3.1 416 (by decide)]; exact h416
    have b2 := BD_wL (a := 430) (j := 4 * rb + D.1 0) (v := v) (by decide) a2
    have ba := bad_after b2 448545973363 0 99
    rw [a1, cal2_some, ix, wrLp (by omega) (by decide), bndv a2.2.2.2.1, bndv a2.2.2.2.1, rdIv hrb (by decide) e416, ba, cal2_some, ix, bR_l]
    exact KM_pre (a3.m.trans (FRm_wL (by decide))) (room_bad hx hn b2 e416 0)
  · rw [hp] at s
    obtain ⟨M, f1, g1, a1, aw, a2, a3⟩ := s
    have e416 : f1 416 rb = Int32.ofNat (D.1 0) := by rw [a3.1 416 (by decide)]; exact h416
    have m2 := MDT_wL (a := 430) (n := 4 * rb + D.1 0) (v := Int64.ofNat M) (Or.inl ⟨rfl, rfl⟩) a2
    have q2 := FRm_wL (rb := rb) (f := f1) (g := g1) (a := 430) (j := 4 * rb + D.1 0) (v := Int64.ofNat M) (by decide)
    have sa := m_after (k := 1) (by decide) (w := 448545973363) rfl m2 (lo := 0) (hi := 99) (by decide) (by decide)
    have e0 : Int32.ofNat 0 = 0 := rfl
    have e99 : Int32.ofNat 99 = 99 := rfl
    rw [e0, e99] at sa
    rw [a1, cal2_some, ix, wrLp (by omega) (by decide), bndv a2.1.2.2.2.1, bndv a2.1.2.2.2.1, rdIv hrb (by decide) e416, bR_r]
    refine KM_pre (a3.m.trans q2) ?_
    have as := bR_as (pTk (tk B L) 1 x.2) (pNu (tk B L) 0 99) (fun y => bR (pTk (tk B L) 18 y.2) fun t4 => (.inr (t4, sN D.1 0 (D.1 0 + 1), aN (aN D.2.1 0 (D.1 0) x.1) 1 (D.1 0) y.1, D.2.2) : LR))
    rw [← as]
    rcases hy : bR (pTk (tk B L) 1 x.2) (pNu (tk B L) 0 99) with e | y
    · rw [hy] at sa
      obtain ⟨f2, g2, b1, b2, b3⟩ := sa
      rw [b1, cal2_some, ix, bR_l]
      exact KM_pre b3.m (room_bad hx hn b2 (by rw [b3.1 416 (by decide)]; exact e416) 0)
    · rw [hy] at sa
      obtain ⟨f2, g2, b1, b2, b3⟩ := sa
      have n416 : f2 416 rb = Int32.ofNat (D.1 0) := by rw [b3.1 416 (by decide)]; exact e416
      have c2 := MDT_w (a := 423) (n := 4 * rb + D.1 0) (v := Int32.ofNat y.1) (Or.inl ⟨rfl, rfl⟩) b2
      rw [b1, cal2_some, ix, wrIp (by omega) (by decide), bndv c2.1.2.2.2.1, rdIv hrb (by decide) (show am_u2 f2 423 (4 * rb + D.1 0) (Int32.ofNat y.1) 416 rb = Int32.ofNat (D.1 0) by rw [u2_ne (by decide)]; exact n416), wrIp hrb (by decide), on_succ, room_end hx, bR_r]
      have q3 := FRm_w423 (f := f2) (g := g2) (rb := rb) (j := 4 * rb + D.1 0) (v := Int32.ofNat y.1) (by omega)
      refine KM_pre (b3.m.trans (q3.trans (FRm_w (a := 416) (v := Int32.ofNat (D.1 0 + 1)) (by decide)))) ?_
      have hname : g2.1 430 (4 * rb + D.1 0) = Int64.ofNat M := by
        rw [b3.2.2.2 430 (by decide)]
        exact gu_same
      refine end_ok (D := (sN D.1 0 (D.1 0 + 1), aN (aN D.2.1 0 (D.1 0) x.1) 1 (D.1 0) y.1, D.2.2)) ⟨MG_w (by decide) c2.1, ?_⟩
      obtain ⟨-, k1, k2, k3, k4⟩ := c2
      have z2 : aN (aN D.2.1 0 (D.1 0) x.1) 1 (D.1 0) y.1 2 = D.2.1 2 := by rw [aN_ne (by decide), aN_ne (by decide)]
      have z3 : aN (aN D.2.1 0 (D.1 0) x.1) 1 (D.1 0) y.1 3 = D.2.1 3 := by rw [aN_ne (by decide), aN_ne (by decide)]
      have z4 : aN (aN D.2.1 0 (D.1 0) x.1) 1 (D.1 0) y.1 4 = D.2.1 4 := by rw [aN_ne (by decide), aN_ne (by decide)]
      have z5 : aN (aN D.2.1 0 (D.1 0) x.1) 1 (D.1 0) y.1 5 = D.2.1 5 := by rw [aN_ne (by decide), aN_ne (by decide)]
      have z6 : aN (aN D.2.1 0 (D.1 0) x.1) 1 (D.1 0) y.1 6 = D.2.1 6 := by rw [aN_ne (by decide), aN_ne (by decide)]
      let f3 := am_u2 f2 423 (4 * rb + D.1 0) (Int32.ofNat y.1)
      have fr : ∀ b, b ≠ 416 → am_u2 f3 416 rb (Int32.ofNat (D.1 0 + 1)) b = f3 b := fun b z => u2_ne z
      unfold MD
      simp only
      have hm : mbits (sN D.1 0 (D.1 0 + 1), aN (aN D.2.1 0 (D.1 0) x.1) 1 (D.1 0) y.1, D.2.2) = mbits D := mbits_D (fun k z1 z2 => sN_ne (by omega))
      rw [hm, z2, z3, z4, z5, z6, sN_same, sN_ne (show 1 ≠ 0 by decide), sN_ne (show 2 ≠ 0 by decide), sN_ne (show 3 ≠ 0 by decide), sN_ne (show 4 ≠ 0 by decide)]
      refine ⟨⟨au_same, by rw [fr 417 (by decide)]; exact k1.2.1, by rw [fr 419 (by decide)]; exact k1.2.2.1, by rw [fr 420 (by decide)]; exact k1.2.2.2.1, by rw [fr 421 (by decide)]; exact k1.2.2.2.2.1, by rw [fr 422 (by decide)]; exact k1.2.2.2.2.2⟩, fun i hi => ?_, fun i hi => by rw [fr 424 (by decide), fr 425 (by decide), fr 426 (by decide), fr 427 (by decide)]; exact k3 i hi, MDr_w (by decide) (MDr_D (D := D) (D' := (sN D.1 0 (D.1 0 + 1), aN (aN D.2.1 0 (D.1 0) x.1) 1 (D.1 0) y.1, D.2.2)) (show sN D.1 0 (D.1 0 + 1) 5 = D.1 5 from sN_ne (by decide)) (show sN D.1 0 (D.1 0 + 1) 9 = D.1 9 from sN_ne (by decide)) rfl k4)⟩
      rw [fr 423 (by decide)]
      by_cases ei : i = D.1 0
      · subst ei
        rw [aN_ne (by decide), aN_same, aN_same]
        exact ⟨⟨M, hname, aw⟩, au_same⟩
      · rw [aN_ne (show 0 ≠ 1 by decide), aN_nk ei, aN_nk ei, aN_ne (by decide)]
        exact k2 i (by omega)
/-- a number is told once -/
theorem mb_tb (hD : DV D) {j : Nat} (hj : j < 4) : tb (Int32.ofNat (mbits D)) j = decide (D.1 (5 + j) = 1) := by
  obtain ⟨-, -, -, -, -, ⟨b5, b6, b7, b8⟩, -⟩ := hD
  have z : ∀ (a b c d : Fin 2) (o : Fin 4), tb (Int32.ofNat (a.val + b.val * 2 + c.val * 4 + d.val * 8)) o.val = decide ((if o.val = 0 then a.val else if o.val = 1 then b.val else if o.val = 2 then c.val else d.val) = 1) := by decide +kernel
  have := z ⟨D.1 5, by omega⟩ ⟨D.1 6, by omega⟩ ⟨D.1 7, by omega⟩ ⟨D.1 8, by omega⟩ ⟨j, hj⟩
  simp only at this
  unfold mbits
  rw [this]
  match j, hj with
  | 0, _ => rfl
  | 1, _ => rfl
  | 2, _ => rfl
  | 3, _ => rfl
theorem mb_or (hD : DV D) {o : Nat} (ho : 5 ≤ o ∧ o ≤ 8) {X : (Nat → Nat → Nat) × List (Nat × Nat)} : Int32.ofNat (mbits D) ||| ((1 : Int32) <<< (Int32.ofNat (o - 5) &&& 31)) = Int32.ofNat (mbits (sN D.1 o 1, X)) := by
  obtain ⟨-, -, -, -, -, ⟨b5, b6, b7, b8⟩, -⟩ := hD
  have z : ∀ (a b c d : Fin 2) (o : Fin 9), 5 ≤ o.val → (Int32.ofNat (a.val + b.val * 2 + c.val * 4 + d.val * 8) ||| ((1 : Int32) <<< (Int32.ofNat (o.val - 5) &&& 31))) = Int32.ofNat ((if o.val = 5 then 1 else a.val) + (if o.val = 6 then 1 else b.val) * 2 + (if o.val = 7 then 1 else c.val) * 4 + (if o.val = 8 then 1 else d.val) * 8) := by decide +kernel
  have := z ⟨D.1 5, by omega⟩ ⟨D.1 6, by omega⟩ ⟨D.1 7, by omega⟩ ⟨D.1 8, by omega⟩ ⟨o, by omega⟩ ho.1
  simp only at this
  unfold mbits
  rw [this]
  unfold sN
  simp only [eq_comm (a := o)]
def kOnce (c lo hi : Int32) (a : Nat) (h : am_H) : Option am_H := bnd (h.1 413 33) fun v1 => cal2 (f_X12_once c lo hi h) fun v2 h2 => wrI h2 a 2 v1 v2 fun h3 => kEnd h3
theorem m_once (hD : DV D) (h : MDT f g B L rb D t) {o v lo hi a : Nat} (ho : 6 ≤ o ∧ o ≤ 8) (hv : v + 4 = o) (ha : a = 417 + v) (hlo : lo ≤ 10) (hhi : hi ≤ 1000) {c cl ch : Int32} (hc : c = Int32.ofNat (o - 5)) (hcl : cl = Int32.ofNat lo) (hch : ch = Int32.ofNat hi) : KM f g B L rb (kOnce c cl ch a (f, g)) (bR (pNu (tk B L) lo hi t) fun y => bR (pTk (tk B L) 18 y.2) fun t2 => .inr (t2, sN (sN D.1 o 1) v y.1, D.2)) := by
  have hrb := h.1.2.2.1
  have h33 := h.1.2.2.2.1
  let f1 := am_u2 f 422 rb (Int32.ofNat (mbits (sN D.1 o 1, D.2)))
  have h1 : MDT f1 g B L rb (sN D.1 o 1, D.2) t := by
    obtain ⟨G, k1, k2, k3, k4⟩ := h
    refine ⟨MG_w (by decide) G, ?_⟩
    unfold MD
    simp only
    have fr : ∀ b, b ≠ 422 → f1 b = f b := fun b z => u2_ne z
    rw [sN_ne (show 0 ≠ o by omega), sN_ne (show 1 ≠ o by omega), sN_ne (show 2 ≠ o by omega), sN_ne (show 3 ≠ o by omega), sN_ne (show 4 ≠ o by omega), fr 416 (by decide), fr 417 (by decide), fr 419 (by decide), fr 420 (by decide), fr 421 (by decide), fr 423 (by decide), fr 424 (by decide), fr 425 (by decide), fr 426 (by decide), fr 427 (by decide)]
    exact ⟨⟨k1.1, k1.2.1, k1.2.2.1, k1.2.2.2.1, k1.2.2.2.2.1, au_same⟩, k2, k3, MDr_w (by decide) (MDr_D (D := D) (D' := (sN D.1 o 1, D.2)) (show sN D.1 o 1 5 = D.1 5 from sN_ne (by omega)) (show sN D.1 o 1 9 = D.1 9 from sN_ne (by omega)) rfl k4)⟩
  have q1 : FRm rb f f1 g g := FRm_w (by decide)
  have s := m_num h1 hlo hhi
  rw [← hcl, ← hch] at s
  have eo : f_X12_once c cl ch (f, g) = cal2 (f_X12_numeral cl ch (f1, g)) fun v7 h9 => some (v7, h9) := by
    unfold f_X12_once
    rw [bndv h33, rdIv hrb (by decide) h.2.1.2.2.2.2.2, wrIp hrb (by decide), hc, mb_or (X := D.2) hD (by omega)]
  unfold kOnce
  rw [bndv h33, eo]
  rcases hx : pNu (tk B L) lo hi t with e | y
  · rw [hx] at s
    obtain ⟨f2, a1, a2, a3⟩ := s
    rw [a1, cal2_some, cal2_some, wrIp hrb (by decide), bR_l]
    exact KM_pre (q1.trans (a3.m.trans (FRm_w (by omega)))) (end_bad (BD_w (by omega) a2))
  · rw [hx] at s
    obtain ⟨f2, g2, a1, a2, a3⟩ := s
    rw [a1, cal2_some, cal2_some, wrIp hrb (by decide), bR_r]
    refine KM_pre (q1.trans (a3.m.trans (FRm_w (a := a) (v := Int32.ofNat y.1) (by omega)))) (end_ok (D := (sN (sN D.1 o 1) v y.1, D.2)) ⟨MG_w (by omega) a2.1, ?_⟩)
    obtain ⟨-, k1, k2, k3, k4⟩ := a2
    have fr : ∀ b, b ≠ a → am_u2 f2 a rb (Int32.ofNat y.1) b = f2 b := fun b z => u2_ne z
    unfold MD
    simp only
    have hm : mbits (sN (sN D.1 o 1) v y.1, D.2) = mbits (sN D.1 o 1, D.2) := mbits_D (fun k z1 z2 => sN_ne (by omega))
    have val : ∀ k, 2 ≤ k → k ≤ 4 → f2 (417 + k) rb = Int32.ofNat (sN D.1 o 1 k) → am_u2 f2 a rb (Int32.ofNat y.1) (417 + k) rb = Int32.ofNat (sN (sN D.1 o 1) v y.1 k) := fun k z1 z2 hk => by
      by_cases e : k = v
      · rw [e, ha, sN_same, au_same]
      · rw [sN_ne e, fr (417 + k) (by omega)]; exact hk
    simp only at k1 k2 k3 k4
    rw [hm, fr 416 (by omega), fr 417 (by omega), fr 422 (by omega), fr 423 (by omega), fr 424 (by omega), fr 425 (by omega), fr 426 (by omega), fr 427 (by omega), sN_ne (show 0 ≠ v by omega), sN_ne (show 1 ≠ v by omega)]
    exact ⟨⟨k1.1, k1.2.1, val 2 (by decide) (by decide) k1.2.2.1, val 3 (by decide) (by decide) k1.2.2.2.1, val 4 (by decide) (by decide) k1.2.2.2.2.1, k1.2.2.2.2.2⟩, k2, k3, MDr_w (by omega) (MDr_D (D := (sN D.1 o 1, D.2)) (D' := (sN (sN D.1 o 1) v y.1, D.2)) (show sN (sN D.1 o 1) v y.1 5 = sN D.1 o 1 5 from sN_ne (by omega)) (show sN (sN D.1 o 1) v y.1 9 = sN D.1 o 1 9 from sN_ne (by omega)) rfl k4)⟩
/-- what comes of two is told -/
theorem m_rule (hD : DV D) (h5 : ¬ D.1 5 = 1) (h : MDT f g B L rb D t) : KM f g B L rb (f_X12_readRule (f, g)) (bR (PE (tk B L) 60 1 0 t 0 []) fun x => if lvO x.1.1 = 3 then .inl (2, x.1.2.1) else .inr (x.1, sN (sN D.1 5 1) 9 x.2.1, D.2.1, x.2.2)) := by
  have hrb := h.1.2.2.1
  have h33 := h.1.2.2.2.1
  obtain ⟨G, k1, k2, k3, k4⟩ := h
  unfold MDr at k4
  rw [if_neg h5] at k4
  have or0 : Int32.ofNat (mbits D) ||| 1 = Int32.ofNat (mbits (sN D.1 5 1, D.2)) := by
    have z := mb_or (o := 5) (X := D.2) hD (by decide)
    rw [show (1 : Int32) <<< (Int32.ofNat (5 - 5) &&& 31) = 1 from by decide] at z
    exact z
  let f1 := am_u2 f 422 rb (Int32.ofNat (mbits (sN D.1 5 1, D.2)))
  let f2 := am_u2 f1 413 37 0
  let f3 := am_u2 f2 428 rb (Int32.ofNat (560 * rb))
  have fr1 : ∀ b, b ≠ 422 → f1 b = f b := fun b z => u2_ne z
  have fr2 : ∀ b, b ≠ 413 → f2 b = f1 b := fun b z => u2_ne z
  have fr3 : ∀ b, b ≠ 428 → f3 b = f2 b := fun b z => u2_ne z
  have fk : ∀ k, k ≠ 37 → f3 413 k = f 413 k := fun k z => by rw [fr3 413 (by decide)]; show am_u2 _ _ _ _ _ _ = _; rw [au_nk z, fr1 413 (by decide)]
  have G3 : MG f3 g B L rb t := MG_fr (fun k z => fk k (by omega)) (by rw [fr3 415 (by decide), fr2 415 (by decide), fr1 415 (by decide)]) G
  have q3 : FRm rb f f3 g g := (FRm_w (by decide)).trans ((FRm_w37 (by decide)).trans (FRm_w (by decide)))
  have e37 : f3 413 37 = 0 := by rw [fr3 413 (by decide)]; exact au_same
  have e34 : f3 413 34 = Int32.ofNat (560 * rb) := by rw [fk 34 (by decide)]; exact k4.2
  have f34 : f2 413 34 = Int32.ofNat (560 * rb) := by rw [← fr3 413 (by decide)]; exact e34
  have f33 : f2 413 33 = Int32.ofNat rb := by rw [← fr3 413 (by decide)]; exact G3.2.2.2.1
  have s := m_e G3 (by rw [fr3 418 (by decide), fr2 418 (by decide), fr1 418 (by decide)]; exact k4.1) e37 e34
  have er : f_X12_readRule (f, g) = cal (f_X12_e (f3, g)) fun h15 => bnd (h15.1 413 33) fun v18 => bnd (h15.1 413 34) fun v19 => wrI h15 429 2 v18 v19 fun h20 => some h20 := by
    unfold f_X12_readRule
    rw [bndv h33, rdIv hrb (by decide) k1.2.2.2.2.2, or0, wrIp hrb (by decide), ptIp, bndv f33, bndv f34, wrIp hrb (by decide)]
  obtain ⟨f4, g4, a1, a2, a3⟩ := s
  have g33 : f4 413 33 = Int32.ofNat rb := by rw [a2.2.1 33 (by decide) (by decide)]; exact G3.2.2.2.1
  rw [er, a1, cal_some, bndv g33]
  revert a3
  generalize PE (tk B L) 60 1 0 t 0 [] = r
  intro a3
  rcases r with ⟨c', p'⟩ | ⟨t', u', C'⟩
  · obtain ⟨b1, b2, b3, b4⟩ := a3
    rw [bndv rfl, wrIp hrb (by decide), bR_l]
    have hb : BDm f4 g4 B L rb (c', p') := ⟨b4.1, b4.2, hrb, g33, b1, b3, b2⟩
    exact ⟨_, _, rfl, BD_w (by decide) hb, q3.trans (a2.m.trans (FRm_w (by decide)))⟩
  · rw [bR_r]
    simp only at a3
    by_cases c : lvO t'.1 = 3
    · rw [if_pos c] at a3
      rw [if_pos (show lvO t'.1 = 3 from c)]
      obtain ⟨b1, b2, b3⟩ := a3
      rw [bndv rfl, wrIp hrb (by decide)]
      have hb : BDm f4 g4 B L rb (2, t'.2.1) := ⟨b3.1, b3.2, hrb, g33, b1, (show 0 < 2 ∧ 2 < 10 by decide), b2⟩
      exact ⟨_, _, rfl, BD_w (by decide) hb, q3.trans (a2.m.trans (FRm_w (by decide)))⟩
    · rw [if_neg c] at a3
      rw [if_neg (show ¬ lvO t'.1 = 3 from c)]
      obtain ⟨b1, b2, b3, b4⟩ := a3
      rw [bndv b3, wrIp hrb (by decide)]
      refine ⟨_, _, rfl, ⟨MG_w (by decide) b1, ?_⟩, q3.trans (a2.m.trans (FRm_w (by decide)))⟩
      have fr : ∀ b, b ≠ 429 → am_u2 f4 429 rb (Int32.ofNat (560 * rb + C'.length)) b = f4 b := fun b z => u2_ne z
      have f4r : ∀ b, b ≠ 413 → b ≠ 418 → b ≠ 432 → b ≠ 433 → b ≠ 434 → b ≠ 435 → b ≠ 422 → b ≠ 428 → f4 b = f b := fun b z1 z2 z3 z4 z5 z6 z7 z8 => by rw [a2.1 b z1 z2 z3 z4 z5 z6, fr3 b z8, fr2 b z1, fr1 b z7]
      have e422 : f4 422 rb = Int32.ofNat (mbits (sN D.1 5 1, D.2)) := by rw [a2.1 422 (by decide) (by decide) (by decide) (by decide) (by decide) (by decide), fr3 422 (by decide), fr2 422 (by decide)]; exact au_same
      have e428 : f4 428 rb = Int32.ofNat (560 * rb) := by rw [a2.1 428 (by decide) (by decide) (by decide) (by decide) (by decide) (by decide)]; exact au_same
      have hm : mbits (sN (sN D.1 5 1) 9 u', D.2.1, C') = mbits (sN D.1 5 1, D.2) := mbits_D (fun k z1 z2 => sN_ne (by omega))
      have ss : ∀ k, k < 5 → sN (sN D.1 5 1) 9 u' k = D.1 k := fun k hk => by rw [sN_ne (by omega), sN_ne (by omega)]
      have s5 : sN (sN D.1 5 1) 9 u' 5 = 1 := by rw [sN_ne (by decide), sN_same]
      unfold MD
      simp only
      rw [hm, ss 0 (by decide), ss 1 (by decide), ss 2 (by decide), ss 3 (by decide), ss 4 (by decide), fr 416 (by decide), fr 417 (by decide), fr 419 (by decide), fr 420 (by decide), fr 421 (by decide), fr 422 (by decide), fr 423 (by decide), fr 424 (by decide), fr 425 (by decide), fr 426 (by decide), fr 427 (by decide)]
      rw [f4r 416 (by decide) (by decide) (by decide) (by decide) (by decide) (by decide) (by decide) (by decide), f4r 417 (by decide) (by decide) (by decide) (by decide) (by decide) (by decide) (by decide) (by decide), f4r 419 (by decide) (by decide) (by decide) (by decide) (by decide) (by decide) (by decide) (by decide), f4r 420 (by decide) (by decide) (by decide) (by decide) (by decide) (by decide) (by decide) (by decide), f4r 421 (by decide) (by decide) (by decide) (by decide) (by decide) (by decide) (by decide) (by decide), f4r 423 (by decide) (by decide) (by decide) (by decide) (by decide) (by decide) (by decide) (by decide), f4r 424 (by decide) (by decide) (by decide) (by decide) (by decide) (by decide) (by decide) (by decide), f4r 425 (by decide) (by decide) (by decide) (by decide) (by decide) (by decide) (by decide) (by decide), f4r 426 (by decide) (by decide) (by decide) (by decide) (by decide) (by decide) (by decide) (by decide), f4r 427 (by decide) (by decide) (by decide) (by decide) (by decide) (by decide) (by decide) (by decide), a2.2.2.2.2.2 430 (by decide), a2.2.2.2.2.2 431 (by decide)]
      refine ⟨⟨k1.1, k1.2.1, k1.2.2.1, k1.2.2.2.1, k1.2.2.2.2.1, e422⟩, k2, k3, ?_⟩
      unfold MDr
      simp only
      rw [s5, if_pos rfl, fr 428 (by decide), fr 418 (by decide), fr 413 (by decide), sN_same]
      exact ⟨e428, au_same, CLm_cong (fun i _ => by rw [fr 432 (by decide)]) (fun i _ => by rw [fr 433 (by decide)]) b4, b2, b3⟩
end LB
