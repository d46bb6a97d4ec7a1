/-! The store that the constructors leave, by program (wip/whole/mkh0.py) -/
def am_ctor (h : am_H) : Option am_H := nwH h 0 fun h1 => cal (f_cX11_init_0 h1) fun h4 => nwH h4 413 fun h5 => cal (f_cX12_init_413 h5) fun h8 => some h8
def am_hE : am_H := ((fun _ _ => 0), (fun _ _ => 0), fun _ _ => none)
/-- the cells that are not nothing, States and long arrays aside -/
def am_nz : List (Nat × Nat × Int32) := [(1, 4, 31), (4, 8, 3), (10, 3, 3), (14, 7, -1), (17, 8, 3), (23, 3, 3), (401, 3, -1), (401, 4, -1), (413, 5, -1), (413, 42, -1), (419, 0, 3), (437, 40, -1), (437, 41, -1), (437, 42, -1), (437, 43, -1), (437, 44, -1), (437, 45, -1), (437, 46, -1), (437, 47, -1), (437, 48, -1), (437, 49, -1), (437, 50, -1), (437, 51, -1), (437, 52, -1), (437, 53, -1), (437, 54, -1), (437, 55, -1)]
def am_I0 (a k : Nat) : Int32 := match am_nz.find? (fun q => q.1 == a && q.2.1 == k) with
  | some q => q.2.2
  | none => 0
/-- objects with the number of their cells -/
def am_c0l : List (Nat × Nat) := [(0, 11), (1, 8), (4, 11), (5, 4), (6, 6), (7, 6), (8, 6), (9, 6), (10, 5), (14, 8), (17, 11), (18, 4), (19, 6), (20, 6), (21, 6), (22, 6), (23, 5), (35, 4), (44, 3), (374, 2), (376, 3), (401, 5), (402, 4), (403, 8), (404, 10), (405, 30), (406, 30), (407, 30), (408, 30), (409, 30), (410, 30), (411, 7), (412, 8), (413, 60), (416, 2), (417, 2), (418, 2), (419, 2), (420, 2), (421, 2), (422, 2), (423, 8), (424, 12), (425, 12), (426, 12), (427, 12), (428, 2), (429, 2), (434, 90), (435, 90), (436, 60), (437, 59), (438, 59), (440, 8), (441, 30), (442, 30), (443, 30), (444, 30), (445, 30), (446, 7), (447, 64), (448, 177), (449, 3)]
/-- the forms' steps of a plan that nobody has told -/
def am_fo : List (Nat × Nat × Int32) := [(11, 0, 14), (11, 1, 16), (11, 2, 25), (12, 0, 0), (12, 1, 0), (12, 2, 0), (13, 0, 0), (13, 1, 0), (13, 2, 0), (24, 0, 14), (24, 1, 16), (24, 2, 25), (25, 0, 0), (25, 1, 0), (25, 2, 0), (26, 0, 0), (26, 1, 0), (26, 2, 0)]
def am_lo : List (Nat × Int64) := [(0, 605677), (1, 8892563), (2, 21583307), (3, 87435), (4, 52), (5, 13683059), (6, 671108), (7, 2702820), (8, 17086643), (9, 21016755), (10, 149559), (11, 498), (12, 1476), (13, 14836), (14, 1451365), (15, 398548), (16, 427481), (17, 824370)]
def am_sI (s : Nat) (h : am_H) : Bool := (List.range 8).all (fun k => h.1 (s + 1) k == 0 && h.1 (s + 2) k == -1 && h.1 (s + 3) k == 0 && h.1 (s + 4) k == 0 && h.1 (s + 5) k == 0 && h.1 (s + 6) k == -1 && h.1 (s + 7) k == -1) && h.1 s 8 == 0 && h.1 s 9 == 0 && h.1 s 10 == 0
def am_okh (h : am_H) : Bool := am_TPb h.2.2 && am_c0l.all (fun q => (List.range q.2).all (fun k => h.1 q.1 k == am_I0 q.1 k)) && am_fo.all (fun q => h.1 q.1 q.2.1 == q.2.2) && am_lo.all (fun q => h.2.1 3 q.1 == q.2) && [27, 36, 377, 385, 393].all (fun s => am_sI s h)
def am_oko : Bool := match am_ctor am_hE with
  | some h => am_okh h
  | none => false
theorem am_oko_ok : am_oko = true := by decide +kernel
theorem am_h0 : ∃ h, am_ctor am_hE = some h ∧ am_okh h = true := by
  have h := am_oko_ok
  unfold am_oko at h
  split at h
  · rename_i x hx
    exact ⟨x, hx, h⟩
  · cases h
theorem f_cL_law_eq {X : am_X} {h h0 : am_H} (hc : am_ctor h = some h0) (ht : am_TPb h0.2.2 = true) : f_cL_law X h = f_L_law X h0 := by
  simp only [am_ctor, nwH] at hc
  obtain ⟨h4, e4, hc⟩ := cal_inv hc
  obtain ⟨h8, e8, hc⟩ := cal_inv hc
  cases hc
  simp only [f_cL_law, nwH]
  rw [e4]
  simp only [cal]
  rw [e8]
  simp only [chk, ht, if_true]
