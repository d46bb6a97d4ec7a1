/-! The objects that the two constructors make, by program (wip/whole/mk14.py) -/
def am_SH_0 : List am_Sh := [.inl 10, .inl 8, .inr (.int, 1600), .inr (.long, 18), .inl 4, .inr (.int, 4), .inr (.int, 6), .inr (.int, 6), .inr (.int, 6), .inr (.int, 6), .inl 2, .inr (.int, 300), .inr (.int, 300), .inr (.int, 300), .inl 5, .inr (.long, 4), .inr (.long, 6), .inl 4, .inr (.int, 4), .inr (.int, 6), .inr (.int, 6), .inr (.int, 6), .inr (.int, 6), .inl 2, .inr (.int, 300), .inr (.int, 300), .inr (.int, 300), .inl 6, .inr (.int, 8), .inr (.int, 8), .inr (.int, 8), .inr (.int, 8), .inr (.int, 8), .inr (.int, 8), .inr (.int, 8), .inl 9, .inl 6, .inr (.int, 8), .inr (.int, 8), .inr (.int, 8), .inr (.int, 8), .inr (.int, 8), .inr (.int, 8), .inr (.int, 8), .inl 0, .inr (.object RX7, 41), .inl 6, .inr (.int, 8), .inr (.int, 8), .inr (.int, 8)]
def am_SH_1 : List am_Sh := [.inr (.int, 8), .inr (.int, 8), .inr (.int, 8), .inr (.int, 8), .inl 6, .inr (.int, 8), .inr (.int, 8), .inr (.int, 8), .inr (.int, 8), .inr (.int, 8), .inr (.int, 8), .inr (.int, 8), .inl 6, .inr (.int, 8), .inr (.int, 8), .inr (.int, 8), .inr (.int, 8), .inr (.int, 8), .inr (.int, 8), .inr (.int, 8), .inl 6, .inr (.int, 8), .inr (.int, 8), .inr (.int, 8), .inr (.int, 8), .inr (.int, 8), .inr (.int, 8), .inr (.int, 8), .inl 6, .inr (.int, 8), .inr (.int, 8), .inr (.int, 8), .inr (.int, 8), .inr (.int, 8), .inr (.int, 8), .inr (.int, 8), .inl 6, .inr (.int, 8), .inr (.int, 8), .inr (.int, 8), .inr (.int, 8), .inr (.int, 8), .inr (.int, 8), .inr (.int, 8), .inl 6, .inr (.int, 8), .inr (.int, 8), .inr (.int, 8), .inr (.int, 8), .inr (.int, 8)]
def am_SH_2 : List am_Sh := [.inr (.int, 8), .inr (.int, 8), .inl 6, .inr (.int, 8), .inr (.int, 8), .inr (.int, 8), .inr (.int, 8), .inr (.int, 8), .inr (.int, 8), .inr (.int, 8), .inl 6, .inr (.int, 8), .inr (.int, 8), .inr (.int, 8), .inr (.int, 8), .inr (.int, 8), .inr (.int, 8), .inr (.int, 8), .inl 6, .inr (.int, 8), .inr (.int, 8), .inr (.int, 8), .inr (.int, 8), .inr (.int, 8), .inr (.int, 8), .inr (.int, 8), .inl 6, .inr (.int, 8), .inr (.int, 8), .inr (.int, 8), .inr (.int, 8), .inr (.int, 8), .inr (.int, 8), .inr (.int, 8), .inl 6, .inr (.int, 8), .inr (.int, 8), .inr (.int, 8), .inr (.int, 8), .inr (.int, 8), .inr (.int, 8), .inr (.int, 8), .inl 6, .inr (.int, 8), .inr (.int, 8), .inr (.int, 8), .inr (.int, 8), .inr (.int, 8), .inr (.int, 8), .inr (.int, 8)]
def am_SH_3 : List am_Sh := [.inl 6, .inr (.int, 8), .inr (.int, 8), .inr (.int, 8), .inr (.int, 8), .inr (.int, 8), .inr (.int, 8), .inr (.int, 8), .inl 6, .inr (.int, 8), .inr (.int, 8), .inr (.int, 8), .inr (.int, 8), .inr (.int, 8), .inr (.int, 8), .inr (.int, 8), .inl 6, .inr (.int, 8), .inr (.int, 8), .inr (.int, 8), .inr (.int, 8), .inr (.int, 8), .inr (.int, 8), .inr (.int, 8), .inl 6, .inr (.int, 8), .inr (.int, 8), .inr (.int, 8), .inr (.int, 8), .inr (.int, 8), .inr (.int, 8), .inr (.int, 8), .inl 6, .inr (.int, 8), .inr (.int, 8), .inr (.int, 8), .inr (.int, 8), .inr (.int, 8), .inr (.int, 8), .inr (.int, 8), .inl 6, .inr (.int, 8), .inr (.int, 8), .inr (.int, 8), .inr (.int, 8), .inr (.int, 8), .inr (.int, 8), .inr (.int, 8), .inl 6, .inr (.int, 8)]
def am_SH_4 : List am_Sh := [.inr (.int, 8), .inr (.int, 8), .inr (.int, 8), .inr (.int, 8), .inr (.int, 8), .inr (.int, 8), .inl 6, .inr (.int, 8), .inr (.int, 8), .inr (.int, 8), .inr (.int, 8), .inr (.int, 8), .inr (.int, 8), .inr (.int, 8), .inl 6, .inr (.int, 8), .inr (.int, 8), .inr (.int, 8), .inr (.int, 8), .inr (.int, 8), .inr (.int, 8), .inr (.int, 8), .inl 6, .inr (.int, 8), .inr (.int, 8), .inr (.int, 8), .inr (.int, 8), .inr (.int, 8), .inr (.int, 8), .inr (.int, 8), .inl 6, .inr (.int, 8), .inr (.int, 8), .inr (.int, 8), .inr (.int, 8), .inr (.int, 8), .inr (.int, 8), .inr (.int, 8), .inl 6, .inr (.int, 8), .inr (.int, 8), .inr (.int, 8), .inr (.int, 8), .inr (.int, 8), .inr (.int, 8), .inr (.int, 8), .inl 6, .inr (.int, 8), .inr (.int, 8), .inr (.int, 8)]
def am_SH_5 : List am_Sh := [.inr (.int, 8), .inr (.int, 8), .inr (.int, 8), .inr (.int, 8), .inl 6, .inr (.int, 8), .inr (.int, 8), .inr (.int, 8), .inr (.int, 8), .inr (.int, 8), .inr (.int, 8), .inr (.int, 8), .inl 6, .inr (.int, 8), .inr (.int, 8), .inr (.int, 8), .inr (.int, 8), .inr (.int, 8), .inr (.int, 8), .inr (.int, 8), .inl 6, .inr (.int, 8), .inr (.int, 8), .inr (.int, 8), .inr (.int, 8), .inr (.int, 8), .inr (.int, 8), .inr (.int, 8), .inl 6, .inr (.int, 8), .inr (.int, 8), .inr (.int, 8), .inr (.int, 8), .inr (.int, 8), .inr (.int, 8), .inr (.int, 8), .inl 6, .inr (.int, 8), .inr (.int, 8), .inr (.int, 8), .inr (.int, 8), .inr (.int, 8), .inr (.int, 8), .inr (.int, 8), .inl 6, .inr (.int, 8), .inr (.int, 8), .inr (.int, 8), .inr (.int, 8), .inr (.int, 8)]
def am_SH_6 : List am_Sh := [.inr (.int, 8), .inr (.int, 8), .inl 6, .inr (.int, 8), .inr (.int, 8), .inr (.int, 8), .inr (.int, 8), .inr (.int, 8), .inr (.int, 8), .inr (.int, 8), .inl 6, .inr (.int, 8), .inr (.int, 8), .inr (.int, 8), .inr (.int, 8), .inr (.int, 8), .inr (.int, 8), .inr (.int, 8), .inl 6, .inr (.int, 8), .inr (.int, 8), .inr (.int, 8), .inr (.int, 8), .inr (.int, 8), .inr (.int, 8), .inr (.int, 8), .inl 6, .inr (.int, 8), .inr (.int, 8), .inr (.int, 8), .inr (.int, 8), .inr (.int, 8), .inr (.int, 8), .inr (.int, 8), .inl 6, .inr (.int, 8), .inr (.int, 8), .inr (.int, 8), .inr (.int, 8), .inr (.int, 8), .inr (.int, 8), .inr (.int, 8), .inl 6, .inr (.int, 8), .inr (.int, 8), .inr (.int, 8), .inr (.int, 8), .inr (.int, 8), .inr (.int, 8), .inr (.int, 8)]
def am_SH_7 : List am_Sh := [.inl 6, .inr (.int, 8), .inr (.int, 8), .inr (.int, 8), .inr (.int, 8), .inr (.int, 8), .inr (.int, 8), .inr (.int, 8), .inl 6, .inr (.int, 8), .inr (.int, 8), .inr (.int, 8), .inr (.int, 8), .inr (.int, 8), .inr (.int, 8), .inr (.int, 8), .inl 6, .inr (.int, 8), .inr (.int, 8), .inr (.int, 8), .inr (.int, 8), .inr (.int, 8), .inr (.int, 8), .inr (.int, 8), .inl 1, .inr (.object RX7, 3), .inr (.boolean, 3), .inl 6, .inr (.int, 8), .inr (.int, 8), .inr (.int, 8), .inr (.int, 8), .inr (.int, 8), .inr (.int, 8), .inr (.int, 8), .inl 6, .inr (.int, 8), .inr (.int, 8), .inr (.int, 8), .inr (.int, 8), .inr (.int, 8), .inr (.int, 8), .inr (.int, 8), .inl 6, .inr (.int, 8), .inr (.int, 8), .inr (.int, 8), .inr (.int, 8), .inr (.int, 8), .inr (.int, 8)]
def am_SH_8 : List am_Sh := [.inr (.int, 8), .inl 7, .inr (.int, 4), .inr (.int, 8), .inl 3, .inr (.int, 30), .inr (.int, 30), .inr (.boolean, 30), .inr (.int, 30), .inr (.int, 30), .inr (.boolean, 30), .inr (.int, 7), .inr (.int, 8), .inl 11, .inr (.byte, 1620), .inr (.byte, 1600), .inr (.int, 2), .inr (.int, 2), .inr (.int, 2), .inr (.int, 2), .inr (.int, 2), .inr (.int, 2), .inr (.int, 2), .inr (.int, 8), .inr (.int, 12), .inr (.int, 12), .inr (.int, 12), .inr (.int, 12), .inr (.int, 2), .inr (.int, 2), .inr (.long, 8), .inr (.long, 12), .inr (.int, 1120), .inr (.int, 1120), .inr (.int, 90), .inr (.int, 90), .inr (.int, 60), .inr (.int, 59), .inr (.int, 59), .inr (.int, 2419), .inr (.int, 8), .inr (.int, 30), .inr (.int, 30), .inr (.int, 30), .inr (.int, 30), .inr (.int, 30), .inr (.int, 7), .inr (.boolean, 64), .inr (.int, 177), .inr (.boolean, 3)]
def am_SH : List am_Sh := am_SH_0 ++ (am_SH_1 ++ (am_SH_2 ++ (am_SH_3 ++ (am_SH_4 ++ (am_SH_5 ++ (am_SH_6 ++ (am_SH_7 ++ (am_SH_8))))))))
/-- the numbers of the State objects -/
def am_ST : List Nat := [27, 36, 46, 54, 62, 70, 78, 86, 94, 102, 110, 118, 126, 134, 142, 150, 158, 166, 174, 182, 190, 198, 206, 214, 222, 230, 238, 246, 254, 262, 270, 278, 286, 294, 302, 310, 318, 326, 334, 342, 350, 358, 366, 377, 385, 393]
/-- where the references of all objects but the States and Acts.kept go -/
def am_R0 : List (Nat × Nat × Nat) := [(0, 0, 1), (0, 1, 4), (0, 2, 14), (0, 3, 27), (0, 4, 35), (0, 5, 44), (0, 6, 374), (0, 7, 401), (0, 8, 404), (0, 9, 412), (1, 0, 2), (1, 1, 3), (4, 0, 5), (4, 1, 6), (4, 2, 7), (4, 3, 8), (4, 4, 9), (4, 5, 10), (10, 0, 11), (10, 1, 12), (10, 2, 13), (14, 0, 1), (14, 1, 15), (14, 2, 16), (14, 5, 17), (17, 0, 18), (17, 1, 19), (17, 2, 20), (17, 3, 21), (17, 4, 22), (17, 5, 23), (23, 0, 24), (23, 1, 25), (23, 2, 26), (35, 0, 4), (35, 1, 36), (44, 0, 45), (374, 0, 375), (374, 1, 376), (375, 0, 377), (375, 1, 385), (375, 2, 393), (401, 0, 4), (401, 1, 402), (401, 2, 403), (404, 0, 4), (404, 1, 405), (404, 2, 406), (404, 3, 407), (404, 4, 408), (404, 5, 409), (404, 6, 410), (404, 7, 411), (413, 0, 414), (413, 1, 415), (413, 11, 416), (413, 12, 417), (413, 13, 418), (413, 14, 419), (413, 15, 420), (413, 16, 421), (413, 17, 422), (413, 18, 423), (413, 19, 424), (413, 20, 425), (413, 21, 426), (413, 22, 427), (413, 23, 428), (413, 24, 429), (413, 25, 430), (413, 26, 431), (413, 27, 432), (413, 28, 433), (413, 29, 434), (413, 30, 435), (413, 31, 436), (413, 40, 437), (413, 41, 438), (413, 43, 439), (413, 46, 440), (413, 48, 441), (413, 49, 442), (413, 50, 443), (413, 51, 444), (413, 52, 445), (413, 53, 446), (413, 54, 447), (413, 58, 448), (413, 59, 449)]
/-- the references: as the constructors left them, but that Acts.kept may hold its States in another order -/
def am_TP (R : Nat → Nat → Option Nat) : Prop := (∀ q ∈ am_R0, R q.1 q.2.1 = some q.2.2) ∧ (∀ s ∈ am_ST, R s 0 = some 4 ∧ R s 1 = some (s + 1) ∧ R s 2 = some (s + 2) ∧ R s 3 = some (s + 3) ∧ R s 4 = some (s + 4) ∧ R s 5 = some (s + 5) ∧ R s 6 = some (s + 6) ∧ R s 7 = some (s + 7)) ∧ (∀ i, i < 41 → ∃ s, R 45 i = some s ∧ s ∈ am_ST)
theorem tp_0_0 {R : Nat → Nat → Option Nat} (h : am_TP R) : R 0 0 = some 1 := h.1 (0, 0, 1) (List.mem_of_getElem? (i := 0) rfl)
theorem tp_0_1 {R : Nat → Nat → Option Nat} (h : am_TP R) : R 0 1 = some 4 := h.1 (0, 1, 4) (List.mem_of_getElem? (i := 1) rfl)
theorem tp_0_2 {R : Nat → Nat → Option Nat} (h : am_TP R) : R 0 2 = some 14 := h.1 (0, 2, 14) (List.mem_of_getElem? (i := 2) rfl)
theorem tp_0_3 {R : Nat → Nat → Option Nat} (h : am_TP R) : R 0 3 = some 27 := h.1 (0, 3, 27) (List.mem_of_getElem? (i := 3) rfl)
theorem tp_0_4 {R : Nat → Nat → Option Nat} (h : am_TP R) : R 0 4 = some 35 := h.1 (0, 4, 35) (List.mem_of_getElem? (i := 4) rfl)
theorem tp_0_5 {R : Nat → Nat → Option Nat} (h : am_TP R) : R 0 5 = some 44 := h.1 (0, 5, 44) (List.mem_of_getElem? (i := 5) rfl)
theorem tp_0_6 {R : Nat → Nat → Option Nat} (h : am_TP R) : R 0 6 = some 374 := h.1 (0, 6, 374) (List.mem_of_getElem? (i := 6) rfl)
theorem tp_0_7 {R : Nat → Nat → Option Nat} (h : am_TP R) : R 0 7 = some 401 := h.1 (0, 7, 401) (List.mem_of_getElem? (i := 7) rfl)
theorem tp_0_8 {R : Nat → Nat → Option Nat} (h : am_TP R) : R 0 8 = some 404 := h.1 (0, 8, 404) (List.mem_of_getElem? (i := 8) rfl)
theorem tp_0_9 {R : Nat → Nat → Option Nat} (h : am_TP R) : R 0 9 = some 412 := h.1 (0, 9, 412) (List.mem_of_getElem? (i := 9) rfl)
theorem tp_1_0 {R : Nat → Nat → Option Nat} (h : am_TP R) : R 1 0 = some 2 := h.1 (1, 0, 2) (List.mem_of_getElem? (i := 10) rfl)
theorem tp_1_1 {R : Nat → Nat → Option Nat} (h : am_TP R) : R 1 1 = some 3 := h.1 (1, 1, 3) (List.mem_of_getElem? (i := 11) rfl)
theorem tp_4_0 {R : Nat → Nat → Option Nat} (h : am_TP R) : R 4 0 = some 5 := h.1 (4, 0, 5) (List.mem_of_getElem? (i := 12) rfl)
theorem tp_4_1 {R : Nat → Nat → Option Nat} (h : am_TP R) : R 4 1 = some 6 := h.1 (4, 1, 6) (List.mem_of_getElem? (i := 13) rfl)
theorem tp_4_2 {R : Nat → Nat → Option Nat} (h : am_TP R) : R 4 2 = some 7 := h.1 (4, 2, 7) (List.mem_of_getElem? (i := 14) rfl)
theorem tp_4_3 {R : Nat → Nat → Option Nat} (h : am_TP R) : R 4 3 = some 8 := h.1 (4, 3, 8) (List.mem_of_getElem? (i := 15) rfl)
theorem tp_4_4 {R : Nat → Nat → Option Nat} (h : am_TP R) : R 4 4 = some 9 := h.1 (4, 4, 9) (List.mem_of_getElem? (i := 16) rfl)
theorem tp_4_5 {R : Nat → Nat → Option Nat} (h : am_TP R) : R 4 5 = some 10 := h.1 (4, 5, 10) (List.mem_of_getElem? (i := 17) rfl)
theorem tp_10_0 {R : Nat → Nat → Option Nat} (h : am_TP R) : R 10 0 = some 11 := h.1 (10, 0, 11) (List.mem_of_getElem? (i := 18) rfl)
theorem tp_10_1 {R : Nat → Nat → Option Nat} (h : am_TP R) : R 10 1 = some 12 := h.1 (10, 1, 12) (List.mem_of_getElem? (i := 19) rfl)
theorem tp_10_2 {R : Nat → Nat → Option Nat} (h : am_TP R) : R 10 2 = some 13 := h.1 (10, 2, 13) (List.mem_of_getElem? (i := 20) rfl)
theorem tp_14_0 {R : Nat → Nat → Option Nat} (h : am_TP R) : R 14 0 = some 1 := h.1 (14, 0, 1) (List.mem_of_getElem? (i := 21) rfl)
theorem tp_14_1 {R : Nat → Nat → Option Nat} (h : am_TP R) : R 14 1 = some 15 := h.1 (14, 1, 15) (List.mem_of_getElem? (i := 22) rfl)
theorem tp_14_2 {R : Nat → Nat → Option Nat} (h : am_TP R) : R 14 2 = some 16 := h.1 (14, 2, 16) (List.mem_of_getElem? (i := 23) rfl)
theorem tp_14_5 {R : Nat → Nat → Option Nat} (h : am_TP R) : R 14 5 = some 17 := h.1 (14, 5, 17) (List.mem_of_getElem? (i := 24) rfl)
theorem tp_17_0 {R : Nat → Nat → Option Nat} (h : am_TP R) : R 17 0 = some 18 := h.1 (17, 0, 18) (List.mem_of_getElem? (i := 25) rfl)
theorem tp_17_1 {R : Nat → Nat → Option Nat} (h : am_TP R) : R 17 1 = some 19 := h.1 (17, 1, 19) (List.mem_of_getElem? (i := 26) rfl)
theorem tp_17_2 {R : Nat → Nat → Option Nat} (h : am_TP R) : R 17 2 = some 20 := h.1 (17, 2, 20) (List.mem_of_getElem? (i := 27) rfl)
theorem tp_17_3 {R : Nat → Nat → Option Nat} (h : am_TP R) : R 17 3 = some 21 := h.1 (17, 3, 21) (List.mem_of_getElem? (i := 28) rfl)
theorem tp_17_4 {R : Nat → Nat → Option Nat} (h : am_TP R) : R 17 4 = some 22 := h.1 (17, 4, 22) (List.mem_of_getElem? (i := 29) rfl)
theorem tp_17_5 {R : Nat → Nat → Option Nat} (h : am_TP R) : R 17 5 = some 23 := h.1 (17, 5, 23) (List.mem_of_getElem? (i := 30) rfl)
theorem tp_23_0 {R : Nat → Nat → Option Nat} (h : am_TP R) : R 23 0 = some 24 := h.1 (23, 0, 24) (List.mem_of_getElem? (i := 31) rfl)
theorem tp_23_1 {R : Nat → Nat → Option Nat} (h : am_TP R) : R 23 1 = some 25 := h.1 (23, 1, 25) (List.mem_of_getElem? (i := 32) rfl)
theorem tp_23_2 {R : Nat → Nat → Option Nat} (h : am_TP R) : R 23 2 = some 26 := h.1 (23, 2, 26) (List.mem_of_getElem? (i := 33) rfl)
theorem tp_35_0 {R : Nat → Nat → Option Nat} (h : am_TP R) : R 35 0 = some 4 := h.1 (35, 0, 4) (List.mem_of_getElem? (i := 34) rfl)
theorem tp_35_1 {R : Nat → Nat → Option Nat} (h : am_TP R) : R 35 1 = some 36 := h.1 (35, 1, 36) (List.mem_of_getElem? (i := 35) rfl)
theorem tp_44_0 {R : Nat → Nat → Option Nat} (h : am_TP R) : R 44 0 = some 45 := h.1 (44, 0, 45) (List.mem_of_getElem? (i := 36) rfl)
theorem tp_374_0 {R : Nat → Nat → Option Nat} (h : am_TP R) : R 374 0 = some 375 := h.1 (374, 0, 375) (List.mem_of_getElem? (i := 37) rfl)
theorem tp_374_1 {R : Nat → Nat → Option Nat} (h : am_TP R) : R 374 1 = some 376 := h.1 (374, 1, 376) (List.mem_of_getElem? (i := 38) rfl)
theorem tp_375_0 {R : Nat → Nat → Option Nat} (h : am_TP R) : R 375 0 = some 377 := h.1 (375, 0, 377) (List.mem_of_getElem? (i := 39) rfl)
theorem tp_375_1 {R : Nat → Nat → Option Nat} (h : am_TP R) : R 375 1 = some 385 := h.1 (375, 1, 385) (List.mem_of_getElem? (i := 40) rfl)
theorem tp_375_2 {R : Nat → Nat → Option Nat} (h : am_TP R) : R 375 2 = some 393 := h.1 (375, 2, 393) (List.mem_of_getElem? (i := 41) rfl)
theorem tp_401_0 {R : Nat → Nat → Option Nat} (h : am_TP R) : R 401 0 = some 4 := h.1 (401, 0, 4) (List.mem_of_getElem? (i := 42) rfl)
theorem tp_401_1 {R : Nat → Nat → Option Nat} (h : am_TP R) : R 401 1 = some 402 := h.1 (401, 1, 402) (List.mem_of_getElem? (i := 43) rfl)
theorem tp_401_2 {R : Nat → Nat → Option Nat} (h : am_TP R) : R 401 2 = some 403 := h.1 (401, 2, 403) (List.mem_of_getElem? (i := 44) rfl)
theorem tp_404_0 {R : Nat → Nat → Option Nat} (h : am_TP R) : R 404 0 = some 4 := h.1 (404, 0, 4) (List.mem_of_getElem? (i := 45) rfl)
theorem tp_404_1 {R : Nat → Nat → Option Nat} (h : am_TP R) : R 404 1 = some 405 := h.1 (404, 1, 405) (List.mem_of_getElem? (i := 46) rfl)
theorem tp_404_2 {R : Nat → Nat → Option Nat} (h : am_TP R) : R 404 2 = some 406 := h.1 (404, 2, 406) (List.mem_of_getElem? (i := 47) rfl)
theorem tp_404_3 {R : Nat → Nat → Option Nat} (h : am_TP R) : R 404 3 = some 407 := h.1 (404, 3, 407) (List.mem_of_getElem? (i := 48) rfl)
theorem tp_404_4 {R : Nat → Nat → Option Nat} (h : am_TP R) : R 404 4 = some 408 := h.1 (404, 4, 408) (List.mem_of_getElem? (i := 49) rfl)
theorem tp_404_5 {R : Nat → Nat → Option Nat} (h : am_TP R) : R 404 5 = some 409 := h.1 (404, 5, 409) (List.mem_of_getElem? (i := 50) rfl)
theorem tp_404_6 {R : Nat → Nat → Option Nat} (h : am_TP R) : R 404 6 = some 410 := h.1 (404, 6, 410) (List.mem_of_getElem? (i := 51) rfl)
theorem tp_404_7 {R : Nat → Nat → Option Nat} (h : am_TP R) : R 404 7 = some 411 := h.1 (404, 7, 411) (List.mem_of_getElem? (i := 52) rfl)
theorem tp_413_0 {R : Nat → Nat → Option Nat} (h : am_TP R) : R 413 0 = some 414 := h.1 (413, 0, 414) (List.mem_of_getElem? (i := 53) rfl)
theorem tp_413_1 {R : Nat → Nat → Option Nat} (h : am_TP R) : R 413 1 = some 415 := h.1 (413, 1, 415) (List.mem_of_getElem? (i := 54) rfl)
theorem tp_413_11 {R : Nat → Nat → Option Nat} (h : am_TP R) : R 413 11 = some 416 := h.1 (413, 11, 416) (List.mem_of_getElem? (i := 55) rfl)
theorem tp_413_12 {R : Nat → Nat → Option Nat} (h : am_TP R) : R 413 12 = some 417 := h.1 (413, 12, 417) (List.mem_of_getElem? (i := 56) rfl)
theorem tp_413_13 {R : Nat → Nat → Option Nat} (h : am_TP R) : R 413 13 = some 418 := h.1 (413, 13, 418) (List.mem_of_getElem? (i := 57) rfl)
theorem tp_413_14 {R : Nat → Nat → Option Nat} (h : am_TP R) : R 413 14 = some 419 := h.1 (413, 14, 419) (List.mem_of_getElem? (i := 58) rfl)
theorem tp_413_15 {R : Nat → Nat → Option Nat} (h : am_TP R) : R 413 15 = some 420 := h.1 (413, 15, 420) (List.mem_of_getElem? (i := 59) rfl)
theorem tp_413_16 {R : Nat → Nat → Option Nat} (h : am_TP R) : R 413 16 = some 421 := h.1 (413, 16, 421) (List.mem_of_getElem? (i := 60) rfl)
theorem tp_413_17 {R : Nat → Nat → Option Nat} (h : am_TP R) : R 413 17 = some 422 := h.1 (413, 17, 422) (List.mem_of_getElem? (i := 61) rfl)
theorem tp_413_18 {R : Nat → Nat → Option Nat} (h : am_TP R) : R 413 18 = some 423 := h.1 (413, 18, 423) (List.mem_of_getElem? (i := 62) rfl)
theorem tp_413_19 {R : Nat → Nat → Option Nat} (h : am_TP R) : R 413 19 = some 424 := h.1 (413, 19, 424) (List.mem_of_getElem? (i := 63) rfl)
theorem tp_413_20 {R : Nat → Nat → Option Nat} (h : am_TP R) : R 413 20 = some 425 := h.1 (413, 20, 425) (List.mem_of_getElem? (i := 64) rfl)
theorem tp_413_21 {R : Nat → Nat → Option Nat} (h : am_TP R) : R 413 21 = some 426 := h.1 (413, 21, 426) (List.mem_of_getElem? (i := 65) rfl)
theorem tp_413_22 {R : Nat → Nat → Option Nat} (h : am_TP R) : R 413 22 = some 427 := h.1 (413, 22, 427) (List.mem_of_getElem? (i := 66) rfl)
theorem tp_413_23 {R : Nat → Nat → Option Nat} (h : am_TP R) : R 413 23 = some 428 := h.1 (413, 23, 428) (List.mem_of_getElem? (i := 67) rfl)
theorem tp_413_24 {R : Nat → Nat → Option Nat} (h : am_TP R) : R 413 24 = some 429 := h.1 (413, 24, 429) (List.mem_of_getElem? (i := 68) rfl)
theorem tp_413_25 {R : Nat → Nat → Option Nat} (h : am_TP R) : R 413 25 = some 430 := h.1 (413, 25, 430) (List.mem_of_getElem? (i := 69) rfl)
theorem tp_413_26 {R : Nat → Nat → Option Nat} (h : am_TP R) : R 413 26 = some 431 := h.1 (413, 26, 431) (List.mem_of_getElem? (i := 70) rfl)
theorem tp_413_27 {R : Nat → Nat → Option Nat} (h : am_TP R) : R 413 27 = some 432 := h.1 (413, 27, 432) (List.mem_of_getElem? (i := 71) rfl)
theorem tp_413_28 {R : Nat → Nat → Option Nat} (h : am_TP R) : R 413 28 = some 433 := h.1 (413, 28, 433) (List.mem_of_getElem? (i := 72) rfl)
theorem tp_413_29 {R : Nat → Nat → Option Nat} (h : am_TP R) : R 413 29 = some 434 := h.1 (413, 29, 434) (List.mem_of_getElem? (i := 73) rfl)
theorem tp_413_30 {R : Nat → Nat → Option Nat} (h : am_TP R) : R 413 30 = some 435 := h.1 (413, 30, 435) (List.mem_of_getElem? (i := 74) rfl)
theorem tp_413_31 {R : Nat → Nat → Option Nat} (h : am_TP R) : R 413 31 = some 436 := h.1 (413, 31, 436) (List.mem_of_getElem? (i := 75) rfl)
theorem tp_413_40 {R : Nat → Nat → Option Nat} (h : am_TP R) : R 413 40 = some 437 := h.1 (413, 40, 437) (List.mem_of_getElem? (i := 76) rfl)
theorem tp_413_41 {R : Nat → Nat → Option Nat} (h : am_TP R) : R 413 41 = some 438 := h.1 (413, 41, 438) (List.mem_of_getElem? (i := 77) rfl)
theorem tp_413_43 {R : Nat → Nat → Option Nat} (h : am_TP R) : R 413 43 = some 439 := h.1 (413, 43, 439) (List.mem_of_getElem? (i := 78) rfl)
theorem tp_413_46 {R : Nat → Nat → Option Nat} (h : am_TP R) : R 413 46 = some 440 := h.1 (413, 46, 440) (List.mem_of_getElem? (i := 79) rfl)
theorem tp_413_48 {R : Nat → Nat → Option Nat} (h : am_TP R) : R 413 48 = some 441 := h.1 (413, 48, 441) (List.mem_of_getElem? (i := 80) rfl)
theorem tp_413_49 {R : Nat → Nat → Option Nat} (h : am_TP R) : R 413 49 = some 442 := h.1 (413, 49, 442) (List.mem_of_getElem? (i := 81) rfl)
theorem tp_413_50 {R : Nat → Nat → Option Nat} (h : am_TP R) : R 413 50 = some 443 := h.1 (413, 50, 443) (List.mem_of_getElem? (i := 82) rfl)
theorem tp_413_51 {R : Nat → Nat → Option Nat} (h : am_TP R) : R 413 51 = some 444 := h.1 (413, 51, 444) (List.mem_of_getElem? (i := 83) rfl)
theorem tp_413_52 {R : Nat → Nat → Option Nat} (h : am_TP R) : R 413 52 = some 445 := h.1 (413, 52, 445) (List.mem_of_getElem? (i := 84) rfl)
theorem tp_413_53 {R : Nat → Nat → Option Nat} (h : am_TP R) : R 413 53 = some 446 := h.1 (413, 53, 446) (List.mem_of_getElem? (i := 85) rfl)
theorem tp_413_54 {R : Nat → Nat → Option Nat} (h : am_TP R) : R 413 54 = some 447 := h.1 (413, 54, 447) (List.mem_of_getElem? (i := 86) rfl)
theorem tp_413_58 {R : Nat → Nat → Option Nat} (h : am_TP R) : R 413 58 = some 448 := h.1 (413, 58, 448) (List.mem_of_getElem? (i := 87) rfl)
theorem tp_413_59 {R : Nat → Nat → Option Nat} (h : am_TP R) : R 413 59 = some 449 := h.1 (413, 59, 449) (List.mem_of_getElem? (i := 88) rfl)
theorem tp_S_0 {R : Nat → Nat → Option Nat} (h : am_TP R) {s : Nat} (hs : s ∈ am_ST) : R s 0 = some 4 := (h.2.1 s hs).1
theorem tp_S_1 {R : Nat → Nat → Option Nat} (h : am_TP R) {s : Nat} (hs : s ∈ am_ST) : R s 1 = some (s + 1) := (h.2.1 s hs).2.1
theorem tp_S_2 {R : Nat → Nat → Option Nat} (h : am_TP R) {s : Nat} (hs : s ∈ am_ST) : R s 2 = some (s + 2) := (h.2.1 s hs).2.2.1
theorem tp_S_3 {R : Nat → Nat → Option Nat} (h : am_TP R) {s : Nat} (hs : s ∈ am_ST) : R s 3 = some (s + 3) := (h.2.1 s hs).2.2.2.1
theorem tp_S_4 {R : Nat → Nat → Option Nat} (h : am_TP R) {s : Nat} (hs : s ∈ am_ST) : R s 4 = some (s + 4) := (h.2.1 s hs).2.2.2.2.1
theorem tp_S_5 {R : Nat → Nat → Option Nat} (h : am_TP R) {s : Nat} (hs : s ∈ am_ST) : R s 5 = some (s + 5) := (h.2.1 s hs).2.2.2.2.2.1
theorem tp_S_6 {R : Nat → Nat → Option Nat} (h : am_TP R) {s : Nat} (hs : s ∈ am_ST) : R s 6 = some (s + 6) := (h.2.1 s hs).2.2.2.2.2.2.1
theorem tp_S_7 {R : Nat → Nat → Option Nat} (h : am_TP R) {s : Nat} (hs : s ∈ am_ST) : R s 7 = some (s + 7) := (h.2.1 s hs).2.2.2.2.2.2.2
theorem sh_0 : am_SH[0]? = some (.inl 10) := by decide +kernel
theorem sh_1 : am_SH[1]? = some (.inl 8) := by decide +kernel
theorem sh_2 : am_SH[2]? = some (.inr (.int, 1600)) := by decide +kernel
theorem sh_3 : am_SH[3]? = some (.inr (.long, 18)) := by decide +kernel
theorem sh_4 : am_SH[4]? = some (.inl 4) := by decide +kernel
theorem sh_5 : am_SH[5]? = some (.inr (.int, 4)) := by decide +kernel
theorem sh_6 : am_SH[6]? = some (.inr (.int, 6)) := by decide +kernel
theorem sh_7 : am_SH[7]? = some (.inr (.int, 6)) := by decide +kernel
theorem sh_8 : am_SH[8]? = some (.inr (.int, 6)) := by decide +kernel
theorem sh_9 : am_SH[9]? = some (.inr (.int, 6)) := by decide +kernel
theorem sh_10 : am_SH[10]? = some (.inl 2) := by decide +kernel
theorem sh_11 : am_SH[11]? = some (.inr (.int, 300)) := by decide +kernel
theorem sh_12 : am_SH[12]? = some (.inr (.int, 300)) := by decide +kernel
theorem sh_13 : am_SH[13]? = some (.inr (.int, 300)) := by decide +kernel
theorem sh_14 : am_SH[14]? = some (.inl 5) := by decide +kernel
theorem sh_15 : am_SH[15]? = some (.inr (.long, 4)) := by decide +kernel
theorem sh_16 : am_SH[16]? = some (.inr (.long, 6)) := by decide +kernel
theorem sh_17 : am_SH[17]? = some (.inl 4) := by decide +kernel
theorem sh_18 : am_SH[18]? = some (.inr (.int, 4)) := by decide +kernel
theorem sh_19 : am_SH[19]? = some (.inr (.int, 6)) := by decide +kernel
theorem sh_20 : am_SH[20]? = some (.inr (.int, 6)) := by decide +kernel
theorem sh_21 : am_SH[21]? = some (.inr (.int, 6)) := by decide +kernel
theorem sh_22 : am_SH[22]? = some (.inr (.int, 6)) := by decide +kernel
theorem sh_23 : am_SH[23]? = some (.inl 2) := by decide +kernel
theorem sh_24 : am_SH[24]? = some (.inr (.int, 300)) := by decide +kernel
theorem sh_25 : am_SH[25]? = some (.inr (.int, 300)) := by decide +kernel
theorem sh_26 : am_SH[26]? = some (.inr (.int, 300)) := by decide +kernel
theorem sh_35 : am_SH[35]? = some (.inl 9) := by decide +kernel
theorem sh_44 : am_SH[44]? = some (.inl 0) := by decide +kernel
theorem sh_45 : am_SH[45]? = some (.inr (.object RX7, 41)) := by decide +kernel
theorem sh_374 : am_SH[374]? = some (.inl 1) := by decide +kernel
theorem sh_375 : am_SH[375]? = some (.inr (.object RX7, 3)) := by decide +kernel
theorem sh_376 : am_SH[376]? = some (.inr (.boolean, 3)) := by decide +kernel
theorem sh_401 : am_SH[401]? = some (.inl 7) := by decide +kernel
theorem sh_402 : am_SH[402]? = some (.inr (.int, 4)) := by decide +kernel
theorem sh_403 : am_SH[403]? = some (.inr (.int, 8)) := by decide +kernel
theorem sh_404 : am_SH[404]? = some (.inl 3) := by decide +kernel
theorem sh_405 : am_SH[405]? = some (.inr (.int, 30)) := by decide +kernel
theorem sh_406 : am_SH[406]? = some (.inr (.int, 30)) := by decide +kernel
theorem sh_407 : am_SH[407]? = some (.inr (.boolean, 30)) := by decide +kernel
theorem sh_408 : am_SH[408]? = some (.inr (.int, 30)) := by decide +kernel
theorem sh_409 : am_SH[409]? = some (.inr (.int, 30)) := by decide +kernel
theorem sh_410 : am_SH[410]? = some (.inr (.boolean, 30)) := by decide +kernel
theorem sh_411 : am_SH[411]? = some (.inr (.int, 7)) := by decide +kernel
theorem sh_412 : am_SH[412]? = some (.inr (.int, 8)) := by decide +kernel
theorem sh_413 : am_SH[413]? = some (.inl 11) := by decide +kernel
theorem sh_414 : am_SH[414]? = some (.inr (.byte, 1620)) := by decide +kernel
theorem sh_415 : am_SH[415]? = some (.inr (.byte, 1600)) := by decide +kernel
theorem sh_416 : am_SH[416]? = some (.inr (.int, 2)) := by decide +kernel
theorem sh_417 : am_SH[417]? = some (.inr (.int, 2)) := by decide +kernel
theorem sh_418 : am_SH[418]? = some (.inr (.int, 2)) := by decide +kernel
theorem sh_419 : am_SH[419]? = some (.inr (.int, 2)) := by decide +kernel
theorem sh_420 : am_SH[420]? = some (.inr (.int, 2)) := by decide +kernel
theorem sh_421 : am_SH[421]? = some (.inr (.int, 2)) := by decide +kernel
theorem sh_422 : am_SH[422]? = some (.inr (.int, 2)) := by decide +kernel
theorem sh_423 : am_SH[423]? = some (.inr (.int, 8)) := by decide +kernel
theorem sh_424 : am_SH[424]? = some (.inr (.int, 12)) := by decide +kernel
theorem sh_425 : am_SH[425]? = some (.inr (.int, 12)) := by decide +kernel
theorem sh_426 : am_SH[426]? = some (.inr (.int, 12)) := by decide +kernel
theorem sh_427 : am_SH[427]? = some (.inr (.int, 12)) := by decide +kernel
theorem sh_428 : am_SH[428]? = some (.inr (.int, 2)) := by decide +kernel
theorem sh_429 : am_SH[429]? = some (.inr (.int, 2)) := by decide +kernel
theorem sh_430 : am_SH[430]? = some (.inr (.long, 8)) := by decide +kernel
theorem sh_431 : am_SH[431]? = some (.inr (.long, 12)) := by decide +kernel
theorem sh_432 : am_SH[432]? = some (.inr (.int, 1120)) := by decide +kernel
theorem sh_433 : am_SH[433]? = some (.inr (.int, 1120)) := by decide +kernel
theorem sh_434 : am_SH[434]? = some (.inr (.int, 90)) := by decide +kernel
theorem sh_435 : am_SH[435]? = some (.inr (.int, 90)) := by decide +kernel
theorem sh_436 : am_SH[436]? = some (.inr (.int, 60)) := by decide +kernel
theorem sh_437 : am_SH[437]? = some (.inr (.int, 59)) := by decide +kernel
theorem sh_438 : am_SH[438]? = some (.inr (.int, 59)) := by decide +kernel
theorem sh_439 : am_SH[439]? = some (.inr (.int, 2419)) := by decide +kernel
theorem sh_440 : am_SH[440]? = some (.inr (.int, 8)) := by decide +kernel
theorem sh_441 : am_SH[441]? = some (.inr (.int, 30)) := by decide +kernel
theorem sh_442 : am_SH[442]? = some (.inr (.int, 30)) := by decide +kernel
theorem sh_443 : am_SH[443]? = some (.inr (.int, 30)) := by decide +kernel
theorem sh_444 : am_SH[444]? = some (.inr (.int, 30)) := by decide +kernel
theorem sh_445 : am_SH[445]? = some (.inr (.int, 30)) := by decide +kernel
theorem sh_446 : am_SH[446]? = some (.inr (.int, 7)) := by decide +kernel
theorem sh_447 : am_SH[447]? = some (.inr (.boolean, 64)) := by decide +kernel
theorem sh_448 : am_SH[448]? = some (.inr (.int, 177)) := by decide +kernel
theorem sh_449 : am_SH[449]? = some (.inr (.boolean, 3)) := by decide +kernel
theorem sh_S_all : ∀ s ∈ am_ST, am_SH[s]? = some (.inl 6) ∧ ∀ k, k < 7 → am_SH[s + (k + 1)]? = some (.inr (.int, 8)) := by decide +kernel
theorem sh_S {s : Nat} (hs : s ∈ am_ST) : am_SH[s]? = some (.inl 6) := (sh_S_all s hs).1
theorem sh_S_1 {s : Nat} (hs : s ∈ am_ST) : am_SH[s + 1]? = some (.inr (.int, 8)) := (sh_S_all s hs).2 0 (by decide)
theorem sh_S_2 {s : Nat} (hs : s ∈ am_ST) : am_SH[s + 2]? = some (.inr (.int, 8)) := (sh_S_all s hs).2 1 (by decide)
theorem sh_S_3 {s : Nat} (hs : s ∈ am_ST) : am_SH[s + 3]? = some (.inr (.int, 8)) := (sh_S_all s hs).2 2 (by decide)
theorem sh_S_4 {s : Nat} (hs : s ∈ am_ST) : am_SH[s + 4]? = some (.inr (.int, 8)) := (sh_S_all s hs).2 3 (by decide)
theorem sh_S_5 {s : Nat} (hs : s ∈ am_ST) : am_SH[s + 5]? = some (.inr (.int, 8)) := (sh_S_all s hs).2 4 (by decide)
theorem sh_S_6 {s : Nat} (hs : s ∈ am_ST) : am_SH[s + 6]? = some (.inr (.int, 8)) := (sh_S_all s hs).2 5 (by decide)
theorem sh_S_7 {s : Nat} (hs : s ∈ am_ST) : am_SH[s + 7]? = some (.inr (.int, 8)) := (sh_S_all s hs).2 6 (by decide)
theorem st_27 : 27 ∈ am_ST := by decide
theorem st_36 : 36 ∈ am_ST := by decide
theorem fl_0_11 : am_fl 0 11 = some (0, 0) := rfl
theorem fl_0_17 : am_fl 0 17 = some (0, 1) := rfl
theorem fl_0_21 : am_fl 0 21 = some (0, 2) := rfl
theorem fl_1_11 : am_fl 1 11 = some (1, 0) := rfl
theorem fl_1_17 : am_fl 1 17 = some (1, 1) := rfl
theorem fl_2_9 : am_fl 2 9 = some (2, 0) := rfl
theorem fl_2_15 : am_fl 2 15 = some (2, 1) := rfl
theorem fl_2_18 : am_fl 2 18 = some (2, 2) := rfl
theorem fl_2_21 : am_fl 2 21 = some (2, 3) := rfl
theorem fl_2_25 : am_fl 2 25 = some (2, 4) := rfl
theorem fl_3_9 : am_fl 3 9 = some (3, 1) := rfl
theorem fl_3_15 : am_fl 3 15 = some (3, 2) := rfl
theorem fl_3_18 : am_fl 3 18 = some (3, 3) := rfl
theorem fl_3_22 : am_fl 3 22 = some (3, 4) := rfl
theorem fl_3_25 : am_fl 3 25 = some (3, 5) := rfl
theorem fl_3_28 : am_fl 3 28 = some (3, 6) := rfl
theorem fl_3_31 : am_fl 3 31 = some (3, 7) := rfl
theorem fl_3_34 : am_fl 3 34 = some (3, 8) := rfl
theorem fl_3_38 : am_fl 3 38 = some (3, 9) := rfl
theorem fl_3_41 : am_fl 3 41 = some (3, 0) := rfl
theorem fl_3_49 : am_fl 3 49 = some (4, 7) := rfl
theorem fl_3_66 : am_fl 3 66 = some (4, 3) := rfl
theorem fl_4_9 : am_fl 4 9 = some (4, 0) := rfl
theorem fl_4_15 : am_fl 4 15 = some (4, 1) := rfl
theorem fl_4_18 : am_fl 4 18 = some (4, 2) := rfl
theorem fl_4_21 : am_fl 4 21 = some (4, 3) := rfl
theorem fl_4_24 : am_fl 4 24 = some (4, 4) := rfl
theorem fl_4_30 : am_fl 4 30 = some (4, 5) := rfl
theorem fl_4_34 : am_fl 4 34 = some (4, 6) := rfl
theorem fl_4_38 : am_fl 4 38 = some (4, 7) := rfl
theorem fl_4_41 : am_fl 4 41 = some (4, 8) := rfl
theorem fl_4_44 : am_fl 4 44 = some (4, 9) := rfl
theorem fl_4_47 : am_fl 4 47 = some (4, 10) := rfl
theorem fl_5_9 : am_fl 5 9 = some (5, 1) := rfl
theorem fl_5_15 : am_fl 5 15 = some (5, 2) := rfl
theorem fl_5_18 : am_fl 5 18 = some (5, 3) := rfl
theorem fl_5_22 : am_fl 5 22 = some (5, 4) := rfl
theorem fl_5_28 : am_fl 5 28 = some (5, 5) := rfl
theorem fl_5_32 : am_fl 5 32 = some (5, 6) := rfl
theorem fl_5_35 : am_fl 5 35 = some (5, 7) := rfl
theorem fl_5_38 : am_fl 5 38 = some (5, 0) := rfl
theorem fl_5_50 : am_fl 5 50 = some (8, 4) := rfl
theorem fl_5_63 : am_fl 5 63 = some (4, 5) := rfl
theorem fl_5_84 : am_fl 5 84 = some (4, 8) := rfl
theorem fl_5_87 : am_fl 5 87 = some (4, 9) := rfl
theorem fl_5_90 : am_fl 5 90 = some (4, 10) := rfl
theorem fl_5_96 : am_fl 5 96 = some (4, 6) := rfl
theorem fl_5_106 : am_fl 5 106 = some (4, 0) := rfl
theorem fl_5_110 : am_fl 5 110 = some (4, 7) := rfl
theorem fl_5_113 : am_fl 5 113 = some (4, 1) := rfl
theorem fl_5_119 : am_fl 5 119 = some (4, 2) := rfl
theorem fl_5_122 : am_fl 5 122 = some (4, 3) := rfl
theorem fl_5_125 : am_fl 5 125 = some (4, 4) := rfl
theorem fl_5_128 : am_fl 5 128 = some (8, 7) := rfl
theorem fl_5_143 : am_fl 5 143 = some (8, 6) := rfl
theorem fl_5_162 : am_fl 5 162 = some (2, 4) := rfl
theorem fl_5_165 : am_fl 5 165 = some (8, 5) := rfl
theorem fl_6_25 : am_fl 6 25 = some (6, 3) := rfl
theorem fl_7_9 : am_fl 7 9 = some (6, 1) := rfl
theorem fl_7_15 : am_fl 7 15 = some (6, 2) := rfl
theorem fl_7_18 : am_fl 7 18 = some (6, 3) := rfl
theorem fl_7_21 : am_fl 7 21 = some (6, 4) := rfl
theorem fl_7_24 : am_fl 7 24 = some (6, 5) := rfl
theorem fl_7_27 : am_fl 7 27 = some (6, 6) := rfl
theorem fl_7_30 : am_fl 7 30 = some (6, 7) := rfl
theorem fl_7_33 : am_fl 7 33 = some (6, 8) := rfl
theorem fl_7_37 : am_fl 7 37 = some (6, 9) := rfl
theorem fl_7_40 : am_fl 7 40 = some (6, 10) := rfl
theorem fl_7_43 : am_fl 7 43 = some (6, 0) := rfl
theorem fl_7_51 : am_fl 7 51 = some (4, 7) := rfl
theorem fl_7_56 : am_fl 7 56 = some (4, 1) := rfl
theorem fl_7_57 : am_fl 7 57 = some (4, 2) := rfl
theorem fl_7_58 : am_fl 7 58 = some (4, 3) := rfl
theorem fl_7_63 : am_fl 7 63 = some (4, 4) := rfl
theorem fl_7_64 : am_fl 7 64 = some (4, 9) := rfl
theorem fl_7_65 : am_fl 7 65 = some (4, 10) := rfl
theorem fl_7_91 : am_fl 7 91 = some (4, 0) := rfl
theorem fl_8_9 : am_fl 8 9 = some (7, 1) := rfl
theorem fl_8_15 : am_fl 8 15 = some (7, 2) := rfl
theorem fl_8_18 : am_fl 8 18 = some (7, 3) := rfl
theorem fl_8_22 : am_fl 8 22 = some (7, 4) := rfl
theorem fl_8_25 : am_fl 8 25 = some (7, 0) := rfl
theorem fl_8_29 : am_fl 8 29 = some (4, 6) := rfl
theorem fl_8_34 : am_fl 8 34 = some (4, 0) := rfl
theorem fl_8_53 : am_fl 8 53 = some (6, 1) := rfl
theorem fl_8_85 : am_fl 8 85 = some (6, 2) := rfl
theorem fl_9_9 : am_fl 9 9 = some (8, 0) := rfl
theorem fl_9_15 : am_fl 9 15 = some (8, 1) := rfl
theorem fl_9_19 : am_fl 9 19 = some (8, 2) := rfl
theorem fl_9_23 : am_fl 9 23 = some (8, 3) := rfl
theorem fl_9_26 : am_fl 9 26 = some (8, 4) := rfl
theorem fl_9_29 : am_fl 9 29 = some (8, 5) := rfl
theorem fl_9_32 : am_fl 9 32 = some (8, 6) := rfl
theorem fl_9_35 : am_fl 9 35 = some (8, 7) := rfl
theorem fl_10_9 : am_fl 10 9 = some (9, 2) := rfl
theorem fl_10_15 : am_fl 10 15 = some (9, 3) := rfl
theorem fl_10_18 : am_fl 10 18 = some (9, 0) := rfl
theorem fl_10_27 : am_fl 10 27 = some (9, 1) := rfl
theorem fl_10_39 : am_fl 10 39 = some (4, 6) := rfl
theorem fl_10_60 : am_fl 10 60 = some (6, 9) := rfl
theorem fl_10_69 : am_fl 10 69 = some (6, 2) := rfl
theorem fl_10_73 : am_fl 10 73 = some (4, 8) := rfl
theorem fl_10_94 : am_fl 10 94 = some (4, 5) := rfl
theorem fl_10_98 : am_fl 10 98 = some (6, 1) := rfl
theorem fl_10_116 : am_fl 10 116 = some (6, 4) := rfl
theorem fl_10_119 : am_fl 10 119 = some (6, 5) := rfl
theorem fl_10_125 : am_fl 10 125 = some (6, 10) := rfl
theorem fl_10_128 : am_fl 10 128 = some (6, 3) := rfl
theorem fl_10_135 : am_fl 10 135 = some (6, 6) := rfl
theorem fl_10_138 : am_fl 10 138 = some (6, 7) := rfl
theorem fl_11_12 : am_fl 11 12 = some (10, 0) := rfl
theorem fl_11_19 : am_fl 11 19 = some (10, 1) := rfl
theorem fl_11_28 : am_fl 11 28 = some (10, 2) := rfl
theorem fl_11_37 : am_fl 11 37 = some (10, 3) := rfl
theorem fl_11_44 : am_fl 11 44 = some (10, 4) := rfl
theorem fl_11_51 : am_fl 11 51 = some (10, 5) := rfl
theorem fl_11_58 : am_fl 11 58 = some (10, 6) := rfl
theorem fl_11_65 : am_fl 11 65 = some (10, 7) := rfl
theorem fl_11_72 : am_fl 11 72 = some (10, 8) := rfl
theorem fl_11_76 : am_fl 11 76 = some (10, 9) := rfl
theorem fl_11_80 : am_fl 11 80 = some (10, 10) := rfl
theorem fl_11_84 : am_fl 11 84 = some (8, 3) := rfl
theorem fl_11_95 : am_fl 11 95 = some (5, 5) := rfl
theorem fl_11_111 : am_fl 11 111 = some (3, 8) := rfl
theorem fl_11_114 : am_fl 11 114 = some (4, 7) := rfl
theorem fl_11_117 : am_fl 11 117 = some (5, 6) := rfl
theorem fl_11_120 : am_fl 11 120 = some (5, 7) := rfl
theorem fl_11_127 : am_fl 11 127 = some (4, 0) := rfl
theorem fl_11_140 : am_fl 11 140 = some (6, 1) := rfl
theorem fl_11_143 : am_fl 11 143 = some (6, 2) := rfl
theorem fl_11_146 : am_fl 11 146 = some (6, 3) := rfl
theorem fl_11_149 : am_fl 11 149 = some (6, 4) := rfl
theorem fl_11_152 : am_fl 11 152 = some (6, 5) := rfl
theorem fl_11_155 : am_fl 11 155 = some (6, 6) := rfl
theorem fl_11_158 : am_fl 11 158 = some (6, 7) := rfl
theorem fl_11_173 : am_fl 11 173 = some (6, 9) := rfl
theorem fl_11_176 : am_fl 11 176 = some (4, 8) := rfl
theorem fl_11_185 : am_fl 11 185 = some (9, 2) := rfl
theorem fl_11_188 : am_fl 11 188 = some (6, 8) := rfl
theorem fl_11_218 : am_fl 11 218 = some (4, 6) := rfl
theorem fl_11_241 : am_fl 11 241 = some (7, 2) := rfl
theorem fl_11_256 : am_fl 11 256 = some (7, 3) := rfl
theorem fl_11_259 : am_fl 11 259 = some (7, 4) := rfl
theorem fl_11_303 : am_fl 11 303 = some (3, 9) := rfl
theorem fl_11_325 : am_fl 11 325 = some (6, 10) := rfl
theorem fl_11_328 : am_fl 11 328 = some (0, 1) := rfl
theorem fl_11_331 : am_fl 11 331 = some (0, 2) := rfl
theorem fl_11_334 : am_fl 11 334 = some (4, 5) := rfl
theorem fl_11_338 : am_fl 11 338 = some (2, 4) := rfl
theorem fl_12_7 : am_fl 12 7 = some (11, 0) := rfl
theorem fl_12_13 : am_fl 12 13 = some (11, 1) := rfl
theorem fl_12_16 : am_fl 12 16 = some (11, 5) := rfl
theorem fl_12_20 : am_fl 12 20 = some (11, 11) := rfl
theorem fl_12_24 : am_fl 12 24 = some (11, 12) := rfl
theorem fl_12_27 : am_fl 12 27 = some (11, 13) := rfl
theorem fl_12_30 : am_fl 12 30 = some (11, 14) := rfl
theorem fl_12_33 : am_fl 12 33 = some (11, 15) := rfl
theorem fl_12_36 : am_fl 12 36 = some (11, 16) := rfl
theorem fl_12_39 : am_fl 12 39 = some (11, 17) := rfl
theorem fl_12_42 : am_fl 12 42 = some (11, 18) := rfl
theorem fl_12_45 : am_fl 12 45 = some (11, 19) := rfl
theorem fl_12_48 : am_fl 12 48 = some (11, 20) := rfl
theorem fl_12_51 : am_fl 12 51 = some (11, 21) := rfl
theorem fl_12_54 : am_fl 12 54 = some (11, 22) := rfl
theorem fl_12_57 : am_fl 12 57 = some (11, 23) := rfl
theorem fl_12_60 : am_fl 12 60 = some (11, 24) := rfl
theorem fl_12_63 : am_fl 12 63 = some (11, 25) := rfl
theorem fl_12_67 : am_fl 12 67 = some (11, 26) := rfl
theorem fl_12_70 : am_fl 12 70 = some (11, 27) := rfl
theorem fl_12_73 : am_fl 12 73 = some (11, 28) := rfl
theorem fl_12_76 : am_fl 12 76 = some (11, 29) := rfl
theorem fl_12_79 : am_fl 12 79 = some (11, 30) := rfl
theorem fl_12_82 : am_fl 12 82 = some (11, 31) := rfl
theorem fl_12_85 : am_fl 12 85 = some (11, 40) := rfl
theorem fl_12_88 : am_fl 12 88 = some (11, 41) := rfl
theorem fl_12_91 : am_fl 12 91 = some (11, 42) := rfl
theorem fl_12_94 : am_fl 12 94 = some (11, 43) := rfl
theorem fl_12_97 : am_fl 12 97 = some (11, 46) := rfl
theorem fl_12_100 : am_fl 12 100 = some (11, 48) := rfl
theorem fl_12_103 : am_fl 12 103 = some (11, 49) := rfl
theorem fl_12_106 : am_fl 12 106 = some (11, 50) := rfl
theorem fl_12_109 : am_fl 12 109 = some (11, 51) := rfl
theorem fl_12_112 : am_fl 12 112 = some (11, 52) := rfl
theorem fl_12_115 : am_fl 12 115 = some (11, 53) := rfl
theorem fl_12_118 : am_fl 12 118 = some (11, 54) := rfl
theorem fl_12_122 : am_fl 12 122 = some (11, 58) := rfl
theorem fl_12_125 : am_fl 12 125 = some (11, 59) := rfl
theorem fl_12_134 : am_fl 12 134 = some (11, 3) := rfl
theorem fl_12_137 : am_fl 12 137 = some (11, 4) := rfl
theorem fl_12_176 : am_fl 12 176 = some (11, 7) := rfl
theorem fl_12_179 : am_fl 12 179 = some (11, 6) := rfl
theorem fl_12_186 : am_fl 12 186 = some (11, 8) := rfl
theorem fl_12_193 : am_fl 12 193 = some (11, 10) := rfl
theorem fl_12_204 : am_fl 12 204 = some (11, 9) := rfl
theorem fl_12_235 : am_fl 12 235 = some (11, 33) := rfl
theorem fl_12_238 : am_fl 12 238 = some (11, 34) := rfl
theorem fl_12_241 : am_fl 12 241 = some (11, 2) := rfl
theorem fl_12_244 : am_fl 12 244 = some (11, 32) := rfl
theorem fl_12_286 : am_fl 12 286 = some (11, 37) := rfl
theorem fl_12_292 : am_fl 12 292 = some (11, 36) := rfl
theorem fl_12_295 : am_fl 12 295 = some (11, 35) := rfl
theorem fl_12_319 : am_fl 12 319 = some (11, 38) := rfl
theorem fl_12_322 : am_fl 12 322 = some (11, 39) := rfl
theorem fl_12_363 : am_fl 12 363 = some (11, 44) := rfl
theorem fl_12_366 : am_fl 12 366 = some (11, 45) := rfl
theorem fl_12_369 : am_fl 12 369 = some (11, 55) := rfl
theorem fl_12_372 : am_fl 12 372 = some (11, 47) := rfl
theorem fl_12_475 : am_fl 12 475 = some (11, 56) := rfl
theorem fl_12_482 : am_fl 12 482 = some (11, 57) := rfl
theorem ct_0_3 : am_ct 0 3 = some (3, 0, mX2_clear) := rfl
theorem ct_0_24 : am_ct 0 24 = some (2, 6, mX7_init) := rfl
theorem ct_0_27 : am_ct 0 27 = some (0, 0, mX0_write) := rfl
theorem ct_0_31 : am_ct 0 31 = some (0, 0, mX0_dropOldest) := rfl
theorem ct_0_34 : am_ct 0 34 = some (0, 0, mX0_read) := rfl
theorem ct_0_37 : am_ct 0 37 = some (0, 6, mX7_copyFrom) := rfl
theorem ct_1_3 : am_ct 1 3 = some (3, 0, mX2_clear) := rfl
theorem ct_1_21 : am_ct 1 21 = some (2, 6, mX7_init) := rfl
theorem ct_1_24 : am_ct 1 24 = some (0, 6, mX7_copyFrom) := rfl
theorem ct_2_3 : am_ct 2 3 = some (3, 0, mX2_clear) := rfl
theorem ct_2_28 : am_ct 2 28 = some (0, 2, mX2_clear) := rfl
theorem ct_2_31 : am_ct 2 31 = some (0, 2, mX2_addStep) := rfl
theorem ct_2_35 : am_ct 2 35 = some (0, 2, mX2_push) := rfl
theorem ct_2_39 : am_ct 2 39 = some (0, 2, mX2_work) := rfl
theorem ct_2_42 : am_ct 2 42 = some (1, 2, mX2_join) := rfl
theorem ct_3_3 : am_ct 3 3 = some (3, 0, mX2_clear) := rfl
theorem ct_3_45 : am_ct 3 45 = some (0, 3, mX3_isFitting) := rfl
theorem ct_3_54 : am_ct 3 54 = some (0, 3, mX3_mostLeftBy) := rfl
theorem ct_3_58 : am_ct 3 58 = some (0, 3, mX3_sharedWith) := rfl
theorem ct_3_61 : am_ct 3 61 = some (8, 0, mX2_clear) := rfl
theorem ct_3_69 : am_ct 3 69 = some (1, 0, mJ6_bitCount_0f7a4) := rfl
theorem ct_4_3 : am_ct 4 3 = some (3, 0, mX2_clear) := rfl
theorem ct_4_29 : am_ct 4 29 = some (5, 2, mX2_init) := rfl
theorem ct_4_50 : am_ct 4 50 = some (0, 2, mX2_beAsUntold) := rfl
theorem ct_4_53 : am_ct 4 53 = some (4, 0, mX2_clear) := rfl
theorem ct_4_59 : am_ct 4 59 = some (0, 2, mX2_copyFrom) := rfl
theorem ct_4_63 : am_ct 4 63 = some (0, 4, mX4_hasRoom) := rfl
theorem ct_5_3 : am_ct 5 3 = some (3, 0, mX2_clear) := rfl
theorem ct_5_27 : am_ct 5 27 = some (2, 4, mX4_init) := rfl
theorem ct_5_42 : am_ct 5 42 = some (0, 4, mX4_clear) := rfl
theorem ct_5_45 : am_ct 5 45 = some (0, 8, mX9_rewind) := rfl
theorem ct_5_53 : am_ct 5 53 = some (0, 5, mX5_readLine) := rfl
theorem ct_5_57 : am_ct 5 57 = some (0, 5, mX5_readRoom) := rfl
theorem ct_5_60 : am_ct 5 60 = some (0, 5, mX5_readTrunk) := rfl
theorem ct_5_67 : am_ct 5 67 = some (0, 2, mX2_clear) := rfl
theorem ct_5_70 : am_ct 5 70 = some (0, 5, mX5_isFirst) := rfl
theorem ct_5_74 : am_ct 5 74 = some (0, 5, mX5_readPart) := rfl
theorem ct_5_78 : am_ct 5 78 = some (0, 5, mX5_take) := rfl
theorem ct_5_81 : am_ct 5 81 = some (0, 5, mX5_readNumber) := rfl
theorem ct_5_93 : am_ct 5 93 = some (0, 5, mX5_cannotStand) := rfl
theorem ct_5_99 : am_ct 5 99 = some (0, 8, mX9_advance) := rfl
theorem ct_5_102 : am_ct 5 102 = some (0, 5, mX5_readNewName) := rfl
theorem ct_5_116 : am_ct 5 116 = some (0, 5, mX5_readRoomFor) := rfl
theorem ct_5_132 : am_ct 5 132 = some (1, 5, mX5_find) := rfl
theorem ct_5_136 : am_ct 5 136 = some (0, 5, mX5_failAs) := rfl
theorem ct_5_139 : am_ct 5 139 = some (0, 4, mX4_leftIn) := rfl
theorem ct_5_146 : am_ct 5 146 = some (0, 5, mX5_readUnit) := rfl
theorem ct_5_149 : am_ct 5 149 = some (0, 5, mX5_readNot) := rfl
theorem ct_5_152 : am_ct 5 152 = some (0, 5, mX5_readJoined) := rfl
theorem ct_5_155 : am_ct 5 155 = some (1, 5, mX5_levelOf) := rfl
theorem ct_5_158 : am_ct 5 158 = some (0, 2, mX2_addStep) := rfl
theorem ct_6_9 : am_ct 6 9 = some (0, 6, mX7_hasBoth) := rfl
theorem ct_6_15 : am_ct 6 15 = some (1, 0, mX6_marksInNeither) := rfl
theorem ct_6_21 : am_ct 6 21 = some (0, 6, mX7_has) := rfl
theorem ct_6_29 : am_ct 6 29 = some (1, 0, mJ6_bitCount_0f7a4) := rfl
theorem ct_6_35 : am_ct 6 35 = some (0, 6, mX7_bits) := rfl
theorem ct_6_39 : am_ct 6 39 = some (1, 0, mX6_distanceTo) := rfl
theorem ct_6_43 : am_ct 6 43 = some (0, 6, mX7_shared) := rfl
theorem ct_6_47 : am_ct 6 47 = some (9, 0, mX2_clear) := rfl
theorem ct_6_52 : am_ct 6 52 = some (0, 6, mX7_parentsOf) := rfl
theorem ct_7_3 : am_ct 7 3 = some (3, 0, mX2_clear) := rfl
theorem ct_7_47 : am_ct 7 47 = some (0, 6, mX7_remove) := rfl
theorem ct_7_59 : am_ct 7 59 = some (0, 6, mX7_add) := rfl
theorem ct_7_68 : am_ct 7 68 = some (4, 0, mX2_clear) := rfl
theorem ct_7_74 : am_ct 7 74 = some (0, 6, mX7_has) := rfl
theorem ct_7_78 : am_ct 7 78 = some (0, 6, mX7_bits) := rfl
theorem ct_7_82 : am_ct 7 82 = some (1, 0, mJ6_bitCount_0f7a4) := rfl
theorem ct_7_88 : am_ct 7 88 = some (0, 4, mX4_hasRoom) := rfl
theorem ct_7_94 : am_ct 7 94 = some (0, 6, mX7_bitsIn) := rfl
theorem ct_7_97 : am_ct 7 97 = some (0, 6, mX7_bulkOf) := rfl
theorem ct_7_100 : am_ct 7 100 = some (0, 6, mX7_hasBoth) := rfl
theorem ct_7_104 : am_ct 7 104 = some (0, 6, mX7_bulkiestIn) := rfl
theorem ct_7_108 : am_ct 7 108 = some (1, 6, mX7_bitOf) := rfl
theorem ct_8_3 : am_ct 8 3 = some (3, 0, mX2_clear) := rfl
theorem ct_8_37 : am_ct 8 37 = some (4, 0, mX2_clear) := rfl
theorem ct_8_43 : am_ct 8 43 = some (0, 7, mX8_stowFrom) := rfl
theorem ct_8_47 : am_ct 8 47 = some (8, 0, mX2_clear) := rfl
theorem ct_8_58 : am_ct 8 58 = some (1, 0, mJ6_bitCount_0f7a4) := rfl
theorem ct_8_64 : am_ct 8 64 = some (0, 7, mX8_stowBehind) := rfl
theorem ct_8_67 : am_ct 8 67 = some (0, 4, mX4_hasRoom) := rfl
theorem ct_8_71 : am_ct 8 71 = some (0, 6, mX7_bits) := rfl
theorem ct_8_75 : am_ct 8 75 = some (0, 6, mX7_bulkOf) := rfl
theorem ct_8_78 : am_ct 8 78 = some (0, 6, mX7_hasBoth) := rfl
theorem ct_8_82 : am_ct 8 82 = some (0, 6, mX7_leftIn) := rfl
theorem ct_8_88 : am_ct 8 88 = some (0, 7, mX8_countPairsAtRest) := rfl
theorem ct_8_91 : am_ct 8 91 = some (0, 7, mX8_isContent) := rfl
theorem ct_8_95 : am_ct 8 95 = some (0, 7, mX8_gainOf) := rfl
theorem ct_9_3 : am_ct 9 3 = some (3, 0, mX2_clear) := rfl
theorem ct_9_41 : am_ct 9 41 = some (6, 0, mX2_clear) := rfl
theorem ct_9_46 : am_ct 9 46 = some (7, 0, mX2_clear) := rfl
theorem ct_9_50 : am_ct 9 50 = some (1, 8, mX9_withLetter) := rfl
theorem ct_9_54 : am_ct 9 54 = some (0, 8, mX9_advance) := rfl
theorem ct_9_57 : am_ct 9 57 = some (0, 8, mX9_look) := rfl
theorem ct_9_60 : am_ct 9 60 = some (1, 8, mX9_isBlank) := rfl
theorem ct_9_64 : am_ct 9 64 = some (1, 8, mX9_isLetter) := rfl
theorem ct_9_67 : am_ct 9 67 = some (0, 8, mX9_takeWord) := rfl
theorem ct_9_70 : am_ct 9 70 = some (1, 8, mX9_isDigit) := rfl
theorem ct_9_73 : am_ct 9 73 = some (0, 8, mX9_takeNumber) := rfl
theorem ct_9_76 : am_ct 9 76 = some (1, 8, mX9_signKind) := rfl
theorem ct_9_80 : am_ct 9 80 = some (0, 8, mX9_wordKind) := rfl
theorem ct_10_3 : am_ct 10 3 = some (3, 0, mX2_clear) := rfl
theorem ct_10_24 : am_ct 10 24 = some (2, 6, mX7_init) := rfl
theorem ct_10_31 : am_ct 10 31 = some (0, 9, mX10_listen) := rfl
theorem ct_10_35 : am_ct 10 35 = some (1, 9, mX10_grow) := rfl
theorem ct_10_44 : am_ct 10 44 = some (0, 9, mX10_isRipe) := rfl
theorem ct_10_48 : am_ct 10 48 = some (0, 6, mX7_coupleIn) := rfl
theorem ct_10_52 : am_ct 10 52 = some (0, 6, mX7_firstFree) := rfl
theorem ct_10_56 : am_ct 10 56 = some (0, 9, mX10_bringForth) := rfl
theorem ct_10_63 : am_ct 10 63 = some (0, 6, mX7_copyFrom) := rfl
theorem ct_10_66 : am_ct 10 66 = some (0, 9, mX10_pass) := rfl
theorem ct_10_76 : am_ct 10 76 = some (0, 6, mX7_count) := rfl
theorem ct_10_79 : am_ct 10 79 = some (1, 9, mX10_youngBulk) := rfl
theorem ct_10_83 : am_ct 10 83 = some (0, 6, mX7_leftIn) := rfl
theorem ct_10_86 : am_ct 10 86 = some (0, 9, mX10_broodOf) := rfl
theorem ct_10_89 : am_ct 10 89 = some (0, 6, mX7_hasBoth) := rfl
theorem ct_10_101 : am_ct 10 101 = some (0, 6, mX7_shared) := rfl
theorem ct_10_105 : am_ct 10 105 = some (0, 2, mX2_value) := rfl
theorem ct_10_111 : am_ct 10 111 = some (8, 0, mX2_clear) := rfl
theorem ct_10_121 : am_ct 10 121 = some (0, 6, mX7_remove) := rfl
theorem ct_10_131 : am_ct 10 131 = some (0, 6, mX7_add) := rfl
theorem ct_11_3 : am_ct 11 3 = some (3, 0, mX2_clear) := rfl
theorem ct_11_11 : am_ct 11 11 = some (2, 8, mX9_init) := rfl
theorem ct_11_18 : am_ct 11 18 = some (2, 4, mX4_init) := rfl
theorem ct_11_25 : am_ct 11 25 = some (2, 5, mX5_init) := rfl
theorem ct_11_34 : am_ct 11 34 = some (2, 6, mX7_init) := rfl
theorem ct_11_43 : am_ct 11 43 = some (2, 9, mX10_init) := rfl
theorem ct_11_50 : am_ct 11 50 = some (2, 0, mX0_init) := rfl
theorem ct_11_57 : am_ct 11 57 = some (2, 1, mX1_init) := rfl
theorem ct_11_64 : am_ct 11 64 = some (2, 7, mX8_init) := rfl
theorem ct_11_71 : am_ct 11 71 = some (2, 3, mX3_init) := rfl
theorem ct_11_87 : am_ct 11 87 = some (0, 8, mX9_put) := rfl
theorem ct_11_91 : am_ct 11 91 = some (0, 5, mX5_readAll) := rfl
theorem ct_11_98 : am_ct 11 98 = some (0, 4, mX4_copyFrom) := rfl
theorem ct_11_101 : am_ct 11 101 = some (0, 6, mX7_standAsTold) := rfl
theorem ct_11_104 : am_ct 11 104 = some (0, 0, mX0_begin) := rfl
theorem ct_11_108 : am_ct 11 108 = some (0, 1, mX1_clear) := rfl
theorem ct_11_123 : am_ct 11 123 = some (0, 4, mX4_hasRoom) := rfl
theorem ct_11_130 : am_ct 11 130 = some (0, 6, mX7_leftIn) := rfl
theorem ct_11_134 : am_ct 11 134 = some (0, 6, mX7_bitsIn) := rfl
theorem ct_11_137 : am_ct 11 137 = some (0, 6, mX7_has) := rfl
theorem ct_11_161 : am_ct 11 161 = some (0, 6, mX7_hasBoth) := rfl
theorem ct_11_166 : am_ct 11 166 = some (0, 9, mX10_broodOf) := rfl
theorem ct_11_170 : am_ct 11 170 = some (0, 6, mX7_coupleIn) := rfl
theorem ct_11_178 : am_ct 11 178 = some (0, 9, mX10_pass) := rfl
theorem ct_11_182 : am_ct 11 182 = some (0, 0, mX0_keep) := rfl
theorem ct_11_191 : am_ct 11 191 = some (0, 6, mX7_remove) := rfl
theorem ct_11_194 : am_ct 11 194 = some (0, 0, mX0_stepBack) := rfl
theorem ct_11_198 : am_ct 11 198 = some (0, 0, mX0_stepOn) := rfl
theorem ct_11_201 : am_ct 11 201 = some (1, 10, mX11_canLieAhead) := rfl
theorem ct_11_204 : am_ct 11 204 = some (0, 9, mX10_behind) := rfl
theorem ct_11_208 : am_ct 11 208 = some (0, 6, mX7_bits) := rfl
theorem ct_11_212 : am_ct 11 212 = some (8, 0, mX2_clear) := rfl
theorem ct_11_221 : am_ct 11 221 = some (0, 9, mX10_countIfCarried) := rfl
theorem ct_11_224 : am_ct 11 224 = some (0, 6, mX7_allMarks) := rfl
theorem ct_11_227 : am_ct 11 227 = some (0, 9, mX10_isRipe) := rfl
theorem ct_11_231 : am_ct 11 231 = some (0, 6, mX7_count) := rfl
theorem ct_11_233 : am_ct 11 233 = some (0, 9, mX10_untilGone) := rfl
theorem ct_11_237 : am_ct 11 237 = some (0, 7, mX8_packAll) := rfl
theorem ct_11_244 : am_ct 11 244 = some (0, 10, mX11_layDown) := rfl
theorem ct_11_247 : am_ct 11 247 = some (0, 7, mX8_fullest) := rfl
theorem ct_11_250 : am_ct 11 250 = some (0, 6, mX7_bulkOf) := rfl
theorem ct_11_253 : am_ct 11 253 = some (0, 7, mX8_countRests) := rfl
theorem ct_11_262 : am_ct 11 262 = some (1, 0, mX6_nearestPair) := rfl
theorem ct_11_267 : am_ct 11 267 = some (1, 0, mX6_marksInNeither) := rfl
theorem ct_11_271 : am_ct 11 271 = some (1, 0, mX6_changes) := rfl
theorem ct_11_275 : am_ct 11 275 = some (1, 0, mX6_leastTree) := rfl
theorem ct_11_278 : am_ct 11 278 = some (1, 0, mX6_forebears) := rfl
theorem ct_11_281 : am_ct 11 281 = some (1, 0, mX6_steps) := rfl
theorem ct_11_284 : am_ct 11 284 = some (0, 6, mX7_shared) := rfl
theorem ct_11_287 : am_ct 11 287 = some (1, 0, mX6_mostLike) := rfl
theorem ct_11_290 : am_ct 11 290 = some (1, 0, mX6_leastLikeAll) := rfl
theorem ct_11_293 : am_ct 11 293 = some (1, 0, mX6_countWith) := rfl
theorem ct_11_296 : am_ct 11 296 = some (0, 3, mX3_hold) := rfl
theorem ct_11_300 : am_ct 11 300 = some (0, 3, mX3_takeBack) := rfl
theorem ct_11_307 : am_ct 11 307 = some (0, 3, mX3_countFitting) := rfl
theorem ct_11_310 : am_ct 11 310 = some (0, 3, mX3_knownOf) := rfl
theorem ct_11_313 : am_ct 11 313 = some (0, 3, mX3_bestToAsk) := rfl
theorem ct_11_316 : am_ct 11 316 = some (0, 3, mX3_mostLeftBy) := rfl
theorem ct_11_319 : am_ct 11 319 = some (0, 1, mX1_put) := rfl
theorem ct_11_322 : am_ct 11 322 = some (0, 1, mX1_take) := rfl
theorem ct_12_1 : am_ct 12 1 = some (3, 0, mX2_clear) := rfl
theorem ct_12_128 : am_ct 12 128 = some (0, 11, mX12_clearBank) := rfl
theorem ct_12_131 : am_ct 12 131 = some (0, 11, mX12_startAnew) := rfl
theorem ct_12_182 : am_ct 12 182 = some (0, 11, mX12_sign) := rfl
theorem ct_12_189 : am_ct 12 189 = some (1, 11, mX12_isLetter) := rfl
theorem ct_12_197 : am_ct 12 197 = some (1, 11, mX12_isKept) := rfl
theorem ct_12_201 : am_ct 12 201 = some (1, 11, mX12_isDigit) := rfl
theorem ct_12_207 : am_ct 12 207 = some (1, 11, mX12_isSign) := rfl
theorem ct_12_210 : am_ct 12 210 = some (0, 11, mX12_fails) := rfl
theorem ct_12_214 : am_ct 12 214 = some (0, 11, mX12_isGood) := rfl
theorem ct_12_218 : am_ct 12 218 = some (0, 11, mX12_goOn) := rfl
theorem ct_12_221 : am_ct 12 221 = some (0, 11, mX12_misplaced) := rfl
theorem ct_12_224 : am_ct 12 224 = some (0, 11, mX12_isWord) := rfl
theorem ct_12_227 : am_ct 12 227 = some (0, 11, mX12_must) := rfl
theorem ct_12_231 : am_ct 12 231 = some (0, 11, mX12_numeral) := rfl
theorem ct_12_247 : am_ct 12 247 = some (0, 11, mX12_readLine) := rfl
theorem ct_12_250 : am_ct 12 250 = some (1, 11, mX12_bit) := rfl
theorem ct_12_254 : am_ct 12 254 = some (0, 11, mX12_isFull) := rfl
theorem ct_12_257 : am_ct 12 257 = some (0, 11, mX12_roomHere) := rfl
theorem ct_12_261 : am_ct 12 261 = some (0, 11, mX12_fresh) := rfl
theorem ct_12_265 : am_ct 12 265 = some (0, 11, mX12_after) := rfl
theorem ct_12_269 : am_ct 12 269 = some (0, 11, mX12_readTrunk) := rfl
theorem ct_12_272 : am_ct 12 272 = some (0, 11, mX12_readRule) := rfl
theorem ct_12_275 : am_ct 12 275 = some (0, 11, mX12_once) := rfl
theorem ct_12_279 : am_ct 12 279 = some (0, 11, mX12_isSignHere) := rfl
theorem ct_12_282 : am_ct 12 282 = some (0, 11, mX12_here) := rfl
theorem ct_12_289 : am_ct 12 289 = some (0, 11, mX12_e) := rfl
theorem ct_12_298 : am_ct 12 298 = some (0, 11, mX12_pushE) := rfl
theorem ct_12_301 : am_ct 12 301 = some (0, 11, mX12_unit) := rfl
theorem ct_12_304 : am_ct 12 304 = some (0, 11, mX12_behindUnit) := rfl
theorem ct_12_307 : am_ct 12 307 = some (0, 11, mX12_wordHere) := rfl
theorem ct_12_310 : am_ct 12 310 = some (0, 11, mX12_emit) := rfl
theorem ct_12_313 : am_ct 12 313 = some (0, 11, mX12_rankHere) := rfl
theorem ct_12_316 : am_ct 12 316 = some (0, 11, mX12_isCompared) := rfl
theorem ct_12_325 : am_ct 12 325 = some (1, 11, mX12_sharedBy) := rfl
theorem ct_12_328 : am_ct 12 328 = some (0, 11, mX12_leftIn) := rfl
theorem ct_12_331 : am_ct 12 331 = some (0, 11, mX12_those) := rfl
theorem ct_12_334 : am_ct 12 334 = some (1, 11, mX12_bitsOf) := rfl
theorem ct_12_337 : am_ct 12 337 = some (0, 11, mX12_asked) := rfl
theorem ct_12_340 : am_ct 12 340 = some (1, 11, mX12_two) := rfl
theorem ct_12_343 : am_ct 12 343 = some (0, 11, mX12_chambers) := rfl
theorem ct_12_346 : am_ct 12 346 = some (1, 11, mX12_isIn) := rfl
theorem ct_12_350 : am_ct 12 350 = some (0, 11, mX12_holdsOf) := rfl
theorem ct_12_353 : am_ct 12 353 = some (0, 11, mX12_thoseIn) := rfl
theorem ct_12_356 : am_ct 12 356 = some (0, 11, mX12_bulkOf) := rfl
theorem ct_12_359 : am_ct 12 359 = some (0, 11, mX12_clearPlace) := rfl
theorem ct_12_375 : am_ct 12 375 = some (0, 11, mX12_comes) := rfl
theorem ct_12_378 : am_ct 12 378 = some (0, 11, mX12_biggestOf) := rfl
theorem ct_12_381 : am_ct 12 381 = some (0, 11, mX12_coupleOf) := rfl
theorem ct_12_384 : am_ct 12 384 = some (0, 11, mX12_freePlace) := rfl
theorem ct_12_387 : am_ct 12 387 = some (0, 11, mX12_broodOf) := rfl
theorem ct_12_390 : am_ct 12 390 = some (0, 11, mX12_youngOf) := rfl
theorem ct_12_393 : am_ct 12 393 = some (0, 11, mX12_loseOne) := rfl
theorem ct_12_396 : am_ct 12 396 = some (0, 11, mX12_listen) := rfl
theorem ct_12_399 : am_ct 12 399 = some (0, 11, mX12_isRipe) := rfl
theorem ct_12_402 : am_ct 12 402 = some (0, 11, mX12_bringForth) := rfl
theorem ct_12_405 : am_ct 12 405 = some (0, 11, mX12_goYear) := rfl
theorem ct_12_408 : am_ct 12 408 = some (0, 11, mX12_isRoom) := rfl
theorem ct_12_411 : am_ct 12 411 = some (0, 11, mX12_isThere) := rfl
theorem ct_12_415 : am_ct 12 415 = some (0, 11, mX12_alike) := rfl
theorem ct_12_418 : am_ct 12 418 = some (0, 11, mX12_sharesAll) := rfl
theorem ct_12_421 : am_ct 12 421 = some (0, 11, mX12_keepAct) := rfl
theorem ct_12_424 : am_ct 12 424 = some (0, 11, mX12_canCarry) := rfl
theorem ct_12_427 : am_ct 12 427 = some (0, 11, mX12_swapAll) := rfl
theorem ct_12_430 : am_ct 12 430 = some (0, 11, mX12_keepNow) := rfl
theorem ct_12_433 : am_ct 12 433 = some (0, 11, mX12_goYears) := rfl
theorem ct_12_436 : am_ct 12 436 = some (0, 11, mX12_bringBack) := rfl
theorem ct_12_439 : am_ct 12 439 = some (0, 11, mX12_marksAll) := rfl
theorem ct_12_442 : am_ct 12 442 = some (1, 11, mX12_twoBits) := rfl
theorem ct_12_446 : am_ct 12 446 = some (0, 11, mX12_roomsIn) := rfl
theorem ct_12_449 : am_ct 12 449 = some (0, 11, mX12_leftBut) := rfl
theorem ct_12_452 : am_ct 12 452 = some (0, 11, mX12_canChoose) := rfl
theorem ct_12_455 : am_ct 12 455 = some (0, 11, mX12_gainOf) := rfl
theorem ct_12_459 : am_ct 12 459 = some (0, 11, mX12_isRest) := rfl
theorem ct_12_463 : am_ct 12 463 = some (0, 11, mX12_changesOf) := rfl
theorem ct_12_466 : am_ct 12 466 = some (0, 11, mX12_parentsOf) := rfl
theorem ct_12_469 : am_ct 12 469 = some (0, 11, mX12_stepsUp) := rfl
theorem ct_12_472 : am_ct 12 472 = some (0, 11, mX12_isOther) := rfl
theorem ct_12_479 : am_ct 12 479 = some (0, 11, mX12_sharedIf) := rfl
theorem ct_12_485 : am_ct 12 485 = some (0, 11, mX12_doesFit) := rfl
theorem ct_12_488 : am_ct 12 488 = some (0, 11, mX12_fits) := rfl
theorem ct_12_491 : am_ct 12 491 = some (0, 11, mX12_mostBy) := rfl
theorem ct_13_9 : am_ct 13 9 = some (2, 10, mX11_init) := rfl
theorem ct_13_12 : am_ct 13 12 = some (2, 11, mX12_init) := rfl
theorem ct_13_13 : am_ct 13 13 = some (0, 10, mX11_feed) := rfl
theorem ct_13_17 : am_ct 13 17 = some (0, 11, mX12_feed) := rfl
theorem ct_13_18 : am_ct 13 18 = some (0, 10, mX11_end) := rfl
theorem ct_13_22 : am_ct 13 22 = some (0, 11, mX12_end) := rfl
theorem ct_13_23 : am_ct 13 23 = some (0, 10, mX11_house) := rfl
theorem ct_13_27 : am_ct 13 27 = some (0, 11, mX12_house) := rfl
theorem ct_13_28 : am_ct 13 28 = some (0, 10, mX11_fault) := rfl
theorem ct_13_31 : am_ct 13 31 = some (0, 11, mX12_fault) := rfl
theorem ct_13_32 : am_ct 13 32 = some (0, 10, mX11_room) := rfl
theorem ct_13_36 : am_ct 13 36 = some (0, 11, mX12_room) := rfl
theorem ct_13_37 : am_ct 13 37 = some (0, 10, mX11_trunk) := rfl
theorem ct_13_40 : am_ct 13 40 = some (0, 11, mX12_trunk) := rfl
theorem ct_13_41 : am_ct 13 41 = some (0, 10, mX11_brood) := rfl
theorem ct_13_44 : am_ct 13 44 = some (0, 11, mX12_brood) := rfl
theorem ct_13_45 : am_ct 13 45 = some (0, 10, mX11_couple) := rfl
theorem ct_13_48 : am_ct 13 48 = some (0, 11, mX12_couple) := rfl
theorem ct_13_49 : am_ct 13 49 = some (0, 10, mX11_year) := rfl
theorem ct_13_52 : am_ct 13 52 = some (0, 11, mX12_year) := rfl
theorem ct_13_53 : am_ct 13 53 = some (0, 10, mX11_carry) := rfl
theorem ct_13_56 : am_ct 13 56 = some (0, 11, mX12_carry) := rfl
theorem ct_13_57 : am_ct 13 57 = some (0, 10, mX11_tell) := rfl
theorem ct_13_60 : am_ct 13 60 = some (0, 11, mX12_tell) := rfl
theorem ct_13_61 : am_ct 13 61 = some (0, 10, mX11_lose) := rfl
theorem ct_13_64 : am_ct 13 64 = some (0, 11, mX12_lose) := rfl
theorem ct_13_65 : am_ct 13 65 = some (0, 10, mX11_undo) := rfl
theorem ct_13_69 : am_ct 13 69 = some (0, 11, mX12_undo) := rfl
theorem ct_13_70 : am_ct 13 70 = some (0, 10, mX11_redo) := rfl
theorem ct_13_73 : am_ct 13 73 = some (0, 11, mX12_redo) := rfl
theorem ct_13_74 : am_ct 13 74 = some (0, 10, mX11_will) := rfl
theorem ct_13_78 : am_ct 13 78 = some (0, 11, mX12_will) := rfl
theorem ct_13_79 : am_ct 13 79 = some (0, 10, mX11_alive) := rfl
theorem ct_13_82 : am_ct 13 82 = some (0, 11, mX12_alive) := rfl
theorem ct_13_83 : am_ct 13 83 = some (0, 10, mX11_pack) := rfl
theorem ct_13_86 : am_ct 13 86 = some (0, 11, mX12_pack) := rfl
theorem ct_13_87 : am_ct 13 87 = some (0, 10, mX11_fill) := rfl
theorem ct_13_90 : am_ct 13 90 = some (0, 11, mX12_fill) := rfl
theorem ct_13_91 : am_ct 13 91 = some (0, 10, mX11_sires) := rfl
theorem ct_13_94 : am_ct 13 94 = some (0, 11, mX12_sires) := rfl
theorem ct_13_95 : am_ct 13 95 = some (0, 10, mX11_quartet) := rfl
theorem ct_13_98 : am_ct 13 98 = some (0, 11, mX12_quartet) := rfl
theorem ct_13_99 : am_ct 13 99 = some (0, 10, mX11_span) := rfl
theorem ct_13_102 : am_ct 13 102 = some (0, 11, mX12_span) := rfl
theorem ct_13_103 : am_ct 13 103 = some (0, 10, mX11_line) := rfl
theorem ct_13_106 : am_ct 13 106 = some (0, 11, mX12_line) := rfl
theorem ct_13_107 : am_ct 13 107 = some (0, 10, mX11_litter) := rfl
theorem ct_13_110 : am_ct 13 110 = some (0, 11, mX12_litter) := rfl
theorem ct_13_111 : am_ct 13 111 = some (0, 10, mX11_kin) := rfl
theorem ct_13_114 : am_ct 13 114 = some (0, 11, mX12_kin) := rfl
theorem ct_13_115 : am_ct 13 115 = some (0, 10, mX11_need) := rfl
theorem ct_13_118 : am_ct 13 118 = some (0, 11, mX12_need) := rfl
theorem ct_13_119 : am_ct 13 119 = some (0, 10, mX11_best) := rfl
theorem ct_13_122 : am_ct 13 122 = some (0, 11, mX12_best) := rfl
theorem ct_13_123 : am_ct 13 123 = some (0, 10, mX11_rivals) := rfl
theorem ct_13_126 : am_ct 13 126 = some (0, 11, mX12_rivals) := rfl
theorem ct_13_127 : am_ct 13 127 = some (0, 10, mX11_fading) := rfl
theorem ct_13_130 : am_ct 13 130 = some (0, 11, mX12_fading) := rfl
theorem ct_13_131 : am_ct 13 131 = some (0, 10, mX11_alike) := rfl
theorem ct_13_134 : am_ct 13 134 = some (0, 11, mX12_alike) := rfl
theorem ct_13_135 : am_ct 13 135 = some (0, 10, mX11_like) := rfl
theorem ct_13_138 : am_ct 13 138 = some (0, 11, mX12_like) := rfl
theorem ct_13_139 : am_ct 13 139 = some (0, 10, mX11_odd) := rfl
theorem ct_13_142 : am_ct 13 142 = some (0, 11, mX12_odd) := rfl
theorem ct_13_143 : am_ct 13 143 = some (0, 10, mX11_bearers) := rfl
theorem ct_13_146 : am_ct 13 146 = some (0, 11, mX12_bearers) := rfl
theorem ct_13_147 : am_ct 13 147 = some (0, 10, mX11_roomiest) := rfl
theorem ct_13_150 : am_ct 13 150 = some (0, 11, mX12_roomiest) := rfl
theorem ct_13_151 : am_ct 13 151 = some (0, 10, mX11_ripe) := rfl
theorem ct_13_154 : am_ct 13 154 = some (0, 11, mX12_ripe) := rfl
theorem ct_13_155 : am_ct 13 155 = some (0, 10, mX11_law) := rfl
theorem ct_13_158 : am_ct 13 158 = some (0, 11, mX12_law) := rfl
theorem ct_13_159 : am_ct 13 159 = some (0, 10, mX11_pining) := rfl
theorem ct_13_162 : am_ct 13 162 = some (0, 11, mX12_pining) := rfl
theorem ct_13_163 : am_ct 13 163 = some (0, 10, mX11_gone) := rfl
theorem ct_13_166 : am_ct 13 166 = some (0, 11, mX12_gone) := rfl
theorem ct_13_167 : am_ct 13 167 = some (0, 10, mX11_lies) := rfl
theorem ct_13_170 : am_ct 13 170 = some (0, 11, mX12_lies) := rfl
theorem ct_13_171 : am_ct 13 171 = some (0, 10, mX11_held) := rfl
theorem ct_13_175 : am_ct 13 175 = some (0, 11, mX12_held) := rfl
theorem ct_13_176 : am_ct 13 176 = some (0, 10, mX11_untell) := rfl
theorem ct_13_180 : am_ct 13 180 = some (0, 11, mX12_untell) := rfl
theorem ct_13_181 : am_ct 13 181 = some (0, 10, mX11_later) := rfl
theorem ct_13_184 : am_ct 13 184 = some (0, 11, mX12_later) := rfl
theorem ct_13_185 : am_ct 13 185 = some (0, 10, mX11_fits) := rfl
theorem ct_13_188 : am_ct 13 188 = some (0, 11, mX12_fits) := rfl
theorem ct_13_189 : am_ct 13 189 = some (0, 10, mX11_sure) := rfl
theorem ct_13_192 : am_ct 13 192 = some (0, 11, mX12_sure) := rfl
theorem ct_13_193 : am_ct 13 193 = some (0, 10, mX11_ask) := rfl
theorem ct_13_196 : am_ct 13 196 = some (0, 11, mX12_ask) := rfl
theorem ct_13_197 : am_ct 13 197 = some (0, 10, mX11_image) := rfl
theorem ct_13_200 : am_ct 13 200 = some (0, 11, mX12_image) := rfl
theorem ct_13_201 : am_ct 13 201 = some (0, 10, mX11_back) := rfl
theorem ct_13_204 : am_ct 13 204 = some (0, 11, mX12_back) := rfl
theorem ct_13_205 : am_ct 13 205 = some (0, 10, mX11_about) := rfl
theorem ct_13_208 : am_ct 13 208 = some (0, 11, mX12_about) := rfl
theorem k32_10_93 : am_k32 10 93 = some (-1000000000) := rfl
theorem k32_11_165 : am_k32 11 165 = some (-1000000000) := rfl
theorem k32_11_306 : am_k32 11 306 = some (100000) := rfl
theorem k32_12_414 : am_k32 12 414 = some (-1000000000) := rfl
theorem k32_12_445 : am_k32 12 445 = some (65536) := rfl
theorem k32_12_478 : am_k32 12 478 = some (100000) := rfl
theorem k32_14_265 : am_k32 14 265 = some (1431655765) := rfl
theorem k32_14_266 : am_k32 14 266 = some (858993459) := rfl
theorem k32_14_267 : am_k32 14 267 = some (252645135) := rfl
theorem k64_9_84 : am_k64 9 84 = some (32) := rfl
theorem k64_12_140 : am_k64 12 140 = some (1919905645) := rfl
theorem k64_12_142 : am_k64 12 142 = some (448545973363) := rfl
theorem k64_12_144 : am_k64 12 144 = some (500136504939) := rfl
theorem k64_12_146 : am_k64 12 146 = some (1651862635) := rfl
theorem k64_12_148 : am_k64 12 148 = some (24948) := rfl
theorem k64_12_150 : am_k64 12 150 = some (469786323827) := rfl
theorem k64_12_152 : am_k64 12 152 = some (1953459300) := rfl
theorem k64_12_154 : am_k64 12 154 = some (422826700644) := rfl
theorem k64_12_156 : am_k64 12 156 = some (482805179763) := rfl
theorem k64_12_158 : am_k64 12 158 = some (499850700147) := rfl
theorem k64_12_160 : am_k64 12 160 = some (1685217655) := rfl
theorem k64_12_162 : am_k64 12 162 = some (418430675813) := rfl
theorem k64_12_164 : am_k64 12 164 = some (1818584692) := rfl
theorem k64_12_166 : am_k64 12 166 = some (1835101817) := rfl
theorem k64_12_168 : am_k64 12 168 = some (2036687218) := rfl
theorem k64_12_170 : am_k64 12 170 = some (28530) := rfl
theorem k64_12_172 : am_k64 12 172 = some (6385252) := rfl
theorem k64_12_174 : am_k64 12 174 = some (7237492) := rfl
