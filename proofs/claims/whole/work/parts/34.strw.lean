/-! String.length and charAt on the text, as the machine of 03 has them -/
theorem am_str {l : Launch} : am_strW l := by
  intro p e R s m args below meth c H locs cells slots Q cc pc ls rest bs sa hx hb hml hown hts hSF hz hS hfr hlo hce hsl hcat
  obtain ⟨-, ⟨adV, hE⟩, hZ, -⟩ := id hSF
  have hSFH : am_SF bs sa s H := hSF.kept hS.2.1
  have hzH : bs ≤ H.size := Nat.le_trans hz hS.1
  refine ⟨fun hd k => ?_, fun j hj hd k => ?_⟩
  · refine W.callR (r := 91) (W.runV (As := []) (rest := rest) ⟨hx, hb, hml, hown, hts⟩ (sm_len (l := l) (bs := bs) (sa := sa)) (cwV 0 hts (am_good (fun w hw => by
      rcases List.mem_append.mp hw with h | h
      · simp only [List.mem_cons, List.not_mem_nil, or_false] at h
        rcases h with rfl | rfl | rfl | rfl
        · exact sl_len
        · exact sg_len.2.2.1
        · exact sg_len.2.2.2
        · exact sg_len.2.1
      · exact am_sw2_in sg_len.1 w h)) rfl rfl rfl (by decide +kernel) ⟨by show 1 + 1 ≤ R.frames; omega, by show 8 + (1 + 11) + 30 ≤ R.locals; omega⟩) ⟨am_SPb, vk_recv hE (i := 0) (by decide) hS, fun U hU hW => ⟨rfl, by rw [hU]; exact hSFH.warm hW, by rw [hU]; exact hzH⟩⟩ rfl rfl rfl rfl (lv_room hcat) hd ⟨hce, hsl⟩) (k locs hS)
  · refine W.callR (r := am_chr j.toNatClampNeg) (W.runV (As := [.int j]) (rest := rest) ⟨hx, hb, hml, hown, hts⟩ (sm_chr (l := l) (bs := bs) (sa := sa) hj) (cwV 1 hts (am_good (fun w hw => by
      rcases List.mem_append.mp hw with h | h
      · simp only [List.mem_cons, List.not_mem_nil, or_false] at h
        rcases h with rfl | rfl | rfl | rfl
        · exact sl_chr
        · exact sg_chr.2.2.1
        · exact sg_chr.2.2.2
        · exact sg_chr.2.1
      · exact am_sw2_in sg_chr.1 w h)) rfl rfl rfl (by decide +kernel) ⟨by show 3 + 1 ≤ R.frames; omega, by show 8 + (2 + 11) + 100 ≤ R.locals; omega⟩) ⟨am_SPb, vk_recv hE (i := 0) (by decide) hS, fun U hU hW => ⟨rfl, by rw [hU]; exact hSFH.warm hW, by rw [hU]; exact hzH⟩⟩ rfl rfl rfl rfl (lv_room hcat) hd ⟨hce, hsl⟩) (k locs hS)
