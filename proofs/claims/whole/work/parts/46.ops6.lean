theorem tl1 {MX : cb_Mem} {s f e : Nat} {r p3 p4 : Int32} (hs : s < 4) (hf : f < 3) (g1 : f_X6_whatIsWrong s (nI f) p3 MX = nI e) (k2 : (nI e = nI 0) = False) (vf : f_X6_found (nI e) MX = (r, cb_up MX 0 10 (nI e))) : f_X6_lay (nI s) (nI f) p3 p4 MX = some (r, cb_up MX 0 10 (nI e)) := by
  have o1 := v_isOff_in hs (by omega)
  have o2 := v_isOff_in hf (by omega)
  simp (disch := first | omega | trivial) only [f_X6_lay, li, o1, o2, cb_let_eq, if_pos, cn_in, cn_cl, g1, k2, if_false, vf, cb_let2_eq]
theorem tl2 {MY M' : cb_Mem} {s f : Nat} {r p3 p4 : Int32} (hs : s < 4) (hf : f < 3) (g2 : f_X7_lacks (nI s) (nI f) p3 MY = some (r, M')) (k1 : (r = nI 0) = False) : f_X7_lay (nI s) (nI f) p3 p4 MY = some (r, M') := by
  have o3 := v_sheet hs
  have o4 := v_in_in2 (j := f) (b := 2) (by omega) (by omega)
  simp (disch := first | omega | trivial) only [f_X7_lay, li, liL, o3, o4, cb_let_eq, c_1n0, if_false, g2, cb_bind2_eq, k1]
theorem tl3 {MX MY : cb_Mem} {s f j : Nat} {p4 : Int32} (hs : s < 4) (hf : f < 3) (g1 : f_X6_whatIsWrong s (nI f) (nI j) MX = nI 0) (hput : f_X3_put s (nI j) p4 MX = some MY) : f_X6_lay (nI s) (nI f) (nI j) p4 MX = some (nI 1, MY) := by
  have o1 := v_isOff_in hs (by omega)
  have o2 := v_isOff_in hf (by omega)
  simp (disch := first | omega | trivial) only [f_X6_lay, li, o1, o2, cb_let_eq, if_pos, cn_in, cn_cl, g1, hput, Option.bind_some]
theorem tl4 {MY : cb_Mem} {s f j : Nat} {p4 v : Int32} (hs : s < 4) (hf : f < 3) (hj : j < 60) (g2 : f_X7_lacks (nI s) (nI f) (nI j) MY = some (nI 0, MY)) (hcut : f_X7_cut (nI f) p4 = v) : f_X7_lay (nI s) (nI f) (nI j) p4 MY = some (nI 1, cb_up MY 3 (60 * s + j) v) := by
  have o3 := v_sheet hs
  have o4 := v_in_in2 (j := f) (b := 2) (by omega) (by omega)
  simp (disch := first | omega | trivial) only [f_X7_lay, li, liL, o3, o4, cb_let_eq, c_1n0, if_false, g2, cb_bind2_eq, if_pos, hcut, cn_mul, cn_add, cn_in, cn_cl]
theorem tg1 {MX M' : cb_Mem} {s f e : Nat} {r p3 : Int32} (hs : s < 4) (hf : f < 3) (g1 : f_X6_whatIsWrong s (nI f) p3 MX = nI e) (k2 : (nI e = nI 0) = False) (vf : f_X6_found (nI e) MX = (r, M')) : f_X6_get (nI s) (nI f) p3 MX = some (-nI 2147483648, M') := by
  have o1 := v_isOff_in hs (by omega)
  have o2 := v_isOff_in hf (by omega)
  simp (disch := first | omega | trivial) only [f_X6_get, li, o1, o2, cb_let_eq, if_pos, cn_in, cn_cl, g1, k2, if_false, vf, cb_let2_eq]
theorem tg2 {MY M' : cb_Mem} {s f : Nat} {r p3 : Int32} (hs : s < 4) (hf : f < 3) (g2 : f_X7_lacks (nI s) (nI f) p3 MY = some (r, M')) (k1 : (r = nI 0) = False) : f_X7_get (nI s) (nI f) p3 MY = some (-nI 2147483648, M') := by
  have o3 := v_sheet hs
  have o4 := v_in_in2 (j := f) (b := 2) (by omega) (by omega)
  simp (disch := first | omega | trivial) only [f_X7_get, li, liL, o3, o4, cb_let_eq, c_1n0, if_false, g2, cb_bind2_eq, k1]
theorem tg3 {MX : cb_Mem} {s f j : Nat} {v : Int32} (hs : s < 4) (hf : f < 3) (g1 : f_X6_whatIsWrong s (nI f) (nI j) MX = nI 0) (hit : f_X3_itemAt s (nI j) MX = some v) : f_X6_get (nI s) (nI f) (nI j) MX = some (v, MX) := by
  have o1 := v_isOff_in hs (by omega)
  have o2 := v_isOff_in hf (by omega)
  simp (disch := first | omega | trivial) only [f_X6_get, li, o1, o2, cb_let_eq, if_pos, cn_in, cn_cl, g1, hit, Option.bind_some]
theorem tg4 {MY : cb_Mem} {s f j : Nat} (hs : s < 4) (hf : f < 3) (hj : j < 60) (g2 : f_X7_lacks (nI s) (nI f) (nI j) MY = some (nI 0, MY)) : f_X7_get (nI s) (nI f) (nI j) MY = some (MY 3 (60 * s + j), MY) := by
  have o3 := v_sheet hs
  have o4 := v_in_in2 (j := f) (b := 2) (by omega) (by omega)
  simp (disch := first | omega | trivial) only [f_X7_get, li, liL, o3, o4, cb_let_eq, c_1n0, if_false, g2, cb_bind2_eq, if_pos, cn_mul, cn_add, cn_in, cn_cl]
theorem C_lay : cs_lay cRel := by
  rintro MX MY p1 p2 p3 p4 ⟨A, hA, hX, hY⟩
  have hR : cRel MX MY := ⟨A, hA, hX, hY⟩
  rcases cn_range p1 4 with ⟨s, hs, rfl⟩ | h1
  · have o1 := v_isOff_in hs (by omega)
    have o3 := v_sheet hs
    rcases cn_range p2 3 with ⟨f, hf, rfl⟩ | h2
    · have o2 := v_isOff_in hf (by omega)
      have o4 := v_in_in2 (j := f) (b := 2) (by omega) (by omega)
      rcases s_lacks (p := p3) hs hf hA hX hY with ⟨e, he, g1, g2⟩ | ⟨n, it, j, ho, hj, rfl, g1, g2⟩
      · obtain ⟨k1, k2⟩ := c_f0 he
        have vf := v_found e MX
        generalize -nI 10 - nI e = r at g2 k1 vf
        refine ⟨r, _, _, ?_, ?_, R_fd (nI e) hA hX hY⟩
        · exact tl1 hs hf g1 k2 vf
        · exact tl2 hs hf g2 k1
      · have hx := hX.2.2.2.2.2.2.1 s hs
        have hy := hY.2.2.2.2.2.1 s hs
        have hb := hA.2.2.2.2.2 s hs _ ho
        rw [ho] at hx hy
        obtain ⟨x1, x2, x3⟩ := hx
        obtain ⟨y1, y2, y3⟩ := hy
        have hn : n ≤ 60 := hb.2
        have hput := x_put (v := p4) x1 x2 hf hn hj
        have hcut := v_cut hf p4
        refine ⟨nI 1, cb_up MX (46 + s) j (cutI f p4), cb_up MY 3 (60 * s + j) (cutI f p4), ?_, ?_, setS A s (some (f, n, fnU it j (cutI f p4))), AOK_sh hA (fun q h => by cases h; exact hb), XS_sh hs hX (agr.rf.up (Or.inr rfl)) ⟨?_, ?_, fun i hi => ?_⟩, YS_sh hA hs hY (agr.rf.up (by omega)) ⟨?_, ?_, fun i hi => ?_⟩⟩
        · exact tl3 hs hf g1 hput
        · exact tl4 hs hf (by omega) g2 hcut
        · rw [cu, if_neg (by omega)]; exact x1
        · rw [cu, if_neg (by omega)]; exact x2
        · rw [cu, if_pos rfl]
          show _ = if i = j then _ else _
          by_cases e : i = j
          · rw [if_pos e, if_pos e]
          · rw [if_neg e, if_neg e]; exact x3 i hi
        · rw [cu, if_neg (by omega)]; exact y1
        · rw [cu, if_neg (by omega)]; exact y2
        · rw [cu, if_pos rfl]
          show _ = if i = j then _ else _
          by_cases e : i = j
          · rw [if_pos (by omega), if_pos e]
          · rw [if_neg (by omega), if_neg e]; exact y3 i hi
    · have o2 := v_isOff_out h2 (by omega)
      have o4 := v_in_out2 h2 (show 3 = 2 + 1 from rfl) (by omega)
      refine ⟨-nI 2, MX, MY, ?_, ?_, hR⟩
      · simp (disch := first | omega | trivial) only [f_X6_lay, li, o1, o2, cb_let_eq, if_pos, c_1n0, if_false]
      · simp (disch := first | omega | trivial) only [f_X7_lay, li, liL, o3, o4, cb_let_eq, c_1n0, if_false, if_pos]
  · have o1 := v_isOff_out h1 (by omega)
    have o3 := v_sheetN h1
    refine ⟨-nI 2, MX, MY, ?_, ?_, hR⟩
    · simp (disch := first | omega | trivial) only [f_X6_lay, li, o1, cb_let_eq, c_1n0, if_false]
    · simp (disch := first | omega | trivial) only [f_X7_lay, li, liL, o3, cb_let_eq, if_pos]
theorem x_item {M : cb_Mem} {s n j : Nat} (h2 : M (42 + s) 2 = nI n) (hn : n ≤ 60) (hj : j < n) : f_X3_itemAt s (nI j) M = some (M (46 + s) j) := by
  have o1 := v_isOff_in hj (by omega)
  simp (disch := first | omega | trivial) only [f_X3_itemAt, li, h2, o1, cb_let_eq, if_pos, cn_in, cn_cl]
theorem C_get : cs_get cRel := by
  rintro MX MY p1 p2 p3 ⟨A, hA, hX, hY⟩
  have hR : cRel MX MY := ⟨A, hA, hX, hY⟩
  rcases cn_range p1 4 with ⟨s, hs, rfl⟩ | h1
  · have o1 := v_isOff_in hs (by omega)
    have o3 := v_sheet hs
    rcases cn_range p2 3 with ⟨f, hf, rfl⟩ | h2
    · have o2 := v_isOff_in hf (by omega)
      have o4 := v_in_in2 (j := f) (b := 2) (by omega) (by omega)
      rcases s_lacks (p := p3) hs hf hA hX hY with ⟨e, he, g1, g2⟩ | ⟨n, it, j, ho, hj, rfl, g1, g2⟩
      · obtain ⟨k1, k2⟩ := c_f0 he
        have vf := v_found e MX
        generalize -nI 10 - nI e = r at g2 k1 vf
        refine ⟨-nI 2147483648, _, _, ?_, ?_, R_fd (nI e) hA hX hY⟩
        · exact tg1 hs hf g1 k2 vf
        · exact tg2 hs hf g2 k1
      · have hx := hX.2.2.2.2.2.2.1 s hs
        have hy := hY.2.2.2.2.2.1 s hs
        have hb := hA.2.2.2.2.2 s hs _ ho
        rw [ho] at hx hy
        obtain ⟨x1, x2, x3⟩ := hx
        obtain ⟨y1, y2, y3⟩ := hy
        have hn : n ≤ 60 := hb.2
        have hit := x_item x2 hn hj
        have e1 := x3 j hj
        have e2 := y3 j hj
        refine ⟨it j, MX, MY, ?_, ?_, hR⟩
        · exact tg3 hs hf g1 (hit.trans (congrArg some e1))
        · exact (tg4 hs hf (by omega) g2).trans (congrArg (fun x => some (x, MY)) e2)
    · have o2 := v_isOff_out h2 (by omega)
      have o4 := v_in_out2 h2 (show 3 = 2 + 1 from rfl) (by omega)
      refine ⟨-nI 2147483648, MX, MY, ?_, ?_, hR⟩
      · simp (disch := first | omega | trivial) only [f_X6_get, li, o1, o2, cb_let_eq, if_pos, c_1n0, if_false]
      · simp (disch := first | omega | trivial) only [f_X7_get, li, liL, o3, o4, cb_let_eq, c_1n0, if_false, if_pos]
  · have o1 := v_isOff_out h1 (by omega)
    have o3 := v_sheetN h1
    refine ⟨-nI 2147483648, MX, MY, ?_, ?_, hR⟩
    · simp (disch := first | omega | trivial) only [f_X6_get, li, o1, cb_let_eq, c_1n0, if_false]
    · simp (disch := first | omega | trivial) only [f_X7_get, li, liL, o3, cb_let_eq, if_pos]
