theorem C_back : cs_back cRel := by
  rintro MX MY p1 ⟨A, hA, hX, hY⟩
  have hR : cRel MX MY := ⟨A, hA, hX, hY⟩
  obtain ⟨b1, b2, b3, b4, b5, b6⟩ := hA
  obtain ⟨y1, y2, y3, y4, y5, y6, y7, y8⟩ := hY.2.2.1
  obtain ⟨z1, z2, z3, z4, z5⟩ := hY.2.2.2.1
  rcases cn_range p1 3 with ⟨i, hi, rfl⟩ | h1
  · have o1 := v_isOff_in hi (by omega)
    have o3 := v_in_in2 (j := i) (b := 2) (by omega) (by omega)
    rcases (show i = 0 ∨ i = 1 ∨ i = 2 by omega) with e | e | e <;> subst e
    · by_cases h0 : A.2.1.1.length = 0
      · have hd := x_drop0 (it := 12) (cap := 6) (by rw [← h0]; exact hX.2.2.1.1)
        refine ⟨-nI 3, MX, MY, ?_, ?_, hR⟩
        · simp (disch := first | omega | trivial) only [f_X6_back, li, o1, cb_let_eq, if_pos, hd, cb_let2_eq]
        · simp (disch := first | omega | trivial) only [f_X7_back, li, liL, o3, cb_let_eq, c_1n0, if_false, if_pos, if_neg, cn_in, cn_cl, cn_eq, Option.bind_some, y1, h0]
      · have hd := x_drop (it := 12) (cap := 6) hX.2.2.1.1 (by omega) (by omega)
        have hlen : (A.2.1.1.take (A.2.1.1.length - 1)).length = A.2.1.1.length - 1 := by rw [List.length_take]; omega
        refine ⟨nI (A.2.1.1.length - 1), cb_up MX 8 1 (nI (A.2.1.1.length - 1)), cb_up (cb_up (cb_up MY 0 13 (nI A.2.2.1.length)) 9 0 (nI (A.2.1.1.length - 1))) 9 1 (nI A.2.1.2.length), ?_, ?_, (A.1, (A.2.1.1.take (A.2.1.1.length - 1), A.2.1.2), A.2.2), ⟨b1, ⟨by rw [hlen]; omega, fun j hj => ?_⟩, b3, b4, b5, b6⟩, ?_, ?_⟩
        · simp (disch := first | omega | trivial) only [f_X6_back, li, o1, cb_let_eq, if_pos, hd, cb_let2_eq]
        · have q1 : (cb_up MY 0 13 (nI A.2.2.1.length)) 9 0 = nI A.2.1.1.length := by rw [cu, if_neg (by omega)]; exact y1
          have q2 : (cb_up (cb_up MY 0 13 (nI A.2.2.1.length)) 9 0 (nI (A.2.1.1.length - 1))) 9 1 = nI A.2.1.2.length := by rw [cu, if_pos rfl, if_neg (by omega), cu, if_neg (by omega)]; exact y4
          simp (disch := first | omega | trivial) only [f_X7_back, li, liL, o3, cb_let_eq, c_1n0, if_false, if_pos, if_neg, cn_in, cn_cl, cn_eq, Option.bind_some, y1, z1, cn_sub, Nat.sub_zero, q1, q2]
        · rw [hlen] at hj; rw [getD_take _ _ hj]; exact b2.2 j (by omega)
        · refine XS_w0 hX (agr.rf.up (by omega)) ?_
          rw [hlen]
          exact xR_take hX.2.2.1 (by omega) (by omega) (fun j hj => getD_take _ _ hj)
        · have hW : mW (cb_up (cb_up (cb_up MY 0 13 (nI A.2.2.1.length)) 9 0 (nI (A.2.1.1.length - 1))) 9 1 (nI A.2.1.2.length)) (A.2.1.1.take (A.2.1.1.length - 1)) A.2.1.2 none := by
            refine ⟨by rw [cu, if_pos rfl, if_neg (by omega), cu, if_pos rfl, if_pos rfl, hlen], by rw [hlen]; omega, fun j hj => ?_, by rw [cu, if_pos rfl, if_pos rfl], y5, fun j hj => ?_, by rw [cu, if_neg (by omega), cu, if_neg (by omega), cu, if_pos rfl, if_neg (by omega)]; exact y7, y8⟩
            · rw [hlen] at hj
              rw [cu, if_neg (by omega), cu, if_neg (by omega), cu, if_neg (by omega), getD_take _ _ hj]; exact y3 j (by omega)
            · rw [cu, if_neg (by omega), cu, if_neg (by omega), cu, if_neg (by omega)]; exact y6 j hj
          have hY1 : YS (cb_up MY 0 13 (nI A.2.2.1.length)) A := YS_rs hY (agr.rf.up (by omega)) ⟨by rw [cu, if_pos rfl, if_pos rfl], z2, fun k hk => by rw [cu, if_neg (by omega), cu, if_neg (by omega)]; exact z3 k hk, by rw [cu, if_pos rfl, if_neg (by omega)]; exact z4, z5⟩
          exact YS_w hY1 ((agr.rf.up (by omega)).up (by omega)) hW
    · by_cases h0 : A.2.1.2.length = 0
      · have hd := x_drop0 (it := 13) (cap := 6) (by rw [← h0]; exact hX.2.2.2.1.1)
        refine ⟨-nI 3, MX, MY, ?_, ?_, hR⟩
        · simp (disch := first | omega | trivial) only [f_X6_back, li, o1, cb_let_eq, if_pos, c_1n0, if_false, hd, cb_let2_eq]
        · simp (disch := first | omega | trivial) only [f_X7_back, li, liL, o3, cb_let_eq, c_1n0, if_false, if_pos, if_neg, cn_in, cn_cl, cn_eq, Option.bind_some, y4, h0]
      · have hd := x_drop (it := 13) (cap := 6) hX.2.2.2.1.1 (by omega) (by omega)
        have hlen : (A.2.1.2.take (A.2.1.2.length - 1)).length = A.2.1.2.length - 1 := by rw [List.length_take]; omega
        refine ⟨nI (A.2.1.2.length - 1), cb_up MX 9 1 (nI (A.2.1.2.length - 1)), cb_up (cb_up (cb_up MY 0 13 (nI A.2.2.1.length)) 9 0 (nI A.2.1.1.length)) 9 1 (nI (A.2.1.2.length - 1)), ?_, ?_, (A.1, (A.2.1.1, A.2.1.2.take (A.2.1.2.length - 1)), A.2.2), ⟨b1, b2, ⟨by rw [hlen]; omega, fun j hj => ?_⟩, b4, b5, b6⟩, ?_, ?_⟩
        · simp (disch := first | omega | trivial) only [f_X6_back, li, o1, cb_let_eq, if_pos, c_1n0, if_false, hd, cb_let2_eq]
        · have q1 : (cb_up MY 0 13 (nI A.2.2.1.length)) 9 0 = nI A.2.1.1.length := by rw [cu, if_neg (by omega)]; exact y1
          have q2 : (cb_up (cb_up MY 0 13 (nI A.2.2.1.length)) 9 0 (nI A.2.1.1.length)) 9 1 = nI A.2.1.2.length := by rw [cu, if_pos rfl, if_neg (by omega), cu, if_neg (by omega)]; exact y4
          simp (disch := first | omega | trivial) only [f_X7_back, li, liL, o3, cb_let_eq, c_1n0, if_false, if_pos, if_neg, cn_in, cn_cl, cn_eq, Option.bind_some, y4, z1, cn_sub, Nat.sub_zero, q1, q2]
        · rw [hlen] at hj; rw [getD_take _ _ hj]; exact b3.2 j (by omega)
        · refine XS_w1 hX (agr.rf.up (by omega)) ?_
          rw [hlen]
          exact xR_take hX.2.2.2.1 (by omega) (by omega) (fun j hj => getD_take _ _ hj)
        · have hW : mW (cb_up (cb_up (cb_up MY 0 13 (nI A.2.2.1.length)) 9 0 (nI A.2.1.1.length)) 9 1 (nI (A.2.1.2.length - 1))) A.2.1.1 (A.2.1.2.take (A.2.1.2.length - 1)) none := by
            refine ⟨by rw [cu, if_pos rfl, if_neg (by omega), cu, if_pos rfl, if_pos rfl], y2, fun j hj => ?_, by rw [cu, if_pos rfl, if_pos rfl, hlen], by rw [hlen]; omega, fun j hj => ?_, by rw [cu, if_neg (by omega), cu, if_neg (by omega), cu, if_pos rfl, if_neg (by omega)]; exact y7, y8⟩
            · rw [cu, if_neg (by omega), cu, if_neg (by omega), cu, if_neg (by omega)]; exact y3 j hj
            · rw [hlen] at hj
              rw [cu, if_neg (by omega), cu, if_neg (by omega), cu, if_neg (by omega), getD_take _ _ hj]; exact y6 j (by omega)
          have hY1 : YS (cb_up MY 0 13 (nI A.2.2.1.length)) A := YS_rs hY (agr.rf.up (by omega)) ⟨by rw [cu, if_pos rfl, if_pos rfl], z2, fun k hk => by rw [cu, if_neg (by omega), cu, if_neg (by omega)]; exact z3 k hk, by rw [cu, if_pos rfl, if_neg (by omega)]; exact z4, z5⟩
          exact YS_w hY1 ((agr.rf.up (by omega)).up (by omega)) hW
    · obtain ⟨N0, hN0⟩ : ∃ X, X = f_X0_forgetAll MX := ⟨_, rfl⟩
      have hN0' : N0 = cb_up MX 5 1 (-nI 1) := hN0
      have a0 : agr MX N0 (fun k j => k = 10 ∨ k = 14 ∨ (k = 5 ∧ j = 1)) := by rw [hN0']; exact agr.rf.up (by omega)
      have n5 : N0 5 1 = -nI 1 := by rw [hN0', cu, if_pos rfl, if_pos rfl]
      have nR : xR N0 10 14 A.2.2.1.length (rE A.2.2.1) := hX.2.2.2.2.1.eq fun k j q => by rw [hN0', cu, if_neg (by omega)]
      by_cases h0 : A.2.2.1.length = 0
      · have hd := x_drop0 (it := 14) (cap := 8) (by rw [← h0]; exact nR.1)
        refine ⟨-nI 3, N0, MY, ?_, ?_, A, ⟨b1, b2, b3, b4, b5, b6⟩, XS_rs hX a0 nR n5, hY⟩
        · simp (disch := first | omega | trivial) only [f_X6_back, li, o1, cb_let_eq, if_pos, if_neg, cn_eq, ← hN0, hd, cb_let2_eq]
        · simp (disch := first | omega | trivial) only [f_X7_back, li, liL, o3, cb_let_eq, c_1n0, if_false, if_pos, if_neg, cn_in, cn_cl, cn_eq, Option.bind_some, z1, h0]
      · have hd := x_drop (it := 14) (cap := 8) nR.1 (by omega) (by omega)
        have hlen : (A.2.2.1.take (A.2.2.1.length - 1)).length = A.2.2.1.length - 1 := by rw [List.length_take]; omega
        refine ⟨nI (A.2.2.1.length - 1), cb_up N0 10 1 (nI (A.2.2.1.length - 1)), cb_up (cb_up (cb_up MY 0 13 (nI (A.2.2.1.length - 1))) 9 0 (nI A.2.1.1.length)) 9 1 (nI A.2.1.2.length), ?_, ?_, (A.1, A.2.1, A.2.2.1.take (A.2.2.1.length - 1), A.2.2.2), ⟨b1, b2, b3, ⟨by rw [hlen]; omega, fun j hj => ?_⟩, b5, b6⟩, ?_, ?_⟩
        · simp (disch := first | omega | trivial) only [f_X6_back, li, o1, cb_let_eq, if_pos, if_neg, cn_eq, ← hN0, hd, cb_let2_eq]
        · have q1 : (cb_up MY 0 13 (nI (A.2.2.1.length - 1))) 9 0 = nI A.2.1.1.length := by rw [cu, if_neg (by omega)]; exact y1
          have q2 : (cb_up (cb_up MY 0 13 (nI (A.2.2.1.length - 1))) 9 0 (nI A.2.1.1.length)) 9 1 = nI A.2.1.2.length := by rw [cu, if_pos rfl, if_neg (by omega), cu, if_neg (by omega)]; exact y4
          simp (disch := first | omega | trivial) only [f_X7_back, li, liL, o3, cb_let_eq, c_1n0, if_false, if_pos, if_neg, cn_in, cn_cl, cn_eq, Option.bind_some, z1, cn_sub, Nat.sub_zero, q1, q2]
        · rw [hlen] at hj; rw [getD_take _ _ hj]; exact b4.2 j (by omega)
        · refine XS_rs hX (a0.up (by omega)) ?_ (by rw [cu, if_neg (by omega)]; exact n5)
          rw [hlen]
          exact xR_take nR (by omega) (by omega) (fun j hj => by unfold rE; rw [getD_take _ _ hj])
        · have hY1 : YS (cb_up MY 0 13 (nI (A.2.2.1.length - 1))) (A.1, A.2.1, A.2.2.1.take (A.2.2.1.length - 1), A.2.2.2) := YS_rs hY (agr.rf.up (by omega)) ⟨by rw [cu, if_pos rfl, if_pos rfl, hlen], by rw [hlen]; omega, fun k hk => by rw [hlen] at hk; rw [cu, if_neg (by omega), cu, if_neg (by omega), getD_take _ _ hk]; exact z3 k (by omega), by rw [cu, if_pos rfl, if_neg (by omega)]; exact z4, z5⟩
          refine YS_w hY1 ((agr.rf.up (by omega)).up (by omega)) ⟨by rw [cu, if_pos rfl, if_neg (by omega), cu, if_pos rfl, if_pos rfl], y2, fun j hj => ?_, by rw [cu, if_pos rfl, if_pos rfl], y5, fun j hj => ?_, by rw [cu, if_neg (by omega), cu, if_neg (by omega), cu, if_pos rfl, if_neg (by omega)]; exact y7, y8⟩
          · rw [cu, if_neg (by omega), cu, if_neg (by omega), cu, if_neg (by omega)]; exact y3 j hj
          · rw [cu, if_neg (by omega), cu, if_neg (by omega), cu, if_neg (by omega)]; exact y6 j hj
  · have o1 := v_isOff_out h1 (by omega)
    have o3 := v_in_out2 h1 (show 3 = 2 + 1 from rfl) (by omega)
    refine ⟨-nI 2, MX, MY, ?_, ?_, hR⟩
    · simp (disch := first | omega | trivial) only [f_X6_back, li, o1, cb_let_eq, c_1n0, if_false]
    · simp (disch := first | omega | trivial) only [f_X7_back, li, liL, o3, cb_let_eq, if_pos]
