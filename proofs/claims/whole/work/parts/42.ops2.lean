/-! calls that read a text -/
theorem x_noH {M : cb_Mem} {n j : Nat} (h : M 30 6 = nI n) (hn : n ≤ 8) (hj : j < n) : f_X6_isNoHead (nI j) M = nI 0 := by
  have o := v_isOff_in hj (by omega)
  simp only [f_X6_isNoHead, li, h, o, cb_let_eq, i_01]
theorem x_noHN {M : cb_Mem} {n : Nat} {p : Int32} (h : M 30 6 = nI n) (hn : n ≤ 8) (hj : ¬ (0 ≤ p.toInt ∧ p.toInt < (n : Nat))) : f_X6_isNoHead p M = nI 1 := by
  have o := v_isOff_out hj (by omega)
  simp only [f_X6_isNoHead, li, h, o, cb_let_eq, i_11]
theorem x_noC {M : cb_Mem} {n j : Nat} (h : M 31 6 = nI n) (hn : n ≤ 8) (hj : j < n) : f_X6_isNoCouple (nI j) M = nI 0 := by
  have o := v_isOff_in hj (by omega)
  simp only [f_X6_isNoCouple, li, h, o, cb_let_eq, i_01]
theorem x_noCN {M : cb_Mem} {n : Nat} {p : Int32} (h : M 31 6 = nI n) (hn : n ≤ 8) (hj : ¬ (0 ≤ p.toInt ∧ p.toInt < (n : Nat))) : f_X6_isNoCouple p M = nI 1 := by
  have o := v_isOff_out hj (by omega)
  simp only [f_X6_isNoCouple, li, h, o, cb_let_eq, i_11]
theorem cn_pred {n : Nat} (hn : n ≤ 8) : (nI n - nI 1).toInt = (n : Int) - 1 := by
  by_cases e : n = 0
  · subst e; decide
  · rw [cn_sub (by omega), cn_ti (by omega)]; omega
theorem lN_0 : (lN 0).toInt = 0 := by decide
theorem v_isH {M : cb_Mem} {n j : Nat} (h : M 0 7 = nI n) (hn : n ≤ 8) (hj : j < n) : f_X7_isHead (nI j) M = nI 1 := by
  simp only [f_X7_isHead, li, liL, h, cb_let_eq, v_in, Int32.toInt_toInt64, cn_pred hn, lN_0]
  rw [cn_ti (by omega), if_pos (by omega)]
  exact i_11
theorem v_isHN {M : cb_Mem} {n : Nat} {p : Int32} (h : M 0 7 = nI n) (hn : n ≤ 8) (hj : ¬ (0 ≤ p.toInt ∧ p.toInt < (n : Nat))) : f_X7_isHead p M = nI 0 := by
  simp only [f_X7_isHead, li, liL, h, cb_let_eq, v_in, Int32.toInt_toInt64, cn_pred hn, lN_0]
  rw [if_neg (by omega)]
  exact i_01
theorem v_isC {M : cb_Mem} {n j : Nat} (h : M 0 9 = nI n) (hn : n ≤ 8) (hj : j < n) : f_X7_isCouple (nI j) M = nI 1 := by
  simp only [f_X7_isCouple, li, liL, h, cb_let_eq, v_in, Int32.toInt_toInt64, cn_pred hn, lN_0]
  rw [cn_ti (by omega), if_pos (by omega)]
  exact i_11
theorem v_isCN {M : cb_Mem} {n : Nat} {p : Int32} (h : M 0 9 = nI n) (hn : n ≤ 8) (hj : ¬ (0 ≤ p.toInt ∧ p.toInt < (n : Nat))) : f_X7_isCouple p M = nI 0 := by
  simp only [f_X7_isCouple, li, liL, h, cb_let_eq, v_in, Int32.toInt_toInt64, cn_pred hn, lN_0]
  rw [if_neg (by omega)]
  exact i_01
theorem PH_PY {M M' : cb_Mem} (h : agr M M' PH) : agr M M' PY := h.mono fun k j q => by simp only [PH] at q; simp only [PY]; omega
theorem PC_PY {M M' : cb_Mem} (h : agr M M' PC) : agr M M' PY := h.mono fun k j q => by simp only [PC] at q; simp only [PY]; omega
theorem C_fault : cs_fault cRel := by
  rintro MX MY p1 ⟨A, hA, hX, hY⟩
  have hR : cRel MX MY := ⟨A, hA, hX, hY⟩
  rcases cn_range p1 2 with ⟨i, hi, rfl⟩ | h1
  · have o1 := v_isOff_in hi (by omega)
    have o3 := v_two hi
    rcases (show i = 0 ∨ i = 1 by omega) with e | e <;> subst e
    · obtain ⟨M1, f1, c1, d1, e1⟩ := m_readsHeads hY.1
      refine ⟨eO (flt 0 A.1.1), M1, ?_, ?_, A, hA, hX, hY.sc (PH_PY c1)⟩
      · have := hX.1.2.1
        simp (disch := first | omega | trivial) only [f_X6_fault, li, o1, cb_let_eq, if_pos, cn_in, cn_cl, this]
      · simp (disch := first | omega | trivial) only [f_X7_fault, li, o3, cb_let_eq, c_1n0, if_false, if_pos, f1, cb_bind2_eq]
    · obtain ⟨M1, f1, c1, d1, e1⟩ := m_readsCouples hY.2.1
      refine ⟨eO (flt 1 A.1.2), M1, ?_, ?_, A, hA, hX, hY.sc (PC_PY c1)⟩
      · have := hX.2.1.2.1
        simp (disch := first | omega | trivial) only [f_X6_fault, li, o1, cb_let_eq, if_pos, cn_in, cn_cl, this]
      · simp (disch := first | omega | trivial) only [f_X7_fault, li, o3, cb_let_eq, c_1n0, if_false, if_pos, f1, cb_bind2_eq]
  · have o1 := v_isOff_out h1 (by omega)
    have o3 := v_twoN h1
    refine ⟨-nI 2, MY, ?_, ?_, hR⟩
    · simp (disch := first | omega | trivial) only [f_X6_fault, li, o1, cb_let_eq, c_1n0, if_false]
    · simp (disch := first | omega | trivial) only [f_X7_fault, li, liL, o3, cb_let_eq, if_pos]
theorem C_head : cs_head cRel := by
  rintro MX MY p1 p2 ⟨A, hA, hX, hY⟩
  obtain ⟨M1, f1, c1, d1, e1⟩ := m_readsHeads hY.1
  have hR : cRel MX M1 := ⟨A, hA, hX, hY.sc (PH_PY c1)⟩
  have hn : pnN 0 A.1.1 ≤ 8 := (WF_FA hA (ch := none) (gm := 0)).1
  have hx := hX.1.2.2.1
  rcases cn_range p1 (pnN 0 A.1.1) with ⟨h, hh, rfl⟩ | h1
  · have o1 := x_noH hx hn hh
    have o3 := v_isH d1 hn hh
    obtain ⟨q1, q2, q3⟩ := hX.1.2.2.2 h hh
    obtain ⟨e3, e4⟩ := e1 h hh
    rcases cn_range p2 2 with ⟨i, hi, rfl⟩ | h2
    · have o2 := v_isOff_in hi (by omega)
      have o4 := v_two hi
      rcases (show i = 0 ∨ i = 1 by omega) with e | e <;> subst e
      · refine ⟨nI (pkN 0 A.1.1 h), M1, ?_, ?_, hR⟩
        · simp (disch := first | omega | trivial) only [f_X6_head, li, o1, o2, cb_let_eq, if_pos, cn_in, cn_cl]
          exact congrArg some q1
        · simp (disch := first | omega | trivial) only [f_X7_head, li, f1, cb_bind2_eq, o3, o4, cb_let_eq, c_1n0, if_false, if_pos, cn_mul, cn_add, cn_in, cn_cl, Nat.add_zero, e3]
      · refine ⟨nI (pdN 0 A.1.1 h), M1, ?_, ?_, hR⟩
        · simp (disch := first | omega | trivial) only [f_X6_head, li, o1, o2, cb_let_eq, if_pos, cn_in, cn_cl, c_1n0, if_false]
          exact congrArg some q2
        · simp (disch := first | omega | trivial) only [f_X7_head, li, f1, cb_bind2_eq, o3, o4, cb_let_eq, c_1n0, if_false, if_pos, cn_mul, cn_add, cn_in, cn_cl, e4]
    · have o2 := v_isOff_out h2 (by omega)
      have o4 := v_twoN h2
      refine ⟨-nI 2, M1, ?_, ?_, hR⟩
      · simp (disch := first | omega | trivial) only [f_X6_head, li, o1, o2, cb_let_eq, if_pos, c_1n0, if_false]
      · simp (disch := first | omega | trivial) only [f_X7_head, li, f1, cb_bind2_eq, o3, o4, cb_let_eq, c_1n0, if_false, if_pos]
  · have o1 := x_noHN hx hn h1
    have o3 := v_isHN d1 hn h1
    refine ⟨-nI 2, M1, ?_, ?_, hR⟩
    · simp (disch := first | omega | trivial) only [f_X6_head, li, o1, cb_let_eq, c_1n0, if_false]
    · simp (disch := first | omega | trivial) only [f_X7_head, li, f1, cb_bind2_eq, o3, cb_let_eq, if_pos]
theorem C_couple : cs_couple cRel := by
  rintro MX MY p1 p2 ⟨A, hA, hX, hY⟩
  obtain ⟨M1, f1, c1, d1, e1⟩ := m_readsCouples hY.2.1
  have hR : cRel MX M1 := ⟨A, hA, hX, hY.sc (PC_PY c1)⟩
  have hn : pnN 1 A.1.2 ≤ 8 := (WF_FA hA (ch := none) (gm := 0)).2.1
  have hx := hX.2.1.2.2.1
  rcases cn_range p1 (pnN 1 A.1.2) with ⟨h, hh, rfl⟩ | h1
  · have o1 := x_noC hx hn hh
    have o3 := v_isC d1 hn hh
    obtain ⟨q1, q2, q3⟩ := hX.2.1.2.2.2 h hh
    obtain ⟨e3, e4, e5⟩ := e1 h hh
    rcases cn_range p2 3 with ⟨i, hi, rfl⟩ | h2
    · have o2 := v_isOff_in hi (by omega)
      have o4 := v_in_in2 (j := i) (b := 2) (by omega) (by omega)
      rcases (show i = 0 ∨ i = 1 ∨ i = 2 by omega) with e | e | e <;> subst e
      · refine ⟨nI (pkN 1 A.1.2 h), M1, ?_, ?_, hR⟩
        · simp (disch := first | omega | trivial) only [f_X6_couple, li, o1, o2, cb_let_eq, if_pos, cn_in, cn_cl]
          exact congrArg some q1
        · simp (disch := first | omega | trivial) only [f_X7_couple, li, liL, f1, cb_bind2_eq, o3, o4, cb_let_eq, c_1n0, if_false, if_pos, cn_mul, cn_add, cn_in, cn_cl, Nat.add_zero, e3]
      · refine ⟨nI (pdN 1 A.1.2 h), M1, ?_, ?_, hR⟩
        · simp (disch := first | omega | trivial) only [f_X6_couple, li, o1, o2, cb_let_eq, if_pos, cn_in, cn_cl, c_1n0, if_false]
          exact congrArg some q2
        · simp (disch := first | omega | trivial) only [f_X7_couple, li, liL, f1, cb_bind2_eq, o3, o4, cb_let_eq, c_1n0, if_false, if_pos, cn_mul, cn_add, cn_in, cn_cl, e4]
      · refine ⟨nI (psN 1 A.1.2 h), M1, ?_, ?_, hR⟩
        · simp (disch := first | omega | trivial) only [f_X6_couple, li, o1, o2, cb_let_eq, if_pos, if_neg, cn_in, cn_cl, c_1n0, if_false, cn_eq]
          exact congrArg some q3
        · simp (disch := first | omega | trivial) only [f_X7_couple, li, liL, f1, cb_bind2_eq, o3, o4, cb_let_eq, c_1n0, if_false, if_pos, cn_mul, cn_add, cn_in, cn_cl, e5]
    · have o2 := v_isOff_out h2 (by omega)
      have o4 := v_in_out2 h2 (show 3 = 2 + 1 from rfl) (by omega)
      refine ⟨-nI 2, M1, ?_, ?_, hR⟩
      · simp (disch := first | omega | trivial) only [f_X6_couple, li, o1, o2, cb_let_eq, if_pos, c_1n0, if_false]
      · simp (disch := first | omega | trivial) only [f_X7_couple, li, liL, f1, cb_bind2_eq, o3, o4, cb_let_eq, c_1n0, if_false, if_pos]
  · have o1 := x_noCN hx hn h1
    have o3 := v_isCN d1 hn h1
    refine ⟨-nI 2, M1, ?_, ?_, hR⟩
    · simp (disch := first | omega | trivial) only [f_X6_couple, li, o1, cb_let_eq, c_1n0, if_false]
    · simp (disch := first | omega | trivial) only [f_X7_couple, li, f1, cb_bind2_eq, o3, cb_let_eq, if_pos]
