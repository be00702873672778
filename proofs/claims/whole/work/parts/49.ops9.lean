theorem s_read {sh : Nat → SH} {s n : Nat} {f : Nat} {it : Nat → Int32} (hs : s < 4) (ho : sh s = some (f, n, it)) (hn : n ≤ 60) : ∀ (d k m m' : Nat) (MX MY : cb_Mem), n ≤ 2 * k + 2 * d + 1 → 2 * k ≤ n → d < m → d + 1 < m' → cRelS sh MX MY → ∃ r MX' MY', (f_X6_read_L36 m s (nI k) (nI (2 * k)) MX = some (Sum.inl (r, MX')) ∨ f_X6_read_L36 m s (nI k) (nI (2 * k)) MX = some (Sum.inr (r, MX'))) ∧ f_X7_read_L29 m' (nI s) (nI k) (nI 1) MY = some (r, MY') ∧ cRelS sh MX' MY' := by
  intro d
  induction d with
  | zero =>
    intro k m m' MX MY h1 h2 h3 h4 hR
    obtain ⟨A, hA0, hA, hX, hY⟩ := hR
    have hx := hX.2.2.2.2.2.2.1 s hs
    have hy := hY.2.2.2.2.2.1 s hs
    rw [hA0, ho] at hx hy
    obtain ⟨x1, x2, x3⟩ := hx
    obtain ⟨y1, y2, y3⟩ := hy
    have x2' : MX (42 + s) 2 = nI n := x2
    have y2' : MY 2 s = nI n := y2
    obtain ⟨m, rfl⟩ : ∃ z, m = z + 1 := ⟨m - 1, by omega⟩
    obtain ⟨m', rfl⟩ : ∃ z, m' = z + 1 := ⟨m' - 1, by omega⟩
    refine ⟨nI k, MX, MY, Or.inr ?_, ?_, A, hA0, hA, hX, hY⟩
    · rw [f_X6_read_L36, x2', show (1 : Int32) = nI 1 from rfl, cn_add, if_pos (by rw [cn_le (by omega) (by omega)]; omega)]
    · rw [f_X7_read_L29, if_neg (by decide), if_pos (by rw [cn_in (by omega)]; omega), cn_cl (by omega), y2', show (2 : Int32) = nI 2 from rfl, cn_mul, cn_add, if_pos (by rw [cn_lt (by omega) (by omega)]; omega)]
  | succ d ih =>
    intro k m m' MX MY h1 h2 h3 h4 hR
    have hR0 := hR
    obtain ⟨A, hA0, hA, hX, hY⟩ := hR
    have hx := hX.2.2.2.2.2.2.1 s hs
    have hy := hY.2.2.2.2.2.1 s hs
    rw [hA0, ho] at hx hy
    obtain ⟨x1, x2, x3⟩ := hx
    obtain ⟨y1, y2, y3⟩ := hy
    have x2' : MX (42 + s) 2 = nI n := x2
    have y2' : MY 2 s = nI n := y2
    obtain ⟨m, rfl⟩ : ∃ z, m = z + 1 := ⟨m - 1, by omega⟩
    obtain ⟨m', rfl⟩ : ∃ z, m' = z + 1 := ⟨m' - 1, by omega⟩
    by_cases hend : n ≤ 2 * k + 1
    · refine ⟨nI k, MX, MY, Or.inr ?_, ?_, A, hA0, hA, hX, hY⟩
      · rw [f_X6_read_L36, x2', show (1 : Int32) = nI 1 from rfl, cn_add, if_pos (by rw [cn_le (by omega) (by omega)]; omega)]
      · rw [f_X7_read_L29, if_neg (by decide), if_pos (by rw [cn_in (by omega)]; omega), cn_cl (by omega), y2', show (2 : Int32) = nI 2 from rfl, cn_mul, cn_add, if_pos (by rw [cn_lt (by omega) (by omega)]; omega)]
    · have e1 := x3 (2 * k) (by show 2 * k < n; omega)
      have e2 := x3 (2 * k + 1) (by show 2 * k + 1 < n; omega)
      have e3 := y3 (2 * k) (by show 2 * k < n; omega)
      have e4 := y3 (2 * k + 1) (by show 2 * k + 1 < n; omega)
      have i1 := (x_item x2' hn (show 2 * k < n by omega)).trans (congrArg some e1)
      have i2 := (x_item x2' hn (show 2 * k + 1 < n by omega)).trans (congrArg some e2)
      obtain ⟨r, MX1, MY1, g1, g2, g3⟩ := C_rabbitS sh MX MY (it (2 * k)) (it (2 * k + 1)) hR0
      have e3' : MY 3 (60 * s + 2 * k) = it (2 * k) := e3
      have e4' : MY 3 (60 * s + 2 * k + 1) = it (2 * k + 1) := by rw [Nat.add_assoc]; exact e4
      have ux : f_X6_read_L36 (m + 1) s (nI k) (nI (2 * k)) MX = if 0 ≤ r then f_X6_read_L36 m s (nI (k + 1)) (nI (2 * (k + 1))) MX1 else some (Sum.inl (nI k, MX1)) := by
        rw [f_X6_read_L36, x2', show (1 : Int32) = nI 1 from rfl, show (2 : Int32) = nI 2 from rfl, cn_add, if_neg (by rw [cn_le (by omega) (by omega)]; omega), i1, Option.bind_some, i2, Option.bind_some]
        have g1' : f_X6_rabbit ((f, n, it).2.2 (2 * k)) ((f, n, it).2.2 (2 * k + 1)) MX = some (r, MX1) := g1
        rw [g1', cb_bind2_eq, cn_add, cn_add]
        rfl
      have uy : f_X7_read_L29 (m' + 1) (nI s) (nI k) (nI 1) MY = f_X7_read_L29 m' (nI s) (nI k + if (if r < 0 then (0 : Int32) else 1) = 0 then (0 : Int32) else 1) (if r < 0 then (0 : Int32) else 1) MY1 := by
        rw [f_X7_read_L29, if_neg (by decide), if_pos (by rw [cn_in (by omega)]; omega), cn_cl (by omega), y2', show (2 : Int32) = nI 2 from rfl, show (60 : Int32) = nI 60 from rfl, cn_mul, cn_mul, cn_add, cn_add, if_neg (by rw [cn_lt (by omega) (by omega)]; omega), if_pos (by rw [cn_in (by omega)]; omega), show nI (60 * s + 2 * k) + 1 = nI (60 * s + 2 * k + 1) from cn_add _ _, if_pos (by rw [cn_in (by omega)]; omega), cn_cl (by omega), cn_cl (by omega), e3', e4', g2, cb_bind2_eq]
        rfl
      by_cases hr : r.toInt < 0
      · obtain ⟨m', rfl⟩ : ∃ z, m' = z + 1 := ⟨m' - 1, by omega⟩
        refine ⟨nI k, MX1, MY1, Or.inl ?_, ?_, g3⟩
        · rw [ux, if_neg (by rw [Int32.le_iff_toInt_le, show (0 : Int32).toInt = 0 from rfl]; omega)]
        · rw [uy, if_pos (show r < 0 by rw [Int32.lt_iff_toInt_lt]; exact hr), if_pos rfl, f_X7_read_L29, if_pos rfl, show nI k + 0 = nI k from by rw [show (0 : Int32) = nI 0 from rfl, cn_add, Nat.add_zero]]
      · obtain ⟨r', MX2, MY2, k1, k2, k3⟩ := ih (k + 1) m m' MX1 MY1 (by omega) (by omega) (by omega) (by omega) g3
        refine ⟨r', MX2, MY2, ?_, ?_, k3⟩
        · rw [ux, if_pos (by rw [Int32.le_iff_toInt_le, show (0 : Int32).toInt = 0 from rfl]; omega)]
          exact k1
        · rw [uy, if_neg (show ¬ r < 0 by rw [Int32.lt_iff_toInt_lt]; exact hr), if_neg (by decide), show nI k + 1 = nI (k + 1) from cn_add k 1]
          exact k2
theorem C_read : cs_read cRel := by
  rintro MX MY p1 ⟨A, hA, hX, hY⟩
  have hR : cRel MX MY := ⟨A, hA, hX, hY⟩
  rcases cn_range p1 4 with ⟨s, hs, rfl⟩ | h1
  · have o1 := v_isOff_in hs (by omega)
    have o3 := v_sheet hs
    have hx := hX.2.2.2.2.2.2.1 s hs
    have hy := hY.2.2.2.2.2.1 s hs
    have hb := hA.2.2.2.2.2 s hs
    cases ho : A.2.2.2.2.1 s with
    | none =>
      rw [ho] at hx hy
      have o5 := x_lost1 hx
      have hy' : MY 1 s = -nI 1 := hy
      refine ⟨-nI 10 - nI 1, _, _, ?_, ?_, R_fd (nI 1) hA hX hY⟩
      · simp (disch := first | omega | trivial) only [f_X6_read, li, o1, cb_let_eq, if_pos, cn_in, cn_cl, o5, c_1n0, if_false, v_found, cb_let2_eq]
      · simp (disch := first | omega | trivial) only [f_X7_read, li, o3, cb_let_eq, if_pos, cn_in, cn_cl, c_1n0, if_false, hy', cn_le1, v_finds, cb_let2_eq]
    | some q =>
      rw [ho] at hx hy
      obtain ⟨c1, c2⟩ := hb q ho
      obtain ⟨x1, x2, x3⟩ := hx
      obtain ⟨y1, y2, y3⟩ := hy
      have o5 := x_lost0 x2 c2
      obtain ⟨r, MX', MY', g1, g2, A', -, g3⟩ := s_read (sh := A.2.2.2.2.1) (f := q.1) (n := q.2.1) (it := q.2.2) hs ho c2 30 0 cb_fuel cb_fuel MX MY (by omega) (by omega) (by unfold cb_fuel; omega) (by unfold cb_fuel; omega) ⟨A, rfl, hA, hX, hY⟩
      rw [Nat.mul_zero] at g1
      refine ⟨r, MX', MY', ?_, ?_, A', g3⟩
      · rcases g1 with g1 | g1
        · simp (disch := first | omega | trivial) only [f_X6_read, li, o1, cb_let_eq, if_pos, cn_in, cn_cl, o5, g1, cb_bs2_r]
        · simp (disch := first | omega | trivial) only [f_X6_read, li, o1, cb_let_eq, if_pos, cn_in, cn_cl, o5, g1, cb_bs2_k]
      · simp (disch := first | omega | trivial) only [f_X7_read, li, o3, cb_let_eq, if_pos, cn_in, cn_cl, c_1n0, if_false, y1, cn_le, g2, cb_bind2_eq]
  · have o1 := v_isOff_out h1 (by omega)
    have o3 := v_sheetN h1
    refine ⟨-nI 2, MX, MY, ?_, ?_, hR⟩
    · simp (disch := first | omega | trivial) only [f_X6_read, li, o1, cb_let_eq, c_1n0, if_false]
    · simp (disch := first | omega | trivial) only [f_X7_read, li, liL, o3, cb_let_eq, if_pos]
