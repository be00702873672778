/-! sheets -/
abbrev SH : Type := Option (Nat × Nat × (Nat → Int32))
def setS (A : AS) (s : Nat) (o : SH) : AS := (A.1, A.2.1, A.2.2.1, A.2.2.2.1, fnU A.2.2.2.2.1 s o, A.2.2.2.2.2)
def setF (A : AS) (v : Int32) : AS := (A.1, A.2.1, A.2.2.1, A.2.2.2.1, A.2.2.2.2.1, v)
theorem XS_sh {M M' : cb_Mem} {A : AS} {s : Nat} {o : SH} (hs : s < 4) (h : XS M A) (ha : agr M M' (fun k _ => k = 42 + s ∨ k = 46 + s)) (hx : xSh M' s o) : XS M' (setS A s o) := by
  obtain ⟨a1, a2, a3, a4, a5, a6, a7, a8, a9⟩ := h
  refine ⟨a1.eq fun k j q => ha _ _ (by omega), a2.eq fun k j q => ha _ _ (by omega), a3.eq fun k j q => ha _ _ (by omega), a4.eq fun k j q => ha _ _ (by omega), a5.eq fun k j q => ha _ _ (by omega), a6.eq fun k j q => ha _ _ (by omega), fun t ht => ?_, by rw [ha _ _ (by omega)]; exact a8, a9.eq fun k j q => ha _ _ (by omega)⟩
  show xSh M' t (if t = s then o else A.2.2.2.2.1 t)
  by_cases e : t = s
  · rw [if_pos e, e]; exact hx
  · rw [if_neg e]; exact (a7 t ht).eq fun k j q => ha _ _ (by omega)
theorem YS_sh {M M' : cb_Mem} {A : AS} {s : Nat} {o : SH} (hA : AOK A) (hs : s < 4) (h : YS M A) (ha : agr M M' (fun k j => ((k = 1 ∨ k = 2) ∧ j = s) ∨ (k = 3 ∧ 60 * s ≤ j ∧ j < 60 * s + 60) ∨ k = 4)) (hx : ySh M' s o) : YS M' (setS A s o) := by
  obtain ⟨a1, a2, a3, a4, a5, a6, a7⟩ := h
  refine ⟨a1.eq fun k j q => ha _ _ (by omega), a2.eq fun k j q => ha _ _ (by omega), a3.eq fun k j q => ha _ _ (by omega), a4.eq fun k j q => ha _ _ (by omega), a5.eq fun k j q => ha _ _ (by omega), fun t ht => ?_, by rw [ha _ _ (by omega)]; exact a7⟩
  show ySh M' t (if t = s then o else A.2.2.2.2.1 t)
  by_cases e : t = s
  · rw [if_pos e, e]; exact hx
  · rw [if_neg e]
    have h1 := a6 t ht
    have h2 := hA.2.2.2.2.2 t ht
    cases ho : A.2.2.2.2.1 t with
    | none =>
      rw [ho] at h1
      show M' 1 t = _
      rw [ha _ _ (by omega)]; exact h1
    | some q =>
      rw [ho] at h1
      obtain ⟨c1, c2⟩ := h2 q ho
      obtain ⟨d1, d2, d3⟩ := h1
      exact ⟨by rw [ha _ _ (by omega)]; exact d1, by rw [ha _ _ (by omega)]; exact d2, fun j hj => by rw [ha _ _ (by omega)]; exact d3 j hj⟩
theorem AOK_sh {A : AS} {s : Nat} {o : SH} (hA : AOK A) (ho : ∀ q, o = some q → q.1 ≤ 2 ∧ q.2.1 ≤ 60) : AOK (setS A s o) := by
  obtain ⟨b1, b2, b3, b4, b5, b6⟩ := hA
  refine ⟨b1, b2, b3, b4, b5, fun t ht q hq => ?_⟩
  have hq' : (if t = s then o else A.2.2.2.2.1 t) = some q := hq
  by_cases e : t = s
  · rw [if_pos e] at hq'; exact ho q hq'
  · rw [if_neg e] at hq'; exact b6 t ht q hq'
theorem R_fd {MX MY : cb_Mem} {A : AS} (v : Int32) (hA : AOK A) (hX : XS MX A) (hY : YS MY A) : cRel (cb_up MX 0 10 v) (cb_up MY 0 4 v) := by
  obtain ⟨a1, a2, a3, a4, a5, a6, a7, a8, a9⟩ := hX
  obtain ⟨c1, c2, c3, c4, c5, c6, c7⟩ := hY
  have ex : ∀ k j, k ≠ 0 → (cb_up MX 0 10 v) k j = MX k j := fun k j q => by rw [cu, if_neg q]
  have ey : ∀ k j, k ≠ 0 ∨ j ≠ 4 → (cb_up MY 0 4 v) k j = MY k j := fun k j q => by
    rw [cu]
    by_cases e : k = 0
    · rw [if_pos e, if_neg (by omega)]
    · rw [if_neg e]
  refine ⟨setF A v, hA, ⟨a1.eq fun k j q => ex k j (by omega), a2.eq fun k j q => ex k j (by omega), a3.eq fun k j q => ex k j (by omega), a4.eq fun k j q => ex k j (by omega), a5.eq fun k j q => ex k j (by omega), a6.eq fun k j q => ex k j (by omega), fun s hs => (a7 s hs).eq fun k j q => ex k j (by omega), by rw [cu, if_pos rfl, if_pos rfl]; rfl, a9.eq fun k j q => ex k j (by omega)⟩, c1.eq fun k j q => ey k j (by omega), c2.eq fun k j q => ey k j (by omega), c3.eq fun k j q => ey k j (by omega), c4.eq fun k j q => ey k j (by omega), c5.eq fun k j q => ey k j (by omega), fun s hs => (c6 s hs).eq fun k j q => ey k j (by omega), by rw [cu, if_pos rfl, if_pos rfl]; rfl⟩
theorem v_found (e : Nat) (M : cb_Mem) : f_X6_found (nI e) M = (-nI 10 - nI e, cb_up M 0 10 (nI e)) := rfl
theorem v_finds (e : Nat) (M : cb_Mem) : f_X7_finds (nI e) M = (-nI 10 - nI e, cb_up M 0 4 (nI e)) := rfl
theorem x_lost0 {M : cb_Mem} {s n : Nat} (h : M (42 + s) 2 = nI n) (hn : n ≤ 60) : f_X3_isLost s M = nI 0 := by
  simp (disch := first | omega | trivial) only [f_X3_isLost, li, h, cn_le, if_pos]
theorem x_lost1 {M : cb_Mem} {s : Nat} (h : M (42 + s) 2 = -nI 1) : f_X3_isLost s M = nI 1 := by
  simp (disch := first | omega | trivial) only [f_X3_isLost, li, h, cn_le1, if_false]
theorem C_lose : cs_lose cRel := by
  rintro MX MY p1 ⟨A, hA, hX, hY⟩
  have hR : cRel MX MY := ⟨A, hA, hX, hY⟩
  rcases cn_range p1 4 with ⟨s, hs, rfl⟩ | h1
  · have o1 := v_isOff_in hs (by omega)
    have o3 := v_sheet hs
    have hx := hX.2.2.2.2.2.2.1 s hs
    have hy := hY.2.2.2.2.2.1 s hs
    have hb := hA.2.2.2.2.2 s hs
    cases ho : A.2.2.2.2.1 s with
    | none =>
      rw [ho] at hx hy
      have o5 := x_lost1 hx
      have hy' : MY 1 s = -nI 1 := hy
      refine ⟨-nI 10 - nI 1, _, _, ?_, ?_, R_fd (nI 1) hA hX hY⟩
      · simp (disch := first | omega | trivial) only [f_X6_lose, li, o1, cb_let_eq, if_pos, cn_in, cn_cl, o5, c_1n0, if_false, v_found, cb_let2_eq]
      · simp (disch := first | omega | trivial) only [f_X7_lose, li, o3, cb_let_eq, if_pos, cn_in, cn_cl, c_1n0, if_false, hy', cn_le1, v_finds, cb_let2_eq]
    | some q =>
      rw [ho] at hx hy
      obtain ⟨c1, c2⟩ := hb q ho
      obtain ⟨x1, x2, x3⟩ := hx
      obtain ⟨y1, y2, y3⟩ := hy
      have o5 := x_lost0 x2 c2
      refine ⟨nI q.2.1, cb_up MX (42 + s) 2 (-nI 1), cb_up MY 1 s (-nI 1), ?_, ?_, setS A s none, AOK_sh hA (fun q h => (by cases h)), XS_sh hs hX (agr.rf.up (by omega)) (by show _ = _; rw [cu, if_pos rfl, if_pos rfl]), YS_sh hA hs hY (agr.rf.up (by omega)) (by show _ = _; rw [cu, if_pos rfl, if_pos rfl])⟩
      · simp (disch := first | omega | trivial) only [f_X6_lose, li, o1, cb_let_eq, if_pos, cn_in, cn_cl, o5, x2]
      · have y4 : (cb_up MY 1 s (-nI 1)) 2 s = nI q.2.1 := by rw [cu, if_neg (by omega)]; exact y2
        simp (disch := first | omega | trivial) only [f_X7_lose, li, o3, cb_let_eq, if_pos, cn_in, cn_cl, c_1n0, if_false, y1, cn_le, y4]
  · have o1 := v_isOff_out h1 (by omega)
    have o3 := v_sheetN h1
    refine ⟨-nI 2, MX, MY, ?_, ?_, hR⟩
    · simp (disch := first | omega | trivial) only [f_X6_lose, li, o1, cb_let_eq, c_1n0, if_false]
    · simp (disch := first | omega | trivial) only [f_X7_lose, li, liL, o3, cb_let_eq, if_pos]
theorem y_sheetL {M : cb_Mem} {s n : Nat} (hs : s < 4) (hn : n ≤ 60) : ∃ M', f_X7_sheet_L55 cb_fuel (nI s) (nI n) (nI 0) M = some M' ∧ agr M M' (fun k j => k = 3 ∧ 60 * s ≤ j ∧ j < 60 * s + 60) ∧ ∀ j, j < n → M' 3 (60 * s + j) = nI 0 := by
  refine cb_loop0 (fun m k (t : cb_Mem) => f_X7_sheet_L55 m (nI s) (nI n) (nI k) t) (fun k t => agr M t (fun k j => k = 3 ∧ 60 * s ≤ j ∧ j < 60 * s + 60) ∧ ∀ j, j < k → t 3 (60 * s + j) = nI 0) n _ M (by omega) ⟨agr.rf, fun j h => absurd h (Nat.not_lt_zero j)⟩ ?_ ?_
  · rintro m t ⟨h1, h2⟩
    refine ⟨t, ?_, h1, h2⟩
    rw [f_X7_sheet_L55, if_pos (by rw [cn_le (by omega) (by omega)]; omega)]
  · rintro m k t hk ⟨h1, h2⟩
    right
    refine ⟨cb_up t 3 (60 * s + k) (nI 0), ⟨h1.up ⟨rfl, by omega, by omega⟩, fun j hj => ?_⟩, ?_⟩
    · rw [cu, if_pos rfl]
      by_cases e : j = k
      · rw [if_pos (by omega)]
      · rw [if_neg (by omega)]; exact h2 j (by omega)
    · simp (disch := first | omega | trivial) only [f_X7_sheet_L55, li, cn_le, if_neg, cn_mul, cn_add, cn_in, cn_cl, if_pos, cb_let_eq]
theorem C_sheet : cs_sheet cRel := by
  rintro MX MY p1 p2 p3 ⟨A, hA, hX, hY⟩
  have hR : cRel MX MY := ⟨A, hA, hX, hY⟩
  rcases cn_range p1 4 with ⟨s, hs, rfl⟩ | h1
  · have o1 := v_isOff_in hs (by omega)
    have o3 := v_sheet hs
    rcases cn_range p2 3 with ⟨f, hf, rfl⟩ | h2
    · have o2 := v_isOff_in hf (by omega)
      have o4 := v_in_in2 (j := f) (b := 2) (by omega) (by omega)
      rcases cn_range p3 61 with ⟨n, hn, rfl⟩ | h3
      · obtain ⟨M1, f1, a1, d1⟩ := x_fill (M := MX) (q := 46 + s) (z := 60) (v := nI 0) (by omega)
        obtain ⟨M2, f2, a2, d2⟩ := y_sheetL (M := cb_up (cb_up MY 1 s (nI f)) 2 s (nI n)) (n := n) hs (by omega)
        refine ⟨nI n, cb_up (cb_up M1 (42 + s) 1 (nI f)) (42 + s) 2 (nI n), M2, ?_, ?_, setS A s (some (f, n, fun _ => nI 0)), AOK_sh hA (fun q h => by cases h; exact ⟨by show f ≤ 2; omega, by show n ≤ 60; omega⟩), XS_sh hs hX (((a1.mono (fun k j q => Or.inr q.1)).up (by omega)).up (by omega)) ⟨?_, ?_, fun j hj => ?_⟩, YS_sh hA hs hY (((agr.rf.up (by omega)).up (by omega)).trans (a2.mono (fun k j q => by omega))) ⟨?_, ?_, d2⟩⟩
        · have fr : f_X3_renew s (nI f) (nI n) MX = some (cb_up (cb_up M1 (42 + s) 1 (nI f)) (42 + s) 2 (nI n)) := by
            rw [show f_X3_renew s (nI f) (nI n) MX = (f_J7_fill_53178 (46 + s) 60 (nI 0) MX).bind (fun M1 => some (cb_up (cb_up M1 (42 + s) 1 (nI f)) (42 + s) 2 (nI n))) from rfl, f1, Option.bind_some]
          simp (disch := first | omega | trivial) only [f_X6_sheet, li, o1, o2, cb_let_eq, if_pos, cn_le, cn_in, cn_cl, fr, Option.bind_some]
        · simp (disch := first | omega | trivial) only [f_X7_sheet, li, liL, o3, o4, cb_let_eq, c_1n0, if_false, if_pos, cn_le, cn_in, cn_cl, f2, Option.bind_some]
        · rw [cu, if_pos rfl, if_neg (by omega), cu, if_pos rfl, if_pos rfl]
        · rw [cu, if_pos rfl, if_pos rfl]
        · have hj' : j < n := hj
          rw [cu, if_neg (by omega), cu, if_neg (by omega)]; exact d1 j (by omega)
        · rw [a2 _ _ (by omega), cu, if_neg (by omega), cu, if_pos rfl, if_pos rfl]
        · rw [a2 _ _ (by omega), cu, if_pos rfl, if_pos rfl]
      · by_cases hneg : p3.toInt < 0
        · have e1 : (p3 ≤ nI 60) = True := eq_true (by rw [Int32.le_iff_toInt_le, cn_ti (by omega)]; omega)
          have e2 : (nI 0 ≤ p3) = False := eq_false (by rw [Int32.le_iff_toInt_le, cn_ti (by omega)]; omega)
          refine ⟨-nI 10 - nI 5, _, _, ?_, ?_, R_fd (nI 5) hA hX hY⟩
          · simp (disch := first | omega | trivial) only [f_X6_sheet, li, o1, o2, cb_let_eq, if_pos, e1, e2, if_true, if_false, v_found, cb_let2_eq]
          · simp (disch := first | omega | trivial) only [f_X7_sheet, li, liL, o3, o4, cb_let_eq, c_1n0, if_false, e1, e2, if_true, v_finds, cb_let2_eq]
        · have e1 : (p3 ≤ nI 60) = False := eq_false (by rw [Int32.le_iff_toInt_le, cn_ti (by omega)]; omega)
          refine ⟨-nI 2, MX, MY, ?_, ?_, hR⟩
          · simp (disch := first | omega | trivial) only [f_X6_sheet, li, o1, o2, cb_let_eq, if_pos, e1, if_false]
          · simp (disch := first | omega | trivial) only [f_X7_sheet, li, liL, o3, o4, cb_let_eq, c_1n0, if_false, e1]
    · have o2 := v_isOff_out h2 (by omega)
      have o4 := v_in_out2 h2 (show 3 = 2 + 1 from rfl) (by omega)
      refine ⟨-nI 2, MX, MY, ?_, ?_, hR⟩
      · simp (disch := first | omega | trivial) only [f_X6_sheet, li, o1, o2, cb_let_eq, if_pos, c_1n0, if_false]
      · simp (disch := first | omega | trivial) only [f_X7_sheet, li, liL, o3, o4, cb_let_eq, c_1n0, if_false, if_pos]
  · have o1 := v_isOff_out h1 (by omega)
    have o3 := v_sheetN h1
    refine ⟨-nI 2, MX, MY, ?_, ?_, hR⟩
    · simp (disch := first | omega | trivial) only [f_X6_sheet, li, o1, cb_let_eq, c_1n0, if_false]
    · simp (disch := first | omega | trivial) only [f_X7_sheet, li, liL, o3, cb_let_eq, if_pos]
theorem cn_pred60 {n : Nat} (hn : n ≤ 60) : (nI n - nI 1).toInt = (n : Int) - 1 := by
  by_cases e : n = 0
  · subst e; decide
  · rw [cn_sub (by omega), cn_ti (by omega)]; omega
theorem s_lacks {MX MY : cb_Mem} {A : AS} {s f : Nat} {p : Int32} (hs : s < 4) (hf : f < 3) (hA : AOK A) (hX : XS MX A) (hY : YS MY A) :
    (∃ e, (e = 1 ∨ e = 2 ∨ e = 3) ∧ f_X6_whatIsWrong s (nI f) p MX = nI e ∧ f_X7_lacks (nI s) (nI f) p MY = some (-nI 10 - nI e, cb_up MY 0 4 (nI e))) ∨ ∃ n it j, A.2.2.2.2.1 s = some (f, n, it) ∧ j < n ∧ p = nI j ∧ f_X6_whatIsWrong s (nI f) p MX = nI 0 ∧ f_X7_lacks (nI s) (nI f) p MY = some (nI 0, MY) := by
  have hx := hX.2.2.2.2.2.2.1 s hs
  have hy := hY.2.2.2.2.2.1 s hs
  have hb := hA.2.2.2.2.2 s hs
  cases ho : A.2.2.2.2.1 s with
  | none =>
    rw [ho] at hx hy
    have o5 := x_lost1 hx
    have hy' : MY 1 s = -nI 1 := hy
    refine Or.inl ⟨1, Or.inl rfl, ?_, ?_⟩
    · simp (disch := first | omega | trivial) only [f_X6_whatIsWrong, li, o5, cb_let_eq, c_1n0, if_false]
    · simp (disch := first | omega | trivial) only [f_X7_lacks, li, cn_in, cn_cl, if_pos, hy', cn_le1, if_false, v_finds, cb_let2_eq]
  | some q =>
    rw [ho] at hx hy
    obtain ⟨c1, c2⟩ := hb q ho
    obtain ⟨x1, x2, x3⟩ := hx
    obtain ⟨y1, y2, y3⟩ := hy
    have o5 := x_lost0 x2 c2
    by_cases hq : q.1 = f
    · rcases cn_range p q.2.1 with ⟨j, hj, rfl⟩ | h1
      · right
        refine ⟨q.2.1, q.2.2, j, by rw [← hq], hj, rfl, ?_, ?_⟩
        · have o1 := v_isOff_in hj (by omega)
          simp (disch := first | omega | trivial) only [f_X6_whatIsWrong, li, o5, cb_let_eq, if_pos, x1, x2, hq, o1]
        · have o1 : f_X7_in (nI j).toInt64 (lN 0) (nI q.2.1 - nI 1).toInt64 = nI 1 := by
            rw [v_in, Int32.toInt_toInt64, Int32.toInt_toInt64, cn_pred60 c2, lN_0, cn_ti (by omega), if_pos (by omega)]; rfl
          simp (disch := first | omega | trivial) only [f_X7_lacks, li, liL, cn_in, cn_cl, if_pos, y1, y2, cn_le, cn_eq, o1, cb_let_eq, if_neg]
      · refine Or.inl ⟨2, Or.inr (Or.inl rfl), ?_, ?_⟩
        · have o1 := v_isOff_out h1 (by omega)
          simp (disch := first | omega | trivial) only [f_X6_whatIsWrong, li, o5, cb_let_eq, if_pos, x1, x2, hq, o1, c_1n0, if_false]
        · have o1 : f_X7_in p.toInt64 (lN 0) (nI q.2.1 - nI 1).toInt64 = nI 0 := by
            rw [v_in, Int32.toInt_toInt64, Int32.toInt_toInt64, cn_pred60 c2, lN_0, if_neg (by omega)]; rfl
          simp (disch := first | omega | trivial) only [f_X7_lacks, li, liL, cn_in, cn_cl, if_pos, y1, y2, cn_le, cn_eq, o1, cb_let_eq, if_neg, v_finds, cb_let2_eq]
    · refine Or.inl ⟨3, Or.inr (Or.inr rfl), ?_, ?_⟩
      · simp (disch := first | omega | trivial) only [f_X6_whatIsWrong, li, o5, cb_let_eq, if_pos, x1, cn_eq, if_neg]
      · simp (disch := first | omega | trivial) only [f_X7_lacks, li, liL, cn_in, cn_cl, if_pos, y1, cn_le, cn_eq, if_neg, v_finds, cb_let2_eq]
theorem c_f0 {e : Nat} (h : e = 1 ∨ e = 2 ∨ e = 3) : (-nI 10 - nI e = nI 0) = False ∧ (nI e = nI 0) = False := by
  rcases h with rfl | rfl | rfl <;> constructor <;> apply eq_false <;> decide
def cutI (f : Nat) (v : Int32) : Int32 := if f = 0 then v.toInt8.toInt32 else if f = 1 then v.toInt16.toInt32 else v
theorem v_cut {f : Nat} (hf : f < 3) (v : Int32) : f_X7_cut (nI f) v = cutI f v := by
  simp (disch := first | omega | trivial) only [f_X7_cut, li, cn_eq]
  rfl
theorem x_put {M : cb_Mem} {s f n j : Nat} {v : Int32} (h1 : M (42 + s) 1 = nI f) (h2 : M (42 + s) 2 = nI n) (hf : f < 3) (hn : n ≤ 60) (hj : j < n) : f_X3_put s (nI j) v M = some (cb_up M (46 + s) j (cutI f v)) := by
  have o1 := v_isOff_in hj (by omega)
  have e : (if f = 0 then v.toInt8.toInt32 else if f = 1 then v.toInt16.toInt32 else v) = cutI f v := rfl
  simp (disch := first | omega | trivial) only [f_X3_put, li, h1, h2, o1, cb_let_eq, if_pos, cn_eq, e, cn_in, cn_cl]
