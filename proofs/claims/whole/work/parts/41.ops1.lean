/-! calls that change a text -/
theorem getD_snoc {α : Type} (l : List α) (x d : α) (j : Nat) : (l ++ [x]).getD j d = if j < l.length then l.getD j d else if j = l.length then x else d := by
  rw [List.getD_eq_getElem?_getD, List.getElem?_append]
  by_cases h : j < l.length
  · rw [if_pos h, if_pos h, List.getD_eq_getElem?_getD]
  · rw [if_neg h, if_neg h]
    by_cases e : j = l.length
    · rw [if_pos e, e]; simp
    · rw [if_neg e, List.getElem?_eq_none (by simp; omega)]; rfl
theorem getD_take {α : Type} (l : List α) (d : α) {n j : Nat} (h : j < n) : (l.take n).getD j d = l.getD j d := by
  rw [List.getD_eq_getElem?_getD, List.getElem?_take, if_pos h, List.getD_eq_getElem?_getD]
theorem x_add {M : cb_Mem} {k it cap n : Nat} {v : Int32} (hn : M k 1 = nI n) (h : n < cap) (hc : cap < 100) (hk : k ≠ it) : f_X2_add k it cap v M = some (nI (n + 1), cb_up (cb_up M it n v) k 1 (nI (n + 1))) := by
  have e : (cb_up M it n v) k 1 = nI n := by rw [cu, if_neg hk]; exact hn
  have e2 : (cb_up (cb_up M it n v) k 1 (nI (n + 1))) k 1 = nI (n + 1) := by rw [cu, if_pos rfl, if_pos rfl]
  have e0 : Int32.ofNat cap = nI cap := rfl
  simp (disch := first | omega | trivial) only [f_X2_add, li, hn, e0, cn_lt, if_pos, cn_in, cn_cl, cb_let_eq, e, cn_add, e2]
theorem x_addF {M : cb_Mem} {k it cap n : Nat} {v : Int32} (hn : M k 1 = nI n) (h : n = cap) (hc : cap < 100) : f_X2_add k it cap v M = some (-nI 4, M) := by
  have e0 : Int32.ofNat cap = nI cap := rfl
  simp (disch := first | omega | trivial) only [f_X2_add, li, hn, e0, cn_lt, if_neg]
theorem x_drop {M : cb_Mem} {k it cap n : Nat} (hn : M k 1 = nI n) (h : 0 < n) (hc : n < 100) : f_X2_dropLast k it cap M = (nI (n - 1), cb_up M k 1 (nI (n - 1))) := by
  have e2 : (cb_up M k 1 (nI (n - 1))) k 1 = nI (n - 1) := by rw [cu, if_pos rfl, if_pos rfl]
  simp (disch := first | omega | trivial) only [f_X2_dropLast, li, hn, cn_eq, if_neg, cb_let_eq, cn_sub, e2]
theorem x_drop0 {M : cb_Mem} {k it cap : Nat} (hn : M k 1 = nI 0) : f_X2_dropLast k it cap M = (-nI 3, M) := by
  simp (disch := first | omega | trivial) only [f_X2_dropLast, li, hn, cn_eq, if_pos]
def aT (A : AS) (i : Nat) : List Nat := if i = 0 then A.1.1 else A.1.2
def setT (A : AS) (i : Nat) (l : List Nat) : AS := if i = 0 then ((l, A.1.2), A.2) else ((A.1.1, l), A.2)
def QX (i k j : Nat) : Prop := (k = 5 ∧ j = 1) ∨ k = 30 + i ∨ k = 32 + i ∨ k = 34 + i ∨ k = 36 + i ∨ k = 38 + i ∨ k = 40 + i
def QY (i k j : Nat) : Prop := (k = 6 ∧ j = i) ∨ (k = 5 ∧ 40 * i ≤ j ∧ j < 40 * i + 40)
theorem XS_setT {M M' : cb_Mem} {A : AS} {i : Nat} {l : List Nat} (hi : i < 2) (h : XS M A) (ha : agr M M' (QX i)) (hx : xX M' i l) (h5 : M' 5 1 = -nI 1) : XS M' (setT A i l) := by
  obtain ⟨a1, a2, a3, a4, a5, a6, a7, a8, a9⟩ := h
  have r : xR M' 8 12 A.2.1.1.length (fun j => A.2.1.1.getD j 0) ∧ xR M' 9 13 A.2.1.2.length (fun j => A.2.1.2.getD j 0) ∧ xR M' 10 14 A.2.2.1.length (rE A.2.2.1) ∧ xR M' 11 15 A.2.2.2.1.length (sE A.2.2.2.1) ∧ (∀ s, s < 4 → xSh M' s (A.2.2.2.2.1 s)) ∧ M' 0 10 = A.2.2.2.2.2 :=
    ⟨a3.eq fun k j q => ha _ _ (by simp only [QX]; omega), a4.eq fun k j q => ha _ _ (by simp only [QX]; omega), a5.eq fun k j q => ha _ _ (by simp only [QX]; omega), a6.eq fun k j q => ha _ _ (by simp only [QX]; omega), fun s hs => (a7 s hs).eq fun k j q => ha _ _ (by simp only [QX]; omega), by rw [ha _ _ (by simp only [QX]; omega)]; exact a8⟩
  obtain ⟨r1, r2, r3, r4, r5, r6⟩ := r
  rcases (show i = 0 ∨ i = 1 by omega) with e | e <;> subst e
  · exact ⟨hx, a2.eq fun k j q => ha _ _ (by simp only [QX]; omega), r1, r2, r3, r4, r5, r6, Or.inl h5⟩
  · exact ⟨a1.eq fun k j q => ha _ _ (by simp only [QX]; omega), hx, r1, r2, r3, r4, r5, r6, Or.inl h5⟩
theorem YS_setT {M M' : cb_Mem} {A : AS} {i : Nat} {l : List Nat} (hi : i < 2) (h : YS M A) (ha : agr M M' (QY i)) (hx : yT M' i l) : YS M' (setT A i l) := by
  obtain ⟨a1, a2, a3, a4, a5, a6, a7⟩ := h
  have r : mW M' A.2.1.1 A.2.1.2 none ∧ mR M' A.2.2.1 0 ∧ ySg M' A.2.2.2.1 ∧ (∀ s, s < 4 → ySh M' s (A.2.2.2.2.1 s)) ∧ M' 0 4 = A.2.2.2.2.2 :=
    ⟨a3.eq fun k j q => ha _ _ (by simp only [QY]; omega), a4.eq fun k j q => ha _ _ (by simp only [QY]; omega), a5.eq fun k j q => ha _ _ (by simp only [QY]; omega), fun s hs => (a6 s hs).eq fun k j q => ha _ _ (by simp only [QY]; omega), by rw [ha _ _ (by simp only [QY]; omega)]; exact a7⟩
  rcases (show i = 0 ∨ i = 1 by omega) with e | e <;> subst e
  · refine ⟨hx, ⟨?_, a2.2.1, fun j hj => ?_⟩, r⟩
    · rw [ha _ _ (by simp only [QY]; omega)]; exact a2.1
    · rw [ha _ _ (by simp only [QY]; omega)]; exact a2.2.2 j hj
  · refine ⟨⟨?_, a1.2.1, fun j hj => ?_⟩, hx, r⟩
    · rw [ha _ _ (by simp only [QY]; omega)]; exact a1.1
    · have h31 : A.1.1.length ≤ 31 := a1.2.1
      have hj' : j < A.1.1.length := hj
      rw [ha _ _ (by simp only [QY]; omega)]; exact a1.2.2 j hj
theorem AOK_setT {A : AS} {i : Nat} {l : List Nat} (hi : i < 2) (h : AOK A) (hl : l.length ≤ cx_cap i) : AOK (setT A i l) := by
  obtain ⟨⟨b1, b2⟩, b⟩ := h
  rcases (show i = 0 ∨ i = 1 by omega) with e | e <;> subst e
  · exact ⟨⟨hl, b2⟩, b⟩
  · exact ⟨⟨b1, hl⟩, b⟩
theorem aT_x {M : cb_Mem} {A : AS} {i : Nat} (hi : i < 2) (h : XS M A) : xX M i (aT A i) := by
  rcases (show i = 0 ∨ i = 1 by omega) with e | e <;> subst e
  · exact h.1
  · exact h.2.1
theorem aT_y {M : cb_Mem} {A : AS} {i : Nat} (hi : i < 2) (h : YS M A) : yT M i (aT A i) := by
  rcases (show i = 0 ∨ i = 1 by omega) with e | e <;> subst e
  · exact h.1
  · exact h.2.1
theorem s_text {MX MY MX1 MY1 : cb_Mem} {A : AS} {i : Nat} {l : List Nat} (hi : i < 2) (hA : AOK A) (hX : XS MX A) (hY : YS MY A) (hx : agr MX MX1 (QX i)) (h5 : MX1 5 1 = -nI 1) (hT : xT MX1 i l) (hy : agr MY MY1 (QY i)) (hyT : yT MY1 i l) : ∃ MX2, f_X4_parse i MX1 = some MX2 ∧ cRel MX2 MY1 := by
  obtain ⟨MX2, f2, a2, p2⟩ := x_parse hi hT
  refine ⟨MX2, f2, setT A i l, AOK_setT hi hA hT.2.2.1, XS_setT hi hX (hx.trans (a2.mono fun k j q => by simp only [PT] at q; simp only [QX]; omega)) ⟨hT.agr a2 (by simp only [PT]; omega) (by simp only [PT]; omega) (by intro j; simp only [PT]; omega), p2⟩ (by rw [a2 _ _ (by simp only [PT]; omega)]; exact h5), YS_setT hi hY hy hyT⟩
theorem v_in_out2 {p : Int32} {n b : Nat} (h : ¬ (0 ≤ p.toInt ∧ p.toInt < (n : Nat))) (hn : n = b + 1) (hb : b < 2147483648) : f_X7_in p.toInt64 (lN 0) (lN b) = nI 0 := by
  apply v_in_out (b := b)
  · subst hn
    intro z
    exact h ⟨z.1, by omega⟩
  · exact hb
theorem v_in_in2 {j b : Nat} (h : j ≤ b) (hb : b < 2147483648) : f_X7_in (nI j).toInt64 (lN 0) (lN b) = nI 1 := v_in_in h hb
theorem i_11 : nI 1 &&& nI 1 = nI 1 := by decide
theorem i_01 : nI 0 &&& nI 1 = nI 0 := by decide
theorem v_two {i : Nat} (hi : i < 2) : f_X7_isTwo (nI i) = nI 1 := by
  simp (disch := first | omega | trivial) only [f_X7_isTwo, li, liL, v_in_in2, cb_let_eq, i_11]
theorem v_twoN {p : Int32} (h : ¬ (0 ≤ p.toInt ∧ p.toInt < (2 : Nat))) : f_X7_isTwo p = nI 0 := by
  simp only [f_X7_isTwo, li, liL, v_in_out2 h (show 2 = 1 + 1 from rfl) (by omega), cb_let_eq, i_01]
theorem v_day {i : Nat} (hi : i < 40) : f_X7_isDay (nI i) = nI 1 := by
  simp (disch := first | omega | trivial) only [f_X7_isDay, li, liL, v_in_in2, cb_let_eq, i_11]
theorem v_dayN {p : Int32} (h : ¬ (0 ≤ p.toInt ∧ p.toInt < (40 : Nat))) : f_X7_isDay p = nI 0 := by
  simp only [f_X7_isDay, li, liL, v_in_out2 h (show 40 = 39 + 1 from rfl) (by omega), cb_let_eq, i_01]
theorem v_sheet {i : Nat} (hi : i < 4) : f_X7_isSheet (nI i) = nI 1 := by
  simp (disch := first | omega | trivial) only [f_X7_isSheet, li, liL, v_in_in2, cb_let_eq, i_11]
theorem v_sheetN {p : Int32} (h : ¬ (0 ≤ p.toInt ∧ p.toInt < (4 : Nat))) : f_X7_isSheet p = nI 0 := by
  simp only [f_X7_isSheet, li, liL, v_in_out2 h (show 4 = 3 + 1 from rfl) (by omega), cb_let_eq, i_01]
theorem c_1n0 : (nI 1 = nI 0) = False := by rw [cn_eq (by omega) (by omega)]; decide
theorem C_type : cs_type cRel := by
  rintro MX MY p1 p2 ⟨A, hA, hX, hY⟩
  have hR : cRel MX MY := ⟨A, hA, hX, hY⟩
  rcases cn_range p1 2 with ⟨i, hi, rfl⟩ | h1
  · rcases cn_range p2 256 with ⟨b, hb, rfl⟩ | h2
    · have o1 := v_isOff_in hi (by omega)
      have o2 := v_isOff_in hb (by omega)
      have o3 := v_two hi
      have o4 := v_in_in2 (j := b) (b := 255) (by omega) (by omega)
      have hx := (aT_x hi hX).1
      have hy := aT_y hi hY
      have hcap := cap_lt i
      generalize aT A i = l at hx hy
      obtain ⟨x1, x2, x3, x4⟩ := hx
      obtain ⟨y1, y2, y3⟩ := hy
      have hc : (if nI i = nI 0 then nI 31 else nI 39) = nI (cx_cap i) := by
        unfold cx_cap
        by_cases e : i = 0
        · rw [if_pos (by rw [e]), if_pos e]
        · rw [if_neg (by rw [cn_eq (by omega) (by omega)]; exact e), if_neg e]
      have hc2 : (if i = 0 then nI 31 else nI 39) = nI (cx_cap i) := by
        unfold cx_cap
        by_cases e : i = 0
        · rw [if_pos e, if_pos e]
        · rw [if_neg e, if_neg e]
      obtain ⟨N0, hN0⟩ : ∃ X, X = f_X0_forgetAll MX := ⟨_, rfl⟩
      have hN0' : N0 = cb_up MX 5 1 (-nI 1) := hN0
      have a0 : agr MX N0 (QX i) := by rw [hN0']; exact agr.rf.up (by simp [QX])
      have n1 : N0 (32 + i) 1 = nI l.length := by rw [hN0', cu, if_neg (by omega)]; exact x2
      have xT0 : xT N0 i l := ⟨by rw [hN0', cu, if_neg (by omega)]; exact x1, n1, x3, fun j hj => by rw [hN0', cu, if_neg (by omega)]; exact x4 j hj⟩
      have n5 : N0 5 1 = -nI 1 := by rw [hN0', cu, if_pos rfl, if_pos rfl]
      by_cases hfull : l.length = cx_cap i
      · obtain ⟨MX2, f2, r2⟩ := s_text hi hA hX hY a0 n5 xT0 agr.rf ⟨y1, y2, y3⟩
        have hadd := x_addF (M := N0) (k := 32 + i) (it := 34 + i) (v := nI b) n1 hfull (by omega)
        refine ⟨-nI 4, MX2, MY, ?_, ?_, r2⟩
        · simp (disch := first | omega | trivial) only [f_X6_type, li, o1, o2, cb_let_eq, if_pos, cn_in, cn_cl, f_X4_append, ← hN0, hadd, cb_bind2_eq, f2, Option.bind_some]
        · simp (disch := first | omega | trivial) only [f_X7_type, li, liL, o3, o4, cb_let_eq, c_1n0, if_false, if_pos, cn_in, cn_cl, hc, y1, hfull]
      · have hl : l.length < cx_cap i := by omega
        have hadd := x_add (M := N0) (k := 32 + i) (it := 34 + i) (v := nI b) n1 hl (by omega) (by omega)
        obtain ⟨MX2, f2, r2⟩ := s_text (MX1 := cb_up (cb_up N0 (34 + i) l.length (nI b)) (32 + i) 1 (nI (l.length + 1))) (MY1 := cb_up (cb_up MY 5 (40 * i + l.length) (nI b)) 6 i (nI (l.length + 1))) (l := l ++ [b]) hi hA hX hY ((a0.up (by simp [QX])).up (by simp [QX])) (by rw [cu, if_neg (by omega), cu, if_neg (by omega)]; exact n5) (by
            refine ⟨?_, ?_, by rw [List.length_append]; exact hl, fun j hj => ?_⟩
            · rw [cu, if_neg (by omega), cu, if_neg (by omega)]; exact xT0.1
            · rw [cu, if_pos rfl, if_pos rfl, List.length_append]; rfl
            · rw [List.length_append] at hj
              have hj2 : j < l.length + 1 := hj
              rw [cu, if_neg (by omega), cu, if_pos rfl, getD_snoc]
              by_cases e : j = l.length
              · rw [if_pos e, if_neg (by omega), if_pos e]; exact ⟨rfl, hb⟩
              · rw [if_neg e, if_pos (by omega)]; exact xT0.2.2.2 j (by omega)) ((agr.rf.up (Or.inr ⟨rfl, by omega, by omega⟩)).up (Or.inl ⟨rfl, rfl⟩)) (by
            refine ⟨?_, by rw [List.length_append]; exact hl, fun j hj => ?_⟩
            · rw [cu, if_pos rfl, if_pos rfl, List.length_append]; rfl
            · rw [List.length_append] at hj
              have hj2 : j < l.length + 1 := hj
              rw [cu, if_neg (by omega), cu, if_pos rfl, getD_snoc]
              by_cases e : j = l.length
              · rw [if_pos (by omega), if_neg (by omega), if_pos e]; exact ⟨rfl, hb⟩
              · rw [if_neg (by omega), if_pos (by omega)]; exact y3 j (by omega))
        refine ⟨nI (l.length + 1), MX2, _, ?_, ?_, r2⟩
        · simp (disch := first | omega | trivial) only [f_X6_type, li, o1, o2, cb_let_eq, if_pos, cn_in, cn_cl, f_X4_append, ← hN0, hadd, cb_bind2_eq, f2, Option.bind_some]
        · have y6 : (cb_up MY 5 (40 * i + l.length) (nI b)) 6 i = nI l.length := by rw [cu, if_neg (by omega)]; exact y1
          have y7 : (cb_up (cb_up MY 5 (40 * i + l.length) (nI b)) 6 i (nI (l.length + 1))) 6 i = nI (l.length + 1) := by rw [cu, if_pos rfl, if_pos rfl]
          simp (disch := first | omega | trivial) only [f_X7_type, li, liL, o3, o4, cb_let_eq, c_1n0, if_false, if_pos, if_neg, cn_in, cn_cl, hc, hc2, y1, cn_eq, cn_mul, cn_add, y6, y7]
    · have o1 := v_isOff_in hi (by omega)
      have o2 := v_isOff_out h2 (by omega)
      have o3 := v_two hi
      have o4 := v_in_out2 h2 (show 256 = 255 + 1 from rfl) (by omega)
      refine ⟨-nI 2, MX, MY, ?_, ?_, hR⟩
      · simp (disch := first | omega | trivial) only [f_X6_type, li, o1, o2, cb_let_eq, if_pos, c_1n0, if_false]
      · simp (disch := first | omega | trivial) only [f_X7_type, li, liL, o3, o4, cb_let_eq, c_1n0, if_false, if_pos]
  · have o1 := v_isOff_out h1 (by omega)
    have o3 := v_twoN h1
    refine ⟨-nI 2, MX, MY, ?_, ?_, hR⟩
    · simp (disch := first | omega | trivial) only [f_X6_type, li, o1, cb_let_eq, c_1n0, if_false]
    · simp (disch := first | omega | trivial) only [f_X7_type, li, liL, o3, cb_let_eq, if_pos]
theorem C_wipe : cs_wipe cRel := by
  rintro MX MY p1 ⟨A, hA, hX, hY⟩
  have hR : cRel MX MY := ⟨A, hA, hX, hY⟩
  rcases cn_range p1 2 with ⟨i, hi, rfl⟩ | h1
  · have o1 := v_isOff_in hi (by omega)
    have o3 := v_two hi
    have hx := (aT_x hi hX).1
    have hy := aT_y hi hY
    have hcap := cap_lt i
    generalize aT A i = l at hx hy
    obtain ⟨x1, x2, x3, x4⟩ := hx
    obtain ⟨y1, y2, y3⟩ := hy
    obtain ⟨N0, hN0⟩ : ∃ X, X = f_X0_forgetAll MX := ⟨_, rfl⟩
    have hN0' : N0 = cb_up MX 5 1 (-nI 1) := hN0
    have a0 : agr MX N0 (QX i) := by rw [hN0']; exact agr.rf.up (by simp [QX])
    have n1 : N0 (32 + i) 1 = nI l.length := by rw [hN0', cu, if_neg (by omega)]; exact x2
    have n2 : N0 (30 + i) 2 = nI (2 + i) := by rw [hN0', cu, if_neg (by omega)]; exact x1
    have n5 : N0 5 1 = -nI 1 := by rw [hN0', cu, if_pos rfl, if_pos rfl]
    obtain ⟨MX2, f2, r2⟩ := s_text (MX1 := cb_up N0 (32 + i) 1 (nI 0)) (MY1 := cb_up MY 6 i (nI 0)) (l := []) hi hA hX hY (a0.up (by simp [QX])) (by rw [cu, if_neg (by omega)]; exact n5) ⟨by rw [cu, if_neg (by omega)]; exact n2, by rw [cu, if_pos rfl, if_pos rfl]; rfl, Nat.zero_le _, fun j hj => absurd hj (Nat.not_lt_zero j)⟩ (agr.rf.up (by simp [QY])) ⟨by rw [cu, if_pos rfl, if_pos rfl]; rfl, Nat.zero_le _, fun j hj => absurd hj (Nat.not_lt_zero j)⟩
    refine ⟨nI l.length, MX2, _, ?_, ?_, r2⟩
    · simp (disch := first | omega | trivial) only [f_X6_wipe, li, o1, cb_let_eq, if_pos, cn_in, cn_cl, f_X4_empty, ← hN0, f_X2_clear, n1, cb_let2_eq, cb_bind2_eq, f2, Option.bind_some]
    · simp (disch := first | omega | trivial) only [f_X7_wipe, li, o3, cb_let_eq, c_1n0, if_false, if_pos, cn_in, cn_cl, y1]
  · have o1 := v_isOff_out h1 (by omega)
    have o3 := v_twoN h1
    refine ⟨-nI 2, MX, MY, ?_, ?_, hR⟩
    · simp (disch := first | omega | trivial) only [f_X6_wipe, li, o1, cb_let_eq, c_1n0, if_false]
    · simp (disch := first | omega | trivial) only [f_X7_wipe, li, liL, o3, cb_let_eq, if_pos]
theorem C_undo : cs_undo cRel := by
  rintro MX MY p1 ⟨A, hA, hX, hY⟩
  have hR : cRel MX MY := ⟨A, hA, hX, hY⟩
  rcases cn_range p1 2 with ⟨i, hi, rfl⟩ | h1
  · have o1 := v_isOff_in hi (by omega)
    have o3 := v_two hi
    have hx := (aT_x hi hX).1
    have hy := aT_y hi hY
    have hcap := cap_lt i
    generalize aT A i = l at hx hy
    obtain ⟨x1, x2, x3, x4⟩ := hx
    obtain ⟨y1, y2, y3⟩ := hy
    obtain ⟨N0, hN0⟩ : ∃ X, X = f_X0_forgetAll MX := ⟨_, rfl⟩
    have hN0' : N0 = cb_up MX 5 1 (-nI 1) := hN0
    have a0 : agr MX N0 (QX i) := by rw [hN0']; exact agr.rf.up (by simp [QX])
    have n1 : N0 (32 + i) 1 = nI l.length := by rw [hN0', cu, if_neg (by omega)]; exact x2
    have xT0 : xT N0 i l := ⟨by rw [hN0', cu, if_neg (by omega)]; exact x1, n1, x3, fun j hj => by rw [hN0', cu, if_neg (by omega)]; exact x4 j hj⟩
    have n5 : N0 5 1 = -nI 1 := by rw [hN0', cu, if_pos rfl, if_pos rfl]
    by_cases h0 : l.length = 0
    · obtain ⟨MX2, f2, r2⟩ := s_text hi hA hX hY a0 n5 xT0 agr.rf ⟨y1, y2, y3⟩
      rw [h0] at n1 y1
      have hd := x_drop0 (it := 34 + i) (cap := cx_cap i) n1
      refine ⟨-nI 3, MX2, MY, ?_, ?_, r2⟩
      · simp (disch := first | omega | trivial) only [f_X6_undo, li, o1, cb_let_eq, if_pos, cn_in, cn_cl, f_X4_dropLast, ← hN0, hd, cb_let2_eq, cb_bind2_eq, f2, Option.bind_some]
      · simp (disch := first | omega | trivial) only [f_X7_undo, li, o3, cb_let_eq, c_1n0, if_false, if_pos, if_neg, cn_in, cn_cl, y1, cn_eq]
    · have hd := x_drop (it := 34 + i) (cap := cx_cap i) n1 (by omega) (by omega)
      have hlen : (l.take (l.length - 1)).length = l.length - 1 := by rw [List.length_take]; omega
      obtain ⟨MX2, f2, r2⟩ := s_text (MX1 := cb_up N0 (32 + i) 1 (nI (l.length - 1))) (MY1 := cb_up MY 6 i (nI (l.length - 1))) (l := l.take (l.length - 1)) hi hA hX hY (a0.up (by simp [QX])) (by rw [cu, if_neg (by omega)]; exact n5) ⟨by rw [cu, if_neg (by omega)]; exact xT0.1, by rw [cu, if_pos rfl, if_pos rfl, hlen], by rw [hlen]; omega, fun j hj => by
        rw [hlen] at hj
        rw [cu, if_neg (by omega), getD_take _ _ hj]
        exact xT0.2.2.2 j (by omega)⟩ (agr.rf.up (by simp [QY])) ⟨by rw [cu, if_pos rfl, if_pos rfl, hlen], by rw [hlen]; omega, fun j hj => by
        rw [hlen] at hj
        rw [cu, if_neg (by omega), getD_take _ _ hj]
        exact y3 j (by omega)⟩
      refine ⟨nI (l.length - 1), MX2, _, ?_, ?_, r2⟩
      · simp (disch := first | omega | trivial) only [f_X6_undo, li, o1, cb_let_eq, if_pos, cn_in, cn_cl, f_X4_dropLast, ← hN0, hd, cb_let2_eq, cb_bind2_eq, f2, Option.bind_some]
      · have y7 : (cb_up MY 6 i (nI (l.length - 1))) 6 i = nI (l.length - 1) := by rw [cu, if_pos rfl, if_pos rfl]
        simp (disch := first | omega | trivial) only [f_X7_undo, li, o3, cb_let_eq, c_1n0, if_false, if_pos, if_neg, cn_in, cn_cl, y1, cn_eq, cn_sub, y7]
  · have o1 := v_isOff_out h1 (by omega)
    have o3 := v_twoN h1
    refine ⟨-nI 2, MX, MY, ?_, ?_, hR⟩
    · simp (disch := first | omega | trivial) only [f_X6_undo, li, o1, cb_let_eq, c_1n0, if_false]
    · simp (disch := first | omega | trivial) only [f_X7_undo, li, liL, o3, cb_let_eq, if_pos]
