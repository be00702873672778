/-! calls that change a row -/
theorem xR_snoc {M : cb_Mem} {k it n v : Nat} {f g : Nat → Nat} (h : xR M k it n f) (hk : k ≠ it) (hg : ∀ j, j < n → g j = f j) (hv : g n = v) : xR (cb_up (cb_up M it n (nI v)) k 1 (nI (n + 1))) k it (n + 1) g := by
  refine ⟨by rw [cu, if_pos rfl, if_pos rfl], fun j hj => ?_⟩
  rw [cu, if_neg (fun e => hk e.symm), cu, if_pos rfl]
  by_cases e : j = n
  · rw [if_pos e, e, hv]
  · rw [if_neg e, h.2 j (by omega), hg j (by omega)]
theorem xR_take {M : cb_Mem} {k it n m : Nat} {f g : Nat → Nat} (h : xR M k it n f) (hk : k ≠ it) (hm : m ≤ n) (hg : ∀ j, j < m → g j = f j) : xR (cb_up M k 1 (nI m)) k it m g := by
  refine ⟨by rw [cu, if_pos rfl, if_pos rfl], fun j hj => ?_⟩
  rw [cu, if_neg (fun e => hk e.symm), h.2 j (by omega), hg j hj]
theorem XS_w0 {M M' : cb_Mem} {A : AS} {l : List Nat} (h : XS M A) (ha : agr M M' (fun k _ => k = 8 ∨ k = 12)) (hx : xR M' 8 12 l.length (fun j => l.getD j 0)) : XS M' (A.1, (l, A.2.1.2), A.2.2) := by
  obtain ⟨a1, a2, a3, a4, a5, a6, a7, a8, a9⟩ := h
  exact ⟨a1.eq fun k j q => ha _ _ (by omega), a2.eq fun k j q => ha _ _ (by omega), hx, a4.eq fun k j q => ha _ _ (by omega), a5.eq fun k j q => ha _ _ (by omega), a6.eq fun k j q => ha _ _ (by omega), fun s hs => (a7 s hs).eq fun k j q => ha _ _ (by omega), by rw [ha _ _ (by omega)]; exact a8, a9.eq fun k j q => ha _ _ (by omega)⟩
theorem XS_w1 {M M' : cb_Mem} {A : AS} {l : List Nat} (h : XS M A) (ha : agr M M' (fun k _ => k = 9 ∨ k = 13)) (hx : xR M' 9 13 l.length (fun j => l.getD j 0)) : XS M' (A.1, (A.2.1.1, l), A.2.2) := by
  obtain ⟨a1, a2, a3, a4, a5, a6, a7, a8, a9⟩ := h
  exact ⟨a1.eq fun k j q => ha _ _ (by omega), a2.eq fun k j q => ha _ _ (by omega), a3.eq fun k j q => ha _ _ (by omega), hx, a5.eq fun k j q => ha _ _ (by omega), a6.eq fun k j q => ha _ _ (by omega), fun s hs => (a7 s hs).eq fun k j q => ha _ _ (by omega), by rw [ha _ _ (by omega)]; exact a8, a9.eq fun k j q => ha _ _ (by omega)⟩
theorem XS_rs {M M' : cb_Mem} {A : AS} {l : List (Nat × Nat)} (h : XS M A) (ha : agr M M' (fun k j => k = 10 ∨ k = 14 ∨ (k = 5 ∧ j = 1))) (hx : xR M' 10 14 l.length (rE l)) (h5 : M' 5 1 = -nI 1) : XS M' (A.1, A.2.1, l, A.2.2.2) := by
  obtain ⟨a1, a2, a3, a4, a5, a6, a7, a8, a9⟩ := h
  exact ⟨a1.eq fun k j q => ha _ _ (by omega), a2.eq fun k j q => ha _ _ (by omega), a3.eq fun k j q => ha _ _ (by omega), a4.eq fun k j q => ha _ _ (by omega), hx, a6.eq fun k j q => ha _ _ (by omega), fun s hs => (a7 s hs).eq fun k j q => ha _ _ (by omega), by rw [ha _ _ (by omega)]; exact a8, Or.inl h5⟩
theorem XS_sg {M M' : cb_Mem} {A : AS} {l : List (Nat × Nat)} (h : XS M A) (ha : agr M M' (fun k _ => k = 11 ∨ k = 15)) (hx : xR M' 11 15 l.length (sE l)) : XS M' (A.1, A.2.1, A.2.2.1, l, A.2.2.2.2) := by
  obtain ⟨a1, a2, a3, a4, a5, a6, a7, a8, a9⟩ := h
  exact ⟨a1.eq fun k j q => ha _ _ (by omega), a2.eq fun k j q => ha _ _ (by omega), a3.eq fun k j q => ha _ _ (by omega), a4.eq fun k j q => ha _ _ (by omega), a5.eq fun k j q => ha _ _ (by omega), hx, fun s hs => (a7 s hs).eq fun k j q => ha _ _ (by omega), by rw [ha _ _ (by omega)]; exact a8, a9.eq fun k j q => ha _ _ (by omega)⟩
theorem YS_w {M M' : cb_Mem} {A : AS} {l0 l1 : List Nat} (h : YS M A) (ha : agr M M' (fun k j => k = 9 ∨ k = 10 ∨ (k = 0 ∧ j = 16))) (hx : mW M' l0 l1 none) : YS M' (A.1, (l0, l1), A.2.2) := by
  obtain ⟨a1, a2, a3, a4, a5, a6, a7⟩ := h
  exact ⟨a1.eq fun k j q => ha _ _ (by omega), a2.eq fun k j q => ha _ _ (by omega), hx, a4.eq fun k j q => ha _ _ (by omega), a5.eq fun k j q => ha _ _ (by omega), fun s hs => (a6 s hs).eq fun k j q => ha _ _ (by omega), by rw [ha _ _ (by omega)]; exact a7⟩
theorem YS_rs {M M' : cb_Mem} {A : AS} {l : List (Nat × Nat)} (h : YS M A) (ha : agr M M' (fun k j => k = 11 ∨ (k = 0 ∧ (j = 13 ∨ j = 15)))) (hx : mR M' l 0) : YS M' (A.1, A.2.1, l, A.2.2.2) := by
  obtain ⟨a1, a2, a3, a4, a5, a6, a7⟩ := h
  exact ⟨a1.eq fun k j q => ha _ _ (by omega), a2.eq fun k j q => ha _ _ (by omega), a3.eq fun k j q => ha _ _ (by omega), hx, a5.eq fun k j q => ha _ _ (by omega), fun s hs => (a6 s hs).eq fun k j q => ha _ _ (by omega), by rw [ha _ _ (by omega)]; exact a7⟩
theorem YS_sg {M M' : cb_Mem} {A : AS} {l : List (Nat × Nat)} (h : YS M A) (ha : agr M M' (fun k j => k = 20 ∨ (k = 0 ∧ j = 27))) (hx : ySg M' l) : YS M' (A.1, A.2.1, A.2.2.1, l, A.2.2.2.2) := by
  obtain ⟨a1, a2, a3, a4, a5, a6, a7⟩ := h
  exact ⟨a1.eq fun k j q => ha _ _ (by omega), a2.eq fun k j q => ha _ _ (by omega), a3.eq fun k j q => ha _ _ (by omega), a4.eq fun k j q => ha _ _ (by omega), hx, fun s hs => (a6 s hs).eq fun k j q => ha _ _ (by omega), by rw [ha _ _ (by omega)]; exact a7⟩
theorem snoc_b {l : List Nat} {v n : Nat} (h : ∀ j, j < l.length → l.getD j 0 < n) (hv : v < n) : ∀ j, j < (l ++ [v]).length → (l ++ [v]).getD j 0 < n := by
  intro j hj
  rw [List.length_append] at hj
  have hj2 : j < l.length + 1 := hj
  rw [getD_snoc]
  by_cases e : j < l.length
  · rw [if_pos e]; exact h j e
  · rw [if_neg e, if_pos (by omega)]; exact hv
theorem snoc_len {α : Type} (l : List α) (v : α) : (l ++ [v]).length = l.length + 1 := List.length_append
theorem C_weather : cs_weather cRel := by
  rintro MX MY p1 p2 ⟨A, hA, hX, hY⟩
  have hR : cRel MX MY := ⟨A, hA, hX, hY⟩
  obtain ⟨b1, b2, b3, b4, b5, b6⟩ := hA
  obtain ⟨y1, y2, y3, y4, y5, y6, y7, y8⟩ := hY.2.2.1
  rcases cn_range p1 2 with ⟨i, hi, rfl⟩ | h1
  · have o1 := v_isOff_in hi (by omega)
    have o3 := v_two hi
    rcases (show i = 0 ∨ i = 1 by omega) with e | e <;> subst e
    · rcases cn_range p2 30 with ⟨b, hb, rfl⟩ | h2
      · have o2 := v_isOff_in hb (by omega)
        have o4 := v_in_in2 (j := b) (b := 29) (by omega) (by omega)
        by_cases hf : A.2.1.1.length = 6
        · have hadd := x_addF (it := 12) (v := nI b) hX.2.2.1.1 hf (by omega)
          refine ⟨-nI 4, MX, MY, ?_, ?_, hR⟩
          · simp (disch := first | omega | trivial) only [f_X6_weather, li, o1, o2, cb_let_eq, if_pos, hadd, cb_bind2_eq]
          · simp (disch := first | omega | trivial) only [f_X7_weather, li, liL, o3, o4, cb_let_eq, c_1n0, if_false, if_pos, cn_in, cn_cl, y1, hf]
        · have hadd := x_add (it := 12) (v := nI b) (cap := 6) hX.2.2.1.1 (by omega) (by omega) (by omega)
          refine ⟨nI (A.2.1.1.length + 1), cb_up (cb_up MX 12 A.2.1.1.length (nI b)) 8 1 (nI (A.2.1.1.length + 1)), cb_up (cb_up MY 10 A.2.1.1.length (nI b)) 9 0 (nI (A.2.1.1.length + 1)), ?_, ?_, (A.1, (A.2.1.1 ++ [b], A.2.1.2), A.2.2), ⟨b1, ⟨by rw [snoc_len]; omega, snoc_b b2.2 hb⟩, b3, b4, b5, b6⟩, ?_, ?_⟩
          · simp (disch := first | omega | trivial) only [f_X6_weather, li, o1, o2, cb_let_eq, if_pos, hadd, cb_bind2_eq]
          · have q1 : (cb_up MY 10 A.2.1.1.length (nI b)) 9 0 = nI A.2.1.1.length := by rw [cu, if_neg (by omega)]; exact y1
            have q2 : (cb_up (cb_up MY 10 A.2.1.1.length (nI b)) 9 0 (nI (A.2.1.1.length + 1))) 9 0 = nI (A.2.1.1.length + 1) := by rw [cu, if_pos rfl, if_pos rfl]
            simp (disch := first | omega | trivial) only [f_X7_weather, li, liL, o3, o4, cb_let_eq, c_1n0, if_false, if_pos, if_neg, cn_in, cn_cl, y1, cn_eq, cn_mul, cn_add, Nat.mul_zero, Nat.zero_add, q1, q2]
          · refine XS_w0 hX ((agr.rf.up (Or.inr rfl)).up (Or.inl rfl)) ?_
            rw [snoc_len]
            refine xR_snoc hX.2.2.1 (by omega) (fun j hj => ?_) ?_
            · show (A.2.1.1 ++ [b]).getD j 0 = _; rw [getD_snoc, if_pos hj]
            · show (A.2.1.1 ++ [b]).getD _ 0 = _; rw [getD_snoc, if_neg (by omega), if_pos rfl]
          · refine YS_w hY ((agr.rf.up (by omega)).up (by omega)) ⟨by rw [cu, if_pos rfl, if_pos rfl, snoc_len], by rw [snoc_len]; omega, fun j hj => ⟨?_, snoc_b b2.2 hb j hj⟩, by rw [cu, if_pos rfl, if_neg (by omega), cu, if_neg (by omega)]; exact y4, y5, fun j hj => ?_, by rw [cu, if_neg (by omega), cu, if_neg (by omega)]; exact y7, y8⟩
            · rw [snoc_len] at hj
              rw [cu, if_neg (by omega), cu, if_pos rfl, getD_snoc]
              by_cases e : j = A.2.1.1.length
              · rw [if_pos e, if_neg (by omega), if_pos e]
              · rw [if_neg e, if_pos (by omega)]; exact (y3 j (by omega)).1
            · rw [cu, if_neg (by omega), cu, if_pos rfl, if_neg (by omega)]; exact y6 j hj
      · have o2 := v_isOff_out h2 (by omega)
        have o4 := v_in_out2 h2 (show 30 = 29 + 1 from rfl) (by omega)
        refine ⟨-nI 2, MX, MY, ?_, ?_, hR⟩
        · simp (disch := first | omega | trivial) only [f_X6_weather, li, o1, o2, cb_let_eq, if_pos, c_1n0, if_false]
        · simp (disch := first | omega | trivial) only [f_X7_weather, li, liL, o3, o4, cb_let_eq, c_1n0, if_false, if_pos]
    · rcases cn_range p2 40 with ⟨b, hb, rfl⟩ | h2
      · have o2 := v_isOff_in hb (by omega)
        have o4 := v_in_in2 (j := b) (b := 39) (by omega) (by omega)
        by_cases hf : A.2.1.2.length = 6
        · have hadd := x_addF (it := 13) (v := nI b) hX.2.2.2.1.1 hf (by omega)
          refine ⟨-nI 4, MX, MY, ?_, ?_, hR⟩
          · simp (disch := first | omega | trivial) only [f_X6_weather, li, o1, o2, cb_let_eq, if_pos, c_1n0, if_false, hadd, cb_bind2_eq]
          · simp (disch := first | omega | trivial) only [f_X7_weather, li, liL, o3, o4, cb_let_eq, c_1n0, if_false, if_pos, cn_in, cn_cl, y4, hf]
        · have hadd := x_add (it := 13) (v := nI b) (cap := 6) hX.2.2.2.1.1 (by omega) (by omega) (by omega)
          refine ⟨nI (A.2.1.2.length + 1), cb_up (cb_up MX 13 A.2.1.2.length (nI b)) 9 1 (nI (A.2.1.2.length + 1)), cb_up (cb_up MY 10 (6 + A.2.1.2.length) (nI b)) 9 1 (nI (A.2.1.2.length + 1)), ?_, ?_, (A.1, (A.2.1.1, A.2.1.2 ++ [b]), A.2.2), ⟨b1, b2, ⟨by rw [snoc_len]; omega, snoc_b b3.2 hb⟩, b4, b5, b6⟩, ?_, ?_⟩
          · simp (disch := first | omega | trivial) only [f_X6_weather, li, o1, o2, cb_let_eq, if_pos, c_1n0, if_false, hadd, cb_bind2_eq]
          · have q1 : (cb_up MY 10 (6 + A.2.1.2.length) (nI b)) 9 1 = nI A.2.1.2.length := by rw [cu, if_neg (by omega)]; exact y4
            have q2 : (cb_up (cb_up MY 10 (6 + A.2.1.2.length) (nI b)) 9 1 (nI (A.2.1.2.length + 1))) 9 1 = nI (A.2.1.2.length + 1) := by rw [cu, if_pos rfl, if_pos rfl]
            simp (disch := first | omega | trivial) only [f_X7_weather, li, liL, o3, o4, cb_let_eq, c_1n0, if_false, if_pos, if_neg, cn_in, cn_cl, y4, cn_eq, cn_mul, cn_add, Nat.mul_one, q1, q2]
          · refine XS_w1 hX ((agr.rf.up (Or.inr rfl)).up (Or.inl rfl)) ?_
            rw [snoc_len]
            refine xR_snoc hX.2.2.2.1 (by omega) (fun j hj => ?_) ?_
            · show (A.2.1.2 ++ [b]).getD j 0 = _; rw [getD_snoc, if_pos hj]
            · show (A.2.1.2 ++ [b]).getD _ 0 = _; rw [getD_snoc, if_neg (by omega), if_pos rfl]
          · refine YS_w hY ((agr.rf.up (by omega)).up (by omega)) ⟨by rw [cu, if_pos rfl, if_neg (by omega), cu, if_neg (by omega)]; exact y1, y2, fun j hj => ?_, by rw [cu, if_pos rfl, if_pos rfl, snoc_len], by rw [snoc_len]; omega, fun j hj => ⟨?_, snoc_b b3.2 hb j hj⟩, by rw [cu, if_neg (by omega), cu, if_neg (by omega)]; exact y7, y8⟩
            · rw [cu, if_neg (by omega), cu, if_pos rfl, if_neg (by omega)]; exact y3 j hj
            · rw [snoc_len] at hj
              rw [cu, if_neg (by omega), cu, if_pos rfl, getD_snoc]
              by_cases e : j = A.2.1.2.length
              · rw [if_pos (by omega), if_neg (by omega), if_pos e]
              · rw [if_neg (by omega), if_pos (by omega)]; exact (y6 j (by omega)).1
      · have o2 := v_isOff_out h2 (by omega)
        have o4 := v_in_out2 h2 (show 40 = 39 + 1 from rfl) (by omega)
        refine ⟨-nI 2, MX, MY, ?_, ?_, hR⟩
        · simp (disch := first | omega | trivial) only [f_X6_weather, li, o1, o2, cb_let_eq, if_pos, c_1n0, if_false]
        · simp (disch := first | omega | trivial) only [f_X7_weather, li, liL, o3, o4, cb_let_eq, c_1n0, if_false, if_pos]
  · have o1 := v_isOff_out h1 (by omega)
    have o3 := v_twoN h1
    refine ⟨-nI 2, MX, MY, ?_, ?_, hR⟩
    · simp (disch := first | omega | trivial) only [f_X6_weather, li, o1, cb_let_eq, c_1n0, if_false]
    · simp (disch := first | omega | trivial) only [f_X7_weather, li, liL, o3, cb_let_eq, if_pos]
def cRelS (sh : Nat → Option (Nat × Nat × (Nat → Int32))) (MX MY : cb_Mem) : Prop := ∃ A : AS, A.2.2.2.2.1 = sh ∧ AOK A ∧ XS MX A ∧ YS MY A
theorem C_rabbitS (sh : Nat → Option (Nat × Nat × (Nat → Int32))) : cs_rabbit (cRelS sh) := by
  rintro MX MY p1 p2 ⟨A, hs, hA, hX, hY⟩
  have hR : cRelS sh MX MY := ⟨A, hs, hA, hX, hY⟩
  obtain ⟨b1, b2, b3, b4, b5, b6⟩ := hA
  obtain ⟨y1, y2, y3, y4, y5⟩ := hY.2.2.2.1
  rcases cn_range p1 40 with ⟨d, hd, rfl⟩ | h1
  · have o1 := v_isOff_in hd (by omega)
    have o3 := v_day hd
    rcases cn_range p2 8 with ⟨h, hh, rfl⟩ | h2
    · have o2 := v_isOff_in hh (by omega)
      have o4 := v_in_in2 (j := h) (b := 7) (by omega) (by omega)
      obtain ⟨N0, hN0⟩ : ∃ X, X = f_X0_forgetAll MX := ⟨_, rfl⟩
      have hN0' : N0 = cb_up MX 5 1 (-nI 1) := hN0
      have a0 : agr MX N0 (fun k j => k = 10 ∨ k = 14 ∨ (k = 5 ∧ j = 1)) := by rw [hN0']; exact agr.rf.up (by omega)
      have n5 : N0 5 1 = -nI 1 := by rw [hN0', cu, if_pos rfl, if_pos rfl]
      have nR : xR N0 10 14 A.2.2.1.length (rE A.2.2.1) := hX.2.2.2.2.1.eq fun k j q => by rw [hN0', cu, if_neg (by omega)]
      by_cases hf : A.2.2.1.length = 8
      · have hadd := x_addF (it := 14) (v := nI (d * 8 + h)) nR.1 hf (by omega)
        refine ⟨-nI 4, N0, MY, ?_, ?_, A, hs, ⟨b1, b2, b3, b4, b5, b6⟩, XS_rs hX a0 nR n5, hY⟩
        · simp (disch := first | omega | trivial) only [f_X6_rabbit, li, o1, o2, cb_let_eq, if_pos, ← hN0, cn_mul, cn_add, hadd, cb_bind2_eq]
        · simp (disch := first | omega | trivial) only [f_X7_rabbit, li, liL, o3, o4, cb_let_eq, c_1n0, if_false, if_pos, y1, hf]
      · have hadd := x_add (it := 14) (v := nI (d * 8 + h)) (cap := 8) nR.1 (by omega) (by omega) (by omega)
        generalize hn : A.2.2.1.length = n at *
        refine ⟨nI (n + 1), cb_up (cb_up N0 14 n (nI (d * 8 + h))) 10 1 (nI (n + 1)), cb_up (cb_up (cb_up MY 11 (2 * n) (nI d)) 11 (2 * n + 1) (nI h)) 0 13 (nI (n + 1)), ?_, ?_, (A.1, A.2.1, A.2.2.1 ++ [(d, h)], A.2.2.2), hs, ⟨b1, b2, b3, ⟨by rw [snoc_len, hn]; omega, fun j hj => ?_⟩, b5, b6⟩, ?_, ?_⟩
        · simp (disch := first | omega | trivial) only [f_X6_rabbit, li, o1, o2, cb_let_eq, if_pos, ← hN0, cn_mul, cn_add, hadd, cb_bind2_eq]
        · have q1 : (cb_up MY 11 (2 * n) (nI d)) 0 13 = nI n := by rw [cu, if_neg (by omega)]; exact y1
          have q2 : (cb_up (cb_up MY 11 (2 * n) (nI d)) 11 (2 * n + 1) (nI h)) 0 13 = nI n := by rw [cu, if_neg (by omega)]; exact q1
          have q3 : (cb_up (cb_up (cb_up MY 11 (2 * n) (nI d)) 11 (2 * n + 1) (nI h)) 0 13 (nI (n + 1))) 0 13 = nI (n + 1) := by rw [cu, if_pos rfl, if_pos rfl]
          simp (disch := first | omega | trivial) only [f_X7_rabbit, li, liL, o3, o4, cb_let_eq, c_1n0, if_false, if_pos, if_neg, y1, cn_eq, cn_mul, cn_add, cn_in, cn_cl, q1, q2, q3]
        · rw [snoc_len, hn] at hj
          rw [getD_snoc, hn]
          by_cases e : j < n
          · rw [if_pos e]; exact b4.2 j e
          · rw [if_neg e, if_pos (by omega)]; exact ⟨hd, hh⟩
        · refine XS_rs hX ((a0.up (by omega)).up (by omega)) ?_ (by rw [cu, if_neg (by omega), cu, if_neg (by omega)]; exact n5)
          rw [snoc_len, hn]
          refine xR_snoc nR (by omega) (fun j hj => ?_) ?_
          · unfold rE; rw [getD_snoc, hn, if_pos hj]
          · unfold rE; rw [getD_snoc, hn, if_neg (by omega), if_pos rfl]
        · refine YS_rs hY (((agr.rf.up (by omega)).up (by omega)).up (by omega)) ⟨by rw [cu, if_pos rfl, if_pos rfl, snoc_len, hn], by rw [snoc_len, hn]; omega, fun j hj => ?_, by rw [cu, if_pos rfl, if_neg (by omega), cu, if_neg (by omega), cu, if_neg (by omega)]; exact y4, y5⟩
          rw [snoc_len, hn] at hj
          have r1 : (cb_up (cb_up (cb_up MY 11 (2 * n) (nI d)) 11 (2 * n + 1) (nI h)) 0 13 (nI (n + 1))) 11 (2 * j) = if j = n then nI d else MY 11 (2 * j) := by
            rw [cu, if_neg (by omega), cu, if_pos rfl, if_neg (by omega), cu, if_pos rfl]
            by_cases e : j = n
            · rw [if_pos (by omega), if_pos e]
            · rw [if_neg (by omega), if_neg e]
          have r2 : (cb_up (cb_up (cb_up MY 11 (2 * n) (nI d)) 11 (2 * n + 1) (nI h)) 0 13 (nI (n + 1))) 11 (2 * j + 1) = if j = n then nI h else MY 11 (2 * j + 1) := by
            rw [cu, if_neg (by omega), cu, if_pos rfl]
            by_cases e : j = n
            · rw [if_pos (by omega), if_pos e]
            · rw [if_neg (by omega), if_neg e, cu, if_pos rfl, if_neg (by omega)]
          rw [r1, r2, getD_snoc, hn]
          by_cases e : j = n
          · rw [if_pos e, if_pos e, if_neg (by omega), if_pos e]; exact ⟨rfl, rfl, hd, hh⟩
          · rw [if_neg e, if_pos (show j < n by omega), if_neg e]; exact y3 j (by omega)
    · have o2 := v_isOff_out h2 (by omega)
      have o4 := v_in_out2 h2 (show 8 = 7 + 1 from rfl) (by omega)
      refine ⟨-nI 2, MX, MY, ?_, ?_, hR⟩
      · simp (disch := first | omega | trivial) only [f_X6_rabbit, li, o1, o2, cb_let_eq, if_pos, c_1n0, if_false]
      · simp (disch := first | omega | trivial) only [f_X7_rabbit, li, liL, o3, o4, cb_let_eq, c_1n0, if_false, if_pos]
  · have o1 := v_isOff_out h1 (by omega)
    have o3 := v_dayN h1
    refine ⟨-nI 2, MX, MY, ?_, ?_, hR⟩
    · simp (disch := first | omega | trivial) only [f_X6_rabbit, li, o1, cb_let_eq, c_1n0, if_false]
    · simp (disch := first | omega | trivial) only [f_X7_rabbit, li, liL, o3, cb_let_eq, if_pos]
theorem C_rabbit : cs_rabbit cRel := by
  rintro MX MY p1 p2 ⟨A, hA, hX, hY⟩
  obtain ⟨r, MX', MY', h1, h2, A', -, h3⟩ := C_rabbitS A.2.2.2.2.1 MX MY p1 p2 ⟨A, rfl, hA, hX, hY⟩
  exact ⟨r, MX', MY', h1, h2, A', h3⟩
theorem C_seen : cs_seen cRel := by
  rintro MX MY p1 p2 ⟨A, hA, hX, hY⟩
  have hR : cRel MX MY := ⟨A, hA, hX, hY⟩
  obtain ⟨b1, b2, b3, b4, b5, b6⟩ := hA
  obtain ⟨y1, y3⟩ := hY.2.2.2.2.1
  rcases cn_range p1 8 with ⟨d, hd, rfl⟩ | h1
  · have o1 := v_isOff_in hd (by omega)
    have o3 := v_in_in2 (j := d) (b := 7) (by omega) (by omega)
    rcases cn_range p2 9 with ⟨h, hh, rfl⟩ | h2
    · have o2 := v_isOff_in hh (by omega)
      have o4 := v_in_in2 (j := h) (b := 8) (by omega) (by omega)
      have nR := hX.2.2.2.2.2.1
      by_cases hf : A.2.2.2.1.length = 8
      · have hadd := x_addF (it := 15) (v := nI (d * 9 + h)) nR.1 hf (by omega)
        refine ⟨-nI 4, MX, MY, ?_, ?_, hR⟩
        · simp (disch := first | omega | trivial) only [f_X6_seen, li, o1, o2, cb_let_eq, if_pos, cn_mul, cn_add, hadd, cb_bind2_eq]
        · simp (disch := first | omega | trivial) only [f_X7_seen, li, liL, o3, o4, cb_let_eq, c_1n0, if_false, if_pos, y1, hf]
      · have hadd := x_add (it := 15) (v := nI (d * 9 + h)) (cap := 8) nR.1 (by omega) (by omega) (by omega)
        generalize hn : A.2.2.2.1.length = n at *
        refine ⟨nI (n + 1), cb_up (cb_up MX 15 n (nI (d * 9 + h))) 11 1 (nI (n + 1)), cb_up (cb_up (cb_up MY 20 (2 * n) (nI d)) 20 (2 * n + 1) (nI h)) 0 27 (nI (n + 1)), ?_, ?_, (A.1, A.2.1, A.2.2.1, A.2.2.2.1 ++ [(d, h)], A.2.2.2.2), ⟨b1, b2, b3, b4, ⟨by rw [snoc_len, hn]; omega, fun j hj => ?_⟩, b6⟩, ?_, ?_⟩
        · simp (disch := first | omega | trivial) only [f_X6_seen, li, o1, o2, cb_let_eq, if_pos, cn_mul, cn_add, hadd, cb_bind2_eq]
        · have q1 : (cb_up MY 20 (2 * n) (nI d)) 0 27 = nI n := by rw [cu, if_neg (by omega)]; exact y1
          have q2 : (cb_up (cb_up MY 20 (2 * n) (nI d)) 20 (2 * n + 1) (nI h)) 0 27 = nI n := by rw [cu, if_neg (by omega)]; exact q1
          have q3 : (cb_up (cb_up (cb_up MY 20 (2 * n) (nI d)) 20 (2 * n + 1) (nI h)) 0 27 (nI (n + 1))) 0 27 = nI (n + 1) := by rw [cu, if_pos rfl, if_pos rfl]
          simp (disch := first | omega | trivial) only [f_X7_seen, li, liL, o3, o4, cb_let_eq, c_1n0, if_false, if_pos, if_neg, y1, cn_eq, cn_mul, cn_add, cn_in, cn_cl, q1, q2, q3]
        · rw [snoc_len, hn] at hj
          rw [getD_snoc, hn]
          by_cases e : j < n
          · rw [if_pos e]; exact b5.2 j e
          · rw [if_neg e, if_pos (by omega)]; exact ⟨hd, hh⟩
        · refine XS_sg hX ((agr.rf.up (by omega)).up (by omega)) ?_
          rw [snoc_len, hn]
          refine xR_snoc nR (by omega) (fun j hj => ?_) ?_
          · unfold sE; rw [getD_snoc, hn, if_pos hj]
          · unfold sE; rw [getD_snoc, hn, if_neg (by omega), if_pos rfl]
        · refine YS_sg hY (((agr.rf.up (by omega)).up (by omega)).up (by omega)) ⟨by rw [cu, if_pos rfl, if_pos rfl, snoc_len, hn], fun j hj => ?_⟩
          rw [snoc_len, hn] at hj
          have r1 : (cb_up (cb_up (cb_up MY 20 (2 * n) (nI d)) 20 (2 * n + 1) (nI h)) 0 27 (nI (n + 1))) 20 (2 * j) = if j = n then nI d else MY 20 (2 * j) := by
            rw [cu, if_neg (by omega), cu, if_pos rfl, if_neg (by omega), cu, if_pos rfl]
            by_cases e : j = n
            · rw [if_pos (by omega), if_pos e]
            · rw [if_neg (by omega), if_neg e]
          have r2 : (cb_up (cb_up (cb_up MY 20 (2 * n) (nI d)) 20 (2 * n + 1) (nI h)) 0 27 (nI (n + 1))) 20 (2 * j + 1) = if j = n then nI h else MY 20 (2 * j + 1) := by
            rw [cu, if_neg (by omega), cu, if_pos rfl]
            by_cases e : j = n
            · rw [if_pos (by omega), if_pos e]
            · rw [if_neg (by omega), if_neg e, cu, if_pos rfl, if_neg (by omega)]
          rw [r1, r2, getD_snoc, hn]
          by_cases e : j = n
          · rw [if_pos e, if_pos e, if_neg (by omega), if_pos e]; exact ⟨rfl, rfl⟩
          · rw [if_neg e, if_pos (show j < n by omega), if_neg e]; exact y3 j (by omega)
    · have o2 := v_isOff_out h2 (by omega)
      have o4 := v_in_out2 h2 (show 9 = 8 + 1 from rfl) (by omega)
      refine ⟨-nI 2, MX, MY, ?_, ?_, hR⟩
      · simp (disch := first | omega | trivial) only [f_X6_seen, li, o1, o2, cb_let_eq, if_pos, c_1n0, if_false]
      · simp (disch := first | omega | trivial) only [f_X7_seen, li, liL, o3, o4, cb_let_eq, c_1n0, if_false, if_pos]
  · have o1 := v_isOff_out h1 (by omega)
    have o3 := v_in_out2 h1 (show 8 = 7 + 1 from rfl) (by omega)
    refine ⟨-nI 2, MX, MY, ?_, ?_, hR⟩
    · simp (disch := first | omega | trivial) only [f_X6_seen, li, o1, cb_let_eq, c_1n0, if_false]
    · simp (disch := first | omega | trivial) only [f_X7_seen, li, liL, o3, cb_let_eq, if_pos]
theorem C_forget : cs_forget cRel := by
  rintro MX MY ⟨A, hA, hX, hY⟩
  obtain ⟨b1, b2, b3, b4, b5, b6⟩ := hA
  obtain ⟨y1, y3⟩ := hY.2.2.2.2.1
  have nR := hX.2.2.2.2.2.1
  refine ⟨nI A.2.2.2.1.length, cb_up MX 11 1 (nI 0), cb_up MY 0 27 (nI 0), ?_, ?_, (A.1, A.2.1, A.2.2.1, [], A.2.2.2.2), ⟨b1, b2, b3, b4, ⟨Nat.zero_le _, fun j hj => absurd hj (Nat.not_lt_zero j)⟩, b6⟩, XS_sg hX (agr.rf.up (by omega)) (xR_take (m := 0) nR (by omega) (by omega) (fun j hj => absurd hj (Nat.not_lt_zero j))), YS_sg hY (agr.rf.up (by omega)) ⟨by rw [cu, if_pos rfl, if_pos rfl]; rfl, fun j hj => absurd hj (Nat.not_lt_zero j)⟩⟩
  · simp only [f_X6_forget, f_X2_clear, li, nR.1, cb_let_eq, cb_let2_eq]
  · simp only [f_X7_forget, li, y1, cb_let_eq]
