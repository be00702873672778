theorem y_cp1 {M : cb_Mem} {s t a b n : Nat} (hs : s < 4) (hn : a + n ≤ 60) : ∃ M', f_X7_copy_L120 cb_fuel (nI s) (nI a) (nI t) (nI b) (nI n) (nI 0) M = some M' ∧ agr M M' (fun k _ => k = 4) ∧ ∀ j, j < n → M' 4 j = M 3 (60 * s + a + j) := by
  refine cb_loop0 (fun m k (z : cb_Mem) => f_X7_copy_L120 m (nI s) (nI a) (nI t) (nI b) (nI n) (nI k) z) (fun k z => agr M z (fun k _ => k = 4) ∧ ∀ j, j < k → z 4 j = M 3 (60 * s + a + j)) n _ M (by omega) ⟨agr.rf, fun j h => absurd h (Nat.not_lt_zero j)⟩ ?_ ?_
  · rintro m z ⟨h1, h2⟩
    refine ⟨z, ?_, h1, h2⟩
    rw [f_X7_copy_L120, if_pos (by rw [cn_le (by omega) (by omega)]; omega)]
  · rintro m k z hk ⟨h1, h2⟩
    right
    refine ⟨cb_up z 4 k (z 3 (60 * s + a + k)), ⟨h1.up rfl, fun j hj => ?_⟩, ?_⟩
    · rw [cu, if_pos rfl]
      by_cases e : j = k
      · rw [if_pos e, e, h1 _ _ (by omega)]
      · rw [if_neg e]; exact h2 j (by omega)
    · simp (disch := first | omega | trivial) only [f_X7_copy_L120, li, cn_le, if_neg, cn_mul, cn_add, cn_in, cn_cl, if_pos, cb_let_eq]
theorem y_cp2 {M : cb_Mem} {t b n : Nat} (ht : t < 4) (hn : b + n ≤ 60) : ∃ M', f_X7_copy_L157 cb_fuel (nI t) (nI b) (nI n) (nI 0) M = some M' ∧ agr M M' (fun k j => k = 3 ∧ 60 * t + b ≤ j ∧ j < 60 * t + b + n) ∧ ∀ j, j < n → M' 3 (60 * t + b + j) = M 4 j := by
  refine cb_loop0 (fun m k (z : cb_Mem) => f_X7_copy_L157 m (nI t) (nI b) (nI n) (nI k) z) (fun k z => agr M z (fun k j => k = 3 ∧ 60 * t + b ≤ j ∧ j < 60 * t + b + n) ∧ ∀ j, j < k → z 3 (60 * t + b + j) = M 4 j) n _ M (by omega) ⟨agr.rf, fun j h => absurd h (Nat.not_lt_zero j)⟩ ?_ ?_
  · rintro m z ⟨h1, h2⟩
    refine ⟨z, ?_, h1, h2⟩
    rw [f_X7_copy_L157, if_pos (by rw [cn_le (by omega) (by omega)]; omega)]
  · rintro m k z hk ⟨h1, h2⟩
    right
    refine ⟨cb_up z 3 (60 * t + b + k) (z 4 k), ⟨h1.up ⟨rfl, by omega, by omega⟩, fun j hj => ?_⟩, ?_⟩
    · rw [cu, if_pos rfl]
      by_cases e : j = k
      · rw [if_pos (by omega), e, h1 _ _ (by omega)]
      · rw [if_neg (by omega)]; exact h2 j (by omega)
    · simp (disch := first | omega | trivial) only [f_X7_copy_L157, li, cn_le, if_neg, cn_mul, cn_add, cn_in, cn_cl, if_pos, cb_let_eq]
theorem x_runN {M : cb_Mem} {s n : Nat} {p q : Int32} (h2 : M (42 + s) 2 = nI n) (hn : n ≤ 60) (h : ¬ (0 ≤ p.toInt ∧ 0 ≤ q.toInt ∧ p.toInt + q.toInt ≤ n)) : f_X3_hasRun s p q M = nI 0 := by
  unfold f_X3_hasRun
  rw [h2]
  by_cases e1 : p.toInt < 0
  · rw [if_pos (Int32.lt_iff_toInt_lt.mpr e1)]; rfl
  · rw [if_neg (fun z => e1 (Int32.lt_iff_toInt_lt.mp z))]
    by_cases e2 : q.toInt < 0
    · rw [if_pos (Int32.lt_iff_toInt_lt.mpr e2)]; rfl
    · rw [if_neg (fun z => e2 (Int32.lt_iff_toInt_lt.mp z))]
      have hb := Int32.toInt_lt p
      have e3 : (nI n - p).toInt = (n : Int) - p.toInt := by
        rw [Int32.toInt_sub, cn_ti (by omega)]
        rw [Int.bmod_eq_of_le] <;> omega
      rw [if_pos (Int32.lt_iff_toInt_lt.mpr (by rw [e3]; omega))]; rfl
theorem x_run {M : cb_Mem} {s n a c : Nat} (h2 : M (42 + s) 2 = nI n) (hn : n ≤ 60) (h : a + c ≤ n) : f_X3_hasRun s (nI a) (nI c) M = nI 1 := by
  simp (disch := first | omega | trivial) only [f_X3_hasRun, li, h2, cn_lt, if_neg, cn_sub]
def cpI (f g : Nat → Int32) (a b n k : Nat) : Int32 := if b ≤ k ∧ k < b + n then f (a + (k - b)) else g k
theorem y_copyN {M M' : cb_Mem} {s t f n1 n2 : Nat} {r p2 p4 p5 : Int32} (hs : s < 4) (ht : t < 4) (y1 : M 1 s = nI f) (y4 : M 1 t = nI f) (hf : f ≤ 2) (y2 : M 2 s = nI n1) (y5 : M 2 t = nI n2) (c2 : n1 ≤ 60) (c4 : n2 ≤ 60) (hrun : ¬ ((0 ≤ p2.toInt ∧ 0 ≤ p5.toInt ∧ p2.toInt + p5.toInt ≤ n1) ∧ 0 ≤ p4.toInt ∧ p4.toInt + p5.toInt ≤ n2)) (vf : f_X7_finds (nI 2) M = (r, M')) : f_X7_copy (nI s) p2 (nI t) p4 p5 M = some (r, M') := by
  have o3 := v_sheet hs
  have o4 := v_sheet ht
  have e1 : (nI f < nI 0) = False := by rw [cn_lt (by omega) (by omega)]; exact eq_false (by omega)
  have e2 : (nI 0 ≤ nI f) = True := by rw [cn_le (by omega) (by omega)]; exact eq_true (by omega)
  have fin : ∀ (P1 P2 P3 P4 P5 : Prop) (d1 : Decidable P1) (d2 : Decidable P2) (d3 : Decidable P3) (d4 : Decidable P4) (d5 : Decidable P5) (x y : Option (Int32 × cb_Mem)), (P1 ∨ P2 ∨ P3 ∨ P4 ∨ ¬ P5) → (if P1 then x else if P2 then x else if P3 then x else if P4 then x else if P5 then y else x) = x := by
    intro P1 P2 P3 P4 P5 d1 d2 d3 d4 d5 x y h
    by_cases e1 : P1
    · rw [if_pos e1]
    · by_cases e2 : P2
      · rw [if_neg e1, if_pos e2]
      · by_cases e3 : P3
        · rw [if_neg e1, if_neg e2, if_pos e3]
        · by_cases e4 : P4
          · rw [if_neg e1, if_neg e2, if_neg e3, if_pos e4]
          · by_cases e5 : P5
            · exact absurd h (by simp [e1, e2, e3, e4, e5])
            · rw [if_neg e1, if_neg e2, if_neg e3, if_neg e4, if_neg e5]
  simp (disch := first | omega | trivial) only [f_X7_copy, li, o3, o4, cb_let_eq, if_pos, cn_in, cn_cl, c_1n0, if_false, y1, y4, e1, e2, if_true, y2, y5, vf, cb_let2_eq]
  apply fin
  have b2 := Int32.toInt_lt p2
  have b4 := Int32.toInt_lt p4
  have b5 := Int32.toInt_lt p5
  have n2 := Int32.le_toInt p2
  have n4 := Int32.le_toInt p4
  have n5 := Int32.le_toInt p5
  rw [show nI 0 = (0 : Int32) from rfl, lg_cmp_gt, lg_cmp_le, Int64.lt_iff_toInt_lt, Int64.le_iff_toInt_le, Int64.toInt_add, Int64.toInt_add, Int32.toInt_toInt64, Int32.toInt_toInt64, Int32.toInt_toInt64, Int32.toInt_toInt64, Int32.toInt_toInt64, cn_ti (by omega), cn_ti (by omega), Int.bmod_eq_of_le (by omega) (by omega), Int.bmod_eq_of_le (by omega) (by omega), Int32.lt_iff_toInt_lt, Int32.lt_iff_toInt_lt, Int32.lt_iff_toInt_lt, show (0 : Int32).toInt = 0 from rfl]
  omega
theorem y_copyR {M M3 M4 : cb_Mem} {s t f n1 n2 a b n : Nat} (hs : s < 4) (ht : t < 4) (y1 : M 1 s = nI f) (y4 : M 1 t = nI f) (hf : f ≤ 2) (y2 : M 2 s = nI n1) (y5 : M 2 t = nI n2) (c2 : n1 ≤ 60) (c4 : n2 ≤ 60) (h1 : a + n ≤ n1) (h2 : b + n ≤ n2) (f1 : f_X7_copy_L120 cb_fuel (nI s) (nI a) (nI t) (nI b) (nI n) (nI 0) M = some M3) (f2 : f_X7_copy_L157 cb_fuel (nI t) (nI b) (nI n) (nI 0) M3 = some M4) : f_X7_copy (nI s) (nI a) (nI t) (nI b) (nI n) M = some (nI 1, M4) := by
  have o3 := v_sheet hs
  have o4 := v_sheet ht
  have e0 : ∀ a : Nat, a < 100 → (nI a < nI 0) = False := fun a ha => by rw [cn_lt (by omega) (by omega)]; exact eq_false (by omega)
  have e1 := e0 f (by omega)
  have ea := e0 a (by omega)
  have eb := e0 b (by omega)
  have en := e0 n (by omega)
  have e2 : (nI 0 ≤ nI f) = True := by rw [cn_le (by omega) (by omega)]; exact eq_true (by omega)
  have k1 : (0 < lg_cmp ((nI a).toInt64 + (nI n).toInt64) (nI n1).toInt64) = False := eq_false (by
    rw [lg_cmp_gt, Int64.lt_iff_toInt_lt, Int64.toInt_add, Int32.toInt_toInt64, Int32.toInt_toInt64, Int32.toInt_toInt64, cn_ti (by omega), cn_ti (by omega), cn_ti (by omega), Int.bmod_eq_of_le (by omega) (by omega)]; omega)
  have k2 : (lg_cmp ((nI b).toInt64 + (nI n).toInt64) (nI n2).toInt64 ≤ 0) = True := eq_true (by
    rw [lg_cmp_le, Int64.le_iff_toInt_le, Int64.toInt_add, Int32.toInt_toInt64, Int32.toInt_toInt64, Int32.toInt_toInt64, cn_ti (by omega), cn_ti (by omega), cn_ti (by omega), Int.bmod_eq_of_le (by omega) (by omega)]; omega)
  rw [show (0 : Int32) = nI 0 from rfl] at k1 k2
  simp (disch := first | omega | trivial) only [f_X7_copy, li, o3, o4, cb_let_eq, if_pos, cn_in, cn_cl, c_1n0, if_false, y1, y4, e1, ea, eb, en, e2, if_true, y2, y5, k1, k2, f1, f2, Option.bind_some]
theorem xc0 {MX : cb_Mem} {p1 p2 p3 p4 p5 : Int32} (o1 : f_X6_isOff p1 (4) = 1) : f_X6_copy p1 p2 p3 p4 p5 MX = some (-2, MX) := by
  unfold f_X6_copy
  rw [cb_let_eq, o1, if_neg (by decide)]
theorem xc1 {MX : cb_Mem} {p1 p2 p3 p4 p5 : Int32} (o1 : f_X6_isOff p1 (4) = 0) (o2 : f_X6_isOff p3 (4) = 1) : f_X6_copy p1 p2 p3 p4 p5 MX = some (-2, MX) := by
  unfold f_X6_copy
  rw [cb_let_eq, o1, if_pos rfl, cb_let_eq, o2, if_neg (by decide)]
theorem xc2 {MX MX' : cb_Mem} {s t : Nat} {r p2 p4 p5 : Int32} (hs : s < 4) (ht : t < 4) (o5 : f_X3_isLost s MX = 1) (vf : f_X6_found (1) MX = (r, MX')) : f_X6_copy (nI s) p2 (nI t) p4 p5 MX = some (r, MX') := by
  have o1 : f_X6_isOff (nI s) 4 = 0 := v_isOff_in hs (show 4 < 2147483648 by omega)
  have o2 : f_X6_isOff (nI t) 4 = 0 := v_isOff_in ht (show 4 < 2147483648 by omega)
  unfold f_X6_copy
  rw [cb_let_eq, o1, if_pos rfl, cb_let_eq, o2, if_pos rfl, if_pos (by rw [cn_in (by omega)]; omega), if_pos (by rw [cn_in (by omega)]; omega), cn_cl (by omega), cn_cl (by omega), cb_let_eq, cb_let_eq, o5, if_neg (by decide), vf, cb_let2_eq]
theorem xc3 {MX MX' : cb_Mem} {s t : Nat} {r p2 p4 p5 : Int32} (hs : s < 4) (ht : t < 4) (o5 : f_X3_isLost s MX = 0) (o6 : f_X3_isLost t MX = 1) (vf : f_X6_found (1) MX = (r, MX')) : f_X6_copy (nI s) p2 (nI t) p4 p5 MX = some (r, MX') := by
  have o1 : f_X6_isOff (nI s) 4 = 0 := v_isOff_in hs (show 4 < 2147483648 by omega)
  have o2 : f_X6_isOff (nI t) 4 = 0 := v_isOff_in ht (show 4 < 2147483648 by omega)
  unfold f_X6_copy
  rw [cb_let_eq, o1, if_pos rfl, cb_let_eq, o2, if_pos rfl, if_pos (by rw [cn_in (by omega)]; omega), if_pos (by rw [cn_in (by omega)]; omega), cn_cl (by omega), cn_cl (by omega), cb_let_eq, cb_let_eq, o5, if_pos rfl, cb_let_eq, o6, if_neg (by decide), vf, cb_let2_eq]
theorem xc4 {MX MX' : cb_Mem} {s t : Nat} {r p2 p4 p5 : Int32} (hs : s < 4) (ht : t < 4) (o5 : f_X3_isLost s MX = 0) (o6 : f_X3_isLost t MX = 0) (hn : MX (42 + s) 1 ≠ MX (42 + t) 1) (vf : f_X6_found (4) MX = (r, MX')) : f_X6_copy (nI s) p2 (nI t) p4 p5 MX = some (r, MX') := by
  have o1 : f_X6_isOff (nI s) 4 = 0 := v_isOff_in hs (show 4 < 2147483648 by omega)
  have o2 : f_X6_isOff (nI t) 4 = 0 := v_isOff_in ht (show 4 < 2147483648 by omega)
  unfold f_X6_copy
  rw [cb_let_eq, o1, if_pos rfl, cb_let_eq, o2, if_pos rfl, if_pos (by rw [cn_in (by omega)]; omega), if_pos (by rw [cn_in (by omega)]; omega), cn_cl (by omega), cn_cl (by omega), cb_let_eq, cb_let_eq, o5, if_pos rfl, cb_let_eq, o6, if_pos rfl, if_neg hn, vf, cb_let2_eq]
theorem xc5 {MX MX' : cb_Mem} {s t : Nat} {r p2 p4 p5 : Int32} (hs : s < 4) (ht : t < 4) (o5 : f_X3_isLost s MX = 0) (o6 : f_X3_isLost t MX = 0) (hn : MX (42 + s) 1 = MX (42 + t) 1) (r1 : f_X3_hasRun s p2 p5 MX = 0) (vf : f_X6_found (2) MX = (r, MX')) : f_X6_copy (nI s) p2 (nI t) p4 p5 MX = some (r, MX') := by
  have o1 : f_X6_isOff (nI s) 4 = 0 := v_isOff_in hs (show 4 < 2147483648 by omega)
  have o2 : f_X6_isOff (nI t) 4 = 0 := v_isOff_in ht (show 4 < 2147483648 by omega)
  unfold f_X6_copy
  rw [cb_let_eq, o1, if_pos rfl, cb_let_eq, o2, if_pos rfl, if_pos (by rw [cn_in (by omega)]; omega), if_pos (by rw [cn_in (by omega)]; omega), cn_cl (by omega), cn_cl (by omega), cb_let_eq, cb_let_eq, o5, if_pos rfl, cb_let_eq, o6, if_pos rfl, if_pos hn, cb_let_eq, cb_let_eq, r1, if_pos rfl, vf, cb_let2_eq]
theorem xc6 {MX MX' : cb_Mem} {s t : Nat} {r p2 p4 p5 : Int32} (hs : s < 4) (ht : t < 4) (o5 : f_X3_isLost s MX = 0) (o6 : f_X3_isLost t MX = 0) (hn : MX (42 + s) 1 = MX (42 + t) 1) (r1 : f_X3_hasRun s p2 p5 MX = 1) (r2 : f_X3_hasRun t p4 p5 MX = 0) (vf : f_X6_found (2) MX = (r, MX')) : f_X6_copy (nI s) p2 (nI t) p4 p5 MX = some (r, MX') := by
  have o1 : f_X6_isOff (nI s) 4 = 0 := v_isOff_in hs (show 4 < 2147483648 by omega)
  have o2 : f_X6_isOff (nI t) 4 = 0 := v_isOff_in ht (show 4 < 2147483648 by omega)
  unfold f_X6_copy
  rw [cb_let_eq, o1, if_pos rfl, cb_let_eq, o2, if_pos rfl, if_pos (by rw [cn_in (by omega)]; omega), if_pos (by rw [cn_in (by omega)]; omega), cn_cl (by omega), cn_cl (by omega), cb_let_eq, cb_let_eq, o5, if_pos rfl, cb_let_eq, o6, if_pos rfl, if_pos hn, cb_let_eq, cb_let_eq, r1, if_neg (by decide), cb_let_eq, r2, if_pos rfl, vf, cb_let2_eq]
theorem xc7 {MX MX' : cb_Mem} {s t : Nat} {r p2 p4 p5 : Int32} (hs : s < 4) (ht : t < 4) (o5 : f_X3_isLost s MX = 0) (o6 : f_X3_isLost t MX = 0) (hn : MX (42 + s) 1 = MX (42 + t) 1) (r1 : f_X3_hasRun s p2 p5 MX = 1) (r2 : f_X3_hasRun t p4 p5 MX = 1) (hc : cb_cin p2 p4 p5 60 60) : f_X6_copy (nI s) p2 (nI t) p4 p5 MX = some (1, cb_copy MX (46 + s) (46 + t) p2.toNatClampNeg p4.toNatClampNeg p5.toNatClampNeg) := by
  have o1 : f_X6_isOff (nI s) 4 = 0 := v_isOff_in hs (show 4 < 2147483648 by omega)
  have o2 : f_X6_isOff (nI t) 4 = 0 := v_isOff_in ht (show 4 < 2147483648 by omega)
  unfold f_X6_copy
  rw [cb_let_eq, o1, if_pos rfl, cb_let_eq, o2, if_pos rfl, if_pos (by rw [cn_in (by omega)]; omega), if_pos (by rw [cn_in (by omega)]; omega), cn_cl (by omega), cn_cl (by omega), cb_let_eq, cb_let_eq, o5, if_pos rfl, cb_let_eq, o6, if_pos rfl, if_pos hn, cb_let_eq, cb_let_eq, r1, if_neg (by decide), cb_let_eq, r2, if_neg (by decide), if_pos hc, cb_let_eq]
theorem yc0 {MX : cb_Mem} {p1 p2 p3 p4 p5 : Int32} (o1 : f_X7_isSheet p1 = nI 0) : f_X7_copy p1 p2 p3 p4 p5 MX = some (-nI 2, MX) := by
  unfold f_X7_copy
  rw [show (4 : Int32) = nI 4 from rfl, show (2 : Int32) = nI 2 from rfl, show (1 : Int32) = nI 1 from rfl, show (0 : Int32) = nI 0 from rfl]
  rw [cb_let_eq, o1, if_pos rfl]
theorem yc1 {MX : cb_Mem} {p1 p2 p3 p4 p5 : Int32} (o1 : f_X7_isSheet p1 = nI 1) (o2 : f_X7_isSheet p3 = nI 0) : f_X7_copy p1 p2 p3 p4 p5 MX = some (-nI 2, MX) := by
  unfold f_X7_copy
  rw [show (4 : Int32) = nI 4 from rfl, show (2 : Int32) = nI 2 from rfl, show (1 : Int32) = nI 1 from rfl, show (0 : Int32) = nI 0 from rfl]
  rw [cb_let_eq, o1, if_neg (by rw [c_1n0]; exact id), cb_let_eq, o2, if_pos rfl]
theorem yc2 {MX MX' : cb_Mem} {s t : Nat} {r p2 p4 p5 : Int32} (hs : s < 4) (ht : t < 4) (y : MX 1 s = -nI 1) (vf : f_X7_finds (nI 1) MX = (r, MX')) : f_X7_copy (nI s) p2 (nI t) p4 p5 MX = some (r, MX') := by
  have o3 := v_sheet hs
  have o4 := v_sheet ht
  unfold f_X7_copy
  rw [show (4 : Int32) = nI 4 from rfl, show (2 : Int32) = nI 2 from rfl, show (1 : Int32) = nI 1 from rfl, show (0 : Int32) = nI 0 from rfl]
  rw [cb_let_eq, o3, if_neg (by rw [c_1n0]; exact id), cb_let_eq, o4, if_neg (by rw [c_1n0]; exact id), if_pos (by rw [cn_in (by omega)]; omega), cn_cl (by omega), cb_let_eq, if_pos (by rw [y, cn_lt2 (by omega)]; trivial), vf, cb_let2_eq]
theorem yc3 {f : Nat} {MX MX' : cb_Mem} {s t : Nat} {r p2 p4 p5 : Int32} (hs : s < 4) (ht : t < 4) (y1 : MX 1 s = nI f) (hf : f ≤ 2) (y : MX 1 t = -nI 1) (vf : f_X7_finds (nI 1) MX = (r, MX')) : f_X7_copy (nI s) p2 (nI t) p4 p5 MX = some (r, MX') := by
  have o3 := v_sheet hs
  have o4 := v_sheet ht
  unfold f_X7_copy
  rw [show (4 : Int32) = nI 4 from rfl, show (2 : Int32) = nI 2 from rfl, show (1 : Int32) = nI 1 from rfl, show (0 : Int32) = nI 0 from rfl]
  rw [cb_let_eq, o3, if_neg (by rw [c_1n0]; exact id), cb_let_eq, o4, if_neg (by rw [c_1n0]; exact id), if_pos (by rw [cn_in (by omega)]; omega), cn_cl (by omega), cb_let_eq, if_neg (by rw [y1, cn_lt (by omega) (by omega)]; omega), if_pos (by rw [cn_in (by omega)]; omega), cn_cl (by omega), if_neg (by rw [y, cn_le1 (by omega)]; exact id), vf, cb_let2_eq]
theorem yc4 {f g : Nat} {MX MX' : cb_Mem} {s t : Nat} {r p2 p4 p5 : Int32} (hs : s < 4) (ht : t < 4) (y1 : MX 1 s = nI f) (hf : f ≤ 2) (y4 : MX 1 t = nI g) (hg : g ≤ 2) (hn : f ≠ g) (vf : f_X7_finds (nI 4) MX = (r, MX')) : f_X7_copy (nI s) p2 (nI t) p4 p5 MX = some (r, MX') := by
  have o3 := v_sheet hs
  have o4 := v_sheet ht
  unfold f_X7_copy
  rw [show (4 : Int32) = nI 4 from rfl, show (2 : Int32) = nI 2 from rfl, show (1 : Int32) = nI 1 from rfl, show (0 : Int32) = nI 0 from rfl]
  rw [cb_let_eq, o3, if_neg (by rw [c_1n0]; exact id), cb_let_eq, o4, if_neg (by rw [c_1n0]; exact id), if_pos (by rw [cn_in (by omega)]; omega), cn_cl (by omega), cb_let_eq, if_neg (by rw [y1, cn_lt (by omega) (by omega)]; omega), if_pos (by rw [cn_in (by omega)]; omega), cn_cl (by omega), if_pos (by rw [y4, cn_le (by omega) (by omega)]; omega), if_pos (by rw [cn_in (by omega)]; omega), if_pos (by rw [cn_in (by omega)]; omega), if_neg (by rw [y1, y4, cn_eq (by omega) (by omega)]; exact hn), vf, cb_let2_eq]
