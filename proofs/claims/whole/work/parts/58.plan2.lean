/-! was, never -/
theorem msk_st1 {n k : Nat} {x : Int32} {p : Nat → Bool} (hm : msk n x (fun j => decide (j < k) && p j)) (hk : k < n) (hn : n ≤ 30) (hp : p k = true) : msk n (x ||| (nI 1 <<< (nI k &&& nI 31))) (fun j => decide (j < k + 1) && p j) := by
  refine (msk_or1 hm hk hn).cong (fun j hj => ?_)
  by_cases e : j = k
  · subst e; simp [hp]
  · have : (j < k + 1) = (j < k) := propext (by omega)
    simp [e, this]
theorem msk_st0 {n k : Nat} {x : Int32} {p : Nat → Bool} (hm : msk n x (fun j => decide (j < k) && p j)) (hp : p k = false) : msk n x (fun j => decide (j < k + 1) && p j) := by
  refine hm.cong (fun j hj => ?_)
  by_cases e : j = k
  · subst e; simp [hp]
  · have : (j < k + 1) = (j < k) := propext (by omega)
    simp [this]
theorem msk_st2 {n k : Nat} {x : Int32} {p : Nat → Bool} (hm : msk n x (fun j => decide (j < k) && p j)) (hp : p k = false) : msk n (x ||| nI 0) (fun j => decide (j < k + 1) && p j) := by
  refine (msk_or hm msk_0).cong (fun j hj => ?_)
  by_cases e : j = k
  · subst e; simp [hp]
  · have : (j < k + 1) = (j < k) := propext (by omega)
    simp [this]
theorem msk_s0 {n : Nat} {p : Nat → Bool} : msk n (nI 0) (fun j => decide (j < 0) && p j) := msk_0.cong (fun j _ => by simp)
def sgO (sg : List (Nat × Nat)) : Prop := sg.length ≤ 8 ∧ ∀ j, j < sg.length → (sg.getD j (0, 0)).1 < 8 ∧ (sg.getD j (0, 0)).2 < 9
def waS (F : FD) (sg : List (Nat × Nat)) (h : Nat) : Int32 := nI (mkN (fun v => decide (v < 3) && asB (ssF F h v) sg) 30)
def waD (F : FD) (sg : List (Nat × Nat)) (h : Nat) : Int32 := nI (mkN (fun v => decide (v < 30) && asB (sdF F h v) sg) 30)
theorem x_sorts {M : cb_Mem} {F : FD} {sg : List (Nat × Nat)} (hF : WF F) (hM : xFd M F) (hR : xR M 11 15 sg.length (sE sg)) (hS : sgO sg) {h : Nat} (hh : h < d_nh F) : ∃ M', f_X6_sortsAsSeen (nI h) M = some (waS F sg h, M') ∧ agr M M' PX := by
  have h8 : d_nh F ≤ 8 := hF.1
  suffices hL : ∃ r, f_X6_sortsAsSeen_L4 cb_fuel (nI h) (nI 0) (nI 0) M = some r ∧ (msk 30 r.1 (fun v => decide (v < 3) && asB (ssF F h v) sg) ∧ agr M r.2 PX) by
    obtain ⟨⟨r1, r2⟩, h1, h2, h3⟩ := hL
    dsimp only at h2 h3
    refine ⟨r2, ?_, h3⟩
    rw [msk_val h2] at h1
    simp only [f_X6_sortsAsSeen, li, h1, cb_bind2_eq, waS]
  refine cb_loop0 (fun m k (s : Int32 × cb_Mem) => f_X6_sortsAsSeen_L4 m (nI h) s.1 (nI k) s.2) (fun k s => msk 30 s.1 (fun v => decide (v < k) && asB (ssF F h v) sg) ∧ agr M s.2 PX ∧ ∃ e, xFd s.2 (ssF F h e)) 3 _ (nI 0, M) (by omega) ⟨msk_s0, agr.rf, d_srt F h, by rw [ssF_self]; exact hM⟩ ?_ ?_
  · rintro m ⟨x, T⟩ ⟨a, b, -⟩
    exact ⟨(x, T), by rw [f_X6_sortsAsSeen_L4, if_pos (by decide)], a, b⟩
  · rintro m k ⟨x, T⟩ hk ⟨a, b, e, c⟩
    dsimp only at a b c
    right
    obtain ⟨T2, g1, g2, g3⟩ := x_go (WF_ss hF (show k ≤ 2 by omega)) (xFd_ss (s := k) c)
    have b2 := (xFd_ss (s := k) c).agr g2 (by intro k j q; simp only [PG]; omega)
    have b3 := (b.up (q := 16) (j := h) (v := nI k) (by simp only [PX]; omega)).trans (PG_PX g2)
    have hs := x_isAsSeen (WF_ss hF (show k ≤ 2 by omega)) (hR.eq (fun k j q => b3 _ _ (by simp only [PX]; omega))) hS.1 hS.2 b2 g3
    cases ea : asB (ssF F h k) sg with
    | true =>
      rw [ea] at hs
      refine ⟨(x ||| (nI 1 <<< (nI k &&& nI 31)), T2), ⟨msk_st1 a (by omega) (by omega) ea, b3, k, b2⟩, ?_⟩
      simp (disch := first | omega | trivial) only [f_X6_sortsAsSeen_L4, li, cn_le, if_neg, cn_in, cn_cl, if_pos, cb_let_eq, g1, Option.bind_some, hs, b2i_0, Bool.true_eq_false, if_false, cn_add]
    | false =>
      rw [ea] at hs
      refine ⟨(x, T2), ⟨msk_st0 a ea, b3, k, b2⟩, ?_⟩
      simp (disch := first | omega | trivial) only [f_X6_sortsAsSeen_L4, li, cn_le, if_neg, cn_in, cn_cl, if_pos, cb_let_eq, g1, Option.bind_some, hs, b2i_0, cn_add]
theorem x_dues {M : cb_Mem} {F : FD} {sg : List (Nat × Nat)} (hF : WF F) (hM : xFd M F) (hR : xR M 11 15 sg.length (sE sg)) (hS : sgO sg) {h : Nat} (hh : h < d_nh F) : ∃ M', f_X6_duesAsSeen (nI h) M = some (waD F sg h, M') ∧ agr M M' PX := by
  have h8 : d_nh F ≤ 8 := hF.1
  suffices hL : ∃ r, f_X6_duesAsSeen_L4 cb_fuel (nI h) (nI 0) (nI 0) M = some r ∧ (msk 30 r.1 (fun v => decide (v < 30) && asB (sdF F h v) sg) ∧ agr M r.2 PX) by
    obtain ⟨⟨r1, r2⟩, h1, h2, h3⟩ := hL
    dsimp only at h2 h3
    refine ⟨r2, ?_, h3⟩
    rw [msk_val h2] at h1
    simp only [f_X6_duesAsSeen, li, h1, cb_bind2_eq, waD]
  refine cb_loop0 (fun m k (s : Int32 × cb_Mem) => f_X6_duesAsSeen_L4 m (nI h) s.1 (nI k) s.2) (fun k s => msk 30 s.1 (fun v => decide (v < k) && asB (sdF F h v) sg) ∧ agr M s.2 PX ∧ ∃ e, xFd s.2 (sdF F h e)) 30 _ (nI 0, M) (by omega) ⟨msk_s0, agr.rf, d_due F h, by rw [sdF_self]; exact hM⟩ ?_ ?_
  · rintro m ⟨x, T⟩ ⟨a, b, -⟩
    exact ⟨(x, T), by rw [f_X6_duesAsSeen_L4, if_pos (by decide)], a, b⟩
  · rintro m k ⟨x, T⟩ hk ⟨a, b, e, c⟩
    dsimp only at a b c
    right
    obtain ⟨T2, g1, g2, g3⟩ := x_go (WF_sd hF hk) (xFd_sd (d := k) c)
    have b2 := (xFd_sd (d := k) c).agr g2 (by intro k j q; simp only [PG]; omega)
    have b3 := (b.up (q := 17) (j := h) (v := nI k) (by simp only [PX]; omega)).trans (PG_PX g2)
    have hs := x_isAsSeen (WF_sd hF hk) (hR.eq (fun k j q => b3 _ _ (by simp only [PX]; omega))) hS.1 hS.2 b2 g3
    cases ea : asB (sdF F h k) sg with
    | true =>
      rw [ea] at hs
      refine ⟨(x ||| (nI 1 <<< (nI k &&& nI 31)), T2), ⟨msk_st1 a (by omega) (by omega) ea, b3, k, b2⟩, ?_⟩
      simp (disch := first | omega | trivial) only [f_X6_duesAsSeen_L4, li, cn_le, if_neg, cn_in, cn_cl, if_pos, cb_let_eq, g1, Option.bind_some, hs, b2i_0, Bool.true_eq_false, if_false, cn_add]
    | false =>
      rw [ea] at hs
      refine ⟨(x, T2), ⟨msk_st0 a ea, b3, k, b2⟩, ?_⟩
      simp (disch := first | omega | trivial) only [f_X6_duesAsSeen_L4, li, cn_le, if_neg, cn_in, cn_cl, if_pos, cb_let_eq, g1, Option.bind_some, hs, b2i_0, cn_add]
theorem y_sorts {M : cb_Mem} {F : FD} {w0 w1 : List Nat} {ch : Option Nat} {rs : List (Nat × Nat)} {gm : Nat} {sg : List (Nat × Nat)} (hA : mAll M F w0 w1 ch rs gm) (hG : ySg M sg) (hS : sgO sg) {h : Nat} (hh : h < d_nh F) (x1 : Int32) : ∃ M', f_X7_wasOf_L17 cb_fuel (nI h) (nI 0) x1 (nI 0) (nI 0) M = some (waS F sg h, M') ∧ agr M M' PY ∧ ∃ e, mAll M' (ssF F h e) w0 w1 ch rs gm := by
  have hF := hA.1
  have h8 : d_nh F ≤ 8 := hF.1
  suffices hL : ∃ r, f_X7_wasOf_L17 cb_fuel (nI h) (nI 0) x1 (nI 0) (nI 0) M = some r ∧ (msk 30 r.1 (fun v => decide (v < 3) && asB (ssF F h v) sg) ∧ agr M r.2 PY ∧ ∃ e, mAll r.2 (ssF F h e) w0 w1 ch rs gm) by
    obtain ⟨⟨r1, r2⟩, h1, h2, h3⟩ := hL
    dsimp only at h2 h3
    rw [msk_val h2] at h1
    exact ⟨r2, h1, h3⟩
  refine cb_loop0 (fun m k (s : Int32 × cb_Mem) => f_X7_wasOf_L17 m (nI h) (nI 0) x1 s.1 (nI k) s.2) (fun k s => msk 30 s.1 (fun v => decide (v < k) && asB (ssF F h v) sg) ∧ agr M s.2 PY ∧ ∃ e, mAll s.2 (ssF F h e) w0 w1 ch rs gm) 3 _ (nI 0, M) (by omega) ⟨msk_s0, agr.rf, d_srt F h, by rw [ssF_self]; exact hA⟩ ?_ ?_
  · rintro m ⟨x, T⟩ ⟨a, b, c⟩
    exact ⟨(x, T), by simp (disch := first | omega | trivial) only [f_X7_wasOf_L17, li, cb_let_eq, if_pos, cn_le], a, b, c⟩
  · rintro m k ⟨x, T⟩ hk ⟨a, b, e, c⟩
    dsimp only at a b c
    right
    have c1 := mAll_ss c (show k ≤ 2 by omega) hF
    have b1 := b.up (q := 7) (j := 2 * h) (v := nI k) (by simp [PY])
    obtain ⟨T2, g1, g2, g3⟩ := y_isSeen c1 (hG.eq (fun k j q => b1 _ _ (by simp only [PY]; omega))) hS.1 hS.2
    have b3 := b1.trans (PL_PY g2)
    cases ea : asB (ssF F h k) sg with
    | true =>
      rw [ea] at g1
      refine ⟨(x ||| (nI 1 <<< (nI k &&& nI 31)), T2), ⟨msk_st1 a (by omega) (by omega) ea, b3, k, c1.agr g2⟩, ?_⟩
      simp (disch := first | omega | trivial) only [f_X7_wasOf_L17, li, cn_le, if_neg, cn_mul, cn_add, Nat.add_zero, cn_in, cn_cl, if_pos, cb_let_eq, g1, cb_bind2_eq, b2i_0, Bool.true_eq_false, if_false]
    | false =>
      rw [ea] at g1
      refine ⟨(x ||| nI 0, T2), ⟨msk_st2 a ea, b3, k, c1.agr g2⟩, ?_⟩
      simp (disch := first | omega | trivial) only [f_X7_wasOf_L17, li, cn_le, if_neg, cn_mul, cn_add, Nat.add_zero, cn_in, cn_cl, if_pos, cb_let_eq, g1, cb_bind2_eq, b2i_0]
theorem y_dues {M : cb_Mem} {F : FD} {w0 w1 : List Nat} {ch : Option Nat} {rs : List (Nat × Nat)} {gm : Nat} {sg : List (Nat × Nat)} (hA : mAll M F w0 w1 ch rs gm) (hG : ySg M sg) (hS : sgO sg) {h : Nat} (hh : h < d_nh F) (x1 : Int32) : ∃ M', f_X7_wasOf_L17 cb_fuel (nI h) (nI 1) x1 (nI 0) (nI 0) M = some (waD F sg h, M') ∧ agr M M' PY ∧ ∃ e, mAll M' (sdF F h e) w0 w1 ch rs gm := by
  have hF := hA.1
  have h8 : d_nh F ≤ 8 := hF.1
  suffices hL : ∃ r, f_X7_wasOf_L17 cb_fuel (nI h) (nI 1) x1 (nI 0) (nI 0) M = some r ∧ (msk 30 r.1 (fun v => decide (v < 30) && asB (sdF F h v) sg) ∧ agr M r.2 PY ∧ ∃ e, mAll r.2 (sdF F h e) w0 w1 ch rs gm) by
    obtain ⟨⟨r1, r2⟩, h1, h2, h3⟩ := hL
    dsimp only at h2 h3
    rw [msk_val h2] at h1
    exact ⟨r2, h1, h3⟩
  refine cb_loop0 (fun m k (s : Int32 × cb_Mem) => f_X7_wasOf_L17 m (nI h) (nI 1) x1 s.1 (nI k) s.2) (fun k s => msk 30 s.1 (fun v => decide (v < k) && asB (sdF F h v) sg) ∧ agr M s.2 PY ∧ ∃ e, mAll s.2 (sdF F h e) w0 w1 ch rs gm) 30 _ (nI 0, M) (by omega) ⟨msk_s0, agr.rf, d_due F h, by rw [sdF_self]; exact hA⟩ ?_ ?_
  · rintro m ⟨x, T⟩ ⟨a, b, c⟩
    exact ⟨(x, T), by simp (disch := first | omega | trivial) only [f_X7_wasOf_L17, li, cb_let_eq, c_1n0, if_false, if_pos, cn_le], a, b, c⟩
  · rintro m k ⟨x, T⟩ hk ⟨a, b, e, c⟩
    dsimp only at a b c
    right
    have c1 := mAll_sd c hk hF
    have b1 := b.up (q := 7) (j := 2 * h + 1) (v := nI k) (by simp [PY])
    obtain ⟨T2, g1, g2, g3⟩ := y_isSeen c1 (hG.eq (fun k j q => b1 _ _ (by simp only [PY]; omega))) hS.1 hS.2
    have b3 := b1.trans (PL_PY g2)
    cases ea : asB (sdF F h k) sg with
    | true =>
      rw [ea] at g1
      refine ⟨(x ||| (nI 1 <<< (nI k &&& nI 31)), T2), ⟨msk_st1 a (by omega) (by omega) ea, b3, k, c1.agr g2⟩, ?_⟩
      simp (disch := first | omega | trivial) only [f_X7_wasOf_L17, li, cn_le, if_neg, cn_mul, cn_add, cn_in, cn_cl, if_pos, cb_let_eq, c_1n0, g1, cb_bind2_eq, b2i_0, Bool.true_eq_false, if_false]
    | false =>
      rw [ea] at g1
      refine ⟨(x ||| nI 0, T2), ⟨msk_st2 a ea, b3, k, c1.agr g2⟩, ?_⟩
      simp (disch := first | omega | trivial) only [f_X7_wasOf_L17, li, cn_le, if_neg, cn_mul, cn_add, cn_in, cn_cl, if_pos, cb_let_eq, c_1n0, if_false, g1, cb_bind2_eq, b2i_0]
def waV (F : FD) (sg : List (Nat × Nat)) (h i : Nat) : Int32 := if i = 0 then waS F sg h else waD F sg h
theorem A_sg {A : AS} (hA : AOK A) : sgO A.2.2.2.1 := hA.2.2.2.2.1
theorem x_was {M : cb_Mem} {A : AS} (hA : AOK A) (hX : XS M A) {h i : Nat} (hh : h < d_nh (FAa A)) (hi : i < 2) : ∃ M', f_X6_was (nI h) (nI i) M = some (waV (FAa A) A.2.2.2.1 h i, M') ∧ XS M' A := by
  obtain ⟨M1, fx, ax, b1⟩ := x_lay0 hA hX
  have o1 := x_noH (A_xh hX) (A_nh hA) hh
  have o2 := v_isOff_in hi (by omega)
  have hR : xR M1 11 15 A.2.2.2.1.length (sE A.2.2.2.1) := ax.2.2.2.2.2.1
  rcases (show i = 0 ∨ i = 1 by omega) with e | e <;> subst e
  · obtain ⟨M2, gx, c2⟩ := x_sorts (WF_FA hA) b1 hR (A_sg hA) hh
    refine ⟨M2, ?_, ax.sc c2⟩
    simp (disch := first | omega | trivial) only [f_X6_was, li, o1, o2, cb_let_eq, if_pos, fx, Option.bind_some, gx, cb_bind2_eq, waV]
  · obtain ⟨M2, gx, c2⟩ := x_dues (WF_FA hA) b1 hR (A_sg hA) hh
    refine ⟨M2, ?_, ax.sc c2⟩
    simp (disch := first | omega | trivial) only [f_X6_was, li, o1, o2, cb_let_eq, if_pos, fx, Option.bind_some, gx, cb_bind2_eq, c_1n0, if_false, waV]
    rfl
theorem y_wasOf {M : cb_Mem} {A : AS} (hA : AOK A) (hY : yA M A) {h i : Nat} (hh : h < d_nh (FAa A)) (hi : i < 2) : ∃ M', f_X7_wasOf (nI h) (nI i) M = some (waV (FAa A) A.2.2.2.1 h i, M') ∧ yA M' A := by
  have h8 : d_nh (FAa A) ≤ 8 := hY.2.1.1
  obtain ⟨hd1, hd2⟩ := hY.2.1.2.2.1 h hh
  obtain ⟨m7, m8⟩ := hY.2.2.1.2.2.1 h hh
  have hG : ySg M A.2.2.2.1 := hY.1.2.2.2.2.1
  rcases (show i = 0 ∨ i = 1 by omega) with e | e <;> subst e
  · obtain ⟨M1, gx, c1, e, c2⟩ := y_sorts hY.2 hG (A_sg hA) hh (nI (d_srt (FAa A) h))
    have c3 := mAll_ss c2 hd1 hY.2.1
    rw [ssF_self] at c3
    refine ⟨_, ?_, hY.1.sc (c1.up (q := 7) (j := 2 * h) (v := nI (d_srt (FAa A) h)) (by simp [PY])), c3⟩
    simp (disch := first | omega | trivial) only [f_X7_wasOf, li, cn_mul, cn_add, Nat.add_zero, cn_in, cn_cl, cb_let_eq, if_pos, m7, gx, cb_bind2_eq, waV]
  · obtain ⟨M1, gx, c1, e, c2⟩ := y_dues hY.2 hG (A_sg hA) hh (nI (d_due (FAa A) h))
    have c3 := mAll_sd c2 hd2 hY.2.1
    rw [sdF_self] at c3
    refine ⟨_, ?_, hY.1.sc (c1.up (q := 7) (j := 2 * h + 1) (v := nI (d_due (FAa A) h)) (by simp [PY])), c3⟩
    simp (disch := first | omega | trivial) only [f_X7_wasOf, li, cn_mul, cn_add, cn_in, cn_cl, cb_let_eq, if_pos, m8, gx, cb_bind2_eq, waV]
    rfl
theorem C_was : cs_was cRel := by
  rintro MX MY p1 p2 ⟨A, hA, hX, hY⟩
  obtain ⟨MY1, fy, ay, wy⟩ := y_findA hA hY
  have hRy : cRel MX MY1 := ⟨A, hA, hX, ay.1⟩
  rcases cn_range p1 (d_nh (FAa A)) with ⟨h, hh, rfl⟩ | h1
  · have o1 := x_noH (A_xh hX) (A_nh hA) hh
    have o3 := v_isH ay.2.2.1.1 (A_nh hA) hh
    rcases cn_range p2 2 with ⟨i, hi, rfl⟩ | h2
    · obtain ⟨MX1, fx, ax⟩ := x_was hA hX hh hi
      have o4 := v_two hi
      obtain ⟨MY2, gy, ay2⟩ := y_wasOf hA ay hh hi
      refine ⟨_, MX1, MY2, fx, ?_, A, hA, ax, ay2.1⟩
      simp (disch := first | omega | trivial) only [f_X7_was, li, fy, Option.bind_some, o3, o4, cb_let_eq, c_1n0, if_false, gy, cb_bind2_eq]
    · have o2 := v_isOff_out h2 (by omega)
      have o4 := v_twoN h2
      refine ⟨-nI 2, MX, MY1, ?_, ?_, hRy⟩
      · simp (disch := first | omega | trivial) only [f_X6_was, li, o1, o2, cb_let_eq, if_pos, c_1n0, if_false]
      · simp (disch := first | omega | trivial) only [f_X7_was, li, fy, Option.bind_some, o3, o4, cb_let_eq, c_1n0, if_false, if_pos]
  · have o1 := x_noHN (A_xh hX) (A_nh hA) h1
    have o3 := v_isHN ay.2.2.1.1 (A_nh hA) h1
    refine ⟨-nI 2, MX, MY1, ?_, ?_, hRy⟩
    · simp (disch := first | omega | trivial) only [f_X6_was, li, o1, cb_let_eq, c_1n0, if_false]
    · simp (disch := first | omega | trivial) only [f_X7_was, li, fy, Option.bind_some, o3, cb_let_eq, if_pos]
/-! never -/
def nvV (F : FD) (rs sg : List (Nat × Nat)) : Int32 := nI (mkN (fun k => decide (k < rs.length) && asB (srF F (rbF rs (2 ^ k))) sg) 8)
theorem p2_256 {k : Nat} (hk : k < 8) : 2 ^ k < 256 := Nat.pow_lt_pow_right (n := 8) (by decide) hk
theorem x_never {M : cb_Mem} {A : AS} (hA : AOK A) (hX : XS M A) : ∃ M', f_X6_never M = some (nvV (FAa A) A.2.2.1 A.2.2.2.1, M') ∧ XS M' A := by
  obtain ⟨M1, fx, ax, b1⟩ := x_lay0 hA hX
  have hF : WF (FAa A) := WF_FA hA
  have hR : xR M1 11 15 A.2.2.2.1.length (sE A.2.2.2.1) := ax.2.2.2.2.2.1
  have hQ : xR M1 10 14 A.2.2.1.length (rE A.2.2.1) := ax.2.2.2.2.1
  obtain ⟨r8, rb⟩ := hA.2.2.2.1
  generalize FAa A = F at hF b1
  generalize hrs : A.2.2.1 = rs at hQ r8 rb
  have hS := A_sg hA
  generalize hsg : A.2.2.2.1 = sg at hR hS
  suffices hL : ∃ r, f_X6_never_L8 cb_fuel (nI 0) (nI 0) M1 = some r ∧ (msk 8 r.1 (fun k => decide (k < rs.length) && asB (srF F (rbF rs (2 ^ k))) sg) ∧ agr M1 r.2 PX) by
    obtain ⟨⟨r1, r2⟩, h1, h2, h3⟩ := hL
    dsimp only at h2 h3
    refine ⟨r2, ?_, ax.sc h3⟩
    rw [msk_val h2] at h1
    simp only [f_X6_never, li, fx, Option.bind_some, h1, cb_bind2_eq, nvV]
  refine cb_loop0 (fun m k (s : Int32 × cb_Mem) => f_X6_never_L8 m s.1 (nI k) s.2) (fun k s => msk 8 s.1 (fun v => decide (v < k) && asB (srF F (rbF rs (2 ^ v))) sg) ∧ agr M1 s.2 PX ∧ ∃ g, xFd s.2 (srF F g)) rs.length _ (nI 0, M1) (by omega) ⟨msk_s0, agr.rf, d_rab F, b1⟩ ?_ ?_
  · rintro m ⟨x, T⟩ ⟨a, b, -⟩
    dsimp only at a b
    have e10 : T 10 1 = nI rs.length := by rw [b _ _ (by simp only [PX]; omega)]; exact hQ.1
    exact ⟨(x, T), by simp (disch := first | omega | trivial) only [f_X6_never_L8, li, e10, cn_le, if_pos], a, b⟩
  · rintro m k ⟨x, T⟩ hk ⟨a, b, g, c⟩
    dsimp only at a b c
    right
    have hQT : xR T 10 14 rs.length (rE rs) := hQ.eq (fun k j q => b _ _ (by simp only [PX]; omega))
    obtain ⟨T1, f1, a1, d1⟩ := x_rab (gm := 2 ^ k) hQT r8 rb (p2_256 (by omega))
    have c1 := xFd_sr c a1 d1
    have hF1 : WF (srF F (rbF rs (2 ^ k))) := WF_sr hF (fun h => rbN_le _ _ _ _)
    obtain ⟨T2, g1, g2, g3⟩ := x_go hF1 c1
    have b2 := c1.agr g2 (by intro k j q; simp only [PG]; omega)
    have b3 := (b.trans (a1.mono (fun k j q => by simp only [PX]; omega))).trans (PG_PX g2)
    have hs := x_isAsSeen hF1 (hR.eq (fun k j q => b3 _ _ (by simp only [PX]; omega))) hS.1 hS.2 b2 g3
    have e10 : T 10 1 = nI rs.length := hQT.1
    have hone : nI 1 <<< (nI k &&& nI 31) = nI (2 ^ k) := bi_one (by omega)
    cases ea : asB (srF F (rbF rs (2 ^ k))) sg with
    | true =>
      rw [ea] at hs
      refine ⟨(x ||| nI (2 ^ k), T2), ⟨?_, b3, _, b2⟩, ?_⟩
      · have := msk_st1 (p := fun v => asB (srF F (rbF rs (2 ^ v))) sg) a (show k < 8 by omega) (by omega) ea
        rw [hone] at this
        exact this
      · simp (disch := first | omega | trivial) only [f_X6_never_L8, li, e10, cn_le, if_neg, hone, f1, Option.bind_some, g1, hs, b2i_0, Bool.true_eq_false, if_false, cb_let_eq, cn_add]
    | false =>
      rw [ea] at hs
      refine ⟨(x, T2), ⟨msk_st0 a ea, b3, _, b2⟩, ?_⟩
      simp (disch := first | omega | trivial) only [f_X6_never_L8, li, e10, cn_le, if_neg, hone, f1, Option.bind_some, g1, hs, b2i_0, if_pos, cb_let_eq, cn_add]
def PN (k j : Nat) : Prop := PY k j ∨ (k = 0 ∧ j = 15)
theorem agr_back {M T : cb_Mem} {P : Nat → Nat → Prop} {q i : Nat} {v : Int32} (h : agr M T (fun k j => P k j ∨ (k = q ∧ j = i))) (hv : M q i = v) : agr M (cb_up T q i v) P := fun k j hn => by
  rw [cu]
  by_cases e : k = q
  · rw [if_pos e]
    by_cases e2 : j = i
    · rw [if_pos e2, e, e2]; exact hv.symm
    · rw [if_neg e2]; exact h k j (fun z => z.elim hn (fun z => e2 z.2))
  · rw [if_neg e]; exact h k j (fun z => z.elim hn (fun z => e z.1))
theorem y_never {M : cb_Mem} {A : AS} (hA : AOK A) (hY : yA M A) : ∃ M', f_X7_neverNow M = some (nvV (FAa A) A.2.2.1 A.2.2.2.1, M') ∧ yA M' A := by
  obtain ⟨h1, h2⟩ := hY
  have hG : ySg M A.2.2.2.1 := h1.2.2.2.2.1
  have hS := A_sg hA
  have h15 : M 0 15 = nI 0 := h2.2.2.2.1.2.2.2.1
  have r8 := hA.2.2.2.1.1
  have h2' : mAll M (srF (FAa A) (rbF A.2.2.1 0)) A.2.1.1 A.2.1.2 none A.2.2.1 0 := h2
  suffices hL : ∃ r, f_X7_neverNow_L4 cb_fuel (nI 0) (nI 0) M = some r ∧ (msk 8 r.1 (fun k => decide (k < A.2.2.1.length) && asB (srF (FAa A) (rbF A.2.2.1 (2 ^ k))) A.2.2.2.1) ∧ agr M r.2 PN ∧ ∃ g, mAll r.2 (srF (FAa A) (rbF A.2.2.1 g)) A.2.1.1 A.2.1.2 none A.2.2.1 g) by
    obtain ⟨⟨r1, r2⟩, k1, k2, k3, g, k4⟩ := hL
    dsimp only at k2 k3 k4
    rw [msk_val k2] at k1
    refine ⟨cb_up r2 0 15 (nI 0), ?_, h1.sc (agr_back k3 h15), mAll_sr k4 (by omega)⟩
    simp only [f_X7_neverNow, li, k1, cb_bind2_eq, cb_let_eq, nvV]
  refine cb_loop0 (fun m k (s : Int32 × cb_Mem) => f_X7_neverNow_L4 m s.1 (nI k) s.2) (fun k s => msk 8 s.1 (fun v => decide (v < k) && asB (srF (FAa A) (rbF A.2.2.1 (2 ^ v))) A.2.2.2.1) ∧ agr M s.2 PN ∧ ∃ g, mAll s.2 (srF (FAa A) (rbF A.2.2.1 g)) A.2.1.1 A.2.1.2 none A.2.2.1 g) A.2.2.1.length _ (nI 0, M) (by omega) ⟨msk_s0, agr.rf, 0, h2'⟩ ?_ ?_
  · rintro m ⟨x, T⟩ ⟨a, b, c⟩
    dsimp only at a b c
    have e13 : T 0 13 = nI A.2.2.1.length := by obtain ⟨g, c⟩ := c; exact c.2.2.2.1.1
    exact ⟨(x, T), by simp (disch := first | omega | trivial) only [f_X7_neverNow_L4, li, e13, cn_le, if_pos], a, b, c⟩
  · rintro m k ⟨x, T⟩ hk ⟨a, b, g, c⟩
    dsimp only at a b c
    right
    have e13 : T 0 13 = nI A.2.2.1.length := c.2.2.2.1.1
    have c1 := mAll_sr c (p2_256 (show k < 8 by omega))
    have b1 : agr M (cb_up T 0 15 (nI (2 ^ k))) PN := b.up (Or.inr ⟨rfl, rfl⟩)
    obtain ⟨T2, g1, g2, g3⟩ := y_isSeen c1 (hG.eq (fun k j q => b1 _ _ (by simp only [PN, PY]; omega))) hS.1 hS.2
    have b3 : agr M T2 PN := b1.trans (g2.mono (fun k j q => Or.inl (by simp only [PL] at q; simp only [PY]; omega)))
    have hone : nI 1 <<< (nI k &&& nI 31) = nI (2 ^ k) := bi_one (by omega)
    cases ea : asB (srF (FAa A) (rbF A.2.2.1 (2 ^ k))) A.2.2.2.1 with
    | true =>
      rw [ea] at g1
      refine ⟨(x ||| nI (2 ^ k), T2), ⟨?_, b3, _, c1.agr g2⟩, ?_⟩
      · have := msk_st1 (p := fun v => asB (srF (FAa A) (rbF A.2.2.1 (2 ^ v))) A.2.2.2.1) a (show k < 8 by omega) (by omega) ea
        rw [hone] at this
        exact this
      · simp (disch := first | omega | trivial) only [f_X7_neverNow_L4, li, e13, cn_le, if_neg, hone, cb_let_eq, g1, cb_bind2_eq, b2i_0, Bool.true_eq_false, if_false, cn_add]
    | false =>
      rw [ea] at g1
      refine ⟨(x ||| nI 0, T2), ⟨msk_st2 a ea, b3, _, c1.agr g2⟩, ?_⟩
      simp (disch := first | omega | trivial) only [f_X7_neverNow_L4, li, e13, cn_le, if_neg, hone, cb_let_eq, g1, cb_bind2_eq, b2i_0, if_pos, cn_add]
theorem C_never : cs_never cRel := by
  rintro MX MY ⟨A, hA, hX, hY⟩
  obtain ⟨MY1, fy, ay, wy⟩ := y_findA hA hY
  obtain ⟨MX1, fx, ax⟩ := x_never hA hX
  obtain ⟨MY2, gy, ay2⟩ := y_never hA ay
  refine ⟨_, MX1, MY2, fx, ?_, A, hA, ax, ay2.1⟩
  simp (disch := first | omega | trivial) only [f_X7_never, li, fy, Option.bind_some, gy, cb_bind2_eq]
