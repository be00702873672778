/-! sow -/
def bsN (f : Nat → Nat) : Nat → Option (Nat × Nat)
  | 0 => none
  | n + 1 => match bsN f n with
    | none => some (n, f n)
    | some p => if f n < p.2 then some (n, f n) else some p
theorem bsN_ok {f : Nat → Nat} : ∀ {n : Nat} {p : Nat × Nat}, bsN f n = some p → p.1 < n ∧ p.2 = f p.1
  | 0, p, h => by cases h
  | n + 1, p, h => by
    rw [bsN] at h
    cases e : bsN f n with
    | none => rw [e] at h; cases h; exact ⟨by dsimp only; omega, rfl⟩
    | some q =>
      rw [e] at h
      dsimp only at h
      have ih := bsN_ok e
      split at h
      · cases h; exact ⟨by dsimp only; omega, rfl⟩
      · cases h; exact ⟨by omega, ih.2⟩
def g9 (o : Option (Nat × Nat)) (z : Nat) : Nat := match o with
  | none => z
  | some p => p.2
theorem bsN_step {f : Nat → Nat} {n z : Nat} (hz : f n < z) : bsN f (n + 1) = if f n < g9 (bsN f n) z then some (n, f n) else bsN f n := by
  rw [bsN]
  cases e : bsN f n with
  | none =>
    show some (n, f n) = if f n < z then _ else _
    rw [if_pos hz]
  | some q => rfl
def swV (F : FD) (h i : Nat) : Int32 := match bsN (fun d => nwN (sdF F h d)) 30 with
  | none => nI 0
  | some p => if i = 0 then nI p.1 else nI p.2
theorem PG_PX {M M' : cb_Mem} (h : agr M M' PG) : agr M M' PX := h.mono (fun k j q => by simp only [PG] at q; simp only [PX]; omega)
theorem PL_PY {M M' : cb_Mem} (h : agr M M' PL) : agr M M' PY := h.mono (fun k j q => by simp only [PL] at q; simp only [PY]; omega)
theorem x_sowL {M : cb_Mem} {F : FD} (hF : WF F) (hM : xFd M F) {h i : Nat} (hh : h < d_nh F) : ∃ M', f_X6_sow_L32 cb_fuel (nI h) (nI i) (-nI 1) (nI 9) (nI 0) M = some (eP1 (bsN (fun d => nwN (sdF F h d)) 30), nI (g9 (bsN (fun d => nwN (sdF F h d)) 30) 9), M') ∧ agr M M' PX := by
  have h8 : d_nh F ≤ 8 := hF.1
  suffices hL : ∃ r, f_X6_sow_L32 cb_fuel (nI h) (nI i) (eP1 (bsN (fun d => nwN (sdF F h d)) 0)) (nI (g9 (bsN (fun d => nwN (sdF F h d)) 0) 9)) (nI 0) M = some r ∧ (r.1 = eP1 (bsN (fun d => nwN (sdF F h d)) 30) ∧ r.2.1 = nI (g9 (bsN (fun d => nwN (sdF F h d)) 30) 9) ∧ agr M r.2.2 PX) by
    obtain ⟨⟨r1, r2, r3⟩, h1, h2, h3, h4⟩ := hL
    dsimp only at h2 h3 h4
    rw [h2, h3] at h1
    exact ⟨r3, h1, h4⟩
  refine cb_loop0 (fun m k (T : cb_Mem) => f_X6_sow_L32 m (nI h) (nI i) (eP1 (bsN (fun d => nwN (sdF F h d)) k)) (nI (g9 (bsN (fun d => nwN (sdF F h d)) k) 9)) (nI k) T) (fun k T => agr M T PX ∧ ∃ e, xFd T (sdF F h e)) 30 _ M (by omega) ⟨agr.rf, _, by rw [sdF_self]; exact hM⟩ ?_ ?_
  · rintro m T ⟨a, -⟩
    exact ⟨_, by rw [f_X6_sow_L32, if_pos (by decide)], rfl, rfl, a⟩
  · rintro m k T hk ⟨a, e, b⟩
    right
    obtain ⟨T2, g1, g2, g3⟩ := x_go (WF_sd hF hk) (xFd_sd (d := k) b)
    have b2 := (xFd_sd (d := k) b).agr g2 (by intro k j q; simp only [PG]; omega)
    have hn := x_nw (WF_sd hF hk) b2 g3
    have hle := nwN_le (sdF F h k)
    refine ⟨T2, ⟨(a.up (by simp only [PX]; omega)).trans (PG_PX g2), k, b2⟩, ?_⟩
    have hst := bsN_step (f := fun d => nwN (sdF F h d)) (n := k) (z := 9) (by omega)
    have hg9 : g9 (bsN (fun d => nwN (sdF F h d)) k) 9 ≤ 9 := by
      cases e : bsN (fun d => nwN (sdF F h d)) k with
      | none => exact Nat.le_refl _
      | some q =>
        have := (bsN_ok e).2
        have := nwN_le (sdF F h q.1)
        show q.2 ≤ 9
        omega
    by_cases q : nwN (sdF F h k) < g9 (bsN (fun d => nwN (sdF F h d)) k) 9
    · rw [if_pos q] at hst
      rw [hst]
      have e1 : eP1 (some (k, nwN (sdF F h k))) = nI k := rfl
      have e2 : g9 (some (k, nwN (sdF F h k))) 9 = nwN (sdF F h k) := rfl
      simp (disch := first | omega | trivial) only [f_X6_sow_L32, li, cn_le, if_neg, cn_in, cn_cl, if_pos, cb_let_eq, g1, Option.bind_some, hn, cb_bind2_eq, cn_add, e1, e2]
    · rw [if_neg q] at hst
      rw [hst]
      simp (disch := first | omega | trivial) only [f_X6_sow_L32, li, cn_le, if_neg, cn_in, cn_cl, if_pos, cb_let_eq, g1, Option.bind_some, hn, cb_bind2_eq, cn_add]
theorem bsN_30 (f : Nat → Nat) : ∃ p, bsN f 30 = some p := by
  rw [bsN]
  cases bsN f 29 with
  | none => exact ⟨_, rfl⟩
  | some p =>
    dsimp only
    split
    · exact ⟨_, rfl⟩
    · exact ⟨_, rfl⟩
theorem x_lay0 {M : cb_Mem} {A : AS} (hA : AOK A) (hX : XS M A) : ∃ M', f_X6_layOut M = some M' ∧ XS M' A ∧ xFd M' (FAa A) := by
  obtain ⟨M', f, a, b⟩ := x_layOut hA hX
  exact ⟨M', f, hX.sc a, b⟩
theorem x_sow {M : cb_Mem} {A : AS} (hA : AOK A) (hX : XS M A) {h i : Nat} (hh : h < d_nh (FAa A)) (hi : i < 2) : ∃ M', f_X6_sow (nI h) (nI i) M = some (swV (FAa A) h i, M') ∧ XS M' A := by
  obtain ⟨M1, fx, ax, b1⟩ := x_lay0 hA hX
  obtain ⟨M2, gx, c2⟩ := x_sowL (i := i) (WF_FA hA) b1 hh
  have o1 := x_noH (A_xh hX) (A_nh hA) hh
  have o2 := v_isOff_in hi (by omega)
  refine ⟨M2, ?_, ax.sc c2⟩
  unfold swV
  obtain ⟨p, hp⟩ := bsN_30 (fun d => nwN (sdF (FAa A) h d))
  rw [hp] at gx ⊢
  have e1 : eP1 (some p) = nI p.1 := rfl
  have e2 : g9 (some p) 9 = p.2 := rfl
  rw [e1, e2] at gx
  rcases (show i = 0 ∨ i = 1 by omega) with e | e <;> subst e
  · simp (disch := first | omega | trivial) only [f_X6_sow, li, o1, o2, cb_let_eq, if_pos, fx, Option.bind_some, gx, cb_bind3_eq]
  · simp (disch := first | omega | trivial) only [f_X6_sow, li, o1, o2, cb_let_eq, if_pos, fx, Option.bind_some, gx, cb_bind3_eq, c_1n0, if_false]
    rfl
theorem y_sowL {M : cb_Mem} {F : FD} {w0 w1 : List Nat} {ch : Option Nat} {rs : List (Nat × Nat)} {gm : Nat} (hA : mAll M F w0 w1 ch rs gm) {h i : Nat} (hh : h < d_nh F) (x1 : Int32) : ∃ M', f_X7_sowOf_L20 cb_fuel (nI h) (nI i) x1 (-nI 1) (nI 0) (nI 0) M = some (eP1 (bsN (fun d => nwN (sdF F h d)) 30), nI (g9 (bsN (fun d => nwN (sdF F h d)) 30) 0), M') ∧ agr M M' PY ∧ ∃ e, mAll M' (sdF F h e) w0 w1 ch rs gm := by
  have hF := hA.1
  have h8 : d_nh F ≤ 8 := hF.1
  suffices hL : ∃ r, f_X7_sowOf_L20 cb_fuel (nI h) (nI i) x1 (eP1 (bsN (fun d => nwN (sdF F h d)) 0)) (nI (g9 (bsN (fun d => nwN (sdF F h d)) 0) 0)) (nI 0) M = some r ∧ (r.1 = eP1 (bsN (fun d => nwN (sdF F h d)) 30) ∧ r.2.1 = nI (g9 (bsN (fun d => nwN (sdF F h d)) 30) 0) ∧ agr M r.2.2 PY ∧ ∃ e, mAll r.2.2 (sdF F h e) w0 w1 ch rs gm) by
    obtain ⟨⟨r1, r2, r3⟩, h1, h2, h3, h4⟩ := hL
    dsimp only at h2 h3 h4
    rw [h2, h3] at h1
    exact ⟨r3, h1, h4⟩
  refine cb_loop0 (fun m k (T : cb_Mem) => f_X7_sowOf_L20 m (nI h) (nI i) x1 (eP1 (bsN (fun d => nwN (sdF F h d)) k)) (nI (g9 (bsN (fun d => nwN (sdF F h d)) k) 0)) (nI k) T) (fun k T => agr M T PY ∧ ∃ e, mAll T (sdF F h e) w0 w1 ch rs gm) 30 _ M (by omega) ⟨agr.rf, d_due F h, by rw [sdF_self]; exact hA⟩ ?_ ?_
  · rintro m T ⟨a, b⟩
    exact ⟨_, by rw [f_X7_sowOf_L20, if_pos (by decide)], rfl, rfl, a, b⟩
  · rintro m k T hk ⟨a, e, b⟩
    right
    have b1 := mAll_sd b hk hF
    obtain ⟨T2, g1, g2, g3⟩ := m_lives b1
    have b2 := b1.agr g2
    obtain ⟨x, y1, y2⟩ := y_wo b2.1 b2.2.1.2.1 g3.2
    have y3 := msk_on y2
    have y3' : f_X7_ones x = some (nI (nwN (sdF F h k))) := y3
    have hle := nwN_le (sdF F h k)
    refine ⟨T2, ⟨(a.up (by simp [PY])).trans (PL_PY g2), k, b2⟩, ?_⟩
    have hst : bsN (fun d => nwN (sdF F h d)) (k + 1) = match bsN (fun d => nwN (sdF F h d)) k with
      | none => some (k, nwN (sdF F h k))
      | some p => if nwN (sdF F h k) < p.2 then some (k, nwN (sdF F h k)) else some p := rfl
    rw [hst]
    have e1 : eP1 (some (k, nwN (sdF F h k))) = nI k := rfl
    have e2 : g9 (some (k, nwN (sdF F h k))) 0 = nwN (sdF F h k) := rfl
    cases eb : bsN (fun d => nwN (sdF F h d)) k with
    | none =>
      have e3 : eP1 none = -nI 1 := rfl
      simp (disch := first | omega | trivial) only [f_X7_sowOf_L20, li, cn_le, if_neg, cn_mul, cn_add, cn_in, cn_cl, if_pos, cb_let_eq, g1, Option.bind_some, y1, y3', e3, c_1n0, if_false, e1, e2]
    | some q =>
      obtain ⟨q1, q2⟩ := bsN_ok eb
      have q3 := nwN_le (sdF F h q.1)
      have e3 : eP1 (some q) = nI q.1 := rfl
      have e4 : g9 (some q) 0 = q.2 := rfl
      dsimp only
      by_cases ql : nwN (sdF F h k) < q.2
      · rw [if_pos ql]
        simp (disch := first | omega | trivial) only [f_X7_sowOf_L20, li, cn_le, if_neg, cn_mul, cn_add, cn_in, cn_cl, if_pos, cb_let_eq, g1, Option.bind_some, y1, y3', e3, e4, cn_eq1, c_1n0, if_false, e1, e2]
      · rw [if_neg ql]
        simp (disch := first | omega | trivial) only [f_X7_sowOf_L20, li, cn_le, if_neg, cn_mul, cn_add, cn_in, cn_cl, if_pos, cb_let_eq, g1, Option.bind_some, y1, y3', e3, e4, cn_eq1, if_false]
theorem y_sowOf {M : cb_Mem} {A : AS} (hY : yA M A) {h i : Nat} (hh : h < d_nh (FAa A)) (hi : i < 2) : ∃ M', f_X7_sowOf (nI h) (nI i) M = some (swV (FAa A) h i, M') ∧ yA M' A := by
  have h8 : d_nh (FAa A) ≤ 8 := hY.2.1.1
  have hd := (hY.2.1.2.2.1 h hh).2
  have m7 := (hY.2.2.1.2.2.1 h hh).2
  obtain ⟨M1, gx, c1, e, c2⟩ := y_sowL (i := i) hY.2 hh (nI (d_due (FAa A) h))
  have c3 := mAll_sd c2 hd hY.2.1
  rw [sdF_self] at c3
  refine ⟨_, ?_, hY.1.sc (c1.up (q := 7) (j := 2 * h + 1) (v := nI (d_due (FAa A) h)) (by simp [PY])), c3⟩
  unfold swV
  obtain ⟨p, hp⟩ := bsN_30 (fun d => nwN (sdF (FAa A) h d))
  rw [hp] at gx ⊢
  have e1 : eP1 (some p) = nI p.1 := rfl
  have e2 : g9 (some p) 0 = p.2 := rfl
  rw [e1, e2] at gx
  rcases (show i = 0 ∨ i = 1 by omega) with e | e <;> subst e
  · simp (disch := first | omega | trivial) only [f_X7_sowOf, li, cn_mul, cn_add, cn_in, cn_cl, cb_let_eq, if_pos, m7, gx, cb_bind3_eq]
  · simp (disch := first | omega | trivial) only [f_X7_sowOf, li, cn_mul, cn_add, cn_in, cn_cl, cb_let_eq, if_pos, m7, gx, cb_bind3_eq, c_1n0, if_false]
    rfl
theorem C_sow : cs_sow cRel := by
  rintro MX MY p1 p2 ⟨A, hA, hX, hY⟩
  obtain ⟨MY1, fy, ay, wy⟩ := y_findA hA hY
  have hRy : cRel MX MY1 := ⟨A, hA, hX, ay.1⟩
  rcases cn_range p1 (d_nh (FAa A)) with ⟨h, hh, rfl⟩ | h1
  · have o1 := x_noH (A_xh hX) (A_nh hA) hh
    have o3 := v_isH ay.2.2.1.1 (A_nh hA) hh
    rcases cn_range p2 2 with ⟨i, hi, rfl⟩ | h2
    · obtain ⟨MX1, fx, ax⟩ := x_sow hA hX hh hi
      have o4 := v_two hi
      obtain ⟨MY2, gy, ay2⟩ := y_sowOf ay hh hi
      refine ⟨_, MX1, MY2, fx, ?_, A, hA, ax, ay2.1⟩
      simp (disch := first | omega | trivial) only [f_X7_sow, li, fy, Option.bind_some, o3, o4, cb_let_eq, c_1n0, if_false, gy, cb_bind2_eq]
    · have o2 := v_isOff_out h2 (by omega)
      have o4 := v_twoN h2
      refine ⟨-nI 2, MX, MY1, ?_, ?_, hRy⟩
      · simp (disch := first | omega | trivial) only [f_X6_sow, li, o1, o2, cb_let_eq, if_pos, c_1n0, if_false]
      · simp (disch := first | omega | trivial) only [f_X7_sow, li, fy, Option.bind_some, o3, o4, cb_let_eq, c_1n0, if_false, if_pos]
  · have o1 := x_noHN (A_xh hX) (A_nh hA) h1
    have o3 := v_isHN ay.2.2.1.1 (A_nh hA) h1
    refine ⟨-nI 2, MX, MY1, ?_, ?_, hRy⟩
    · simp (disch := first | omega | trivial) only [f_X6_sow, li, o1, cb_let_eq, c_1n0, if_false]
    · simp (disch := first | omega | trivial) only [f_X7_sow, li, fy, Option.bind_some, o3, cb_let_eq, if_pos]
/-! come -/
def bcN (f : Nat → Option Nat) : Nat → Option (Nat × Nat)
  | 0 => none
  | n + 1 => match f n with
    | none => bcN f n
    | some g => match bcN f n with
      | none => some (n, g)
      | some p => if g < p.2 then some (n, g) else some p
theorem bcN_ok {f : Nat → Option Nat} : ∀ {n : Nat} {p : Nat × Nat}, bcN f n = some p → p.1 < n ∧ f p.1 = some p.2
  | 0, p, h => by cases h
  | n + 1, p, h => by
    rw [bcN] at h
    cases ef : f n with
    | none => rw [ef] at h; dsimp only at h; have ih := bcN_ok h; exact ⟨by omega, ih.2⟩
    | some g =>
      rw [ef] at h
      dsimp only at h
      cases e : bcN f n with
      | none => rw [e] at h; cases h; exact ⟨by dsimp only; omega, ef⟩
      | some q =>
        rw [e] at h
        dsimp only at h
        have ih := bcN_ok e
        split at h
        · cases h; exact ⟨by dsimp only; omega, ef⟩
        · cases h; exact ⟨by omega, ih.2⟩
def gcF (F : FD) (c d : Nat) : Option Nat := ((wk (sfF F c d)).1 c).map Prod.snd
theorem gcF_lt {F : FD} {c d g : Nat} (h : gcF F c d = some g) : g < 40 := by
  unfold gcF at h
  cases e : (wk (sfF F c d)).1 c with
  | none => rw [e] at h; cases h
  | some p =>
    rw [e] at h
    cases h
    exact ((wk_ok (sfF F c d)).1.1 c p e).2.2.1
theorem gcF_e {F : FD} {c d : Nat} : eP2 ((wk (sfF F c d)).1 c) = eO (gcF F c d) := by
  unfold gcF
  cases (wk (sfF F c d)).1 c <;> rfl
def cmV (F : FD) (c i : Nat) : Int32 := if i = 0 then eP1 (bcN (gcF F c) 30) else eP2 (bcN (gcF F c) 30)
theorem x_comeL {M : cb_Mem} {F : FD} (hF : WF F) (hM : xFd M F) {c i : Nat} (hc : c < d_nc F) : ∃ M', f_X6_come_L31 cb_fuel (nI c) (nI i) (-nI 1) (-nI 1) (nI 0) M = some (eP1 (bcN (gcF F c) 30), eP2 (bcN (gcF F c) 30), M') ∧ agr M M' PX := by
  have c8 : d_nc F ≤ 8 := hF.2.1
  suffices hL : ∃ r, f_X6_come_L31 cb_fuel (nI c) (nI i) (eP1 (bcN (gcF F c) 0)) (eP2 (bcN (gcF F c) 0)) (nI 0) M = some r ∧ (r.1 = eP1 (bcN (gcF F c) 30) ∧ r.2.1 = eP2 (bcN (gcF F c) 30) ∧ agr M r.2.2 PX) by
    obtain ⟨⟨r1, r2, r3⟩, h1, h2, h3, h4⟩ := hL
    dsimp only at h2 h3 h4
    rw [h2, h3] at h1
    exact ⟨r3, h1, h4⟩
  refine cb_loop0 (fun m k (T : cb_Mem) => f_X6_come_L31 m (nI c) (nI i) (eP1 (bcN (gcF F c) k)) (eP2 (bcN (gcF F c) k)) (nI k) T) (fun k T => agr M T PX ∧ ∃ e, xFd T (sfF F c e)) 30 _ M (by omega) ⟨agr.rf, _, by rw [sfF_self]; exact hM⟩ ?_ ?_
  · rintro m T ⟨a, -⟩
    exact ⟨_, by rw [f_X6_come_L31, if_pos (by decide)], rfl, rfl, a⟩
  · rintro m k T hk ⟨a, e, b⟩
    right
    obtain ⟨T2, g1, g2, g3⟩ := x_go (WF_sf hF hk) (xFd_sf (d := k) b)
    have b2 := (xFd_sf (d := k) b).agr g2 (by intro k j q; simp only [PG]; omega)
    have e25 := (g3.2.2.2.2 c (by omega)).2
    rw [gcF_e] at e25
    refine ⟨T2, ⟨(a.up (by simp only [PX]; omega)).trans (PG_PX g2), k, b2⟩, ?_⟩
    rw [bcN]
    cases eg : gcF F c k with
    | none =>
      rw [eg] at e25
      have e25' : T2 25 c = -nI 1 := e25
      simp (disch := first | omega | trivial) only [f_X6_come_L31, li, cn_le, if_neg, cn_in, cn_cl, if_pos, cb_let_eq, g1, Option.bind_some, e25', cb_bind2_eq, cn_add]
    | some g =>
      have hg := gcF_lt eg
      rw [eg] at e25
      have e25' : T2 25 c = nI g := e25
      dsimp only
      have z1 : eP1 (some (k, g)) = nI k := rfl
      have z2 : eP2 (some (k, g)) = nI g := rfl
      cases eb : bcN (gcF F c) k with
      | none =>
        have z3 : eP1 none = -nI 1 := rfl
        have z4 : eP2 none = -nI 1 := rfl
        simp (disch := first | omega | trivial) only [f_X6_come_L31, li, cn_le, if_neg, cn_in, cn_cl, if_pos, cb_let_eq, g1, Option.bind_some, e25', cn_eq1, if_false, cb_bind2_eq, cn_add, z1, z2, z3, z4]
      | some p =>
        obtain ⟨p1, p2⟩ := bcN_ok eb
        have p3 := gcF_lt p2
        have z3 : eP1 (some p) = nI p.1 := rfl
        have z4 : eP2 (some p) = nI p.2 := rfl
        dsimp only
        by_cases q : g < p.2
        · rw [if_pos q]
          simp (disch := first | omega | trivial) only [f_X6_come_L31, li, cn_le, if_neg, cn_in, cn_cl, if_pos, cb_let_eq, g1, Option.bind_some, e25', cn_eq1, if_false, cb_bind2_eq, cn_add, z1, z2, z3, z4]
        · rw [if_neg q]
          simp (disch := first | omega | trivial) only [f_X6_come_L31, li, cn_le, if_neg, cn_in, cn_cl, if_pos, cb_let_eq, g1, Option.bind_some, e25', cn_eq1, if_false, cb_bind2_eq, cn_add, z3, z4]
theorem x_come {M : cb_Mem} {A : AS} (hA : AOK A) (hX : XS M A) {c i : Nat} (hc : c < d_nc (FAa A)) (hi : i < 2) : ∃ M', f_X6_come (nI c) (nI i) M = some (cmV (FAa A) c i, M') ∧ XS M' A := by
  obtain ⟨M1, fx, ax, b1⟩ := x_lay0 hA hX
  obtain ⟨M2, gx, c2⟩ := x_comeL (i := i) (WF_FA hA) b1 hc
  have o1 := x_noC (A_xc hX) (A_nc hA) hc
  have o2 := v_isOff_in hi (by omega)
  refine ⟨M2, ?_, ax.sc c2⟩
  rcases (show i = 0 ∨ i = 1 by omega) with e | e <;> subst e
  · simp (disch := first | omega | trivial) only [f_X6_come, li, o1, o2, cb_let_eq, if_pos, fx, Option.bind_some, gx, cb_bind3_eq, cmV]
  · simp (disch := first | omega | trivial) only [f_X6_come, li, o1, o2, cb_let_eq, if_pos, fx, Option.bind_some, gx, cb_bind3_eq, c_1n0, if_false, cmV]
    rfl
theorem y_comeL {M : cb_Mem} {F : FD} {w0 w1 : List Nat} {ch : Option Nat} {rs : List (Nat × Nat)} {gm : Nat} (hA : mAll M F w0 w1 ch rs gm) {c i : Nat} (hc : c < d_nc F) (x1 : Int32) : ∃ M', f_X7_comeOf_L20 cb_fuel (nI c) (nI i) x1 (-nI 1) (-nI 1) (nI 0) M = some (eP1 (bcN (gcF F c) 30), eP2 (bcN (gcF F c) 30), M') ∧ agr M M' PY ∧ ∃ e, mAll M' (sfF F c e) w0 w1 ch rs gm := by
  have hF := hA.1
  have c8 : d_nc F ≤ 8 := hF.2.1
  have h8 : d_nh F ≤ 8 := hF.1
  suffices hL : ∃ r, f_X7_comeOf_L20 cb_fuel (nI c) (nI i) x1 (eP1 (bcN (gcF F c) 0)) (eP2 (bcN (gcF F c) 0)) (nI 0) M = some r ∧ (r.1 = eP1 (bcN (gcF F c) 30) ∧ r.2.1 = eP2 (bcN (gcF F c) 30) ∧ agr M r.2.2 PY ∧ ∃ e, mAll r.2.2 (sfF F c e) w0 w1 ch rs gm) by
    obtain ⟨⟨r1, r2, r3⟩, h1, h2, h3, h4⟩ := hL
    dsimp only at h2 h3 h4
    rw [h2, h3] at h1
    exact ⟨r3, h1, h4⟩
  refine cb_loop0 (fun m k (T : cb_Mem) => f_X7_comeOf_L20 m (nI c) (nI i) x1 (eP1 (bcN (gcF F c) k)) (eP2 (bcN (gcF F c) k)) (nI k) T) (fun k T => agr M T PY ∧ ∃ e, mAll T (sfF F c e) w0 w1 ch rs gm) 30 _ M (by omega) ⟨agr.rf, d_frm F c, by rw [sfF_self]; exact hA⟩ ?_ ?_
  · rintro m T ⟨a, b⟩
    exact ⟨_, by rw [f_X7_comeOf_L20, if_pos (by decide)], rfl, rfl, a, b⟩
  · rintro m k T hk ⟨a, e, b⟩
    right
    have b1 := mAll_sf b hk hF
    obtain ⟨T2, g1, g2, g3⟩ := m_lives b1
    have b2 := b1.agr g2
    obtain ⟨e16, e17, -⟩ := g3.2.1 c hc
    refine ⟨T2, ⟨(a.up (by simp [PY])).trans (PL_PY g2), k, b2⟩, ?_⟩
    rw [bcN]
    cases ew : (wk (sfF F c k)).1 c with
    | none =>
      have eg : gcF F c k = none := by unfold gcF; rw [ew]; rfl
      rw [ew] at e16
      have e16' : T2 16 c = -nI 1 := e16
      rw [eg]
      simp (disch := first | omega | trivial) only [f_X7_comeOf_L20, li, cn_le, if_neg, cn_mul, cn_add, cn_in, cn_cl, if_pos, cb_let_eq, g1, Option.bind_some, e16']
    | some r =>
      have eg : gcF F c k = some r.2 := by unfold gcF; rw [ew]; rfl
      obtain ⟨-, r1, r2, -⟩ := (wk_ok (sfF F c k)).1.1 c r ew
      have r1' : r.1 < d_nh F := r1
      rw [ew] at e16 e17
      have e16' : T2 16 c = nI r.1 := e16
      have e17' : T2 17 c = nI r.2 := e17
      rw [eg]
      dsimp only
      have z1 : eP1 (some (k, r.2)) = nI k := rfl
      have z2 : eP2 (some (k, r.2)) = nI r.2 := rfl
      cases eb : bcN (gcF F c) k with
      | none =>
        have z3 : eP1 none = -nI 1 := rfl
        have z4 : eP2 none = -nI 1 := rfl
        simp (disch := first | omega | trivial) only [f_X7_comeOf_L20, li, cn_le, if_neg, cn_mul, cn_add, cn_in, cn_cl, if_pos, cb_let_eq, g1, Option.bind_some, e16', e17', cn_eq1, c_1n0, if_false, z1, z2, z3, z4]
      | some p =>
        obtain ⟨p1, p2⟩ := bcN_ok eb
        have p3 := gcF_lt p2
        have z3 : eP1 (some p) = nI p.1 := rfl
        have z4 : eP2 (some p) = nI p.2 := rfl
        dsimp only
        by_cases q : r.2 < p.2
        · rw [if_pos q]
          simp (disch := first | omega | trivial) only [f_X7_comeOf_L20, li, cn_le, if_neg, cn_mul, cn_add, cn_in, cn_cl, if_pos, cb_let_eq, g1, Option.bind_some, e16', e17', cn_eq1, c_1n0, if_false, z1, z2, z3, z4]
        · rw [if_neg q]
          simp (disch := first | omega | trivial) only [f_X7_comeOf_L20, li, cn_le, if_neg, cn_mul, cn_add, cn_in, cn_cl, if_pos, cb_let_eq, g1, Option.bind_some, e16', e17', cn_eq1, if_false, z3, z4]
theorem y_comeOf {M : cb_Mem} {A : AS} (hY : yA M A) {c i : Nat} (hc : c < d_nc (FAa A)) (hi : i < 2) : ∃ M', f_X7_comeOf (nI c) (nI i) M = some (cmV (FAa A) c i, M') ∧ yA M' A := by
  have c8 : d_nc (FAa A) ≤ 8 := hY.2.1.2.1
  have hd := (hY.2.1.2.2.2.1 c hc).2.1
  have m8 := (hY.2.2.1.2.2.2 c hc).2.1
  obtain ⟨M1, gx, c1, e, c2⟩ := y_comeL (i := i) hY.2 hc (nI (d_frm (FAa A) c))
  have c3 := mAll_sf c2 hd hY.2.1
  rw [sfF_self] at c3
  refine ⟨_, ?_, hY.1.sc (c1.up (q := 8) (j := 3 * c + 1) (v := nI (d_frm (FAa A) c)) (by simp [PY])), c3⟩
  rcases (show i = 0 ∨ i = 1 by omega) with e | e <;> subst e
  · simp (disch := first | omega | trivial) only [f_X7_comeOf, li, cn_mul, cn_add, cn_in, cn_cl, cb_let_eq, if_pos, m8, gx, cb_bind3_eq, cmV]
  · simp (disch := first | omega | trivial) only [f_X7_comeOf, li, cn_mul, cn_add, cn_in, cn_cl, cb_let_eq, if_pos, m8, gx, cb_bind3_eq, c_1n0, if_false, cmV]
    rfl
theorem C_come : cs_come cRel := by
  rintro MX MY p1 p2 ⟨A, hA, hX, hY⟩
  obtain ⟨MY1, fy, ay, wy⟩ := y_findA hA hY
  have hRy : cRel MX MY1 := ⟨A, hA, hX, ay.1⟩
  rcases cn_range p1 (d_nc (FAa A)) with ⟨h, hh, rfl⟩ | h1
  · have o1 := x_noC (A_xc hX) (A_nc hA) hh
    have o3 := v_isC ay.2.2.1.2.1 (A_nc hA) hh
    rcases cn_range p2 2 with ⟨i, hi, rfl⟩ | h2
    · obtain ⟨MX1, fx, ax⟩ := x_come hA hX hh hi
      have o4 := v_two hi
      obtain ⟨MY2, gy, ay2⟩ := y_comeOf ay hh hi
      refine ⟨_, MX1, MY2, fx, ?_, A, hA, ax, ay2.1⟩
      simp (disch := first | omega | trivial) only [f_X7_come, li, fy, Option.bind_some, o3, o4, cb_let_eq, c_1n0, if_false, gy, cb_bind2_eq]
    · have o2 := v_isOff_out h2 (by omega)
      have o4 := v_twoN h2
      refine ⟨-nI 2, MX, MY1, ?_, ?_, hRy⟩
      · simp (disch := first | omega | trivial) only [f_X6_come, li, o1, o2, cb_let_eq, if_pos, c_1n0, if_false]
      · simp (disch := first | omega | trivial) only [f_X7_come, li, fy, Option.bind_some, o3, o4, cb_let_eq, c_1n0, if_false, if_pos]
  · have o1 := x_noCN (A_xc hX) (A_nc hA) h1
    have o3 := v_isCN ay.2.2.1.2.1 (A_nc hA) h1
    refine ⟨-nI 2, MX, MY1, ?_, ?_, hRy⟩
    · simp (disch := first | omega | trivial) only [f_X6_come, li, o1, cb_let_eq, c_1n0, if_false]
    · simp (disch := first | omega | trivial) only [f_X7_come, li, fy, Option.bind_some, o3, cb_let_eq, if_pos]
