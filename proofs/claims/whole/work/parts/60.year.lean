/-! year -/
def lcN (s : Int32) : Nat → Int32
  | 0 => s
  | n + 1 => nI 1103515245 * lcN s n + nI 12345
def drN (x : Int32) : Nat := (x.toUInt32 >>> ((nI 16).toUInt32 &&& (nI 31).toUInt32)).toNat % 30
theorem ui_nI (u : UInt32) : u.toInt32 = nI u.toNat := by
  apply bi_ext
  rw [bi_bv]
  apply BitVec.eq_of_toNat_eq
  rw [BitVec.toNat_ofNat]
  show u.toNat = u.toNat % 2 ^ 32
  rw [Nat.mod_eq_of_lt u.toNat_lt]
theorem hi_lt (x : Int32) : (x.toUInt32 >>> ((nI 16).toUInt32 &&& (nI 31).toUInt32)).toNat < 65536 := by
  rw [UInt32.toNat_shiftRight, show ((nI 16).toUInt32 &&& (nI 31).toUInt32).toNat % 32 = 16 by decide, Nat.shiftRight_eq_div_pow]
  have := x.toUInt32.toNat_lt
  omega
theorem dr_val (x : Int32) : (x.toUInt32 >>> ((nI 16).toUInt32 &&& (nI 31).toUInt32)).toInt32 - (x.toUInt32 >>> ((nI 16).toUInt32 &&& (nI 31).toUInt32)).toInt32 / nI 30 * nI 30 = nI (drN x) := by
  have h := hi_lt x
  rw [ui_nI]
  unfold drN
  generalize (x.toUInt32 >>> ((nI 16).toUInt32 &&& (nI 31).toUInt32)).toNat = q at h
  rw [cn_div (by omega) (by omega) (by omega), cn_rem (by omega) (by omega) (by omega)]
theorem dr_lt (x : Int32) : drN x < 30 := Nat.mod_lt _ (by omega)
def yrF (F : FD) (s : Int32) (k : Nat) : FD := ((F.1.1, F.1.2.1, fun h => if h < k then drN (lcN s (h + 1)) else F.1.2.2 h), F.2)
theorem yrF_0 (F : FD) (s : Int32) : yrF F s 0 = F := rfl
theorem WF_yr {F : FD} (hF : WF F) {s : Int32} {k : Nat} : WF (yrF F s k) := by
  obtain ⟨a1, a2, a3, a4, a5, a6⟩ := hF
  refine ⟨a1, a2, fun h hh => ⟨(a3 h hh).1, ?_⟩, a4, a5, a6⟩
  show (if h < k then drN (lcN s (h + 1)) else F.1.2.2 h) < 30
  split
  · exact dr_lt _
  · exact (a3 h hh).2
theorem xFd_yr {M : cb_Mem} {F : FD} {s : Int32} {k : Nat} (hM : xFd M (yrF F s k)) : xFd (cb_up M 17 k (nI (drN (lcN s (k + 1))))) (yrF F s (k + 1)) := by
  obtain ⟨a1, a2, a3, a4, a5, a6⟩ := hM
  refine ⟨by rw [cu, if_neg (by omega)]; exact a1, by rw [cu, if_neg (by omega)]; exact a2, by rw [cu, if_neg (by omega)]; exact a3, fun h hh => ⟨?_, ?_⟩, fun k hk => by rw [cu, if_neg (by omega)]; exact a5 k hk, fun c hc => by rw [cu, if_neg (by omega), cu, if_neg (by omega), cu, if_neg (by omega)]; exact a6 c hc⟩
  · rw [cu, if_neg (by omega)]; exact (a4 h hh).1
  · show _ = nI (if h < k + 1 then drN (lcN s (h + 1)) else F.1.2.2 h)
    rw [cu, if_pos rfl]
    by_cases q : h = k
    · subst q; rw [if_pos rfl, if_pos (by omega)]
    · rw [if_neg q]
      have := (a4 h hh).2
      rw [this]
      show nI (if h < k then drN (lcN s (h + 1)) else F.1.2.2 h) = _
      by_cases q2 : h < k
      · rw [if_pos q2, if_pos (by omega)]
      · rw [if_neg q2, if_neg (by omega)]
theorem mAll_yr {M : cb_Mem} {F : FD} {s : Int32} {k : Nat} {w0 w1 : List Nat} {ch : Option Nat} {rs : List (Nat × Nat)} {gm : Nat} (hM : mAll M (yrF F s k) w0 w1 ch rs gm) (hF : WF F) {x : Int32} : mAll (cb_up (cb_up M 0 30 x) 7 (2 * k + 1) (nI (drN (lcN s (k + 1))))) (yrF F s (k + 1)) w0 w1 ch rs gm := by
  have hM' : mAll (cb_up M 0 30 x) (yrF F s k) w0 w1 ch rs gm := hM.eq (fun k j q => by
    rw [cu]
    by_cases q0 : k = 0
    · rw [if_pos q0, if_neg (by omega)]
    · rw [if_neg q0])
  obtain ⟨-, ⟨a1, a2, a3, a4⟩, b, c, r⟩ := hM'
  refine ⟨WF_yr hF, ⟨by rw [cu, if_neg (by omega)]; exact a1, by rw [cu, if_neg (by omega)]; exact a2, fun h hh => ⟨?_, ?_⟩, fun c hc => by rw [cu, if_neg (by omega), cu, if_neg (by omega), cu, if_neg (by omega)]; exact a4 c hc⟩, b.eq (fun k j q => by rw [cu, if_neg (by omega)]), c.eq (fun k j q => by rw [cu, if_neg (by omega)]), r⟩
  · rw [cu, if_pos rfl, if_neg (by omega)]; exact (a3 h hh).1
  · show _ = nI (if h < k + 1 then drN (lcN s (h + 1)) else F.1.2.2 h)
    rw [cu, if_pos rfl]
    by_cases q : h = k
    · subst q; rw [if_pos rfl, if_pos (by omega)]
    · rw [if_neg (by omega)]
      have := (a3 h hh).2
      rw [this]
      show nI (if h < k then drN (lcN s (h + 1)) else F.1.2.2 h) = _
      by_cases q2 : h < k
      · rw [if_pos q2, if_pos (by omega)]
      · rw [if_neg q2, if_neg (by omega)]
theorem x_yearL {M : cb_Mem} {F : FD} (hF : WF F) (hM : xFd M F) (s : Int32) (i : Nat) : ∃ M', f_X6_year_L20 cb_fuel (nI i) s (nI 0) M = some M' ∧ (agr M M' PX ∧ xFd M' (yrF F s (d_nh F))) := by
  have h8 : d_nh F ≤ 8 := hF.1
  refine cb_loop0 (fun m k (T : cb_Mem) => f_X6_year_L20 m (nI i) (lcN s k) (nI k) T) (fun k T => agr M T PX ∧ xFd T (yrF F s k)) (d_nh F) _ M (by omega) ⟨agr.rf, hM⟩ ?_ ?_
  · rintro m T ⟨a, b⟩
    have e : T 3 6 = nI (d_nh F) := b.1
    exact ⟨T, by rw [f_X6_year_L20, e, if_pos (by rw [cn_le (by omega) (by omega)]; omega)], a, b⟩
  · rintro m k T hk ⟨a, b⟩
    have e : T 3 6 = nI (d_nh F) := b.1
    right
    refine ⟨cb_up T 17 k (nI (drN (lcN s (k + 1)))), ⟨a.up (by simp [PX]), xFd_yr b⟩, ?_⟩
    have hv := dr_val (lcN s (k + 1))
    rw [show lcN s (k + 1) = nI 1103515245 * lcN s k + nI 12345 from rfl] at hv ⊢
    simp (disch := first | omega | trivial) only [f_X6_year_L20, li, e, cn_le, if_neg, cb_let_eq, cn_in, cn_cl, if_pos, hv, cn_add]
theorem y_yearL {M : cb_Mem} {F : FD} {w0 w1 : List Nat} {ch : Option Nat} {rs : List (Nat × Nat)} {gm : Nat} (hA : mAll M F w0 w1 ch rs gm) (s : Int32) (i : Nat) (h30 : M 0 30 = s) : ∃ M', f_X7_yearOf_L7 cb_fuel (nI i) (nI 0) M = some M' ∧ (agr M M' PY ∧ mAll M' (yrF F s (d_nh F)) w0 w1 ch rs gm) := by
  have hF := hA.1
  have h8 : d_nh F ≤ 8 := hF.1
  obtain ⟨r, h1, h2, h3, -⟩ : ∃ M', f_X7_yearOf_L7 cb_fuel (nI i) (nI 0) M = some M' ∧ (agr M M' PY ∧ mAll M' (yrF F s (d_nh F)) w0 w1 ch rs gm ∧ M' 0 30 = lcN s (d_nh F)) := by
    refine cb_loop0 (fun m k (T : cb_Mem) => f_X7_yearOf_L7 m (nI i) (nI k) T) (fun k T => agr M T PY ∧ mAll T (yrF F s k) w0 w1 ch rs gm ∧ T 0 30 = lcN s k) (d_nh F) _ M (by omega) ⟨agr.rf, hA, h30⟩ ?_ ?_
    · rintro m T ⟨a, b, c⟩
      have e : T 0 7 = nI (d_nh F) := b.2.1.1
      exact ⟨T, by rw [f_X7_yearOf_L7, e, if_pos (by rw [cn_le (by omega) (by omega)]; omega)], a, b, c⟩
    · rintro m k T hk ⟨a, b, c⟩
      have e : T 0 7 = nI (d_nh F) := b.2.1.1
      right
      refine ⟨cb_up (cb_up T 0 30 (lcN s (k + 1))) 7 (2 * k + 1) (nI (drN (lcN s (k + 1)))), ⟨(a.up (by simp [PY])).up (by simp [PY]), mAll_yr b hF, by rw [cu, if_neg (by omega), cu, if_pos rfl, if_pos rfl]⟩, ?_⟩
      have hv := dr_val (lcN s (k + 1))
      have hl : lcN s (k + 1) = nI 1103515245 * lcN s k + nI 12345 := rfl
      have e30 : cb_up T 0 30 (lcN s (k + 1)) 0 30 = lcN s (k + 1) := by rw [cu, if_pos rfl, if_pos rfl]
      rw [hl] at hv e30 ⊢
      simp (disch := first | omega | trivial) only [f_X7_yearOf_L7, f_X7_lot, li, e, cn_le, if_neg, cb_let_eq, c, cn_eq, e30, hv, cb_bind2_eq, cn_mul, cn_add, cn_in, cn_cl, if_pos]
  exact ⟨r, h1, h2, h3⟩
def yrV (F : FD) (w1 : List Nat) (s : Int32) (i : Nat) : Int32 := if i = 0 then nI (chN (yrF F s (d_nh F)) w1 39 (d_nc F)) else nI (nwN (yrF F s (d_nh F)))
theorem x_year {M : cb_Mem} {A : AS} (hA : AOK A) (hX : XS M A) {s : Int32} {i : Nat} (hi : i < 2) : ∃ M', f_X6_year s (nI i) M = some (yrV (FAa A) A.2.1.2 s i, M') ∧ XS M' A := by
  obtain ⟨M1, fx, ax, b1⟩ := x_lay0 hA hX
  obtain ⟨M2, gx, c1, c2⟩ := x_yearL (WF_FA hA) b1 s i
  obtain ⟨M3, g1, g2, g3⟩ := x_go (WF_yr (WF_FA hA)) c2
  have b2 := c2.agr g2 (by intro k j q; simp only [PG]; omega)
  have ax3 := (ax.sc c1).sc (PG_PX g2)
  have o2 := v_isOff_in hi (by omega)
  refine ⟨M3, ?_, ax3⟩
  rcases (show i = 0 ∨ i = 1 by omega) with e | e <;> subst e
  · have hch := x_childrenBehind (w1 := A.2.1.2) (WF_yr (WF_FA hA)) ax3.2.2.2.1 hA.2.2.1.1 hA.2.2.1.2 b2 g3 (show 39 < 40 by omega)
    simp (disch := first | omega | trivial) only [f_X6_year, li, o2, cb_let_eq, if_pos, fx, Option.bind_some, gx, g1, hch, yrV]
    rfl
  · have hn := x_nw (WF_yr (WF_FA hA)) b2 g3
    simp (disch := first | omega | trivial) only [f_X6_year, li, o2, cb_let_eq, if_pos, fx, Option.bind_some, gx, g1, hn, c_1n0, if_false, yrV]
    rfl
theorem y_yearOf {M : cb_Mem} {A : AS} (hY : yA M A) {s : Int32} {i : Nat} (hi : i < 2) : ∃ M', f_X7_yearOf s (nI i) M = some (yrV (FAa A) A.2.1.2 s i, M') ∧ yA M' A := by
  have b0 : agr M (cb_up M 0 30 s) PY := agr.rf.up (by simp [PY])
  have m0 : mAll (cb_up M 0 30 s) (FAa A) A.2.1.1 A.2.1.2 none A.2.2.1 0 := hY.2.eq (fun k j q => by
    rw [cu]
    by_cases q0 : k = 0
    · rw [if_pos q0, if_neg (by omega)]
    · rw [if_neg q0])
  obtain ⟨M2, gx, c1, c2⟩ := y_yearL m0 s i (by rw [cu, if_pos rfl, if_pos rfl])
  obtain ⟨M3, g1, g2, g3⟩ := m_lives c2
  have c3 := c2.agr g2
  have hF' := c3.1
  have y3 : YS M3 A := hY.1.sc ((b0.trans c1).trans (PL_PY g2))
  obtain ⟨M4, f4, a4, d4, e4⟩ := m_readsHeads y3.1
  have y4 : YS M4 A := y3.sc (PH_PY a4)
  have w4 : mWk M4 (yrF (FAa A) s (d_nh (FAa A))) A.2.1.2 := g3.eq (fun k j q => a4 _ _ (by simp only [PH]; omega))
  have n4 : M4 0 9 = nI (d_nc (FAa A)) := by rw [a4 _ _ (by simp only [PH]; omega)]; exact c3.2.1.2.1
  have A4 : mAll M4 (FAa A) A.2.1.1 A.2.1.2 none A.2.2.1 0 := by
    refine ⟨hY.2.1, ⟨d4, n4, e4, fun c hc => ?_⟩, y4.2.2.1, y4.2.2.2.1, rfl, fun h => rfl⟩
    rw [a4 _ _ (by simp only [PH]; omega), a4 _ _ (by simp only [PH]; omega), a4 _ _ (by simp only [PH]; omega)]
    exact c3.2.1.2.2.2 c hc
  refine ⟨M4, ?_, y4, A4⟩
  rcases (show i = 0 ∨ i = 1 by omega) with e | e <;> subst e
  · have vy := y_childrenBy hF' n4 w4.2 (show 39 < 40 by omega)
    simp (disch := first | omega | trivial) only [f_X7_yearOf, li, cb_let_eq, if_pos, gx, Option.bind_some, g1, f4, cb_bind2_eq, vy, yrV]
    rfl
  · obtain ⟨x, y1, y2⟩ := y_wo hF' n4 w4.2
    have y3 := msk_on y2
    simp (disch := first | omega | trivial) only [f_X7_yearOf, li, cb_let_eq, if_pos, gx, Option.bind_some, g1, f4, cb_bind2_eq, y1, y3, c_1n0, if_false, yrV]
    rfl
theorem C_year : cs_year cRel := by
  rintro MX MY p1 p2 ⟨A, hA, hX, hY⟩
  obtain ⟨MY1, fy, ay, wy⟩ := y_findA hA hY
  have hRy : cRel MX MY1 := ⟨A, hA, hX, ay.1⟩
  rcases cn_range p2 2 with ⟨i, hi, rfl⟩ | h2
  · obtain ⟨MX1, fx, ax⟩ := x_year (s := p1) hA hX hi
    have o4 := v_two hi
    obtain ⟨MY2, gy, ay2⟩ := y_yearOf (s := p1) ay hi
    refine ⟨_, MX1, MY2, fx, ?_, A, hA, ax, ay2.1⟩
    simp (disch := first | omega | trivial) only [f_X7_year, li, fy, Option.bind_some, o4, cb_let_eq, c_1n0, if_false, gy, cb_bind2_eq]
  · have o2 := v_isOff_out h2 (by omega)
    have o4 := v_twoN h2
    refine ⟨-nI 2, MX, MY1, ?_, ?_, hRy⟩
    · simp (disch := first | omega | trivial) only [f_X6_year, li, o2, cb_let_eq, c_1n0, if_false]
    · simp (disch := first | omega | trivial) only [f_X7_year, li, fy, Option.bind_some, o4, cb_let_eq, if_pos]
