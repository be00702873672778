/-! the whole digest -/
def dgA (A : AS) : Int64 := ((31 : Int64) * (((31 : Int64) * fdN (ctV A) 17 8) + (eO (flt 0 A.1.1)).toInt64)) + (eO (flt 1 A.1.2)).toInt64
def dgB (A : AS) : Int64 := clN A (hlN A (dgA A) (d_nh (FAa A))) (d_nc (FAa A))
def dgC (A : AS) : Int64 := ((31 : Int64) * (((31 : Int64) * dgB A) + (nI (chN (FAa A) A.2.1.2 9 (d_nc (FAa A)))).toInt64)) + (nI (mkN (wiB (FAa A)) 8)).toInt64
def dgD (A : AS) : Int64 := ((31 : Int64) * (((31 : Int64) * dgC A) + (trV (FAa A) 0).toInt64)) + (trV (FAa A) 1).toInt64
def dgE (A : AS) : Int64 := ((31 : Int64) * (((31 : Int64) * dgD A) + (nI (mtV (FAa A))).toInt64)) + (nvV (FAa A) A.2.2.1 A.2.2.2.1).toInt64
def dgV (A : AS) : Int64 := ((31 : Int64) * (((31 : Int64) * dgE A) + (yrV (FAa A) A.2.1.2 (nI 7) 0).toInt64)) + (yrV (FAa A) A.2.1.2 (nI 7) 1).toInt64
theorem x_fault {M : cb_Mem} {A : AS} (hX : XS M A) : f_X6_fault (nI 0) M = some (eO (flt 0 A.1.1)) ∧ f_X6_fault (nI 1) M = some (eO (flt 1 A.1.2)) := by
  have o1 := v_isOff_in (show 0 < 2 by omega) (by omega)
  have o2 := v_isOff_in (show 1 < 2 by omega) (by omega)
  constructor
  · have := hX.1.2.1
    simp (disch := first | omega | trivial) only [f_X6_fault, li, o1, cb_let_eq, if_pos, cn_in, cn_cl, this]
  · have := hX.2.1.2.1
    simp (disch := first | omega | trivial) only [f_X6_fault, li, o2, cb_let_eq, if_pos, cn_in, cn_cl, this]
theorem x_dgS {M M1 M2 M3 M4 M5 M6 M7 M8 M9 M10 M11 : cb_Mem} {y1 y3 y4 : Int64} {a b x1 x2 x5 x6 x7 x8 x9 x10 x11 x12 : Int32} (h1 : f_X6_digest_L6 cb_fuel 17 0 M = some (y1, M1)) (h2 : f_X6_fault 0 M1 = some x1) (h3 : f_X6_fault 1 M1 = some x2) (e1 : M1 30 6 = a) (h4 : f_X6_digest_L68 cb_fuel a (((31 : Int64) * (((31 : Int64) * y1) + x1.toInt64)) + x2.toInt64) 0 M1 = some (y3, M2)) (e2 : M2 31 6 = b) (h5 : f_X6_digest_L102 cb_fuel b y3 0 M2 = some (y4, M3)) (h6 : f_X6_children 9 M3 = some (x5, M4)) (h7 : f_X6_without M4 = some (x6, M5)) (h8 : f_X6_turn 0 M5 = some (x7, M6)) (h9 : f_X6_turn 1 M6 = some (x8, M7)) (h10 : f_X6_met M7 = some (x9, M8)) (h11 : f_X6_never M8 = some (x10, M9)) (h12 : f_X6_year 7 0 M9 = some (x11, M10)) (h13 : f_X6_year 7 1 M10 = some (x12, M11)) : f_X6_digest M = some (((31 : Int64) * (((31 : Int64) * (((31 : Int64) * (((31 : Int64) * (((31 : Int64) * (((31 : Int64) * (((31 : Int64) * (((31 : Int64) * y4) + x5.toInt64)) + x6.toInt64)) + x7.toInt64)) + x8.toInt64)) + x9.toInt64)) + x10.toInt64)) + x11.toInt64)) + x12.toInt64, M11) := by
  unfold f_X6_digest
  rw [h1, cb_bind2_eq, h2, Option.bind_some, h3, Option.bind_some, cb_let_eq, e1, cb_let_eq, h4, cb_bind2_eq, e2, cb_let_eq, h5, cb_bind2_eq, h6, cb_bind2_eq, h7, cb_bind2_eq, cb_let_eq, h8, cb_bind2_eq, h9, cb_bind2_eq, cb_let_eq, h10, cb_bind2_eq, h11, cb_bind2_eq, cb_let_eq, h12, cb_bind2_eq, h13, cb_bind2_eq]
theorem x_digest {M : cb_Mem} {A : AS} (hA : AOK A) (hX : XS M A) : ∃ M', f_X6_digest M = some (dgV A, M') ∧ XS M' A := by
  obtain ⟨M1, f1, x1⟩ := x_dg6 hA hX 17
  obtain ⟨g1, g2⟩ := x_fault x1
  obtain ⟨M2, f2, x2⟩ := x_dg68 hA x1 (dgA A)
  obtain ⟨M3, f3, x3⟩ := x_dg102 hA x2 (hlN A (dgA A) (d_nh (FAa A)))
  obtain ⟨M4, f4, x4⟩ := x_children hA x3 (show 9 < 40 by omega)
  obtain ⟨M5, f5, x5⟩ := x_without hA x4
  obtain ⟨M6, f6, x6⟩ := x_turn hA x5 (show 0 < 2 by omega)
  obtain ⟨M7, f7, x7⟩ := x_turn hA x6 (show 1 < 2 by omega)
  obtain ⟨M8, f8, x8⟩ := x_met hA x7
  obtain ⟨M9, f9, x9⟩ := x_never hA x8
  obtain ⟨M10, f10, x10⟩ := x_year (s := nI 7) hA x9 (show 0 < 2 by omega)
  obtain ⟨M11, f11, x11⟩ := x_year (s := nI 7) hA x10 (show 1 < 2 by omega)
  exact ⟨M11, x_dgS f1 g1 g2 (A_xh x1) f2 (A_xc x2) f3 f4 f5 f6 f7 f8 f9 f10 f11, x11⟩
theorem y_reads2 {M : cb_Mem} {A : AS} (hA : AOK A) (hY : YS M A) : ∃ M1 M2, f_X7_readsHeads M = some (eO (flt 0 A.1.1), M1) ∧ f_X7_readsCouples M1 = some (eO (flt 1 A.1.2), M2) ∧ yA M2 A := by
  obtain ⟨x1, x2, M1, M2, f1, f2, c2, d2⟩ := y_reads hA hY
  obtain ⟨N1, g1, c1, -⟩ := m_readsHeads hY.1
  rw [f1] at g1
  obtain ⟨rfl, rfl⟩ := Prod.mk.inj (Option.some.inj g1)
  obtain ⟨N2, g2, -⟩ := m_readsCouples (M := M1) (hY.2.1.eq fun k j q => c1 k j (by simp only [PH]; omega))
  rw [f2] at g2
  obtain ⟨rfl, rfl⟩ := Prod.mk.inj (Option.some.inj g2)
  exact ⟨M1, M2, f1, f2, hY.sc c2, d2⟩
theorem y_dgS {M M1 M2 M3 M4 M5 M6 M7 M8 M9 M10 : cb_Mem} {y1 y4 y5 : Int64} {a b x1 x2 x3 x4 x5 x6 x7 x8 : Int32} (h1 : f_X7_digest_L6 cb_fuel 17 0 M = some (y1, M1)) (h2 : f_X7_readsHeads M1 = some (x1, M2)) (h3 : f_X7_readsCouples M2 = some (x2, M3)) (h4 : f_X7_digest_L57 cb_fuel (((31 : Int64) * (((31 : Int64) * y1) + x1.toInt64)) + x2.toInt64) 0 M3 = some (y4, M4)) (h5 : f_X7_digest_L80 cb_fuel y4 0 M4 = some (y5, M5)) (h6 : f_X7_lives M5 = some M6) (h7 : f_X7_childrenBy 9 M6 = some x3) (h8 : f_X7_withoutNow M6 = some x4) (e1 : M6 0 24 = a) (e2 : M6 0 25 = b) (h9 : f_X7_metNow M6 = some (x5, M7)) (h10 : f_X7_neverNow M7 = some (x6, M8)) (h11 : f_X7_yearOf 7 0 M8 = some (x7, M9)) (h12 : f_X7_yearOf 7 1 M9 = some (x8, M10)) : f_X7_digest M = some (((31 : Int64) * (((31 : Int64) * (((31 : Int64) * (((31 : Int64) * (((31 : Int64) * (((31 : Int64) * (((31 : Int64) * (((31 : Int64) * y5) + x3.toInt64)) + x4.toInt64)) + a.toInt64)) + b.toInt64)) + x5.toInt64)) + x6.toInt64)) + x7.toInt64)) + x8.toInt64, M10) := by
  unfold f_X7_digest
  rw [h1, cb_bind2_eq, h2, cb_bind2_eq, cb_let_eq, h3, cb_bind2_eq, cb_let_eq, h4, cb_bind2_eq, h5, cb_bind2_eq, h6, Option.bind_some, h7, Option.bind_some, cb_let_eq, h8, Option.bind_some, cb_let_eq, e1, cb_let_eq, e2, cb_let_eq, h9, cb_bind2_eq, cb_let_eq, h10, cb_bind2_eq, cb_let_eq, h11, cb_bind2_eq, cb_let_eq, h12, cb_bind2_eq]
theorem y_digest {M : cb_Mem} {A : AS} (hA : AOK A) (hY : YS M A) : ∃ M', f_X7_digest M = some (dgV A, M') ∧ YS M' A := by
  obtain ⟨M1, f1, y1⟩ := y_dg6 hA hY 17
  obtain ⟨M2, M3, f2, f3, y3⟩ := y_reads2 hA y1
  obtain ⟨M4, f4, y4⟩ := y_dg57 hA y3 (dgA A)
  obtain ⟨M5, f5, y5⟩ := y_dg80 hA y4 (hlN A (dgA A) (d_nh (FAa A)))
  obtain ⟨M6, f6, y6, w6⟩ := y_livesA y5
  have g7 := y_childrenBy y6.2.1 y6.2.2.1.2.1 w6.2 (show 9 < 40 by omega)
  obtain ⟨x, g8, hm⟩ := y_wo y6.2.1 y6.2.2.1.2.1 w6.2
  rw [msk_val hm] at g8
  obtain ⟨t1, t2⟩ := w6.2.2.2
  obtain ⟨M7, f7, y7⟩ := y_metNow y6 w6
  obtain ⟨M8, f8, y8⟩ := y_never hA y7
  obtain ⟨M9, f9, y9⟩ := y_yearOf (s := nI 7) y8 (show 0 < 2 by omega)
  obtain ⟨M10, f10, y10⟩ := y_yearOf (s := nI 7) y9 (show 1 < 2 by omega)
  exact ⟨M10, y_dgS f1 f2 f3 f4 f5 f6 g7 g8 t1 t2 f7 f8 f9 f10, y10.1⟩
theorem C_digest : cs_digest cRel := by
  rintro MX MY ⟨A, hA, hX, hY⟩
  obtain ⟨MX1, fx, ax⟩ := x_digest hA hX
  obtain ⟨MY1, fy, ay⟩ := y_digest hA hY
  exact ⟨_, MX1, MY1, fx, fy, A, hA, ax, ay⟩
/-! all calls, and the start -/
theorem C_all : cs_all cRel := ⟨C_type, C_wipe, C_undo, C_fault, C_head, C_couple, C_weather, C_rabbit, C_back, C_read, C_state, C_lifted, C_gets, C_children, C_without, C_turn, C_met, C_keep, C_sow, C_come, C_seen, C_forget, C_never, C_was, C_ask, C_chill, C_year, C_sheet, C_lose, C_lay, C_get, C_copy, C_write, C_count, C_digest⟩
def A0 : AS := (([], []), ([], []), [], [], fun _ => none, 0)
theorem n_lt {P : Nat → Prop} : ∀ j, j < 0 → P j := fun j h => absurd h (Nat.not_lt_zero j)
theorem A0_ok : AOK A0 := ⟨⟨Nat.zero_le _, Nat.zero_le _⟩, ⟨Nat.zero_le _, n_lt⟩, ⟨Nat.zero_le _, n_lt⟩, ⟨Nat.zero_le _, n_lt⟩, ⟨Nat.zero_le _, n_lt⟩, fun s _ q h => by cases h⟩
theorem A0_x : XS cx_M0 A0 := by
  refine ⟨⟨⟨by decide, by decide, Nat.zero_le _, n_lt⟩, by decide, by decide, n_lt⟩, ⟨⟨by decide, by decide, Nat.zero_le _, n_lt⟩, by decide, by decide, n_lt⟩, ⟨by decide, n_lt⟩, ⟨by decide, n_lt⟩, ⟨by decide, n_lt⟩, ⟨by decide, n_lt⟩, fun s hs => ?_, by decide, Or.inl (by decide)⟩
  show cx_M0 (42 + s) 2 = -nI 1
  rcases (show s = 0 ∨ s = 1 ∨ s = 2 ∨ s = 3 by omega) with e | e | e | e <;> subst e <;> decide
theorem A0_y : YS cy_M0 A0 := by
  refine ⟨⟨by decide, Nat.zero_le _, n_lt⟩, ⟨by decide, Nat.zero_le _, n_lt⟩, ⟨by decide, Nat.zero_le _, n_lt, by decide, Nat.zero_le _, n_lt, by decide, fun c h => by cases h⟩, ⟨by decide, Nat.zero_le _, n_lt, by decide, by decide⟩, ⟨by decide, n_lt⟩, fun s hs => ?_, by decide⟩
  show cy_M0 1 s = -nI 1
  rcases (show s = 0 ∨ s = 1 ∨ s = 2 ∨ s = 3 by omega) with e | e | e | e <;> subst e <;> decide
theorem C_0 : cRel cx_M0 cy_M0 := ⟨A0, A0_ok, A0_x, A0_y⟩
