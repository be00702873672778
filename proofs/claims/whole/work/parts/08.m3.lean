def f_X7_head (p1 : Int32) (p2 : Int32) (M : cb_Mem) : Option (Int32 × cb_Mem) :=
  cb_bind2 (f_X7_readsHeads  M) fun x1 M1 =>
  cb_let (f_X7_isHead p1 M1) fun x2 =>
  if x2 = 0 then
  some (((-2) : Int32), M1)
  else
  cb_let (f_X7_isTwo p2) fun x3 =>
  if x3 = 0 then
  some (((-2) : Int32), M1)
  else
  if cb_in ((2 * p1) + p2) 16 = true then
  some ((M1 7 ((2 * p1) + p2).toNatClampNeg), M1)
  else none
set_option maxRecDepth 100000 in
set_option maxHeartbeats 4000000 in
theorem c_X7_head (l : Launch) (g : cb_Geo) (p1 : Int32) (p2 : Int32) (M : cb_Mem) {rr : Int32} {Mr : cb_Mem} (h : f_X7_head p1 p2 M = some (rr, Mr)) : Met l yX7_head (.code yX7_head cX7_head 3 (some .int) :: cb_ws) (cb_rm 4) (cb_Pc cy g [.ref (g.2.1 0), .int p1, .int p2] M) (cb_Qi cy g rr Mr) 0 0 (cb_A cy g) := by
  refine cb_met (by decide) wd_1017 (Nat.le_of_ble_eq_true rfl) (fun γ hC => ?_)
  replace hC : cb_C cy g γ RX7 cX7_head 3 (some .int) 4 l (cb_Qi cy g rr Mr) := hC
  show cb_J cy g γ 3 M 0 [(0, .ref (g.2.1 0)), (1, .int p1), (2, .int p2)] []
  unfold f_X7_head at h
  refine cj_aload_n hC dX7_head_0 rfl 0 rfl ?_
  obtain ⟨x1, M1, e1, h⟩ := cb_b2 h
  refine cj_callVi (As := []) hC cv_X7_127 cy_l0_ (cy_e0 g _) rfl (c_X7_readsHeads l g  M e1) (by decide) rfl rfl (Nat.le_of_ble_eq_true rfl) dX7_head_1 ?_
  refine cj_pop hC dX7_head_4 rfl ?_
  refine cj_aload_n hC dX7_head_5 rfl 0 rfl ?_
  refine cj_iload_n hC dX7_head_6 rfl 1 rfl ?_
  obtain ⟨x2, e2, h⟩ := cb_l h
  refine cj_callVi (As := [.int p1]) hC cv_X7_136 cy_l0_ (cy_e0 g _) rfl (c_X7_isHead l g p1 M1 e2.symm) (by decide) rfl rfl (Nat.le_of_ble_eq_true rfl) dX7_head_7 ?_
  refine cj_if_eq (tgt := 33) hC dX7_head_10 (by decide) (fun c1 => ?_) (fun c1 => ?_)
  · replace h := cb_T c1 h
    refine cj_bipush (v := (-2)) hC dX7_head_33 rfl ?_
    obtain ⟨rfl, rfl⟩ := cb_i2 h
    exact cj_iret hC dX7_head_35
  · replace h := cb_F c1 h
    refine cj_iload_n hC dX7_head_13 rfl 2 rfl ?_
    obtain ⟨x3, e3, h⟩ := cb_l h
    refine cj_callSi (As := [.int p2]) hC cs_X7_107 (c_X7_isTwo l g p2 M1 e3.symm) (by decide) rfl rfl (Nat.le_of_ble_eq_true rfl) dX7_head_14 ?_
    refine cj_if_eq (tgt := 33) hC dX7_head_17 (by decide) (fun c2 => ?_) (fun c2 => ?_)
    · replace h := cb_T c2 h
      refine cj_bipush (v := (-2)) hC dX7_head_33 rfl ?_
      obtain ⟨rfl, rfl⟩ := cb_i2 h
      exact cj_iret hC dX7_head_35
    · replace h := cb_F c2 h
      refine cj_aload_n hC dX7_head_20 rfl 0 rfl ?_
      refine cj_get (v := .ref (g.2.1 7)) hC fa_X7_28 cy_l0_ (cy_e0 g _) rfl dX7_head_21 ?_
      refine cj_iconst (v := 2) hC dX7_head_24 rfl ?_
      refine cj_iload_n hC dX7_head_25 rfl 1 rfl ?_
      refine cj_imul hC dX7_head_26 ?_
      refine cj_iload_n hC dX7_head_27 rfl 2 rfl ?_
      refine cj_iadd hC dX7_head_28 ?_
      obtain ⟨i1, h⟩ := cb_g h
      refine cj_iald hC cy_l7_ (cy_e7 g _) (cy_t0 g) i1 dX7_head_29 ?_
      refine cj_goto (tgt := 35) hC dX7_head_30 (by decide) ?_
      obtain ⟨rfl, rfl⟩ := cb_i2 h
      exact cj_iret hC dX7_head_35
def f_X7_couple (p1 : Int32) (p2 : Int32) (M : cb_Mem) : Option (Int32 × cb_Mem) :=
  cb_bind2 (f_X7_readsCouples  M) fun x1 M1 =>
  cb_let (f_X7_isCouple p1 M1) fun x2 =>
  if x2 = 0 then
  some (((-2) : Int32), M1)
  else
  cb_let (f_X7_in p2.toInt64 0 2) fun x3 =>
  if x3 = 0 then
  some (((-2) : Int32), M1)
  else
  if cb_in ((3 * p1) + p2) 24 = true then
  some ((M1 8 ((3 * p1) + p2).toNatClampNeg), M1)
  else none
set_option maxRecDepth 100000 in
set_option maxHeartbeats 4000000 in
theorem c_X7_couple (l : Launch) (g : cb_Geo) (p1 : Int32) (p2 : Int32) (M : cb_Mem) {rr : Int32} {Mr : cb_Mem} (h : f_X7_couple p1 p2 M = some (rr, Mr)) : Met l yX7_couple (.code yX7_couple cX7_couple 3 (some .int) :: cb_ws) (cb_rm 4) (cb_Pc cy g [.ref (g.2.1 0), .int p1, .int p2] M) (cb_Qi cy g rr Mr) 0 0 (cb_A cy g) := by
  refine cb_met (by decide) wd_1025 (Nat.le_of_ble_eq_true rfl) (fun γ hC => ?_)
  replace hC : cb_C cy g γ RX7 cX7_couple 3 (some .int) 4 l (cb_Qi cy g rr Mr) := hC
  show cb_J cy g γ 3 M 0 [(0, .ref (g.2.1 0)), (1, .int p1), (2, .int p2)] []
  unfold f_X7_couple at h
  refine cj_aload_n hC dX7_couple_0 rfl 0 rfl ?_
  obtain ⟨x1, M1, e1, h⟩ := cb_b2 h
  refine cj_callVi (As := []) hC cv_X7_131 cy_l0_ (cy_e0 g _) rfl (c_X7_readsCouples l g  M e1) (by decide) rfl rfl (Nat.le_of_ble_eq_true rfl) dX7_couple_1 ?_
  refine cj_pop hC dX7_couple_4 rfl ?_
  refine cj_aload_n hC dX7_couple_5 rfl 0 rfl ?_
  refine cj_iload_n hC dX7_couple_6 rfl 1 rfl ?_
  obtain ⟨x2, e2, h⟩ := cb_l h
  refine cj_callVi (As := [.int p1]) hC cv_X7_139 cy_l0_ (cy_e0 g _) rfl (c_X7_isCouple l g p1 M1 e2.symm) (by decide) rfl rfl (Nat.le_of_ble_eq_true rfl) dX7_couple_7 ?_
  refine cj_if_eq (tgt := 38) hC dX7_couple_10 (by decide) (fun c1 => ?_) (fun c1 => ?_)
  · replace h := cb_T c1 h
    refine cj_bipush (v := (-2)) hC dX7_couple_38 rfl ?_
    obtain ⟨rfl, rfl⟩ := cb_i2 h
    exact cj_iret hC dX7_couple_40
  · replace h := cb_F c1 h
    refine cj_iload_n hC dX7_couple_13 rfl 2 rfl ?_
    refine cj_i2l hC dX7_couple_14 ?_
    refine cj_lconst (v := 0) hC dX7_couple_15 rfl ?_
    refine cj_ldc2_w (v := 2) hC wd_948 dX7_couple_16 ?_
    obtain ⟨x3, e3, h⟩ := cb_l h
    refine cj_callSi (As := [.long p2.toInt64, .long 0, .long 2]) hC cs_X7_79 (c_X7_in l g p2.toInt64 0 2 M1 e3.symm) (by decide) rfl rfl (Nat.le_of_ble_eq_true rfl) dX7_couple_19 ?_
    refine cj_if_eq (tgt := 38) hC dX7_couple_22 (by decide) (fun c2 => ?_) (fun c2 => ?_)
    · replace h := cb_T c2 h
      refine cj_bipush (v := (-2)) hC dX7_couple_38 rfl ?_
      obtain ⟨rfl, rfl⟩ := cb_i2 h
      exact cj_iret hC dX7_couple_40
    · replace h := cb_F c2 h
      refine cj_aload_n hC dX7_couple_25 rfl 0 rfl ?_
      refine cj_get (v := .ref (g.2.1 8)) hC fa_X7_31 cy_l0_ (cy_e0 g _) rfl dX7_couple_26 ?_
      refine cj_iconst (v := 3) hC dX7_couple_29 rfl ?_
      refine cj_iload_n hC dX7_couple_30 rfl 1 rfl ?_
      refine cj_imul hC dX7_couple_31 ?_
      refine cj_iload_n hC dX7_couple_32 rfl 2 rfl ?_
      refine cj_iadd hC dX7_couple_33 ?_
      obtain ⟨i1, h⟩ := cb_g h
      refine cj_iald hC cy_l8_ (cy_e8 g _) (cy_t0 g) i1 dX7_couple_34 ?_
      refine cj_goto (tgt := 40) hC dX7_couple_35 (by decide) ?_
      obtain ⟨rfl, rfl⟩ := cb_i2 h
      exact cj_iret hC dX7_couple_40
def f_X7_weather (p1 : Int32) (p2 : Int32) (M : cb_Mem) : Option (Int32 × cb_Mem) :=
  cb_let (f_X7_isTwo p1) fun x1 =>
  if x1 = 0 then
  some (((-2) : Int32), M)
  else
  cb_let (if p1 = 0 then
  (29 : Int64)
  else
  (39 : Int64)) fun y1 =>
  cb_let (f_X7_in p2.toInt64 0 y1) fun x2 =>
  if x2 = 0 then
  some (((-2) : Int32), M)
  else
  if cb_in p1 2 = true then
  if (M 9 p1.toNatClampNeg) = 6 then
  some (((-4) : Int32), M)
  else
  if cb_in p1 2 = true then
  if cb_in ((6 * p1) + (M 9 p1.toNatClampNeg)) 12 = true then
  cb_let (cb_up M 10 ((6 * p1) + (M 9 p1.toNatClampNeg)).toNatClampNeg p2) fun M1 =>
  if cb_in p1 2 = true then
  if cb_in p1 2 = true then
  cb_let (cb_up M1 9 p1.toNatClampNeg ((M1 9 p1.toNatClampNeg) + 1)) fun M2 =>
  if cb_in p1 2 = true then
  some ((M2 9 p1.toNatClampNeg), M2)
  else none
  else none
  else none
  else none
  else none
  else none
set_option maxRecDepth 100000 in
set_option maxHeartbeats 4000000 in
theorem c_X7_weather (l : Launch) (g : cb_Geo) (p1 : Int32) (p2 : Int32) (M : cb_Mem) {rr : Int32} {Mr : cb_Mem} (h : f_X7_weather p1 p2 M = some (rr, Mr)) : Met l yX7_weather (.code yX7_weather cX7_weather 3 (some .int) :: cb_ws) (cb_rm 2) (cb_Pc cy g [.ref (g.2.1 0), .int p1, .int p2] M) (cb_Qi cy g rr Mr) 0 0 (cb_A cy g) := by
  refine cb_met (by decide) wd_1033 (Nat.le_of_ble_eq_true rfl) (fun γ hC => ?_)
  replace hC : cb_C cy g γ RX7 cX7_weather 3 (some .int) 2 l (cb_Qi cy g rr Mr) := hC
  show cb_J cy g γ 3 M 0 [(0, .ref (g.2.1 0)), (1, .int p1), (2, .int p2)] []
  unfold f_X7_weather at h
  refine cj_iload_n hC dX7_weather_0 rfl 1 rfl ?_
  obtain ⟨x1, e1, h⟩ := cb_l h
  refine cj_callSi (As := [.int p1]) hC cs_X7_107 (c_X7_isTwo l g p1 M e1.symm) (by decide) rfl rfl (Nat.le_of_ble_eq_true rfl) dX7_weather_1 ?_
  refine cj_if_eq (tgt := 29) hC dX7_weather_4 (by decide) (fun c1 => ?_) (fun c1 => ?_)
  · replace h := cb_T c1 h
    refine cj_bipush (v := (-2)) hC dX7_weather_29 rfl ?_
    obtain ⟨rfl, rfl⟩ := cb_i2 h
    exact cj_iret hC dX7_weather_31
  · replace h := cb_F c1 h
    refine cj_iload_n hC dX7_weather_7 rfl 2 rfl ?_
    refine cj_i2l hC dX7_weather_8 ?_
    refine cj_lconst (v := 0) hC dX7_weather_9 rfl ?_
    refine cj_iload_n hC dX7_weather_10 rfl 1 rfl ?_
    obtain ⟨y1, hx1, h⟩ := cb_l h
    replace hx1 := hx1.symm
    have hj1 : cb_J cy g γ 3 M 23 [(0, .ref (g.2.1 0)), (1, .int p1), (2, .int p2)] [.long y1, .long 0, .long p2.toInt64] := by
      obtain ⟨x2, e2, h⟩ := cb_l h
      refine cj_callSi (As := [.long p2.toInt64, .long 0, .long y1]) hC cs_X7_79 (c_X7_in l g p2.toInt64 0 y1 M e2.symm) (by decide) rfl rfl (Nat.le_of_ble_eq_true rfl) dX7_weather_23 ?_
      refine cj_if_ne (tgt := 32) hC dX7_weather_26 (by decide) (fun c3 => ?_) (fun c3 => ?_)
      · replace h := cb_F c3 h
        refine cj_aload_n hC dX7_weather_32 rfl 0 rfl ?_
        refine cj_get (v := .ref (g.2.1 9)) hC fa_X7_34 cy_l0_ (cy_e0 g _) rfl dX7_weather_33 ?_
        refine cj_iload_n hC dX7_weather_36 rfl 1 rfl ?_
        obtain ⟨i1, h⟩ := cb_g h
        refine cj_iald hC cy_l9_ (cy_e9 g _) (cy_t0 g) i1 dX7_weather_37 ?_
        refine cj_bipush (v := 6) hC dX7_weather_38 rfl ?_
        refine cj_icmp_ne (tgt := 46) hC dX7_weather_40 (by decide) (fun c4 => ?_) (fun c4 => ?_)
        · replace h := cb_F c4 h
          refine cj_aload_n hC dX7_weather_46 rfl 0 rfl ?_
          refine cj_get (v := .ref (g.2.1 10)) hC fa_X7_37 cy_l0_ (cy_e0 g _) rfl dX7_weather_47 ?_
          refine cj_bipush (v := 6) hC dX7_weather_50 rfl ?_
          refine cj_iload_n hC dX7_weather_52 rfl 1 rfl ?_
          refine cj_imul hC dX7_weather_53 ?_
          refine cj_aload_n hC dX7_weather_54 rfl 0 rfl ?_
          refine cj_get (v := .ref (g.2.1 9)) hC fa_X7_34 cy_l0_ (cy_e0 g _) rfl dX7_weather_55 ?_
          refine cj_iload_n hC dX7_weather_58 rfl 1 rfl ?_
          obtain ⟨i2, h⟩ := cb_g h
          refine cj_iald hC cy_l9_ (cy_e9 g _) (cy_t0 g) i2 dX7_weather_59 ?_
          refine cj_iadd hC dX7_weather_60 ?_
          refine cj_iload_n hC dX7_weather_61 rfl 2 rfl ?_
          obtain ⟨i3, h⟩ := cb_g h
          obtain ⟨M1, eM1, h⟩ := cb_l h
          refine cj_iast hC cy_l10_ (cy_e10 g) (cy_t0 g) i3 eM1 dX7_weather_62 ?_
          refine cj_aload_n hC dX7_weather_63 rfl 0 rfl ?_
          refine cj_get (v := .ref (g.2.1 9)) hC fa_X7_34 cy_l0_ (cy_e0 g _) rfl dX7_weather_64 ?_
          refine cj_iload_n hC dX7_weather_67 rfl 1 rfl ?_
          refine cj_dup2 hC dX7_weather_68 rfl rfl ?_
          obtain ⟨i4, h⟩ := cb_g h
          refine cj_iald hC cy_l9_ (cy_e9 g _) (cy_t0 g) i4 dX7_weather_69 ?_
          refine cj_iconst (v := 1) hC dX7_weather_70 rfl ?_
          refine cj_iadd hC dX7_weather_71 ?_
          obtain ⟨i5, h⟩ := cb_g h
          obtain ⟨M2, eM2, h⟩ := cb_l h
          refine cj_iast hC cy_l9_ (cy_e9 g) (cy_t0 g) i5 eM2 dX7_weather_72 ?_
          refine cj_aload_n hC dX7_weather_73 rfl 0 rfl ?_
          refine cj_get (v := .ref (g.2.1 9)) hC fa_X7_34 cy_l0_ (cy_e0 g _) rfl dX7_weather_74 ?_
          refine cj_iload_n hC dX7_weather_77 rfl 1 rfl ?_
          obtain ⟨i6, h⟩ := cb_g h
          refine cj_iald hC cy_l9_ (cy_e9 g _) (cy_t0 g) i6 dX7_weather_78 ?_
          obtain ⟨rfl, rfl⟩ := cb_i2 h
          exact cj_iret hC dX7_weather_79
        · replace h := cb_T c4 h
          refine cj_bipush (v := (-4)) hC dX7_weather_43 rfl ?_
          obtain ⟨rfl, rfl⟩ := cb_i2 h
          exact cj_iret hC dX7_weather_45
      · replace h := cb_T c3 h
        refine cj_bipush (v := (-2)) hC dX7_weather_29 rfl ?_
        obtain ⟨rfl, rfl⟩ := cb_i2 h
        exact cj_iret hC dX7_weather_31
    refine cj_if_ne (tgt := 20) hC dX7_weather_11 (by decide) (fun c2 => ?_) (fun c2 => ?_)
    · replace hx1 := cb_F c2 hx1
      refine cj_ldc2_w (v := 39) hC wd_1035 dX7_weather_20 ?_
      obtain rfl := hx1
      exact cj_pick [0, 1, 2] rfl hj1
    · replace hx1 := cb_T c2 hx1
      refine cj_ldc2_w (v := 29) hC wd_1034 dX7_weather_14 ?_
      refine cj_goto (tgt := 23) hC dX7_weather_17 (by decide) ?_
      obtain rfl := hx1
      exact cj_pick [0, 1, 2] rfl hj1
def f_X7_rabbit (p1 : Int32) (p2 : Int32) (M : cb_Mem) : Option (Int32 × cb_Mem) :=
  cb_let (f_X7_isDay p1) fun x1 =>
  if x1 = 0 then
  some (((-2) : Int32), M)
  else
  cb_let (f_X7_in p2.toInt64 0 7) fun x2 =>
  if x2 = 0 then
  some (((-2) : Int32), M)
  else
  if (M 0 13) = 8 then
  some (((-4) : Int32), M)
  else
  if cb_in (2 * (M 0 13)) 16 = true then
  cb_let (cb_up M 11 (2 * (M 0 13)).toNatClampNeg p1) fun M1 =>
  if cb_in ((2 * (M1 0 13)) + 1) 16 = true then
  cb_let (cb_up M1 11 ((2 * (M1 0 13)) + 1).toNatClampNeg p2) fun M2 =>
  cb_let (cb_up M2 0 13 ((M2 0 13) + 1)) fun M3 =>
  some ((M3 0 13), M3)
  else none
  else none
set_option maxRecDepth 100000 in
set_option maxHeartbeats 4000000 in
theorem c_X7_rabbit (l : Launch) (g : cb_Geo) (p1 : Int32) (p2 : Int32) (M : cb_Mem) {rr : Int32} {Mr : cb_Mem} (h : f_X7_rabbit p1 p2 M = some (rr, Mr)) : Met l yX7_rabbit (.code yX7_rabbit cX7_rabbit 3 (some .int) :: cb_ws) (cb_rm 2) (cb_Pc cy g [.ref (g.2.1 0), .int p1, .int p2] M) (cb_Qi cy g rr Mr) 0 0 (cb_A cy g) := by
  refine cb_met (by decide) wd_1039 (Nat.le_of_ble_eq_true rfl) (fun γ hC => ?_)
  replace hC : cb_C cy g γ RX7 cX7_rabbit 3 (some .int) 2 l (cb_Qi cy g rr Mr) := hC
  show cb_J cy g γ 3 M 0 [(0, .ref (g.2.1 0)), (1, .int p1), (2, .int p2)] []
  unfold f_X7_rabbit at h
  refine cj_iload_n hC dX7_rabbit_0 rfl 1 rfl ?_
  obtain ⟨x1, e1, h⟩ := cb_l h
  refine cj_callSi (As := [.int p1]) hC cs_X7_144 (c_X7_isDay l g p1 M e1.symm) (by decide) rfl rfl (Nat.le_of_ble_eq_true rfl) dX7_rabbit_1 ?_
  refine cj_if_eq (tgt := 19) hC dX7_rabbit_4 (by decide) (fun c1 => ?_) (fun c1 => ?_)
  · replace h := cb_T c1 h
    refine cj_bipush (v := (-2)) hC dX7_rabbit_19 rfl ?_
    obtain ⟨rfl, rfl⟩ := cb_i2 h
    exact cj_iret hC dX7_rabbit_21
  · replace h := cb_F c1 h
    refine cj_iload_n hC dX7_rabbit_7 rfl 2 rfl ?_
    refine cj_i2l hC dX7_rabbit_8 ?_
    refine cj_lconst (v := 0) hC dX7_rabbit_9 rfl ?_
    refine cj_ldc2_w (v := 7) hC wd_1043 dX7_rabbit_10 ?_
    obtain ⟨x2, e2, h⟩ := cb_l h
    refine cj_callSi (As := [.long p2.toInt64, .long 0, .long 7]) hC cs_X7_79 (c_X7_in l g p2.toInt64 0 7 M e2.symm) (by decide) rfl rfl (Nat.le_of_ble_eq_true rfl) dX7_rabbit_13 ?_
    refine cj_if_ne (tgt := 22) hC dX7_rabbit_16 (by decide) (fun c2 => ?_) (fun c2 => ?_)
    · replace h := cb_F c2 h
      refine cj_aload_n hC dX7_rabbit_22 rfl 0 rfl ?_
      refine cj_get (v := .int (M 0 13)) hC fa_X7_149 cy_l0_ (cy_e0 g _) rfl dX7_rabbit_23 ?_
      refine cj_bipush (v := 8) hC dX7_rabbit_26 rfl ?_
      refine cj_icmp_ne (tgt := 34) hC dX7_rabbit_28 (by decide) (fun c3 => ?_) (fun c3 => ?_)
      · replace h := cb_F c3 h
        refine cj_aload_n hC dX7_rabbit_34 rfl 0 rfl ?_
        refine cj_get (v := .ref (g.2.1 11)) hC fa_X7_40 cy_l0_ (cy_e0 g _) rfl dX7_rabbit_35 ?_
        refine cj_iconst (v := 2) hC dX7_rabbit_38 rfl ?_
        refine cj_aload_n hC dX7_rabbit_39 rfl 0 rfl ?_
        refine cj_get (v := .int (M 0 13)) hC fa_X7_149 cy_l0_ (cy_e0 g _) rfl dX7_rabbit_40 ?_
        refine cj_imul hC dX7_rabbit_43 ?_
        refine cj_iload_n hC dX7_rabbit_44 rfl 1 rfl ?_
        obtain ⟨i1, h⟩ := cb_g h
        obtain ⟨M1, eM1, h⟩ := cb_l h
        refine cj_iast hC cy_l11_ (cy_e11 g) (cy_t0 g) i1 eM1 dX7_rabbit_45 ?_
        refine cj_aload_n hC dX7_rabbit_46 rfl 0 rfl ?_
        refine cj_get (v := .ref (g.2.1 11)) hC fa_X7_40 cy_l0_ (cy_e0 g _) rfl dX7_rabbit_47 ?_
        refine cj_iconst (v := 2) hC dX7_rabbit_50 rfl ?_
        refine cj_aload_n hC dX7_rabbit_51 rfl 0 rfl ?_
        refine cj_get (v := .int (M1 0 13)) hC fa_X7_149 cy_l0_ (cy_e0 g _) rfl dX7_rabbit_52 ?_
        refine cj_imul hC dX7_rabbit_55 ?_
        refine cj_iconst (v := 1) hC dX7_rabbit_56 rfl ?_
        refine cj_iadd hC dX7_rabbit_57 ?_
        refine cj_iload_n hC dX7_rabbit_58 rfl 2 rfl ?_
        obtain ⟨i2, h⟩ := cb_g h
        obtain ⟨M2, eM2, h⟩ := cb_l h
        refine cj_iast hC cy_l11_ (cy_e11 g) (cy_t0 g) i2 eM2 dX7_rabbit_59 ?_
        refine cj_aload_n hC dX7_rabbit_60 rfl 0 rfl ?_
        refine cj_dup hC dX7_rabbit_61 rfl ?_
        refine cj_get (v := .int (M2 0 13)) hC fa_X7_149 cy_l0_ (cy_e0 g _) rfl dX7_rabbit_62 ?_
        refine cj_iconst (v := 1) hC dX7_rabbit_65 rfl ?_
        refine cj_iadd hC dX7_rabbit_66 ?_
        obtain ⟨M3, eM3, h⟩ := cb_l h
        refine cj_put hC fp_X7_149 cy_l0_ (cy_e0 g _) rfl (Nat.le_of_ble_eq_true rfl) eM3 dX7_rabbit_67 ?_
        refine cj_aload_n hC dX7_rabbit_70 rfl 0 rfl ?_
        refine cj_get (v := .int (M3 0 13)) hC fa_X7_149 cy_l0_ (cy_e0 g _) rfl dX7_rabbit_71 ?_
        obtain ⟨rfl, rfl⟩ := cb_i2 h
        exact cj_iret hC dX7_rabbit_74
      · replace h := cb_T c3 h
        refine cj_bipush (v := (-4)) hC dX7_rabbit_31 rfl ?_
        obtain ⟨rfl, rfl⟩ := cb_i2 h
        exact cj_iret hC dX7_rabbit_33
    · replace h := cb_T c2 h
      refine cj_bipush (v := (-2)) hC dX7_rabbit_19 rfl ?_
      obtain ⟨rfl, rfl⟩ := cb_i2 h
      exact cj_iret hC dX7_rabbit_21
def f_X7_back (p1 : Int32) (M : cb_Mem) : Option (Int32 × cb_Mem) :=
  cb_let (f_X7_in p1.toInt64 0 2) fun x1 =>
  if x1 = 0 then
  some (((-2) : Int32), M)
  else
  Option.bind (if p1 = 2 then
  some (M 0 13)
  else
  if cb_in p1 2 = true then
  some (M 9 p1.toNatClampNeg)
  else none) fun x2 =>
  if x2 = 0 then
  some (((-3) : Int32), M)
  else
  cb_let (if p1 = 2 then
  (1 : Int32)
  else
  (0 : Int32)) fun x3 =>
  cb_let (cb_up M 0 13 ((M 0 13) - x3)) fun M1 =>
  cb_let (if p1 = 0 then
  (1 : Int32)
  else
  (0 : Int32)) fun x4 =>
  cb_let (cb_up M1 9 (0 : Int32).toNatClampNeg ((M1 9 (0 : Int32).toNatClampNeg) - x4)) fun M2 =>
  cb_let (if p1 = 1 then
  (1 : Int32)
  else
  (0 : Int32)) fun x5 =>
  cb_let (cb_up M2 9 (1 : Int32).toNatClampNeg ((M2 9 (1 : Int32).toNatClampNeg) - x5)) fun M3 =>
  some ((x2 - 1), M3)
set_option maxRecDepth 100000 in
set_option maxHeartbeats 4000000 in
theorem c_X7_back (l : Launch) (g : cb_Geo) (p1 : Int32) (M : cb_Mem) {rr : Int32} {Mr : cb_Mem} (h : f_X7_back p1 M = some (rr, Mr)) : Met l yX7_back (.code yX7_back cX7_back 3 (some .int) :: cb_ws) (cb_rm 1) (cb_Pc cy g [.ref (g.2.1 0), .int p1] M) (cb_Qi cy g rr Mr) 0 0 (cb_A cy g) := by
  refine cb_met (by decide) wd_1047 (Nat.le_of_ble_eq_true rfl) (fun γ hC => ?_)
  replace hC : cb_C cy g γ RX7 cX7_back 3 (some .int) 1 l (cb_Qi cy g rr Mr) := hC
  show cb_J cy g γ 3 M 0 [(0, .ref (g.2.1 0)), (1, .int p1)] []
  unfold f_X7_back at h
  refine cj_iload_n hC dX7_back_0 rfl 1 rfl ?_
  refine cj_i2l hC dX7_back_1 ?_
  refine cj_lconst (v := 0) hC dX7_back_2 rfl ?_
  refine cj_ldc2_w (v := 2) hC wd_948 dX7_back_3 ?_
  obtain ⟨x1, e1, h⟩ := cb_l h
  refine cj_callSi (As := [.long p1.toInt64, .long 0, .long 2]) hC cs_X7_79 (c_X7_in l g p1.toInt64 0 2 M e1.symm) (by decide) rfl rfl (Nat.le_of_ble_eq_true rfl) dX7_back_6 ?_
  refine cj_if_ne (tgt := 15) hC dX7_back_9 (by decide) (fun c1 => ?_) (fun c1 => ?_)
  · replace h := cb_F c1 h
    refine cj_iload_n hC dX7_back_15 rfl 1 rfl ?_
    refine cj_iconst (v := 2) hC dX7_back_16 rfl ?_
    obtain ⟨x2, hx1, h⟩ := cb_b h
    have hj1 : cb_J cy g γ 3 M 33 [(0, .ref (g.2.1 0)), (1, .int p1)] [.int x2] := by
      refine cj_istore_n (lv' := [(2, .int x2), (0, .ref (g.2.1 0)), (1, .int p1)]) hC dX7_back_33 rfl (by decide) rfl ?_
      refine cj_iload_n hC dX7_back_34 rfl 0 rfl ?_
      refine cj_if_ne (tgt := 41) hC dX7_back_35 (by decide) (fun c3 => ?_) (fun c3 => ?_)
      · replace h := cb_F c3 h
        refine cj_aload_n hC dX7_back_41 rfl 1 rfl ?_
        refine cj_dup hC dX7_back_42 rfl ?_
        refine cj_get (v := .int (M 0 13)) hC fa_X7_149 cy_l0_ (cy_e0 g _) rfl dX7_back_43 ?_
        refine cj_iload_n hC dX7_back_46 rfl 2 rfl ?_
        refine cj_iconst (v := 2) hC dX7_back_47 rfl ?_
        obtain ⟨x3, hx2, h⟩ := cb_l h
        replace hx2 := hx2.symm
        have hj2 : cb_J cy g γ 3 M 56 [(0, .ref (g.2.1 0)), (1, .int p1), (2, .int x2)] [.int x3, .int (M 0 13), .ref (g.2.1 0)] := by
          refine cj_isub hC dX7_back_56 ?_
          obtain ⟨M1, eM1, h⟩ := cb_l h
          refine cj_put hC fp_X7_149 cy_l0_ (cy_e0 g _) rfl (Nat.le_of_ble_eq_true rfl) eM1 dX7_back_57 ?_
          refine cj_aload_n hC dX7_back_60 rfl 0 rfl ?_
          refine cj_get (v := .ref (g.2.1 9)) hC fa_X7_34 cy_l0_ (cy_e0 g _) rfl dX7_back_61 ?_
          refine cj_iconst (v := 0) hC dX7_back_64 rfl ?_
          refine cj_dup2 hC dX7_back_65 rfl rfl ?_
          refine cj_iald hC cy_l9_ (cy_e9 g _) (cy_t0 g) (cb_in_iff.mp (by decide)) dX7_back_66 ?_
          refine cj_iload_n hC dX7_back_67 rfl 1 rfl ?_
          obtain ⟨x4, hx3, h⟩ := cb_l h
          replace hx3 := hx3.symm
          have hj3 : cb_J cy g γ 3 M1 76 [(0, .ref (g.2.1 0)), (1, .int p1), (2, .int x2)] [.int x4, .int (M1 9 (0 : Int32).toNatClampNeg), .int 0, .ref (g.2.1 9)] := by
            refine cj_isub hC dX7_back_76 ?_
            obtain ⟨M2, eM2, h⟩ := cb_l h
            refine cj_iast hC cy_l9_ (cy_e9 g) (cy_t0 g) (cb_in_iff.mp (by decide)) eM2 dX7_back_77 ?_
            refine cj_aload_n hC dX7_back_78 rfl 0 rfl ?_
            refine cj_get (v := .ref (g.2.1 9)) hC fa_X7_34 cy_l0_ (cy_e0 g _) rfl dX7_back_79 ?_
            refine cj_iconst (v := 1) hC dX7_back_82 rfl ?_
            refine cj_dup2 hC dX7_back_83 rfl rfl ?_
            refine cj_iald hC cy_l9_ (cy_e9 g _) (cy_t0 g) (cb_in_iff.mp (by decide)) dX7_back_84 ?_
            refine cj_iload_n hC dX7_back_85 rfl 1 rfl ?_
            refine cj_iconst (v := 1) hC dX7_back_86 rfl ?_
            obtain ⟨x5, hx4, h⟩ := cb_l h
            replace hx4 := hx4.symm
            have hj4 : cb_J cy g γ 3 M2 95 [(2, .int x2)] [.int x5, .int (M2 9 (1 : Int32).toNatClampNeg), .int 1, .ref (g.2.1 9)] := by
              refine cj_isub hC dX7_back_95 ?_
              obtain ⟨M3, eM3, h⟩ := cb_l h
              refine cj_iast hC cy_l9_ (cy_e9 g) (cy_t0 g) (cb_in_iff.mp (by decide)) eM3 dX7_back_96 ?_
              refine cj_iload_n hC dX7_back_97 rfl 0 rfl ?_
              refine cj_iconst (v := 1) hC dX7_back_98 rfl ?_
              refine cj_isub hC dX7_back_99 ?_
              obtain ⟨rfl, rfl⟩ := cb_i2 h
              exact cj_iret hC dX7_back_100
            refine cj_icmp_ne (tgt := 94) hC dX7_back_87 (by decide) (fun c6 => ?_) (fun c6 => ?_)
            · replace hx4 := cb_F c6 hx4
              refine cj_iconst (v := 0) hC dX7_back_94 rfl ?_
              obtain rfl := hx4
              exact cj_pick [2] rfl hj4
            · replace hx4 := cb_T c6 hx4
              refine cj_iconst (v := 1) hC dX7_back_90 rfl ?_
              refine cj_goto (tgt := 95) hC dX7_back_91 (by decide) ?_
              obtain rfl := hx4
              exact cj_pick [2] rfl hj4
          refine cj_if_ne (tgt := 75) hC dX7_back_68 (by decide) (fun c5 => ?_) (fun c5 => ?_)
          · replace hx3 := cb_F c5 hx3
            refine cj_iconst (v := 0) hC dX7_back_75 rfl ?_
            obtain rfl := hx3
            exact cj_pick [0, 1, 2] rfl hj3
          · replace hx3 := cb_T c5 hx3
            refine cj_iconst (v := 1) hC dX7_back_71 rfl ?_
            refine cj_goto (tgt := 76) hC dX7_back_72 (by decide) ?_
            obtain rfl := hx3
            exact cj_pick [0, 1, 2] rfl hj3
        refine cj_icmp_ne (tgt := 55) hC dX7_back_48 (by decide) (fun c4 => ?_) (fun c4 => ?_)
        · replace hx2 := cb_F c4 hx2
          refine cj_iconst (v := 0) hC dX7_back_55 rfl ?_
          obtain rfl := hx2
          exact cj_pick [1, 2, 0] rfl hj2
        · replace hx2 := cb_T c4 hx2
          refine cj_iconst (v := 1) hC dX7_back_51 rfl ?_
          refine cj_goto (tgt := 56) hC dX7_back_52 (by decide) ?_
          obtain rfl := hx2
          exact cj_pick [1, 2, 0] rfl hj2
      · replace h := cb_T c3 h
        refine cj_bipush (v := (-3)) hC dX7_back_38 rfl ?_
        obtain ⟨rfl, rfl⟩ := cb_i2 h
        exact cj_iret hC dX7_back_40
    refine cj_icmp_ne (tgt := 27) hC dX7_back_17 (by decide) (fun c2 => ?_) (fun c2 => ?_)
    · replace hx1 := cb_F c2 hx1
      refine cj_aload_n hC dX7_back_27 rfl 0 rfl ?_
      refine cj_get (v := .ref (g.2.1 9)) hC fa_X7_34 cy_l0_ (cy_e0 g _) rfl dX7_back_28 ?_
      refine cj_iload_n hC dX7_back_31 rfl 1 rfl ?_
      obtain ⟨i1, hx1⟩ := cb_g hx1
      refine cj_iald hC cy_l9_ (cy_e9 g _) (cy_t0 g) i1 dX7_back_32 ?_
      obtain rfl := Option.some.inj hx1
      exact cj_pick [0, 1] rfl hj1
    · replace hx1 := cb_T c2 hx1
      refine cj_aload_n hC dX7_back_20 rfl 0 rfl ?_
      refine cj_get (v := .int (M 0 13)) hC fa_X7_149 cy_l0_ (cy_e0 g _) rfl dX7_back_21 ?_
      refine cj_goto (tgt := 33) hC dX7_back_24 (by decide) ?_
      obtain rfl := Option.some.inj hx1
      exact cj_pick [0, 1] rfl hj1
  · replace h := cb_T c1 h
    refine cj_bipush (v := (-2)) hC dX7_back_12 rfl ?_
    obtain ⟨rfl, rfl⟩ := cb_i2 h
    exact cj_iret hC dX7_back_14
def f_X7_read_L29 : Nat → Int32 → Int32 → Int32 → cb_Mem → Option (Int32 × cb_Mem)
    | 0, _, _, _, _ => none
    | n + 1, v1, v2, v3, M =>
      if v3 = 0 then
      some (v2, M)
      else
      if cb_in v1 4 = true then
      if (M 2 v1.toNatClampNeg) < ((2 * v2) + 2) then
      some (v2, M)
      else
      if cb_in ((60 * v1) + (2 * v2)) 240 = true then
      if cb_in (((60 * v1) + (2 * v2)) + 1) 240 = true then
      cb_bind2 (f_X7_rabbit (M 3 ((60 * v1) + (2 * v2)).toNatClampNeg) (M 3 (((60 * v1) + (2 * v2)) + 1).toNatClampNeg) M) fun x1 M1 =>
      cb_let (if x1 < 0 then
      (0 : Int32)
      else
      (1 : Int32)) fun x2 =>
      cb_let (if x2 = 0 then
      (0 : Int32)
      else
      (1 : Int32)) fun x3 =>
      cb_let ((v2 + x3)) fun x4 =>
      f_X7_read_L29 n v1 x4 x2 M1
      else none
      else none
      else none
def f_X7_read (p1 : Int32) (M : cb_Mem) : Option (Int32 × cb_Mem) :=
  cb_let (f_X7_isSheet p1) fun x1 =>
  if x1 = 0 then
  some (((-2) : Int32), M)
  else
  if cb_in p1 4 = true then
  if 0 ≤ (M 1 p1.toNatClampNeg) then
  cb_bind2 (f_X7_read_L29 cb_fuel p1 0 1 M) fun x2 M1 =>
  some (x2, M1)
  else
  cb_let2 (f_X7_finds 1 M) fun x3 M2 =>
  some (x3, M2)
  else none
set_option maxRecDepth 100000 in
set_option maxHeartbeats 4000000 in
theorem l_X7_read_L29 {l : Launch} {g : cb_Geo} {γ : cb_Gam} {rr : Int32} {Mr : cb_Mem} (hC : cb_C cy g γ RX7 cX7_read 4 (some .int) 3 l (cb_Qi cy g rr Mr)) (v1 : Int32) : ∀ (n : Nat) (v2 : Int32) (v3 : Int32) (M : cb_Mem) (o : (Int32 × cb_Mem)), f_X7_read_L29 n v1 v2 v3 M = some o → (∀ (v2' : Int32) (M' : cb_Mem), o = (v2', M') → cb_J cy g γ 4 M' 103 [(2, .int v2')] []) → cb_J cy g γ 4 M 29 [(0, .ref (g.2.1 0)), (1, .int v1), (2, .int v2), (3, .int v3)] [] := by
  intro n
  induction n with
  | zero =>
    intro v2 v3 M o h
    cases h
  | succ n ih =>
    intro v2 v3 M o h hexit
    unfold f_X7_read_L29 at h
    refine cj_iload_n hC dX7_read_29 rfl 3 rfl ?_
    refine cj_if_eq (tgt := 103) hC dX7_read_30 (by decide) (fun c1 => ?_) (fun c1 => ?_)
    · replace h := cb_T c1 h
      obtain rfl := Option.some.inj h
      exact cj_pick [2] rfl (hexit _ _ rfl)
    · replace h := cb_F c1 h
      refine cj_iconst (v := 2) hC dX7_read_33 rfl ?_
      refine cj_iload_n hC dX7_read_34 rfl 2 rfl ?_
      refine cj_imul hC dX7_read_35 ?_
      refine cj_iconst (v := 2) hC dX7_read_36 rfl ?_
      refine cj_iadd hC dX7_read_37 ?_
      refine cj_aload_n hC dX7_read_38 rfl 0 rfl ?_
      refine cj_get (v := .ref (g.2.1 2)) hC fa_X7_13 cy_l0_ (cy_e0 g _) rfl dX7_read_39 ?_
      refine cj_iload_n hC dX7_read_42 rfl 1 rfl ?_
      obtain ⟨i1, h⟩ := cb_g h
      refine cj_iald hC cy_l2_ (cy_e2 g _) (cy_t0 g) i1 dX7_read_43 ?_
      refine cj_icmp_gt (tgt := 103) hC dX7_read_44 (by decide) (fun c2 => ?_) (fun c2 => ?_)
      · replace h := cb_T c2 h
        obtain rfl := Option.some.inj h
        exact cj_pick [2] rfl (hexit _ _ rfl)
      · replace h := cb_F c2 h
        refine cj_aload_n hC dX7_read_47 rfl 0 rfl ?_
        refine cj_aload_n hC dX7_read_48 rfl 0 rfl ?_
        refine cj_get (v := .ref (g.2.1 3)) hC fa_X7_16 cy_l0_ (cy_e0 g _) rfl dX7_read_49 ?_
        refine cj_bipush (v := 60) hC dX7_read_52 rfl ?_
        refine cj_iload_n hC dX7_read_54 rfl 1 rfl ?_
        refine cj_imul hC dX7_read_55 ?_
        refine cj_iconst (v := 2) hC dX7_read_56 rfl ?_
        refine cj_iload_n hC dX7_read_57 rfl 2 rfl ?_
        refine cj_imul hC dX7_read_58 ?_
        refine cj_iadd hC dX7_read_59 ?_
        obtain ⟨i2, h⟩ := cb_g h
        refine cj_iald hC cy_l3_ (cy_e3 g _) (cy_t0 g) i2 dX7_read_60 ?_
        refine cj_aload_n hC dX7_read_61 rfl 0 rfl ?_
        refine cj_get (v := .ref (g.2.1 3)) hC fa_X7_16 cy_l0_ (cy_e0 g _) rfl dX7_read_62 ?_
        refine cj_bipush (v := 60) hC dX7_read_65 rfl ?_
        refine cj_iload_n hC dX7_read_67 rfl 1 rfl ?_
        refine cj_imul hC dX7_read_68 ?_
        refine cj_iconst (v := 2) hC dX7_read_69 rfl ?_
        refine cj_iload_n hC dX7_read_70 rfl 2 rfl ?_
        refine cj_imul hC dX7_read_71 ?_
        refine cj_iadd hC dX7_read_72 ?_
        refine cj_iconst (v := 1) hC dX7_read_73 rfl ?_
        refine cj_iadd hC dX7_read_74 ?_
        obtain ⟨i3, h⟩ := cb_g h
        refine cj_iald hC cy_l3_ (cy_e3 g _) (cy_t0 g) i3 dX7_read_75 ?_
        obtain ⟨x1, M1, e1, h⟩ := cb_b2 h
        refine cj_callVi (As := [.int (M 3 ((60 * v1) + (2 * v2)).toNatClampNeg), .int (M 3 (((60 * v1) + (2 * v2)) + 1).toNatClampNeg)]) hC cv_X7_152 cy_l0_ (cy_e0 g _) rfl (c_X7_rabbit l g (M 3 ((60 * v1) + (2 * v2)).toNatClampNeg) (M 3 (((60 * v1) + (2 * v2)) + 1).toNatClampNeg) M e1) (by decide) rfl rfl (Nat.le_of_ble_eq_true rfl) dX7_read_76 ?_
        obtain ⟨x2, hx1, h⟩ := cb_l h
        replace hx1 := hx1.symm
        have hj1 : cb_J cy g γ 4 M1 87 [(0, .ref (g.2.1 0)), (1, .int v1), (2, .int v2)] [.int x2] := by
          refine cj_istore_n (lv' := [(3, .int x2), (0, .ref (g.2.1 0)), (1, .int v1), (2, .int v2)]) hC dX7_read_87 rfl (by decide) rfl ?_
          refine cj_iload_n hC dX7_read_88 rfl 3 rfl ?_
          refine cj_iload_n hC dX7_read_89 rfl 0 rfl ?_
          obtain ⟨x3, hx2, h⟩ := cb_l h
          replace hx2 := hx2.symm
          have hj2 : cb_J cy g γ 4 M1 98 [(0, .ref (g.2.1 0)), (1, .int v1), (3, .int x2)] [.int x3, .int v2] := by
            refine cj_iadd hC dX7_read_98 ?_
            obtain ⟨x4, ex4, h⟩ := cb_l h
            refine cj_topi ex4 ?_
            refine cj_istore_n (lv' := [(2, .int x4), (0, .ref (g.2.1 0)), (1, .int v1), (3, .int x2)]) hC dX7_read_99 rfl (by decide) rfl ?_
            refine cj_goto (tgt := 29) hC dX7_read_100 (by decide) ?_
            exact cj_pick [1, 2, 0, 3] rfl (ih _ _ _ _ h hexit)
          refine cj_if_eq (tgt := 97) hC dX7_read_90 (by decide) (fun c4 => ?_) (fun c4 => ?_)
          · replace hx2 := cb_T c4 hx2
            refine cj_iconst (v := 0) hC dX7_read_97 rfl ?_
            obtain rfl := hx2
            exact cj_pick [1, 2, 0] rfl hj2
          · replace hx2 := cb_F c4 hx2
            refine cj_iconst (v := 1) hC dX7_read_93 rfl ?_
            refine cj_goto (tgt := 98) hC dX7_read_94 (by decide) ?_
            obtain rfl := hx2
            exact cj_pick [1, 2, 0] rfl hj2
        refine cj_if_lt (tgt := 86) hC dX7_read_79 (by decide) (fun c3 => ?_) (fun c3 => ?_)
        · replace hx1 := cb_T c3 hx1
          refine cj_iconst (v := 0) hC dX7_read_86 rfl ?_
          obtain rfl := hx1
          exact cj_pick [0, 1, 2] rfl hj1
        · replace hx1 := cb_F c3 hx1
          refine cj_iconst (v := 1) hC dX7_read_82 rfl ?_
          refine cj_goto (tgt := 87) hC dX7_read_83 (by decide) ?_
          obtain rfl := hx1
          exact cj_pick [0, 1, 2] rfl hj1
set_option maxRecDepth 100000 in
set_option maxHeartbeats 4000000 in
theorem c_X7_read (l : Launch) (g : cb_Geo) (p1 : Int32) (M : cb_Mem) {rr : Int32} {Mr : cb_Mem} (h : f_X7_read p1 M = some (rr, Mr)) : Met l yX7_read (.code yX7_read cX7_read 4 (some .int) :: cb_ws) (cb_rm 3) (cb_Pc cy g [.ref (g.2.1 0), .int p1] M) (cb_Qi cy g rr Mr) 0 0 (cb_A cy g) := by
  refine cb_met (by decide) wd_1051 (Nat.le_of_ble_eq_true rfl) (fun γ hC => ?_)
  replace hC : cb_C cy g γ RX7 cX7_read 4 (some .int) 3 l (cb_Qi cy g rr Mr) := hC
  show cb_J cy g γ 4 M 0 [(0, .ref (g.2.1 0)), (1, .int p1)] []
  unfold f_X7_read at h
  refine cj_iload_n hC dX7_read_0 rfl 1 rfl ?_
  obtain ⟨x1, e1, h⟩ := cb_l h
  refine cj_callSi (As := [.int p1]) hC cs_X7_88 (c_X7_isSheet l g p1 M e1.symm) (by decide) rfl rfl (Nat.le_of_ble_eq_true rfl) dX7_read_1 ?_
  refine cj_if_ne (tgt := 10) hC dX7_read_4 (by decide) (fun c1 => ?_) (fun c1 => ?_)
  · replace h := cb_F c1 h
    refine cj_aload_n hC dX7_read_10 rfl 0 rfl ?_
    refine cj_get (v := .ref (g.2.1 1)) hC fa_X7_7 cy_l0_ (cy_e0 g _) rfl dX7_read_11 ?_
    refine cj_iload_n hC dX7_read_14 rfl 1 rfl ?_
    obtain ⟨i1, h⟩ := cb_g h
    refine cj_iald hC cy_l1_ (cy_e1 g _) (cy_t0 g) i1 dX7_read_15 ?_
    refine cj_if_ge (tgt := 25) hC dX7_read_16 (by decide) (fun c2 => ?_) (fun c2 => ?_)
    · replace h := cb_T c2 h
      refine cj_iconst (v := 0) hC dX7_read_25 rfl ?_
      refine cj_istore_n (lv' := [(2, .int 0), (0, .ref (g.2.1 0)), (1, .int p1)]) hC dX7_read_26 rfl (by decide) rfl ?_
      refine cj_iconst (v := 1) hC dX7_read_27 rfl ?_
      refine cj_istore_n (lv' := [(3, .int 1), (2, .int 0), (0, .ref (g.2.1 0)), (1, .int p1)]) hC dX7_read_28 rfl (by decide) rfl ?_
      obtain ⟨x2, M1, e2, h⟩ := cb_b2 h
      refine cj_pick [2, 3, 1, 0] rfl ?_
      refine l_X7_read_L29 hC p1 cb_fuel _ _ _ _ e2 (fun ze20 ze21 hz => ?_)
      obtain ⟨rfl, rfl⟩ := cb_p2 hz
      refine cj_iload_n hC dX7_read_103 rfl 0 rfl ?_
      obtain ⟨rfl, rfl⟩ := cb_i2 h
      exact cj_iret hC dX7_read_104
    · replace h := cb_F c2 h
      refine cj_aload_n hC dX7_read_19 rfl 0 rfl ?_
      refine cj_iconst (v := 1) hC dX7_read_20 rfl ?_
      obtain ⟨x3, M2, e3, h⟩ := cb_l2 h
      refine cj_callVi (As := [.int 1]) hC cv_X7_94 cy_l0_ (cy_e0 g _) rfl (c_X7_finds l g 1 M e3.symm) (by decide) rfl rfl (Nat.le_of_ble_eq_true rfl) dX7_read_21 ?_
      obtain ⟨rfl, rfl⟩ := cb_i2 h
      exact cj_iret hC dX7_read_24
  · replace h := cb_T c1 h
    refine cj_bipush (v := (-2)) hC dX7_read_7 rfl ?_
    obtain ⟨rfl, rfl⟩ := cb_i2 h
    exact cj_iret hC dX7_read_9
def f_X7_isSo_L40 : Nat → Int32 → Int32 → Int32 → Int32 → cb_Mem → Option (Int32)
    | 0, _, _, _, _, _ => none
    | n + 1, v1, v2, v3, v4, M =>
      if cb_in v1 2 = true then
      if (M 9 v1.toNatClampNeg) ≤ v4 then
      some v3
      else
      Option.bind (if v3 = 0 then
      if cb_in ((6 * v1) + v4) 12 = true then
      if (M 10 ((6 * v1) + v4).toNatClampNeg) = v2 then
      some (1 : Int32)
      else
      some (0 : Int32)
      else none
      else
      some (1 : Int32)) fun x1 =>
      f_X7_isSo_L40 n v1 v2 x1 (v4 + 1) M
      else none
def f_X7_isSo (p1 : Int32) (p2 : Int32) (M : cb_Mem) : Option (Int32) :=
  cb_let (fun (_ : Unit) =>
  (f_X7_isSo_L40 cb_fuel p1 p2 0 0 M).bind fun x1 =>
  some (x1 &&& 1)) fun k1 =>
  if p1 = 0 then
  if (M 0 16) = (-1) then
  k1 ()
  else
  if 10 ≤ p2 then
  some (0 : Int32)
  else
  cb_let (f_X7_isIn (M 0 16) p2) fun x2 =>
  if x2 = 0 then
  some (0 : Int32)
  else
  some (1 : Int32)
  else
  k1 ()
set_option maxRecDepth 100000 in
set_option maxHeartbeats 4000000 in
theorem l_X7_isSo_L40 {l : Launch} {g : cb_Geo} {γ : cb_Gam} {rr : Int32} {M : cb_Mem} (hC : cb_C cy g γ RX7 cX7_isSo 5 (some .boolean) 1 l (cb_Qi cy g rr M)) (v1 : Int32) (v2 : Int32) : ∀ (n : Nat) (v3 : Int32) (v4 : Int32) (o : (Int32)), f_X7_isSo_L40 n v1 v2 v3 v4 M = some o → (∀ (v3' : Int32), o = v3' → cb_J cy g γ 5 M 83 [(3, .int v3')] []) → cb_J cy g γ 5 M 40 [(0, .ref (g.2.1 0)), (1, .int v1), (2, .int v2), (3, .int v3), (4, .int v4)] [] := by
  intro n
  induction n with
  | zero =>
    intro v3 v4 o h
    cases h
  | succ n ih =>
    intro v3 v4 o h hexit
    unfold f_X7_isSo_L40 at h
    refine cj_iload hC dX7_isSo_40 4 rfl ?_
    refine cj_aload_n hC dX7_isSo_42 rfl 0 rfl ?_
    refine cj_get (v := .ref (g.2.1 9)) hC fa_X7_34 cy_l0_ (cy_e0 g _) rfl dX7_isSo_43 ?_
    refine cj_iload_n hC dX7_isSo_46 rfl 1 rfl ?_
    obtain ⟨i1, h⟩ := cb_g h
    refine cj_iald hC cy_l9_ (cy_e9 g _) (cy_t0 g) i1 dX7_isSo_47 ?_
    refine cj_icmp_ge (tgt := 83) hC dX7_isSo_48 (by decide) (fun c1 => ?_) (fun c1 => ?_)
    · replace h := cb_T c1 h
      obtain rfl := Option.some.inj h
      exact cj_pick [3] rfl (hexit _ rfl)
    · replace h := cb_F c1 h
      refine cj_iload_n hC dX7_isSo_51 rfl 3 rfl ?_
      obtain ⟨x1, hx1, h⟩ := cb_b h
      have hj1 : cb_J cy g γ 5 M 76 [(0, .ref (g.2.1 0)), (1, .int v1), (2, .int v2), (4, .int v4)] [.int x1] := by
        refine cj_istore_n (lv' := [(3, .int x1), (0, .ref (g.2.1 0)), (1, .int v1), (2, .int v2), (4, .int v4)]) hC dX7_isSo_76 rfl (by decide) rfl ?_
        refine cj_iinc (lv' := [(4, .int (v4 + 1)), (3, .int x1), (0, .ref (g.2.1 0)), (1, .int v1), (2, .int v2)]) hC dX7_isSo_77 (q := 4) rfl rfl (by decide) rfl ?_
        refine cj_goto (tgt := 40) hC dX7_isSo_80 (by decide) ?_
        exact cj_pick [2, 3, 4, 1, 0] rfl (ih _ _ _ h hexit)
      refine cj_if_ne (tgt := 71) hC dX7_isSo_52 (by decide) (fun c2 => ?_) (fun c2 => ?_)
      · replace hx1 := cb_F c2 hx1
        refine cj_iconst (v := 1) hC dX7_isSo_71 rfl ?_
        refine cj_goto (tgt := 76) hC dX7_isSo_72 (by decide) ?_
        obtain rfl := Option.some.inj hx1
        exact cj_pick [0, 1, 2, 4] rfl hj1
      · replace hx1 := cb_T c2 hx1
        refine cj_aload_n hC dX7_isSo_55 rfl 0 rfl ?_
        refine cj_get (v := .ref (g.2.1 10)) hC fa_X7_37 cy_l0_ (cy_e0 g _) rfl dX7_isSo_56 ?_
        refine cj_bipush (v := 6) hC dX7_isSo_59 rfl ?_
        refine cj_iload_n hC dX7_isSo_61 rfl 1 rfl ?_
        refine cj_imul hC dX7_isSo_62 ?_
        refine cj_iload hC dX7_isSo_63 4 rfl ?_
        refine cj_iadd hC dX7_isSo_65 ?_
        obtain ⟨i2, hx1⟩ := cb_g hx1
        refine cj_iald hC cy_l10_ (cy_e10 g _) (cy_t0 g) i2 dX7_isSo_66 ?_
        refine cj_iload_n hC dX7_isSo_67 rfl 2 rfl ?_
        refine cj_icmp_ne (tgt := 75) hC dX7_isSo_68 (by decide) (fun c3 => ?_) (fun c3 => ?_)
        · replace hx1 := cb_F c3 hx1
          refine cj_iconst (v := 0) hC dX7_isSo_75 rfl ?_
          obtain rfl := Option.some.inj hx1
          exact cj_pick [0, 1, 2, 4] rfl hj1
        · replace hx1 := cb_T c3 hx1
          refine cj_iconst (v := 1) hC dX7_isSo_71 rfl ?_
          refine cj_goto (tgt := 76) hC dX7_isSo_72 (by decide) ?_
          obtain rfl := Option.some.inj hx1
          exact cj_pick [0, 1, 2, 4] rfl hj1
set_option maxRecDepth 100000 in
set_option maxHeartbeats 4000000 in
theorem c_X7_isSo (l : Launch) (g : cb_Geo) (p1 : Int32) (p2 : Int32) (M : cb_Mem) {rr : Int32} (h : f_X7_isSo p1 p2 M = some rr) : Met l yX7_isSo (.code yX7_isSo cX7_isSo 5 (some .boolean) :: cb_ws) (cb_rm 1) (cb_Pc cy g [.ref (g.2.1 0), .int p1, .int p2] M) (cb_Qi cy g rr M) 0 0 (cb_A cy g) := by
  refine cb_met (by decide) wd_1072 (Nat.le_of_ble_eq_true rfl) (fun γ hC => ?_)
  replace hC : cb_C cy g γ RX7 cX7_isSo 5 (some .boolean) 1 l (cb_Qi cy g rr M) := hC
  show cb_J cy g γ 5 M 0 [(0, .ref (g.2.1 0)), (1, .int p1), (2, .int p2)] []
  unfold f_X7_isSo at h
  refine cj_iload_n hC dX7_isSo_0 rfl 1 rfl ?_
  obtain ⟨k1, ek1, h⟩ := cb_l h
  have hk1 : ∀ (u9 : Unit), k1 u9 = some rr → cb_J cy g γ 5 M 35 [(0, .ref (g.2.1 0)), (1, .int p1), (2, .int p2)] [] := by
    intro u9 h
    replace h := cb_k1 ek1 h
    refine cj_iconst (v := 0) hC dX7_isSo_35 rfl ?_
    refine cj_istore_n (lv' := [(3, .int 0), (0, .ref (g.2.1 0)), (1, .int p1), (2, .int p2)]) hC dX7_isSo_36 rfl (by decide) rfl ?_
    refine cj_iconst (v := 0) hC dX7_isSo_37 rfl ?_
    refine cj_istore (lv' := [(4, .int 0), (3, .int 0), (0, .ref (g.2.1 0)), (1, .int p1), (2, .int p2)]) hC dX7_isSo_38 (by decide) rfl ?_
    obtain ⟨x1, e1, h⟩ := cb_b h
    refine cj_pick [2, 3, 4, 1, 0] rfl ?_
    refine l_X7_isSo_L40 hC p1 p2 cb_fuel _ _ _ e1 (fun ze1 hz => ?_)
    obtain rfl := hz
    refine cj_iload_n hC dX7_isSo_83 rfl 0 rfl ?_
    obtain rfl := Option.some.inj h
    exact cj_zret2 hC dX7_isSo_84
  refine cj_if_ne (tgt := 35) hC dX7_isSo_1 (by decide) (fun c1 => ?_) (fun c1 => ?_)
  · replace h := cb_F c1 h
    exact cj_pick [0, 1, 2] rfl (hk1 _ h)
  · replace h := cb_T c1 h
    refine cj_aload_n hC dX7_isSo_4 rfl 0 rfl ?_
    refine cj_get (v := .int (M 0 16)) hC fa_X7_73 cy_l0_ (cy_e0 g _) rfl dX7_isSo_5 ?_
    refine cj_iconst (v := (-1)) hC dX7_isSo_8 rfl ?_
    refine cj_icmp_eq (tgt := 35) hC dX7_isSo_9 (by decide) (fun c2 => ?_) (fun c2 => ?_)
    · replace h := cb_T c2 h
      exact cj_pick [0, 1, 2] rfl (hk1 _ h)
    · replace h := cb_F c2 h
      refine cj_iload_n hC dX7_isSo_12 rfl 2 rfl ?_
      refine cj_bipush (v := 10) hC dX7_isSo_13 rfl ?_
      refine cj_icmp_ge (tgt := 33) hC dX7_isSo_15 (by decide) (fun c3 => ?_) (fun c3 => ?_)
      · replace h := cb_T c3 h
        refine cj_iconst (v := 0) hC dX7_isSo_33 rfl ?_
        obtain rfl := Option.some.inj h
        exact cj_zret hC (Or.inl rfl) dX7_isSo_34
      · replace h := cb_F c3 h
        refine cj_aload_n hC dX7_isSo_18 rfl 0 rfl ?_
        refine cj_get (v := .int (M 0 16)) hC fa_X7_73 cy_l0_ (cy_e0 g _) rfl dX7_isSo_19 ?_
        refine cj_iload_n hC dX7_isSo_22 rfl 2 rfl ?_
        obtain ⟨x2, e2, h⟩ := cb_l h
        refine cj_callSi (As := [.int (M 0 16), .int p2]) hC cs_X7_154 (c_X7_isIn l g (M 0 16) p2 M e2.symm) (by decide) rfl rfl (Nat.le_of_ble_eq_true rfl) dX7_isSo_23 ?_
        refine cj_if_eq (tgt := 33) hC dX7_isSo_26 (by decide) (fun c4 => ?_) (fun c4 => ?_)
        · replace h := cb_T c4 h
          refine cj_iconst (v := 0) hC dX7_isSo_33 rfl ?_
          obtain rfl := Option.some.inj h
          exact cj_zret hC (Or.inl rfl) dX7_isSo_34
        · replace h := cb_F c4 h
          refine cj_iconst (v := 1) hC dX7_isSo_29 rfl ?_
          refine cj_goto (tgt := 34) hC dX7_isSo_30 (by decide) ?_
          obtain rfl := Option.some.inj h
          exact cj_zret hC (Or.inr rfl) dX7_isSo_34
def f_X7_ripens_L25 : Nat → Int32 → Int32 → cb_Mem → Option (cb_Mem)
    | 0, _, _, _ => none
    | n + 1, v1, v2, M =>
      if cb_in v1 8 = true then
      if (M 12 v1.toNatClampNeg) ≤ v2 then
      some M
      else
      if cb_in v1 8 = true then
      if (M 13 v1.toNatClampNeg) = (-1) then
      (f_X7_isSo 0 v2 M).bind fun x1 =>
      Option.bind (if x1 = 0 then
      some M
      else
      if cb_in (2 * v1) 16 = true then
      cb_let (if (M 7 (2 * v1).toNatClampNeg) = 2 then
      v2
      else
      ((-1) : Int32)) fun x2 =>
      if cb_in v1 8 = true then
      cb_let (cb_up M 13 v1.toNatClampNeg x2) fun M2 =>
      if cb_in v1 8 = true then
      if cb_in (2 * v1) 16 = true then
      cb_let (if (M2 7 (2 * v1).toNatClampNeg) = 0 then
      (1 : Int32)
      else
      (0 : Int32)) fun x3 =>
      if cb_in v1 8 = true then
      cb_let (cb_up M2 12 v1.toNatClampNeg ((M2 12 v1.toNatClampNeg) + x3)) fun M3 =>
      some M3
      else none
      else none
      else none
      else none
      else none) fun M1 =>
      f_X7_ripens_L25 n v1 (v2 + 1) M1
      else
      some M
      else none
      else none
def f_X7_ripens_L136 : Nat → Int32 → Int32 → cb_Mem → Option (cb_Mem)
    | 0, _, _, _ => none
    | n + 1, v1, v2, M =>
      if (M 0 13) ≤ v2 then
      some M
      else
      cb_let (f_X7_isIn (M 0 15) v2) fun x1 =>
      Option.bind (if x1 = 0 then
      if cb_in ((2 * v2) + 1) 16 = true then
      if (M 11 ((2 * v2) + 1).toNatClampNeg) = v1 then
      if cb_in v1 8 = true then
      if (M 13 v1.toNatClampNeg) = (-1) then
      some (1 : Int32)
      else
      if cb_in (2 * v2) 16 = true then
      if cb_in v1 8 = true then
      if (M 13 v1.toNatClampNeg) ≤ (M 11 (2 * v2).toNatClampNeg) then
      some (0 : Int32)
      else
      some (1 : Int32)
      else none
      else none
      else none
      else
      some (0 : Int32)
      else none
      else
      some (0 : Int32)) fun x2 =>
      Option.bind (if x2 = 0 then
      if cb_in v1 8 = true then
      some (M 13 v1.toNatClampNeg)
      else none
      else
      if cb_in (2 * v2) 16 = true then
      some (M 11 (2 * v2).toNatClampNeg)
      else none) fun x3 =>
      if cb_in v1 8 = true then
      cb_let (cb_up M 13 v1.toNatClampNeg x3) fun M1 =>
      f_X7_ripens_L136 n v1 (v2 + 1) M1
      else none
def f_X7_ripens (p1 : Int32) (M : cb_Mem) : Option (cb_Mem) :=
  if cb_in ((2 * p1) + 1) 16 = true then
  if cb_in p1 8 = true then
  cb_let (cb_up M 12 p1.toNatClampNeg (M 7 ((2 * p1) + 1).toNatClampNeg)) fun M1 =>
  if cb_in p1 8 = true then
  cb_let (cb_up M1 13 p1.toNatClampNeg (-1)) fun M2 =>
  (f_X7_ripens_L25 cb_fuel p1 0 M2).bind fun M3 =>
  if cb_in p1 8 = true then
  Option.bind (if (M3 13 p1.toNatClampNeg) = (-1) then
  if cb_in p1 8 = true then
  some (M3 12 p1.toNatClampNeg)
  else none
  else
  some ((-1) : Int32)) fun x1 =>
  if cb_in p1 8 = true then
  cb_let (cb_up M3 12 p1.toNatClampNeg x1) fun M4 =>
  (f_X7_ripens_L136 cb_fuel p1 0 M4).bind fun M5 =>
  some M5
  else none
  else none
  else none
  else none
  else none
set_option maxRecDepth 100000 in
set_option maxHeartbeats 4000000 in
theorem l_X7_ripens_L25 {l : Launch} {g : cb_Geo} {γ : cb_Gam} {Mr : cb_Mem} (hC : cb_C cy g γ RX7 cX7_ripens 4 none 2 l (cb_Qv cy g Mr)) (v1 : Int32) : ∀ (n : Nat) (v2 : Int32) (M : cb_Mem) (o : (cb_Mem)), f_X7_ripens_L25 n v1 v2 M = some o → (∀ (M' : cb_Mem), o = M' → cb_J cy g γ 4 M' 108 [(0, .ref (g.2.1 0)), (1, .int v1)] []) → cb_J cy g γ 4 M 25 [(0, .ref (g.2.1 0)), (1, .int v1), (2, .int v2)] [] := by
  intro n
  induction n with
  | zero =>
    intro v2 M o h
    cases h
  | succ n ih =>
    intro v2 M o h hexit
    unfold f_X7_ripens_L25 at h
    refine cj_iload_n hC dX7_ripens_25 rfl 2 rfl ?_
    refine cj_aload_n hC dX7_ripens_26 rfl 0 rfl ?_
    refine cj_get (v := .ref (g.2.1 12)) hC fa_X7_43 cy_l0_ (cy_e0 g _) rfl dX7_ripens_27 ?_
    refine cj_iload_n hC dX7_ripens_30 rfl 1 rfl ?_
    obtain ⟨i1, h⟩ := cb_g h
    refine cj_iald hC cy_l12_ (cy_e12 g _) (cy_t0 g) i1 dX7_ripens_31 ?_
    refine cj_icmp_ge (tgt := 108) hC dX7_ripens_32 (by decide) (fun c1 => ?_) (fun c1 => ?_)
    · replace h := cb_T c1 h
      obtain rfl := Option.some.inj h
      exact cj_pick [0, 1] rfl (hexit _ rfl)
    · replace h := cb_F c1 h
      refine cj_aload_n hC dX7_ripens_35 rfl 0 rfl ?_
      refine cj_get (v := .ref (g.2.1 13)) hC fa_X7_46 cy_l0_ (cy_e0 g _) rfl dX7_ripens_36 ?_
      refine cj_iload_n hC dX7_ripens_39 rfl 1 rfl ?_
      obtain ⟨i2, h⟩ := cb_g h
      refine cj_iald hC cy_l13_ (cy_e13 g _) (cy_t0 g) i2 dX7_ripens_40 ?_
      refine cj_iconst (v := (-1)) hC dX7_ripens_41 rfl ?_
      refine cj_icmp_ne (tgt := 108) hC dX7_ripens_42 (by decide) (fun c2 => ?_) (fun c2 => ?_)
      · replace h := cb_F c2 h
        obtain rfl := Option.some.inj h
        exact cj_pick [0, 1] rfl (hexit _ rfl)
      · replace h := cb_T c2 h
        refine cj_aload_n hC dX7_ripens_45 rfl 0 rfl ?_
        refine cj_iconst (v := 0) hC dX7_ripens_46 rfl ?_
        refine cj_iload_n hC dX7_ripens_47 rfl 2 rfl ?_
        obtain ⟨x1, e1, h⟩ := cb_b h
        refine cj_callVi (As := [.int 0, .int v2]) hC cv_X7_158 cy_l0_ (cy_e0 g _) rfl (c_X7_isSo l g 0 v2 M e1) (by decide) rfl rfl (Nat.le_of_ble_eq_true rfl) dX7_ripens_48 ?_
        obtain ⟨M1, hx1, h⟩ := cb_b h
        have hj1 : cb_J cy g γ 4 M1 102 [(0, .ref (g.2.1 0)), (1, .int v1), (2, .int v2)] [] := by
          refine cj_iinc (lv' := [(2, .int (v2 + 1)), (0, .ref (g.2.1 0)), (1, .int v1)]) hC dX7_ripens_102 (q := 2) rfl rfl (by decide) rfl ?_
          refine cj_goto (tgt := 25) hC dX7_ripens_105 (by decide) ?_
          exact cj_pick [1, 2, 0] rfl (ih _ _ _ h hexit)
        refine cj_if_eq (tgt := 102) hC dX7_ripens_51 (by decide) (fun c3 => ?_) (fun c3 => ?_)
        · replace hx1 := cb_T c3 hx1
          obtain rfl := Option.some.inj hx1
          exact cj_pick [0, 1, 2] rfl hj1
        · replace hx1 := cb_F c3 hx1
          refine cj_aload_n hC dX7_ripens_54 rfl 0 rfl ?_
          refine cj_get (v := .ref (g.2.1 13)) hC fa_X7_46 cy_l0_ (cy_e0 g _) rfl dX7_ripens_55 ?_
          refine cj_iload_n hC dX7_ripens_58 rfl 1 rfl ?_
          refine cj_aload_n hC dX7_ripens_59 rfl 0 rfl ?_
          refine cj_get (v := .ref (g.2.1 7)) hC fa_X7_28 cy_l0_ (cy_e0 g _) rfl dX7_ripens_60 ?_
          refine cj_iconst (v := 2) hC dX7_ripens_63 rfl ?_
          refine cj_iload_n hC dX7_ripens_64 rfl 1 rfl ?_
          refine cj_imul hC dX7_ripens_65 ?_
          obtain ⟨i3, hx1⟩ := cb_g hx1
          refine cj_iald hC cy_l7_ (cy_e7 g _) (cy_t0 g) i3 dX7_ripens_66 ?_
          refine cj_iconst (v := 2) hC dX7_ripens_67 rfl ?_
          obtain ⟨x2, hx2, hx1⟩ := cb_l hx1
          replace hx2 := hx2.symm
          have hj2 : cb_J cy g γ 4 M 76 [(0, .ref (g.2.1 0)), (1, .int v1), (2, .int v2)] [.int x2, .int v1, .ref (g.2.1 13)] := by
            obtain ⟨i4, hx1⟩ := cb_g hx1
            obtain ⟨M2, eM2, hx1⟩ := cb_l hx1
            refine cj_iast hC cy_l13_ (cy_e13 g) (cy_t0 g) i4 eM2 dX7_ripens_76 ?_
            refine cj_aload_n hC dX7_ripens_77 rfl 0 rfl ?_
            refine cj_get (v := .ref (g.2.1 12)) hC fa_X7_43 cy_l0_ (cy_e0 g _) rfl dX7_ripens_78 ?_
            refine cj_iload_n hC dX7_ripens_81 rfl 1 rfl ?_
            refine cj_dup2 hC dX7_ripens_82 rfl rfl ?_
            obtain ⟨i5, hx1⟩ := cb_g hx1
            refine cj_iald hC cy_l12_ (cy_e12 g _) (cy_t0 g) i5 dX7_ripens_83 ?_
            refine cj_aload_n hC dX7_ripens_84 rfl 0 rfl ?_
            refine cj_get (v := .ref (g.2.1 7)) hC fa_X7_28 cy_l0_ (cy_e0 g _) rfl dX7_ripens_85 ?_
            refine cj_iconst (v := 2) hC dX7_ripens_88 rfl ?_
            refine cj_iload_n hC dX7_ripens_89 rfl 1 rfl ?_
            refine cj_imul hC dX7_ripens_90 ?_
            obtain ⟨i6, hx1⟩ := cb_g hx1
            refine cj_iald hC cy_l7_ (cy_e7 g _) (cy_t0 g) i6 dX7_ripens_91 ?_
            obtain ⟨x3, hx3, hx1⟩ := cb_l hx1
            replace hx3 := hx3.symm
            have hj3 : cb_J cy g γ 4 M2 100 [(0, .ref (g.2.1 0)), (1, .int v1), (2, .int v2)] [.int x3, .int (M2 12 v1.toNatClampNeg), .int v1, .ref (g.2.1 12)] := by
              refine cj_iadd hC dX7_ripens_100 ?_
              obtain ⟨i7, hx1⟩ := cb_g hx1
              obtain ⟨M3, eM3, hx1⟩ := cb_l hx1
              refine cj_iast hC cy_l12_ (cy_e12 g) (cy_t0 g) i7 eM3 dX7_ripens_101 ?_
              obtain rfl := Option.some.inj hx1
              exact cj_pick [0, 1, 2] rfl hj1
            refine cj_if_ne (tgt := 99) hC dX7_ripens_92 (by decide) (fun c5 => ?_) (fun c5 => ?_)
            · replace hx3 := cb_F c5 hx3
              refine cj_iconst (v := 0) hC dX7_ripens_99 rfl ?_
              obtain rfl := hx3
              exact cj_pick [0, 1, 2] rfl hj3
            · replace hx3 := cb_T c5 hx3
              refine cj_iconst (v := 1) hC dX7_ripens_95 rfl ?_
              refine cj_goto (tgt := 100) hC dX7_ripens_96 (by decide) ?_
              obtain rfl := hx3
              exact cj_pick [0, 1, 2] rfl hj3
          refine cj_icmp_ne (tgt := 75) hC dX7_ripens_68 (by decide) (fun c4 => ?_) (fun c4 => ?_)
          · replace hx2 := cb_F c4 hx2
            refine cj_iconst (v := (-1)) hC dX7_ripens_75 rfl ?_
            obtain rfl := hx2
            exact cj_pick [0, 1, 2] rfl hj2
          · replace hx2 := cb_T c4 hx2
            refine cj_iload_n hC dX7_ripens_71 rfl 2 rfl ?_
            refine cj_goto (tgt := 76) hC dX7_ripens_72 (by decide) ?_
            obtain rfl := hx2
            exact cj_pick [0, 1, 2] rfl hj2
set_option maxRecDepth 100000 in
set_option maxHeartbeats 4000000 in
theorem l_X7_ripens_L136 {l : Launch} {g : cb_Geo} {γ : cb_Gam} {Mr : cb_Mem} (hC : cb_C cy g γ RX7 cX7_ripens 4 none 2 l (cb_Qv cy g Mr)) (v1 : Int32) : ∀ (n : Nat) (v2 : Int32) (M : cb_Mem) (o : (cb_Mem)), f_X7_ripens_L136 n v1 v2 M = some o → (∀ (M' : cb_Mem), o = M' → cb_J cy g γ 4 M' 235 [] []) → cb_J cy g γ 4 M 136 [(0, .ref (g.2.1 0)), (1, .int v1), (2, .int v2)] [] := by
  intro n
  induction n with
  | zero =>
    intro v2 M o h
    cases h
  | succ n ih =>
    intro v2 M o h hexit
    unfold f_X7_ripens_L136 at h
    refine cj_iload_n hC dX7_ripens_136 rfl 2 rfl ?_
    refine cj_aload_n hC dX7_ripens_137 rfl 0 rfl ?_
    refine cj_get (v := .int (M 0 13)) hC fa_X7_149 cy_l0_ (cy_e0 g _) rfl dX7_ripens_138 ?_
    refine cj_icmp_ge (tgt := 235) hC dX7_ripens_141 (by decide) (fun c1 => ?_) (fun c1 => ?_)
    · replace h := cb_T c1 h
      obtain rfl := Option.some.inj h
      exact cj_pick [] rfl (hexit _ rfl)
    · replace h := cb_F c1 h
      refine cj_aload_n hC dX7_ripens_144 rfl 0 rfl ?_
      refine cj_get (v := .int (M 0 15)) hC fa_X7_161 cy_l0_ (cy_e0 g _) rfl dX7_ripens_145 ?_
      refine cj_iload_n hC dX7_ripens_148 rfl 2 rfl ?_
      obtain ⟨x1, e1, h⟩ := cb_l h
      refine cj_callSi (As := [.int (M 0 15), .int v2]) hC cs_X7_154 (c_X7_isIn l g (M 0 15) v2 M e1.symm) (by decide) rfl rfl (Nat.le_of_ble_eq_true rfl) dX7_ripens_149 ?_
      obtain ⟨x2, hx1, h⟩ := cb_b h
      have hj1 : cb_J cy g γ 4 M 201 [(0, .ref (g.2.1 0)), (1, .int v1), (2, .int v2)] [.int x2] := by
        refine cj_istore_n (lv' := [(3, .int x2), (0, .ref (g.2.1 0)), (1, .int v1), (2, .int v2)]) hC dX7_ripens_201 rfl (by decide) rfl ?_
        refine cj_aload_n hC dX7_ripens_202 rfl 1 rfl ?_
        refine cj_get (v := .ref (g.2.1 13)) hC fa_X7_46 cy_l0_ (cy_e0 g _) rfl dX7_ripens_203 ?_
        refine cj_iload_n hC dX7_ripens_206 rfl 2 rfl ?_
        refine cj_iload_n hC dX7_ripens_207 rfl 0 rfl ?_
        obtain ⟨x3, hx2, h⟩ := cb_b h
        have hj2 : cb_J cy g γ 4 M 228 [(0, .ref (g.2.1 0)), (1, .int v1), (2, .int v2)] [.int x3, .int v1, .ref (g.2.1 13)] := by
          obtain ⟨i7, h⟩ := cb_g h
          obtain ⟨M1, eM1, h⟩ := cb_l h
          refine cj_iast hC cy_l13_ (cy_e13 g) (cy_t0 g) i7 eM1 dX7_ripens_228 ?_
          refine cj_iinc (lv' := [(2, .int (v2 + 1)), (0, .ref (g.2.1 0)), (1, .int v1)]) hC dX7_ripens_229 (q := 2) rfl rfl (by decide) rfl ?_
          refine cj_goto (tgt := 136) hC dX7_ripens_232 (by decide) ?_
          exact cj_pick [1, 2, 0] rfl (ih _ _ _ h hexit)
        refine cj_if_eq (tgt := 222) hC dX7_ripens_208 (by decide) (fun c6 => ?_) (fun c6 => ?_)
        · replace hx2 := cb_T c6 hx2
          refine cj_aload_n hC dX7_ripens_222 rfl 1 rfl ?_
          refine cj_get (v := .ref (g.2.1 13)) hC fa_X7_46 cy_l0_ (cy_e0 g _) rfl dX7_ripens_223 ?_
          refine cj_iload_n hC dX7_ripens_226 rfl 2 rfl ?_
          obtain ⟨i5, hx2⟩ := cb_g hx2
          refine cj_iald hC cy_l13_ (cy_e13 g _) (cy_t0 g) i5 dX7_ripens_227 ?_
          obtain rfl := Option.some.inj hx2
          exact cj_pick [1, 2, 3] rfl hj2
        · replace hx2 := cb_F c6 hx2
          refine cj_aload_n hC dX7_ripens_211 rfl 1 rfl ?_
          refine cj_get (v := .ref (g.2.1 11)) hC fa_X7_40 cy_l0_ (cy_e0 g _) rfl dX7_ripens_212 ?_
          refine cj_iconst (v := 2) hC dX7_ripens_215 rfl ?_
          refine cj_iload_n hC dX7_ripens_216 rfl 3 rfl ?_
          refine cj_imul hC dX7_ripens_217 ?_
          obtain ⟨i6, hx2⟩ := cb_g hx2
          refine cj_iald hC cy_l11_ (cy_e11 g _) (cy_t0 g) i6 dX7_ripens_218 ?_
          refine cj_goto (tgt := 228) hC dX7_ripens_219 (by decide) ?_
          obtain rfl := Option.some.inj hx2
          exact cj_pick [1, 2, 3] rfl hj2
      refine cj_if_ne (tgt := 200) hC dX7_ripens_152 (by decide) (fun c2 => ?_) (fun c2 => ?_)
      · replace hx1 := cb_F c2 hx1
        refine cj_iconst (v := 0) hC dX7_ripens_200 rfl ?_
        obtain rfl := Option.some.inj hx1
        exact cj_pick [0, 1, 2] rfl hj1
      · replace hx1 := cb_T c2 hx1
        refine cj_aload_n hC dX7_ripens_155 rfl 0 rfl ?_
        refine cj_get (v := .ref (g.2.1 11)) hC fa_X7_40 cy_l0_ (cy_e0 g _) rfl dX7_ripens_156 ?_
        refine cj_iconst (v := 2) hC dX7_ripens_159 rfl ?_
        refine cj_iload_n hC dX7_ripens_160 rfl 2 rfl ?_
        refine cj_imul hC dX7_ripens_161 ?_
        refine cj_iconst (v := 1) hC dX7_ripens_162 rfl ?_
        refine cj_iadd hC dX7_ripens_163 ?_
        obtain ⟨i1, hx1⟩ := cb_g hx1
        refine cj_iald hC cy_l11_ (cy_e11 g _) (cy_t0 g) i1 dX7_ripens_164 ?_
        refine cj_iload_n hC dX7_ripens_165 rfl 1 rfl ?_
        refine cj_icmp_ne (tgt := 200) hC dX7_ripens_166 (by decide) (fun c3 => ?_) (fun c3 => ?_)
        · replace hx1 := cb_F c3 hx1
          refine cj_iconst (v := 0) hC dX7_ripens_200 rfl ?_
          obtain rfl := Option.some.inj hx1
          exact cj_pick [0, 1, 2] rfl hj1
        · replace hx1 := cb_T c3 hx1
          refine cj_aload_n hC dX7_ripens_169 rfl 0 rfl ?_
          refine cj_get (v := .ref (g.2.1 13)) hC fa_X7_46 cy_l0_ (cy_e0 g _) rfl dX7_ripens_170 ?_
          refine cj_iload_n hC dX7_ripens_173 rfl 1 rfl ?_
          obtain ⟨i2, hx1⟩ := cb_g hx1
          refine cj_iald hC cy_l13_ (cy_e13 g _) (cy_t0 g) i2 dX7_ripens_174 ?_
          refine cj_iconst (v := (-1)) hC dX7_ripens_175 rfl ?_
          refine cj_icmp_eq (tgt := 196) hC dX7_ripens_176 (by decide) (fun c4 => ?_) (fun c4 => ?_)
          · replace hx1 := cb_T c4 hx1
            refine cj_iconst (v := 1) hC dX7_ripens_196 rfl ?_
            refine cj_goto (tgt := 201) hC dX7_ripens_197 (by decide) ?_
            obtain rfl := Option.some.inj hx1
            exact cj_pick [0, 1, 2] rfl hj1
          · replace hx1 := cb_F c4 hx1
            refine cj_aload_n hC dX7_ripens_179 rfl 0 rfl ?_
            refine cj_get (v := .ref (g.2.1 11)) hC fa_X7_40 cy_l0_ (cy_e0 g _) rfl dX7_ripens_180 ?_
            refine cj_iconst (v := 2) hC dX7_ripens_183 rfl ?_
            refine cj_iload_n hC dX7_ripens_184 rfl 2 rfl ?_
            refine cj_imul hC dX7_ripens_185 ?_
            obtain ⟨i3, hx1⟩ := cb_g hx1
            refine cj_iald hC cy_l11_ (cy_e11 g _) (cy_t0 g) i3 dX7_ripens_186 ?_
            refine cj_aload_n hC dX7_ripens_187 rfl 0 rfl ?_
            refine cj_get (v := .ref (g.2.1 13)) hC fa_X7_46 cy_l0_ (cy_e0 g _) rfl dX7_ripens_188 ?_
            refine cj_iload_n hC dX7_ripens_191 rfl 1 rfl ?_
            obtain ⟨i4, hx1⟩ := cb_g hx1
            refine cj_iald hC cy_l13_ (cy_e13 g _) (cy_t0 g) i4 dX7_ripens_192 ?_
            refine cj_icmp_ge (tgt := 200) hC dX7_ripens_193 (by decide) (fun c5 => ?_) (fun c5 => ?_)
            · replace hx1 := cb_T c5 hx1
              refine cj_iconst (v := 0) hC dX7_ripens_200 rfl ?_
              obtain rfl := Option.some.inj hx1
              exact cj_pick [0, 1, 2] rfl hj1
            · replace hx1 := cb_F c5 hx1
              refine cj_iconst (v := 1) hC dX7_ripens_196 rfl ?_
              refine cj_goto (tgt := 201) hC dX7_ripens_197 (by decide) ?_
              obtain rfl := Option.some.inj hx1
              exact cj_pick [0, 1, 2] rfl hj1
set_option maxRecDepth 100000 in
set_option maxHeartbeats 4000000 in
theorem c_X7_ripens (l : Launch) (g : cb_Geo) (p1 : Int32) (M : cb_Mem) {Mr : cb_Mem} (h : f_X7_ripens p1 M = some Mr) : Met l yX7_ripens (.code yX7_ripens cX7_ripens 4 none :: cb_ws) (cb_rm 2) (cb_Pc cy g [.ref (g.2.1 0), .int p1] M) (cb_Qv cy g Mr) 0 0 (cb_A cy g) := by
  refine cb_met (by decide) wd_1068 (Nat.le_of_ble_eq_true rfl) (fun γ hC => ?_)
  replace hC : cb_C cy g γ RX7 cX7_ripens 4 none 2 l (cb_Qv cy g Mr) := hC
  show cb_J cy g γ 4 M 0 [(0, .ref (g.2.1 0)), (1, .int p1)] []
  unfold f_X7_ripens at h
  refine cj_aload_n hC dX7_ripens_0 rfl 0 rfl ?_
  refine cj_get (v := .ref (g.2.1 12)) hC fa_X7_43 cy_l0_ (cy_e0 g _) rfl dX7_ripens_1 ?_
  refine cj_iload_n hC dX7_ripens_4 rfl 1 rfl ?_
  refine cj_aload_n hC dX7_ripens_5 rfl 0 rfl ?_
  refine cj_get (v := .ref (g.2.1 7)) hC fa_X7_28 cy_l0_ (cy_e0 g _) rfl dX7_ripens_6 ?_
  refine cj_iconst (v := 2) hC dX7_ripens_9 rfl ?_
  refine cj_iload_n hC dX7_ripens_10 rfl 1 rfl ?_
  refine cj_imul hC dX7_ripens_11 ?_
  refine cj_iconst (v := 1) hC dX7_ripens_12 rfl ?_
  refine cj_iadd hC dX7_ripens_13 ?_
  obtain ⟨i1, h⟩ := cb_g h
  refine cj_iald hC cy_l7_ (cy_e7 g _) (cy_t0 g) i1 dX7_ripens_14 ?_
  obtain ⟨i2, h⟩ := cb_g h
  obtain ⟨M1, eM1, h⟩ := cb_l h
  refine cj_iast hC cy_l12_ (cy_e12 g) (cy_t0 g) i2 eM1 dX7_ripens_15 ?_
  refine cj_aload_n hC dX7_ripens_16 rfl 0 rfl ?_
  refine cj_get (v := .ref (g.2.1 13)) hC fa_X7_46 cy_l0_ (cy_e0 g _) rfl dX7_ripens_17 ?_
  refine cj_iload_n hC dX7_ripens_20 rfl 1 rfl ?_
  refine cj_iconst (v := (-1)) hC dX7_ripens_21 rfl ?_
  obtain ⟨i3, h⟩ := cb_g h
  obtain ⟨M2, eM2, h⟩ := cb_l h
  refine cj_iast hC cy_l13_ (cy_e13 g) (cy_t0 g) i3 eM2 dX7_ripens_22 ?_
  refine cj_iconst (v := 0) hC dX7_ripens_23 rfl ?_
  refine cj_istore_n (lv' := [(2, .int 0), (0, .ref (g.2.1 0)), (1, .int p1)]) hC dX7_ripens_24 rfl (by decide) rfl ?_
  obtain ⟨M3, e1, h⟩ := cb_b h
  refine cj_pick [1, 2, 0] rfl ?_
  refine l_X7_ripens_L25 hC p1 cb_fuel _ _ _ e1 (fun ze1 hz => ?_)
  obtain rfl := hz
  refine cj_aload_n hC dX7_ripens_108 rfl 0 rfl ?_
  refine cj_get (v := .ref (g.2.1 12)) hC fa_X7_43 cy_l0_ (cy_e0 g _) rfl dX7_ripens_109 ?_
  refine cj_iload_n hC dX7_ripens_112 rfl 1 rfl ?_
  refine cj_aload_n hC dX7_ripens_113 rfl 0 rfl ?_
  refine cj_get (v := .ref (g.2.1 13)) hC fa_X7_46 cy_l0_ (cy_e0 g _) rfl dX7_ripens_114 ?_
  refine cj_iload_n hC dX7_ripens_117 rfl 1 rfl ?_
  obtain ⟨i4, h⟩ := cb_g h
  refine cj_iald hC cy_l13_ (cy_e13 g _) (cy_t0 g) i4 dX7_ripens_118 ?_
  refine cj_iconst (v := (-1)) hC dX7_ripens_119 rfl ?_
  obtain ⟨x1, hx1, h⟩ := cb_b h
  have hj1 : cb_J cy g γ 4 M3 133 [(0, .ref (g.2.1 0)), (1, .int p1)] [.int x1, .int p1, .ref (g.2.1 12)] := by
    obtain ⟨i6, h⟩ := cb_g h
    obtain ⟨M4, eM4, h⟩ := cb_l h
    refine cj_iast hC cy_l12_ (cy_e12 g) (cy_t0 g) i6 eM4 dX7_ripens_133 ?_
    refine cj_iconst (v := 0) hC dX7_ripens_134 rfl ?_
    refine cj_istore_n (lv' := [(2, .int 0), (0, .ref (g.2.1 0)), (1, .int p1)]) hC dX7_ripens_135 rfl (by decide) rfl ?_
    obtain ⟨M5, e2, h⟩ := cb_b h
    refine cj_pick [1, 2, 0] rfl ?_
    refine l_X7_ripens_L136 hC p1 cb_fuel _ _ _ e2 (fun ze2 hz => ?_)
    obtain rfl := hz
    obtain rfl := Option.some.inj h
    exact cj_vret hC dX7_ripens_235
  refine cj_icmp_ne (tgt := 132) hC dX7_ripens_120 (by decide) (fun c1 => ?_) (fun c1 => ?_)
  · replace hx1 := cb_F c1 hx1
    refine cj_iconst (v := (-1)) hC dX7_ripens_132 rfl ?_
    obtain rfl := Option.some.inj hx1
    exact cj_pick [0, 1] rfl hj1
  · replace hx1 := cb_T c1 hx1
    refine cj_aload_n hC dX7_ripens_123 rfl 0 rfl ?_
    refine cj_get (v := .ref (g.2.1 12)) hC fa_X7_43 cy_l0_ (cy_e0 g _) rfl dX7_ripens_124 ?_
    refine cj_iload_n hC dX7_ripens_127 rfl 1 rfl ?_
    obtain ⟨i5, hx1⟩ := cb_g hx1
    refine cj_iald hC cy_l12_ (cy_e12 g _) (cy_t0 g) i5 dX7_ripens_128 ?_
    refine cj_goto (tgt := 133) hC dX7_ripens_129 (by decide) ?_
    obtain rfl := Option.some.inj hx1
    exact cj_pick [0, 1] rfl hj1
def f_X7_span (p1 : Int32) : Int32 :=
  if p1 = 0 then
  (3 : Int32)
  else
  if p1 = 1 then
  (5 : Int32)
  else
  (1 : Int32)
set_option maxRecDepth 100000 in
set_option maxHeartbeats 4000000 in
theorem c_X7_span (l : Launch) (g : cb_Geo) (p1 : Int32) (M : cb_Mem) {rr : Int32} (h : f_X7_span p1 = rr) : Met l yX7_span (.code yX7_span cX7_span 1 (some .int) :: cb_ws) (cb_rm 0) (cb_Pc cy g [.int p1] M) (cb_Qi cy g rr M) 0 0 (cb_A cy g) := by
  refine cb_met (by decide) wd_1094 (Nat.le_of_ble_eq_true rfl) (fun γ hC => ?_)
  replace hC : cb_C cy g γ RX7 cX7_span 1 (some .int) 0 l (cb_Qi cy g rr M) := hC
  show cb_J cy g γ 1 M 0 [(0, .int p1)] []
  unfold f_X7_span at h
  refine cj_iload_n hC dX7_span_0 rfl 0 rfl ?_
  refine cj_if_ne (tgt := 8) hC dX7_span_1 (by decide) (fun c1 => ?_) (fun c1 => ?_)
  · replace h := cb_F c1 h
    refine cj_iload_n hC dX7_span_8 rfl 0 rfl ?_
    refine cj_iconst (v := 1) hC dX7_span_9 rfl ?_
    refine cj_icmp_ne (tgt := 17) hC dX7_span_10 (by decide) (fun c2 => ?_) (fun c2 => ?_)
    · replace h := cb_F c2 h
      refine cj_iconst (v := 1) hC dX7_span_17 rfl ?_
      obtain rfl := h
      exact cj_iret hC dX7_span_18
    · replace h := cb_T c2 h
      refine cj_iconst (v := 5) hC dX7_span_13 rfl ?_
      refine cj_goto (tgt := 18) hC dX7_span_14 (by decide) ?_
      obtain rfl := h
      exact cj_iret hC dX7_span_18
  · replace h := cb_T c1 h
    refine cj_iconst (v := 3) hC dX7_span_4 rfl ?_
    refine cj_goto (tgt := 18) hC dX7_span_5 (by decide) ?_
    obtain rfl := h
    exact cj_iret hC dX7_span_18
def f_X7_isRipe (p1 : Int32) (p2 : Int32) (M : cb_Mem) : Option (Int32) :=
  if cb_in p1 8 = true then
  if (M 12 p1.toNatClampNeg) = (-1) then
  some (0 : Int32)
  else
  if cb_in p1 8 = true then
  if cb_in p1 8 = true then
  if cb_in (2 * p1) 16 = true then
  cb_let (f_X7_span (M 7 (2 * p1).toNatClampNeg)) fun x1 =>
  cb_let (f_X7_in p2.toInt64 ((M 12 p1.toNatClampNeg).toInt64) ((((M 12 p1.toNatClampNeg) + x1) - 1).toInt64)) fun x2 =>
  if x2 = 0 then
  some (0 : Int32)
  else
  if cb_in p1 8 = true then
  cb_let (fun (_ : Unit) =>
  some (1 : Int32)) fun k1 =>
  if (M 13 p1.toNatClampNeg) = (-1) then
  k1 ()
  else
  if cb_in p1 8 = true then
  if (M 13 p1.toNatClampNeg) ≤ p2 then
  some (0 : Int32)
  else
  k1 ()
  else none
  else none
  else none
  else none
  else none
  else none
set_option maxRecDepth 100000 in
set_option maxHeartbeats 4000000 in
theorem c_X7_isRipe (l : Launch) (g : cb_Geo) (p1 : Int32) (p2 : Int32) (M : cb_Mem) {rr : Int32} (h : f_X7_isRipe p1 p2 M = some rr) : Met l yX7_isRipe (.code yX7_isRipe cX7_isRipe 3 (some .boolean) :: cb_ws) (cb_rm 1) (cb_Pc cy g [.ref (g.2.1 0), .int p1, .int p2] M) (cb_Qi cy g rr M) 0 0 (cb_A cy g) := by
  refine cb_met (by decide) wd_1091 (Nat.le_of_ble_eq_true rfl) (fun γ hC => ?_)
  replace hC : cb_C cy g γ RX7 cX7_isRipe 3 (some .boolean) 1 l (cb_Qi cy g rr M) := hC
  show cb_J cy g γ 3 M 0 [(0, .ref (g.2.1 0)), (1, .int p1), (2, .int p2)] []
  unfold f_X7_isRipe at h
  refine cj_aload_n hC dX7_isRipe_0 rfl 0 rfl ?_
  refine cj_get (v := .ref (g.2.1 12)) hC fa_X7_43 cy_l0_ (cy_e0 g _) rfl dX7_isRipe_1 ?_
  refine cj_iload_n hC dX7_isRipe_4 rfl 1 rfl ?_
  obtain ⟨i1, h⟩ := cb_g h
  refine cj_iald hC cy_l12_ (cy_e12 g _) (cy_t0 g) i1 dX7_isRipe_5 ?_
  refine cj_iconst (v := (-1)) hC dX7_isRipe_6 rfl ?_
  refine cj_icmp_eq (tgt := 70) hC dX7_isRipe_7 (by decide) (fun c1 => ?_) (fun c1 => ?_)
  · replace h := cb_T c1 h
    refine cj_iconst (v := 0) hC dX7_isRipe_70 rfl ?_
    obtain rfl := Option.some.inj h
    exact cj_zret hC (Or.inl rfl) dX7_isRipe_71
  · replace h := cb_F c1 h
    refine cj_iload_n hC dX7_isRipe_10 rfl 2 rfl ?_
    refine cj_i2l hC dX7_isRipe_11 ?_
    refine cj_aload_n hC dX7_isRipe_12 rfl 0 rfl ?_
    refine cj_get (v := .ref (g.2.1 12)) hC fa_X7_43 cy_l0_ (cy_e0 g _) rfl dX7_isRipe_13 ?_
    refine cj_iload_n hC dX7_isRipe_16 rfl 1 rfl ?_
    obtain ⟨i2, h⟩ := cb_g h
    refine cj_iald hC cy_l12_ (cy_e12 g _) (cy_t0 g) i2 dX7_isRipe_17 ?_
    refine cj_i2l hC dX7_isRipe_18 ?_
    refine cj_aload_n hC dX7_isRipe_19 rfl 0 rfl ?_
    refine cj_get (v := .ref (g.2.1 12)) hC fa_X7_43 cy_l0_ (cy_e0 g _) rfl dX7_isRipe_20 ?_
    refine cj_iload_n hC dX7_isRipe_23 rfl 1 rfl ?_
    obtain ⟨i3, h⟩ := cb_g h
    refine cj_iald hC cy_l12_ (cy_e12 g _) (cy_t0 g) i3 dX7_isRipe_24 ?_
    refine cj_aload_n hC dX7_isRipe_25 rfl 0 rfl ?_
    refine cj_get (v := .ref (g.2.1 7)) hC fa_X7_28 cy_l0_ (cy_e0 g _) rfl dX7_isRipe_26 ?_
    refine cj_iconst (v := 2) hC dX7_isRipe_29 rfl ?_
    refine cj_iload_n hC dX7_isRipe_30 rfl 1 rfl ?_
    refine cj_imul hC dX7_isRipe_31 ?_
    obtain ⟨i4, h⟩ := cb_g h
    refine cj_iald hC cy_l7_ (cy_e7 g _) (cy_t0 g) i4 dX7_isRipe_32 ?_
    obtain ⟨x1, e1, h⟩ := cb_l h
    refine cj_callSi (As := [.int (M 7 (2 * p1).toNatClampNeg)]) hC cs_X7_164 (c_X7_span l g (M 7 (2 * p1).toNatClampNeg) M e1.symm) (by decide) rfl rfl (Nat.le_of_ble_eq_true rfl) dX7_isRipe_33 ?_
    refine cj_iadd hC dX7_isRipe_36 ?_
    refine cj_iconst (v := 1) hC dX7_isRipe_37 rfl ?_
    refine cj_isub hC dX7_isRipe_38 ?_
    refine cj_i2l hC dX7_isRipe_39 ?_
    obtain ⟨x2, e2, h⟩ := cb_l h
    refine cj_callSi (As := [.long p2.toInt64, .long ((M 12 p1.toNatClampNeg).toInt64), .long ((((M 12 p1.toNatClampNeg) + x1) - 1).toInt64)]) hC cs_X7_79 (c_X7_in l g p2.toInt64 ((M 12 p1.toNatClampNeg).toInt64) ((((M 12 p1.toNatClampNeg) + x1) - 1).toInt64) M e2.symm) (by decide) rfl rfl (Nat.le_of_ble_eq_true rfl) dX7_isRipe_40 ?_
    refine cj_if_eq (tgt := 70) hC dX7_isRipe_43 (by decide) (fun c2 => ?_) (fun c2 => ?_)
    · replace h := cb_T c2 h
      refine cj_iconst (v := 0) hC dX7_isRipe_70 rfl ?_
      obtain rfl := Option.some.inj h
      exact cj_zret hC (Or.inl rfl) dX7_isRipe_71
    · replace h := cb_F c2 h
      refine cj_aload_n hC dX7_isRipe_46 rfl 0 rfl ?_
      refine cj_get (v := .ref (g.2.1 13)) hC fa_X7_46 cy_l0_ (cy_e0 g _) rfl dX7_isRipe_47 ?_
      refine cj_iload_n hC dX7_isRipe_50 rfl 1 rfl ?_
      obtain ⟨i5, h⟩ := cb_g h
      refine cj_iald hC cy_l13_ (cy_e13 g _) (cy_t0 g) i5 dX7_isRipe_51 ?_
      refine cj_iconst (v := (-1)) hC dX7_isRipe_52 rfl ?_
      obtain ⟨k1, ek1, h⟩ := cb_l h
      have hk1 : ∀ (u9 : Unit), k1 u9 = some rr → cb_J cy g γ 3 M 66 [] [] := by
        intro u9 h
        replace h := cb_k1 ek1 h
        refine cj_iconst (v := 1) hC dX7_isRipe_66 rfl ?_
        refine cj_goto (tgt := 71) hC dX7_isRipe_67 (by decide) ?_
        obtain rfl := Option.some.inj h
        exact cj_zret hC (Or.inr rfl) dX7_isRipe_71
      refine cj_icmp_eq (tgt := 66) hC dX7_isRipe_53 (by decide) (fun c3 => ?_) (fun c3 => ?_)
      · replace h := cb_T c3 h
        exact cj_pick [] rfl (hk1 _ h)
      · replace h := cb_F c3 h
        refine cj_iload_n hC dX7_isRipe_56 rfl 2 rfl ?_
        refine cj_aload_n hC dX7_isRipe_57 rfl 0 rfl ?_
        refine cj_get (v := .ref (g.2.1 13)) hC fa_X7_46 cy_l0_ (cy_e0 g _) rfl dX7_isRipe_58 ?_
        refine cj_iload_n hC dX7_isRipe_61 rfl 1 rfl ?_
        obtain ⟨i6, h⟩ := cb_g h
        refine cj_iald hC cy_l13_ (cy_e13 g _) (cy_t0 g) i6 dX7_isRipe_62 ?_
        refine cj_icmp_ge (tgt := 70) hC dX7_isRipe_63 (by decide) (fun c4 => ?_) (fun c4 => ?_)
        · replace h := cb_T c4 h
          refine cj_iconst (v := 0) hC dX7_isRipe_70 rfl ?_
          obtain rfl := Option.some.inj h
          exact cj_zret hC (Or.inl rfl) dX7_isRipe_71
        · replace h := cb_F c4 h
          exact cj_pick [] rfl (hk1 _ h)
def f_X7_wants (p1 : Int32) (p2 : Int32) (M : cb_Mem) : Option (Int32) :=
  if cb_in (3 * p1) 24 = true then
  cb_let (fun (_ : Unit) =>
  some (1 : Int32)) fun k1 =>
  if (M 8 (3 * p1).toNatClampNeg) = 3 then
  k1 ()
  else
  if cb_in (3 * p1) 24 = true then
  if cb_in (2 * p2) 16 = true then
  if (M 8 (3 * p1).toNatClampNeg) = (M 7 (2 * p2).toNatClampNeg) then
  k1 ()
  else
  some (0 : Int32)
  else none
  else none
  else none
set_option maxRecDepth 100000 in
set_option maxHeartbeats 4000000 in
theorem c_X7_wants (l : Launch) (g : cb_Geo) (p1 : Int32) (p2 : Int32) (M : cb_Mem) {rr : Int32} (h : f_X7_wants p1 p2 M = some rr) : Met l yX7_wants (.code yX7_wants cX7_wants 3 (some .boolean) :: cb_ws) (cb_rm 0) (cb_Pc cy g [.ref (g.2.1 0), .int p1, .int p2] M) (cb_Qi cy g rr M) 0 0 (cb_A cy g) := by
  refine cb_met (by decide) wd_1087 (Nat.le_of_ble_eq_true rfl) (fun γ hC => ?_)
  replace hC : cb_C cy g γ RX7 cX7_wants 3 (some .boolean) 0 l (cb_Qi cy g rr M) := hC
  show cb_J cy g γ 3 M 0 [(0, .ref (g.2.1 0)), (1, .int p1), (2, .int p2)] []
  unfold f_X7_wants at h
  refine cj_aload_n hC dX7_wants_0 rfl 0 rfl ?_
  refine cj_get (v := .ref (g.2.1 8)) hC fa_X7_31 cy_l0_ (cy_e0 g _) rfl dX7_wants_1 ?_
  refine cj_iconst (v := 3) hC dX7_wants_4 rfl ?_
  refine cj_iload_n hC dX7_wants_5 rfl 1 rfl ?_
  refine cj_imul hC dX7_wants_6 ?_
  obtain ⟨i1, h⟩ := cb_g h
  refine cj_iald hC cy_l8_ (cy_e8 g _) (cy_t0 g) i1 dX7_wants_7 ?_
  refine cj_iconst (v := 3) hC dX7_wants_8 rfl ?_
  obtain ⟨k1, ek1, h⟩ := cb_l h
  have hk1 : ∀ (u9 : Unit), k1 u9 = some rr → cb_J cy g γ 3 M 31 [] [] := by
    intro u9 h
    replace h := cb_k1 ek1 h
    refine cj_iconst (v := 1) hC dX7_wants_31 rfl ?_
    refine cj_goto (tgt := 36) hC dX7_wants_32 (by decide) ?_
    obtain rfl := Option.some.inj h
    exact cj_zret hC (Or.inr rfl) dX7_wants_36
  refine cj_icmp_eq (tgt := 31) hC dX7_wants_9 (by decide) (fun c1 => ?_) (fun c1 => ?_)
  · replace h := cb_T c1 h
    exact cj_pick [] rfl (hk1 _ h)
  · replace h := cb_F c1 h
    refine cj_aload_n hC dX7_wants_12 rfl 0 rfl ?_
    refine cj_get (v := .ref (g.2.1 8)) hC fa_X7_31 cy_l0_ (cy_e0 g _) rfl dX7_wants_13 ?_
    refine cj_iconst (v := 3) hC dX7_wants_16 rfl ?_
    refine cj_iload_n hC dX7_wants_17 rfl 1 rfl ?_
    refine cj_imul hC dX7_wants_18 ?_
    obtain ⟨i2, h⟩ := cb_g h
    refine cj_iald hC cy_l8_ (cy_e8 g _) (cy_t0 g) i2 dX7_wants_19 ?_
    refine cj_aload_n hC dX7_wants_20 rfl 0 rfl ?_
    refine cj_get (v := .ref (g.2.1 7)) hC fa_X7_28 cy_l0_ (cy_e0 g _) rfl dX7_wants_21 ?_
    refine cj_iconst (v := 2) hC dX7_wants_24 rfl ?_
    refine cj_iload_n hC dX7_wants_25 rfl 2 rfl ?_
    refine cj_imul hC dX7_wants_26 ?_
    obtain ⟨i3, h⟩ := cb_g h
    refine cj_iald hC cy_l7_ (cy_e7 g _) (cy_t0 g) i3 dX7_wants_27 ?_
    refine cj_icmp_ne (tgt := 35) hC dX7_wants_28 (by decide) (fun c2 => ?_) (fun c2 => ?_)
    · replace h := cb_F c2 h
      refine cj_iconst (v := 0) hC dX7_wants_35 rfl ?_
      obtain rfl := Option.some.inj h
      exact cj_zret hC (Or.inl rfl) dX7_wants_36
    · replace h := cb_T c2 h
      exact cj_pick [] rfl (hk1 _ h)
def f_X7_comes (p1 : Int32) (p2 : Int32) (M : cb_Mem) : Option (Int32) :=
  if cb_in ((3 * p1) + 1) 24 = true then
  if cb_in ((3 * p1) + 1) 24 = true then
  if cb_in ((3 * p1) + 2) 24 = true then
  cb_let (f_X7_in p2.toInt64 ((M 8 ((3 * p1) + 1).toNatClampNeg).toInt64) ((((M 8 ((3 * p1) + 1).toNatClampNeg) + (M 8 ((3 * p1) + 2).toNatClampNeg)) - 1).toInt64)) fun x1 =>
  some (x1 &&& 1)
  else none
  else none
  else none
set_option maxRecDepth 100000 in
set_option maxHeartbeats 4000000 in
theorem c_X7_comes (l : Launch) (g : cb_Geo) (p1 : Int32) (p2 : Int32) (M : cb_Mem) {rr : Int32} (h : f_X7_comes p1 p2 M = some rr) : Met l yX7_comes (.code yX7_comes cX7_comes 3 (some .boolean) :: cb_ws) (cb_rm 1) (cb_Pc cy g [.ref (g.2.1 0), .int p1, .int p2] M) (cb_Qi cy g rr M) 0 0 (cb_A cy g) := by
  refine cb_met (by decide) wd_1079 (Nat.le_of_ble_eq_true rfl) (fun γ hC => ?_)
  replace hC : cb_C cy g γ RX7 cX7_comes 3 (some .boolean) 1 l (cb_Qi cy g rr M) := hC
  show cb_J cy g γ 3 M 0 [(0, .ref (g.2.1 0)), (1, .int p1), (2, .int p2)] []
  unfold f_X7_comes at h
  refine cj_iload_n hC dX7_comes_0 rfl 2 rfl ?_
  refine cj_i2l hC dX7_comes_1 ?_
  refine cj_aload_n hC dX7_comes_2 rfl 0 rfl ?_
  refine cj_get (v := .ref (g.2.1 8)) hC fa_X7_31 cy_l0_ (cy_e0 g _) rfl dX7_comes_3 ?_
  refine cj_iconst (v := 3) hC dX7_comes_6 rfl ?_
  refine cj_iload_n hC dX7_comes_7 rfl 1 rfl ?_
  refine cj_imul hC dX7_comes_8 ?_
  refine cj_iconst (v := 1) hC dX7_comes_9 rfl ?_
  refine cj_iadd hC dX7_comes_10 ?_
  obtain ⟨i1, h⟩ := cb_g h
  refine cj_iald hC cy_l8_ (cy_e8 g _) (cy_t0 g) i1 dX7_comes_11 ?_
  refine cj_i2l hC dX7_comes_12 ?_
  refine cj_aload_n hC dX7_comes_13 rfl 0 rfl ?_
  refine cj_get (v := .ref (g.2.1 8)) hC fa_X7_31 cy_l0_ (cy_e0 g _) rfl dX7_comes_14 ?_
  refine cj_iconst (v := 3) hC dX7_comes_17 rfl ?_
  refine cj_iload_n hC dX7_comes_18 rfl 1 rfl ?_
  refine cj_imul hC dX7_comes_19 ?_
  refine cj_iconst (v := 1) hC dX7_comes_20 rfl ?_
  refine cj_iadd hC dX7_comes_21 ?_
  obtain ⟨i2, h⟩ := cb_g h
  refine cj_iald hC cy_l8_ (cy_e8 g _) (cy_t0 g) i2 dX7_comes_22 ?_
  refine cj_aload_n hC dX7_comes_23 rfl 0 rfl ?_
  refine cj_get (v := .ref (g.2.1 8)) hC fa_X7_31 cy_l0_ (cy_e0 g _) rfl dX7_comes_24 ?_
  refine cj_iconst (v := 3) hC dX7_comes_27 rfl ?_
  refine cj_iload_n hC dX7_comes_28 rfl 1 rfl ?_
  refine cj_imul hC dX7_comes_29 ?_
  refine cj_iconst (v := 2) hC dX7_comes_30 rfl ?_
  refine cj_iadd hC dX7_comes_31 ?_
  obtain ⟨i3, h⟩ := cb_g h
  refine cj_iald hC cy_l8_ (cy_e8 g _) (cy_t0 g) i3 dX7_comes_32 ?_
  refine cj_iadd hC dX7_comes_33 ?_
  refine cj_iconst (v := 1) hC dX7_comes_34 rfl ?_
  refine cj_isub hC dX7_comes_35 ?_
  refine cj_i2l hC dX7_comes_36 ?_
  obtain ⟨x1, e1, h⟩ := cb_l h
  refine cj_callSi (As := [.long p2.toInt64, .long ((M 8 ((3 * p1) + 1).toNatClampNeg).toInt64), .long ((((M 8 ((3 * p1) + 1).toNatClampNeg) + (M 8 ((3 * p1) + 2).toNatClampNeg)) - 1).toInt64)]) hC cs_X7_79 (c_X7_in l g p2.toInt64 ((M 8 ((3 * p1) + 1).toNatClampNeg).toInt64) ((((M 8 ((3 * p1) + 1).toNatClampNeg) + (M 8 ((3 * p1) + 2).toNatClampNeg)) - 1).toInt64) M e1.symm) (by decide) rfl rfl (Nat.le_of_ble_eq_true rfl) dX7_comes_37 ?_
  obtain rfl := Option.some.inj h
  exact cj_zret2 hC dX7_comes_40
def f_X7_lifts_L3 : Nat → Int32 → Int32 → Int32 → Int32 → cb_Mem → Option (cb_Mem)
    | 0, _, _, _, _, _ => none
    | n + 1, v1, v2, v3, v4, M =>
      if (M 0 9) ≤ v4 then
      some M
      else
      Option.bind (if v4 = v1 then
      some (0 : Int32)
      else
      if (M 0 24) = (-1) then
      (f_X7_wants v4 v2 M).bind fun x2 =>
      if x2 = 0 then
      some (0 : Int32)
      else
      (f_X7_comes v4 v3 M).bind fun x3 =>
      if x3 = 0 then
      some (0 : Int32)
      else
      if cb_in v4 8 = true then
      if (M 16 v4.toNatClampNeg) = (-1) then
      if cb_in ((3 * v4) + 1) 24 = true then
      if cb_in ((3 * v1) + 1) 24 = true then
      if (M 8 ((3 * v1) + 1).toNatClampNeg) ≤ (M 8 ((3 * v4) + 1).toNatClampNeg) then
      some (0 : Int32)
      else
      some (1 : Int32)
      else none
      else none
      else
      some (0 : Int32)
      else none
      else
      some (0 : Int32)) fun x1 =>
      cb_let (if x1 = 0 then
      (M 0 24)
      else
      v1) fun x4 =>
      cb_let (cb_up M 0 24 x4) fun M1 =>
      cb_let (if x1 = 0 then
      (M1 0 25)
      else
      v3) fun x5 =>
      cb_let (cb_up M1 0 25 x5) fun M2 =>
      f_X7_lifts_L3 n v1 v2 v3 (v4 + 1) M2
def f_X7_lifts (p1 : Int32) (p2 : Int32) (p3 : Int32) (M : cb_Mem) : Option (cb_Mem) :=
  (f_X7_lifts_L3 cb_fuel p1 p2 p3 0 M).bind fun M1 =>
  if cb_in p2 8 = true then
  cb_let (cb_up M1 14 p2.toNatClampNeg p1) fun M2 =>
  if cb_in p2 8 = true then
  cb_let (cb_up M2 15 p2.toNatClampNeg p3) fun M3 =>
  if cb_in p1 8 = true then
  cb_let (cb_up M3 16 p1.toNatClampNeg p2) fun M4 =>
  if cb_in p1 8 = true then
  cb_let (cb_up M4 17 p1.toNatClampNeg p3) fun M5 =>
  (f_X7_isSo 1 p3 M5).bind fun x1 =>
  cb_let (if x1 = 0 then
  (1 : Int32)
  else
  (2 : Int32)) fun x2 =>
  if cb_in p1 8 = true then
  cb_let (cb_up M5 18 p1.toNatClampNeg x2) fun M6 =>
  some M6
  else none
  else none
  else none
  else none
  else none
set_option maxRecDepth 100000 in
set_option maxHeartbeats 4000000 in
theorem l_X7_lifts_L3 {l : Launch} {g : cb_Geo} {γ : cb_Gam} {Mr : cb_Mem} (hC : cb_C cy g γ RX7 cX7_lifts 6 none 2 l (cb_Qv cy g Mr)) (v1 : Int32) (v2 : Int32) (v3 : Int32) : ∀ (n : Nat) (v4 : Int32) (M : cb_Mem) (o : (cb_Mem)), f_X7_lifts_L3 n v1 v2 v3 v4 M = some o → (∀ (M' : cb_Mem), o = M' → cb_J cy g γ 6 M' 128 [(0, .ref (g.2.1 0)), (1, .int v1), (2, .int v2), (3, .int v3)] []) → cb_J cy g γ 6 M 3 [(0, .ref (g.2.1 0)), (1, .int v1), (2, .int v2), (3, .int v3), (4, .int v4)] [] := by
  intro n
  induction n with
  | zero =>
    intro v4 M o h
    cases h
  | succ n ih =>
    intro v4 M o h hexit
    unfold f_X7_lifts_L3 at h
    refine cj_iload hC dX7_lifts_3 4 rfl ?_
    refine cj_aload_n hC dX7_lifts_5 rfl 0 rfl ?_
    refine cj_get (v := .int (M 0 9)) hC fa_X7_124 cy_l0_ (cy_e0 g _) rfl dX7_lifts_6 ?_
    refine cj_icmp_ge (tgt := 128) hC dX7_lifts_9 (by decide) (fun c1 => ?_) (fun c1 => ?_)
    · replace h := cb_T c1 h
      obtain rfl := Option.some.inj h
      exact cj_pick [0, 1, 2, 3] rfl (hexit _ rfl)
    · replace h := cb_F c1 h
      refine cj_iload hC dX7_lifts_12 4 rfl ?_
      refine cj_iload_n hC dX7_lifts_14 rfl 1 rfl ?_
      obtain ⟨x1, hx1, h⟩ := cb_b h
      have hj1 : cb_J cy g γ 6 M 86 [(0, .ref (g.2.1 0)), (1, .int v1), (2, .int v2), (3, .int v3), (4, .int v4)] [.int x1] := by
        refine cj_istore (lv' := [(5, .int x1), (0, .ref (g.2.1 0)), (1, .int v1), (2, .int v2), (3, .int v3), (4, .int v4)]) hC dX7_lifts_86 (by decide) rfl ?_
        refine cj_aload_n hC dX7_lifts_88 rfl 1 rfl ?_
        refine cj_iload hC dX7_lifts_89 0 rfl ?_
        obtain ⟨x4, hx2, h⟩ := cb_l h
        replace hx2 := hx2.symm
        have hj2 : cb_J cy g γ 6 M 102 [(0, .ref (g.2.1 0)), (1, .int v1), (2, .int v2), (3, .int v3), (4, .int v4), (5, .int x1)] [.int x4, .ref (g.2.1 0)] := by
          obtain ⟨M1, eM1, h⟩ := cb_l h
          refine cj_put hC fp_X7_167 cy_l0_ (cy_e0 g _) rfl (Nat.le_of_ble_eq_true rfl) eM1 dX7_lifts_102 ?_
          refine cj_aload_n hC dX7_lifts_105 rfl 0 rfl ?_
          refine cj_iload hC dX7_lifts_106 5 rfl ?_
          obtain ⟨x5, hx3, h⟩ := cb_l h
          replace hx3 := hx3.symm
          have hj3 : cb_J cy g γ 6 M1 119 [(0, .ref (g.2.1 0)), (1, .int v1), (2, .int v2), (3, .int v3), (4, .int v4)] [.int x5, .ref (g.2.1 0)] := by
            obtain ⟨M2, eM2, h⟩ := cb_l h
            refine cj_put hC fp_X7_176 cy_l0_ (cy_e0 g _) rfl (Nat.le_of_ble_eq_true rfl) eM2 dX7_lifts_119 ?_
            refine cj_iinc (lv' := [(4, .int (v4 + 1)), (0, .ref (g.2.1 0)), (1, .int v1), (2, .int v2), (3, .int v3)]) hC dX7_lifts_122 (q := 4) rfl rfl (by decide) rfl ?_
            refine cj_goto (tgt := 3) hC dX7_lifts_125 (by decide) ?_
            exact cj_pick [1, 2, 3, 4, 0] rfl (ih _ _ _ h hexit)
          refine cj_if_eq (tgt := 115) hC dX7_lifts_108 (by decide) (fun c9 => ?_) (fun c9 => ?_)
          · replace hx3 := cb_T c9 hx3
            refine cj_aload_n hC dX7_lifts_115 rfl 0 rfl ?_
            refine cj_get (v := .int (M1 0 25)) hC fa_X7_176 cy_l0_ (cy_e0 g _) rfl dX7_lifts_116 ?_
            obtain rfl := hx3
            exact cj_pick [0, 1, 2, 3, 4] rfl hj3
          · replace hx3 := cb_F c9 hx3
            refine cj_iload_n hC dX7_lifts_111 rfl 3 rfl ?_
            refine cj_goto (tgt := 119) hC dX7_lifts_112 (by decide) ?_
            obtain rfl := hx3
            exact cj_pick [0, 1, 2, 3, 4] rfl hj3
        refine cj_if_eq (tgt := 98) hC dX7_lifts_91 (by decide) (fun c8 => ?_) (fun c8 => ?_)
        · replace hx2 := cb_T c8 hx2
          refine cj_aload_n hC dX7_lifts_98 rfl 1 rfl ?_
          refine cj_get (v := .int (M 0 24)) hC fa_X7_167 cy_l0_ (cy_e0 g _) rfl dX7_lifts_99 ?_
          obtain rfl := hx2
          exact cj_pick [1, 2, 3, 4, 5, 0] rfl hj2
        · replace hx2 := cb_F c8 hx2
          refine cj_iload_n hC dX7_lifts_94 rfl 2 rfl ?_
          refine cj_goto (tgt := 102) hC dX7_lifts_95 (by decide) ?_
          obtain rfl := hx2
          exact cj_pick [1, 2, 3, 4, 5, 0] rfl hj2
      refine cj_icmp_eq (tgt := 85) hC dX7_lifts_15 (by decide) (fun c2 => ?_) (fun c2 => ?_)
      · replace hx1 := cb_T c2 hx1
        refine cj_iconst (v := 0) hC dX7_lifts_85 rfl ?_
        obtain rfl := Option.some.inj hx1
        exact cj_pick [0, 1, 2, 3, 4] rfl hj1
      · replace hx1 := cb_F c2 hx1
        refine cj_aload_n hC dX7_lifts_18 rfl 0 rfl ?_
        refine cj_get (v := .int (M 0 24)) hC fa_X7_167 cy_l0_ (cy_e0 g _) rfl dX7_lifts_19 ?_
        refine cj_iconst (v := (-1)) hC dX7_lifts_22 rfl ?_
        refine cj_icmp_ne (tgt := 85) hC dX7_lifts_23 (by decide) (fun c3 => ?_) (fun c3 => ?_)
        · replace hx1 := cb_F c3 hx1
          refine cj_iconst (v := 0) hC dX7_lifts_85 rfl ?_
          obtain rfl := Option.some.inj hx1
          exact cj_pick [0, 1, 2, 3, 4] rfl hj1
        · replace hx1 := cb_T c3 hx1
          refine cj_aload_n hC dX7_lifts_26 rfl 0 rfl ?_
          refine cj_iload hC dX7_lifts_27 4 rfl ?_
          refine cj_iload_n hC dX7_lifts_29 rfl 2 rfl ?_
          obtain ⟨x2, e1, hx1⟩ := cb_b hx1
          refine cj_callVi (As := [.int v4, .int v2]) hC cv_X7_170 cy_l0_ (cy_e0 g _) rfl (c_X7_wants l g v4 v2 M e1) (by decide) rfl rfl (Nat.le_of_ble_eq_true rfl) dX7_lifts_30 ?_
          refine cj_if_eq (tgt := 85) hC dX7_lifts_33 (by decide) (fun c4 => ?_) (fun c4 => ?_)
          · replace hx1 := cb_T c4 hx1
            refine cj_iconst (v := 0) hC dX7_lifts_85 rfl ?_
            obtain rfl := Option.some.inj hx1
            exact cj_pick [0, 1, 2, 3, 4] rfl hj1
          · replace hx1 := cb_F c4 hx1
            refine cj_aload_n hC dX7_lifts_36 rfl 0 rfl ?_
            refine cj_iload hC dX7_lifts_37 4 rfl ?_
            refine cj_iload_n hC dX7_lifts_39 rfl 3 rfl ?_
            obtain ⟨x3, e2, hx1⟩ := cb_b hx1
            refine cj_callVi (As := [.int v4, .int v3]) hC cv_X7_173 cy_l0_ (cy_e0 g _) rfl (c_X7_comes l g v4 v3 M e2) (by decide) rfl rfl (Nat.le_of_ble_eq_true rfl) dX7_lifts_40 ?_
            refine cj_if_eq (tgt := 85) hC dX7_lifts_43 (by decide) (fun c5 => ?_) (fun c5 => ?_)
            · replace hx1 := cb_T c5 hx1
              refine cj_iconst (v := 0) hC dX7_lifts_85 rfl ?_
              obtain rfl := Option.some.inj hx1
              exact cj_pick [0, 1, 2, 3, 4] rfl hj1
            · replace hx1 := cb_F c5 hx1
              refine cj_aload_n hC dX7_lifts_46 rfl 0 rfl ?_
              refine cj_get (v := .ref (g.2.1 16)) hC fa_X7_55 cy_l0_ (cy_e0 g _) rfl dX7_lifts_47 ?_
              refine cj_iload hC dX7_lifts_50 4 rfl ?_
              obtain ⟨i1, hx1⟩ := cb_g hx1
              refine cj_iald hC cy_l16_ (cy_e16 g _) (cy_t0 g) i1 dX7_lifts_52 ?_
              refine cj_iconst (v := (-1)) hC dX7_lifts_53 rfl ?_
              refine cj_icmp_ne (tgt := 85) hC dX7_lifts_54 (by decide) (fun c6 => ?_) (fun c6 => ?_)
              · replace hx1 := cb_F c6 hx1
                refine cj_iconst (v := 0) hC dX7_lifts_85 rfl ?_
                obtain rfl := Option.some.inj hx1
                exact cj_pick [0, 1, 2, 3, 4] rfl hj1
              · replace hx1 := cb_T c6 hx1
                refine cj_aload_n hC dX7_lifts_57 rfl 0 rfl ?_
                refine cj_get (v := .ref (g.2.1 8)) hC fa_X7_31 cy_l0_ (cy_e0 g _) rfl dX7_lifts_58 ?_
                refine cj_iconst (v := 3) hC dX7_lifts_61 rfl ?_
                refine cj_iload hC dX7_lifts_62 4 rfl ?_
                refine cj_imul hC dX7_lifts_64 ?_
                refine cj_iconst (v := 1) hC dX7_lifts_65 rfl ?_
                refine cj_iadd hC dX7_lifts_66 ?_
                obtain ⟨i2, hx1⟩ := cb_g hx1
                refine cj_iald hC cy_l8_ (cy_e8 g _) (cy_t0 g) i2 dX7_lifts_67 ?_
                refine cj_aload_n hC dX7_lifts_68 rfl 0 rfl ?_
                refine cj_get (v := .ref (g.2.1 8)) hC fa_X7_31 cy_l0_ (cy_e0 g _) rfl dX7_lifts_69 ?_
                refine cj_iconst (v := 3) hC dX7_lifts_72 rfl ?_
                refine cj_iload_n hC dX7_lifts_73 rfl 1 rfl ?_
                refine cj_imul hC dX7_lifts_74 ?_
                refine cj_iconst (v := 1) hC dX7_lifts_75 rfl ?_
                refine cj_iadd hC dX7_lifts_76 ?_
                obtain ⟨i3, hx1⟩ := cb_g hx1
                refine cj_iald hC cy_l8_ (cy_e8 g _) (cy_t0 g) i3 dX7_lifts_77 ?_
                refine cj_icmp_ge (tgt := 85) hC dX7_lifts_78 (by decide) (fun c7 => ?_) (fun c7 => ?_)
                · replace hx1 := cb_T c7 hx1
                  refine cj_iconst (v := 0) hC dX7_lifts_85 rfl ?_
                  obtain rfl := Option.some.inj hx1
                  exact cj_pick [0, 1, 2, 3, 4] rfl hj1
                · replace hx1 := cb_F c7 hx1
                  refine cj_iconst (v := 1) hC dX7_lifts_81 rfl ?_
                  refine cj_goto (tgt := 86) hC dX7_lifts_82 (by decide) ?_
                  obtain rfl := Option.some.inj hx1
                  exact cj_pick [0, 1, 2, 3, 4] rfl hj1
set_option maxRecDepth 100000 in
set_option maxHeartbeats 4000000 in
theorem c_X7_lifts (l : Launch) (g : cb_Geo) (p1 : Int32) (p2 : Int32) (p3 : Int32) (M : cb_Mem) {Mr : cb_Mem} (h : f_X7_lifts p1 p2 p3 M = some Mr) : Met l yX7_lifts (.code yX7_lifts cX7_lifts 6 none :: cb_ws) (cb_rm 2) (cb_Pc cy g [.ref (g.2.1 0), .int p1, .int p2, .int p3] M) (cb_Qv cy g Mr) 0 0 (cb_A cy g) := by
  refine cb_met (by decide) wd_1098 (Nat.le_of_ble_eq_true rfl) (fun γ hC => ?_)
  replace hC : cb_C cy g γ RX7 cX7_lifts 6 none 2 l (cb_Qv cy g Mr) := hC
  show cb_J cy g γ 6 M 0 [(0, .ref (g.2.1 0)), (1, .int p1), (2, .int p2), (3, .int p3)] []
  unfold f_X7_lifts at h
  refine cj_iconst (v := 0) hC dX7_lifts_0 rfl ?_
  refine cj_istore (lv' := [(4, .int 0), (0, .ref (g.2.1 0)), (1, .int p1), (2, .int p2), (3, .int p3)]) hC dX7_lifts_1 (by decide) rfl ?_
  obtain ⟨M1, e1, h⟩ := cb_b h
  refine cj_pick [1, 2, 3, 4, 0] rfl ?_
  refine l_X7_lifts_L3 hC p1 p2 p3 cb_fuel _ _ _ e1 (fun ze1 hz => ?_)
  obtain rfl := hz
  refine cj_aload_n hC dX7_lifts_128 rfl 0 rfl ?_
  refine cj_get (v := .ref (g.2.1 14)) hC fa_X7_49 cy_l0_ (cy_e0 g _) rfl dX7_lifts_129 ?_
  refine cj_iload_n hC dX7_lifts_132 rfl 2 rfl ?_
  refine cj_iload_n hC dX7_lifts_133 rfl 1 rfl ?_
  obtain ⟨i1, h⟩ := cb_g h
  obtain ⟨M2, eM2, h⟩ := cb_l h
  refine cj_iast hC cy_l14_ (cy_e14 g) (cy_t0 g) i1 eM2 dX7_lifts_134 ?_
  refine cj_aload_n hC dX7_lifts_135 rfl 0 rfl ?_
  refine cj_get (v := .ref (g.2.1 15)) hC fa_X7_52 cy_l0_ (cy_e0 g _) rfl dX7_lifts_136 ?_
  refine cj_iload_n hC dX7_lifts_139 rfl 2 rfl ?_
  refine cj_iload_n hC dX7_lifts_140 rfl 3 rfl ?_
  obtain ⟨i2, h⟩ := cb_g h
  obtain ⟨M3, eM3, h⟩ := cb_l h
  refine cj_iast hC cy_l15_ (cy_e15 g) (cy_t0 g) i2 eM3 dX7_lifts_141 ?_
  refine cj_aload_n hC dX7_lifts_142 rfl 0 rfl ?_
  refine cj_get (v := .ref (g.2.1 16)) hC fa_X7_55 cy_l0_ (cy_e0 g _) rfl dX7_lifts_143 ?_
  refine cj_iload_n hC dX7_lifts_146 rfl 1 rfl ?_
  refine cj_iload_n hC dX7_lifts_147 rfl 2 rfl ?_
  obtain ⟨i3, h⟩ := cb_g h
  obtain ⟨M4, eM4, h⟩ := cb_l h
  refine cj_iast hC cy_l16_ (cy_e16 g) (cy_t0 g) i3 eM4 dX7_lifts_148 ?_
  refine cj_aload_n hC dX7_lifts_149 rfl 0 rfl ?_
  refine cj_get (v := .ref (g.2.1 17)) hC fa_X7_58 cy_l0_ (cy_e0 g _) rfl dX7_lifts_150 ?_
  refine cj_iload_n hC dX7_lifts_153 rfl 1 rfl ?_
  refine cj_iload_n hC dX7_lifts_154 rfl 3 rfl ?_
  obtain ⟨i4, h⟩ := cb_g h
  obtain ⟨M5, eM5, h⟩ := cb_l h
  refine cj_iast hC cy_l17_ (cy_e17 g) (cy_t0 g) i4 eM5 dX7_lifts_155 ?_
  refine cj_aload_n hC dX7_lifts_156 rfl 0 rfl ?_
  refine cj_get (v := .ref (g.2.1 18)) hC fa_X7_61 cy_l0_ (cy_e0 g _) rfl dX7_lifts_157 ?_
  refine cj_iload_n hC dX7_lifts_160 rfl 1 rfl ?_
  refine cj_aload_n hC dX7_lifts_161 rfl 0 rfl ?_
  refine cj_iconst (v := 1) hC dX7_lifts_162 rfl ?_
  refine cj_iload_n hC dX7_lifts_163 rfl 3 rfl ?_
  obtain ⟨x1, e2, h⟩ := cb_b h
  refine cj_callVi (As := [.int 1, .int p3]) hC cv_X7_158 cy_l0_ (cy_e0 g _) rfl (c_X7_isSo l g 1 p3 M5 e2) (by decide) rfl rfl (Nat.le_of_ble_eq_true rfl) dX7_lifts_164 ?_
  obtain ⟨x2, hx1, h⟩ := cb_l h
  replace hx1 := hx1.symm
  have hj1 : cb_J cy g γ 6 M5 175 [] [.int x2, .int p1, .ref (g.2.1 18)] := by
    obtain ⟨i5, h⟩ := cb_g h
    obtain ⟨M6, eM6, h⟩ := cb_l h
    refine cj_iast hC cy_l18_ (cy_e18 g) (cy_t0 g) i5 eM6 dX7_lifts_175 ?_
    obtain rfl := Option.some.inj h
    exact cj_vret hC dX7_lifts_176
  refine cj_if_eq (tgt := 174) hC dX7_lifts_167 (by decide) (fun c1 => ?_) (fun c1 => ?_)
  · replace hx1 := cb_T c1 hx1
    refine cj_iconst (v := 1) hC dX7_lifts_174 rfl ?_
    obtain rfl := hx1
    exact cj_pick [] rfl hj1
  · replace hx1 := cb_F c1 hx1
    refine cj_iconst (v := 2) hC dX7_lifts_170 rfl ?_
    refine cj_goto (tgt := 175) hC dX7_lifts_171 (by decide) ?_
    obtain rfl := hx1
    exact cj_pick [] rfl hj1
def f_X7_dawn_L2 : Nat → Int32 → Int32 → Int32 → cb_Mem → Option (cb_Mem)
    | 0, _, _, _, _ => none
    | n + 1, v1, v2, v3, M =>
      if (M 0 7) ≤ v3 then
      some M
      else
      if cb_in v1 8 = true then
      if (M 16 v1.toNatClampNeg) = (-1) then
      if cb_in v3 8 = true then
      Option.bind (if (M 14 v3.toNatClampNeg) = (-1) then
      (f_X7_wants v1 v3 M).bind fun x1 =>
      if x1 = 0 then
      some M
      else
      (f_X7_isRipe v3 v2 M).bind fun x2 =>
      if x2 = 0 then
      some M
      else
      (f_X7_lifts v1 v3 v2 M).bind fun M2 =>
      some M2
      else
      some M) fun M1 =>
      f_X7_dawn_L2 n v1 v2 (v3 + 1) M1
      else none
      else
      some M
      else none
def f_X7_dawn (p1 : Int32) (p2 : Int32) (M : cb_Mem) : Option (cb_Mem) :=
  (f_X7_dawn_L2 cb_fuel p1 p2 0 M).bind fun M1 =>
  some M1
set_option maxRecDepth 100000 in
set_option maxHeartbeats 4000000 in
theorem l_X7_dawn_L2 {l : Launch} {g : cb_Geo} {γ : cb_Gam} {Mr : cb_Mem} (hC : cb_C cy g γ RX7 cX7_dawn 4 none 3 l (cb_Qv cy g Mr)) (v1 : Int32) (v2 : Int32) : ∀ (n : Nat) (v3 : Int32) (M : cb_Mem) (o : (cb_Mem)), f_X7_dawn_L2 n v1 v2 v3 M = some o → (∀ (M' : cb_Mem), o = M' → cb_J cy g γ 4 M' 61 [] []) → cb_J cy g γ 4 M 2 [(0, .ref (g.2.1 0)), (1, .int v1), (2, .int v2), (3, .int v3)] [] := by
  intro n
  induction n with
  | zero =>
    intro v3 M o h
    cases h
  | succ n ih =>
    intro v3 M o h hexit
    unfold f_X7_dawn_L2 at h
    refine cj_iload_n hC dX7_dawn_2 rfl 3 rfl ?_
    refine cj_aload_n hC dX7_dawn_3 rfl 0 rfl ?_
    refine cj_get (v := .int (M 0 7)) hC fa_X7_118 cy_l0_ (cy_e0 g _) rfl dX7_dawn_4 ?_
    refine cj_icmp_ge (tgt := 61) hC dX7_dawn_7 (by decide) (fun c1 => ?_) (fun c1 => ?_)
    · replace h := cb_T c1 h
      obtain rfl := Option.some.inj h
      exact cj_pick [] rfl (hexit _ rfl)
    · replace h := cb_F c1 h
      refine cj_aload_n hC dX7_dawn_10 rfl 0 rfl ?_
      refine cj_get (v := .ref (g.2.1 16)) hC fa_X7_55 cy_l0_ (cy_e0 g _) rfl dX7_dawn_11 ?_
      refine cj_iload_n hC dX7_dawn_14 rfl 1 rfl ?_
      obtain ⟨i1, h⟩ := cb_g h
      refine cj_iald hC cy_l16_ (cy_e16 g _) (cy_t0 g) i1 dX7_dawn_15 ?_
      refine cj_iconst (v := (-1)) hC dX7_dawn_16 rfl ?_
      refine cj_icmp_ne (tgt := 61) hC dX7_dawn_17 (by decide) (fun c2 => ?_) (fun c2 => ?_)
      · replace h := cb_F c2 h
        obtain rfl := Option.some.inj h
        exact cj_pick [] rfl (hexit _ rfl)
      · replace h := cb_T c2 h
        refine cj_aload_n hC dX7_dawn_20 rfl 0 rfl ?_
        refine cj_get (v := .ref (g.2.1 14)) hC fa_X7_49 cy_l0_ (cy_e0 g _) rfl dX7_dawn_21 ?_
        refine cj_iload_n hC dX7_dawn_24 rfl 3 rfl ?_
        obtain ⟨i2, h⟩ := cb_g h
        refine cj_iald hC cy_l14_ (cy_e14 g _) (cy_t0 g) i2 dX7_dawn_25 ?_
        refine cj_iconst (v := (-1)) hC dX7_dawn_26 rfl ?_
        obtain ⟨M1, hx1, h⟩ := cb_b h
        have hj1 : cb_J cy g γ 4 M1 55 [(0, .ref (g.2.1 0)), (1, .int v1), (2, .int v2), (3, .int v3)] [] := by
          refine cj_iinc (lv' := [(3, .int (v3 + 1)), (0, .ref (g.2.1 0)), (1, .int v1), (2, .int v2)]) hC dX7_dawn_55 (q := 3) rfl rfl (by decide) rfl ?_
          refine cj_goto (tgt := 2) hC dX7_dawn_58 (by decide) ?_
          exact cj_pick [1, 2, 3, 0] rfl (ih _ _ _ h hexit)
        refine cj_icmp_ne (tgt := 55) hC dX7_dawn_27 (by decide) (fun c3 => ?_) (fun c3 => ?_)
        · replace hx1 := cb_F c3 hx1
          obtain rfl := Option.some.inj hx1
          exact cj_pick [0, 1, 2, 3] rfl hj1
        · replace hx1 := cb_T c3 hx1
          refine cj_aload_n hC dX7_dawn_30 rfl 0 rfl ?_
          refine cj_iload_n hC dX7_dawn_31 rfl 1 rfl ?_
          refine cj_iload_n hC dX7_dawn_32 rfl 3 rfl ?_
          obtain ⟨x1, e1, hx1⟩ := cb_b hx1
          refine cj_callVi (As := [.int v1, .int v3]) hC cv_X7_170 cy_l0_ (cy_e0 g _) rfl (c_X7_wants l g v1 v3 M e1) (by decide) rfl rfl (Nat.le_of_ble_eq_true rfl) dX7_dawn_33 ?_
          refine cj_if_eq (tgt := 55) hC dX7_dawn_36 (by decide) (fun c4 => ?_) (fun c4 => ?_)
          · replace hx1 := cb_T c4 hx1
            obtain rfl := Option.some.inj hx1
            exact cj_pick [0, 1, 2, 3] rfl hj1
          · replace hx1 := cb_F c4 hx1
            refine cj_aload_n hC dX7_dawn_39 rfl 0 rfl ?_
            refine cj_iload_n hC dX7_dawn_40 rfl 3 rfl ?_
            refine cj_iload_n hC dX7_dawn_41 rfl 2 rfl ?_
            obtain ⟨x2, e2, hx1⟩ := cb_b hx1
            refine cj_callVi (As := [.int v3, .int v2]) hC cv_X7_179 cy_l0_ (cy_e0 g _) rfl (c_X7_isRipe l g v3 v2 M e2) (by decide) rfl rfl (Nat.le_of_ble_eq_true rfl) dX7_dawn_42 ?_
            refine cj_if_eq (tgt := 55) hC dX7_dawn_45 (by decide) (fun c5 => ?_) (fun c5 => ?_)
            · replace hx1 := cb_T c5 hx1
              obtain rfl := Option.some.inj hx1
              exact cj_pick [0, 1, 2, 3] rfl hj1
            · replace hx1 := cb_F c5 hx1
              refine cj_aload_n hC dX7_dawn_48 rfl 0 rfl ?_
              refine cj_iload_n hC dX7_dawn_49 rfl 1 rfl ?_
              refine cj_iload_n hC dX7_dawn_50 rfl 3 rfl ?_
              refine cj_iload_n hC dX7_dawn_51 rfl 2 rfl ?_
              obtain ⟨M2, e3, hx1⟩ := cb_b hx1
              refine cj_callVv (As := [.int v1, .int v3, .int v2]) hC cv_X7_182 cy_l0_ (cy_e0 g _) rfl (c_X7_lifts l g v1 v3 v2 M e3) (by decide) rfl rfl (Nat.le_of_ble_eq_true rfl) dX7_dawn_52 ?_
              obtain rfl := Option.some.inj hx1
              exact cj_pick [0, 1, 2, 3] rfl hj1
set_option maxRecDepth 100000 in
set_option maxHeartbeats 4000000 in
theorem c_X7_dawn (l : Launch) (g : cb_Geo) (p1 : Int32) (p2 : Int32) (M : cb_Mem) {Mr : cb_Mem} (h : f_X7_dawn p1 p2 M = some Mr) : Met l yX7_dawn (.code yX7_dawn cX7_dawn 4 none :: cb_ws) (cb_rm 3) (cb_Pc cy g [.ref (g.2.1 0), .int p1, .int p2] M) (cb_Qv cy g Mr) 0 0 (cb_A cy g) := by
  refine cb_met (by decide) wd_1083 (Nat.le_of_ble_eq_true rfl) (fun γ hC => ?_)
  replace hC : cb_C cy g γ RX7 cX7_dawn 4 none 3 l (cb_Qv cy g Mr) := hC
  show cb_J cy g γ 4 M 0 [(0, .ref (g.2.1 0)), (1, .int p1), (2, .int p2)] []
  unfold f_X7_dawn at h
  refine cj_iconst (v := 0) hC dX7_dawn_0 rfl ?_
  refine cj_istore_n (lv' := [(3, .int 0), (0, .ref (g.2.1 0)), (1, .int p1), (2, .int p2)]) hC dX7_dawn_1 rfl (by decide) rfl ?_
  obtain ⟨M1, e1, h⟩ := cb_b h
  refine cj_pick [1, 2, 3, 0] rfl ?_
  refine l_X7_dawn_L2 hC p1 p2 cb_fuel _ _ _ e1 (fun ze1 hz => ?_)
  obtain rfl := hz
  obtain rfl := Option.some.inj h
  exact cj_vret hC dX7_dawn_61
def f_X7_lives_L2 : Nat → Int32 → cb_Mem → Option (cb_Mem)
    | 0, _, _ => none
    | n + 1, v1, M =>
      if (M 0 7) ≤ v1 then
      some M
      else
      (f_X7_ripens v1 M).bind fun M1 =>
      if cb_in v1 8 = true then
      cb_let (cb_up M1 14 v1.toNatClampNeg (-1)) fun M2 =>
      if cb_in v1 8 = true then
      cb_let (cb_up M2 15 v1.toNatClampNeg (-1)) fun M3 =>
      f_X7_lives_L2 n (v1 + 1) M3
      else none
      else none
def f_X7_lives_L37 : Nat → Int32 → cb_Mem → Option (cb_Mem)
    | 0, _, _ => none
    | n + 1, v1, M =>
      if (M 0 9) ≤ v1 then
      some M
      else
      if cb_in v1 8 = true then
      cb_let (cb_up M 16 v1.toNatClampNeg (-1)) fun M1 =>
      if cb_in v1 8 = true then
      cb_let (cb_up M1 17 v1.toNatClampNeg (-1)) fun M2 =>
      if cb_in v1 8 = true then
      cb_let (cb_up M2 18 v1.toNatClampNeg 0) fun M3 =>
      f_X7_lives_L37 n (v1 + 1) M3
      else none
      else none
      else none
def f_X7_lives_L92 : Nat → Int32 → Int32 → cb_Mem → Option (cb_Mem)
    | 0, _, _, _ => none
    | n + 1, v1, v2, M =>
      if (M 0 9) ≤ v2 then
      some M
      else
      (f_X7_comes v2 v1 M).bind fun x1 =>
      Option.bind (if x1 = 0 then
      some M
      else
      (f_X7_dawn v2 v1 M).bind fun M2 =>
      some M2) fun M1 =>
      f_X7_lives_L92 n v1 (v2 + 1) M1
def f_X7_lives_L84 : Nat → Int32 → cb_Mem → Option (cb_Mem)
    | 0, _, _ => none
    | n + 1, v1, M =>
      if 40 ≤ v1 then
      some M
      else
      (f_X7_lives_L92 cb_fuel v1 0 M).bind fun M1 =>
      f_X7_lives_L84 n (v1 + 1) M1
def f_X7_lives  (M : cb_Mem) : Option (cb_Mem) :=
  (f_X7_lives_L2 cb_fuel 0 M).bind fun M1 =>
  (f_X7_lives_L37 cb_fuel 0 M1).bind fun M2 =>
  cb_let (cb_up M2 0 24 (-1)) fun M3 =>
  cb_let (cb_up M3 0 25 (-1)) fun M4 =>
  (f_X7_lives_L84 cb_fuel 0 M4).bind fun M5 =>
  some M5
set_option maxRecDepth 100000 in
set_option maxHeartbeats 4000000 in
theorem l_X7_lives_L2 {l : Launch} {g : cb_Geo} {γ : cb_Gam} {Mr : cb_Mem} (hC : cb_C cy g γ RX7 cX7_lives 3 none 4 l (cb_Qv cy g Mr))  : ∀ (n : Nat) (v1 : Int32) (M : cb_Mem) (o : (cb_Mem)), f_X7_lives_L2 n v1 M = some o → (∀ (M' : cb_Mem), o = M' → cb_J cy g γ 3 M' 35 [(0, .ref (g.2.1 0))] []) → cb_J cy g γ 3 M 2 [(0, .ref (g.2.1 0)), (1, .int v1)] [] := by
  intro n
  induction n with
  | zero =>
    intro v1 M o h
    cases h
  | succ n ih =>
    intro v1 M o h hexit
    unfold f_X7_lives_L2 at h
    refine cj_iload_n hC dX7_lives_2 rfl 1 rfl ?_
    refine cj_aload_n hC dX7_lives_3 rfl 0 rfl ?_
    refine cj_get (v := .int (M 0 7)) hC fa_X7_118 cy_l0_ (cy_e0 g _) rfl dX7_lives_4 ?_
    refine cj_icmp_ge (tgt := 35) hC dX7_lives_7 (by decide) (fun c1 => ?_) (fun c1 => ?_)
    · replace h := cb_T c1 h
      obtain rfl := Option.some.inj h
      exact cj_pick [0] rfl (hexit _ rfl)
    · replace h := cb_F c1 h
      refine cj_aload_n hC dX7_lives_10 rfl 0 rfl ?_
      refine cj_iload_n hC dX7_lives_11 rfl 1 rfl ?_
      obtain ⟨M1, e1, h⟩ := cb_b h
      refine cj_callVv (As := [.int v1]) hC cv_X7_186 cy_l0_ (cy_e0 g _) rfl (c_X7_ripens l g v1 M e1) (by decide) rfl rfl (Nat.le_of_ble_eq_true rfl) dX7_lives_12 ?_
      refine cj_aload_n hC dX7_lives_15 rfl 0 rfl ?_
      refine cj_get (v := .ref (g.2.1 14)) hC fa_X7_49 cy_l0_ (cy_e0 g _) rfl dX7_lives_16 ?_
      refine cj_iload_n hC dX7_lives_19 rfl 1 rfl ?_
      refine cj_iconst (v := (-1)) hC dX7_lives_20 rfl ?_
      obtain ⟨i1, h⟩ := cb_g h
      obtain ⟨M2, eM2, h⟩ := cb_l h
      refine cj_iast hC cy_l14_ (cy_e14 g) (cy_t0 g) i1 eM2 dX7_lives_21 ?_
      refine cj_aload_n hC dX7_lives_22 rfl 0 rfl ?_
      refine cj_get (v := .ref (g.2.1 15)) hC fa_X7_52 cy_l0_ (cy_e0 g _) rfl dX7_lives_23 ?_
      refine cj_iload_n hC dX7_lives_26 rfl 1 rfl ?_
      refine cj_iconst (v := (-1)) hC dX7_lives_27 rfl ?_
      obtain ⟨i2, h⟩ := cb_g h
      obtain ⟨M3, eM3, h⟩ := cb_l h
      refine cj_iast hC cy_l15_ (cy_e15 g) (cy_t0 g) i2 eM3 dX7_lives_28 ?_
      refine cj_iinc (lv' := [(1, .int (v1 + 1)), (0, .ref (g.2.1 0))]) hC dX7_lives_29 (q := 1) rfl rfl (by decide) rfl ?_
      refine cj_goto (tgt := 2) hC dX7_lives_32 (by decide) ?_
      exact cj_pick [1, 0] rfl (ih _ _ _ h hexit)
set_option maxRecDepth 100000 in
set_option maxHeartbeats 4000000 in
theorem l_X7_lives_L37 {l : Launch} {g : cb_Geo} {γ : cb_Gam} {Mr : cb_Mem} (hC : cb_C cy g γ RX7 cX7_lives 3 none 4 l (cb_Qv cy g Mr))  : ∀ (n : Nat) (v1 : Int32) (M : cb_Mem) (o : (cb_Mem)), f_X7_lives_L37 n v1 M = some o → (∀ (M' : cb_Mem), o = M' → cb_J cy g γ 3 M' 72 [(0, .ref (g.2.1 0))] []) → cb_J cy g γ 3 M 37 [(0, .ref (g.2.1 0)), (1, .int v1)] [] := by
  intro n
  induction n with
  | zero =>
    intro v1 M o h
    cases h
  | succ n ih =>
    intro v1 M o h hexit
    unfold f_X7_lives_L37 at h
    refine cj_iload_n hC dX7_lives_37 rfl 1 rfl ?_
    refine cj_aload_n hC dX7_lives_38 rfl 0 rfl ?_
    refine cj_get (v := .int (M 0 9)) hC fa_X7_124 cy_l0_ (cy_e0 g _) rfl dX7_lives_39 ?_
    refine cj_icmp_ge (tgt := 72) hC dX7_lives_42 (by decide) (fun c1 => ?_) (fun c1 => ?_)
    · replace h := cb_T c1 h
      obtain rfl := Option.some.inj h
      exact cj_pick [0] rfl (hexit _ rfl)
    · replace h := cb_F c1 h
      refine cj_aload_n hC dX7_lives_45 rfl 0 rfl ?_
      refine cj_get (v := .ref (g.2.1 16)) hC fa_X7_55 cy_l0_ (cy_e0 g _) rfl dX7_lives_46 ?_
      refine cj_iload_n hC dX7_lives_49 rfl 1 rfl ?_
      refine cj_iconst (v := (-1)) hC dX7_lives_50 rfl ?_
      obtain ⟨i1, h⟩ := cb_g h
      obtain ⟨M1, eM1, h⟩ := cb_l h
      refine cj_iast hC cy_l16_ (cy_e16 g) (cy_t0 g) i1 eM1 dX7_lives_51 ?_
      refine cj_aload_n hC dX7_lives_52 rfl 0 rfl ?_
      refine cj_get (v := .ref (g.2.1 17)) hC fa_X7_58 cy_l0_ (cy_e0 g _) rfl dX7_lives_53 ?_
      refine cj_iload_n hC dX7_lives_56 rfl 1 rfl ?_
      refine cj_iconst (v := (-1)) hC dX7_lives_57 rfl ?_
      obtain ⟨i2, h⟩ := cb_g h
      obtain ⟨M2, eM2, h⟩ := cb_l h
      refine cj_iast hC cy_l17_ (cy_e17 g) (cy_t0 g) i2 eM2 dX7_lives_58 ?_
      refine cj_aload_n hC dX7_lives_59 rfl 0 rfl ?_
      refine cj_get (v := .ref (g.2.1 18)) hC fa_X7_61 cy_l0_ (cy_e0 g _) rfl dX7_lives_60 ?_
      refine cj_iload_n hC dX7_lives_63 rfl 1 rfl ?_
      refine cj_iconst (v := 0) hC dX7_lives_64 rfl ?_
      obtain ⟨i3, h⟩ := cb_g h
      obtain ⟨M3, eM3, h⟩ := cb_l h
      refine cj_iast hC cy_l18_ (cy_e18 g) (cy_t0 g) i3 eM3 dX7_lives_65 ?_
      refine cj_iinc (lv' := [(1, .int (v1 + 1)), (0, .ref (g.2.1 0))]) hC dX7_lives_66 (q := 1) rfl rfl (by decide) rfl ?_
      refine cj_goto (tgt := 37) hC dX7_lives_69 (by decide) ?_
      exact cj_pick [1, 0] rfl (ih _ _ _ h hexit)
set_option maxRecDepth 100000 in
set_option maxHeartbeats 4000000 in
theorem l_X7_lives_L92 {l : Launch} {g : cb_Geo} {γ : cb_Gam} {Mr : cb_Mem} (hC : cb_C cy g γ RX7 cX7_lives 3 none 4 l (cb_Qv cy g Mr)) (v1 : Int32) : ∀ (n : Nat) (v2 : Int32) (M : cb_Mem) (o : (cb_Mem)), f_X7_lives_L92 n v1 v2 M = some o → (∀ (M' : cb_Mem), o = M' → cb_J cy g γ 3 M' 121 [(0, .ref (g.2.1 0)), (1, .int v1)] []) → cb_J cy g γ 3 M 92 [(0, .ref (g.2.1 0)), (1, .int v1), (2, .int v2)] [] := by
  intro n
  induction n with
  | zero =>
    intro v2 M o h
    cases h
  | succ n ih =>
    intro v2 M o h hexit
    unfold f_X7_lives_L92 at h
    refine cj_iload_n hC dX7_lives_92 rfl 2 rfl ?_
    refine cj_aload_n hC dX7_lives_93 rfl 0 rfl ?_
    refine cj_get (v := .int (M 0 9)) hC fa_X7_124 cy_l0_ (cy_e0 g _) rfl dX7_lives_94 ?_
    refine cj_icmp_ge (tgt := 121) hC dX7_lives_97 (by decide) (fun c1 => ?_) (fun c1 => ?_)
    · replace h := cb_T c1 h
      obtain rfl := Option.some.inj h
      exact cj_pick [0, 1] rfl (hexit _ rfl)
    · replace h := cb_F c1 h
      refine cj_aload_n hC dX7_lives_100 rfl 0 rfl ?_
      refine cj_iload_n hC dX7_lives_101 rfl 2 rfl ?_
      refine cj_iload_n hC dX7_lives_102 rfl 1 rfl ?_
      obtain ⟨x1, e1, h⟩ := cb_b h
      refine cj_callVi (As := [.int v2, .int v1]) hC cv_X7_173 cy_l0_ (cy_e0 g _) rfl (c_X7_comes l g v2 v1 M e1) (by decide) rfl rfl (Nat.le_of_ble_eq_true rfl) dX7_lives_103 ?_
      obtain ⟨M1, hx1, h⟩ := cb_b h
      have hj1 : cb_J cy g γ 3 M1 115 [(0, .ref (g.2.1 0)), (1, .int v1), (2, .int v2)] [] := by
        refine cj_iinc (lv' := [(2, .int (v2 + 1)), (0, .ref (g.2.1 0)), (1, .int v1)]) hC dX7_lives_115 (q := 2) rfl rfl (by decide) rfl ?_
        refine cj_goto (tgt := 92) hC dX7_lives_118 (by decide) ?_
        exact cj_pick [1, 2, 0] rfl (ih _ _ _ h hexit)
      refine cj_if_eq (tgt := 115) hC dX7_lives_106 (by decide) (fun c2 => ?_) (fun c2 => ?_)
      · replace hx1 := cb_T c2 hx1
        obtain rfl := Option.some.inj hx1
        exact cj_pick [0, 1, 2] rfl hj1
      · replace hx1 := cb_F c2 hx1
        refine cj_aload_n hC dX7_lives_109 rfl 0 rfl ?_
        refine cj_iload_n hC dX7_lives_110 rfl 2 rfl ?_
        refine cj_iload_n hC dX7_lives_111 rfl 1 rfl ?_
        obtain ⟨M2, e2, hx1⟩ := cb_b hx1
        refine cj_callVv (As := [.int v2, .int v1]) hC cv_X7_190 cy_l0_ (cy_e0 g _) rfl (c_X7_dawn l g v2 v1 M e2) (by decide) rfl rfl (Nat.le_of_ble_eq_true rfl) dX7_lives_112 ?_
        obtain rfl := Option.some.inj hx1
        exact cj_pick [0, 1, 2] rfl hj1
set_option maxRecDepth 100000 in
set_option maxHeartbeats 4000000 in
theorem l_X7_lives_L84 {l : Launch} {g : cb_Geo} {γ : cb_Gam} {Mr : cb_Mem} (hC : cb_C cy g γ RX7 cX7_lives 3 none 4 l (cb_Qv cy g Mr))  : ∀ (n : Nat) (v1 : Int32) (M : cb_Mem) (o : (cb_Mem)), f_X7_lives_L84 n v1 M = some o → (∀ (M' : cb_Mem), o = M' → cb_J cy g γ 3 M' 127 [] []) → cb_J cy g γ 3 M 84 [(0, .ref (g.2.1 0)), (1, .int v1)] [] := by
  intro n
  induction n with
  | zero =>
    intro v1 M o h
    cases h
  | succ n ih =>
    intro v1 M o h hexit
    unfold f_X7_lives_L84 at h
    refine cj_iload_n hC dX7_lives_84 rfl 1 rfl ?_
    refine cj_bipush (v := 40) hC dX7_lives_85 rfl ?_
    refine cj_icmp_ge (tgt := 127) hC dX7_lives_87 (by decide) (fun c1 => ?_) (fun c1 => ?_)
    · replace h := cb_T c1 h
      obtain rfl := Option.some.inj h
      exact cj_pick [] rfl (hexit _ rfl)
    · replace h := cb_F c1 h
      refine cj_iconst (v := 0) hC dX7_lives_90 rfl ?_
      refine cj_istore_n (lv' := [(2, .int 0), (0, .ref (g.2.1 0)), (1, .int v1)]) hC dX7_lives_91 rfl (by decide) rfl ?_
      obtain ⟨M1, e1, h⟩ := cb_b h
      refine cj_pick [1, 2, 0] rfl ?_
      refine l_X7_lives_L92 hC v1 cb_fuel _ _ _ e1 (fun ze1 hz => ?_)
      obtain rfl := hz
      refine cj_iinc (lv' := [(1, .int (v1 + 1)), (0, .ref (g.2.1 0))]) hC dX7_lives_121 (q := 1) rfl rfl (by decide) rfl ?_
      refine cj_goto (tgt := 84) hC dX7_lives_124 (by decide) ?_
      exact cj_pick [1, 0] rfl (ih _ _ _ h hexit)
set_option maxRecDepth 100000 in
set_option maxHeartbeats 4000000 in
theorem c_X7_lives (l : Launch) (g : cb_Geo)  (M : cb_Mem) {Mr : cb_Mem} (h : f_X7_lives  M = some Mr) : Met l yX7_lives (.code yX7_lives cX7_lives 3 none :: cb_ws) (cb_rm 4) (cb_Pc cy g [.ref (g.2.1 0)] M) (cb_Qv cy g Mr) 0 0 (cb_A cy g) := by
  refine cb_met (by decide) wd_1064 (Nat.le_of_ble_eq_true rfl) (fun γ hC => ?_)
  replace hC : cb_C cy g γ RX7 cX7_lives 3 none 4 l (cb_Qv cy g Mr) := hC
  show cb_J cy g γ 3 M 0 [(0, .ref (g.2.1 0))] []
  unfold f_X7_lives at h
  refine cj_iconst (v := 0) hC dX7_lives_0 rfl ?_
  refine cj_istore_n (lv' := [(1, .int 0), (0, .ref (g.2.1 0))]) hC dX7_lives_1 rfl (by decide) rfl ?_
  obtain ⟨M1, e1, h⟩ := cb_b h
  refine cj_pick [1, 0] rfl ?_
  refine l_X7_lives_L2 hC  cb_fuel _ _ _ e1 (fun ze1 hz => ?_)
  obtain rfl := hz
  refine cj_iconst (v := 0) hC dX7_lives_35 rfl ?_
  refine cj_istore_n (lv' := [(1, .int 0), (0, .ref (g.2.1 0))]) hC dX7_lives_36 rfl (by decide) rfl ?_
  obtain ⟨M2, e2, h⟩ := cb_b h
  refine cj_pick [1, 0] rfl ?_
  refine l_X7_lives_L37 hC  cb_fuel _ _ _ e2 (fun ze2 hz => ?_)
  obtain rfl := hz
  refine cj_aload_n hC dX7_lives_72 rfl 0 rfl ?_
  refine cj_iconst (v := (-1)) hC dX7_lives_73 rfl ?_
  obtain ⟨M3, eM3, h⟩ := cb_l h
  refine cj_put hC fp_X7_167 cy_l0_ (cy_e0 g _) rfl (Nat.le_of_ble_eq_true rfl) eM3 dX7_lives_74 ?_
  refine cj_aload_n hC dX7_lives_77 rfl 0 rfl ?_
  refine cj_iconst (v := (-1)) hC dX7_lives_78 rfl ?_
  obtain ⟨M4, eM4, h⟩ := cb_l h
  refine cj_put hC fp_X7_176 cy_l0_ (cy_e0 g _) rfl (Nat.le_of_ble_eq_true rfl) eM4 dX7_lives_79 ?_
  refine cj_iconst (v := 0) hC dX7_lives_82 rfl ?_
  refine cj_istore_n (lv' := [(1, .int 0), (0, .ref (g.2.1 0))]) hC dX7_lives_83 rfl (by decide) rfl ?_
  obtain ⟨M5, e3, h⟩ := cb_b h
  refine cj_pick [1, 0] rfl ?_
  refine l_X7_lives_L84 hC  cb_fuel _ _ _ e3 (fun ze3 hz => ?_)
  obtain rfl := hz
  obtain rfl := Option.some.inj h
  exact cj_vret hC dX7_lives_127
def f_X7_find  (M : cb_Mem) : Option (cb_Mem) :=
  cb_bind2 (f_X7_readsHeads  M) fun x1 M1 =>
  cb_bind2 (f_X7_readsCouples  M1) fun x2 M2 =>
  (f_X7_lives  M2).bind fun M3 =>
  some M3
set_option maxRecDepth 100000 in
set_option maxHeartbeats 4000000 in
theorem c_X7_find (l : Launch) (g : cb_Geo)  (M : cb_Mem) {Mr : cb_Mem} (h : f_X7_find  M = some Mr) : Met l yX7_find (.code yX7_find cX7_find 1 none :: cb_ws) (cb_rm 5) (cb_Pc cy g [.ref (g.2.1 0)] M) (cb_Qv cy g Mr) 0 0 (cb_A cy g) := by
  refine cb_met (by decide) wd_1060 (Nat.le_of_ble_eq_true rfl) (fun γ hC => ?_)
  replace hC : cb_C cy g γ RX7 cX7_find 1 none 5 l (cb_Qv cy g Mr) := hC
  show cb_J cy g γ 1 M 0 [(0, .ref (g.2.1 0))] []
  unfold f_X7_find at h
  refine cj_aload_n hC dX7_find_0 rfl 0 rfl ?_
  obtain ⟨x1, M1, e1, h⟩ := cb_b2 h
  refine cj_callVi (As := []) hC cv_X7_127 cy_l0_ (cy_e0 g _) rfl (c_X7_readsHeads l g  M e1) (by decide) rfl rfl (Nat.le_of_ble_eq_true rfl) dX7_find_1 ?_
  refine cj_pop hC dX7_find_4 rfl ?_
  refine cj_aload_n hC dX7_find_5 rfl 0 rfl ?_
  obtain ⟨x2, M2, e2, h⟩ := cb_b2 h
  refine cj_callVi (As := []) hC cv_X7_131 cy_l0_ (cy_e0 g _) rfl (c_X7_readsCouples l g  M1 e2) (by decide) rfl rfl (Nat.le_of_ble_eq_true rfl) dX7_find_6 ?_
  refine cj_pop hC dX7_find_9 rfl ?_
  refine cj_aload_n hC dX7_find_10 rfl 0 rfl ?_
  obtain ⟨M3, e3, h⟩ := cb_b h
  refine cj_callVv (As := []) hC cv_X7_194 cy_l0_ (cy_e0 g _) rfl (c_X7_lives l g  M2 e3) (by decide) rfl rfl (Nat.le_of_ble_eq_true rfl) dX7_find_11 ?_
  obtain rfl := Option.some.inj h
  exact cj_vret hC dX7_find_14
def f_X7_dueBy_L14 : Nat → Int32 → Int32 → Int32 → Int32 → cb_Mem → Option (Int32)
    | 0, _, _, _, _, _ => none
    | n + 1, v1, v2, v3, v4, M =>
      if v2 < v4 then
      some v3
      else
      if v3 ≤ v4 then
      some v3
      else
      if cb_in (2 * v1) 16 = true then
      Option.bind (if (M 7 (2 * v1).toNatClampNeg) = 0 then
      (f_X7_isSo 0 v4 M).bind fun x2 =>
      if x2 = 0 then
      some (0 : Int32)
      else
      some (1 : Int32)
      else
      some (0 : Int32)) fun x1 =>
      cb_let ((v3 + x1)) fun x3 =>
      f_X7_dueBy_L14 n v1 v2 x3 (v4 + 1) M
      else none
def f_X7_dueBy (p1 : Int32) (p2 : Int32) (M : cb_Mem) : Option (Int32) :=
  if cb_in ((2 * p1) + 1) 16 = true then
  cb_let ((M 7 ((2 * p1) + 1).toNatClampNeg)) fun x1 =>
  (f_X7_dueBy_L14 cb_fuel p1 p2 x1 0 M).bind fun x2 =>
  some x2
  else none
set_option maxRecDepth 100000 in
set_option maxHeartbeats 4000000 in
theorem l_X7_dueBy_L14 {l : Launch} {g : cb_Geo} {γ : cb_Gam} {rr : Int32} {M : cb_Mem} (hC : cb_C cy g γ RX7 cX7_dueBy 5 (some .int) 2 l (cb_Qi cy g rr M)) (v1 : Int32) (v2 : Int32) : ∀ (n : Nat) (v3 : Int32) (v4 : Int32) (o : (Int32)), f_X7_dueBy_L14 n v1 v2 v3 v4 M = some o → (∀ (v3' : Int32), o = v3' → cb_J cy g γ 5 M 61 [(3, .int v3')] []) → cb_J cy g γ 5 M 14 [(0, .ref (g.2.1 0)), (1, .int v1), (2, .int v2), (3, .int v3), (4, .int v4)] [] := by
  intro n
  induction n with
  | zero =>
    intro v3 v4 o h
    cases h
  | succ n ih =>
    intro v3 v4 o h hexit
    unfold f_X7_dueBy_L14 at h
    refine cj_iload hC dX7_dueBy_14 4 rfl ?_
    refine cj_iload_n hC dX7_dueBy_16 rfl 2 rfl ?_
    refine cj_icmp_gt (tgt := 61) hC dX7_dueBy_17 (by decide) (fun c1 => ?_) (fun c1 => ?_)
    · replace h := cb_T c1 h
      obtain rfl := Option.some.inj h
      exact cj_pick [3] rfl (hexit _ rfl)
    · replace h := cb_F c1 h
      refine cj_iload hC dX7_dueBy_20 4 rfl ?_
      refine cj_iload_n hC dX7_dueBy_22 rfl 3 rfl ?_
      refine cj_icmp_ge (tgt := 61) hC dX7_dueBy_23 (by decide) (fun c2 => ?_) (fun c2 => ?_)
      · replace h := cb_T c2 h
        obtain rfl := Option.some.inj h
        exact cj_pick [3] rfl (hexit _ rfl)
      · replace h := cb_F c2 h
        refine cj_iload_n hC dX7_dueBy_26 rfl 3 rfl ?_
        refine cj_aload_n hC dX7_dueBy_27 rfl 0 rfl ?_
        refine cj_get (v := .ref (g.2.1 7)) hC fa_X7_28 cy_l0_ (cy_e0 g _) rfl dX7_dueBy_28 ?_
        refine cj_iconst (v := 2) hC dX7_dueBy_31 rfl ?_
        refine cj_iload_n hC dX7_dueBy_32 rfl 1 rfl ?_
        refine cj_imul hC dX7_dueBy_33 ?_
        obtain ⟨i1, h⟩ := cb_g h
        refine cj_iald hC cy_l7_ (cy_e7 g _) (cy_t0 g) i1 dX7_dueBy_34 ?_
        obtain ⟨x1, hx1, h⟩ := cb_b h
        have hj1 : cb_J cy g γ 5 M 53 [(0, .ref (g.2.1 0)), (1, .int v1), (2, .int v2), (4, .int v4)] [.int x1, .int v3] := by
          refine cj_iadd hC dX7_dueBy_53 ?_
          obtain ⟨x3, ex3, h⟩ := cb_l h
          refine cj_topi ex3 ?_
          refine cj_istore_n (lv' := [(3, .int x3), (0, .ref (g.2.1 0)), (1, .int v1), (2, .int v2), (4, .int v4)]) hC dX7_dueBy_54 rfl (by decide) rfl ?_
          refine cj_iinc (lv' := [(4, .int (v4 + 1)), (3, .int x3), (0, .ref (g.2.1 0)), (1, .int v1), (2, .int v2)]) hC dX7_dueBy_55 (q := 4) rfl rfl (by decide) rfl ?_
          refine cj_goto (tgt := 14) hC dX7_dueBy_58 (by decide) ?_
          exact cj_pick [2, 3, 4, 1, 0] rfl (ih _ _ _ h hexit)
        refine cj_if_ne (tgt := 52) hC dX7_dueBy_35 (by decide) (fun c3 => ?_) (fun c3 => ?_)
        · replace hx1 := cb_F c3 hx1
          refine cj_iconst (v := 0) hC dX7_dueBy_52 rfl ?_
          obtain rfl := Option.some.inj hx1
          exact cj_pick [0, 1, 2, 4] rfl hj1
        · replace hx1 := cb_T c3 hx1
          refine cj_aload_n hC dX7_dueBy_38 rfl 0 rfl ?_
          refine cj_iconst (v := 0) hC dX7_dueBy_39 rfl ?_
          refine cj_iload hC dX7_dueBy_40 4 rfl ?_
          obtain ⟨x2, e1, hx1⟩ := cb_b hx1
          refine cj_callVi (As := [.int 0, .int v4]) hC cv_X7_158 cy_l0_ (cy_e0 g _) rfl (c_X7_isSo l g 0 v4 M e1) (by decide) rfl rfl (Nat.le_of_ble_eq_true rfl) dX7_dueBy_42 ?_
          refine cj_if_eq (tgt := 52) hC dX7_dueBy_45 (by decide) (fun c4 => ?_) (fun c4 => ?_)
          · replace hx1 := cb_T c4 hx1
            refine cj_iconst (v := 0) hC dX7_dueBy_52 rfl ?_
            obtain rfl := Option.some.inj hx1
            exact cj_pick [0, 1, 2, 4] rfl hj1
          · replace hx1 := cb_F c4 hx1
            refine cj_iconst (v := 1) hC dX7_dueBy_48 rfl ?_
            refine cj_goto (tgt := 53) hC dX7_dueBy_49 (by decide) ?_
            obtain rfl := Option.some.inj hx1
            exact cj_pick [0, 1, 2, 4] rfl hj1
set_option maxRecDepth 100000 in
set_option maxHeartbeats 4000000 in
theorem c_X7_dueBy (l : Launch) (g : cb_Geo) (p1 : Int32) (p2 : Int32) (M : cb_Mem) {rr : Int32} (h : f_X7_dueBy p1 p2 M = some rr) : Met l yX7_dueBy (.code yX7_dueBy cX7_dueBy 5 (some .int) :: cb_ws) (cb_rm 2) (cb_Pc cy g [.ref (g.2.1 0), .int p1, .int p2] M) (cb_Qi cy g rr M) 0 0 (cb_A cy g) := by
  refine cb_met (by decide) wd_1106 (Nat.le_of_ble_eq_true rfl) (fun γ hC => ?_)
  replace hC : cb_C cy g γ RX7 cX7_dueBy 5 (some .int) 2 l (cb_Qi cy g rr M) := hC
  show cb_J cy g γ 5 M 0 [(0, .ref (g.2.1 0)), (1, .int p1), (2, .int p2)] []
  unfold f_X7_dueBy at h
  refine cj_aload_n hC dX7_dueBy_0 rfl 0 rfl ?_
  refine cj_get (v := .ref (g.2.1 7)) hC fa_X7_28 cy_l0_ (cy_e0 g _) rfl dX7_dueBy_1 ?_
  refine cj_iconst (v := 2) hC dX7_dueBy_4 rfl ?_
  refine cj_iload_n hC dX7_dueBy_5 rfl 1 rfl ?_
  refine cj_imul hC dX7_dueBy_6 ?_
  refine cj_iconst (v := 1) hC dX7_dueBy_7 rfl ?_
  refine cj_iadd hC dX7_dueBy_8 ?_
  obtain ⟨i1, h⟩ := cb_g h
  refine cj_iald hC cy_l7_ (cy_e7 g _) (cy_t0 g) i1 dX7_dueBy_9 ?_
  obtain ⟨x1, ex1, h⟩ := cb_l h
  refine cj_topi ex1 ?_
  refine cj_istore_n (lv' := [(3, .int x1), (0, .ref (g.2.1 0)), (1, .int p1), (2, .int p2)]) hC dX7_dueBy_10 rfl (by decide) rfl ?_
  refine cj_iconst (v := 0) hC dX7_dueBy_11 rfl ?_
  refine cj_istore (lv' := [(4, .int 0), (3, .int x1), (0, .ref (g.2.1 0)), (1, .int p1), (2, .int p2)]) hC dX7_dueBy_12 (by decide) rfl ?_
  obtain ⟨x2, e1, h⟩ := cb_b h
  refine cj_pick [2, 3, 4, 1, 0] rfl ?_
  refine l_X7_dueBy_L14 hC p1 p2 cb_fuel _ _ _ e1 (fun ze1 hz => ?_)
  obtain rfl := hz
  refine cj_iload_n hC dX7_dueBy_61 rfl 0 rfl ?_
  obtain rfl := Option.some.inj h
  exact cj_iret hC dX7_dueBy_62
def f_X7_stateOf (p1 : Int32) (p2 : Int32) (M : cb_Mem) : Option (Int32) :=
  if cb_in p2 8 = true then
  cb_let (fun (_ : Unit) =>
  if cb_in p2 8 = true then
  cb_let (fun (_ : Unit) =>
  (f_X7_dueBy p2 p1 M).bind fun x1 =>
  if x1 ≤ p1 then
  if cb_in (2 * p2) 16 = true then
  cb_let (f_X7_span (M 7 (2 * p2).toNatClampNeg)) fun x2 =>
  if (x1 + x2) ≤ p1 then
  some (4 : Int32)
  else
  some (1 : Int32)
  else none
  else
  some (0 : Int32)) fun k2 =>
  if (M 13 p2.toNatClampNeg) = (-1) then
  k2 ()
  else
  if cb_in p2 8 = true then
  if p1 < (M 13 p2.toNatClampNeg) then
  k2 ()
  else
  if cb_in p2 8 = true then
  if (M 15 p2.toNatClampNeg) = (-1) then
  some (3 : Int32)
  else
  if cb_in p2 8 = true then
  if cb_in p2 8 = true then
  if (M 15 p2.toNatClampNeg) ≤ (M 13 p2.toNatClampNeg) then
  k2 ()
  else
  some (3 : Int32)
  else none
  else none
  else none
  else none
  else none) fun k1 =>
  if (M 15 p2.toNatClampNeg) = (-1) then
  k1 ()
  else
  if cb_in p2 8 = true then
  if p1 < (M 15 p2.toNatClampNeg) then
  k1 ()
  else
  some (2 : Int32)
  else none
  else none
set_option maxRecDepth 100000 in
set_option maxHeartbeats 4000000 in
theorem c_X7_stateOf (l : Launch) (g : cb_Geo) (p1 : Int32) (p2 : Int32) (M : cb_Mem) {rr : Int32} (h : f_X7_stateOf p1 p2 M = some rr) : Met l yX7_stateOf (.code yX7_stateOf cX7_stateOf 4 (some .int) :: cb_ws) (cb_rm 3) (cb_Pc cy g [.ref (g.2.1 0), .int p1, .int p2] M) (cb_Qi cy g rr M) 0 0 (cb_A cy g) := by
  refine cb_met (by decide) wd_1102 (Nat.le_of_ble_eq_true rfl) (fun γ hC => ?_)
  replace hC : cb_C cy g γ RX7 cX7_stateOf 4 (some .int) 3 l (cb_Qi cy g rr M) := hC
  show cb_J cy g γ 4 M 0 [(0, .ref (g.2.1 0)), (1, .int p1), (2, .int p2)] []
  unfold f_X7_stateOf at h
  refine cj_aload_n hC dX7_stateOf_0 rfl 0 rfl ?_
  refine cj_get (v := .ref (g.2.1 15)) hC fa_X7_52 cy_l0_ (cy_e0 g _) rfl dX7_stateOf_1 ?_
  refine cj_iload_n hC dX7_stateOf_4 rfl 2 rfl ?_
  obtain ⟨i1, h⟩ := cb_g h
  refine cj_iald hC cy_l15_ (cy_e15 g _) (cy_t0 g) i1 dX7_stateOf_5 ?_
  refine cj_iconst (v := (-1)) hC dX7_stateOf_6 rfl ?_
  obtain ⟨k1, ek1, h⟩ := cb_l h
  have hk1 : ∀ (u9 : Unit), k1 u9 = some rr → cb_J cy g γ 4 M 22 [(0, .ref (g.2.1 0)), (1, .int p1), (2, .int p2)] [] := by
    intro u9 h
    replace h := cb_k1 ek1 h
    refine cj_aload_n hC dX7_stateOf_22 rfl 0 rfl ?_
    refine cj_get (v := .ref (g.2.1 13)) hC fa_X7_46 cy_l0_ (cy_e0 g _) rfl dX7_stateOf_23 ?_
    refine cj_iload_n hC dX7_stateOf_26 rfl 2 rfl ?_
    obtain ⟨i2, h⟩ := cb_g h
    refine cj_iald hC cy_l13_ (cy_e13 g _) (cy_t0 g) i2 dX7_stateOf_27 ?_
    refine cj_iconst (v := (-1)) hC dX7_stateOf_28 rfl ?_
    obtain ⟨k2, ek2, h⟩ := cb_l h
    have hk2 : ∀ (u9 : Unit), k2 u9 = some rr → cb_J cy g γ 4 M 69 [(0, .ref (g.2.1 0)), (1, .int p1), (2, .int p2)] [] := by
      intro u9 h
      replace h := cb_k1 ek2 h
      refine cj_aload_n hC dX7_stateOf_69 rfl 0 rfl ?_
      refine cj_iload_n hC dX7_stateOf_70 rfl 2 rfl ?_
      refine cj_iload_n hC dX7_stateOf_71 rfl 1 rfl ?_
      obtain ⟨x1, e1, h⟩ := cb_b h
      refine cj_callVi (As := [.int p2, .int p1]) hC cv_X7_197 cy_l0_ (cy_e0 g _) rfl (c_X7_dueBy l g p2 p1 M e1) (by decide) rfl rfl (Nat.le_of_ble_eq_true rfl) dX7_stateOf_72 ?_
      refine cj_istore_n (lv' := [(3, .int x1), (0, .ref (g.2.1 0)), (1, .int p1), (2, .int p2)]) hC dX7_stateOf_75 rfl (by decide) rfl ?_
      refine cj_iload_n hC dX7_stateOf_76 rfl 2 rfl ?_
      refine cj_iload_n hC dX7_stateOf_77 rfl 0 rfl ?_
      refine cj_icmp_ge (tgt := 85) hC dX7_stateOf_78 (by decide) (fun c1 => ?_) (fun c1 => ?_)
      · replace h := cb_T c1 h
        refine cj_iload_n hC dX7_stateOf_85 rfl 2 rfl ?_
        refine cj_iload_n hC dX7_stateOf_86 rfl 0 rfl ?_
        refine cj_aload_n hC dX7_stateOf_87 rfl 1 rfl ?_
        refine cj_get (v := .ref (g.2.1 7)) hC fa_X7_28 cy_l0_ (cy_e0 g _) rfl dX7_stateOf_88 ?_
        refine cj_iconst (v := 2) hC dX7_stateOf_91 rfl ?_
        refine cj_iload_n hC dX7_stateOf_92 rfl 3 rfl ?_
        refine cj_imul hC dX7_stateOf_93 ?_
        obtain ⟨i3, h⟩ := cb_g h
        refine cj_iald hC cy_l7_ (cy_e7 g _) (cy_t0 g) i3 dX7_stateOf_94 ?_
        obtain ⟨x2, e2, h⟩ := cb_l h
        refine cj_callSi (As := [.int (M 7 (2 * p2).toNatClampNeg)]) hC cs_X7_164 (c_X7_span l g (M 7 (2 * p2).toNatClampNeg) M e2.symm) (by decide) rfl rfl (Nat.le_of_ble_eq_true rfl) dX7_stateOf_95 ?_
        refine cj_iadd hC dX7_stateOf_98 ?_
        refine cj_icmp_ge (tgt := 106) hC dX7_stateOf_99 (by decide) (fun c2 => ?_) (fun c2 => ?_)
        · replace h := cb_T c2 h
          refine cj_iconst (v := 4) hC dX7_stateOf_106 rfl ?_
          obtain rfl := Option.some.inj h
          exact cj_iret hC dX7_stateOf_107
        · replace h := cb_F c2 h
          refine cj_iconst (v := 1) hC dX7_stateOf_102 rfl ?_
          refine cj_goto (tgt := 107) hC dX7_stateOf_103 (by decide) ?_
          obtain rfl := Option.some.inj h
          exact cj_iret hC dX7_stateOf_107
      · replace h := cb_F c1 h
        refine cj_iconst (v := 0) hC dX7_stateOf_81 rfl ?_
        refine cj_goto (tgt := 107) hC dX7_stateOf_82 (by decide) ?_
        obtain rfl := Option.some.inj h
        exact cj_iret hC dX7_stateOf_107
    refine cj_icmp_eq (tgt := 69) hC dX7_stateOf_29 (by decide) (fun c3 => ?_) (fun c3 => ?_)
    · replace h := cb_T c3 h
      exact cj_pick [0, 1, 2] rfl (hk2 _ h)
    · replace h := cb_F c3 h
      refine cj_aload_n hC dX7_stateOf_32 rfl 0 rfl ?_
      refine cj_get (v := .ref (g.2.1 13)) hC fa_X7_46 cy_l0_ (cy_e0 g _) rfl dX7_stateOf_33 ?_
      refine cj_iload_n hC dX7_stateOf_36 rfl 2 rfl ?_
      obtain ⟨i4, h⟩ := cb_g h
      refine cj_iald hC cy_l13_ (cy_e13 g _) (cy_t0 g) i4 dX7_stateOf_37 ?_
      refine cj_iload_n hC dX7_stateOf_38 rfl 1 rfl ?_
      refine cj_icmp_gt (tgt := 69) hC dX7_stateOf_39 (by decide) (fun c4 => ?_) (fun c4 => ?_)
      · replace h := cb_T c4 h
        exact cj_pick [0, 1, 2] rfl (hk2 _ h)
      · replace h := cb_F c4 h
        refine cj_aload_n hC dX7_stateOf_42 rfl 0 rfl ?_
        refine cj_get (v := .ref (g.2.1 15)) hC fa_X7_52 cy_l0_ (cy_e0 g _) rfl dX7_stateOf_43 ?_
        refine cj_iload_n hC dX7_stateOf_46 rfl 2 rfl ?_
        obtain ⟨i5, h⟩ := cb_g h
        refine cj_iald hC cy_l15_ (cy_e15 g _) (cy_t0 g) i5 dX7_stateOf_47 ?_
        refine cj_iconst (v := (-1)) hC dX7_stateOf_48 rfl ?_
        refine cj_icmp_eq (tgt := 67) hC dX7_stateOf_49 (by decide) (fun c5 => ?_) (fun c5 => ?_)
        · replace h := cb_T c5 h
          refine cj_iconst (v := 3) hC dX7_stateOf_67 rfl ?_
          obtain rfl := Option.some.inj h
          exact cj_iret hC dX7_stateOf_68
        · replace h := cb_F c5 h
          refine cj_aload_n hC dX7_stateOf_52 rfl 0 rfl ?_
          refine cj_get (v := .ref (g.2.1 13)) hC fa_X7_46 cy_l0_ (cy_e0 g _) rfl dX7_stateOf_53 ?_
          refine cj_iload_n hC dX7_stateOf_56 rfl 2 rfl ?_
          obtain ⟨i6, h⟩ := cb_g h
          refine cj_iald hC cy_l13_ (cy_e13 g _) (cy_t0 g) i6 dX7_stateOf_57 ?_
          refine cj_aload_n hC dX7_stateOf_58 rfl 0 rfl ?_
          refine cj_get (v := .ref (g.2.1 15)) hC fa_X7_52 cy_l0_ (cy_e0 g _) rfl dX7_stateOf_59 ?_
          refine cj_iload_n hC dX7_stateOf_62 rfl 2 rfl ?_
          obtain ⟨i7, h⟩ := cb_g h
          refine cj_iald hC cy_l15_ (cy_e15 g _) (cy_t0 g) i7 dX7_stateOf_63 ?_
          refine cj_icmp_ge (tgt := 69) hC dX7_stateOf_64 (by decide) (fun c6 => ?_) (fun c6 => ?_)
          · replace h := cb_T c6 h
            exact cj_pick [0, 1, 2] rfl (hk2 _ h)
          · replace h := cb_F c6 h
            refine cj_iconst (v := 3) hC dX7_stateOf_67 rfl ?_
            obtain rfl := Option.some.inj h
            exact cj_iret hC dX7_stateOf_68
  refine cj_icmp_eq (tgt := 22) hC dX7_stateOf_7 (by decide) (fun c7 => ?_) (fun c7 => ?_)
  · replace h := cb_T c7 h
    exact cj_pick [0, 1, 2] rfl (hk1 _ h)
  · replace h := cb_F c7 h
    refine cj_aload_n hC dX7_stateOf_10 rfl 0 rfl ?_
    refine cj_get (v := .ref (g.2.1 15)) hC fa_X7_52 cy_l0_ (cy_e0 g _) rfl dX7_stateOf_11 ?_
    refine cj_iload_n hC dX7_stateOf_14 rfl 2 rfl ?_
    obtain ⟨i8, h⟩ := cb_g h
    refine cj_iald hC cy_l15_ (cy_e15 g _) (cy_t0 g) i8 dX7_stateOf_15 ?_
    refine cj_iload_n hC dX7_stateOf_16 rfl 1 rfl ?_
    refine cj_icmp_gt (tgt := 22) hC dX7_stateOf_17 (by decide) (fun c8 => ?_) (fun c8 => ?_)
    · replace h := cb_T c8 h
      exact cj_pick [0, 1, 2] rfl (hk1 _ h)
    · replace h := cb_F c8 h
      refine cj_iconst (v := 2) hC dX7_stateOf_20 rfl ?_
      obtain rfl := Option.some.inj h
      exact cj_iret hC dX7_stateOf_21
def f_X7_state (p1 : Int32) (p2 : Int32) (M : cb_Mem) : Option (Int32 × cb_Mem) :=
  (f_X7_find  M).bind fun M1 =>
  cb_let (f_X7_isDay p1) fun x1 =>
  if x1 = 0 then
  some (((-2) : Int32), M1)
  else
  cb_let (f_X7_isHead p2 M1) fun x2 =>
  if x2 = 0 then
  some (((-2) : Int32), M1)
  else
  (f_X7_stateOf p1 p2 M1).bind fun x3 =>
  some (x3, M1)
set_option maxRecDepth 100000 in
set_option maxHeartbeats 4000000 in
theorem c_X7_state (l : Launch) (g : cb_Geo) (p1 : Int32) (p2 : Int32) (M : cb_Mem) {rr : Int32} {Mr : cb_Mem} (h : f_X7_state p1 p2 M = some (rr, Mr)) : Met l yX7_state (.code yX7_state cX7_state 3 (some .int) :: cb_ws) (cb_rm 6) (cb_Pc cy g [.ref (g.2.1 0), .int p1, .int p2] M) (cb_Qi cy g rr Mr) 0 0 (cb_A cy g) := by
  refine cb_met (by decide) wd_1056 (Nat.le_of_ble_eq_true rfl) (fun γ hC => ?_)
  replace hC : cb_C cy g γ RX7 cX7_state 3 (some .int) 6 l (cb_Qi cy g rr Mr) := hC
  show cb_J cy g γ 3 M 0 [(0, .ref (g.2.1 0)), (1, .int p1), (2, .int p2)] []
  unfold f_X7_state at h
  refine cj_aload_n hC dX7_state_0 rfl 0 rfl ?_
  obtain ⟨M1, e1, h⟩ := cb_b h
  refine cj_callVv (As := []) hC cv_X7_200 cy_l0_ (cy_e0 g _) rfl (c_X7_find l g  M e1) (by decide) rfl rfl (Nat.le_of_ble_eq_true rfl) dX7_state_1 ?_
  refine cj_iload_n hC dX7_state_4 rfl 1 rfl ?_
  obtain ⟨x1, e2, h⟩ := cb_l h
  refine cj_callSi (As := [.int p1]) hC cs_X7_144 (c_X7_isDay l g p1 M1 e2.symm) (by decide) rfl rfl (Nat.le_of_ble_eq_true rfl) dX7_state_5 ?_
  refine cj_if_eq (tgt := 28) hC dX7_state_8 (by decide) (fun c1 => ?_) (fun c1 => ?_)
  · replace h := cb_T c1 h
    refine cj_bipush (v := (-2)) hC dX7_state_28 rfl ?_
    obtain ⟨rfl, rfl⟩ := cb_i2 h
    exact cj_iret hC dX7_state_30
  · replace h := cb_F c1 h
    refine cj_aload_n hC dX7_state_11 rfl 0 rfl ?_
    refine cj_iload_n hC dX7_state_12 rfl 2 rfl ?_
    obtain ⟨x2, e3, h⟩ := cb_l h
    refine cj_callVi (As := [.int p2]) hC cv_X7_136 cy_l0_ (cy_e0 g _) rfl (c_X7_isHead l g p2 M1 e3.symm) (by decide) rfl rfl (Nat.le_of_ble_eq_true rfl) dX7_state_13 ?_
    refine cj_if_eq (tgt := 28) hC dX7_state_16 (by decide) (fun c2 => ?_) (fun c2 => ?_)
    · replace h := cb_T c2 h
      refine cj_bipush (v := (-2)) hC dX7_state_28 rfl ?_
      obtain ⟨rfl, rfl⟩ := cb_i2 h
      exact cj_iret hC dX7_state_30
    · replace h := cb_F c2 h
      refine cj_aload_n hC dX7_state_19 rfl 0 rfl ?_
      refine cj_iload_n hC dX7_state_20 rfl 1 rfl ?_
      refine cj_iload_n hC dX7_state_21 rfl 2 rfl ?_
      obtain ⟨x3, e4, h⟩ := cb_b h
      refine cj_callVi (As := [.int p1, .int p2]) hC cv_X7_203 cy_l0_ (cy_e0 g _) rfl (c_X7_stateOf l g p1 p2 M1 e4) (by decide) rfl rfl (Nat.le_of_ble_eq_true rfl) dX7_state_22 ?_
      refine cj_goto (tgt := 30) hC dX7_state_25 (by decide) ?_
      obtain ⟨rfl, rfl⟩ := cb_i2 h
      exact cj_iret hC dX7_state_30
def f_X7_liftedBy (p1 : Int32) (p2 : Int32) (M : cb_Mem) : Option (Int32) :=
  if p2 = 0 then
  if cb_in p1 8 = true then
  some (M 12 p1.toNatClampNeg)
  else none
  else
  if p2 = 1 then
  if cb_in p1 8 = true then
  some (M 14 p1.toNatClampNeg)
  else none
  else
  if cb_in p1 8 = true then
  some (M 15 p1.toNatClampNeg)
  else none
set_option maxRecDepth 100000 in
set_option maxHeartbeats 4000000 in
theorem c_X7_liftedBy (l : Launch) (g : cb_Geo) (p1 : Int32) (p2 : Int32) (M : cb_Mem) {rr : Int32} (h : f_X7_liftedBy p1 p2 M = some rr) : Met l yX7_liftedBy (.code yX7_liftedBy cX7_liftedBy 3 (some .int) :: cb_ws) (cb_rm 0) (cb_Pc cy g [.ref (g.2.1 0), .int p1, .int p2] M) (cb_Qi cy g rr M) 0 0 (cb_A cy g) := by
  refine cb_met (by decide) wd_1114 (Nat.le_of_ble_eq_true rfl) (fun γ hC => ?_)
  replace hC : cb_C cy g γ RX7 cX7_liftedBy 3 (some .int) 0 l (cb_Qi cy g rr M) := hC
  show cb_J cy g γ 3 M 0 [(0, .ref (g.2.1 0)), (1, .int p1), (2, .int p2)] []
  unfold f_X7_liftedBy at h
  refine cj_iload_n hC dX7_liftedBy_0 rfl 2 rfl ?_
  refine cj_if_ne (tgt := 13) hC dX7_liftedBy_1 (by decide) (fun c1 => ?_) (fun c1 => ?_)
  · replace h := cb_F c1 h
    refine cj_iload_n hC dX7_liftedBy_13 rfl 2 rfl ?_
    refine cj_iconst (v := 1) hC dX7_liftedBy_14 rfl ?_
    refine cj_icmp_ne (tgt := 27) hC dX7_liftedBy_15 (by decide) (fun c2 => ?_) (fun c2 => ?_)
    · replace h := cb_F c2 h
      refine cj_aload_n hC dX7_liftedBy_27 rfl 0 rfl ?_
      refine cj_get (v := .ref (g.2.1 15)) hC fa_X7_52 cy_l0_ (cy_e0 g _) rfl dX7_liftedBy_28 ?_
      refine cj_iload_n hC dX7_liftedBy_31 rfl 1 rfl ?_
      obtain ⟨i1, h⟩ := cb_g h
      refine cj_iald hC cy_l15_ (cy_e15 g _) (cy_t0 g) i1 dX7_liftedBy_32 ?_
      obtain rfl := Option.some.inj h
      exact cj_iret hC dX7_liftedBy_33
    · replace h := cb_T c2 h
      refine cj_aload_n hC dX7_liftedBy_18 rfl 0 rfl ?_
      refine cj_get (v := .ref (g.2.1 14)) hC fa_X7_49 cy_l0_ (cy_e0 g _) rfl dX7_liftedBy_19 ?_
      refine cj_iload_n hC dX7_liftedBy_22 rfl 1 rfl ?_
      obtain ⟨i2, h⟩ := cb_g h
      refine cj_iald hC cy_l14_ (cy_e14 g _) (cy_t0 g) i2 dX7_liftedBy_23 ?_
      refine cj_goto (tgt := 33) hC dX7_liftedBy_24 (by decide) ?_
      obtain rfl := Option.some.inj h
      exact cj_iret hC dX7_liftedBy_33
  · replace h := cb_T c1 h
    refine cj_aload_n hC dX7_liftedBy_4 rfl 0 rfl ?_
    refine cj_get (v := .ref (g.2.1 12)) hC fa_X7_43 cy_l0_ (cy_e0 g _) rfl dX7_liftedBy_5 ?_
    refine cj_iload_n hC dX7_liftedBy_8 rfl 1 rfl ?_
    obtain ⟨i3, h⟩ := cb_g h
    refine cj_iald hC cy_l12_ (cy_e12 g _) (cy_t0 g) i3 dX7_liftedBy_9 ?_
    refine cj_goto (tgt := 33) hC dX7_liftedBy_10 (by decide) ?_
    obtain rfl := Option.some.inj h
    exact cj_iret hC dX7_liftedBy_33
def f_X7_lifted (p1 : Int32) (p2 : Int32) (M : cb_Mem) : Option (Int32 × cb_Mem) :=
  (f_X7_find  M).bind fun M1 =>
  cb_let (f_X7_isHead p1 M1) fun x1 =>
  if x1 = 0 then
  some (((-2) : Int32), M1)
  else
  cb_let (f_X7_in p2.toInt64 0 2) fun x2 =>
  if x2 = 0 then
  some (((-2) : Int32), M1)
  else
  (f_X7_liftedBy p1 p2 M1).bind fun x3 =>
  some (x3, M1)
set_option maxRecDepth 100000 in
set_option maxHeartbeats 4000000 in
theorem c_X7_lifted (l : Launch) (g : cb_Geo) (p1 : Int32) (p2 : Int32) (M : cb_Mem) {rr : Int32} {Mr : cb_Mem} (h : f_X7_lifted p1 p2 M = some (rr, Mr)) : Met l yX7_lifted (.code yX7_lifted cX7_lifted 3 (some .int) :: cb_ws) (cb_rm 6) (cb_Pc cy g [.ref (g.2.1 0), .int p1, .int p2] M) (cb_Qi cy g rr Mr) 0 0 (cb_A cy g) := by
  refine cb_met (by decide) wd_1110 (Nat.le_of_ble_eq_true rfl) (fun γ hC => ?_)
  replace hC : cb_C cy g γ RX7 cX7_lifted 3 (some .int) 6 l (cb_Qi cy g rr Mr) := hC
  show cb_J cy g γ 3 M 0 [(0, .ref (g.2.1 0)), (1, .int p1), (2, .int p2)] []
  unfold f_X7_lifted at h
  refine cj_aload_n hC dX7_lifted_0 rfl 0 rfl ?_
  obtain ⟨M1, e1, h⟩ := cb_b h
  refine cj_callVv (As := []) hC cv_X7_200 cy_l0_ (cy_e0 g _) rfl (c_X7_find l g  M e1) (by decide) rfl rfl (Nat.le_of_ble_eq_true rfl) dX7_lifted_1 ?_
  refine cj_aload_n hC dX7_lifted_4 rfl 0 rfl ?_
  refine cj_iload_n hC dX7_lifted_5 rfl 1 rfl ?_
  obtain ⟨x1, e2, h⟩ := cb_l h
  refine cj_callVi (As := [.int p1]) hC cv_X7_136 cy_l0_ (cy_e0 g _) rfl (c_X7_isHead l g p1 M1 e2.symm) (by decide) rfl rfl (Nat.le_of_ble_eq_true rfl) dX7_lifted_6 ?_
  refine cj_if_eq (tgt := 33) hC dX7_lifted_9 (by decide) (fun c1 => ?_) (fun c1 => ?_)
  · replace h := cb_T c1 h
    refine cj_bipush (v := (-2)) hC dX7_lifted_33 rfl ?_
    obtain ⟨rfl, rfl⟩ := cb_i2 h
    exact cj_iret hC dX7_lifted_35
  · replace h := cb_F c1 h
    refine cj_iload_n hC dX7_lifted_12 rfl 2 rfl ?_
    refine cj_i2l hC dX7_lifted_13 ?_
    refine cj_lconst (v := 0) hC dX7_lifted_14 rfl ?_
    refine cj_ldc2_w (v := 2) hC wd_948 dX7_lifted_15 ?_
    obtain ⟨x2, e3, h⟩ := cb_l h
    refine cj_callSi (As := [.long p2.toInt64, .long 0, .long 2]) hC cs_X7_79 (c_X7_in l g p2.toInt64 0 2 M1 e3.symm) (by decide) rfl rfl (Nat.le_of_ble_eq_true rfl) dX7_lifted_18 ?_
    refine cj_if_eq (tgt := 33) hC dX7_lifted_21 (by decide) (fun c2 => ?_) (fun c2 => ?_)
    · replace h := cb_T c2 h
      refine cj_bipush (v := (-2)) hC dX7_lifted_33 rfl ?_
      obtain ⟨rfl, rfl⟩ := cb_i2 h
      exact cj_iret hC dX7_lifted_35
    · replace h := cb_F c2 h
      refine cj_aload_n hC dX7_lifted_24 rfl 0 rfl ?_
      refine cj_iload_n hC dX7_lifted_25 rfl 1 rfl ?_
      refine cj_iload_n hC dX7_lifted_26 rfl 2 rfl ?_
      obtain ⟨x3, e4, h⟩ := cb_b h
      refine cj_callVi (As := [.int p1, .int p2]) hC cv_X7_206 cy_l0_ (cy_e0 g _) rfl (c_X7_liftedBy l g p1 p2 M1 e4) (by decide) rfl rfl (Nat.le_of_ble_eq_true rfl) dX7_lifted_27 ?_
      refine cj_goto (tgt := 35) hC dX7_lifted_30 (by decide) ?_
      obtain ⟨rfl, rfl⟩ := cb_i2 h
      exact cj_iret hC dX7_lifted_35
def f_X7_getsBy (p1 : Int32) (p2 : Int32) (M : cb_Mem) : Option (Int32) :=
  if p2 = 0 then
  if cb_in p1 8 = true then
  some (M 16 p1.toNatClampNeg)
  else none
  else
  if p2 = 1 then
  if cb_in p1 8 = true then
  some (M 17 p1.toNatClampNeg)
  else none
  else
  if cb_in p1 8 = true then
  some (M 18 p1.toNatClampNeg)
  else none
set_option maxRecDepth 100000 in
set_option maxHeartbeats 4000000 in
theorem c_X7_getsBy (l : Launch) (g : cb_Geo) (p1 : Int32) (p2 : Int32) (M : cb_Mem) {rr : Int32} (h : f_X7_getsBy p1 p2 M = some rr) : Met l yX7_getsBy (.code yX7_getsBy cX7_getsBy 3 (some .int) :: cb_ws) (cb_rm 0) (cb_Pc cy g [.ref (g.2.1 0), .int p1, .int p2] M) (cb_Qi cy g rr M) 0 0 (cb_A cy g) := by
  refine cb_met (by decide) wd_1122 (Nat.le_of_ble_eq_true rfl) (fun γ hC => ?_)
  replace hC : cb_C cy g γ RX7 cX7_getsBy 3 (some .int) 0 l (cb_Qi cy g rr M) := hC
  show cb_J cy g γ 3 M 0 [(0, .ref (g.2.1 0)), (1, .int p1), (2, .int p2)] []
  unfold f_X7_getsBy at h
  refine cj_iload_n hC dX7_getsBy_0 rfl 2 rfl ?_
  refine cj_if_ne (tgt := 13) hC dX7_getsBy_1 (by decide) (fun c1 => ?_) (fun c1 => ?_)
  · replace h := cb_F c1 h
    refine cj_iload_n hC dX7_getsBy_13 rfl 2 rfl ?_
    refine cj_iconst (v := 1) hC dX7_getsBy_14 rfl ?_
    refine cj_icmp_ne (tgt := 27) hC dX7_getsBy_15 (by decide) (fun c2 => ?_) (fun c2 => ?_)
    · replace h := cb_F c2 h
      refine cj_aload_n hC dX7_getsBy_27 rfl 0 rfl ?_
      refine cj_get (v := .ref (g.2.1 18)) hC fa_X7_61 cy_l0_ (cy_e0 g _) rfl dX7_getsBy_28 ?_
      refine cj_iload_n hC dX7_getsBy_31 rfl 1 rfl ?_
      obtain ⟨i1, h⟩ := cb_g h
      refine cj_iald hC cy_l18_ (cy_e18 g _) (cy_t0 g) i1 dX7_getsBy_32 ?_
      obtain rfl := Option.some.inj h
      exact cj_iret hC dX7_getsBy_33
    · replace h := cb_T c2 h
      refine cj_aload_n hC dX7_getsBy_18 rfl 0 rfl ?_
      refine cj_get (v := .ref (g.2.1 17)) hC fa_X7_58 cy_l0_ (cy_e0 g _) rfl dX7_getsBy_19 ?_
      refine cj_iload_n hC dX7_getsBy_22 rfl 1 rfl ?_
      obtain ⟨i2, h⟩ := cb_g h
      refine cj_iald hC cy_l17_ (cy_e17 g _) (cy_t0 g) i2 dX7_getsBy_23 ?_
      refine cj_goto (tgt := 33) hC dX7_getsBy_24 (by decide) ?_
      obtain rfl := Option.some.inj h
      exact cj_iret hC dX7_getsBy_33
  · replace h := cb_T c1 h
    refine cj_aload_n hC dX7_getsBy_4 rfl 0 rfl ?_
    refine cj_get (v := .ref (g.2.1 16)) hC fa_X7_55 cy_l0_ (cy_e0 g _) rfl dX7_getsBy_5 ?_
    refine cj_iload_n hC dX7_getsBy_8 rfl 1 rfl ?_
    obtain ⟨i3, h⟩ := cb_g h
    refine cj_iald hC cy_l16_ (cy_e16 g _) (cy_t0 g) i3 dX7_getsBy_9 ?_
    refine cj_goto (tgt := 33) hC dX7_getsBy_10 (by decide) ?_
    obtain rfl := Option.some.inj h
    exact cj_iret hC dX7_getsBy_33
def f_X7_gets (p1 : Int32) (p2 : Int32) (M : cb_Mem) : Option (Int32 × cb_Mem) :=
  (f_X7_find  M).bind fun M1 =>
  cb_let (f_X7_isCouple p1 M1) fun x1 =>
  if x1 = 0 then
  some (((-2) : Int32), M1)
  else
  cb_let (f_X7_in p2.toInt64 0 2) fun x2 =>
  if x2 = 0 then
  some (((-2) : Int32), M1)
  else
  (f_X7_getsBy p1 p2 M1).bind fun x3 =>
  some (x3, M1)
set_option maxRecDepth 100000 in
set_option maxHeartbeats 4000000 in
theorem c_X7_gets (l : Launch) (g : cb_Geo) (p1 : Int32) (p2 : Int32) (M : cb_Mem) {rr : Int32} {Mr : cb_Mem} (h : f_X7_gets p1 p2 M = some (rr, Mr)) : Met l yX7_gets (.code yX7_gets cX7_gets 3 (some .int) :: cb_ws) (cb_rm 6) (cb_Pc cy g [.ref (g.2.1 0), .int p1, .int p2] M) (cb_Qi cy g rr Mr) 0 0 (cb_A cy g) := by
  refine cb_met (by decide) wd_1118 (Nat.le_of_ble_eq_true rfl) (fun γ hC => ?_)
  replace hC : cb_C cy g γ RX7 cX7_gets 3 (some .int) 6 l (cb_Qi cy g rr Mr) := hC
  show cb_J cy g γ 3 M 0 [(0, .ref (g.2.1 0)), (1, .int p1), (2, .int p2)] []
  unfold f_X7_gets at h
  refine cj_aload_n hC dX7_gets_0 rfl 0 rfl ?_
  obtain ⟨M1, e1, h⟩ := cb_b h
  refine cj_callVv (As := []) hC cv_X7_200 cy_l0_ (cy_e0 g _) rfl (c_X7_find l g  M e1) (by decide) rfl rfl (Nat.le_of_ble_eq_true rfl) dX7_gets_1 ?_
  refine cj_aload_n hC dX7_gets_4 rfl 0 rfl ?_
  refine cj_iload_n hC dX7_gets_5 rfl 1 rfl ?_
  obtain ⟨x1, e2, h⟩ := cb_l h
  refine cj_callVi (As := [.int p1]) hC cv_X7_139 cy_l0_ (cy_e0 g _) rfl (c_X7_isCouple l g p1 M1 e2.symm) (by decide) rfl rfl (Nat.le_of_ble_eq_true rfl) dX7_gets_6 ?_
  refine cj_if_eq (tgt := 33) hC dX7_gets_9 (by decide) (fun c1 => ?_) (fun c1 => ?_)
  · replace h := cb_T c1 h
    refine cj_bipush (v := (-2)) hC dX7_gets_33 rfl ?_
    obtain ⟨rfl, rfl⟩ := cb_i2 h
    exact cj_iret hC dX7_gets_35
  · replace h := cb_F c1 h
    refine cj_iload_n hC dX7_gets_12 rfl 2 rfl ?_
    refine cj_i2l hC dX7_gets_13 ?_
    refine cj_lconst (v := 0) hC dX7_gets_14 rfl ?_
    refine cj_ldc2_w (v := 2) hC wd_948 dX7_gets_15 ?_
    obtain ⟨x2, e3, h⟩ := cb_l h
    refine cj_callSi (As := [.long p2.toInt64, .long 0, .long 2]) hC cs_X7_79 (c_X7_in l g p2.toInt64 0 2 M1 e3.symm) (by decide) rfl rfl (Nat.le_of_ble_eq_true rfl) dX7_gets_18 ?_
    refine cj_if_eq (tgt := 33) hC dX7_gets_21 (by decide) (fun c2 => ?_) (fun c2 => ?_)
    · replace h := cb_T c2 h
      refine cj_bipush (v := (-2)) hC dX7_gets_33 rfl ?_
      obtain ⟨rfl, rfl⟩ := cb_i2 h
      exact cj_iret hC dX7_gets_35
    · replace h := cb_F c2 h
      refine cj_aload_n hC dX7_gets_24 rfl 0 rfl ?_
      refine cj_iload_n hC dX7_gets_25 rfl 1 rfl ?_
      refine cj_iload_n hC dX7_gets_26 rfl 2 rfl ?_
      obtain ⟨x3, e4, h⟩ := cb_b h
      refine cj_callVi (As := [.int p1, .int p2]) hC cv_X7_209 cy_l0_ (cy_e0 g _) rfl (c_X7_getsBy l g p1 p2 M1 e4) (by decide) rfl rfl (Nat.le_of_ble_eq_true rfl) dX7_gets_27 ?_
      refine cj_goto (tgt := 35) hC dX7_gets_30 (by decide) ?_
      obtain ⟨rfl, rfl⟩ := cb_i2 h
      exact cj_iret hC dX7_gets_35
def f_X7_childrenBy_L4 : Nat → Int32 → Int32 → Int32 → cb_Mem → Option (Int32)
    | 0, _, _, _, _ => none
    | n + 1, v1, v2, v3, M =>
      if (M 0 9) ≤ v3 then
      some v2
      else
      if cb_in v3 8 = true then
      Option.bind (if v1 < (M 17 v3.toNatClampNeg) then
      some (0 : Int32)
      else
      if cb_in v3 8 = true then
      some (M 18 v3.toNatClampNeg)
      else none) fun x1 =>
      cb_let ((v2 + x1)) fun x2 =>
      f_X7_childrenBy_L4 n v1 x2 (v3 + 1) M
      else none
def f_X7_childrenBy (p1 : Int32) (M : cb_Mem) : Option (Int32) :=
  (f_X7_childrenBy_L4 cb_fuel p1 0 0 M).bind fun x1 =>
  some x1
set_option maxRecDepth 100000 in
set_option maxHeartbeats 4000000 in
theorem l_X7_childrenBy_L4 {l : Launch} {g : cb_Geo} {γ : cb_Gam} {rr : Int32} {M : cb_Mem} (hC : cb_C cy g γ RX7 cX7_childrenBy 4 (some .int) 0 l (cb_Qi cy g rr M)) (v1 : Int32) : ∀ (n : Nat) (v2 : Int32) (v3 : Int32) (o : (Int32)), f_X7_childrenBy_L4 n v1 v2 v3 M = some o → (∀ (v2' : Int32), o = v2' → cb_J cy g γ 4 M 41 [(2, .int v2')] []) → cb_J cy g γ 4 M 4 [(0, .ref (g.2.1 0)), (1, .int v1), (2, .int v2), (3, .int v3)] [] := by
  intro n
  induction n with
  | zero =>
    intro v2 v3 o h
    cases h
  | succ n ih =>
    intro v2 v3 o h hexit
    unfold f_X7_childrenBy_L4 at h
    refine cj_iload_n hC dX7_childrenBy_4 rfl 3 rfl ?_
    refine cj_aload_n hC dX7_childrenBy_5 rfl 0 rfl ?_
    refine cj_get (v := .int (M 0 9)) hC fa_X7_124 cy_l0_ (cy_e0 g _) rfl dX7_childrenBy_6 ?_
    refine cj_icmp_ge (tgt := 41) hC dX7_childrenBy_9 (by decide) (fun c1 => ?_) (fun c1 => ?_)
    · replace h := cb_T c1 h
      obtain rfl := Option.some.inj h
      exact cj_pick [2] rfl (hexit _ rfl)
    · replace h := cb_F c1 h
      refine cj_iload_n hC dX7_childrenBy_12 rfl 2 rfl ?_
      refine cj_aload_n hC dX7_childrenBy_13 rfl 0 rfl ?_
      refine cj_get (v := .ref (g.2.1 17)) hC fa_X7_58 cy_l0_ (cy_e0 g _) rfl dX7_childrenBy_14 ?_
      refine cj_iload_n hC dX7_childrenBy_17 rfl 3 rfl ?_
      obtain ⟨i1, h⟩ := cb_g h
      refine cj_iald hC cy_l17_ (cy_e17 g _) (cy_t0 g) i1 dX7_childrenBy_18 ?_
      refine cj_iload_n hC dX7_childrenBy_19 rfl 1 rfl ?_
      obtain ⟨x1, hx1, h⟩ := cb_b h
      have hj1 : cb_J cy g γ 4 M 33 [(0, .ref (g.2.1 0)), (1, .int v1), (3, .int v3)] [.int x1, .int v2] := by
        refine cj_iadd hC dX7_childrenBy_33 ?_
        obtain ⟨x2, ex2, h⟩ := cb_l h
        refine cj_topi ex2 ?_
        refine cj_istore_n (lv' := [(2, .int x2), (0, .ref (g.2.1 0)), (1, .int v1), (3, .int v3)]) hC dX7_childrenBy_34 rfl (by decide) rfl ?_
        refine cj_iinc (lv' := [(3, .int (v3 + 1)), (2, .int x2), (0, .ref (g.2.1 0)), (1, .int v1)]) hC dX7_childrenBy_35 (q := 3) rfl rfl (by decide) rfl ?_
        refine cj_goto (tgt := 4) hC dX7_childrenBy_38 (by decide) ?_
        exact cj_pick [2, 3, 1, 0] rfl (ih _ _ _ h hexit)
      refine cj_icmp_gt (tgt := 32) hC dX7_childrenBy_20 (by decide) (fun c2 => ?_) (fun c2 => ?_)
      · replace hx1 := cb_T c2 hx1
        refine cj_iconst (v := 0) hC dX7_childrenBy_32 rfl ?_
        obtain rfl := Option.some.inj hx1
        exact cj_pick [0, 1, 3] rfl hj1
      · replace hx1 := cb_F c2 hx1
        refine cj_aload_n hC dX7_childrenBy_23 rfl 0 rfl ?_
        refine cj_get (v := .ref (g.2.1 18)) hC fa_X7_61 cy_l0_ (cy_e0 g _) rfl dX7_childrenBy_24 ?_
        refine cj_iload_n hC dX7_childrenBy_27 rfl 3 rfl ?_
        obtain ⟨i2, hx1⟩ := cb_g hx1
        refine cj_iald hC cy_l18_ (cy_e18 g _) (cy_t0 g) i2 dX7_childrenBy_28 ?_
        refine cj_goto (tgt := 33) hC dX7_childrenBy_29 (by decide) ?_
        obtain rfl := Option.some.inj hx1
        exact cj_pick [0, 1, 3] rfl hj1
set_option maxRecDepth 100000 in
set_option maxHeartbeats 4000000 in
theorem c_X7_childrenBy (l : Launch) (g : cb_Geo) (p1 : Int32) (M : cb_Mem) {rr : Int32} (h : f_X7_childrenBy p1 M = some rr) : Met l yX7_childrenBy (.code yX7_childrenBy cX7_childrenBy 4 (some .int) :: cb_ws) (cb_rm 0) (cb_Pc cy g [.ref (g.2.1 0), .int p1] M) (cb_Qi cy g rr M) 0 0 (cb_A cy g) := by
  refine cb_met (by decide) wd_1130 (Nat.le_of_ble_eq_true rfl) (fun γ hC => ?_)
  replace hC : cb_C cy g γ RX7 cX7_childrenBy 4 (some .int) 0 l (cb_Qi cy g rr M) := hC
  show cb_J cy g γ 4 M 0 [(0, .ref (g.2.1 0)), (1, .int p1)] []
  unfold f_X7_childrenBy at h
  refine cj_iconst (v := 0) hC dX7_childrenBy_0 rfl ?_
  refine cj_istore_n (lv' := [(2, .int 0), (0, .ref (g.2.1 0)), (1, .int p1)]) hC dX7_childrenBy_1 rfl (by decide) rfl ?_
  refine cj_iconst (v := 0) hC dX7_childrenBy_2 rfl ?_
  refine cj_istore_n (lv' := [(3, .int 0), (2, .int 0), (0, .ref (g.2.1 0)), (1, .int p1)]) hC dX7_childrenBy_3 rfl (by decide) rfl ?_
  obtain ⟨x1, e1, h⟩ := cb_b h
  refine cj_pick [2, 3, 1, 0] rfl ?_
  refine l_X7_childrenBy_L4 hC p1 cb_fuel _ _ _ e1 (fun ze1 hz => ?_)
  obtain rfl := hz
  refine cj_iload_n hC dX7_childrenBy_41 rfl 0 rfl ?_
  obtain rfl := Option.some.inj h
  exact cj_iret hC dX7_childrenBy_42
def f_X7_children (p1 : Int32) (M : cb_Mem) : Option (Int32 × cb_Mem) :=
  (f_X7_find  M).bind fun M1 =>
  cb_let (f_X7_isDay p1) fun x1 =>
  if x1 = 0 then
  some (((-2) : Int32), M1)
  else
  (f_X7_childrenBy p1 M1).bind fun x2 =>
  some (x2, M1)
set_option maxRecDepth 100000 in
set_option maxHeartbeats 4000000 in
theorem c_X7_children (l : Launch) (g : cb_Geo) (p1 : Int32) (M : cb_Mem) {rr : Int32} {Mr : cb_Mem} (h : f_X7_children p1 M = some (rr, Mr)) : Met l yX7_children (.code yX7_children cX7_children 2 (some .int) :: cb_ws) (cb_rm 6) (cb_Pc cy g [.ref (g.2.1 0), .int p1] M) (cb_Qi cy g rr Mr) 0 0 (cb_A cy g) := by
  refine cb_met (by decide) wd_1126 (Nat.le_of_ble_eq_true rfl) (fun γ hC => ?_)
  replace hC : cb_C cy g γ RX7 cX7_children 2 (some .int) 6 l (cb_Qi cy g rr Mr) := hC
  show cb_J cy g γ 2 M 0 [(0, .ref (g.2.1 0)), (1, .int p1)] []
  unfold f_X7_children at h
  refine cj_aload_n hC dX7_children_0 rfl 0 rfl ?_
  obtain ⟨M1, e1, h⟩ := cb_b h
  refine cj_callVv (As := []) hC cv_X7_200 cy_l0_ (cy_e0 g _) rfl (c_X7_find l g  M e1) (by decide) rfl rfl (Nat.le_of_ble_eq_true rfl) dX7_children_1 ?_
  refine cj_iload_n hC dX7_children_4 rfl 1 rfl ?_
  obtain ⟨x1, e2, h⟩ := cb_l h
  refine cj_callSi (As := [.int p1]) hC cs_X7_144 (c_X7_isDay l g p1 M1 e2.symm) (by decide) rfl rfl (Nat.le_of_ble_eq_true rfl) dX7_children_5 ?_
  refine cj_if_eq (tgt := 19) hC dX7_children_8 (by decide) (fun c1 => ?_) (fun c1 => ?_)
  · replace h := cb_T c1 h
    refine cj_bipush (v := (-2)) hC dX7_children_19 rfl ?_
    obtain ⟨rfl, rfl⟩ := cb_i2 h
    exact cj_iret hC dX7_children_21
  · replace h := cb_F c1 h
    refine cj_aload_n hC dX7_children_11 rfl 0 rfl ?_
    refine cj_iload_n hC dX7_children_12 rfl 1 rfl ?_
    obtain ⟨x2, e3, h⟩ := cb_b h
    refine cj_callVi (As := [.int p1]) hC cv_X7_212 cy_l0_ (cy_e0 g _) rfl (c_X7_childrenBy l g p1 M1 e3) (by decide) rfl rfl (Nat.le_of_ble_eq_true rfl) dX7_children_13 ?_
    refine cj_goto (tgt := 21) hC dX7_children_16 (by decide) ?_
    obtain ⟨rfl, rfl⟩ := cb_i2 h
    exact cj_iret hC dX7_children_21
def f_X7_withoutNow_L4 : Nat → Int32 → Int32 → cb_Mem → Option (Int32)
    | 0, _, _, _ => none
    | n + 1, v1, v2, M =>
      if (M 0 9) ≤ v2 then
      some v1
      else
      if cb_in v2 8 = true then
      cb_let (if (M 16 v2.toNatClampNeg) = (-1) then
      ((1 : Int32) <<< (v2 &&& 31))
      else
      (0 : Int32)) fun x1 =>
      cb_let ((v1 ||| x1)) fun x2 =>
      f_X7_withoutNow_L4 n x2 (v2 + 1) M
      else none
def f_X7_withoutNow  (M : cb_Mem) : Option (Int32) :=
  (f_X7_withoutNow_L4 cb_fuel 0 0 M).bind fun x1 =>
  some x1
set_option maxRecDepth 100000 in
set_option maxHeartbeats 4000000 in
theorem l_X7_withoutNow_L4 {l : Launch} {g : cb_Geo} {γ : cb_Gam} {rr : Int32} {M : cb_Mem} (hC : cb_C cy g γ RX7 cX7_withoutNow 3 (some .int) 0 l (cb_Qi cy g rr M))  : ∀ (n : Nat) (v1 : Int32) (v2 : Int32) (o : (Int32)), f_X7_withoutNow_L4 n v1 v2 M = some o → (∀ (v1' : Int32), o = v1' → cb_J cy g γ 3 M 38 [(1, .int v1')] []) → cb_J cy g γ 3 M 4 [(0, .ref (g.2.1 0)), (1, .int v1), (2, .int v2)] [] := by
  intro n
  induction n with
  | zero =>
    intro v1 v2 o h
    cases h
  | succ n ih =>
    intro v1 v2 o h hexit
    unfold f_X7_withoutNow_L4 at h
    refine cj_iload_n hC dX7_withoutNow_4 rfl 2 rfl ?_
    refine cj_aload_n hC dX7_withoutNow_5 rfl 0 rfl ?_
    refine cj_get (v := .int (M 0 9)) hC fa_X7_124 cy_l0_ (cy_e0 g _) rfl dX7_withoutNow_6 ?_
    refine cj_icmp_ge (tgt := 38) hC dX7_withoutNow_9 (by decide) (fun c1 => ?_) (fun c1 => ?_)
    · replace h := cb_T c1 h
      obtain rfl := Option.some.inj h
      exact cj_pick [1] rfl (hexit _ rfl)
    · replace h := cb_F c1 h
      refine cj_iload_n hC dX7_withoutNow_12 rfl 1 rfl ?_
      refine cj_aload_n hC dX7_withoutNow_13 rfl 0 rfl ?_
      refine cj_get (v := .ref (g.2.1 16)) hC fa_X7_55 cy_l0_ (cy_e0 g _) rfl dX7_withoutNow_14 ?_
      refine cj_iload_n hC dX7_withoutNow_17 rfl 2 rfl ?_
      obtain ⟨i1, h⟩ := cb_g h
      refine cj_iald hC cy_l16_ (cy_e16 g _) (cy_t0 g) i1 dX7_withoutNow_18 ?_
      refine cj_iconst (v := (-1)) hC dX7_withoutNow_19 rfl ?_
      obtain ⟨x1, hx1, h⟩ := cb_l h
      replace hx1 := hx1.symm
      have hj1 : cb_J cy g γ 3 M 30 [(0, .ref (g.2.1 0)), (2, .int v2)] [.int x1, .int v1] := by
        refine cj_ior hC dX7_withoutNow_30 ?_
        obtain ⟨x2, ex2, h⟩ := cb_l h
        refine cj_topi ex2 ?_
        refine cj_istore_n (lv' := [(1, .int x2), (0, .ref (g.2.1 0)), (2, .int v2)]) hC dX7_withoutNow_31 rfl (by decide) rfl ?_
        refine cj_iinc (lv' := [(2, .int (v2 + 1)), (1, .int x2), (0, .ref (g.2.1 0))]) hC dX7_withoutNow_32 (q := 2) rfl rfl (by decide) rfl ?_
        refine cj_goto (tgt := 4) hC dX7_withoutNow_35 (by decide) ?_
        exact cj_pick [2, 1, 0] rfl (ih _ _ _ h hexit)
      refine cj_icmp_ne (tgt := 29) hC dX7_withoutNow_20 (by decide) (fun c2 => ?_) (fun c2 => ?_)
      · replace hx1 := cb_F c2 hx1
        refine cj_iconst (v := 0) hC dX7_withoutNow_29 rfl ?_
        obtain rfl := hx1
        exact cj_pick [0, 2] rfl hj1
      · replace hx1 := cb_T c2 hx1
        refine cj_iconst (v := 1) hC dX7_withoutNow_23 rfl ?_
        refine cj_iload_n hC dX7_withoutNow_24 rfl 2 rfl ?_
        refine cj_ishl hC dX7_withoutNow_25 ?_
        refine cj_goto (tgt := 30) hC dX7_withoutNow_26 (by decide) ?_
        obtain rfl := hx1
        exact cj_pick [0, 2] rfl hj1
set_option maxRecDepth 100000 in
set_option maxHeartbeats 4000000 in
theorem c_X7_withoutNow (l : Launch) (g : cb_Geo)  (M : cb_Mem) {rr : Int32} (h : f_X7_withoutNow  M = some rr) : Met l yX7_withoutNow (.code yX7_withoutNow cX7_withoutNow 3 (some .int) :: cb_ws) (cb_rm 0) (cb_Pc cy g [.ref (g.2.1 0)] M) (cb_Qi cy g rr M) 0 0 (cb_A cy g) := by
  refine cb_met (by decide) wd_1138 (Nat.le_of_ble_eq_true rfl) (fun γ hC => ?_)
  replace hC : cb_C cy g γ RX7 cX7_withoutNow 3 (some .int) 0 l (cb_Qi cy g rr M) := hC
  show cb_J cy g γ 3 M 0 [(0, .ref (g.2.1 0))] []
  unfold f_X7_withoutNow at h
  refine cj_iconst (v := 0) hC dX7_withoutNow_0 rfl ?_
  refine cj_istore_n (lv' := [(1, .int 0), (0, .ref (g.2.1 0))]) hC dX7_withoutNow_1 rfl (by decide) rfl ?_
  refine cj_iconst (v := 0) hC dX7_withoutNow_2 rfl ?_
  refine cj_istore_n (lv' := [(2, .int 0), (1, .int 0), (0, .ref (g.2.1 0))]) hC dX7_withoutNow_3 rfl (by decide) rfl ?_
  obtain ⟨x1, e1, h⟩ := cb_b h
  refine cj_pick [2, 1, 0] rfl ?_
  refine l_X7_withoutNow_L4 hC  cb_fuel _ _ _ e1 (fun ze1 hz => ?_)
  obtain rfl := hz
  refine cj_iload_n hC dX7_withoutNow_38 rfl 0 rfl ?_
  obtain rfl := Option.some.inj h
  exact cj_iret hC dX7_withoutNow_39
def f_X7_without  (M : cb_Mem) : Option (Int32 × cb_Mem) :=
  (f_X7_find  M).bind fun M1 =>
  (f_X7_withoutNow  M1).bind fun x1 =>
  some (x1, M1)
set_option maxRecDepth 100000 in
set_option maxHeartbeats 4000000 in
theorem c_X7_without (l : Launch) (g : cb_Geo)  (M : cb_Mem) {rr : Int32} {Mr : cb_Mem} (h : f_X7_without  M = some (rr, Mr)) : Met l yX7_without (.code yX7_without cX7_without 1 (some .int) :: cb_ws) (cb_rm 6) (cb_Pc cy g [.ref (g.2.1 0)] M) (cb_Qi cy g rr Mr) 0 0 (cb_A cy g) := by
  refine cb_met (by decide) wd_1134 (Nat.le_of_ble_eq_true rfl) (fun γ hC => ?_)
  replace hC : cb_C cy g γ RX7 cX7_without 1 (some .int) 6 l (cb_Qi cy g rr Mr) := hC
  show cb_J cy g γ 1 M 0 [(0, .ref (g.2.1 0))] []
  unfold f_X7_without at h
  refine cj_aload_n hC dX7_without_0 rfl 0 rfl ?_
  obtain ⟨M1, e1, h⟩ := cb_b h
  refine cj_callVv (As := []) hC cv_X7_200 cy_l0_ (cy_e0 g _) rfl (c_X7_find l g  M e1) (by decide) rfl rfl (Nat.le_of_ble_eq_true rfl) dX7_without_1 ?_
  refine cj_aload_n hC dX7_without_4 rfl 0 rfl ?_
  obtain ⟨x1, e2, h⟩ := cb_b h
  refine cj_callVi (As := []) hC cv_X7_215 cy_l0_ (cy_e0 g _) rfl (c_X7_withoutNow l g  M1 e2) (by decide) rfl rfl (Nat.le_of_ble_eq_true rfl) dX7_without_5 ?_
  obtain ⟨rfl, rfl⟩ := cb_i2 h
  exact cj_iret hC dX7_without_8
def f_X7_turn (p1 : Int32) (M : cb_Mem) : Option (Int32 × cb_Mem) :=
  (f_X7_find  M).bind fun M1 =>
  cb_let (f_X7_isTwo p1) fun x1 =>
  if x1 = 0 then
  some (((-2) : Int32), M1)
  else
  if p1 = 0 then
  some ((M1 0 24), M1)
  else
  some ((M1 0 25), M1)
set_option maxRecDepth 100000 in
set_option maxHeartbeats 4000000 in
theorem c_X7_turn (l : Launch) (g : cb_Geo) (p1 : Int32) (M : cb_Mem) {rr : Int32} {Mr : cb_Mem} (h : f_X7_turn p1 M = some (rr, Mr)) : Met l yX7_turn (.code yX7_turn cX7_turn 2 (some .int) :: cb_ws) (cb_rm 6) (cb_Pc cy g [.ref (g.2.1 0), .int p1] M) (cb_Qi cy g rr Mr) 0 0 (cb_A cy g) := by
  refine cb_met (by decide) wd_1142 (Nat.le_of_ble_eq_true rfl) (fun γ hC => ?_)
  replace hC : cb_C cy g γ RX7 cX7_turn 2 (some .int) 6 l (cb_Qi cy g rr Mr) := hC
  show cb_J cy g γ 2 M 0 [(0, .ref (g.2.1 0)), (1, .int p1)] []
  unfold f_X7_turn at h
  refine cj_aload_n hC dX7_turn_0 rfl 0 rfl ?_
  obtain ⟨M1, e1, h⟩ := cb_b h
  refine cj_callVv (As := []) hC cv_X7_200 cy_l0_ (cy_e0 g _) rfl (c_X7_find l g  M e1) (by decide) rfl rfl (Nat.le_of_ble_eq_true rfl) dX7_turn_1 ?_
  refine cj_iload_n hC dX7_turn_4 rfl 1 rfl ?_
  obtain ⟨x1, e2, h⟩ := cb_l h
  refine cj_callSi (As := [.int p1]) hC cs_X7_107 (c_X7_isTwo l g p1 M1 e2.symm) (by decide) rfl rfl (Nat.le_of_ble_eq_true rfl) dX7_turn_5 ?_
  refine cj_if_ne (tgt := 16) hC dX7_turn_8 (by decide) (fun c1 => ?_) (fun c1 => ?_)
  · replace h := cb_F c1 h
    refine cj_iload_n hC dX7_turn_16 rfl 1 rfl ?_
    refine cj_if_ne (tgt := 27) hC dX7_turn_17 (by decide) (fun c2 => ?_) (fun c2 => ?_)
    · replace h := cb_F c2 h
      refine cj_aload_n hC dX7_turn_27 rfl 0 rfl ?_
      refine cj_get (v := .int (M1 0 25)) hC fa_X7_176 cy_l0_ (cy_e0 g _) rfl dX7_turn_28 ?_
      obtain ⟨rfl, rfl⟩ := cb_i2 h
      exact cj_iret hC dX7_turn_31
    · replace h := cb_T c2 h
      refine cj_aload_n hC dX7_turn_20 rfl 0 rfl ?_
      refine cj_get (v := .int (M1 0 24)) hC fa_X7_167 cy_l0_ (cy_e0 g _) rfl dX7_turn_21 ?_
      refine cj_goto (tgt := 31) hC dX7_turn_24 (by decide) ?_
      obtain ⟨rfl, rfl⟩ := cb_i2 h
      exact cj_iret hC dX7_turn_31
  · replace h := cb_T c1 h
    refine cj_bipush (v := (-2)) hC dX7_turn_11 rfl ?_
    refine cj_goto (tgt := 31) hC dX7_turn_13 (by decide) ?_
    obtain ⟨rfl, rfl⟩ := cb_i2 h
    exact cj_iret hC dX7_turn_31
