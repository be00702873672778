def f_X7_count (p1 : Int32) (M : cb_Mem) : Option (Int32 × cb_Mem) :=
  (f_X7_find  M).bind fun M1 =>
  if p1 = 0 then
  some ((M1 0 7), M1)
  else
  if p1 = 1 then
  some ((M1 0 9), M1)
  else
  if p1 = 2 then
  if cb_in (p1 - 2) 2 = true then
  some ((M1 6 (p1 - 2).toNatClampNeg), M1)
  else none
  else
  if p1 = 3 then
  if cb_in (p1 - 2) 2 = true then
  some ((M1 6 (p1 - 2).toNatClampNeg), M1)
  else none
  else
  if p1 = 4 then
  some (((M1 9 (0 : Int32).toNatClampNeg) + (M1 9 (1 : Int32).toNatClampNeg)), M1)
  else
  if p1 = 5 then
  some ((M1 0 13), M1)
  else
  if p1 = 6 then
  (f_X7_childrenBy 39 M1).bind fun x1 =>
  some (x1, M1)
  else
  if p1 = 7 then
  some ((M1 0 27), M1)
  else
  if p1 = 8 then
  some ((M1 0 4), M1)
  else
  some (((-2) : Int32), M1)
set_option maxRecDepth 100000 in
set_option maxHeartbeats 4000000 in
theorem c_X7_count (l : Launch) (g : cb_Geo) (p1 : Int32) (M : cb_Mem) {rr : Int32} {Mr : cb_Mem} (h : f_X7_count p1 M = some (rr, Mr)) : Met l yX7_count (.code yX7_count cX7_count 2 (some .int) :: cb_ws) (cb_rm 6) (cb_Pc cy g [.ref (g.2.1 0), .int p1] M) (cb_Qi cy g rr Mr) 0 0 (cb_A cy g) := by
  refine cb_met (by decide) wd_1267 (Nat.le_of_ble_eq_true rfl) (fun γ hC => ?_)
  replace hC : cb_C cy g γ RX7 cX7_count 2 (some .int) 6 l (cb_Qi cy g rr Mr) := hC
  show cb_J cy g γ 2 M 0 [(0, .ref (g.2.1 0)), (1, .int p1)] []
  unfold f_X7_count at h
  refine cj_aload_n hC dX7_count_0 rfl 0 rfl ?_
  obtain ⟨M1, e1, h⟩ := cb_b h
  refine cj_callVv (As := []) hC cv_X7_200 cy_l0_ (cy_e0 g _) rfl (c_X7_find l g  M e1) (by decide) rfl rfl (Nat.le_of_ble_eq_true rfl) dX7_count_1 ?_
  refine cj_iload_n hC dX7_count_4 rfl 1 rfl ?_
  by_cases c1 : p1 = 0
  · replace h := cb_T c1 h
    refine cj_tableIn (off := 51) (tgt := 56) hC dX7_count_5 (by rw [c1]; decide) (by rw [c1]; decide) (by rw [c1]; rfl) (by decide) ?_
    refine cj_aload_n hC dX7_count_56 rfl 0 rfl ?_
    refine cj_get (v := .int (M1 0 7)) hC fa_X7_118 cy_l0_ (cy_e0 g _) rfl dX7_count_57 ?_
    obtain ⟨rfl, rfl⟩ := cb_i2 h
    exact cj_iret hC dX7_count_60
  · replace h := cb_F c1 h
    by_cases c2 : p1 = 1
    · replace h := cb_T c2 h
      refine cj_tableIn (off := 56) (tgt := 61) hC dX7_count_5 (by rw [c2]; decide) (by rw [c2]; decide) (by rw [c2]; rfl) (by decide) ?_
      refine cj_aload_n hC dX7_count_61 rfl 0 rfl ?_
      refine cj_get (v := .int (M1 0 9)) hC fa_X7_124 cy_l0_ (cy_e0 g _) rfl dX7_count_62 ?_
      obtain ⟨rfl, rfl⟩ := cb_i2 h
      exact cj_iret hC dX7_count_65
    · replace h := cb_F c2 h
      by_cases c3 : p1 = 2
      · replace h := cb_T c3 h
        refine cj_tableIn (off := 61) (tgt := 66) hC dX7_count_5 (by rw [c3]; decide) (by rw [c3]; decide) (by rw [c3]; rfl) (by decide) ?_
        refine cj_aload_n hC dX7_count_66 rfl 0 rfl ?_
        refine cj_get (v := .ref (g.2.1 6)) hC fa_X7_25 cy_l0_ (cy_e0 g _) rfl dX7_count_67 ?_
        refine cj_iload_n hC dX7_count_70 rfl 1 rfl ?_
        refine cj_iconst (v := 2) hC dX7_count_71 rfl ?_
        refine cj_isub hC dX7_count_72 ?_
        obtain ⟨i1, h⟩ := cb_g h
        refine cj_iald hC cy_l6_ (cy_e6 g _) (cy_t0 g) i1 dX7_count_73 ?_
        obtain ⟨rfl, rfl⟩ := cb_i2 h
        exact cj_iret hC dX7_count_74
      · replace h := cb_F c3 h
        by_cases c4 : p1 = 3
        · replace h := cb_T c4 h
          refine cj_tableIn (off := 61) (tgt := 66) hC dX7_count_5 (by rw [c4]; decide) (by rw [c4]; decide) (by rw [c4]; rfl) (by decide) ?_
          refine cj_aload_n hC dX7_count_66 rfl 0 rfl ?_
          refine cj_get (v := .ref (g.2.1 6)) hC fa_X7_25 cy_l0_ (cy_e0 g _) rfl dX7_count_67 ?_
          refine cj_iload_n hC dX7_count_70 rfl 1 rfl ?_
          refine cj_iconst (v := 2) hC dX7_count_71 rfl ?_
          refine cj_isub hC dX7_count_72 ?_
          obtain ⟨i2, h⟩ := cb_g h
          refine cj_iald hC cy_l6_ (cy_e6 g _) (cy_t0 g) i2 dX7_count_73 ?_
          obtain ⟨rfl, rfl⟩ := cb_i2 h
          exact cj_iret hC dX7_count_74
        · replace h := cb_F c4 h
          by_cases c5 : p1 = 4
          · replace h := cb_T c5 h
            refine cj_tableIn (off := 70) (tgt := 75) hC dX7_count_5 (by rw [c5]; decide) (by rw [c5]; decide) (by rw [c5]; rfl) (by decide) ?_
            refine cj_aload_n hC dX7_count_75 rfl 0 rfl ?_
            refine cj_get (v := .ref (g.2.1 9)) hC fa_X7_34 cy_l0_ (cy_e0 g _) rfl dX7_count_76 ?_
            refine cj_iconst (v := 0) hC dX7_count_79 rfl ?_
            refine cj_iald hC cy_l9_ (cy_e9 g _) (cy_t0 g) (cb_in_iff.mp (by decide)) dX7_count_80 ?_
            refine cj_aload_n hC dX7_count_81 rfl 0 rfl ?_
            refine cj_get (v := .ref (g.2.1 9)) hC fa_X7_34 cy_l0_ (cy_e0 g _) rfl dX7_count_82 ?_
            refine cj_iconst (v := 1) hC dX7_count_85 rfl ?_
            refine cj_iald hC cy_l9_ (cy_e9 g _) (cy_t0 g) (cb_in_iff.mp (by decide)) dX7_count_86 ?_
            refine cj_iadd hC dX7_count_87 ?_
            obtain ⟨rfl, rfl⟩ := cb_i2 h
            exact cj_iret hC dX7_count_88
          · replace h := cb_F c5 h
            by_cases c6 : p1 = 5
            · replace h := cb_T c6 h
              refine cj_tableIn (off := 84) (tgt := 89) hC dX7_count_5 (by rw [c6]; decide) (by rw [c6]; decide) (by rw [c6]; rfl) (by decide) ?_
              refine cj_aload_n hC dX7_count_89 rfl 0 rfl ?_
              refine cj_get (v := .int (M1 0 13)) hC fa_X7_149 cy_l0_ (cy_e0 g _) rfl dX7_count_90 ?_
              obtain ⟨rfl, rfl⟩ := cb_i2 h
              exact cj_iret hC dX7_count_93
            · replace h := cb_F c6 h
              by_cases c7 : p1 = 6
              · replace h := cb_T c7 h
                refine cj_tableIn (off := 89) (tgt := 94) hC dX7_count_5 (by rw [c7]; decide) (by rw [c7]; decide) (by rw [c7]; rfl) (by decide) ?_
                refine cj_aload_n hC dX7_count_94 rfl 0 rfl ?_
                refine cj_bipush (v := 39) hC dX7_count_95 rfl ?_
                obtain ⟨x1, e2, h⟩ := cb_b h
                refine cj_callVi (As := [.int 39]) hC cv_X7_212 cy_l0_ (cy_e0 g _) rfl (c_X7_childrenBy l g 39 M1 e2) (by decide) rfl rfl (Nat.le_of_ble_eq_true rfl) dX7_count_97 ?_
                obtain ⟨rfl, rfl⟩ := cb_i2 h
                exact cj_iret hC dX7_count_100
              · replace h := cb_F c7 h
                by_cases c8 : p1 = 7
                · replace h := cb_T c8 h
                  refine cj_tableIn (off := 96) (tgt := 101) hC dX7_count_5 (by rw [c8]; decide) (by rw [c8]; decide) (by rw [c8]; rfl) (by decide) ?_
                  refine cj_aload_n hC dX7_count_101 rfl 0 rfl ?_
                  refine cj_get (v := .int (M1 0 27)) hC fa_X7_246 cy_l0_ (cy_e0 g _) rfl dX7_count_102 ?_
                  obtain ⟨rfl, rfl⟩ := cb_i2 h
                  exact cj_iret hC dX7_count_105
                · replace h := cb_F c8 h
                  by_cases c9 : p1 = 8
                  · replace h := cb_T c9 h
                    refine cj_tableIn (off := 101) (tgt := 106) hC dX7_count_5 (by rw [c9]; decide) (by rw [c9]; decide) (by rw [c9]; rfl) (by decide) ?_
                    refine cj_aload_n hC dX7_count_106 rfl 0 rfl ?_
                    refine cj_get (v := .int (M1 0 4)) hC fa_X7_83 cy_l0_ (cy_e0 g _) rfl dX7_count_107 ?_
                    obtain ⟨rfl, rfl⟩ := cb_i2 h
                    exact cj_iret hC dX7_count_110
                  · replace h := cb_F c9 h
                    refine cj_tableOut (tgt := 111) hC dX7_count_5 (by have qc1 : (p1).toInt ≠ 0 := fun e => c1 (Int32.toInt_inj.mp (e.trans (by decide))); have qc2 : (p1).toInt ≠ 1 := fun e => c2 (Int32.toInt_inj.mp (e.trans (by decide))); have qc3 : (p1).toInt ≠ 2 := fun e => c3 (Int32.toInt_inj.mp (e.trans (by decide))); have qc4 : (p1).toInt ≠ 3 := fun e => c4 (Int32.toInt_inj.mp (e.trans (by decide))); have qc5 : (p1).toInt ≠ 4 := fun e => c5 (Int32.toInt_inj.mp (e.trans (by decide))); have qc6 : (p1).toInt ≠ 5 := fun e => c6 (Int32.toInt_inj.mp (e.trans (by decide))); have qc7 : (p1).toInt ≠ 6 := fun e => c7 (Int32.toInt_inj.mp (e.trans (by decide))); have qc8 : (p1).toInt ≠ 7 := fun e => c8 (Int32.toInt_inj.mp (e.trans (by decide))); have qc9 : (p1).toInt ≠ 8 := fun e => c9 (Int32.toInt_inj.mp (e.trans (by decide))); omega) (by decide) ?_
                    refine cj_bipush (v := (-2)) hC dX7_count_111 rfl ?_
                    obtain ⟨rfl, rfl⟩ := cb_i2 h
                    exact cj_iret hC dX7_count_113
def f_X7_tellsHead_L78 : Nat → Int32 → Int64 → Int32 → cb_Mem → Option (Int64)
    | 0, _, _, _, _ => none
    | n + 1, v3, v4, v6, M =>
      if 3 ≤ v6 then
      some v4
      else
      (f_X7_liftedBy v3 v6 M).bind fun x1 =>
      cb_let ((((31 : Int64) * v4) + x1.toInt64)) fun y1 =>
      f_X7_tellsHead_L78 n v3 y1 (v6 + 1) M
def f_X7_tellsHead (p1 : Int64) (p2 : Int32) (M : cb_Mem) : Option (Int64 × cb_Mem) :=
  (f_X7_lives  M).bind fun M1 =>
  if cb_in (2 * p2) 16 = true then
  cb_let ((((31 : Int64) * p1) + (M1 7 (2 * p2).toNatClampNeg).toInt64)) fun y1 =>
  if cb_in ((2 * p2) + 1) 16 = true then
  cb_let ((((31 : Int64) * y1) + (M1 7 ((2 * p2) + 1).toNatClampNeg).toInt64)) fun y2 =>
  (f_X7_stateOf 9 p2 M1).bind fun x1 =>
  cb_let ((((31 : Int64) * y2) + x1.toInt64)) fun y3 =>
  (f_X7_stateOf 39 p2 M1).bind fun x2 =>
  cb_let ((((31 : Int64) * y3) + x2.toInt64)) fun y4 =>
  (f_X7_tellsHead_L78 cb_fuel p2 y4 0 M1).bind fun y5 =>
  cb_bind2 (f_X7_sowOf p2 0 M1) fun x3 M2 =>
  cb_let ((((31 : Int64) * y5) + x3.toInt64)) fun y6 =>
  cb_bind2 (f_X7_sowOf p2 1 M2) fun x4 M3 =>
  cb_let ((((31 : Int64) * y6) + x4.toInt64)) fun y7 =>
  cb_bind2 (f_X7_wasOf p2 0 M3) fun x5 M4 =>
  cb_let ((((31 : Int64) * y7) + x5.toInt64)) fun y8 =>
  cb_bind2 (f_X7_wasOf p2 1 M4) fun x6 M5 =>
  cb_let ((((31 : Int64) * y8) + x6.toInt64)) fun y9 =>
  cb_bind2 (f_X7_askOf p2 M5) fun x7 M6 =>
  some ((((31 : Int64) * y9) + x7.toInt64), M6)
  else none
  else none
set_option maxRecDepth 100000 in
set_option maxHeartbeats 4000000 in
theorem l_X7_tellsHead_L78 {l : Launch} {g : cb_Geo} {γ : cb_Gam} {rr : Int64} {Mr : cb_Mem} (hC : cb_C cy g γ RX7 cX7_tellsHead 7 (some .long) 8 l (cb_Ql cy g rr Mr)) (v3 : Int32) (M : cb_Mem) : ∀ (n : Nat) (v4 : Int64) (v6 : Int32) (o : (Int64)), f_X7_tellsHead_L78 n v3 v4 v6 M = some o → (∀ (v4' : Int64), o = v4' → cb_J cy g γ 7 M 107 [(0, .ref (g.2.1 0)), (3, .int v3), (4, .long v4')] []) → cb_J cy g γ 7 M 78 [(0, .ref (g.2.1 0)), (3, .int v3), (4, .long v4), (6, .int v6)] [] := by
  intro n
  induction n with
  | zero =>
    intro v4 v6 o h
    cases h
  | succ n ih =>
    intro v4 v6 o h hexit
    unfold f_X7_tellsHead_L78 at h
    refine cj_iload hC dX7_tellsHead_78 3 rfl ?_
    refine cj_iconst (v := 3) hC dX7_tellsHead_80 rfl ?_
    refine cj_icmp_ge (tgt := 107) hC dX7_tellsHead_81 (by decide) (fun c1 => ?_) (fun c1 => ?_)
    · replace h := cb_T c1 h
      obtain rfl := Option.some.inj h
      exact cj_pick [0, 1, 2] rfl (hexit _ rfl)
    · replace h := cb_F c1 h
      refine cj_ldc2_w (v := 31) hC wd_1273 dX7_tellsHead_84 ?_
      refine cj_lload hC dX7_tellsHead_87 2 rfl ?_
      refine cj_lmul hC dX7_tellsHead_89 ?_
      refine cj_aload_n hC dX7_tellsHead_90 rfl 0 rfl ?_
      refine cj_iload_n hC dX7_tellsHead_91 rfl 1 rfl ?_
      refine cj_iload hC dX7_tellsHead_92 3 rfl ?_
      obtain ⟨x1, e1, h⟩ := cb_b h
      refine cj_callVi (As := [.int v3, .int v6]) hC cv_X7_206 cy_l0_ (cy_e0 g _) rfl (c_X7_liftedBy l g v3 v6 M e1) (by decide) rfl rfl (Nat.le_of_ble_eq_true rfl) dX7_tellsHead_94 ?_
      refine cj_i2l hC dX7_tellsHead_97 ?_
      refine cj_ladd hC dX7_tellsHead_98 ?_
      obtain ⟨y1, ey1, h⟩ := cb_l h
      refine cj_topl ey1 ?_
      refine cj_lstore (lv' := [(4, .long y1), (0, .ref (g.2.1 0)), (3, .int v3), (6, .int v6)]) hC dX7_tellsHead_99 (by decide) rfl ?_
      refine cj_iinc (lv' := [(6, .int (v6 + 1)), (4, .long y1), (0, .ref (g.2.1 0)), (3, .int v3)]) hC dX7_tellsHead_101 (q := 3) rfl rfl (by decide) rfl ?_
      refine cj_goto (tgt := 78) hC dX7_tellsHead_104 (by decide) ?_
      exact cj_pick [2, 3, 1, 0] rfl (ih _ _ _ h hexit)
set_option maxRecDepth 100000 in
set_option maxHeartbeats 4000000 in
theorem c_X7_tellsHead (l : Launch) (g : cb_Geo) (p1 : Int64) (p2 : Int32) (M : cb_Mem) {rr : Int64} {Mr : cb_Mem} (h : f_X7_tellsHead p1 p2 M = some (rr, Mr)) : Met l yX7_tellsHead (.code yX7_tellsHead cX7_tellsHead 7 (some .long) :: cb_ws) (cb_rm 8) (cb_Pc cy g [.ref (g.2.1 0), .long p1, .int p2] M) (cb_Ql cy g rr Mr) 0 0 (cb_A cy g) := by
  refine cb_met (by decide) wd_1278 (Nat.le_of_ble_eq_true rfl) (fun γ hC => ?_)
  replace hC : cb_C cy g γ RX7 cX7_tellsHead 7 (some .long) 8 l (cb_Ql cy g rr Mr) := hC
  show cb_J cy g γ 7 M 0 [(0, .ref (g.2.1 0)), (1, .long p1), (3, .int p2)] []
  unfold f_X7_tellsHead at h
  refine cj_aload_n hC dX7_tellsHead_0 rfl 0 rfl ?_
  obtain ⟨M1, e1, h⟩ := cb_b h
  refine cj_callVv (As := []) hC cv_X7_194 cy_l0_ (cy_e0 g _) rfl (c_X7_lives l g  M e1) (by decide) rfl rfl (Nat.le_of_ble_eq_true rfl) dX7_tellsHead_1 ?_
  refine cj_ldc2_w (v := 31) hC wd_1273 dX7_tellsHead_4 ?_
  refine cj_lload_n hC dX7_tellsHead_7 rfl 1 rfl ?_
  refine cj_lmul hC dX7_tellsHead_8 ?_
  refine cj_aload_n hC dX7_tellsHead_9 rfl 0 rfl ?_
  refine cj_get (v := .ref (g.2.1 7)) hC fa_X7_28 cy_l0_ (cy_e0 g _) rfl dX7_tellsHead_10 ?_
  refine cj_iconst (v := 2) hC dX7_tellsHead_13 rfl ?_
  refine cj_iload_n hC dX7_tellsHead_14 rfl 2 rfl ?_
  refine cj_imul hC dX7_tellsHead_15 ?_
  obtain ⟨i1, h⟩ := cb_g h
  refine cj_iald hC cy_l7_ (cy_e7 g _) (cy_t0 g) i1 dX7_tellsHead_16 ?_
  refine cj_i2l hC dX7_tellsHead_17 ?_
  refine cj_ladd hC dX7_tellsHead_18 ?_
  obtain ⟨y1, ey1, h⟩ := cb_l h
  refine cj_topl ey1 ?_
  refine cj_lstore (lv' := [(4, .long y1), (0, .ref (g.2.1 0)), (1, .long p1), (3, .int p2)]) hC dX7_tellsHead_19 (by decide) rfl ?_
  refine cj_ldc2_w (v := 31) hC wd_1273 dX7_tellsHead_21 ?_
  refine cj_lload hC dX7_tellsHead_24 0 rfl ?_
  refine cj_lmul hC dX7_tellsHead_26 ?_
  refine cj_aload_n hC dX7_tellsHead_27 rfl 1 rfl ?_
  refine cj_get (v := .ref (g.2.1 7)) hC fa_X7_28 cy_l0_ (cy_e0 g _) rfl dX7_tellsHead_28 ?_
  refine cj_iconst (v := 2) hC dX7_tellsHead_31 rfl ?_
  refine cj_iload_n hC dX7_tellsHead_32 rfl 3 rfl ?_
  refine cj_imul hC dX7_tellsHead_33 ?_
  refine cj_iconst (v := 1) hC dX7_tellsHead_34 rfl ?_
  refine cj_iadd hC dX7_tellsHead_35 ?_
  obtain ⟨i2, h⟩ := cb_g h
  refine cj_iald hC cy_l7_ (cy_e7 g _) (cy_t0 g) i2 dX7_tellsHead_36 ?_
  refine cj_i2l hC dX7_tellsHead_37 ?_
  refine cj_ladd hC dX7_tellsHead_38 ?_
  obtain ⟨y2, ey2, h⟩ := cb_l h
  refine cj_topl ey2 ?_
  refine cj_lstore (lv' := [(4, .long y2), (0, .ref (g.2.1 0)), (1, .long p1), (3, .int p2)]) hC dX7_tellsHead_39 (by decide) rfl ?_
  refine cj_ldc2_w (v := 31) hC wd_1273 dX7_tellsHead_41 ?_
  refine cj_lload hC dX7_tellsHead_44 0 rfl ?_
  refine cj_lmul hC dX7_tellsHead_46 ?_
  refine cj_aload_n hC dX7_tellsHead_47 rfl 1 rfl ?_
  refine cj_bipush (v := 9) hC dX7_tellsHead_48 rfl ?_
  refine cj_iload_n hC dX7_tellsHead_50 rfl 3 rfl ?_
  obtain ⟨x1, e2, h⟩ := cb_b h
  refine cj_callVi (As := [.int 9, .int p2]) hC cv_X7_203 cy_l0_ (cy_e0 g _) rfl (c_X7_stateOf l g 9 p2 M1 e2) (by decide) rfl rfl (Nat.le_of_ble_eq_true rfl) dX7_tellsHead_51 ?_
  refine cj_i2l hC dX7_tellsHead_54 ?_
  refine cj_ladd hC dX7_tellsHead_55 ?_
  obtain ⟨y3, ey3, h⟩ := cb_l h
  refine cj_topl ey3 ?_
  refine cj_lstore (lv' := [(4, .long y3), (0, .ref (g.2.1 0)), (1, .long p1), (3, .int p2)]) hC dX7_tellsHead_56 (by decide) rfl ?_
  refine cj_ldc2_w (v := 31) hC wd_1273 dX7_tellsHead_58 ?_
  refine cj_lload hC dX7_tellsHead_61 0 rfl ?_
  refine cj_lmul hC dX7_tellsHead_63 ?_
  refine cj_aload_n hC dX7_tellsHead_64 rfl 1 rfl ?_
  refine cj_bipush (v := 39) hC dX7_tellsHead_65 rfl ?_
  refine cj_iload_n hC dX7_tellsHead_67 rfl 3 rfl ?_
  obtain ⟨x2, e3, h⟩ := cb_b h
  refine cj_callVi (As := [.int 39, .int p2]) hC cv_X7_203 cy_l0_ (cy_e0 g _) rfl (c_X7_stateOf l g 39 p2 M1 e3) (by decide) rfl rfl (Nat.le_of_ble_eq_true rfl) dX7_tellsHead_68 ?_
  refine cj_i2l hC dX7_tellsHead_71 ?_
  refine cj_ladd hC dX7_tellsHead_72 ?_
  obtain ⟨y4, ey4, h⟩ := cb_l h
  refine cj_topl ey4 ?_
  refine cj_lstore (lv' := [(4, .long y4), (0, .ref (g.2.1 0)), (1, .long p1), (3, .int p2)]) hC dX7_tellsHead_73 (by decide) rfl ?_
  refine cj_iconst (v := 0) hC dX7_tellsHead_75 rfl ?_
  refine cj_istore (lv' := [(6, .int 0), (4, .long y4), (0, .ref (g.2.1 0)), (1, .long p1), (3, .int p2)]) hC dX7_tellsHead_76 (by decide) rfl ?_
  obtain ⟨y5, e4, h⟩ := cb_b h
  refine cj_pick [2, 4, 1, 0] rfl ?_
  refine l_X7_tellsHead_L78 hC p2 M1 cb_fuel _ _ _ e4 (fun ze4 hz => ?_)
  obtain rfl := hz
  refine cj_ldc2_w (v := 31) hC wd_1273 dX7_tellsHead_107 ?_
  refine cj_lload hC dX7_tellsHead_110 2 rfl ?_
  refine cj_lmul hC dX7_tellsHead_112 ?_
  refine cj_aload_n hC dX7_tellsHead_113 rfl 0 rfl ?_
  refine cj_iload_n hC dX7_tellsHead_114 rfl 1 rfl ?_
  refine cj_iconst (v := 0) hC dX7_tellsHead_115 rfl ?_
  obtain ⟨x3, M2, e5, h⟩ := cb_b2 h
  refine cj_callVi (As := [.int p2, .int 0]) hC cv_X7_238 cy_l0_ (cy_e0 g _) rfl (c_X7_sowOf l g p2 0 M1 e5) (by decide) rfl rfl (Nat.le_of_ble_eq_true rfl) dX7_tellsHead_116 ?_
  refine cj_i2l hC dX7_tellsHead_119 ?_
  refine cj_ladd hC dX7_tellsHead_120 ?_
  obtain ⟨y6, ey6, h⟩ := cb_l h
  refine cj_topl ey6 ?_
  refine cj_lstore (lv' := [(4, .long y6), (0, .ref (g.2.1 0)), (3, .int p2)]) hC dX7_tellsHead_121 (by decide) rfl ?_
  refine cj_ldc2_w (v := 31) hC wd_1273 dX7_tellsHead_123 ?_
  refine cj_lload hC dX7_tellsHead_126 0 rfl ?_
  refine cj_lmul hC dX7_tellsHead_128 ?_
  refine cj_aload_n hC dX7_tellsHead_129 rfl 1 rfl ?_
  refine cj_iload_n hC dX7_tellsHead_130 rfl 2 rfl ?_
  refine cj_iconst (v := 1) hC dX7_tellsHead_131 rfl ?_
  obtain ⟨x4, M3, e6, h⟩ := cb_b2 h
  refine cj_callVi (As := [.int p2, .int 1]) hC cv_X7_238 cy_l0_ (cy_e0 g _) rfl (c_X7_sowOf l g p2 1 M2 e6) (by decide) rfl rfl (Nat.le_of_ble_eq_true rfl) dX7_tellsHead_132 ?_
  refine cj_i2l hC dX7_tellsHead_135 ?_
  refine cj_ladd hC dX7_tellsHead_136 ?_
  obtain ⟨y7, ey7, h⟩ := cb_l h
  refine cj_topl ey7 ?_
  refine cj_lstore (lv' := [(4, .long y7), (0, .ref (g.2.1 0)), (3, .int p2)]) hC dX7_tellsHead_137 (by decide) rfl ?_
  refine cj_ldc2_w (v := 31) hC wd_1273 dX7_tellsHead_139 ?_
  refine cj_lload hC dX7_tellsHead_142 0 rfl ?_
  refine cj_lmul hC dX7_tellsHead_144 ?_
  refine cj_aload_n hC dX7_tellsHead_145 rfl 1 rfl ?_
  refine cj_iload_n hC dX7_tellsHead_146 rfl 2 rfl ?_
  refine cj_iconst (v := 0) hC dX7_tellsHead_147 rfl ?_
  obtain ⟨x5, M4, e7, h⟩ := cb_b2 h
  refine cj_callVi (As := [.int p2, .int 0]) hC cv_X7_256 cy_l0_ (cy_e0 g _) rfl (c_X7_wasOf l g p2 0 M3 e7) (by decide) rfl rfl (Nat.le_of_ble_eq_true rfl) dX7_tellsHead_148 ?_
  refine cj_i2l hC dX7_tellsHead_151 ?_
  refine cj_ladd hC dX7_tellsHead_152 ?_
  obtain ⟨y8, ey8, h⟩ := cb_l h
  refine cj_topl ey8 ?_
  refine cj_lstore (lv' := [(4, .long y8), (0, .ref (g.2.1 0)), (3, .int p2)]) hC dX7_tellsHead_153 (by decide) rfl ?_
  refine cj_ldc2_w (v := 31) hC wd_1273 dX7_tellsHead_155 ?_
  refine cj_lload hC dX7_tellsHead_158 0 rfl ?_
  refine cj_lmul hC dX7_tellsHead_160 ?_
  refine cj_aload_n hC dX7_tellsHead_161 rfl 1 rfl ?_
  refine cj_iload_n hC dX7_tellsHead_162 rfl 2 rfl ?_
  refine cj_iconst (v := 1) hC dX7_tellsHead_163 rfl ?_
  obtain ⟨x6, M5, e8, h⟩ := cb_b2 h
  refine cj_callVi (As := [.int p2, .int 1]) hC cv_X7_256 cy_l0_ (cy_e0 g _) rfl (c_X7_wasOf l g p2 1 M4 e8) (by decide) rfl rfl (Nat.le_of_ble_eq_true rfl) dX7_tellsHead_164 ?_
  refine cj_i2l hC dX7_tellsHead_167 ?_
  refine cj_ladd hC dX7_tellsHead_168 ?_
  obtain ⟨y9, ey9, h⟩ := cb_l h
  refine cj_topl ey9 ?_
  refine cj_lstore (lv' := [(4, .long y9), (0, .ref (g.2.1 0)), (3, .int p2)]) hC dX7_tellsHead_169 (by decide) rfl ?_
  refine cj_ldc2_w (v := 31) hC wd_1273 dX7_tellsHead_171 ?_
  refine cj_lload hC dX7_tellsHead_174 0 rfl ?_
  refine cj_lmul hC dX7_tellsHead_176 ?_
  refine cj_aload_n hC dX7_tellsHead_177 rfl 1 rfl ?_
  refine cj_iload_n hC dX7_tellsHead_178 rfl 2 rfl ?_
  obtain ⟨x7, M6, e9, h⟩ := cb_b2 h
  refine cj_callVi (As := [.int p2]) hC cv_X7_259 cy_l0_ (cy_e0 g _) rfl (c_X7_askOf l g p2 M5 e9) (by decide) rfl rfl (Nat.le_of_ble_eq_true rfl) dX7_tellsHead_179 ?_
  refine cj_i2l hC dX7_tellsHead_182 ?_
  refine cj_ladd hC dX7_tellsHead_183 ?_
  obtain ⟨rfl, rfl⟩ := cb_i2 h
  exact cj_lret hC dX7_tellsHead_184
def f_X7_tellsCouple_L10 : Nat → Int32 → Int64 → Int32 → cb_Mem → Option (Int64)
    | 0, _, _, _, _ => none
    | n + 1, v3, v4, v6, M =>
      if 3 ≤ v6 then
      some v4
      else
      if cb_in ((3 * v3) + v6) 24 = true then
      cb_let ((((31 : Int64) * v4) + (M 8 ((3 * v3) + v6).toNatClampNeg).toInt64)) fun y1 =>
      f_X7_tellsCouple_L10 n v3 y1 (v6 + 1) M
      else none
def f_X7_tellsCouple_L46 : Nat → Int32 → Int64 → Int32 → cb_Mem → Option (Int64)
    | 0, _, _, _, _ => none
    | n + 1, v3, v4, v6, M =>
      if 3 ≤ v6 then
      some v4
      else
      (f_X7_getsBy v3 v6 M).bind fun x1 =>
      cb_let ((((31 : Int64) * v4) + x1.toInt64)) fun y1 =>
      f_X7_tellsCouple_L46 n v3 y1 (v6 + 1) M
def f_X7_tellsCouple (p1 : Int64) (p2 : Int32) (M : cb_Mem) : Option (Int64 × cb_Mem) :=
  (f_X7_lives  M).bind fun M1 =>
  (f_X7_tellsCouple_L10 cb_fuel p2 p1 0 M1).bind fun y1 =>
  (f_X7_tellsCouple_L46 cb_fuel p2 y1 0 M1).bind fun y2 =>
  cb_bind2 (f_X7_keepOf p2 (-1) M1) fun x1 M2 =>
  cb_let ((((31 : Int64) * y2) + x1.toInt64)) fun y3 =>
  cb_bind2 (f_X7_keepOf p2 0 M2) fun x2 M3 =>
  cb_let ((((31 : Int64) * y3) + x2.toInt64)) fun y4 =>
  cb_bind2 (f_X7_comeOf p2 0 M3) fun x3 M4 =>
  cb_let ((((31 : Int64) * y4) + x3.toInt64)) fun y5 =>
  cb_bind2 (f_X7_comeOf p2 1 M4) fun x4 M5 =>
  cb_let ((((31 : Int64) * y5) + x4.toInt64)) fun y6 =>
  cb_bind2 (f_X7_chillOf 5 7 p2 0 M5) fun y7 M6 =>
  cb_let ((((31 : Int64) * y6) + y7)) fun y8 =>
  cb_bind2 (f_X7_chillOf 5 7 p2 1 M6) fun y9 M7 =>
  some ((((31 : Int64) * y8) + y9), M7)
set_option maxRecDepth 100000 in
set_option maxHeartbeats 4000000 in
theorem l_X7_tellsCouple_L10 {l : Launch} {g : cb_Geo} {γ : cb_Gam} {rr : Int64} {Mr : cb_Mem} (hC : cb_C cy g γ RX7 cX7_tellsCouple 7 (some .long) 7 l (cb_Ql cy g rr Mr)) (v3 : Int32) (M : cb_Mem) : ∀ (n : Nat) (v4 : Int64) (v6 : Int32) (o : (Int64)), f_X7_tellsCouple_L10 n v3 v4 v6 M = some o → (∀ (v4' : Int64), o = v4' → cb_J cy g γ 7 M 43 [(0, .ref (g.2.1 0)), (3, .int v3), (4, .long v4')] []) → cb_J cy g γ 7 M 10 [(0, .ref (g.2.1 0)), (3, .int v3), (4, .long v4), (6, .int v6)] [] := by
  intro n
  induction n with
  | zero =>
    intro v4 v6 o h
    cases h
  | succ n ih =>
    intro v4 v6 o h hexit
    unfold f_X7_tellsCouple_L10 at h
    refine cj_iload hC dX7_tellsCouple_10 3 rfl ?_
    refine cj_iconst (v := 3) hC dX7_tellsCouple_12 rfl ?_
    refine cj_icmp_ge (tgt := 43) hC dX7_tellsCouple_13 (by decide) (fun c1 => ?_) (fun c1 => ?_)
    · replace h := cb_T c1 h
      obtain rfl := Option.some.inj h
      exact cj_pick [0, 1, 2] rfl (hexit _ rfl)
    · replace h := cb_F c1 h
      refine cj_ldc2_w (v := 31) hC wd_1273 dX7_tellsCouple_16 ?_
      refine cj_lload hC dX7_tellsCouple_19 2 rfl ?_
      refine cj_lmul hC dX7_tellsCouple_21 ?_
      refine cj_aload_n hC dX7_tellsCouple_22 rfl 0 rfl ?_
      refine cj_get (v := .ref (g.2.1 8)) hC fa_X7_31 cy_l0_ (cy_e0 g _) rfl dX7_tellsCouple_23 ?_
      refine cj_iconst (v := 3) hC dX7_tellsCouple_26 rfl ?_
      refine cj_iload_n hC dX7_tellsCouple_27 rfl 1 rfl ?_
      refine cj_imul hC dX7_tellsCouple_28 ?_
      refine cj_iload hC dX7_tellsCouple_29 3 rfl ?_
      refine cj_iadd hC dX7_tellsCouple_31 ?_
      obtain ⟨i1, h⟩ := cb_g h
      refine cj_iald hC cy_l8_ (cy_e8 g _) (cy_t0 g) i1 dX7_tellsCouple_32 ?_
      refine cj_i2l hC dX7_tellsCouple_33 ?_
      refine cj_ladd hC dX7_tellsCouple_34 ?_
      obtain ⟨y1, ey1, h⟩ := cb_l h
      refine cj_topl ey1 ?_
      refine cj_lstore (lv' := [(4, .long y1), (0, .ref (g.2.1 0)), (3, .int v3), (6, .int v6)]) hC dX7_tellsCouple_35 (by decide) rfl ?_
      refine cj_iinc (lv' := [(6, .int (v6 + 1)), (4, .long y1), (0, .ref (g.2.1 0)), (3, .int v3)]) hC dX7_tellsCouple_37 (q := 3) rfl rfl (by decide) rfl ?_
      refine cj_goto (tgt := 10) hC dX7_tellsCouple_40 (by decide) ?_
      exact cj_pick [2, 3, 1, 0] rfl (ih _ _ _ h hexit)
set_option maxRecDepth 100000 in
set_option maxHeartbeats 4000000 in
theorem l_X7_tellsCouple_L46 {l : Launch} {g : cb_Geo} {γ : cb_Gam} {rr : Int64} {Mr : cb_Mem} (hC : cb_C cy g γ RX7 cX7_tellsCouple 7 (some .long) 7 l (cb_Ql cy g rr Mr)) (v3 : Int32) (M : cb_Mem) : ∀ (n : Nat) (v4 : Int64) (v6 : Int32) (o : (Int64)), f_X7_tellsCouple_L46 n v3 v4 v6 M = some o → (∀ (v4' : Int64), o = v4' → cb_J cy g γ 7 M 75 [(0, .ref (g.2.1 0)), (3, .int v3), (4, .long v4')] []) → cb_J cy g γ 7 M 46 [(0, .ref (g.2.1 0)), (3, .int v3), (4, .long v4), (6, .int v6)] [] := by
  intro n
  induction n with
  | zero =>
    intro v4 v6 o h
    cases h
  | succ n ih =>
    intro v4 v6 o h hexit
    unfold f_X7_tellsCouple_L46 at h
    refine cj_iload hC dX7_tellsCouple_46 3 rfl ?_
    refine cj_iconst (v := 3) hC dX7_tellsCouple_48 rfl ?_
    refine cj_icmp_ge (tgt := 75) hC dX7_tellsCouple_49 (by decide) (fun c1 => ?_) (fun c1 => ?_)
    · replace h := cb_T c1 h
      obtain rfl := Option.some.inj h
      exact cj_pick [0, 1, 2] rfl (hexit _ rfl)
    · replace h := cb_F c1 h
      refine cj_ldc2_w (v := 31) hC wd_1273 dX7_tellsCouple_52 ?_
      refine cj_lload hC dX7_tellsCouple_55 2 rfl ?_
      refine cj_lmul hC dX7_tellsCouple_57 ?_
      refine cj_aload_n hC dX7_tellsCouple_58 rfl 0 rfl ?_
      refine cj_iload_n hC dX7_tellsCouple_59 rfl 1 rfl ?_
      refine cj_iload hC dX7_tellsCouple_60 3 rfl ?_
      obtain ⟨x1, e1, h⟩ := cb_b h
      refine cj_callVi (As := [.int v3, .int v6]) hC cv_X7_209 cy_l0_ (cy_e0 g _) rfl (c_X7_getsBy l g v3 v6 M e1) (by decide) rfl rfl (Nat.le_of_ble_eq_true rfl) dX7_tellsCouple_62 ?_
      refine cj_i2l hC dX7_tellsCouple_65 ?_
      refine cj_ladd hC dX7_tellsCouple_66 ?_
      obtain ⟨y1, ey1, h⟩ := cb_l h
      refine cj_topl ey1 ?_
      refine cj_lstore (lv' := [(4, .long y1), (0, .ref (g.2.1 0)), (3, .int v3), (6, .int v6)]) hC dX7_tellsCouple_67 (by decide) rfl ?_
      refine cj_iinc (lv' := [(6, .int (v6 + 1)), (4, .long y1), (0, .ref (g.2.1 0)), (3, .int v3)]) hC dX7_tellsCouple_69 (q := 3) rfl rfl (by decide) rfl ?_
      refine cj_goto (tgt := 46) hC dX7_tellsCouple_72 (by decide) ?_
      exact cj_pick [2, 3, 1, 0] rfl (ih _ _ _ h hexit)
set_option maxRecDepth 100000 in
set_option maxHeartbeats 4000000 in
theorem c_X7_tellsCouple (l : Launch) (g : cb_Geo) (p1 : Int64) (p2 : Int32) (M : cb_Mem) {rr : Int64} {Mr : cb_Mem} (h : f_X7_tellsCouple p1 p2 M = some (rr, Mr)) : Met l yX7_tellsCouple (.code yX7_tellsCouple cX7_tellsCouple 7 (some .long) :: cb_ws) (cb_rm 7) (cb_Pc cy g [.ref (g.2.1 0), .long p1, .int p2] M) (cb_Ql cy g rr Mr) 0 0 (cb_A cy g) := by
  refine cb_met (by decide) wd_1282 (Nat.le_of_ble_eq_true rfl) (fun γ hC => ?_)
  replace hC : cb_C cy g γ RX7 cX7_tellsCouple 7 (some .long) 7 l (cb_Ql cy g rr Mr) := hC
  show cb_J cy g γ 7 M 0 [(0, .ref (g.2.1 0)), (1, .long p1), (3, .int p2)] []
  unfold f_X7_tellsCouple at h
  refine cj_aload_n hC dX7_tellsCouple_0 rfl 0 rfl ?_
  obtain ⟨M1, e1, h⟩ := cb_b h
  refine cj_callVv (As := []) hC cv_X7_194 cy_l0_ (cy_e0 g _) rfl (c_X7_lives l g  M e1) (by decide) rfl rfl (Nat.le_of_ble_eq_true rfl) dX7_tellsCouple_1 ?_
  refine cj_lload_n hC dX7_tellsCouple_4 rfl 1 rfl ?_
  refine cj_lstore (lv' := [(4, .long p1), (0, .ref (g.2.1 0)), (1, .long p1), (3, .int p2)]) hC dX7_tellsCouple_5 (by decide) rfl ?_
  refine cj_iconst (v := 0) hC dX7_tellsCouple_7 rfl ?_
  refine cj_istore (lv' := [(6, .int 0), (4, .long p1), (0, .ref (g.2.1 0)), (1, .long p1), (3, .int p2)]) hC dX7_tellsCouple_8 (by decide) rfl ?_
  obtain ⟨y1, e2, h⟩ := cb_b h
  refine cj_pick [2, 4, 1, 0] rfl ?_
  refine l_X7_tellsCouple_L10 hC p2 M1 cb_fuel _ _ _ e2 (fun ze2 hz => ?_)
  obtain rfl := hz
  refine cj_iconst (v := 0) hC dX7_tellsCouple_43 rfl ?_
  refine cj_istore (lv' := [(6, .int 0), (0, .ref (g.2.1 0)), (3, .int p2), (4, .long y1)]) hC dX7_tellsCouple_44 (by decide) rfl ?_
  obtain ⟨y2, e3, h⟩ := cb_b h
  refine cj_pick [1, 2, 3, 0] rfl ?_
  refine l_X7_tellsCouple_L46 hC p2 M1 cb_fuel _ _ _ e3 (fun ze3 hz => ?_)
  obtain rfl := hz
  refine cj_ldc2_w (v := 31) hC wd_1273 dX7_tellsCouple_75 ?_
  refine cj_lload hC dX7_tellsCouple_78 2 rfl ?_
  refine cj_lmul hC dX7_tellsCouple_80 ?_
  refine cj_aload_n hC dX7_tellsCouple_81 rfl 0 rfl ?_
  refine cj_iload_n hC dX7_tellsCouple_82 rfl 1 rfl ?_
  refine cj_iconst (v := (-1)) hC dX7_tellsCouple_83 rfl ?_
  obtain ⟨x1, M2, e4, h⟩ := cb_b2 h
  refine cj_callVi (As := [.int p2, .int (-1)]) hC cv_X7_232 cy_l0_ (cy_e0 g _) rfl (c_X7_keepOf l g p2 (-1) M1 e4) (by decide) rfl rfl (Nat.le_of_ble_eq_true rfl) dX7_tellsCouple_84 ?_
  refine cj_i2l hC dX7_tellsCouple_87 ?_
  refine cj_ladd hC dX7_tellsCouple_88 ?_
  obtain ⟨y3, ey3, h⟩ := cb_l h
  refine cj_topl ey3 ?_
  refine cj_lstore (lv' := [(4, .long y3), (0, .ref (g.2.1 0)), (3, .int p2)]) hC dX7_tellsCouple_89 (by decide) rfl ?_
  refine cj_ldc2_w (v := 31) hC wd_1273 dX7_tellsCouple_91 ?_
  refine cj_lload hC dX7_tellsCouple_94 0 rfl ?_
  refine cj_lmul hC dX7_tellsCouple_96 ?_
  refine cj_aload_n hC dX7_tellsCouple_97 rfl 1 rfl ?_
  refine cj_iload_n hC dX7_tellsCouple_98 rfl 2 rfl ?_
  refine cj_iconst (v := 0) hC dX7_tellsCouple_99 rfl ?_
  obtain ⟨x2, M3, e5, h⟩ := cb_b2 h
  refine cj_callVi (As := [.int p2, .int 0]) hC cv_X7_232 cy_l0_ (cy_e0 g _) rfl (c_X7_keepOf l g p2 0 M2 e5) (by decide) rfl rfl (Nat.le_of_ble_eq_true rfl) dX7_tellsCouple_100 ?_
  refine cj_i2l hC dX7_tellsCouple_103 ?_
  refine cj_ladd hC dX7_tellsCouple_104 ?_
  obtain ⟨y4, ey4, h⟩ := cb_l h
  refine cj_topl ey4 ?_
  refine cj_lstore (lv' := [(4, .long y4), (0, .ref (g.2.1 0)), (3, .int p2)]) hC dX7_tellsCouple_105 (by decide) rfl ?_
  refine cj_ldc2_w (v := 31) hC wd_1273 dX7_tellsCouple_107 ?_
  refine cj_lload hC dX7_tellsCouple_110 0 rfl ?_
  refine cj_lmul hC dX7_tellsCouple_112 ?_
  refine cj_aload_n hC dX7_tellsCouple_113 rfl 1 rfl ?_
  refine cj_iload_n hC dX7_tellsCouple_114 rfl 2 rfl ?_
  refine cj_iconst (v := 0) hC dX7_tellsCouple_115 rfl ?_
  obtain ⟨x3, M4, e6, h⟩ := cb_b2 h
  refine cj_callVi (As := [.int p2, .int 0]) hC cv_X7_241 cy_l0_ (cy_e0 g _) rfl (c_X7_comeOf l g p2 0 M3 e6) (by decide) rfl rfl (Nat.le_of_ble_eq_true rfl) dX7_tellsCouple_116 ?_
  refine cj_i2l hC dX7_tellsCouple_119 ?_
  refine cj_ladd hC dX7_tellsCouple_120 ?_
  obtain ⟨y5, ey5, h⟩ := cb_l h
  refine cj_topl ey5 ?_
  refine cj_lstore (lv' := [(4, .long y5), (0, .ref (g.2.1 0)), (3, .int p2)]) hC dX7_tellsCouple_121 (by decide) rfl ?_
  refine cj_ldc2_w (v := 31) hC wd_1273 dX7_tellsCouple_123 ?_
  refine cj_lload hC dX7_tellsCouple_126 0 rfl ?_
  refine cj_lmul hC dX7_tellsCouple_128 ?_
  refine cj_aload_n hC dX7_tellsCouple_129 rfl 1 rfl ?_
  refine cj_iload_n hC dX7_tellsCouple_130 rfl 2 rfl ?_
  refine cj_iconst (v := 1) hC dX7_tellsCouple_131 rfl ?_
  obtain ⟨x4, M5, e7, h⟩ := cb_b2 h
  refine cj_callVi (As := [.int p2, .int 1]) hC cv_X7_241 cy_l0_ (cy_e0 g _) rfl (c_X7_comeOf l g p2 1 M4 e7) (by decide) rfl rfl (Nat.le_of_ble_eq_true rfl) dX7_tellsCouple_132 ?_
  refine cj_i2l hC dX7_tellsCouple_135 ?_
  refine cj_ladd hC dX7_tellsCouple_136 ?_
  obtain ⟨y6, ey6, h⟩ := cb_l h
  refine cj_topl ey6 ?_
  refine cj_lstore (lv' := [(4, .long y6), (0, .ref (g.2.1 0)), (3, .int p2)]) hC dX7_tellsCouple_137 (by decide) rfl ?_
  refine cj_ldc2_w (v := 31) hC wd_1273 dX7_tellsCouple_139 ?_
  refine cj_lload hC dX7_tellsCouple_142 0 rfl ?_
  refine cj_lmul hC dX7_tellsCouple_144 ?_
  refine cj_aload_n hC dX7_tellsCouple_145 rfl 1 rfl ?_
  refine cj_iconst (v := 5) hC dX7_tellsCouple_146 rfl ?_
  refine cj_bipush (v := 7) hC dX7_tellsCouple_147 rfl ?_
  refine cj_iload_n hC dX7_tellsCouple_149 rfl 2 rfl ?_
  refine cj_iconst (v := 0) hC dX7_tellsCouple_150 rfl ?_
  obtain ⟨y7, M6, e8, h⟩ := cb_b2 h
  refine cj_callVl (As := [.int 5, .int 7, .int p2, .int 0]) hC cv_X7_270 cy_l0_ (cy_e0 g _) rfl (c_X7_chillOf l g 5 7 p2 0 M5 e8) (by decide) rfl rfl (Nat.le_of_ble_eq_true rfl) dX7_tellsCouple_151 ?_
  refine cj_ladd hC dX7_tellsCouple_154 ?_
  obtain ⟨y8, ey8, h⟩ := cb_l h
  refine cj_topl ey8 ?_
  refine cj_lstore (lv' := [(4, .long y8), (0, .ref (g.2.1 0)), (3, .int p2)]) hC dX7_tellsCouple_155 (by decide) rfl ?_
  refine cj_ldc2_w (v := 31) hC wd_1273 dX7_tellsCouple_157 ?_
  refine cj_lload hC dX7_tellsCouple_160 0 rfl ?_
  refine cj_lmul hC dX7_tellsCouple_162 ?_
  refine cj_aload_n hC dX7_tellsCouple_163 rfl 1 rfl ?_
  refine cj_iconst (v := 5) hC dX7_tellsCouple_164 rfl ?_
  refine cj_bipush (v := 7) hC dX7_tellsCouple_165 rfl ?_
  refine cj_iload_n hC dX7_tellsCouple_167 rfl 2 rfl ?_
  refine cj_iconst (v := 1) hC dX7_tellsCouple_168 rfl ?_
  obtain ⟨y9, M7, e9, h⟩ := cb_b2 h
  refine cj_callVl (As := [.int 5, .int 7, .int p2, .int 1]) hC cv_X7_270 cy_l0_ (cy_e0 g _) rfl (c_X7_chillOf l g 5 7 p2 1 M6 e9) (by decide) rfl rfl (Nat.le_of_ble_eq_true rfl) dX7_tellsCouple_169 ?_
  refine cj_ladd hC dX7_tellsCouple_172 ?_
  obtain ⟨rfl, rfl⟩ := cb_i2 h
  exact cj_lret hC dX7_tellsCouple_173
def f_X7_digest_L6 : Nat → Int64 → Int32 → cb_Mem → Option (Int64 × cb_Mem)
    | 0, _, _, _ => none
    | n + 1, v1, v3, M =>
      if 8 ≤ v3 then
      some (v1, M)
      else
      cb_bind2 (f_X7_count v3 M) fun x1 M1 =>
      cb_let ((((31 : Int64) * v1) + x1.toInt64)) fun y1 =>
      f_X7_digest_L6 n y1 (v3 + 1) M1
def f_X7_digest_L57 : Nat → Int64 → Int32 → cb_Mem → Option (Int64 × cb_Mem)
    | 0, _, _, _ => none
    | n + 1, v1, v3, M =>
      if (M 0 7) ≤ v3 then
      some (v1, M)
      else
      cb_bind2 (f_X7_tellsHead v1 v3 M) fun y1 M1 =>
      f_X7_digest_L57 n y1 (v3 + 1) M1
def f_X7_digest_L80 : Nat → Int64 → Int32 → cb_Mem → Option (Int64 × cb_Mem)
    | 0, _, _, _ => none
    | n + 1, v1, v3, M =>
      if (M 0 9) ≤ v3 then
      some (v1, M)
      else
      cb_bind2 (f_X7_tellsCouple v1 v3 M) fun y1 M1 =>
      f_X7_digest_L80 n y1 (v3 + 1) M1
def f_X7_digest  (M : cb_Mem) : Option (Int64 × cb_Mem) :=
  cb_bind2 (f_X7_digest_L6 cb_fuel 17 0 M) fun y1 M1 =>
  cb_bind2 (f_X7_readsHeads  M1) fun x1 M2 =>
  cb_let ((((31 : Int64) * y1) + x1.toInt64)) fun y2 =>
  cb_bind2 (f_X7_readsCouples  M2) fun x2 M3 =>
  cb_let ((((31 : Int64) * y2) + x2.toInt64)) fun y3 =>
  cb_bind2 (f_X7_digest_L57 cb_fuel y3 0 M3) fun y4 M4 =>
  cb_bind2 (f_X7_digest_L80 cb_fuel y4 0 M4) fun y5 M5 =>
  (f_X7_lives  M5).bind fun M6 =>
  (f_X7_childrenBy 9 M6).bind fun x3 =>
  cb_let ((((31 : Int64) * y5) + x3.toInt64)) fun y6 =>
  (f_X7_withoutNow  M6).bind fun x4 =>
  cb_let ((((31 : Int64) * y6) + x4.toInt64)) fun y7 =>
  cb_let ((((31 : Int64) * y7) + (M6 0 24).toInt64)) fun y8 =>
  cb_let ((((31 : Int64) * y8) + (M6 0 25).toInt64)) fun y9 =>
  cb_bind2 (f_X7_metNow  M6) fun x5 M7 =>
  cb_let ((((31 : Int64) * y9) + x5.toInt64)) fun y10 =>
  cb_bind2 (f_X7_neverNow  M7) fun x6 M8 =>
  cb_let ((((31 : Int64) * y10) + x6.toInt64)) fun y11 =>
  cb_bind2 (f_X7_yearOf 7 0 M8) fun x7 M9 =>
  cb_let ((((31 : Int64) * y11) + x7.toInt64)) fun y12 =>
  cb_bind2 (f_X7_yearOf 7 1 M9) fun x8 M10 =>
  some ((((31 : Int64) * y12) + x8.toInt64), M10)
set_option maxRecDepth 100000 in
set_option maxHeartbeats 4000000 in
theorem l_X7_digest_L6 {l : Launch} {g : cb_Geo} {γ : cb_Gam} {rr : Int64} {Mr : cb_Mem} (hC : cb_C cy g γ RX7 cX7_digest 4 (some .long) 9 l (cb_Ql cy g rr Mr))  : ∀ (n : Nat) (v1 : Int64) (v3 : Int32) (M : cb_Mem) (o : (Int64 × cb_Mem)), f_X7_digest_L6 n v1 v3 M = some o → (∀ (v1' : Int64) (M' : cb_Mem), o = (v1', M') → cb_J cy g γ 4 M' 31 [(0, .ref (g.2.1 0)), (1, .long v1')] []) → cb_J cy g γ 4 M 6 [(0, .ref (g.2.1 0)), (1, .long v1), (3, .int v3)] [] := by
  intro n
  induction n with
  | zero =>
    intro v1 v3 M o h
    cases h
  | succ n ih =>
    intro v1 v3 M o h hexit
    unfold f_X7_digest_L6 at h
    refine cj_iload_n hC dX7_digest_6 rfl 2 rfl ?_
    refine cj_bipush (v := 8) hC dX7_digest_7 rfl ?_
    refine cj_icmp_ge (tgt := 31) hC dX7_digest_9 (by decide) (fun c1 => ?_) (fun c1 => ?_)
    · replace h := cb_T c1 h
      obtain rfl := Option.some.inj h
      exact cj_pick [0, 1] rfl (hexit _ _ rfl)
    · replace h := cb_F c1 h
      refine cj_ldc2_w (v := 31) hC wd_1273 dX7_digest_12 ?_
      refine cj_lload_n hC dX7_digest_15 rfl 1 rfl ?_
      refine cj_lmul hC dX7_digest_16 ?_
      refine cj_aload_n hC dX7_digest_17 rfl 0 rfl ?_
      refine cj_iload_n hC dX7_digest_18 rfl 2 rfl ?_
      obtain ⟨x1, M1, e1, h⟩ := cb_b2 h
      refine cj_callVi (As := [.int v3]) hC cv_X7_295 cy_l0_ (cy_e0 g _) rfl (c_X7_count l g v3 M e1) (by decide) rfl rfl (Nat.le_of_ble_eq_true rfl) dX7_digest_19 ?_
      refine cj_i2l hC dX7_digest_22 ?_
      refine cj_ladd hC dX7_digest_23 ?_
      obtain ⟨y1, ey1, h⟩ := cb_l h
      refine cj_topl ey1 ?_
      refine cj_lstore_n (lv' := [(1, .long y1), (0, .ref (g.2.1 0)), (3, .int v3)]) hC dX7_digest_24 rfl (by decide) rfl ?_
      refine cj_iinc (lv' := [(3, .int (v3 + 1)), (1, .long y1), (0, .ref (g.2.1 0))]) hC dX7_digest_25 (q := 2) rfl rfl (by decide) rfl ?_
      refine cj_goto (tgt := 6) hC dX7_digest_28 (by decide) ?_
      exact cj_pick [2, 1, 0] rfl (ih _ _ _ _ h hexit)
set_option maxRecDepth 100000 in
set_option maxHeartbeats 4000000 in
theorem l_X7_digest_L57 {l : Launch} {g : cb_Geo} {γ : cb_Gam} {rr : Int64} {Mr : cb_Mem} (hC : cb_C cy g γ RX7 cX7_digest 4 (some .long) 9 l (cb_Ql cy g rr Mr))  : ∀ (n : Nat) (v1 : Int64) (v3 : Int32) (M : cb_Mem) (o : (Int64 × cb_Mem)), f_X7_digest_L57 n v1 v3 M = some o → (∀ (v1' : Int64) (M' : cb_Mem), o = (v1', M') → cb_J cy g γ 4 M' 78 [(0, .ref (g.2.1 0)), (1, .long v1')] []) → cb_J cy g γ 4 M 57 [(0, .ref (g.2.1 0)), (1, .long v1), (3, .int v3)] [] := by
  intro n
  induction n with
  | zero =>
    intro v1 v3 M o h
    cases h
  | succ n ih =>
    intro v1 v3 M o h hexit
    unfold f_X7_digest_L57 at h
    refine cj_iload_n hC dX7_digest_57 rfl 2 rfl ?_
    refine cj_aload_n hC dX7_digest_58 rfl 0 rfl ?_
    refine cj_get (v := .int (M 0 7)) hC fa_X7_118 cy_l0_ (cy_e0 g _) rfl dX7_digest_59 ?_
    refine cj_icmp_ge (tgt := 78) hC dX7_digest_62 (by decide) (fun c1 => ?_) (fun c1 => ?_)
    · replace h := cb_T c1 h
      obtain rfl := Option.some.inj h
      exact cj_pick [0, 1] rfl (hexit _ _ rfl)
    · replace h := cb_F c1 h
      refine cj_aload_n hC dX7_digest_65 rfl 0 rfl ?_
      refine cj_lload_n hC dX7_digest_66 rfl 1 rfl ?_
      refine cj_iload_n hC dX7_digest_67 rfl 2 rfl ?_
      obtain ⟨y1, M1, e1, h⟩ := cb_b2 h
      refine cj_callVl (As := [.long v1, .int v3]) hC cv_X7_298 cy_l0_ (cy_e0 g _) rfl (c_X7_tellsHead l g v1 v3 M e1) (by decide) rfl rfl (Nat.le_of_ble_eq_true rfl) dX7_digest_68 ?_
      refine cj_lstore_n (lv' := [(1, .long y1), (0, .ref (g.2.1 0)), (3, .int v3)]) hC dX7_digest_71 rfl (by decide) rfl ?_
      refine cj_iinc (lv' := [(3, .int (v3 + 1)), (1, .long y1), (0, .ref (g.2.1 0))]) hC dX7_digest_72 (q := 2) rfl rfl (by decide) rfl ?_
      refine cj_goto (tgt := 57) hC dX7_digest_75 (by decide) ?_
      exact cj_pick [2, 1, 0] rfl (ih _ _ _ _ h hexit)
set_option maxRecDepth 100000 in
set_option maxHeartbeats 4000000 in
theorem l_X7_digest_L80 {l : Launch} {g : cb_Geo} {γ : cb_Gam} {rr : Int64} {Mr : cb_Mem} (hC : cb_C cy g γ RX7 cX7_digest 4 (some .long) 9 l (cb_Ql cy g rr Mr))  : ∀ (n : Nat) (v1 : Int64) (v3 : Int32) (M : cb_Mem) (o : (Int64 × cb_Mem)), f_X7_digest_L80 n v1 v3 M = some o → (∀ (v1' : Int64) (M' : cb_Mem), o = (v1', M') → cb_J cy g γ 4 M' 101 [(0, .ref (g.2.1 0)), (1, .long v1')] []) → cb_J cy g γ 4 M 80 [(0, .ref (g.2.1 0)), (1, .long v1), (3, .int v3)] [] := by
  intro n
  induction n with
  | zero =>
    intro v1 v3 M o h
    cases h
  | succ n ih =>
    intro v1 v3 M o h hexit
    unfold f_X7_digest_L80 at h
    refine cj_iload_n hC dX7_digest_80 rfl 2 rfl ?_
    refine cj_aload_n hC dX7_digest_81 rfl 0 rfl ?_
    refine cj_get (v := .int (M 0 9)) hC fa_X7_124 cy_l0_ (cy_e0 g _) rfl dX7_digest_82 ?_
    refine cj_icmp_ge (tgt := 101) hC dX7_digest_85 (by decide) (fun c1 => ?_) (fun c1 => ?_)
    · replace h := cb_T c1 h
      obtain rfl := Option.some.inj h
      exact cj_pick [0, 1] rfl (hexit _ _ rfl)
    · replace h := cb_F c1 h
      refine cj_aload_n hC dX7_digest_88 rfl 0 rfl ?_
      refine cj_lload_n hC dX7_digest_89 rfl 1 rfl ?_
      refine cj_iload_n hC dX7_digest_90 rfl 2 rfl ?_
      obtain ⟨y1, M1, e1, h⟩ := cb_b2 h
      refine cj_callVl (As := [.long v1, .int v3]) hC cv_X7_302 cy_l0_ (cy_e0 g _) rfl (c_X7_tellsCouple l g v1 v3 M e1) (by decide) rfl rfl (Nat.le_of_ble_eq_true rfl) dX7_digest_91 ?_
      refine cj_lstore_n (lv' := [(1, .long y1), (0, .ref (g.2.1 0)), (3, .int v3)]) hC dX7_digest_94 rfl (by decide) rfl ?_
      refine cj_iinc (lv' := [(3, .int (v3 + 1)), (1, .long y1), (0, .ref (g.2.1 0))]) hC dX7_digest_95 (q := 2) rfl rfl (by decide) rfl ?_
      refine cj_goto (tgt := 80) hC dX7_digest_98 (by decide) ?_
      exact cj_pick [2, 1, 0] rfl (ih _ _ _ _ h hexit)
set_option maxRecDepth 100000 in
set_option maxHeartbeats 4000000 in
theorem c_X7_digest (l : Launch) (g : cb_Geo)  (M : cb_Mem) {rr : Int64} {Mr : cb_Mem} (h : f_X7_digest  M = some (rr, Mr)) : Met l yX7_digest (.code yX7_digest cX7_digest 4 (some .long) :: cb_ws) (cb_rm 9) (cb_Pc cy g [.ref (g.2.1 0)] M) (cb_Ql cy g rr Mr) 0 0 (cb_A cy g) := by
  refine cb_met (by decide) wd_1271 (Nat.le_of_ble_eq_true rfl) (fun γ hC => ?_)
  replace hC : cb_C cy g γ RX7 cX7_digest 4 (some .long) 9 l (cb_Ql cy g rr Mr) := hC
  show cb_J cy g γ 4 M 0 [(0, .ref (g.2.1 0))] []
  unfold f_X7_digest at h
  refine cj_ldc2_w (v := 17) hC wd_1272 dX7_digest_0 ?_
  refine cj_lstore_n (lv' := [(1, .long 17), (0, .ref (g.2.1 0))]) hC dX7_digest_3 rfl (by decide) rfl ?_
  refine cj_iconst (v := 0) hC dX7_digest_4 rfl ?_
  refine cj_istore_n (lv' := [(3, .int 0), (1, .long 17), (0, .ref (g.2.1 0))]) hC dX7_digest_5 rfl (by decide) rfl ?_
  obtain ⟨y1, M1, e1, h⟩ := cb_b2 h
  refine cj_pick [2, 1, 0] rfl ?_
  refine l_X7_digest_L6 hC  cb_fuel _ _ _ _ e1 (fun ze10 ze11 hz => ?_)
  obtain ⟨rfl, rfl⟩ := cb_p2 hz
  refine cj_ldc2_w (v := 31) hC wd_1273 dX7_digest_31 ?_
  refine cj_lload_n hC dX7_digest_34 rfl 1 rfl ?_
  refine cj_lmul hC dX7_digest_35 ?_
  refine cj_aload_n hC dX7_digest_36 rfl 0 rfl ?_
  obtain ⟨x1, M2, e2, h⟩ := cb_b2 h
  refine cj_callVi (As := []) hC cv_X7_127 cy_l0_ (cy_e0 g _) rfl (c_X7_readsHeads l g  M1 e2) (by decide) rfl rfl (Nat.le_of_ble_eq_true rfl) dX7_digest_37 ?_
  refine cj_i2l hC dX7_digest_40 ?_
  refine cj_ladd hC dX7_digest_41 ?_
  obtain ⟨y2, ey2, h⟩ := cb_l h
  refine cj_topl ey2 ?_
  refine cj_lstore_n (lv' := [(1, .long y2), (0, .ref (g.2.1 0))]) hC dX7_digest_42 rfl (by decide) rfl ?_
  refine cj_ldc2_w (v := 31) hC wd_1273 dX7_digest_43 ?_
  refine cj_lload_n hC dX7_digest_46 rfl 0 rfl ?_
  refine cj_lmul hC dX7_digest_47 ?_
  refine cj_aload_n hC dX7_digest_48 rfl 1 rfl ?_
  obtain ⟨x2, M3, e3, h⟩ := cb_b2 h
  refine cj_callVi (As := []) hC cv_X7_131 cy_l0_ (cy_e0 g _) rfl (c_X7_readsCouples l g  M2 e3) (by decide) rfl rfl (Nat.le_of_ble_eq_true rfl) dX7_digest_49 ?_
  refine cj_i2l hC dX7_digest_52 ?_
  refine cj_ladd hC dX7_digest_53 ?_
  obtain ⟨y3, ey3, h⟩ := cb_l h
  refine cj_topl ey3 ?_
  refine cj_lstore_n (lv' := [(1, .long y3), (0, .ref (g.2.1 0))]) hC dX7_digest_54 rfl (by decide) rfl ?_
  refine cj_iconst (v := 0) hC dX7_digest_55 rfl ?_
  refine cj_istore_n (lv' := [(3, .int 0), (1, .long y3), (0, .ref (g.2.1 0))]) hC dX7_digest_56 rfl (by decide) rfl ?_
  obtain ⟨y4, M4, e4, h⟩ := cb_b2 h
  refine cj_pick [2, 1, 0] rfl ?_
  refine l_X7_digest_L57 hC  cb_fuel _ _ _ _ e4 (fun ze40 ze41 hz => ?_)
  obtain ⟨rfl, rfl⟩ := cb_p2 hz
  refine cj_iconst (v := 0) hC dX7_digest_78 rfl ?_
  refine cj_istore_n (lv' := [(3, .int 0), (0, .ref (g.2.1 0)), (1, .long y4)]) hC dX7_digest_79 rfl (by decide) rfl ?_
  obtain ⟨y5, M5, e5, h⟩ := cb_b2 h
  refine cj_pick [1, 2, 0] rfl ?_
  refine l_X7_digest_L80 hC  cb_fuel _ _ _ _ e5 (fun ze50 ze51 hz => ?_)
  obtain ⟨rfl, rfl⟩ := cb_p2 hz
  refine cj_aload_n hC dX7_digest_101 rfl 0 rfl ?_
  obtain ⟨M6, e6, h⟩ := cb_b h
  refine cj_callVv (As := []) hC cv_X7_194 cy_l0_ (cy_e0 g _) rfl (c_X7_lives l g  M5 e6) (by decide) rfl rfl (Nat.le_of_ble_eq_true rfl) dX7_digest_102 ?_
  refine cj_ldc2_w (v := 31) hC wd_1273 dX7_digest_105 ?_
  refine cj_lload_n hC dX7_digest_108 rfl 1 rfl ?_
  refine cj_lmul hC dX7_digest_109 ?_
  refine cj_aload_n hC dX7_digest_110 rfl 0 rfl ?_
  refine cj_bipush (v := 9) hC dX7_digest_111 rfl ?_
  obtain ⟨x3, e7, h⟩ := cb_b h
  refine cj_callVi (As := [.int 9]) hC cv_X7_212 cy_l0_ (cy_e0 g _) rfl (c_X7_childrenBy l g 9 M6 e7) (by decide) rfl rfl (Nat.le_of_ble_eq_true rfl) dX7_digest_113 ?_
  refine cj_i2l hC dX7_digest_116 ?_
  refine cj_ladd hC dX7_digest_117 ?_
  obtain ⟨y6, ey6, h⟩ := cb_l h
  refine cj_topl ey6 ?_
  refine cj_lstore_n (lv' := [(1, .long y6), (0, .ref (g.2.1 0))]) hC dX7_digest_118 rfl (by decide) rfl ?_
  refine cj_ldc2_w (v := 31) hC wd_1273 dX7_digest_119 ?_
  refine cj_lload_n hC dX7_digest_122 rfl 0 rfl ?_
  refine cj_lmul hC dX7_digest_123 ?_
  refine cj_aload_n hC dX7_digest_124 rfl 1 rfl ?_
  obtain ⟨x4, e8, h⟩ := cb_b h
  refine cj_callVi (As := []) hC cv_X7_215 cy_l0_ (cy_e0 g _) rfl (c_X7_withoutNow l g  M6 e8) (by decide) rfl rfl (Nat.le_of_ble_eq_true rfl) dX7_digest_125 ?_
  refine cj_i2l hC dX7_digest_128 ?_
  refine cj_ladd hC dX7_digest_129 ?_
  obtain ⟨y7, ey7, h⟩ := cb_l h
  refine cj_topl ey7 ?_
  refine cj_lstore_n (lv' := [(1, .long y7), (0, .ref (g.2.1 0))]) hC dX7_digest_130 rfl (by decide) rfl ?_
  refine cj_ldc2_w (v := 31) hC wd_1273 dX7_digest_131 ?_
  refine cj_lload_n hC dX7_digest_134 rfl 0 rfl ?_
  refine cj_lmul hC dX7_digest_135 ?_
  refine cj_aload_n hC dX7_digest_136 rfl 1 rfl ?_
  refine cj_get (v := .int (M6 0 24)) hC fa_X7_167 cy_l0_ (cy_e0 g _) rfl dX7_digest_137 ?_
  refine cj_i2l hC dX7_digest_140 ?_
  refine cj_ladd hC dX7_digest_141 ?_
  obtain ⟨y8, ey8, h⟩ := cb_l h
  refine cj_topl ey8 ?_
  refine cj_lstore_n (lv' := [(1, .long y8), (0, .ref (g.2.1 0))]) hC dX7_digest_142 rfl (by decide) rfl ?_
  refine cj_ldc2_w (v := 31) hC wd_1273 dX7_digest_143 ?_
  refine cj_lload_n hC dX7_digest_146 rfl 0 rfl ?_
  refine cj_lmul hC dX7_digest_147 ?_
  refine cj_aload_n hC dX7_digest_148 rfl 1 rfl ?_
  refine cj_get (v := .int (M6 0 25)) hC fa_X7_176 cy_l0_ (cy_e0 g _) rfl dX7_digest_149 ?_
  refine cj_i2l hC dX7_digest_152 ?_
  refine cj_ladd hC dX7_digest_153 ?_
  obtain ⟨y9, ey9, h⟩ := cb_l h
  refine cj_topl ey9 ?_
  refine cj_lstore_n (lv' := [(1, .long y9), (0, .ref (g.2.1 0))]) hC dX7_digest_154 rfl (by decide) rfl ?_
  refine cj_ldc2_w (v := 31) hC wd_1273 dX7_digest_155 ?_
  refine cj_lload_n hC dX7_digest_158 rfl 0 rfl ?_
  refine cj_lmul hC dX7_digest_159 ?_
  refine cj_aload_n hC dX7_digest_160 rfl 1 rfl ?_
  obtain ⟨x5, M7, e9, h⟩ := cb_b2 h
  refine cj_callVi (As := []) hC cv_X7_224 cy_l0_ (cy_e0 g _) rfl (c_X7_metNow l g  M6 e9) (by decide) rfl rfl (Nat.le_of_ble_eq_true rfl) dX7_digest_161 ?_
  refine cj_i2l hC dX7_digest_164 ?_
  refine cj_ladd hC dX7_digest_165 ?_
  obtain ⟨y10, ey10, h⟩ := cb_l h
  refine cj_topl ey10 ?_
  refine cj_lstore_n (lv' := [(1, .long y10), (0, .ref (g.2.1 0))]) hC dX7_digest_166 rfl (by decide) rfl ?_
  refine cj_ldc2_w (v := 31) hC wd_1273 dX7_digest_167 ?_
  refine cj_lload_n hC dX7_digest_170 rfl 0 rfl ?_
  refine cj_lmul hC dX7_digest_171 ?_
  refine cj_aload_n hC dX7_digest_172 rfl 1 rfl ?_
  obtain ⟨x6, M8, e10, h⟩ := cb_b2 h
  refine cj_callVi (As := []) hC cv_X7_253 cy_l0_ (cy_e0 g _) rfl (c_X7_neverNow l g  M7 e10) (by decide) rfl rfl (Nat.le_of_ble_eq_true rfl) dX7_digest_173 ?_
  refine cj_i2l hC dX7_digest_176 ?_
  refine cj_ladd hC dX7_digest_177 ?_
  obtain ⟨y11, ey11, h⟩ := cb_l h
  refine cj_topl ey11 ?_
  refine cj_lstore_n (lv' := [(1, .long y11), (0, .ref (g.2.1 0))]) hC dX7_digest_178 rfl (by decide) rfl ?_
  refine cj_ldc2_w (v := 31) hC wd_1273 dX7_digest_179 ?_
  refine cj_lload_n hC dX7_digest_182 rfl 0 rfl ?_
  refine cj_lmul hC dX7_digest_183 ?_
  refine cj_aload_n hC dX7_digest_184 rfl 1 rfl ?_
  refine cj_bipush (v := 7) hC dX7_digest_185 rfl ?_
  refine cj_iconst (v := 0) hC dX7_digest_187 rfl ?_
  obtain ⟨x7, M9, e11, h⟩ := cb_b2 h
  refine cj_callVi (As := [.int 7, .int 0]) hC cv_X7_285 cy_l0_ (cy_e0 g _) rfl (c_X7_yearOf l g 7 0 M8 e11) (by decide) rfl rfl (Nat.le_of_ble_eq_true rfl) dX7_digest_188 ?_
  refine cj_i2l hC dX7_digest_191 ?_
  refine cj_ladd hC dX7_digest_192 ?_
  obtain ⟨y12, ey12, h⟩ := cb_l h
  refine cj_topl ey12 ?_
  refine cj_lstore_n (lv' := [(1, .long y12), (0, .ref (g.2.1 0))]) hC dX7_digest_193 rfl (by decide) rfl ?_
  refine cj_ldc2_w (v := 31) hC wd_1273 dX7_digest_194 ?_
  refine cj_lload_n hC dX7_digest_197 rfl 0 rfl ?_
  refine cj_lmul hC dX7_digest_198 ?_
  refine cj_aload_n hC dX7_digest_199 rfl 1 rfl ?_
  refine cj_bipush (v := 7) hC dX7_digest_200 rfl ?_
  refine cj_iconst (v := 1) hC dX7_digest_202 rfl ?_
  obtain ⟨x8, M10, e12, h⟩ := cb_b2 h
  refine cj_callVi (As := [.int 7, .int 1]) hC cv_X7_285 cy_l0_ (cy_e0 g _) rfl (c_X7_yearOf l g 7 1 M9 e12) (by decide) rfl rfl (Nat.le_of_ble_eq_true rfl) dX7_digest_203 ?_
  refine cj_i2l hC dX7_digest_206 ?_
  refine cj_ladd hC dX7_digest_207 ?_
  obtain ⟨rfl, rfl⟩ := cb_i2 h
  exact cj_lret hC dX7_digest_208
