def f_X6_isNoHead (p1 : Int32) (M : cb_Mem) : Int32 :=
  cb_let (f_X6_isOff p1 (M 30 6)) fun x1 =>
  (x1 &&& 1)
set_option maxRecDepth 100000 in
set_option maxHeartbeats 4000000 in
theorem c_X6_isNoHead (l : Launch) (g : cb_Geo) (p1 : Int32) (M : cb_Mem) {rr : Int32} (h : f_X6_isNoHead p1 M = rr) : Met l yX6_isNoHead (.code yX6_isNoHead cX6_isNoHead 2 (some .boolean) :: cb_ws) (cb_rm 1) (cb_Pc cx g [.ref (g.2.1 0), .int p1] M) (cb_Qi cx g rr M) 0 0 (cb_A cx g) := by
  refine cb_met (by decide) wd_475 (Nat.le_of_ble_eq_true rfl) (fun γ hC => ?_)
  replace hC : cb_C cx g γ RX6 cX6_isNoHead 2 (some .boolean) 1 l (cb_Qi cx g rr M) := hC
  show cb_J cx g γ 2 M 0 [(0, .ref (g.2.1 0)), (1, .int p1)] []
  unfold f_X6_isNoHead at h
  refine cj_iload_n hC dX6_isNoHead_0 rfl 1 rfl ?_
  refine cj_aload_n hC dX6_isNoHead_1 rfl 0 rfl ?_
  refine cj_get (v := .ref (g.2.1 1)) hC fa_X6_16 cx_l0_ (cx_e0 g _) rfl dX6_isNoHead_2 ?_
  refine cj_iconst (v := 0) hC dX6_isNoHead_5 rfl ?_
  refine cj_aald (t0 := 1) (a := g.2.1 30) hC cx_l1_ (cx_e1 g _) rfl rfl (cb_in_iff.mp (by decide)) rfl dX6_isNoHead_6 ?_
  refine cj_get (v := .int (M 30 6)) hC fa_X6_280 (by decide) (cx_text (show 0 < 2 by decide) g _) rfl dX6_isNoHead_7 ?_
  obtain ⟨x1, e1, h⟩ := cb_l h
  refine cj_callSi (As := [.int p1, .int (M 30 6)]) hC cs_X6_77 (c_X6_isOff l g p1 (M 30 6) M e1.symm) (by decide) rfl rfl (Nat.le_of_ble_eq_true rfl) dX6_isNoHead_10 ?_
  obtain rfl := h
  exact cj_zret2 hC dX6_isNoHead_13
def f_X6_isNoCouple (p1 : Int32) (M : cb_Mem) : Int32 :=
  cb_let (f_X6_isOff p1 (M 31 6)) fun x1 =>
  (x1 &&& 1)
set_option maxRecDepth 100000 in
set_option maxHeartbeats 4000000 in
theorem c_X6_isNoCouple (l : Launch) (g : cb_Geo) (p1 : Int32) (M : cb_Mem) {rr : Int32} (h : f_X6_isNoCouple p1 M = rr) : Met l yX6_isNoCouple (.code yX6_isNoCouple cX6_isNoCouple 2 (some .boolean) :: cb_ws) (cb_rm 1) (cb_Pc cx g [.ref (g.2.1 0), .int p1] M) (cb_Qi cx g rr M) 0 0 (cb_A cx g) := by
  refine cb_met (by decide) wd_483 (Nat.le_of_ble_eq_true rfl) (fun γ hC => ?_)
  replace hC : cb_C cx g γ RX6 cX6_isNoCouple 2 (some .boolean) 1 l (cb_Qi cx g rr M) := hC
  show cb_J cx g γ 2 M 0 [(0, .ref (g.2.1 0)), (1, .int p1)] []
  unfold f_X6_isNoCouple at h
  refine cj_iload_n hC dX6_isNoCouple_0 rfl 1 rfl ?_
  refine cj_aload_n hC dX6_isNoCouple_1 rfl 0 rfl ?_
  refine cj_get (v := .ref (g.2.1 1)) hC fa_X6_16 cx_l0_ (cx_e0 g _) rfl dX6_isNoCouple_2 ?_
  refine cj_iconst (v := 1) hC dX6_isNoCouple_5 rfl ?_
  refine cj_aald (t0 := 1) (a := g.2.1 31) hC cx_l1_ (cx_e1 g _) rfl rfl (cb_in_iff.mp (by decide)) rfl dX6_isNoCouple_6 ?_
  refine cj_get (v := .int (M 31 6)) hC fa_X6_280 (by decide) (cx_text (show 1 < 2 by decide) g _) rfl dX6_isNoCouple_7 ?_
  obtain ⟨x1, e1, h⟩ := cb_l h
  refine cj_callSi (As := [.int p1, .int (M 31 6)]) hC cs_X6_77 (c_X6_isOff l g p1 (M 31 6) M e1.symm) (by decide) rfl rfl (Nat.le_of_ble_eq_true rfl) dX6_isNoCouple_10 ?_
  obtain rfl := h
  exact cj_zret2 hC dX6_isNoCouple_13
def f_X6_asLong (p1 : Int32) : Int64 :=
  (((-9223372036854775808) : Int64) - p1.toInt64)
set_option maxRecDepth 100000 in
set_option maxHeartbeats 4000000 in
theorem c_X6_asLong (l : Launch) (g : cb_Geo) (p1 : Int32) (M : cb_Mem) {rr : Int64} (h : f_X6_asLong p1 = rr) : Met l yX6_asLong (.code yX6_asLong cX6_asLong 1 (some .long) :: cb_ws) (cb_rm 0) (cb_Pc cx g [.int p1] M) (cb_Ql cx g rr M) 0 0 (cb_A cx g) := by
  refine cb_met (by decide) wd_734 (Nat.le_of_ble_eq_true rfl) (fun γ hC => ?_)
  replace hC : cb_C cx g γ RX6 cX6_asLong 1 (some .long) 0 l (cb_Ql cx g rr M) := hC
  show cb_J cx g γ 1 M 0 [(0, .int p1)] []
  unfold f_X6_asLong at h
  refine cj_ldc2_w (v := (-9223372036854775808)) hC wd_735 dX6_asLong_0 ?_
  refine cj_iload_n hC dX6_asLong_3 rfl 0 rfl ?_
  refine cj_i2l hC dX6_asLong_4 ?_
  refine cj_lsub hC dX6_asLong_5 ?_
  obtain rfl := h
  exact cj_lret hC dX6_asLong_6
def f_X6_found (p1 : Int32) (M : cb_Mem) : Int32 × cb_Mem :=
  cb_let (cb_up M 0 10 p1) fun M1 =>
  (((-10) - p1), M1)
set_option maxRecDepth 100000 in
set_option maxHeartbeats 4000000 in
theorem c_X6_found (l : Launch) (g : cb_Geo) (p1 : Int32) (M : cb_Mem) {rr : Int32} {Mr : cb_Mem} (h : f_X6_found p1 M = (rr, Mr)) : Met l yX6_found (.code yX6_found cX6_found 2 (some .int) :: cb_ws) (cb_rm 0) (cb_Pc cx g [.ref (g.2.1 0), .int p1] M) (cb_Qi cx g rr Mr) 0 0 (cb_A cx g) := by
  refine cb_met (by decide) wd_509 (Nat.le_of_ble_eq_true rfl) (fun γ hC => ?_)
  replace hC : cb_C cx g γ RX6 cX6_found 2 (some .int) 0 l (cb_Qi cx g rr Mr) := hC
  show cb_J cx g γ 2 M 0 [(0, .ref (g.2.1 0)), (1, .int p1)] []
  unfold f_X6_found at h
  refine cj_aload_n hC dX6_found_0 rfl 0 rfl ?_
  refine cj_iload_n hC dX6_found_1 rfl 1 rfl ?_
  obtain ⟨M1, eM1, h⟩ := cb_l h
  refine cj_put hC fp_X6_73 cx_l0_ (cx_e0 g _) rfl (Nat.le_of_ble_eq_true rfl) eM1 dX6_found_2 ?_
  refine cj_bipush (v := (-10)) hC dX6_found_5 rfl ?_
  refine cj_iload_n hC dX6_found_7 rfl 1 rfl ?_
  refine cj_isub hC dX6_found_8 ?_
  obtain ⟨rfl, rfl⟩ := cb_p2 h
  exact cj_iret hC dX6_found_9
def f_X6_whatIsWrong (i : Nat) (p1 : Int32) (p2 : Int32) (M : cb_Mem) : Int32 :=
  cb_let (f_X3_isLost i M) fun x1 =>
  if x1 = 0 then
  if (M (42 + i) 1) = p1 then
  cb_let (f_X6_isOff p2 (M (42 + i) 2)) fun x2 =>
  if x2 = 0 then
  (0 : Int32)
  else
  (2 : Int32)
  else
  (3 : Int32)
  else
  (1 : Int32)
set_option maxRecDepth 100000 in
set_option maxHeartbeats 4000000 in
theorem c_X6_whatIsWrong (l : Launch) (g : cb_Geo) (i : Nat) (hi : i < 4) (p1 : Int32) (p2 : Int32) (M : cb_Mem) {rr : Int32} (h : f_X6_whatIsWrong i p1 p2 M = rr) : Met l yX6_whatIsWrong (.code yX6_whatIsWrong cX6_whatIsWrong 3 (some .int) :: cb_ws) (cb_rm 1) (cb_Pc cx g [.ref (g.2.1 (42 + i)), .int p1, .int p2] M) (cb_Qi cx g rr M) 0 0 (cb_A cx g) := by
  refine cb_met (by decide) wd_777 (Nat.le_of_ble_eq_true rfl) (fun γ hC => ?_)
  replace hC : cb_C cx g γ RX6 cX6_whatIsWrong 3 (some .int) 1 l (cb_Qi cx g rr M) := hC
  show cb_J cx g γ 3 M 0 [(0, .ref (g.2.1 (42 + i))), (1, .int p1), (2, .int p2)] []
  unfold f_X6_whatIsWrong at h
  refine cj_aload_n hC dX6_whatIsWrong_0 rfl 0 rfl ?_
  obtain ⟨x1, e1, h⟩ := cb_l h
  refine cj_callVi (As := []) hC cv_X6_119 (cx_l4 hi (by decide)) (cx_sheet hi g _) rfl (c_X3_isLost l g i hi M e1.symm) (by decide) rfl rfl (Nat.le_of_ble_eq_true rfl) dX6_whatIsWrong_1 ?_
  refine cj_if_eq (tgt := 9) hC dX6_whatIsWrong_4 (by decide) (fun c1 => ?_) (fun c1 => ?_)
  · replace h := cb_T c1 h
    refine cj_aload_n hC dX6_whatIsWrong_9 rfl 0 rfl ?_
    refine cj_get (v := .int (M (42 + i) 1)) hC fa_X6_265 (cx_l4 hi (by decide)) (cx_sheet hi g _) rfl dX6_whatIsWrong_10 ?_
    refine cj_iload_n hC dX6_whatIsWrong_13 rfl 1 rfl ?_
    refine cj_icmp_eq (tgt := 19) hC dX6_whatIsWrong_14 (by decide) (fun c2 => ?_) (fun c2 => ?_)
    · replace h := cb_T c2 h
      refine cj_iload_n hC dX6_whatIsWrong_19 rfl 2 rfl ?_
      refine cj_aload_n hC dX6_whatIsWrong_20 rfl 0 rfl ?_
      refine cj_get (v := .int (M (42 + i) 2)) hC fa_X6_126 (cx_l4 hi (by decide)) (cx_sheet hi g _) rfl dX6_whatIsWrong_21 ?_
      obtain ⟨x2, e2, h⟩ := cb_l h
      refine cj_callSi (As := [.int p2, .int (M (42 + i) 2)]) hC cs_X6_77 (c_X6_isOff l g p2 (M (42 + i) 2) M e2.symm) (by decide) rfl rfl (Nat.le_of_ble_eq_true rfl) dX6_whatIsWrong_24 ?_
      refine cj_if_eq (tgt := 34) hC dX6_whatIsWrong_27 (by decide) (fun c3 => ?_) (fun c3 => ?_)
      · replace h := cb_T c3 h
        refine cj_iconst (v := 0) hC dX6_whatIsWrong_34 rfl ?_
        obtain rfl := h
        exact cj_iret hC dX6_whatIsWrong_35
      · replace h := cb_F c3 h
        refine cj_iconst (v := 2) hC dX6_whatIsWrong_30 rfl ?_
        refine cj_goto (tgt := 35) hC dX6_whatIsWrong_31 (by decide) ?_
        obtain rfl := h
        exact cj_iret hC dX6_whatIsWrong_35
    · replace h := cb_F c2 h
      refine cj_iconst (v := 3) hC dX6_whatIsWrong_17 rfl ?_
      obtain rfl := h
      exact cj_iret hC dX6_whatIsWrong_18
  · replace h := cb_F c1 h
    refine cj_iconst (v := 1) hC dX6_whatIsWrong_7 rfl ?_
    obtain rfl := h
    exact cj_iret hC dX6_whatIsWrong_8
def f_X6_layOut  (M : cb_Mem) : Option (cb_Mem) :=
  cb_let (f_X1_plant 0 M) fun M1 =>
  cb_let (f_X1_invite 1 M1) fun M2 =>
  (f_X1_freeze  M2).bind fun M3 =>
  (f_X1_letRabbitsIn 0 M3).bind fun M4 =>
  some M4
set_option maxRecDepth 100000 in
set_option maxHeartbeats 4000000 in
theorem c_X6_layOut (l : Launch) (g : cb_Geo)  (M : cb_Mem) {Mr : cb_Mem} (h : f_X6_layOut  M = some Mr) : Met l yX6_layOut (.code yX6_layOut cX6_layOut 1 none :: cb_ws) (cb_rm 2) (cb_Pc cx g [.ref (g.2.1 0)] M) (cb_Qv cx g Mr) 0 0 (cb_A cx g) := by
  refine cb_met (by decide) wd_527 (Nat.le_of_ble_eq_true rfl) (fun γ hC => ?_)
  replace hC : cb_C cx g γ RX6 cX6_layOut 1 none 2 l (cb_Qv cx g Mr) := hC
  show cb_J cx g γ 1 M 0 [(0, .ref (g.2.1 0))] []
  unfold f_X6_layOut at h
  refine cj_aload_n hC dX6_layOut_0 rfl 0 rfl ?_
  refine cj_get (v := .ref (g.2.1 3)) hC fa_X6_50 cx_l0_ (cx_e0 g _) rfl dX6_layOut_1 ?_
  refine cj_aload_n hC dX6_layOut_4 rfl 0 rfl ?_
  refine cj_get (v := .ref (g.2.1 1)) hC fa_X6_16 cx_l0_ (cx_e0 g _) rfl dX6_layOut_5 ?_
  refine cj_iconst (v := 0) hC dX6_layOut_8 rfl ?_
  refine cj_aald (t0 := 1) (a := g.2.1 30) hC cx_l1_ (cx_e1 g _) rfl rfl (cb_in_iff.mp (by decide)) rfl dX6_layOut_9 ?_
  obtain ⟨M1, e1, h⟩ := cb_l h
  refine cj_callVv (As := [.ref (g.2.1 30)]) hC cv_X6_356 cx_l3_ (cx_e3 g _) rfl (c_X1_plant l g 0 (show 0 < 2 by decide) M e1.symm) (by decide) rfl rfl (Nat.le_of_ble_eq_true rfl) dX6_layOut_10 ?_
  refine cj_aload_n hC dX6_layOut_13 rfl 0 rfl ?_
  refine cj_get (v := .ref (g.2.1 3)) hC fa_X6_50 cx_l0_ (cx_e0 g _) rfl dX6_layOut_14 ?_
  refine cj_aload_n hC dX6_layOut_17 rfl 0 rfl ?_
  refine cj_get (v := .ref (g.2.1 1)) hC fa_X6_16 cx_l0_ (cx_e0 g _) rfl dX6_layOut_18 ?_
  refine cj_iconst (v := 1) hC dX6_layOut_21 rfl ?_
  refine cj_aald (t0 := 1) (a := g.2.1 31) hC cx_l1_ (cx_e1 g _) rfl rfl (cb_in_iff.mp (by decide)) rfl dX6_layOut_22 ?_
  obtain ⟨M2, e2, h⟩ := cb_l h
  refine cj_callVv (As := [.ref (g.2.1 31)]) hC cv_X6_360 cx_l3_ (cx_e3 g _) rfl (c_X1_invite l g 1 (show 1 < 2 by decide) M1 e2.symm) (by decide) rfl rfl (Nat.le_of_ble_eq_true rfl) dX6_layOut_23 ?_
  refine cj_aload_n hC dX6_layOut_26 rfl 0 rfl ?_
  refine cj_get (v := .ref (g.2.1 3)) hC fa_X6_50 cx_l0_ (cx_e0 g _) rfl dX6_layOut_27 ?_
  refine cj_aload_n hC dX6_layOut_30 rfl 0 rfl ?_
  refine cj_get (v := .ref (g.2.1 8)) hC fa_X6_27 cx_l0_ (cx_e0 g _) rfl dX6_layOut_31 ?_
  obtain ⟨M3, e3, h⟩ := cb_b h
  refine cj_callVv (As := [.ref (g.2.1 8)]) hC cv_X6_363 cx_l3_ (cx_e3 g _) rfl (c_X1_freeze l g  M2 e3) (by decide) rfl rfl (Nat.le_of_ble_eq_true rfl) dX6_layOut_34 ?_
  refine cj_aload_n hC dX6_layOut_37 rfl 0 rfl ?_
  refine cj_get (v := .ref (g.2.1 3)) hC fa_X6_50 cx_l0_ (cx_e0 g _) rfl dX6_layOut_38 ?_
  refine cj_aload_n hC dX6_layOut_41 rfl 0 rfl ?_
  refine cj_get (v := .ref (g.2.1 10)) hC fa_X6_34 cx_l0_ (cx_e0 g _) rfl dX6_layOut_42 ?_
  refine cj_iconst (v := 0) hC dX6_layOut_45 rfl ?_
  obtain ⟨M4, e4, h⟩ := cb_b h
  refine cj_callVv (As := [.ref (g.2.1 10), .int 0]) hC cv_X6_210 cx_l3_ (cx_e3 g _) rfl (c_X1_letRabbitsIn l g 0 M3 e4) (by decide) rfl rfl (Nat.le_of_ble_eq_true rfl) dX6_layOut_46 ?_
  obtain rfl := Option.some.inj h
  exact cj_vret hC dX6_layOut_49
def f_X6_walkAsItIs  (M : cb_Mem) : Option (cb_Mem) :=
  (f_X6_layOut  M).bind fun M1 =>
  (f_X5_go  M1).bind fun M2 =>
  some M2
set_option maxRecDepth 100000 in
set_option maxHeartbeats 4000000 in
theorem c_X6_walkAsItIs (l : Launch) (g : cb_Geo)  (M : cb_Mem) {Mr : cb_Mem} (h : f_X6_walkAsItIs  M = some Mr) : Met l yX6_walkAsItIs (.code yX6_walkAsItIs cX6_walkAsItIs 1 none :: cb_ws) (cb_rm 3) (cb_Pc cx g [.ref (g.2.1 0)] M) (cb_Qv cx g Mr) 0 0 (cb_A cx g) := by
  refine cb_met (by decide) wd_523 (Nat.le_of_ble_eq_true rfl) (fun γ hC => ?_)
  replace hC : cb_C cx g γ RX6 cX6_walkAsItIs 1 none 3 l (cb_Qv cx g Mr) := hC
  show cb_J cx g γ 1 M 0 [(0, .ref (g.2.1 0))] []
  unfold f_X6_walkAsItIs at h
  refine cj_aload_n hC dX6_walkAsItIs_0 rfl 0 rfl ?_
  obtain ⟨M1, e1, h⟩ := cb_b h
  refine cj_callVv (As := []) hC cv_X6_184 cx_l0_ (cx_e0 g _) rfl (c_X6_layOut l g  M e1) (by decide) rfl rfl (Nat.le_of_ble_eq_true rfl) dX6_walkAsItIs_1 ?_
  refine cj_aload_n hC dX6_walkAsItIs_4 rfl 0 rfl ?_
  refine cj_get (v := .ref (g.2.1 4)) hC fa_X6_57 cx_l0_ (cx_e0 g _) rfl dX6_walkAsItIs_5 ?_
  refine cj_aload_n hC dX6_walkAsItIs_8 rfl 0 rfl ?_
  refine cj_get (v := .ref (g.2.1 3)) hC fa_X6_50 cx_l0_ (cx_e0 g _) rfl dX6_walkAsItIs_9 ?_
  obtain ⟨M2, e2, h⟩ := cb_b h
  refine cj_callVv (As := [.ref (g.2.1 3)]) hC cv_X6_196 cx_l4_ (cx_e4 g _) rfl (c_X5_go l g  M1 e2) (by decide) rfl rfl (Nat.le_of_ble_eq_true rfl) dX6_walkAsItIs_12 ?_
  obtain rfl := Option.some.inj h
  exact cj_vret hC dX6_walkAsItIs_15
def f_X6_childrenOf_L19 : Nat → Int32 → Int32 → cb_Mem → Option ((Int32) ⊕ (Unit))
    | 0, _, _, _ => none
    | n + 1, v2, v3, M =>
      if (M 9 1) ≤ v3 then
      some (Sum.inr ())
      else
      (f_X2_at 9 13 6 v3 M).bind fun x1 =>
      if x1 = v2 then
      some (Sum.inl (2 : Int32))
      else
      f_X6_childrenOf_L19 n v2 (v3 + 1) M
def f_X6_childrenOf (p1 : Int32) (M : cb_Mem) : Option (Int32) :=
  if cb_in p1 8 = true then
  cb_let ((M 25 p1.toNatClampNeg)) fun x1 =>
  if x1 = (-1) then
  some (0 : Int32)
  else
  cb_bs (f_X6_childrenOf_L19 cb_fuel x1 0 M) (fun r => some r) fun _ =>
  some (1 : Int32)
  else none
set_option maxRecDepth 100000 in
set_option maxHeartbeats 4000000 in
theorem l_X6_childrenOf_L19 {l : Launch} {g : cb_Geo} {γ : cb_Gam} {rr : Int32} {M : cb_Mem} (hC : cb_C cx g γ RX6 cX6_childrenOf 4 (some .int) 1 l (cb_Qi cx g rr M)) (v2 : Int32) : ∀ (n : Nat) (v3 : Int32) (o : ((Int32) ⊕ (Unit))), f_X6_childrenOf_L19 n v2 v3 M = some o → (∀ (u : Int32), o = Sum.inl u → u = rr) → (o = Sum.inr () → cb_J cx g γ 4 M 50 [] []) → cb_J cx g γ 4 M 19 [(0, .ref (g.2.1 0)), (2, .int v2), (3, .int v3)] [] := by
  intro n
  induction n with
  | zero =>
    intro v3 o h
    cases h
  | succ n ih =>
    intro v3 o h hret hexit
    unfold f_X6_childrenOf_L19 at h
    refine cj_iload_n hC dX6_childrenOf_19 rfl 2 rfl ?_
    refine cj_aload_n hC dX6_childrenOf_20 rfl 0 rfl ?_
    refine cj_get (v := .ref (g.2.1 9)) hC fa_X6_31 cx_l0_ (cx_e0 g _) rfl dX6_childrenOf_21 ?_
    refine cj_get (v := .int (M 9 1)) hC fa_X6_209 (cx_lt cx_row9.1) (cx_row9.2.2.1 g _) rfl dX6_childrenOf_24 ?_
    refine cj_icmp_ge (tgt := 50) hC dX6_childrenOf_27 (by decide) (fun c1 => ?_) (fun c1 => ?_)
    · replace h := cb_T c1 h
      obtain rfl := Option.some.inj h
      exact cj_pick [] rfl (hexit  rfl)
    · replace h := cb_F c1 h
      refine cj_aload_n hC dX6_childrenOf_30 rfl 0 rfl ?_
      refine cj_get (v := .ref (g.2.1 9)) hC fa_X6_31 cx_l0_ (cx_e0 g _) rfl dX6_childrenOf_31 ?_
      refine cj_iload_n hC dX6_childrenOf_34 rfl 2 rfl ?_
      obtain ⟨x1, e1, h⟩ := cb_b h
      refine cj_callVi (As := [.int v3]) hC cv_X6_367 (cx_lt cx_row9.1) (cx_row9.2.2.1 g _) rfl (c_X2_at l g 9 13 6 cx_row9 v3 M e1) (by decide) rfl rfl (Nat.le_of_ble_eq_true rfl) dX6_childrenOf_35 ?_
      refine cj_iload_n hC dX6_childrenOf_38 rfl 1 rfl ?_
      refine cj_icmp_ne (tgt := 44) hC dX6_childrenOf_39 (by decide) (fun c2 => ?_) (fun c2 => ?_)
      · replace h := cb_F c2 h
        refine cj_iinc (lv' := [(3, .int (v3 + 1)), (0, .ref (g.2.1 0)), (2, .int v2)]) hC dX6_childrenOf_44 (q := 2) rfl rfl (by decide) rfl ?_
        refine cj_goto (tgt := 19) hC dX6_childrenOf_47 (by decide) ?_
        exact cj_pick [1, 2, 0] rfl (ih _ _ h hret hexit)
      · replace h := cb_T c2 h
        refine cj_iconst (v := 2) hC dX6_childrenOf_42 rfl ?_
        obtain rfl := Option.some.inj h
        obtain rfl := hret _ rfl
        exact cj_iret hC dX6_childrenOf_43
set_option maxRecDepth 100000 in
set_option maxHeartbeats 4000000 in
theorem c_X6_childrenOf (l : Launch) (g : cb_Geo) (p1 : Int32) (M : cb_Mem) {rr : Int32} (h : f_X6_childrenOf p1 M = some rr) : Met l yX6_childrenOf (.code yX6_childrenOf cX6_childrenOf 4 (some .int) :: cb_ws) (cb_rm 1) (cb_Pc cx g [.ref (g.2.1 0), .int p1] M) (cb_Qi cx g rr M) 0 0 (cb_A cx g) := by
  refine cb_met (by decide) wd_609 (Nat.le_of_ble_eq_true rfl) (fun γ hC => ?_)
  replace hC : cb_C cx g γ RX6 cX6_childrenOf 4 (some .int) 1 l (cb_Qi cx g rr M) := hC
  show cb_J cx g γ 4 M 0 [(0, .ref (g.2.1 0)), (1, .int p1)] []
  unfold f_X6_childrenOf at h
  refine cj_aload_n hC dX6_childrenOf_0 rfl 0 rfl ?_
  refine cj_get (v := .ref (g.2.1 4)) hC fa_X6_57 cx_l0_ (cx_e0 g _) rfl dX6_childrenOf_1 ?_
  refine cj_get (v := .ref (g.2.1 25)) hC fa_X6_149 cx_l4_ (cx_e4 g _) rfl dX6_childrenOf_4 ?_
  refine cj_iload_n hC dX6_childrenOf_7 rfl 1 rfl ?_
  obtain ⟨i1, h⟩ := cb_g h
  refine cj_iald hC cx_l25_ (cx_e25 g _) (cx_t0 g) i1 dX6_childrenOf_8 ?_
  obtain ⟨x1, ex1, h⟩ := cb_l h
  refine cj_topi ex1 ?_
  refine cj_istore_n (lv' := [(2, .int x1), (0, .ref (g.2.1 0)), (1, .int p1)]) hC dX6_childrenOf_9 rfl (by decide) rfl ?_
  refine cj_iload_n hC dX6_childrenOf_10 rfl 0 rfl ?_
  refine cj_iconst (v := (-1)) hC dX6_childrenOf_11 rfl ?_
  refine cj_icmp_ne (tgt := 17) hC dX6_childrenOf_12 (by decide) (fun c1 => ?_) (fun c1 => ?_)
  · replace h := cb_F c1 h
    refine cj_iconst (v := 0) hC dX6_childrenOf_17 rfl ?_
    refine cj_istore_n (lv' := [(3, .int 0), (2, .int x1), (0, .ref (g.2.1 0)), (1, .int p1)]) hC dX6_childrenOf_18 rfl (by decide) rfl ?_
    obtain ⟨z1, e1, hr1, hk1⟩ := cb_s h
    refine cj_pick [2, 1, 0] rfl ?_
    refine l_X6_childrenOf_L19 hC x1 cb_fuel _ _ e1 (fun u hz => Option.some.inj (hr1 _ hz)) (fun hz => ?_)
    replace h := hk1 () hz
    refine cj_iconst (v := 1) hC dX6_childrenOf_50 rfl ?_
    obtain rfl := Option.some.inj h
    exact cj_iret hC dX6_childrenOf_51
  · replace h := cb_T c1 h
    refine cj_iconst (v := 0) hC dX6_childrenOf_15 rfl ?_
    obtain rfl := Option.some.inj h
    exact cj_iret hC dX6_childrenOf_16
def f_X6_childrenBehind_L4 : Nat → Int32 → Int32 → Int32 → cb_Mem → Option (Int32)
    | 0, _, _, _, _ => none
    | n + 1, v1, v2, v3, M =>
      if (M 3 7) ≤ v3 then
      some v2
      else
      if cb_in v3 8 = true then
      Option.bind (if v1 < (M 25 v3.toNatClampNeg) then
      some v2
      else
      (f_X6_childrenOf v3 M).bind fun x2 =>
      cb_let ((v2 + x2)) fun x3 =>
      some x3) fun x1 =>
      f_X6_childrenBehind_L4 n v1 x1 (v3 + 1) M
      else none
def f_X6_childrenBehind (p1 : Int32) (M : cb_Mem) : Option (Int32) :=
  (f_X6_childrenBehind_L4 cb_fuel p1 0 0 M).bind fun x1 =>
  some x1
set_option maxRecDepth 100000 in
set_option maxHeartbeats 4000000 in
theorem l_X6_childrenBehind_L4 {l : Launch} {g : cb_Geo} {γ : cb_Gam} {rr : Int32} {M : cb_Mem} (hC : cb_C cx g γ RX6 cX6_childrenBehind 4 (some .int) 2 l (cb_Qi cx g rr M)) (v1 : Int32) : ∀ (n : Nat) (v2 : Int32) (v3 : Int32) (o : (Int32)), f_X6_childrenBehind_L4 n v1 v2 v3 M = some o → (∀ (v2' : Int32), o = v2' → cb_J cx g γ 4 M 42 [(2, .int v2')] []) → cb_J cx g γ 4 M 4 [(0, .ref (g.2.1 0)), (1, .int v1), (2, .int v2), (3, .int v3)] [] := by
  intro n
  induction n with
  | zero =>
    intro v2 v3 o h
    cases h
  | succ n ih =>
    intro v2 v3 o h hexit
    unfold f_X6_childrenBehind_L4 at h
    refine cj_iload_n hC dX6_childrenBehind_4 rfl 3 rfl ?_
    refine cj_aload_n hC dX6_childrenBehind_5 rfl 0 rfl ?_
    refine cj_get (v := .ref (g.2.1 3)) hC fa_X6_50 cx_l0_ (cx_e0 g _) rfl dX6_childrenBehind_6 ?_
    refine cj_get (v := .int (M 3 7)) hC fa_X6_164 cx_l3_ (cx_e3 g _) rfl dX6_childrenBehind_9 ?_
    refine cj_icmp_ge (tgt := 42) hC dX6_childrenBehind_12 (by decide) (fun c1 => ?_) (fun c1 => ?_)
    · replace h := cb_T c1 h
      obtain rfl := Option.some.inj h
      exact cj_pick [2] rfl (hexit _ rfl)
    · replace h := cb_F c1 h
      refine cj_aload_n hC dX6_childrenBehind_15 rfl 0 rfl ?_
      refine cj_get (v := .ref (g.2.1 4)) hC fa_X6_57 cx_l0_ (cx_e0 g _) rfl dX6_childrenBehind_16 ?_
      refine cj_get (v := .ref (g.2.1 25)) hC fa_X6_149 cx_l4_ (cx_e4 g _) rfl dX6_childrenBehind_19 ?_
      refine cj_iload_n hC dX6_childrenBehind_22 rfl 3 rfl ?_
      obtain ⟨i1, h⟩ := cb_g h
      refine cj_iald hC cx_l25_ (cx_e25 g _) (cx_t0 g) i1 dX6_childrenBehind_23 ?_
      refine cj_iload_n hC dX6_childrenBehind_24 rfl 1 rfl ?_
      obtain ⟨x1, hx1, h⟩ := cb_b h
      have hj1 : cb_J cx g γ 4 M 36 [(0, .ref (g.2.1 0)), (1, .int v1), (2, .int x1), (3, .int v3)] [] := by
        refine cj_iinc (lv' := [(3, .int (v3 + 1)), (0, .ref (g.2.1 0)), (1, .int v1), (2, .int x1)]) hC dX6_childrenBehind_36 (q := 3) rfl rfl (by decide) rfl ?_
        refine cj_goto (tgt := 4) hC dX6_childrenBehind_39 (by decide) ?_
        exact cj_pick [1, 2, 3, 0] rfl (ih _ _ _ h hexit)
      refine cj_icmp_gt (tgt := 36) hC dX6_childrenBehind_25 (by decide) (fun c2 => ?_) (fun c2 => ?_)
      · replace hx1 := cb_T c2 hx1
        obtain rfl := Option.some.inj hx1
        exact cj_pick [0, 1, 2, 3] rfl hj1
      · replace hx1 := cb_F c2 hx1
        refine cj_iload_n hC dX6_childrenBehind_28 rfl 2 rfl ?_
        refine cj_aload_n hC dX6_childrenBehind_29 rfl 0 rfl ?_
        refine cj_iload_n hC dX6_childrenBehind_30 rfl 3 rfl ?_
        obtain ⟨x2, e1, hx1⟩ := cb_b hx1
        refine cj_callVi (As := [.int v3]) hC cv_X6_155 cx_l0_ (cx_e0 g _) rfl (c_X6_childrenOf l g v3 M e1) (by decide) rfl rfl (Nat.le_of_ble_eq_true rfl) dX6_childrenBehind_31 ?_
        refine cj_iadd hC dX6_childrenBehind_34 ?_
        obtain ⟨x3, ex3, hx1⟩ := cb_l hx1
        refine cj_topi ex3 ?_
        refine cj_istore_n (lv' := [(2, .int x3), (0, .ref (g.2.1 0)), (1, .int v1), (3, .int v3)]) hC dX6_childrenBehind_35 rfl (by decide) rfl ?_
        obtain rfl := Option.some.inj hx1
        exact cj_pick [1, 2, 0, 3] rfl hj1
set_option maxRecDepth 100000 in
set_option maxHeartbeats 4000000 in
theorem c_X6_childrenBehind (l : Launch) (g : cb_Geo) (p1 : Int32) (M : cb_Mem) {rr : Int32} (h : f_X6_childrenBehind p1 M = some rr) : Met l yX6_childrenBehind (.code yX6_childrenBehind cX6_childrenBehind 4 (some .int) :: cb_ws) (cb_rm 2) (cb_Pc cx g [.ref (g.2.1 0), .int p1] M) (cb_Qi cx g rr M) 0 0 (cb_A cx g) := by
  refine cb_met (by decide) wd_618 (Nat.le_of_ble_eq_true rfl) (fun γ hC => ?_)
  replace hC : cb_C cx g γ RX6 cX6_childrenBehind 4 (some .int) 2 l (cb_Qi cx g rr M) := hC
  show cb_J cx g γ 4 M 0 [(0, .ref (g.2.1 0)), (1, .int p1)] []
  unfold f_X6_childrenBehind at h
  refine cj_iconst (v := 0) hC dX6_childrenBehind_0 rfl ?_
  refine cj_istore_n (lv' := [(2, .int 0), (0, .ref (g.2.1 0)), (1, .int p1)]) hC dX6_childrenBehind_1 rfl (by decide) rfl ?_
  refine cj_iconst (v := 0) hC dX6_childrenBehind_2 rfl ?_
  refine cj_istore_n (lv' := [(3, .int 0), (2, .int 0), (0, .ref (g.2.1 0)), (1, .int p1)]) hC dX6_childrenBehind_3 rfl (by decide) rfl ?_
  obtain ⟨x1, e1, h⟩ := cb_b h
  refine cj_pick [2, 3, 1, 0] rfl ?_
  refine l_X6_childrenBehind_L4 hC p1 cb_fuel _ _ _ e1 (fun ze1 hz => ?_)
  obtain rfl := hz
  refine cj_iload_n hC dX6_childrenBehind_42 rfl 0 rfl ?_
  obtain rfl := Option.some.inj h
  exact cj_iret hC dX6_childrenBehind_43
def f_X6_numberWithout  (M : cb_Mem) : Int32 :=
  cb_let (f_J6_bitCount_0f7a4 (M 4 9)) fun x1 =>
  ((M 3 7) - x1)
set_option maxRecDepth 100000 in
set_option maxHeartbeats 4000000 in
theorem c_X6_numberWithout (l : Launch) (g : cb_Geo)  (M : cb_Mem) {rr : Int32} (h : f_X6_numberWithout  M = rr) : Met l yX6_numberWithout (.code yX6_numberWithout cX6_numberWithout 1 (some .int) :: cb_ws) (cb_rm 1) (cb_Pc cx g [.ref (g.2.1 0)] M) (cb_Qi cx g rr M) 0 0 (cb_A cx g) := by
  refine cb_met (by decide) wd_680 (Nat.le_of_ble_eq_true rfl) (fun γ hC => ?_)
  replace hC : cb_C cx g γ RX6 cX6_numberWithout 1 (some .int) 1 l (cb_Qi cx g rr M) := hC
  show cb_J cx g γ 1 M 0 [(0, .ref (g.2.1 0))] []
  unfold f_X6_numberWithout at h
  refine cj_aload_n hC dX6_numberWithout_0 rfl 0 rfl ?_
  refine cj_get (v := .ref (g.2.1 3)) hC fa_X6_50 cx_l0_ (cx_e0 g _) rfl dX6_numberWithout_1 ?_
  refine cj_get (v := .int (M 3 7)) hC fa_X6_164 cx_l3_ (cx_e3 g _) rfl dX6_numberWithout_4 ?_
  refine cj_aload_n hC dX6_numberWithout_7 rfl 0 rfl ?_
  refine cj_get (v := .ref (g.2.1 4)) hC fa_X6_57 cx_l0_ (cx_e0 g _) rfl dX6_numberWithout_8 ?_
  refine cj_get (v := .int (M 4 9)) hC fa_X6_161 cx_l4_ (cx_e4 g _) rfl dX6_numberWithout_11 ?_
  obtain ⟨x1, e1, h⟩ := cb_l h
  refine cj_callSi (As := [.int (M 4 9)]) hC cs_X6_171 (c_J6_bitCount_0f7a4 l g (M 4 9) M e1.symm) (by decide) rfl rfl (Nat.le_of_ble_eq_true rfl) dX6_numberWithout_14 ?_
  refine cj_isub hC dX6_numberWithout_17 ?_
  obtain rfl := h
  exact cj_iret hC dX6_numberWithout_18
def f_X6_headsFor_L4 : Nat → Int32 → Int32 → Int32 → cb_Mem → Option (Int32)
    | 0, _, _, _, _ => none
    | n + 1, v1, v2, v3, M =>
      if (M 3 7) ≤ v3 then
      some v2
      else
      Option.bind (if ((v1 >>> (v3 &&& 31)) &&& 1) = 0 then
      some v2
      else
      if cb_in v3 8 = true then
      cb_let ((v2 ||| (M 26 v3.toNatClampNeg))) fun x2 =>
      some x2
      else none) fun x1 =>
      f_X6_headsFor_L4 n v1 x1 (v3 + 1) M
def f_X6_headsFor (p1 : Int32) (M : cb_Mem) : Option (Int32) :=
  (f_X6_headsFor_L4 cb_fuel p1 0 0 M).bind fun x1 =>
  some x1
set_option maxRecDepth 100000 in
set_option maxHeartbeats 4000000 in
theorem l_X6_headsFor_L4 {l : Launch} {g : cb_Geo} {γ : cb_Gam} {rr : Int32} {M : cb_Mem} (hC : cb_C cx g γ RX6 cX6_headsFor 4 (some .int) 0 l (cb_Qi cx g rr M)) (v1 : Int32) : ∀ (n : Nat) (v2 : Int32) (v3 : Int32) (o : (Int32)), f_X6_headsFor_L4 n v1 v2 v3 M = some o → (∀ (v2' : Int32), o = v2' → cb_J cx g γ 4 M 41 [(2, .int v2')] []) → cb_J cx g γ 4 M 4 [(0, .ref (g.2.1 0)), (1, .int v1), (2, .int v2), (3, .int v3)] [] := by
  intro n
  induction n with
  | zero =>
    intro v2 v3 o h
    cases h
  | succ n ih =>
    intro v2 v3 o h hexit
    unfold f_X6_headsFor_L4 at h
    refine cj_iload_n hC dX6_headsFor_4 rfl 3 rfl ?_
    refine cj_aload_n hC dX6_headsFor_5 rfl 0 rfl ?_
    refine cj_get (v := .ref (g.2.1 3)) hC fa_X6_50 cx_l0_ (cx_e0 g _) rfl dX6_headsFor_6 ?_
    refine cj_get (v := .int (M 3 7)) hC fa_X6_164 cx_l3_ (cx_e3 g _) rfl dX6_headsFor_9 ?_
    refine cj_icmp_ge (tgt := 41) hC dX6_headsFor_12 (by decide) (fun c1 => ?_) (fun c1 => ?_)
    · replace h := cb_T c1 h
      obtain rfl := Option.some.inj h
      exact cj_pick [2] rfl (hexit _ rfl)
    · replace h := cb_F c1 h
      refine cj_iload_n hC dX6_headsFor_15 rfl 1 rfl ?_
      refine cj_iload_n hC dX6_headsFor_16 rfl 3 rfl ?_
      refine cj_ishr hC dX6_headsFor_17 ?_
      refine cj_iconst (v := 1) hC dX6_headsFor_18 rfl ?_
      refine cj_iand hC dX6_headsFor_19 ?_
      obtain ⟨x1, hx1, h⟩ := cb_b h
      have hj1 : cb_J cx g γ 4 M 35 [(0, .ref (g.2.1 0)), (1, .int v1), (2, .int x1), (3, .int v3)] [] := by
        refine cj_iinc (lv' := [(3, .int (v3 + 1)), (0, .ref (g.2.1 0)), (1, .int v1), (2, .int x1)]) hC dX6_headsFor_35 (q := 3) rfl rfl (by decide) rfl ?_
        refine cj_goto (tgt := 4) hC dX6_headsFor_38 (by decide) ?_
        exact cj_pick [1, 2, 3, 0] rfl (ih _ _ _ h hexit)
      refine cj_if_eq (tgt := 35) hC dX6_headsFor_20 (by decide) (fun c2 => ?_) (fun c2 => ?_)
      · replace hx1 := cb_T c2 hx1
        obtain rfl := Option.some.inj hx1
        exact cj_pick [0, 1, 2, 3] rfl hj1
      · replace hx1 := cb_F c2 hx1
        refine cj_iload_n hC dX6_headsFor_23 rfl 2 rfl ?_
        refine cj_aload_n hC dX6_headsFor_24 rfl 0 rfl ?_
        refine cj_get (v := .ref (g.2.1 4)) hC fa_X6_57 cx_l0_ (cx_e0 g _) rfl dX6_headsFor_25 ?_
        refine cj_get (v := .ref (g.2.1 26)) hC fa_X6_370 cx_l4_ (cx_e4 g _) rfl dX6_headsFor_28 ?_
        refine cj_iload_n hC dX6_headsFor_31 rfl 3 rfl ?_
        obtain ⟨i1, hx1⟩ := cb_g hx1
        refine cj_iald hC cx_l26_ (cx_e26 g _) (cx_t0 g) i1 dX6_headsFor_32 ?_
        refine cj_ior hC dX6_headsFor_33 ?_
        obtain ⟨x2, ex2, hx1⟩ := cb_l hx1
        refine cj_topi ex2 ?_
        refine cj_istore_n (lv' := [(2, .int x2), (0, .ref (g.2.1 0)), (1, .int v1), (3, .int v3)]) hC dX6_headsFor_34 rfl (by decide) rfl ?_
        obtain rfl := Option.some.inj hx1
        exact cj_pick [1, 2, 0, 3] rfl hj1
set_option maxRecDepth 100000 in
set_option maxHeartbeats 4000000 in
theorem c_X6_headsFor (l : Launch) (g : cb_Geo) (p1 : Int32) (M : cb_Mem) {rr : Int32} (h : f_X6_headsFor p1 M = some rr) : Met l yX6_headsFor (.code yX6_headsFor cX6_headsFor 4 (some .int) :: cb_ws) (cb_rm 0) (cb_Pc cx g [.ref (g.2.1 0), .int p1] M) (cb_Qi cx g rr M) 0 0 (cb_A cx g) := by
  refine cb_met (by decide) wd_660 (Nat.le_of_ble_eq_true rfl) (fun γ hC => ?_)
  replace hC : cb_C cx g γ RX6 cX6_headsFor 4 (some .int) 0 l (cb_Qi cx g rr M) := hC
  show cb_J cx g γ 4 M 0 [(0, .ref (g.2.1 0)), (1, .int p1)] []
  unfold f_X6_headsFor at h
  refine cj_iconst (v := 0) hC dX6_headsFor_0 rfl ?_
  refine cj_istore_n (lv' := [(2, .int 0), (0, .ref (g.2.1 0)), (1, .int p1)]) hC dX6_headsFor_1 rfl (by decide) rfl ?_
  refine cj_iconst (v := 0) hC dX6_headsFor_2 rfl ?_
  refine cj_istore_n (lv' := [(3, .int 0), (2, .int 0), (0, .ref (g.2.1 0)), (1, .int p1)]) hC dX6_headsFor_3 rfl (by decide) rfl ?_
  obtain ⟨x1, e1, h⟩ := cb_b h
  refine cj_pick [2, 3, 1, 0] rfl ?_
  refine l_X6_headsFor_L4 hC p1 cb_fuel _ _ _ e1 (fun ze1 hz => ?_)
  obtain rfl := hz
  refine cj_iload_n hC dX6_headsFor_41 rfl 0 rfl ?_
  obtain rfl := Option.some.inj h
  exact cj_iret hC dX6_headsFor_42
def f_X6_fewestKeptOff_L10 : Nat → Int32 → Int32 → Int32 → cb_Mem → Option ((Int32 × cb_Mem) ⊕ (cb_Mem))
    | 0, _, _, _, _ => none
    | n + 1, v1, v3, v4, M =>
      if v3 ≤ v4 then
      some (Sum.inr M)
      else
      if cb_in v4 37 = true then
      cb_let ((cb_kept.getD v4.toNatClampNeg 0)) fun x1 =>
      cb_let (fun (M1 : cb_Mem) =>
      f_X6_fewestKeptOff_L10 n v1 v3 (v4 + 1) M1) fun k1 =>
      if (x1 >>> ((M 10 1) &&& 31)) = 0 then
      (f_X1_letRabbitsIn x1 M).bind fun M2 =>
      (f_X5_go  M2).bind fun M3 =>
      if cb_in v1 8 = true then
      if (M3 25 v1.toNatClampNeg) = (-1) then
      k1 M3
      else
      some (Sum.inl (x1, M3))
      else none
      else
      k1 M
      else none
def f_X6_fewestKeptOff (p1 : Int32) (M : cb_Mem) : Option (Int32 × cb_Mem) :=
  cb_bs (f_X6_fewestKeptOff_L10 cb_fuel p1 37 0 M) (fun r => some r) fun M1 =>
  some (((-1) : Int32), M1)
set_option maxRecDepth 100000 in
set_option maxHeartbeats 4000000 in
theorem l_X6_fewestKeptOff_L10 {l : Launch} {g : cb_Geo} {γ : cb_Gam} {rr : Int32} {Mr : cb_Mem} (hC : cb_C cx g γ RX6 cX6_fewestKeptOff 6 (some .int) 3 l (cb_Qi cx g rr Mr)) (v1 : Int32) (v3 : Int32) : ∀ (n : Nat) (v4 : Int32) (M : cb_Mem) (o : ((Int32 × cb_Mem) ⊕ (cb_Mem))), f_X6_fewestKeptOff_L10 n v1 v3 v4 M = some o → (∀ (u : Int32) (U : cb_Mem), o = Sum.inl (u, U) → u = rr ∧ U = Mr) → (∀ (M' : cb_Mem), o = Sum.inr M' → cb_J cx g γ 6 M' 84 [] []) → cb_J cx g γ 6 M 10 [(0, .ref (g.2.1 0)), (1, .int v1), (2, .ref (g.2.2.2 4)), (3, .int v3), (4, .int v4)] [] := by
  intro n
  induction n with
  | zero =>
    intro v4 M o h
    cases h
  | succ n ih =>
    intro v4 M o h hret hexit
    unfold f_X6_fewestKeptOff_L10 at h
    refine cj_iload hC dX6_fewestKeptOff_10 4 rfl ?_
    refine cj_iload_n hC dX6_fewestKeptOff_12 rfl 3 rfl ?_
    refine cj_icmp_ge (tgt := 84) hC dX6_fewestKeptOff_13 (by decide) (fun c1 => ?_) (fun c1 => ?_)
    · replace h := cb_T c1 h
      obtain rfl := Option.some.inj h
      exact cj_pick [] rfl (hexit _ rfl)
    · replace h := cb_F c1 h
      refine cj_aload_n hC dX6_fewestKeptOff_16 rfl 2 rfl ?_
      refine cj_iload hC dX6_fewestKeptOff_17 4 rfl ?_
      obtain ⟨i1, h⟩ := cb_g h
      refine cj_ald_kept hC i1 dX6_fewestKeptOff_19 ?_
      obtain ⟨x1, ex1, h⟩ := cb_l h
      refine cj_topi ex1 ?_
      refine cj_istore (lv' := [(5, .int x1), (0, .ref (g.2.1 0)), (1, .int v1), (2, .ref (g.2.2.2 4)), (3, .int v3), (4, .int v4)]) hC dX6_fewestKeptOff_20 (by decide) rfl ?_
      refine cj_iload hC dX6_fewestKeptOff_22 0 rfl ?_
      refine cj_aload_n hC dX6_fewestKeptOff_24 rfl 1 rfl ?_
      refine cj_get (v := .ref (g.2.1 10)) hC fa_X6_34 cx_l0_ (cx_e0 g _) rfl dX6_fewestKeptOff_25 ?_
      refine cj_get (v := .int (M 10 1)) hC fa_X6_209 (cx_lt cx_row10.1) (cx_row10.2.2.1 g _) rfl dX6_fewestKeptOff_28 ?_
      refine cj_ishr hC dX6_fewestKeptOff_31 ?_
      obtain ⟨k1, ek1, h⟩ := cb_l h
      have hk1 : ∀ (M1 : cb_Mem), k1 M1 = some o → cb_J cx g γ 6 M1 78 [(0, .ref (g.2.1 0)), (1, .int v1), (2, .ref (g.2.2.2 4)), (3, .int v3), (4, .int v4)] [] := by
        intro M1 h
        replace h := cb_k1 ek1 h
        refine cj_iinc (lv' := [(4, .int (v4 + 1)), (0, .ref (g.2.1 0)), (1, .int v1), (2, .ref (g.2.2.2 4)), (3, .int v3)]) hC dX6_fewestKeptOff_78 (q := 4) rfl rfl (by decide) rfl ?_
        refine cj_goto (tgt := 10) hC dX6_fewestKeptOff_81 (by decide) ?_
        exact cj_pick [1, 2, 3, 4, 0] rfl (ih _ _ _ h hret hexit)
      refine cj_if_eq (tgt := 38) hC dX6_fewestKeptOff_32 (by decide) (fun c2 => ?_) (fun c2 => ?_)
      · replace h := cb_T c2 h
        refine cj_aload_n hC dX6_fewestKeptOff_38 rfl 1 rfl ?_
        refine cj_get (v := .ref (g.2.1 3)) hC fa_X6_50 cx_l0_ (cx_e0 g _) rfl dX6_fewestKeptOff_39 ?_
        refine cj_aload_n hC dX6_fewestKeptOff_42 rfl 1 rfl ?_
        refine cj_get (v := .ref (g.2.1 10)) hC fa_X6_34 cx_l0_ (cx_e0 g _) rfl dX6_fewestKeptOff_43 ?_
        refine cj_iload hC dX6_fewestKeptOff_46 0 rfl ?_
        obtain ⟨M2, e1, h⟩ := cb_b h
        refine cj_callVv (As := [.ref (g.2.1 10), .int x1]) hC cv_X6_210 cx_l3_ (cx_e3 g _) rfl (c_X1_letRabbitsIn l g x1 M e1) (by decide) rfl rfl (Nat.le_of_ble_eq_true rfl) dX6_fewestKeptOff_48 ?_
        refine cj_aload_n hC dX6_fewestKeptOff_51 rfl 1 rfl ?_
        refine cj_get (v := .ref (g.2.1 4)) hC fa_X6_57 cx_l0_ (cx_e0 g _) rfl dX6_fewestKeptOff_52 ?_
        refine cj_aload_n hC dX6_fewestKeptOff_55 rfl 1 rfl ?_
        refine cj_get (v := .ref (g.2.1 3)) hC fa_X6_50 cx_l0_ (cx_e0 g _) rfl dX6_fewestKeptOff_56 ?_
        obtain ⟨M3, e2, h⟩ := cb_b h
        refine cj_callVv (As := [.ref (g.2.1 3)]) hC cv_X6_196 cx_l4_ (cx_e4 g _) rfl (c_X5_go l g  M2 e2) (by decide) rfl rfl (Nat.le_of_ble_eq_true rfl) dX6_fewestKeptOff_59 ?_
        refine cj_aload_n hC dX6_fewestKeptOff_62 rfl 1 rfl ?_
        refine cj_get (v := .ref (g.2.1 4)) hC fa_X6_57 cx_l0_ (cx_e0 g _) rfl dX6_fewestKeptOff_63 ?_
        refine cj_get (v := .ref (g.2.1 25)) hC fa_X6_149 cx_l4_ (cx_e4 g _) rfl dX6_fewestKeptOff_66 ?_
        refine cj_iload_n hC dX6_fewestKeptOff_69 rfl 2 rfl ?_
        obtain ⟨i2, h⟩ := cb_g h
        refine cj_iald hC cx_l25_ (cx_e25 g _) (cx_t0 g) i2 dX6_fewestKeptOff_70 ?_
        refine cj_iconst (v := (-1)) hC dX6_fewestKeptOff_71 rfl ?_
        refine cj_icmp_eq (tgt := 78) hC dX6_fewestKeptOff_72 (by decide) (fun c3 => ?_) (fun c3 => ?_)
        · replace h := cb_T c3 h
          exact cj_pick [1, 2, 3, 4, 5] rfl (hk1 _ h)
        · replace h := cb_F c3 h
          refine cj_iload hC dX6_fewestKeptOff_75 0 rfl ?_
          obtain rfl := Option.some.inj h
          obtain ⟨rfl, rfl⟩ := hret _ _ rfl
          exact cj_iret hC dX6_fewestKeptOff_77
      · replace h := cb_F c2 h
        refine cj_goto (tgt := 78) hC dX6_fewestKeptOff_35 (by decide) ?_
        exact cj_pick [1, 2, 3, 4, 5] rfl (hk1 _ h)
set_option maxRecDepth 100000 in
set_option maxHeartbeats 4000000 in
theorem c_X6_fewestKeptOff (l : Launch) (g : cb_Geo) (p1 : Int32) (M : cb_Mem) {rr : Int32} {Mr : cb_Mem} (h : f_X6_fewestKeptOff p1 M = some (rr, Mr)) : Met l yX6_fewestKeptOff (.code yX6_fewestKeptOff cX6_fewestKeptOff 6 (some .int) :: cb_ws) (cb_rm 3) (cb_Pc cx g [.ref (g.2.1 0), .int p1] M) (cb_Qi cx g rr Mr) 0 0 (cb_A cx g) := by
  refine cb_met (by decide) wd_669 (Nat.le_of_ble_eq_true rfl) (fun γ hC => ?_)
  replace hC : cb_C cx g γ RX6 cX6_fewestKeptOff 6 (some .int) 3 l (cb_Qi cx g rr Mr) := hC
  show cb_J cx g γ 6 M 0 [(0, .ref (g.2.1 0)), (1, .int p1)] []
  unfold f_X6_fewestKeptOff at h
  refine cj_gets_kept hC wd_670 dX6_fewestKeptOff_0 ?_
  refine cj_astore_n (lv' := [(2, .ref (g.2.2.2 4)), (0, .ref (g.2.1 0)), (1, .int p1)]) hC dX6_fewestKeptOff_3 rfl (by decide) rfl ?_
  refine cj_aload_n hC dX6_fewestKeptOff_4 rfl 0 rfl ?_
  refine cj_alen_kept hC dX6_fewestKeptOff_5 ?_
  refine cj_istore_n (lv' := [(3, .int 37), (2, .ref (g.2.2.2 4)), (0, .ref (g.2.1 0)), (1, .int p1)]) hC dX6_fewestKeptOff_6 rfl (by decide) rfl ?_
  refine cj_iconst (v := 0) hC dX6_fewestKeptOff_7 rfl ?_
  refine cj_istore (lv' := [(4, .int 0), (3, .int 37), (2, .ref (g.2.2.2 4)), (0, .ref (g.2.1 0)), (1, .int p1)]) hC dX6_fewestKeptOff_8 (by decide) rfl ?_
  obtain ⟨z1, e1, hr1, hk1⟩ := cb_s h
  refine cj_pick [3, 4, 2, 1, 0] rfl ?_
  refine l_X6_fewestKeptOff_L10 hC p1 37 cb_fuel _ _ _ e1 (fun u U hz => Prod.mk.inj (Option.some.inj (hr1 _ hz))) (fun M1 hz => ?_)
  replace h := hk1 M1 hz
  refine cj_iconst (v := (-1)) hC dX6_fewestKeptOff_84 rfl ?_
  obtain ⟨rfl, rfl⟩ := cb_i2 h
  exact cj_iret hC dX6_fewestKeptOff_85
def f_X6_isAsSeen_L2 : Nat → Int32 → cb_Mem → Option ((Int32) ⊕ (Unit))
    | 0, _, _ => none
    | n + 1, v1, M =>
      if (M 11 1) ≤ v1 then
      some (Sum.inr ())
      else
      (f_X2_at 11 15 8 v1 M).bind fun x1 =>
      cb_let ((x1 / 9)) fun x2 =>
      (f_X2_at 11 15 8 v1 M).bind fun x3 =>
      cb_let ((x3 - x3 / 9 * 9)) fun x4 =>
      cb_let (f_X6_isOff x2 (M 3 7)) fun x5 =>
      if x5 = 0 then
      if cb_in x2 8 = true then
      cb_let (if x4 = 8 then
      ((-1) : Int32)
      else
      x4) fun x6 =>
      if (M 24 x2.toNatClampNeg) = x6 then
      f_X6_isAsSeen_L2 n (v1 + 1) M
      else
      some (Sum.inl (0 : Int32))
      else none
      else
      some (Sum.inl (0 : Int32))
def f_X6_isAsSeen  (M : cb_Mem) : Option (Int32) :=
  cb_bs (f_X6_isAsSeen_L2 cb_fuel 0 M) (fun r => some r) fun _ =>
  some (1 : Int32)
set_option maxRecDepth 100000 in
set_option maxHeartbeats 4000000 in
theorem l_X6_isAsSeen_L2 {l : Launch} {g : cb_Geo} {γ : cb_Gam} {rr : Int32} {M : cb_Mem} (hC : cb_C cx g γ RX6 cX6_isAsSeen 4 (some .boolean) 1 l (cb_Qi cx g rr M))  : ∀ (n : Nat) (v1 : Int32) (o : ((Int32) ⊕ (Unit))), f_X6_isAsSeen_L2 n v1 M = some o → (∀ (u : Int32), o = Sum.inl u → u = rr) → (o = Sum.inr () → cb_J cx g γ 4 M 84 [] []) → cb_J cx g γ 4 M 2 [(0, .ref (g.2.1 0)), (1, .int v1)] [] := by
  intro n
  induction n with
  | zero =>
    intro v1 o h
    cases h
  | succ n ih =>
    intro v1 o h hret hexit
    unfold f_X6_isAsSeen_L2 at h
    refine cj_iload_n hC dX6_isAsSeen_2 rfl 1 rfl ?_
    refine cj_aload_n hC dX6_isAsSeen_3 rfl 0 rfl ?_
    refine cj_get (v := .ref (g.2.1 11)) hC fa_X6_37 cx_l0_ (cx_e0 g _) rfl dX6_isAsSeen_4 ?_
    refine cj_get (v := .int (M 11 1)) hC fa_X6_209 (cx_lt cx_row11.1) (cx_row11.2.2.1 g _) rfl dX6_isAsSeen_7 ?_
    refine cj_icmp_ge (tgt := 84) hC dX6_isAsSeen_10 (by decide) (fun c1 => ?_) (fun c1 => ?_)
    · replace h := cb_T c1 h
      obtain rfl := Option.some.inj h
      exact cj_pick [] rfl (hexit  rfl)
    · replace h := cb_F c1 h
      refine cj_aload_n hC dX6_isAsSeen_13 rfl 0 rfl ?_
      refine cj_get (v := .ref (g.2.1 11)) hC fa_X6_37 cx_l0_ (cx_e0 g _) rfl dX6_isAsSeen_14 ?_
      refine cj_iload_n hC dX6_isAsSeen_17 rfl 1 rfl ?_
      obtain ⟨x1, e1, h⟩ := cb_b h
      refine cj_callVi (As := [.int v1]) hC cv_X6_367 (cx_lt cx_row11.1) (cx_row11.2.2.1 g _) rfl (c_X2_at l g 11 15 8 cx_row11 v1 M e1) (by decide) rfl rfl (Nat.le_of_ble_eq_true rfl) dX6_isAsSeen_18 ?_
      refine cj_bipush (v := 9) hC dX6_isAsSeen_21 rfl ?_
      refine cj_idiv hC dX6_isAsSeen_23 (by decide) ?_
      obtain ⟨x2, ex2, h⟩ := cb_l h
      refine cj_topi ex2 ?_
      refine cj_istore_n (lv' := [(2, .int x2), (0, .ref (g.2.1 0)), (1, .int v1)]) hC dX6_isAsSeen_24 rfl (by decide) rfl ?_
      refine cj_aload_n hC dX6_isAsSeen_25 rfl 1 rfl ?_
      refine cj_get (v := .ref (g.2.1 11)) hC fa_X6_37 cx_l0_ (cx_e0 g _) rfl dX6_isAsSeen_26 ?_
      refine cj_iload_n hC dX6_isAsSeen_29 rfl 2 rfl ?_
      obtain ⟨x3, e2, h⟩ := cb_b h
      refine cj_callVi (As := [.int v1]) hC cv_X6_367 (cx_lt cx_row11.1) (cx_row11.2.2.1 g _) rfl (c_X2_at l g 11 15 8 cx_row11 v1 M e2) (by decide) rfl rfl (Nat.le_of_ble_eq_true rfl) dX6_isAsSeen_30 ?_
      refine cj_bipush (v := 9) hC dX6_isAsSeen_33 rfl ?_
      refine cj_irem hC dX6_isAsSeen_35 (by decide) ?_
      obtain ⟨x4, ex4, h⟩ := cb_l h
      refine cj_topi ex4 ?_
      refine cj_istore_n (lv' := [(3, .int x4), (2, .int x2), (0, .ref (g.2.1 0)), (1, .int v1)]) hC dX6_isAsSeen_36 rfl (by decide) rfl ?_
      refine cj_iload_n hC dX6_isAsSeen_37 rfl 1 rfl ?_
      refine cj_aload_n hC dX6_isAsSeen_38 rfl 2 rfl ?_
      refine cj_get (v := .ref (g.2.1 3)) hC fa_X6_50 cx_l0_ (cx_e0 g _) rfl dX6_isAsSeen_39 ?_
      refine cj_get (v := .int (M 3 7)) hC fa_X6_164 cx_l3_ (cx_e3 g _) rfl dX6_isAsSeen_42 ?_
      obtain ⟨x5, e3, h⟩ := cb_l h
      refine cj_callSi (As := [.int x2, .int (M 3 7)]) hC cs_X6_77 (c_X6_isOff l g x2 (M 3 7) M e3.symm) (by decide) rfl rfl (Nat.le_of_ble_eq_true rfl) dX6_isAsSeen_45 ?_
      refine cj_if_eq (tgt := 53) hC dX6_isAsSeen_48 (by decide) (fun c2 => ?_) (fun c2 => ?_)
      · replace h := cb_T c2 h
        refine cj_aload_n hC dX6_isAsSeen_53 rfl 2 rfl ?_
        refine cj_get (v := .ref (g.2.1 4)) hC fa_X6_57 cx_l0_ (cx_e0 g _) rfl dX6_isAsSeen_54 ?_
        refine cj_get (v := .ref (g.2.1 24)) hC fa_X6_152 cx_l4_ (cx_e4 g _) rfl dX6_isAsSeen_57 ?_
        refine cj_iload_n hC dX6_isAsSeen_60 rfl 1 rfl ?_
        obtain ⟨i1, h⟩ := cb_g h
        refine cj_iald hC cx_l24_ (cx_e24 g _) (cx_t0 g) i1 dX6_isAsSeen_61 ?_
        refine cj_iload_n hC dX6_isAsSeen_62 rfl 0 rfl ?_
        refine cj_bipush (v := 8) hC dX6_isAsSeen_63 rfl ?_
        obtain ⟨x6, hx1, h⟩ := cb_l h
        replace hx1 := hx1.symm
        have hj1 : cb_J cx g γ 4 M 73 [(0, .ref (g.2.1 0)), (1, .int v1)] [.int x6, .int (M 24 x2.toNatClampNeg)] := by
          refine cj_icmp_eq (tgt := 78) hC dX6_isAsSeen_73 (by decide) (fun c4 => ?_) (fun c4 => ?_)
          · replace h := cb_T c4 h
            refine cj_iinc (lv' := [(1, .int (v1 + 1)), (0, .ref (g.2.1 0))]) hC dX6_isAsSeen_78 (q := 1) rfl rfl (by decide) rfl ?_
            refine cj_goto (tgt := 2) hC dX6_isAsSeen_81 (by decide) ?_
            exact cj_pick [1, 0] rfl (ih _ _ h hret hexit)
          · replace h := cb_F c4 h
            refine cj_iconst (v := 0) hC dX6_isAsSeen_76 rfl ?_
            obtain rfl := Option.some.inj h
            obtain rfl := hret _ rfl
            exact cj_zret hC (Or.inl rfl) dX6_isAsSeen_77
        refine cj_icmp_ne (tgt := 72) hC dX6_isAsSeen_65 (by decide) (fun c3 => ?_) (fun c3 => ?_)
        · replace hx1 := cb_F c3 hx1
          refine cj_iload_n hC dX6_isAsSeen_72 rfl 0 rfl ?_
          obtain rfl := hx1
          exact cj_pick [2, 3] rfl hj1
        · replace hx1 := cb_T c3 hx1
          refine cj_iconst (v := (-1)) hC dX6_isAsSeen_68 rfl ?_
          refine cj_goto (tgt := 73) hC dX6_isAsSeen_69 (by decide) ?_
          obtain rfl := hx1
          exact cj_pick [2, 3] rfl hj1
      · replace h := cb_F c2 h
        refine cj_iconst (v := 0) hC dX6_isAsSeen_51 rfl ?_
        obtain rfl := Option.some.inj h
        obtain rfl := hret _ rfl
        exact cj_zret hC (Or.inl rfl) dX6_isAsSeen_52
set_option maxRecDepth 100000 in
set_option maxHeartbeats 4000000 in
theorem c_X6_isAsSeen (l : Launch) (g : cb_Geo)  (M : cb_Mem) {rr : Int32} (h : f_X6_isAsSeen  M = some rr) : Met l yX6_isAsSeen (.code yX6_isAsSeen cX6_isAsSeen 4 (some .boolean) :: cb_ws) (cb_rm 1) (cb_Pc cx g [.ref (g.2.1 0)] M) (cb_Qi cx g rr M) 0 0 (cb_A cx g) := by
  refine cb_met (by decide) wd_701 (Nat.le_of_ble_eq_true rfl) (fun γ hC => ?_)
  replace hC : cb_C cx g γ RX6 cX6_isAsSeen 4 (some .boolean) 1 l (cb_Qi cx g rr M) := hC
  show cb_J cx g γ 4 M 0 [(0, .ref (g.2.1 0))] []
  unfold f_X6_isAsSeen at h
  refine cj_iconst (v := 0) hC dX6_isAsSeen_0 rfl ?_
  refine cj_istore_n (lv' := [(1, .int 0), (0, .ref (g.2.1 0))]) hC dX6_isAsSeen_1 rfl (by decide) rfl ?_
  obtain ⟨z1, e1, hr1, hk1⟩ := cb_s h
  refine cj_pick [1, 0] rfl ?_
  refine l_X6_isAsSeen_L2 hC  cb_fuel _ _ e1 (fun u hz => Option.some.inj (hr1 _ hz)) (fun hz => ?_)
  replace h := hk1 () hz
  refine cj_iconst (v := 1) hC dX6_isAsSeen_84 rfl ?_
  obtain rfl := Option.some.inj h
  exact cj_zret hC (Or.inr rfl) dX6_isAsSeen_85
def f_X6_sortsAsSeen_L4 : Nat → Int32 → Int32 → Int32 → cb_Mem → Option (Int32 × cb_Mem)
    | 0, _, _, _, _ => none
    | n + 1, v1, v2, v3, M =>
      if 3 ≤ v3 then
      some (v2, M)
      else
      if cb_in v1 8 = true then
      cb_let (cb_up M 16 v1.toNatClampNeg v3) fun M1 =>
      (f_X5_go  M1).bind fun M2 =>
      (f_X6_isAsSeen  M2).bind fun x1 =>
      cb_let (if x1 = 0 then
      v2
      else
      cb_let ((v2 ||| ((1 : Int32) <<< (v3 &&& 31)))) fun x3 =>
      x3) fun x2 =>
      f_X6_sortsAsSeen_L4 n v1 x2 (v3 + 1) M2
      else none
def f_X6_sortsAsSeen (p1 : Int32) (M : cb_Mem) : Option (Int32 × cb_Mem) :=
  cb_bind2 (f_X6_sortsAsSeen_L4 cb_fuel p1 0 0 M) fun x1 M1 =>
  some (x1, M1)
set_option maxRecDepth 100000 in
set_option maxHeartbeats 4000000 in
theorem l_X6_sortsAsSeen_L4 {l : Launch} {g : cb_Geo} {γ : cb_Gam} {rr : Int32} {Mr : cb_Mem} (hC : cb_C cx g γ RX6 cX6_sortsAsSeen 4 (some .int) 3 l (cb_Qi cx g rr Mr)) (v1 : Int32) : ∀ (n : Nat) (v2 : Int32) (v3 : Int32) (M : cb_Mem) (o : (Int32 × cb_Mem)), f_X6_sortsAsSeen_L4 n v1 v2 v3 M = some o → (∀ (v2' : Int32) (M' : cb_Mem), o = (v2', M') → cb_J cx g γ 4 M' 49 [(2, .int v2')] []) → cb_J cx g γ 4 M 4 [(0, .ref (g.2.1 0)), (1, .int v1), (2, .int v2), (3, .int v3)] [] := by
  intro n
  induction n with
  | zero =>
    intro v2 v3 M o h
    cases h
  | succ n ih =>
    intro v2 v3 M o h hexit
    unfold f_X6_sortsAsSeen_L4 at h
    refine cj_iload_n hC dX6_sortsAsSeen_4 rfl 3 rfl ?_
    refine cj_iconst (v := 3) hC dX6_sortsAsSeen_5 rfl ?_
    refine cj_icmp_ge (tgt := 49) hC dX6_sortsAsSeen_6 (by decide) (fun c1 => ?_) (fun c1 => ?_)
    · replace h := cb_T c1 h
      obtain rfl := Option.some.inj h
      exact cj_pick [2] rfl (hexit _ _ rfl)
    · replace h := cb_F c1 h
      refine cj_aload_n hC dX6_sortsAsSeen_9 rfl 0 rfl ?_
      refine cj_get (v := .ref (g.2.1 3)) hC fa_X6_50 cx_l0_ (cx_e0 g _) rfl dX6_sortsAsSeen_10 ?_
      refine cj_get (v := .ref (g.2.1 16)) hC fa_X6_376 cx_l3_ (cx_e3 g _) rfl dX6_sortsAsSeen_13 ?_
      refine cj_iload_n hC dX6_sortsAsSeen_16 rfl 1 rfl ?_
      refine cj_iload_n hC dX6_sortsAsSeen_17 rfl 3 rfl ?_
      obtain ⟨i1, h⟩ := cb_g h
      obtain ⟨M1, eM1, h⟩ := cb_l h
      refine cj_iast hC cx_l16_ (cx_e16 g) (cx_t0 g) i1 eM1 dX6_sortsAsSeen_18 ?_
      refine cj_aload_n hC dX6_sortsAsSeen_19 rfl 0 rfl ?_
      refine cj_get (v := .ref (g.2.1 4)) hC fa_X6_57 cx_l0_ (cx_e0 g _) rfl dX6_sortsAsSeen_20 ?_
      refine cj_aload_n hC dX6_sortsAsSeen_23 rfl 0 rfl ?_
      refine cj_get (v := .ref (g.2.1 3)) hC fa_X6_50 cx_l0_ (cx_e0 g _) rfl dX6_sortsAsSeen_24 ?_
      obtain ⟨M2, e1, h⟩ := cb_b h
      refine cj_callVv (As := [.ref (g.2.1 3)]) hC cv_X6_196 cx_l4_ (cx_e4 g _) rfl (c_X5_go l g  M1 e1) (by decide) rfl rfl (Nat.le_of_ble_eq_true rfl) dX6_sortsAsSeen_27 ?_
      refine cj_aload_n hC dX6_sortsAsSeen_30 rfl 0 rfl ?_
      obtain ⟨x1, e2, h⟩ := cb_b h
      refine cj_callVi (As := []) hC cv_X6_214 cx_l0_ (cx_e0 g _) rfl (c_X6_isAsSeen l g  M2 e2) (by decide) rfl rfl (Nat.le_of_ble_eq_true rfl) dX6_sortsAsSeen_31 ?_
      obtain ⟨x2, hx1, h⟩ := cb_l h
      replace hx1 := hx1.symm
      have hj1 : cb_J cx g γ 4 M2 43 [(0, .ref (g.2.1 0)), (1, .int v1), (2, .int x2), (3, .int v3)] [] := by
        refine cj_iinc (lv' := [(3, .int (v3 + 1)), (0, .ref (g.2.1 0)), (1, .int v1), (2, .int x2)]) hC dX6_sortsAsSeen_43 (q := 3) rfl rfl (by decide) rfl ?_
        refine cj_goto (tgt := 4) hC dX6_sortsAsSeen_46 (by decide) ?_
        exact cj_pick [1, 2, 3, 0] rfl (ih _ _ _ _ h hexit)
      refine cj_if_eq (tgt := 43) hC dX6_sortsAsSeen_34 (by decide) (fun c2 => ?_) (fun c2 => ?_)
      · replace hx1 := cb_T c2 hx1
        obtain rfl := hx1
        exact cj_pick [0, 1, 2, 3] rfl hj1
      · replace hx1 := cb_F c2 hx1
        refine cj_iload_n hC dX6_sortsAsSeen_37 rfl 2 rfl ?_
        refine cj_iconst (v := 1) hC dX6_sortsAsSeen_38 rfl ?_
        refine cj_iload_n hC dX6_sortsAsSeen_39 rfl 3 rfl ?_
        refine cj_ishl hC dX6_sortsAsSeen_40 ?_
        refine cj_ior hC dX6_sortsAsSeen_41 ?_
        obtain ⟨x3, ex3, hx1⟩ := cb_l hx1
        refine cj_topi ex3 ?_
        refine cj_istore_n (lv' := [(2, .int x3), (0, .ref (g.2.1 0)), (1, .int v1), (3, .int v3)]) hC dX6_sortsAsSeen_42 rfl (by decide) rfl ?_
        obtain rfl := hx1
        exact cj_pick [1, 2, 0, 3] rfl hj1
set_option maxRecDepth 100000 in
set_option maxHeartbeats 4000000 in
theorem c_X6_sortsAsSeen (l : Launch) (g : cb_Geo) (p1 : Int32) (M : cb_Mem) {rr : Int32} {Mr : cb_Mem} (h : f_X6_sortsAsSeen p1 M = some (rr, Mr)) : Met l yX6_sortsAsSeen (.code yX6_sortsAsSeen cX6_sortsAsSeen 4 (some .int) :: cb_ws) (cb_rm 3) (cb_Pc cx g [.ref (g.2.1 0), .int p1] M) (cb_Qi cx g rr Mr) 0 0 (cb_A cx g) := by
  refine cb_met (by decide) wd_709 (Nat.le_of_ble_eq_true rfl) (fun γ hC => ?_)
  replace hC : cb_C cx g γ RX6 cX6_sortsAsSeen 4 (some .int) 3 l (cb_Qi cx g rr Mr) := hC
  show cb_J cx g γ 4 M 0 [(0, .ref (g.2.1 0)), (1, .int p1)] []
  unfold f_X6_sortsAsSeen at h
  refine cj_iconst (v := 0) hC dX6_sortsAsSeen_0 rfl ?_
  refine cj_istore_n (lv' := [(2, .int 0), (0, .ref (g.2.1 0)), (1, .int p1)]) hC dX6_sortsAsSeen_1 rfl (by decide) rfl ?_
  refine cj_iconst (v := 0) hC dX6_sortsAsSeen_2 rfl ?_
  refine cj_istore_n (lv' := [(3, .int 0), (2, .int 0), (0, .ref (g.2.1 0)), (1, .int p1)]) hC dX6_sortsAsSeen_3 rfl (by decide) rfl ?_
  obtain ⟨x1, M1, e1, h⟩ := cb_b2 h
  refine cj_pick [2, 3, 1, 0] rfl ?_
  refine l_X6_sortsAsSeen_L4 hC p1 cb_fuel _ _ _ _ e1 (fun ze10 ze11 hz => ?_)
  obtain ⟨rfl, rfl⟩ := cb_p2 hz
  refine cj_iload_n hC dX6_sortsAsSeen_49 rfl 0 rfl ?_
  obtain ⟨rfl, rfl⟩ := cb_i2 h
  exact cj_iret hC dX6_sortsAsSeen_50
def f_X6_duesAsSeen_L4 : Nat → Int32 → Int32 → Int32 → cb_Mem → Option (Int32 × cb_Mem)
    | 0, _, _, _, _ => none
    | n + 1, v1, v2, v3, M =>
      if 30 ≤ v3 then
      some (v2, M)
      else
      if cb_in v1 8 = true then
      cb_let (cb_up M 17 v1.toNatClampNeg v3) fun M1 =>
      (f_X5_go  M1).bind fun M2 =>
      (f_X6_isAsSeen  M2).bind fun x1 =>
      cb_let (if x1 = 0 then
      v2
      else
      cb_let ((v2 ||| ((1 : Int32) <<< (v3 &&& 31)))) fun x3 =>
      x3) fun x2 =>
      f_X6_duesAsSeen_L4 n v1 x2 (v3 + 1) M2
      else none
def f_X6_duesAsSeen (p1 : Int32) (M : cb_Mem) : Option (Int32 × cb_Mem) :=
  cb_bind2 (f_X6_duesAsSeen_L4 cb_fuel p1 0 0 M) fun x1 M1 =>
  some (x1, M1)
set_option maxRecDepth 100000 in
set_option maxHeartbeats 4000000 in
theorem l_X6_duesAsSeen_L4 {l : Launch} {g : cb_Geo} {γ : cb_Gam} {rr : Int32} {Mr : cb_Mem} (hC : cb_C cx g γ RX6 cX6_duesAsSeen 4 (some .int) 3 l (cb_Qi cx g rr Mr)) (v1 : Int32) : ∀ (n : Nat) (v2 : Int32) (v3 : Int32) (M : cb_Mem) (o : (Int32 × cb_Mem)), f_X6_duesAsSeen_L4 n v1 v2 v3 M = some o → (∀ (v2' : Int32) (M' : cb_Mem), o = (v2', M') → cb_J cx g γ 4 M' 50 [(2, .int v2')] []) → cb_J cx g γ 4 M 4 [(0, .ref (g.2.1 0)), (1, .int v1), (2, .int v2), (3, .int v3)] [] := by
  intro n
  induction n with
  | zero =>
    intro v2 v3 M o h
    cases h
  | succ n ih =>
    intro v2 v3 M o h hexit
    unfold f_X6_duesAsSeen_L4 at h
    refine cj_iload_n hC dX6_duesAsSeen_4 rfl 3 rfl ?_
    refine cj_bipush (v := 30) hC dX6_duesAsSeen_5 rfl ?_
    refine cj_icmp_ge (tgt := 50) hC dX6_duesAsSeen_7 (by decide) (fun c1 => ?_) (fun c1 => ?_)
    · replace h := cb_T c1 h
      obtain rfl := Option.some.inj h
      exact cj_pick [2] rfl (hexit _ _ rfl)
    · replace h := cb_F c1 h
      refine cj_aload_n hC dX6_duesAsSeen_10 rfl 0 rfl ?_
      refine cj_get (v := .ref (g.2.1 3)) hC fa_X6_50 cx_l0_ (cx_e0 g _) rfl dX6_duesAsSeen_11 ?_
      refine cj_get (v := .ref (g.2.1 17)) hC fa_X6_193 cx_l3_ (cx_e3 g _) rfl dX6_duesAsSeen_14 ?_
      refine cj_iload_n hC dX6_duesAsSeen_17 rfl 1 rfl ?_
      refine cj_iload_n hC dX6_duesAsSeen_18 rfl 3 rfl ?_
      obtain ⟨i1, h⟩ := cb_g h
      obtain ⟨M1, eM1, h⟩ := cb_l h
      refine cj_iast hC cx_l17_ (cx_e17 g) (cx_t0 g) i1 eM1 dX6_duesAsSeen_19 ?_
      refine cj_aload_n hC dX6_duesAsSeen_20 rfl 0 rfl ?_
      refine cj_get (v := .ref (g.2.1 4)) hC fa_X6_57 cx_l0_ (cx_e0 g _) rfl dX6_duesAsSeen_21 ?_
      refine cj_aload_n hC dX6_duesAsSeen_24 rfl 0 rfl ?_
      refine cj_get (v := .ref (g.2.1 3)) hC fa_X6_50 cx_l0_ (cx_e0 g _) rfl dX6_duesAsSeen_25 ?_
      obtain ⟨M2, e1, h⟩ := cb_b h
      refine cj_callVv (As := [.ref (g.2.1 3)]) hC cv_X6_196 cx_l4_ (cx_e4 g _) rfl (c_X5_go l g  M1 e1) (by decide) rfl rfl (Nat.le_of_ble_eq_true rfl) dX6_duesAsSeen_28 ?_
      refine cj_aload_n hC dX6_duesAsSeen_31 rfl 0 rfl ?_
      obtain ⟨x1, e2, h⟩ := cb_b h
      refine cj_callVi (As := []) hC cv_X6_214 cx_l0_ (cx_e0 g _) rfl (c_X6_isAsSeen l g  M2 e2) (by decide) rfl rfl (Nat.le_of_ble_eq_true rfl) dX6_duesAsSeen_32 ?_
      obtain ⟨x2, hx1, h⟩ := cb_l h
      replace hx1 := hx1.symm
      have hj1 : cb_J cx g γ 4 M2 44 [(0, .ref (g.2.1 0)), (1, .int v1), (2, .int x2), (3, .int v3)] [] := by
        refine cj_iinc (lv' := [(3, .int (v3 + 1)), (0, .ref (g.2.1 0)), (1, .int v1), (2, .int x2)]) hC dX6_duesAsSeen_44 (q := 3) rfl rfl (by decide) rfl ?_
        refine cj_goto (tgt := 4) hC dX6_duesAsSeen_47 (by decide) ?_
        exact cj_pick [1, 2, 3, 0] rfl (ih _ _ _ _ h hexit)
      refine cj_if_eq (tgt := 44) hC dX6_duesAsSeen_35 (by decide) (fun c2 => ?_) (fun c2 => ?_)
      · replace hx1 := cb_T c2 hx1
        obtain rfl := hx1
        exact cj_pick [0, 1, 2, 3] rfl hj1
      · replace hx1 := cb_F c2 hx1
        refine cj_iload_n hC dX6_duesAsSeen_38 rfl 2 rfl ?_
        refine cj_iconst (v := 1) hC dX6_duesAsSeen_39 rfl ?_
        refine cj_iload_n hC dX6_duesAsSeen_40 rfl 3 rfl ?_
        refine cj_ishl hC dX6_duesAsSeen_41 ?_
        refine cj_ior hC dX6_duesAsSeen_42 ?_
        obtain ⟨x3, ex3, hx1⟩ := cb_l hx1
        refine cj_topi ex3 ?_
        refine cj_istore_n (lv' := [(2, .int x3), (0, .ref (g.2.1 0)), (1, .int v1), (3, .int v3)]) hC dX6_duesAsSeen_43 rfl (by decide) rfl ?_
        obtain rfl := hx1
        exact cj_pick [1, 2, 0, 3] rfl hj1
set_option maxRecDepth 100000 in
set_option maxHeartbeats 4000000 in
theorem c_X6_duesAsSeen (l : Launch) (g : cb_Geo) (p1 : Int32) (M : cb_Mem) {rr : Int32} {Mr : cb_Mem} (h : f_X6_duesAsSeen p1 M = some (rr, Mr)) : Met l yX6_duesAsSeen (.code yX6_duesAsSeen cX6_duesAsSeen 4 (some .int) :: cb_ws) (cb_rm 3) (cb_Pc cx g [.ref (g.2.1 0), .int p1] M) (cb_Qi cx g rr Mr) 0 0 (cb_A cx g) := by
  refine cb_met (by decide) wd_713 (Nat.le_of_ble_eq_true rfl) (fun γ hC => ?_)
  replace hC : cb_C cx g γ RX6 cX6_duesAsSeen 4 (some .int) 3 l (cb_Qi cx g rr Mr) := hC
  show cb_J cx g γ 4 M 0 [(0, .ref (g.2.1 0)), (1, .int p1)] []
  unfold f_X6_duesAsSeen at h
  refine cj_iconst (v := 0) hC dX6_duesAsSeen_0 rfl ?_
  refine cj_istore_n (lv' := [(2, .int 0), (0, .ref (g.2.1 0)), (1, .int p1)]) hC dX6_duesAsSeen_1 rfl (by decide) rfl ?_
  refine cj_iconst (v := 0) hC dX6_duesAsSeen_2 rfl ?_
  refine cj_istore_n (lv' := [(3, .int 0), (2, .int 0), (0, .ref (g.2.1 0)), (1, .int p1)]) hC dX6_duesAsSeen_3 rfl (by decide) rfl ?_
  obtain ⟨x1, M1, e1, h⟩ := cb_b2 h
  refine cj_pick [2, 3, 1, 0] rfl ?_
  refine l_X6_duesAsSeen_L4 hC p1 cb_fuel _ _ _ _ e1 (fun ze10 ze11 hz => ?_)
  obtain ⟨rfl, rfl⟩ := cb_p2 hz
  refine cj_iload_n hC dX6_duesAsSeen_50 rfl 0 rfl ?_
  obtain ⟨rfl, rfl⟩ := cb_i2 h
  exact cj_iret hC dX6_duesAsSeen_51
def f_X6_tallyWhoGotWhat_L2 : Nat → Int32 → cb_Mem → Option (cb_Mem)
    | 0, _, _ => none
    | n + 1, v1, M =>
      if (M 3 7) ≤ v1 then
      some M
      else
      if cb_in v1 8 = true then
      cb_let ((M 24 v1.toNatClampNeg)) fun x1 =>
      if cb_in v1 8 = true then
      cb_let (if x1 = (-1) then
      (8 : Int32)
      else
      x1) fun x2 =>
      if cb_in x2 9 = true then
      if cb_in x2 9 = true then
      cb_let (cb_up M (50 + v1.toNatClampNeg) x2.toNatClampNeg ((M (50 + v1.toNatClampNeg) x2.toNatClampNeg) + 1)) fun M1 =>
      f_X6_tallyWhoGotWhat_L2 n (v1 + 1) M1
      else none
      else none
      else none
      else none
def f_X6_tallyWhoGotWhat  (M : cb_Mem) : Option (cb_Mem) :=
  (f_X6_tallyWhoGotWhat_L2 cb_fuel 0 M).bind fun M1 =>
  some M1
set_option maxRecDepth 100000 in
set_option maxHeartbeats 4000000 in
theorem l_X6_tallyWhoGotWhat_L2 {l : Launch} {g : cb_Geo} {γ : cb_Gam} {Mr : cb_Mem} (hC : cb_C cx g γ RX6 cX6_tallyWhoGotWhat 3 none 0 l (cb_Qv cx g Mr))  : ∀ (n : Nat) (v1 : Int32) (M : cb_Mem) (o : (cb_Mem)), f_X6_tallyWhoGotWhat_L2 n v1 M = some o → (∀ (M' : cb_Mem), o = M' → cb_J cx g γ 3 M' 51 [] []) → cb_J cx g γ 3 M 2 [(0, .ref (g.2.1 0)), (1, .int v1)] [] := by
  intro n
  induction n with
  | zero =>
    intro v1 M o h
    cases h
  | succ n ih =>
    intro v1 M o h hexit
    unfold f_X6_tallyWhoGotWhat_L2 at h
    refine cj_iload_n hC dX6_tallyWhoGotWhat_2 rfl 1 rfl ?_
    refine cj_aload_n hC dX6_tallyWhoGotWhat_3 rfl 0 rfl ?_
    refine cj_get (v := .ref (g.2.1 3)) hC fa_X6_50 cx_l0_ (cx_e0 g _) rfl dX6_tallyWhoGotWhat_4 ?_
    refine cj_get (v := .int (M 3 7)) hC fa_X6_164 cx_l3_ (cx_e3 g _) rfl dX6_tallyWhoGotWhat_7 ?_
    refine cj_icmp_ge (tgt := 51) hC dX6_tallyWhoGotWhat_10 (by decide) (fun c1 => ?_) (fun c1 => ?_)
    · replace h := cb_T c1 h
      obtain rfl := Option.some.inj h
      exact cj_pick [] rfl (hexit _ rfl)
    · replace h := cb_F c1 h
      refine cj_aload_n hC dX6_tallyWhoGotWhat_13 rfl 0 rfl ?_
      refine cj_get (v := .ref (g.2.1 4)) hC fa_X6_57 cx_l0_ (cx_e0 g _) rfl dX6_tallyWhoGotWhat_14 ?_
      refine cj_get (v := .ref (g.2.1 24)) hC fa_X6_152 cx_l4_ (cx_e4 g _) rfl dX6_tallyWhoGotWhat_17 ?_
      refine cj_iload_n hC dX6_tallyWhoGotWhat_20 rfl 1 rfl ?_
      obtain ⟨i1, h⟩ := cb_g h
      refine cj_iald hC cx_l24_ (cx_e24 g _) (cx_t0 g) i1 dX6_tallyWhoGotWhat_21 ?_
      obtain ⟨x1, ex1, h⟩ := cb_l h
      refine cj_topi ex1 ?_
      refine cj_istore_n (lv' := [(2, .int x1), (0, .ref (g.2.1 0)), (1, .int v1)]) hC dX6_tallyWhoGotWhat_22 rfl (by decide) rfl ?_
      refine cj_aload_n hC dX6_tallyWhoGotWhat_23 rfl 1 rfl ?_
      refine cj_get (v := .ref (g.2.1 6)) hC fa_X6_70 cx_l0_ (cx_e0 g _) rfl dX6_tallyWhoGotWhat_24 ?_
      refine cj_iload_n hC dX6_tallyWhoGotWhat_27 rfl 2 rfl ?_
      obtain ⟨i2, h⟩ := cb_g h
      refine cj_aald (t0 := 3) (a := g.2.1 (50 + v1.toNatClampNeg)) hC cx_l6_ (cx_e6 g _) rfl rfl i2 rfl dX6_tallyWhoGotWhat_28 ?_
      refine cj_iload_n hC dX6_tallyWhoGotWhat_29 rfl 0 rfl ?_
      refine cj_iconst (v := (-1)) hC dX6_tallyWhoGotWhat_30 rfl ?_
      obtain ⟨x2, hx1, h⟩ := cb_l h
      replace hx1 := hx1.symm
      have hj1 : cb_J cx g γ 3 M 40 [(0, .ref (g.2.1 0)), (1, .int v1)] [.int x2, .ref (g.2.1 (50 + v1.toNatClampNeg))] := by
        refine cj_dup2 hC dX6_tallyWhoGotWhat_40 rfl rfl ?_
        obtain ⟨i3, h⟩ := cb_g h
        refine cj_iald hC (cx_l8 (vp_lt i2) (by decide)) (cx_tally (vp_lt i2) g _) (cx_t0 g) i3 dX6_tallyWhoGotWhat_41 ?_
        refine cj_iconst (v := 1) hC dX6_tallyWhoGotWhat_42 rfl ?_
        refine cj_iadd hC dX6_tallyWhoGotWhat_43 ?_
        obtain ⟨i4, h⟩ := cb_g h
        obtain ⟨M1, eM1, h⟩ := cb_l h
        refine cj_iast hC (cx_l8 (vp_lt i2) (by decide)) (cx_tally (vp_lt i2) g) (cx_t0 g) i4 eM1 dX6_tallyWhoGotWhat_44 ?_
        refine cj_iinc (lv' := [(1, .int (v1 + 1)), (0, .ref (g.2.1 0))]) hC dX6_tallyWhoGotWhat_45 (q := 1) rfl rfl (by decide) rfl ?_
        refine cj_goto (tgt := 2) hC dX6_tallyWhoGotWhat_48 (by decide) ?_
        exact cj_pick [1, 0] rfl (ih _ _ _ h hexit)
      refine cj_icmp_ne (tgt := 39) hC dX6_tallyWhoGotWhat_31 (by decide) (fun c2 => ?_) (fun c2 => ?_)
      · replace hx1 := cb_F c2 hx1
        refine cj_iload_n hC dX6_tallyWhoGotWhat_39 rfl 0 rfl ?_
        obtain rfl := hx1
        exact cj_pick [1, 2] rfl hj1
      · replace hx1 := cb_T c2 hx1
        refine cj_bipush (v := 8) hC dX6_tallyWhoGotWhat_34 rfl ?_
        refine cj_goto (tgt := 40) hC dX6_tallyWhoGotWhat_36 (by decide) ?_
        obtain rfl := hx1
        exact cj_pick [1, 2] rfl hj1
set_option maxRecDepth 100000 in
set_option maxHeartbeats 4000000 in
theorem c_X6_tallyWhoGotWhat (l : Launch) (g : cb_Geo)  (M : cb_Mem) {Mr : cb_Mem} (h : f_X6_tallyWhoGotWhat  M = some Mr) : Met l yX6_tallyWhoGotWhat (.code yX6_tallyWhoGotWhat cX6_tallyWhoGotWhat 3 none :: cb_ws) (cb_rm 0) (cb_Pc cx g [.ref (g.2.1 0)] M) (cb_Qv cx g Mr) 0 0 (cb_A cx g) := by
  refine cb_met (by decide) wd_722 (Nat.le_of_ble_eq_true rfl) (fun γ hC => ?_)
  replace hC : cb_C cx g γ RX6 cX6_tallyWhoGotWhat 3 none 0 l (cb_Qv cx g Mr) := hC
  show cb_J cx g γ 3 M 0 [(0, .ref (g.2.1 0))] []
  unfold f_X6_tallyWhoGotWhat at h
  refine cj_iconst (v := 0) hC dX6_tallyWhoGotWhat_0 rfl ?_
  refine cj_istore_n (lv' := [(1, .int 0), (0, .ref (g.2.1 0))]) hC dX6_tallyWhoGotWhat_1 rfl (by decide) rfl ?_
  obtain ⟨M1, e1, h⟩ := cb_b h
  refine cj_pick [1, 0] rfl ?_
  refine l_X6_tallyWhoGotWhat_L2 hC  cb_fuel _ _ _ e1 (fun ze1 hz => ?_)
  obtain rfl := hz
  obtain rfl := Option.some.inj h
  exact cj_vret hC dX6_tallyWhoGotWhat_51
def f_X6_leastTallied_L24 : Nat → Int32 → Int32 → Int32 → Int32 → Int32 → cb_Mem → Option (Int32)
    | 0, _, _, _, _, _, _ => none
    | n + 1, v1, v2, v3, v4, v5, M =>
      if 8 < v5 then
      some v4
      else
      if cb_in v3 8 = true then
      if cb_in v5 9 = true then
      cb_let ((cb_max v4 (M (50 + v3.toNatClampNeg) v5.toNatClampNeg))) fun x1 =>
      f_X6_leastTallied_L24 n v1 v2 v3 x1 (v5 + 1) M
      else none
      else none
def f_X6_leastTallied_L7 : Nat → Int32 → Int32 → Int32 → cb_Mem → Option (Int32)
    | 0, _, _, _, _ => none
    | n + 1, v1, v2, v3, M =>
      if (M 3 7) ≤ v3 then
      some v1
      else
      (f_X6_leastTallied_L24 cb_fuel v1 v2 v3 0 0 M).bind fun x1 =>
      cb_bind2 (if v2 ≤ x1 then
      some (v1, v2)
      else
      some (v3, x1)) fun x2 x3 =>
      f_X6_leastTallied_L7 n x2 x3 (v3 + 1) M
def f_X6_leastTallied  (M : cb_Mem) : Option (Int32) :=
  (f_X6_leastTallied_L7 cb_fuel (-1) 31 0 M).bind fun x1 =>
  some x1
set_option maxRecDepth 100000 in
set_option maxHeartbeats 4000000 in
theorem l_X6_leastTallied_L24 {l : Launch} {g : cb_Geo} {γ : cb_Gam} {rr : Int32} {M : cb_Mem} (hC : cb_C cx g γ RX6 cX6_leastTallied 6 (some .int) 1 l (cb_Qi cx g rr M)) (v1 : Int32) (v2 : Int32) (v3 : Int32) : ∀ (n : Nat) (v4 : Int32) (v5 : Int32) (o : (Int32)), f_X6_leastTallied_L24 n v1 v2 v3 v4 v5 M = some o → (∀ (v4' : Int32), o = v4' → cb_J cx g γ 6 M 53 [(0, .ref (g.2.1 0)), (1, .int v1), (2, .int v2), (3, .int v3), (4, .int v4')] []) → cb_J cx g γ 6 M 24 [(0, .ref (g.2.1 0)), (1, .int v1), (2, .int v2), (3, .int v3), (4, .int v4), (5, .int v5)] [] := by
  intro n
  induction n with
  | zero =>
    intro v4 v5 o h
    cases h
  | succ n ih =>
    intro v4 v5 o h hexit
    unfold f_X6_leastTallied_L24 at h
    refine cj_iload hC dX6_leastTallied_24 5 rfl ?_
    refine cj_bipush (v := 8) hC dX6_leastTallied_26 rfl ?_
    refine cj_icmp_gt (tgt := 53) hC dX6_leastTallied_28 (by decide) (fun c1 => ?_) (fun c1 => ?_)
    · replace h := cb_T c1 h
      obtain rfl := Option.some.inj h
      exact cj_pick [0, 1, 2, 3, 4] rfl (hexit _ rfl)
    · replace h := cb_F c1 h
      refine cj_iload hC dX6_leastTallied_31 4 rfl ?_
      refine cj_aload_n hC dX6_leastTallied_33 rfl 0 rfl ?_
      refine cj_get (v := .ref (g.2.1 6)) hC fa_X6_70 cx_l0_ (cx_e0 g _) rfl dX6_leastTallied_34 ?_
      refine cj_iload_n hC dX6_leastTallied_37 rfl 3 rfl ?_
      obtain ⟨i1, h⟩ := cb_g h
      refine cj_aald (t0 := 3) (a := g.2.1 (50 + v3.toNatClampNeg)) hC cx_l6_ (cx_e6 g _) rfl rfl i1 rfl dX6_leastTallied_38 ?_
      refine cj_iload hC dX6_leastTallied_39 5 rfl ?_
      obtain ⟨i2, h⟩ := cb_g h
      refine cj_iald hC (cx_l8 (vp_lt i1) (by decide)) (cx_tally (vp_lt i1) g _) (cx_t0 g) i2 dX6_leastTallied_41 ?_
      refine cj_max hC wd_727 wd_105 wd_68 wd_106 (by decide) (Nat.le_of_ble_eq_true rfl) dX6_leastTallied_42 ?_
      obtain ⟨x1, ex1, h⟩ := cb_l h
      refine cj_topi ex1 ?_
      refine cj_istore (lv' := [(4, .int x1), (0, .ref (g.2.1 0)), (1, .int v1), (2, .int v2), (3, .int v3), (5, .int v5)]) hC dX6_leastTallied_45 (by decide) rfl ?_
      refine cj_iinc (lv' := [(5, .int (v5 + 1)), (4, .int x1), (0, .ref (g.2.1 0)), (1, .int v1), (2, .int v2), (3, .int v3)]) hC dX6_leastTallied_47 (q := 5) rfl rfl (by decide) rfl ?_
      refine cj_goto (tgt := 24) hC dX6_leastTallied_50 (by decide) ?_
      exact cj_pick [2, 3, 4, 5, 1, 0] rfl (ih _ _ _ h hexit)
set_option maxRecDepth 100000 in
set_option maxHeartbeats 4000000 in
theorem l_X6_leastTallied_L7 {l : Launch} {g : cb_Geo} {γ : cb_Gam} {rr : Int32} {M : cb_Mem} (hC : cb_C cx g γ RX6 cX6_leastTallied 6 (some .int) 1 l (cb_Qi cx g rr M))  : ∀ (n : Nat) (v1 : Int32) (v2 : Int32) (v3 : Int32) (o : (Int32)), f_X6_leastTallied_L7 n v1 v2 v3 M = some o → (∀ (v1' : Int32), o = v1' → cb_J cx g γ 6 M 70 [(1, .int v1')] []) → cb_J cx g γ 6 M 7 [(0, .ref (g.2.1 0)), (1, .int v1), (2, .int v2), (3, .int v3)] [] := by
  intro n
  induction n with
  | zero =>
    intro v1 v2 v3 o h
    cases h
  | succ n ih =>
    intro v1 v2 v3 o h hexit
    unfold f_X6_leastTallied_L7 at h
    refine cj_iload_n hC dX6_leastTallied_7 rfl 3 rfl ?_
    refine cj_aload_n hC dX6_leastTallied_8 rfl 0 rfl ?_
    refine cj_get (v := .ref (g.2.1 3)) hC fa_X6_50 cx_l0_ (cx_e0 g _) rfl dX6_leastTallied_9 ?_
    refine cj_get (v := .int (M 3 7)) hC fa_X6_164 cx_l3_ (cx_e3 g _) rfl dX6_leastTallied_12 ?_
    refine cj_icmp_ge (tgt := 70) hC dX6_leastTallied_15 (by decide) (fun c1 => ?_) (fun c1 => ?_)
    · replace h := cb_T c1 h
      obtain rfl := Option.some.inj h
      exact cj_pick [1] rfl (hexit _ rfl)
    · replace h := cb_F c1 h
      refine cj_iconst (v := 0) hC dX6_leastTallied_18 rfl ?_
      refine cj_istore (lv' := [(4, .int 0), (0, .ref (g.2.1 0)), (1, .int v1), (2, .int v2), (3, .int v3)]) hC dX6_leastTallied_19 (by decide) rfl ?_
      refine cj_iconst (v := 0) hC dX6_leastTallied_21 rfl ?_
      refine cj_istore (lv' := [(5, .int 0), (4, .int 0), (0, .ref (g.2.1 0)), (1, .int v1), (2, .int v2), (3, .int v3)]) hC dX6_leastTallied_22 (by decide) rfl ?_
      obtain ⟨x1, e1, h⟩ := cb_b h
      refine cj_pick [2, 3, 4, 5, 1, 0] rfl ?_
      refine l_X6_leastTallied_L24 hC v1 v2 v3 cb_fuel _ _ _ e1 (fun ze1 hz => ?_)
      obtain rfl := hz
      refine cj_iload hC dX6_leastTallied_53 4 rfl ?_
      refine cj_iload_n hC dX6_leastTallied_55 rfl 2 rfl ?_
      obtain ⟨x2, x3, hx1, h⟩ := cb_b2 h
      have hj1 : cb_J cx g γ 6 M 64 [(0, .ref (g.2.1 0)), (1, .int x2), (2, .int x3), (3, .int v3)] [] := by
        refine cj_iinc (lv' := [(3, .int (v3 + 1)), (0, .ref (g.2.1 0)), (1, .int x2), (2, .int x3)]) hC dX6_leastTallied_64 (q := 3) rfl rfl (by decide) rfl ?_
        refine cj_goto (tgt := 7) hC dX6_leastTallied_67 (by decide) ?_
        exact cj_pick [1, 2, 3, 0] rfl (ih _ _ _ _ h hexit)
      refine cj_icmp_ge (tgt := 64) hC dX6_leastTallied_56 (by decide) (fun c2 => ?_) (fun c2 => ?_)
      · replace hx1 := cb_T c2 hx1
        obtain ⟨rfl, rfl⟩ := cb_i2 hx1
        exact cj_pick [0, 1, 2, 3] rfl hj1
      · replace hx1 := cb_F c2 hx1
        refine cj_iload hC dX6_leastTallied_59 4 rfl ?_
        refine cj_istore_n (lv' := [(2, .int x1), (0, .ref (g.2.1 0)), (1, .int v1), (3, .int v3), (4, .int x1)]) hC dX6_leastTallied_61 rfl (by decide) rfl ?_
        refine cj_iload_n hC dX6_leastTallied_62 rfl 3 rfl ?_
        refine cj_istore_n (lv' := [(1, .int v3), (2, .int x1), (0, .ref (g.2.1 0)), (3, .int v3), (4, .int x1)]) hC dX6_leastTallied_63 rfl (by decide) rfl ?_
        obtain ⟨rfl, rfl⟩ := cb_i2 hx1
        exact cj_pick [2, 0, 1, 3] rfl hj1
set_option maxRecDepth 100000 in
set_option maxHeartbeats 4000000 in
theorem c_X6_leastTallied (l : Launch) (g : cb_Geo)  (M : cb_Mem) {rr : Int32} (h : f_X6_leastTallied  M = some rr) : Met l yX6_leastTallied (.code yX6_leastTallied cX6_leastTallied 6 (some .int) :: cb_ws) (cb_rm 1) (cb_Pc cx g [.ref (g.2.1 0)] M) (cb_Qi cx g rr M) 0 0 (cb_A cx g) := by
  refine cb_met (by decide) wd_726 (Nat.le_of_ble_eq_true rfl) (fun γ hC => ?_)
  replace hC : cb_C cx g γ RX6 cX6_leastTallied 6 (some .int) 1 l (cb_Qi cx g rr M) := hC
  show cb_J cx g γ 6 M 0 [(0, .ref (g.2.1 0))] []
  unfold f_X6_leastTallied at h
  refine cj_iconst (v := (-1)) hC dX6_leastTallied_0 rfl ?_
  refine cj_istore_n (lv' := [(1, .int (-1)), (0, .ref (g.2.1 0))]) hC dX6_leastTallied_1 rfl (by decide) rfl ?_
  refine cj_bipush (v := 31) hC dX6_leastTallied_2 rfl ?_
  refine cj_istore_n (lv' := [(2, .int 31), (1, .int (-1)), (0, .ref (g.2.1 0))]) hC dX6_leastTallied_4 rfl (by decide) rfl ?_
  refine cj_iconst (v := 0) hC dX6_leastTallied_5 rfl ?_
  refine cj_istore_n (lv' := [(3, .int 0), (2, .int 31), (1, .int (-1)), (0, .ref (g.2.1 0))]) hC dX6_leastTallied_6 rfl (by decide) rfl ?_
  obtain ⟨x1, e1, h⟩ := cb_b h
  refine cj_pick [3, 2, 1, 0] rfl ?_
  refine l_X6_leastTallied_L7 hC  cb_fuel _ _ _ _ e1 (fun ze1 hz => ?_)
  obtain rfl := hz
  refine cj_iload_n hC dX6_leastTallied_70 rfl 0 rfl ?_
  obtain rfl := Option.some.inj h
  exact cj_iret hC dX6_leastTallied_71
def f_X6_countChances_L14 : Nat → Int32 → Int32 → cb_Mem → Option (cb_Mem)
    | 0, _, _, _ => none
    | n + 1, v1, v2, M =>
      if ((1 : Int32) <<< ((v1 + 1) &&& 31)) ≤ v2 then
      some M
      else
      cb_let (cb_up M 3 8 v2) fun M1 =>
      (f_X5_go  M1).bind fun M2 =>
      cb_let (f_J6_bitCount_0f7a4 v2) fun x1 =>
      (f_X0_addCase x1 (M2 4 9) M2).bind fun M3 =>
      f_X6_countChances_L14 n v1 (v2 + 1) M3
def f_X6_countChances (p1 : Int32) (M : cb_Mem) : Option (cb_Mem) :=
  (f_X6_layOut  M).bind fun M1 =>
  (f_X0_startFor p1 M1).bind fun M2 =>
  (f_X6_countChances_L14 cb_fuel p1 0 M2).bind fun M3 =>
  some M3
set_option maxRecDepth 100000 in
set_option maxHeartbeats 4000000 in
theorem l_X6_countChances_L14 {l : Launch} {g : cb_Geo} {γ : cb_Gam} {Mr : cb_Mem} (hC : cb_C cx g γ RX6 cX6_countChances 3 none 3 l (cb_Qv cx g Mr)) (v1 : Int32) : ∀ (n : Nat) (v2 : Int32) (M : cb_Mem) (o : (cb_Mem)), f_X6_countChances_L14 n v1 v2 M = some o → (∀ (M' : cb_Mem), o = M' → cb_J cx g γ 3 M' 66 [] []) → cb_J cx g γ 3 M 14 [(0, .ref (g.2.1 0)), (1, .int v1), (2, .int v2)] [] := by
  intro n
  induction n with
  | zero =>
    intro v2 M o h
    cases h
  | succ n ih =>
    intro v2 M o h hexit
    unfold f_X6_countChances_L14 at h
    refine cj_iload_n hC dX6_countChances_14 rfl 2 rfl ?_
    refine cj_iconst (v := 1) hC dX6_countChances_15 rfl ?_
    refine cj_iload_n hC dX6_countChances_16 rfl 1 rfl ?_
    refine cj_iconst (v := 1) hC dX6_countChances_17 rfl ?_
    refine cj_iadd hC dX6_countChances_18 ?_
    refine cj_ishl hC dX6_countChances_19 ?_
    refine cj_icmp_ge (tgt := 66) hC dX6_countChances_20 (by decide) (fun c1 => ?_) (fun c1 => ?_)
    · replace h := cb_T c1 h
      obtain rfl := Option.some.inj h
      exact cj_pick [] rfl (hexit _ rfl)
    · replace h := cb_F c1 h
      refine cj_aload_n hC dX6_countChances_23 rfl 0 rfl ?_
      refine cj_get (v := .ref (g.2.1 3)) hC fa_X6_50 cx_l0_ (cx_e0 g _) rfl dX6_countChances_24 ?_
      refine cj_iload_n hC dX6_countChances_27 rfl 2 rfl ?_
      obtain ⟨M1, eM1, h⟩ := cb_l h
      refine cj_put hC fp_X6_385 cx_l3_ (cx_e3 g _) rfl (Nat.le_of_ble_eq_true rfl) eM1 dX6_countChances_28 ?_
      refine cj_aload_n hC dX6_countChances_31 rfl 0 rfl ?_
      refine cj_get (v := .ref (g.2.1 4)) hC fa_X6_57 cx_l0_ (cx_e0 g _) rfl dX6_countChances_32 ?_
      refine cj_aload_n hC dX6_countChances_35 rfl 0 rfl ?_
      refine cj_get (v := .ref (g.2.1 3)) hC fa_X6_50 cx_l0_ (cx_e0 g _) rfl dX6_countChances_36 ?_
      obtain ⟨M2, e1, h⟩ := cb_b h
      refine cj_callVv (As := [.ref (g.2.1 3)]) hC cv_X6_196 cx_l4_ (cx_e4 g _) rfl (c_X5_go l g  M1 e1) (by decide) rfl rfl (Nat.le_of_ble_eq_true rfl) dX6_countChances_39 ?_
      refine cj_aload_n hC dX6_countChances_42 rfl 0 rfl ?_
      refine cj_get (v := .ref (g.2.1 5)) hC fa_X6_64 cx_l0_ (cx_e0 g _) rfl dX6_countChances_43 ?_
      refine cj_iload_n hC dX6_countChances_46 rfl 2 rfl ?_
      obtain ⟨x1, e2, h⟩ := cb_l h
      refine cj_callSi (As := [.int v2]) hC cs_X6_171 (c_J6_bitCount_0f7a4 l g v2 M2 e2.symm) (by decide) rfl rfl (Nat.le_of_ble_eq_true rfl) dX6_countChances_47 ?_
      refine cj_aload_n hC dX6_countChances_50 rfl 0 rfl ?_
      refine cj_get (v := .ref (g.2.1 4)) hC fa_X6_57 cx_l0_ (cx_e0 g _) rfl dX6_countChances_51 ?_
      refine cj_get (v := .int (M2 4 9)) hC fa_X6_161 cx_l4_ (cx_e4 g _) rfl dX6_countChances_54 ?_
      obtain ⟨M3, e3, h⟩ := cb_b h
      refine cj_callVv (As := [.int x1, .int (M2 4 9)]) hC cv_X6_387 cx_l5_ (cx_e5 g _) rfl (c_X0_addCase l g x1 (M2 4 9) M2 e3) (by decide) rfl rfl (Nat.le_of_ble_eq_true rfl) dX6_countChances_57 ?_
      refine cj_iinc (lv' := [(2, .int (v2 + 1)), (0, .ref (g.2.1 0)), (1, .int v1)]) hC dX6_countChances_60 (q := 2) rfl rfl (by decide) rfl ?_
      refine cj_goto (tgt := 14) hC dX6_countChances_63 (by decide) ?_
      exact cj_pick [1, 2, 0] rfl (ih _ _ _ h hexit)
set_option maxRecDepth 100000 in
set_option maxHeartbeats 4000000 in
theorem c_X6_countChances (l : Launch) (g : cb_Geo) (p1 : Int32) (M : cb_Mem) {Mr : cb_Mem} (h : f_X6_countChances p1 M = some Mr) : Met l yX6_countChances (.code yX6_countChances cX6_countChances 3 none :: cb_ws) (cb_rm 3) (cb_Pc cx g [.ref (g.2.1 0), .int p1] M) (cb_Qv cx g Mr) 0 0 (cb_A cx g) := by
  refine cb_met (by decide) wd_739 (Nat.le_of_ble_eq_true rfl) (fun γ hC => ?_)
  replace hC : cb_C cx g γ RX6 cX6_countChances 3 none 3 l (cb_Qv cx g Mr) := hC
  show cb_J cx g γ 3 M 0 [(0, .ref (g.2.1 0)), (1, .int p1)] []
  unfold f_X6_countChances at h
  refine cj_aload_n hC dX6_countChances_0 rfl 0 rfl ?_
  obtain ⟨M1, e1, h⟩ := cb_b h
  refine cj_callVv (As := []) hC cv_X6_184 cx_l0_ (cx_e0 g _) rfl (c_X6_layOut l g  M e1) (by decide) rfl rfl (Nat.le_of_ble_eq_true rfl) dX6_countChances_1 ?_
  refine cj_aload_n hC dX6_countChances_4 rfl 0 rfl ?_
  refine cj_get (v := .ref (g.2.1 5)) hC fa_X6_64 cx_l0_ (cx_e0 g _) rfl dX6_countChances_5 ?_
  refine cj_iload_n hC dX6_countChances_8 rfl 1 rfl ?_
  obtain ⟨M2, e2, h⟩ := cb_b h
  refine cj_callVv (As := [.int p1]) hC cv_X6_382 cx_l5_ (cx_e5 g _) rfl (c_X0_startFor l g p1 M1 e2) (by decide) rfl rfl (Nat.le_of_ble_eq_true rfl) dX6_countChances_9 ?_
  refine cj_iconst (v := 0) hC dX6_countChances_12 rfl ?_
  refine cj_istore_n (lv' := [(2, .int 0), (0, .ref (g.2.1 0)), (1, .int p1)]) hC dX6_countChances_13 rfl (by decide) rfl ?_
  obtain ⟨M3, e3, h⟩ := cb_b h
  refine cj_pick [1, 2, 0] rfl ?_
  refine l_X6_countChances_L14 hC p1 cb_fuel _ _ _ e3 (fun ze3 hz => ?_)
  obtain rfl := hz
  obtain rfl := Option.some.inj h
  exact cj_vret hC dX6_countChances_66
def f_X6_type (p1 : Int32) (p2 : Int32) (M : cb_Mem) : Option (Int32 × cb_Mem) :=
  cb_let (f_X6_isOff p1 2) fun x1 =>
  if x1 = 0 then
  cb_let (f_X6_isOff p2 256) fun x2 =>
  if x2 = 0 then
  cb_let (f_X0_forgetAll  M) fun M1 =>
  if cb_in p1 2 = true then
  cb_bind2 (f_X4_append p1.toNatClampNeg p2 M1) fun x3 M2 =>
  some (x3, M2)
  else none
  else
  some (((-2) : Int32), M)
  else
  some (((-2) : Int32), M)
set_option maxRecDepth 100000 in
set_option maxHeartbeats 4000000 in
theorem c_X6_type (l : Launch) (g : cb_Geo) (p1 : Int32) (p2 : Int32) (M : cb_Mem) {rr : Int32} {Mr : cb_Mem} (h : f_X6_type p1 p2 M = some (rr, Mr)) : Met l yX6_type (.code yX6_type cX6_type 3 (some .int) :: cb_ws) (cb_rm 8) (cb_Pc cx g [.ref (g.2.1 0), .int p1, .int p2] M) (cb_Qi cx g rr Mr) 0 0 (cb_A cx g) := by
  refine cb_met (by decide) wd_320 (Nat.le_of_ble_eq_true rfl) (fun γ hC => ?_)
  replace hC : cb_C cx g γ RX6 cX6_type 3 (some .int) 8 l (cb_Qi cx g rr Mr) := hC
  show cb_J cx g γ 3 M 0 [(0, .ref (g.2.1 0)), (1, .int p1), (2, .int p2)] []
  unfold f_X6_type at h
  refine cj_iload_n hC dX6_type_0 rfl 1 rfl ?_
  refine cj_iconst (v := 2) hC dX6_type_1 rfl ?_
  obtain ⟨x1, e1, h⟩ := cb_l h
  refine cj_callSi (As := [.int p1, .int 2]) hC cs_X6_77 (c_X6_isOff l g p1 2 M e1.symm) (by decide) rfl rfl (Nat.le_of_ble_eq_true rfl) dX6_type_2 ?_
  refine cj_if_ne (tgt := 18) hC dX6_type_5 (by decide) (fun c1 => ?_) (fun c1 => ?_)
  · replace h := cb_F c1 h
    refine cj_bipush (v := (-2)) hC dX6_type_18 rfl ?_
    obtain ⟨rfl, rfl⟩ := cb_i2 h
    exact cj_iret hC dX6_type_20
  · replace h := cb_T c1 h
    refine cj_iload_n hC dX6_type_8 rfl 2 rfl ?_
    refine cj_sipush (v := 256) hC dX6_type_9 rfl ?_
    obtain ⟨x2, e2, h⟩ := cb_l h
    refine cj_callSi (As := [.int p2, .int 256]) hC cs_X6_77 (c_X6_isOff l g p2 256 M e2.symm) (by decide) rfl rfl (Nat.le_of_ble_eq_true rfl) dX6_type_12 ?_
    refine cj_if_eq (tgt := 21) hC dX6_type_15 (by decide) (fun c2 => ?_) (fun c2 => ?_)
    · replace h := cb_T c2 h
      refine cj_aload_n hC dX6_type_21 rfl 0 rfl ?_
      refine cj_get (v := .ref (g.2.1 5)) hC fa_X6_64 cx_l0_ (cx_e0 g _) rfl dX6_type_22 ?_
      obtain ⟨M1, e3, h⟩ := cb_l h
      refine cj_callVv (As := []) hC cv_X6_81 cx_l5_ (cx_e5 g _) rfl (c_X0_forgetAll l g  M e3.symm) (by decide) rfl rfl (Nat.le_of_ble_eq_true rfl) dX6_type_25 ?_
      refine cj_aload_n hC dX6_type_28 rfl 0 rfl ?_
      refine cj_get (v := .ref (g.2.1 1)) hC fa_X6_16 cx_l0_ (cx_e0 g _) rfl dX6_type_29 ?_
      refine cj_iload_n hC dX6_type_32 rfl 1 rfl ?_
      obtain ⟨i1, h⟩ := cb_g h
      refine cj_aald (t0 := 1) (a := g.2.1 (30 + p1.toNatClampNeg)) hC cx_l1_ (cx_e1 g _) rfl rfl i1 rfl dX6_type_33 ?_
      refine cj_iload_n hC dX6_type_34 rfl 2 rfl ?_
      obtain ⟨x3, M2, e4, h⟩ := cb_b2 h
      refine cj_callVi (As := [.int p2]) hC cv_X6_84 (cx_l2 (vp_lt i1) (by decide)) (cx_text (vp_lt i1) g _) rfl (c_X4_append l g p1.toNatClampNeg (vp_lt i1) p2 M1 e4) (by decide) rfl rfl (Nat.le_of_ble_eq_true rfl) dX6_type_35 ?_
      obtain ⟨rfl, rfl⟩ := cb_i2 h
      exact cj_iret hC dX6_type_38
    · replace h := cb_F c2 h
      refine cj_bipush (v := (-2)) hC dX6_type_18 rfl ?_
      obtain ⟨rfl, rfl⟩ := cb_i2 h
      exact cj_iret hC dX6_type_20
def f_X6_wipe (p1 : Int32) (M : cb_Mem) : Option (Int32 × cb_Mem) :=
  cb_let (f_X6_isOff p1 2) fun x1 =>
  if x1 = 0 then
  cb_let (f_X0_forgetAll  M) fun M1 =>
  if cb_in p1 2 = true then
  cb_bind2 (f_X4_empty p1.toNatClampNeg M1) fun x2 M2 =>
  some (x2, M2)
  else none
  else
  some (((-2) : Int32), M)
set_option maxRecDepth 100000 in
set_option maxHeartbeats 4000000 in
theorem c_X6_wipe (l : Launch) (g : cb_Geo) (p1 : Int32) (M : cb_Mem) {rr : Int32} {Mr : cb_Mem} (h : f_X6_wipe p1 M = some (rr, Mr)) : Met l yX6_wipe (.code yX6_wipe cX6_wipe 2 (some .int) :: cb_ws) (cb_rm 8) (cb_Pc cx g [.ref (g.2.1 0), .int p1] M) (cb_Qi cx g rr Mr) 0 0 (cb_A cx g) := by
  refine cb_met (by decide) wd_443 (Nat.le_of_ble_eq_true rfl) (fun γ hC => ?_)
  replace hC : cb_C cx g γ RX6 cX6_wipe 2 (some .int) 8 l (cb_Qi cx g rr Mr) := hC
  show cb_J cx g γ 2 M 0 [(0, .ref (g.2.1 0)), (1, .int p1)] []
  unfold f_X6_wipe at h
  refine cj_iload_n hC dX6_wipe_0 rfl 1 rfl ?_
  refine cj_iconst (v := 2) hC dX6_wipe_1 rfl ?_
  obtain ⟨x1, e1, h⟩ := cb_l h
  refine cj_callSi (As := [.int p1, .int 2]) hC cs_X6_77 (c_X6_isOff l g p1 2 M e1.symm) (by decide) rfl rfl (Nat.le_of_ble_eq_true rfl) dX6_wipe_2 ?_
  refine cj_if_eq (tgt := 11) hC dX6_wipe_5 (by decide) (fun c1 => ?_) (fun c1 => ?_)
  · replace h := cb_T c1 h
    refine cj_aload_n hC dX6_wipe_11 rfl 0 rfl ?_
    refine cj_get (v := .ref (g.2.1 5)) hC fa_X6_64 cx_l0_ (cx_e0 g _) rfl dX6_wipe_12 ?_
    obtain ⟨M1, e2, h⟩ := cb_l h
    refine cj_callVv (As := []) hC cv_X6_81 cx_l5_ (cx_e5 g _) rfl (c_X0_forgetAll l g  M e2.symm) (by decide) rfl rfl (Nat.le_of_ble_eq_true rfl) dX6_wipe_15 ?_
    refine cj_aload_n hC dX6_wipe_18 rfl 0 rfl ?_
    refine cj_get (v := .ref (g.2.1 1)) hC fa_X6_16 cx_l0_ (cx_e0 g _) rfl dX6_wipe_19 ?_
    refine cj_iload_n hC dX6_wipe_22 rfl 1 rfl ?_
    obtain ⟨i1, h⟩ := cb_g h
    refine cj_aald (t0 := 1) (a := g.2.1 (30 + p1.toNatClampNeg)) hC cx_l1_ (cx_e1 g _) rfl rfl i1 rfl dX6_wipe_23 ?_
    obtain ⟨x2, M2, e3, h⟩ := cb_b2 h
    refine cj_callVi (As := []) hC cv_X6_88 (cx_l2 (vp_lt i1) (by decide)) (cx_text (vp_lt i1) g _) rfl (c_X4_empty l g p1.toNatClampNeg (vp_lt i1) M1 e3) (by decide) rfl rfl (Nat.le_of_ble_eq_true rfl) dX6_wipe_24 ?_
    obtain ⟨rfl, rfl⟩ := cb_i2 h
    exact cj_iret hC dX6_wipe_27
  · replace h := cb_F c1 h
    refine cj_bipush (v := (-2)) hC dX6_wipe_8 rfl ?_
    obtain ⟨rfl, rfl⟩ := cb_i2 h
    exact cj_iret hC dX6_wipe_10
def f_X6_undo (p1 : Int32) (M : cb_Mem) : Option (Int32 × cb_Mem) :=
  cb_let (f_X6_isOff p1 2) fun x1 =>
  if x1 = 0 then
  cb_let (f_X0_forgetAll  M) fun M1 =>
  if cb_in p1 2 = true then
  cb_bind2 (f_X4_dropLast p1.toNatClampNeg M1) fun x2 M2 =>
  some (x2, M2)
  else none
  else
  some (((-2) : Int32), M)
set_option maxRecDepth 100000 in
set_option maxHeartbeats 4000000 in
theorem c_X6_undo (l : Launch) (g : cb_Geo) (p1 : Int32) (M : cb_Mem) {rr : Int32} {Mr : cb_Mem} (h : f_X6_undo p1 M = some (rr, Mr)) : Met l yX6_undo (.code yX6_undo cX6_undo 2 (some .int) :: cb_ws) (cb_rm 8) (cb_Pc cx g [.ref (g.2.1 0), .int p1] M) (cb_Qi cx g rr Mr) 0 0 (cb_A cx g) := by
  refine cb_met (by decide) wd_455 (Nat.le_of_ble_eq_true rfl) (fun γ hC => ?_)
  replace hC : cb_C cx g γ RX6 cX6_undo 2 (some .int) 8 l (cb_Qi cx g rr Mr) := hC
  show cb_J cx g γ 2 M 0 [(0, .ref (g.2.1 0)), (1, .int p1)] []
  unfold f_X6_undo at h
  refine cj_iload_n hC dX6_undo_0 rfl 1 rfl ?_
  refine cj_iconst (v := 2) hC dX6_undo_1 rfl ?_
  obtain ⟨x1, e1, h⟩ := cb_l h
  refine cj_callSi (As := [.int p1, .int 2]) hC cs_X6_77 (c_X6_isOff l g p1 2 M e1.symm) (by decide) rfl rfl (Nat.le_of_ble_eq_true rfl) dX6_undo_2 ?_
  refine cj_if_eq (tgt := 11) hC dX6_undo_5 (by decide) (fun c1 => ?_) (fun c1 => ?_)
  · replace h := cb_T c1 h
    refine cj_aload_n hC dX6_undo_11 rfl 0 rfl ?_
    refine cj_get (v := .ref (g.2.1 5)) hC fa_X6_64 cx_l0_ (cx_e0 g _) rfl dX6_undo_12 ?_
    obtain ⟨M1, e2, h⟩ := cb_l h
    refine cj_callVv (As := []) hC cv_X6_81 cx_l5_ (cx_e5 g _) rfl (c_X0_forgetAll l g  M e2.symm) (by decide) rfl rfl (Nat.le_of_ble_eq_true rfl) dX6_undo_15 ?_
    refine cj_aload_n hC dX6_undo_18 rfl 0 rfl ?_
    refine cj_get (v := .ref (g.2.1 1)) hC fa_X6_16 cx_l0_ (cx_e0 g _) rfl dX6_undo_19 ?_
    refine cj_iload_n hC dX6_undo_22 rfl 1 rfl ?_
    obtain ⟨i1, h⟩ := cb_g h
    refine cj_aald (t0 := 1) (a := g.2.1 (30 + p1.toNatClampNeg)) hC cx_l1_ (cx_e1 g _) rfl rfl i1 rfl dX6_undo_23 ?_
    obtain ⟨x2, M2, e3, h⟩ := cb_b2 h
    refine cj_callVi (As := []) hC cv_X6_92 (cx_l2 (vp_lt i1) (by decide)) (cx_text (vp_lt i1) g _) rfl (c_X4_dropLast l g p1.toNatClampNeg (vp_lt i1) M1 e3) (by decide) rfl rfl (Nat.le_of_ble_eq_true rfl) dX6_undo_24 ?_
    obtain ⟨rfl, rfl⟩ := cb_i2 h
    exact cj_iret hC dX6_undo_27
  · replace h := cb_F c1 h
    refine cj_bipush (v := (-2)) hC dX6_undo_8 rfl ?_
    obtain ⟨rfl, rfl⟩ := cb_i2 h
    exact cj_iret hC dX6_undo_10
def f_X6_fault (p1 : Int32) (M : cb_Mem) : Option (Int32) :=
  cb_let (f_X6_isOff p1 2) fun x1 =>
  if x1 = 0 then
  if cb_in p1 2 = true then
  some (M (30 + p1.toNatClampNeg) 7)
  else none
  else
  some ((-2) : Int32)
set_option maxRecDepth 100000 in
set_option maxHeartbeats 4000000 in
theorem c_X6_fault (l : Launch) (g : cb_Geo) (p1 : Int32) (M : cb_Mem) {rr : Int32} (h : f_X6_fault p1 M = some rr) : Met l yX6_fault (.code yX6_fault cX6_fault 2 (some .int) :: cb_ws) (cb_rm 1) (cb_Pc cx g [.ref (g.2.1 0), .int p1] M) (cb_Qi cx g rr M) 0 0 (cb_A cx g) := by
  refine cb_met (by decide) wd_467 (Nat.le_of_ble_eq_true rfl) (fun γ hC => ?_)
  replace hC : cb_C cx g γ RX6 cX6_fault 2 (some .int) 1 l (cb_Qi cx g rr M) := hC
  show cb_J cx g γ 2 M 0 [(0, .ref (g.2.1 0)), (1, .int p1)] []
  unfold f_X6_fault at h
  refine cj_iload_n hC dX6_fault_0 rfl 1 rfl ?_
  refine cj_iconst (v := 2) hC dX6_fault_1 rfl ?_
  obtain ⟨x1, e1, h⟩ := cb_l h
  refine cj_callSi (As := [.int p1, .int 2]) hC cs_X6_77 (c_X6_isOff l g p1 2 M e1.symm) (by decide) rfl rfl (Nat.le_of_ble_eq_true rfl) dX6_fault_2 ?_
  refine cj_if_eq (tgt := 11) hC dX6_fault_5 (by decide) (fun c1 => ?_) (fun c1 => ?_)
  · replace h := cb_T c1 h
    refine cj_aload_n hC dX6_fault_11 rfl 0 rfl ?_
    refine cj_get (v := .ref (g.2.1 1)) hC fa_X6_16 cx_l0_ (cx_e0 g _) rfl dX6_fault_12 ?_
    refine cj_iload_n hC dX6_fault_15 rfl 1 rfl ?_
    obtain ⟨i1, h⟩ := cb_g h
    refine cj_aald (t0 := 1) (a := g.2.1 (30 + p1.toNatClampNeg)) hC cx_l1_ (cx_e1 g _) rfl rfl i1 rfl dX6_fault_16 ?_
    refine cj_get (v := .int (M (30 + p1.toNatClampNeg) 7)) hC fa_X6_95 (cx_l2 (vp_lt i1) (by decide)) (cx_text (vp_lt i1) g _) rfl dX6_fault_17 ?_
    obtain rfl := Option.some.inj h
    exact cj_iret hC dX6_fault_20
  · replace h := cb_F c1 h
    refine cj_bipush (v := (-2)) hC dX6_fault_8 rfl ?_
    obtain rfl := Option.some.inj h
    exact cj_iret hC dX6_fault_10
def f_X6_head (p1 : Int32) (p2 : Int32) (M : cb_Mem) : Option (Int32) :=
  cb_let (f_X6_isNoHead p1 M) fun x1 =>
  if x1 = 0 then
  cb_let (f_X6_isOff p2 2) fun x2 =>
  if x2 = 0 then
  if p2 = 0 then
  if cb_in p1 8 = true then
  some (M 36 p1.toNatClampNeg)
  else none
  else
  if cb_in p1 8 = true then
  some (M 38 p1.toNatClampNeg)
  else none
  else
  some ((-2) : Int32)
  else
  some ((-2) : Int32)
set_option maxRecDepth 100000 in
set_option maxHeartbeats 4000000 in
theorem c_X6_head (l : Launch) (g : cb_Geo) (p1 : Int32) (p2 : Int32) (M : cb_Mem) {rr : Int32} (h : f_X6_head p1 p2 M = some rr) : Met l yX6_head (.code yX6_head cX6_head 3 (some .int) :: cb_ws) (cb_rm 2) (cb_Pc cx g [.ref (g.2.1 0), .int p1, .int p2] M) (cb_Qi cx g rr M) 0 0 (cb_A cx g) := by
  refine cb_met (by decide) wd_471 (Nat.le_of_ble_eq_true rfl) (fun γ hC => ?_)
  replace hC : cb_C cx g γ RX6 cX6_head 3 (some .int) 2 l (cb_Qi cx g rr M) := hC
  show cb_J cx g γ 3 M 0 [(0, .ref (g.2.1 0)), (1, .int p1), (2, .int p2)] []
  unfold f_X6_head at h
  refine cj_aload_n hC dX6_head_0 rfl 0 rfl ?_
  refine cj_iload_n hC dX6_head_1 rfl 1 rfl ?_
  obtain ⟨x1, e1, h⟩ := cb_l h
  refine cj_callVi (As := [.int p1]) hC cv_X6_98 cx_l0_ (cx_e0 g _) rfl (c_X6_isNoHead l g p1 M e1.symm) (by decide) rfl rfl (Nat.le_of_ble_eq_true rfl) dX6_head_2 ?_
  refine cj_if_ne (tgt := 16) hC dX6_head_5 (by decide) (fun c1 => ?_) (fun c1 => ?_)
  · replace h := cb_F c1 h
    refine cj_bipush (v := (-2)) hC dX6_head_16 rfl ?_
    obtain rfl := Option.some.inj h
    exact cj_iret hC dX6_head_18
  · replace h := cb_T c1 h
    refine cj_iload_n hC dX6_head_8 rfl 2 rfl ?_
    refine cj_iconst (v := 2) hC dX6_head_9 rfl ?_
    obtain ⟨x2, e2, h⟩ := cb_l h
    refine cj_callSi (As := [.int p2, .int 2]) hC cs_X6_77 (c_X6_isOff l g p2 2 M e2.symm) (by decide) rfl rfl (Nat.le_of_ble_eq_true rfl) dX6_head_10 ?_
    refine cj_if_eq (tgt := 19) hC dX6_head_13 (by decide) (fun c2 => ?_) (fun c2 => ?_)
    · replace h := cb_T c2 h
      refine cj_iload_n hC dX6_head_19 rfl 2 rfl ?_
      refine cj_if_ne (tgt := 37) hC dX6_head_20 (by decide) (fun c3 => ?_) (fun c3 => ?_)
      · replace h := cb_F c3 h
        refine cj_aload_n hC dX6_head_37 rfl 0 rfl ?_
        refine cj_get (v := .ref (g.2.1 1)) hC fa_X6_16 cx_l0_ (cx_e0 g _) rfl dX6_head_38 ?_
        refine cj_iconst (v := 0) hC dX6_head_41 rfl ?_
        refine cj_aald (t0 := 1) (a := g.2.1 30) hC cx_l1_ (cx_e1 g _) rfl rfl (cb_in_iff.mp (by decide)) rfl dX6_head_42 ?_
        refine cj_get (v := .ref (g.2.1 38)) hC fa_X6_106 (by decide) (cx_text (show 0 < 2 by decide) g _) rfl dX6_head_43 ?_
        refine cj_iload_n hC dX6_head_46 rfl 1 rfl ?_
        obtain ⟨i1, h⟩ := cb_g h
        refine cj_iald hC (by decide) (cx_tdays (show 0 < 2 by decide) g _) (cx_t0 g) i1 dX6_head_47 ?_
        obtain rfl := Option.some.inj h
        exact cj_iret hC dX6_head_48
      · replace h := cb_T c3 h
        refine cj_aload_n hC dX6_head_23 rfl 0 rfl ?_
        refine cj_get (v := .ref (g.2.1 1)) hC fa_X6_16 cx_l0_ (cx_e0 g _) rfl dX6_head_24 ?_
        refine cj_iconst (v := 0) hC dX6_head_27 rfl ?_
        refine cj_aald (t0 := 1) (a := g.2.1 30) hC cx_l1_ (cx_e1 g _) rfl rfl (cb_in_iff.mp (by decide)) rfl dX6_head_28 ?_
        refine cj_get (v := .ref (g.2.1 36)) hC fa_X6_102 (by decide) (cx_text (show 0 < 2 by decide) g _) rfl dX6_head_29 ?_
        refine cj_iload_n hC dX6_head_32 rfl 1 rfl ?_
        obtain ⟨i2, h⟩ := cb_g h
        refine cj_iald hC (by decide) (cx_tkinds (show 0 < 2 by decide) g _) (cx_t0 g) i2 dX6_head_33 ?_
        refine cj_goto (tgt := 48) hC dX6_head_34 (by decide) ?_
        obtain rfl := Option.some.inj h
        exact cj_iret hC dX6_head_48
    · replace h := cb_F c2 h
      refine cj_bipush (v := (-2)) hC dX6_head_16 rfl ?_
      obtain rfl := Option.some.inj h
      exact cj_iret hC dX6_head_18
def f_X6_couple (p1 : Int32) (p2 : Int32) (M : cb_Mem) : Option (Int32) :=
  cb_let (f_X6_isNoCouple p1 M) fun x1 =>
  if x1 = 0 then
  cb_let (f_X6_isOff p2 3) fun x2 =>
  if x2 = 0 then
  if p2 = 0 then
  if cb_in p1 8 = true then
  some (M 37 p1.toNatClampNeg)
  else none
  else
  if p2 = 1 then
  if cb_in p1 8 = true then
  some (M 39 p1.toNatClampNeg)
  else none
  else
  if cb_in p1 8 = true then
  some (M 41 p1.toNatClampNeg)
  else none
  else
  some ((-2) : Int32)
  else
  some ((-2) : Int32)
set_option maxRecDepth 100000 in
set_option maxHeartbeats 4000000 in
theorem c_X6_couple (l : Launch) (g : cb_Geo) (p1 : Int32) (p2 : Int32) (M : cb_Mem) {rr : Int32} (h : f_X6_couple p1 p2 M = some rr) : Met l yX6_couple (.code yX6_couple cX6_couple 3 (some .int) :: cb_ws) (cb_rm 2) (cb_Pc cx g [.ref (g.2.1 0), .int p1, .int p2] M) (cb_Qi cx g rr M) 0 0 (cb_A cx g) := by
  refine cb_met (by decide) wd_479 (Nat.le_of_ble_eq_true rfl) (fun γ hC => ?_)
  replace hC : cb_C cx g γ RX6 cX6_couple 3 (some .int) 2 l (cb_Qi cx g rr M) := hC
  show cb_J cx g γ 3 M 0 [(0, .ref (g.2.1 0)), (1, .int p1), (2, .int p2)] []
  unfold f_X6_couple at h
  refine cj_aload_n hC dX6_couple_0 rfl 0 rfl ?_
  refine cj_iload_n hC dX6_couple_1 rfl 1 rfl ?_
  obtain ⟨x1, e1, h⟩ := cb_l h
  refine cj_callVi (As := [.int p1]) hC cv_X6_109 cx_l0_ (cx_e0 g _) rfl (c_X6_isNoCouple l g p1 M e1.symm) (by decide) rfl rfl (Nat.le_of_ble_eq_true rfl) dX6_couple_2 ?_
  refine cj_if_ne (tgt := 16) hC dX6_couple_5 (by decide) (fun c1 => ?_) (fun c1 => ?_)
  · replace h := cb_F c1 h
    refine cj_bipush (v := (-2)) hC dX6_couple_16 rfl ?_
    obtain rfl := Option.some.inj h
    exact cj_iret hC dX6_couple_18
  · replace h := cb_T c1 h
    refine cj_iload_n hC dX6_couple_8 rfl 2 rfl ?_
    refine cj_iconst (v := 3) hC dX6_couple_9 rfl ?_
    obtain ⟨x2, e2, h⟩ := cb_l h
    refine cj_callSi (As := [.int p2, .int 3]) hC cs_X6_77 (c_X6_isOff l g p2 3 M e2.symm) (by decide) rfl rfl (Nat.le_of_ble_eq_true rfl) dX6_couple_10 ?_
    refine cj_if_eq (tgt := 19) hC dX6_couple_13 (by decide) (fun c2 => ?_) (fun c2 => ?_)
    · replace h := cb_T c2 h
      refine cj_iload_n hC dX6_couple_19 rfl 2 rfl ?_
      refine cj_if_ne (tgt := 35) hC dX6_couple_20 (by decide) (fun c3 => ?_) (fun c3 => ?_)
      · replace h := cb_F c3 h
        refine cj_iload_n hC dX6_couple_35 rfl 2 rfl ?_
        refine cj_iconst (v := 1) hC dX6_couple_36 rfl ?_
        refine cj_icmp_ne (tgt := 54) hC dX6_couple_37 (by decide) (fun c4 => ?_) (fun c4 => ?_)
        · replace h := cb_F c4 h
          refine cj_aload_n hC dX6_couple_54 rfl 0 rfl ?_
          refine cj_get (v := .ref (g.2.1 1)) hC fa_X6_16 cx_l0_ (cx_e0 g _) rfl dX6_couple_55 ?_
          refine cj_iconst (v := 1) hC dX6_couple_58 rfl ?_
          refine cj_aald (t0 := 1) (a := g.2.1 31) hC cx_l1_ (cx_e1 g _) rfl rfl (cb_in_iff.mp (by decide)) rfl dX6_couple_59 ?_
          refine cj_get (v := .ref (g.2.1 41)) hC fa_X6_112 (by decide) (cx_text (show 1 < 2 by decide) g _) rfl dX6_couple_60 ?_
          refine cj_iload_n hC dX6_couple_63 rfl 1 rfl ?_
          obtain ⟨i1, h⟩ := cb_g h
          refine cj_iald hC (by decide) (cx_tlens (show 1 < 2 by decide) g _) (cx_t0 g) i1 dX6_couple_64 ?_
          obtain rfl := Option.some.inj h
          exact cj_iret hC dX6_couple_65
        · replace h := cb_T c4 h
          refine cj_aload_n hC dX6_couple_40 rfl 0 rfl ?_
          refine cj_get (v := .ref (g.2.1 1)) hC fa_X6_16 cx_l0_ (cx_e0 g _) rfl dX6_couple_41 ?_
          refine cj_iconst (v := 1) hC dX6_couple_44 rfl ?_
          refine cj_aald (t0 := 1) (a := g.2.1 31) hC cx_l1_ (cx_e1 g _) rfl rfl (cb_in_iff.mp (by decide)) rfl dX6_couple_45 ?_
          refine cj_get (v := .ref (g.2.1 39)) hC fa_X6_106 (by decide) (cx_text (show 1 < 2 by decide) g _) rfl dX6_couple_46 ?_
          refine cj_iload_n hC dX6_couple_49 rfl 1 rfl ?_
          obtain ⟨i2, h⟩ := cb_g h
          refine cj_iald hC (by decide) (cx_tdays (show 1 < 2 by decide) g _) (cx_t0 g) i2 dX6_couple_50 ?_
          refine cj_goto (tgt := 65) hC dX6_couple_51 (by decide) ?_
          obtain rfl := Option.some.inj h
          exact cj_iret hC dX6_couple_65
      · replace h := cb_T c3 h
        refine cj_aload_n hC dX6_couple_23 rfl 0 rfl ?_
        refine cj_get (v := .ref (g.2.1 1)) hC fa_X6_16 cx_l0_ (cx_e0 g _) rfl dX6_couple_24 ?_
        refine cj_iconst (v := 1) hC dX6_couple_27 rfl ?_
        refine cj_aald (t0 := 1) (a := g.2.1 31) hC cx_l1_ (cx_e1 g _) rfl rfl (cb_in_iff.mp (by decide)) rfl dX6_couple_28 ?_
        refine cj_get (v := .ref (g.2.1 37)) hC fa_X6_102 (by decide) (cx_text (show 1 < 2 by decide) g _) rfl dX6_couple_29 ?_
        refine cj_iload_n hC dX6_couple_32 rfl 1 rfl ?_
        obtain ⟨i3, h⟩ := cb_g h
        refine cj_iald hC (by decide) (cx_tkinds (show 1 < 2 by decide) g _) (cx_t0 g) i3 dX6_couple_33 ?_
        obtain rfl := Option.some.inj h
        exact cj_iret hC dX6_couple_34
    · replace h := cb_F c2 h
      refine cj_bipush (v := (-2)) hC dX6_couple_16 rfl ?_
      obtain rfl := Option.some.inj h
      exact cj_iret hC dX6_couple_18
def f_X6_weather (p1 : Int32) (p2 : Int32) (M : cb_Mem) : Option (Int32 × cb_Mem) :=
  cb_let (f_X6_isOff p1 2) fun x1 =>
  if x1 = 0 then
  cb_let (if p1 = 0 then
  (30 : Int32)
  else
  (40 : Int32)) fun x2 =>
  cb_let (f_X6_isOff p2 x2) fun x3 =>
  if x3 = 0 then
  if p1 = 0 then
  cb_bind2 (f_X2_add 8 12 6 p2 M) fun x5 M2 =>
  some (x5, M2)
  else
  cb_bind2 (f_X2_add 9 13 6 p2 M) fun x4 M1 =>
  some (x4, M1)
  else
  some (((-2) : Int32), M)
  else
  some (((-2) : Int32), M)
set_option maxRecDepth 100000 in
set_option maxHeartbeats 4000000 in
theorem c_X6_weather (l : Launch) (g : cb_Geo) (p1 : Int32) (p2 : Int32) (M : cb_Mem) {rr : Int32} {Mr : cb_Mem} (h : f_X6_weather p1 p2 M = some (rr, Mr)) : Met l yX6_weather (.code yX6_weather cX6_weather 3 (some .int) :: cb_ws) (cb_rm 1) (cb_Pc cx g [.ref (g.2.1 0), .int p1, .int p2] M) (cb_Qi cx g rr Mr) 0 0 (cb_A cx g) := by
  refine cb_met (by decide) wd_487 (Nat.le_of_ble_eq_true rfl) (fun γ hC => ?_)
  replace hC : cb_C cx g γ RX6 cX6_weather 3 (some .int) 1 l (cb_Qi cx g rr Mr) := hC
  show cb_J cx g γ 3 M 0 [(0, .ref (g.2.1 0)), (1, .int p1), (2, .int p2)] []
  unfold f_X6_weather at h
  refine cj_iload_n hC dX6_weather_0 rfl 1 rfl ?_
  refine cj_iconst (v := 2) hC dX6_weather_1 rfl ?_
  obtain ⟨x1, e1, h⟩ := cb_l h
  refine cj_callSi (As := [.int p1, .int 2]) hC cs_X6_77 (c_X6_isOff l g p1 2 M e1.symm) (by decide) rfl rfl (Nat.le_of_ble_eq_true rfl) dX6_weather_2 ?_
  refine cj_if_ne (tgt := 26) hC dX6_weather_5 (by decide) (fun c1 => ?_) (fun c1 => ?_)
  · replace h := cb_F c1 h
    refine cj_bipush (v := (-2)) hC dX6_weather_26 rfl ?_
    obtain ⟨rfl, rfl⟩ := cb_i2 h
    exact cj_iret hC dX6_weather_28
  · replace h := cb_T c1 h
    refine cj_iload_n hC dX6_weather_8 rfl 2 rfl ?_
    refine cj_iload_n hC dX6_weather_9 rfl 1 rfl ?_
    obtain ⟨x2, hx1, h⟩ := cb_l h
    replace hx1 := hx1.symm
    have hj1 : cb_J cx g γ 3 M 20 [(0, .ref (g.2.1 0)), (1, .int p1), (2, .int p2)] [.int x2, .int p2] := by
      obtain ⟨x3, e2, h⟩ := cb_l h
      refine cj_callSi (As := [.int p2, .int x2]) hC cs_X6_77 (c_X6_isOff l g p2 x2 M e2.symm) (by decide) rfl rfl (Nat.le_of_ble_eq_true rfl) dX6_weather_20 ?_
      refine cj_if_eq (tgt := 29) hC dX6_weather_23 (by decide) (fun c3 => ?_) (fun c3 => ?_)
      · replace h := cb_T c3 h
        refine cj_iload_n hC dX6_weather_29 rfl 1 rfl ?_
        refine cj_if_ne (tgt := 44) hC dX6_weather_30 (by decide) (fun c4 => ?_) (fun c4 => ?_)
        · replace h := cb_F c4 h
          refine cj_aload_n hC dX6_weather_44 rfl 0 rfl ?_
          refine cj_get (v := .ref (g.2.1 9)) hC fa_X6_31 cx_l0_ (cx_e0 g _) rfl dX6_weather_45 ?_
          refine cj_iload_n hC dX6_weather_48 rfl 2 rfl ?_
          obtain ⟨x4, M1, e3, h⟩ := cb_b2 h
          refine cj_callVi (As := [.int p2]) hC cv_X6_115 (cx_lt cx_row9.1) (cx_row9.2.2.1 g _) rfl (c_X2_add l g 9 13 6 cx_row9 p2 M e3) (by decide) rfl rfl (Nat.le_of_ble_eq_true rfl) dX6_weather_49 ?_
          obtain ⟨rfl, rfl⟩ := cb_i2 h
          exact cj_iret hC dX6_weather_52
        · replace h := cb_T c4 h
          refine cj_aload_n hC dX6_weather_33 rfl 0 rfl ?_
          refine cj_get (v := .ref (g.2.1 8)) hC fa_X6_27 cx_l0_ (cx_e0 g _) rfl dX6_weather_34 ?_
          refine cj_iload_n hC dX6_weather_37 rfl 2 rfl ?_
          obtain ⟨x5, M2, e4, h⟩ := cb_b2 h
          refine cj_callVi (As := [.int p2]) hC cv_X6_115 (cx_lt cx_row8.1) (cx_row8.2.2.1 g _) rfl (c_X2_add l g 8 12 6 cx_row8 p2 M e4) (by decide) rfl rfl (Nat.le_of_ble_eq_true rfl) dX6_weather_38 ?_
          refine cj_goto (tgt := 52) hC dX6_weather_41 (by decide) ?_
          obtain ⟨rfl, rfl⟩ := cb_i2 h
          exact cj_iret hC dX6_weather_52
      · replace h := cb_F c3 h
        refine cj_bipush (v := (-2)) hC dX6_weather_26 rfl ?_
        obtain ⟨rfl, rfl⟩ := cb_i2 h
        exact cj_iret hC dX6_weather_28
    refine cj_if_ne (tgt := 18) hC dX6_weather_10 (by decide) (fun c2 => ?_) (fun c2 => ?_)
    · replace hx1 := cb_F c2 hx1
      refine cj_bipush (v := 40) hC dX6_weather_18 rfl ?_
      obtain rfl := hx1
      exact cj_pick [0, 1, 2] rfl hj1
    · replace hx1 := cb_T c2 hx1
      refine cj_bipush (v := 30) hC dX6_weather_13 rfl ?_
      refine cj_goto (tgt := 20) hC dX6_weather_15 (by decide) ?_
      obtain rfl := hx1
      exact cj_pick [0, 1, 2] rfl hj1
def f_X6_rabbit (p1 : Int32) (p2 : Int32) (M : cb_Mem) : Option (Int32 × cb_Mem) :=
  cb_let (f_X6_isOff p1 40) fun x1 =>
  if x1 = 0 then
  cb_let (f_X6_isOff p2 8) fun x2 =>
  if x2 = 0 then
  cb_let (f_X0_forgetAll  M) fun M1 =>
  cb_bind2 (f_X2_add 10 14 8 ((p1 * 8) + p2) M1) fun x3 M2 =>
  some (x3, M2)
  else
  some (((-2) : Int32), M)
  else
  some (((-2) : Int32), M)
set_option maxRecDepth 100000 in
set_option maxHeartbeats 4000000 in
theorem c_X6_rabbit (l : Launch) (g : cb_Geo) (p1 : Int32) (p2 : Int32) (M : cb_Mem) {rr : Int32} {Mr : cb_Mem} (h : f_X6_rabbit p1 p2 M = some (rr, Mr)) : Met l yX6_rabbit (.code yX6_rabbit cX6_rabbit 3 (some .int) :: cb_ws) (cb_rm 1) (cb_Pc cx g [.ref (g.2.1 0), .int p1, .int p2] M) (cb_Qi cx g rr Mr) 0 0 (cb_A cx g) := by
  refine cb_met (by decide) wd_492 (Nat.le_of_ble_eq_true rfl) (fun γ hC => ?_)
  replace hC : cb_C cx g γ RX6 cX6_rabbit 3 (some .int) 1 l (cb_Qi cx g rr Mr) := hC
  show cb_J cx g γ 3 M 0 [(0, .ref (g.2.1 0)), (1, .int p1), (2, .int p2)] []
  unfold f_X6_rabbit at h
  refine cj_iload_n hC dX6_rabbit_0 rfl 1 rfl ?_
  refine cj_bipush (v := 40) hC dX6_rabbit_1 rfl ?_
  obtain ⟨x1, e1, h⟩ := cb_l h
  refine cj_callSi (As := [.int p1, .int 40]) hC cs_X6_77 (c_X6_isOff l g p1 40 M e1.symm) (by decide) rfl rfl (Nat.le_of_ble_eq_true rfl) dX6_rabbit_3 ?_
  refine cj_if_ne (tgt := 18) hC dX6_rabbit_6 (by decide) (fun c1 => ?_) (fun c1 => ?_)
  · replace h := cb_F c1 h
    refine cj_bipush (v := (-2)) hC dX6_rabbit_18 rfl ?_
    obtain ⟨rfl, rfl⟩ := cb_i2 h
    exact cj_iret hC dX6_rabbit_20
  · replace h := cb_T c1 h
    refine cj_iload_n hC dX6_rabbit_9 rfl 2 rfl ?_
    refine cj_bipush (v := 8) hC dX6_rabbit_10 rfl ?_
    obtain ⟨x2, e2, h⟩ := cb_l h
    refine cj_callSi (As := [.int p2, .int 8]) hC cs_X6_77 (c_X6_isOff l g p2 8 M e2.symm) (by decide) rfl rfl (Nat.le_of_ble_eq_true rfl) dX6_rabbit_12 ?_
    refine cj_if_eq (tgt := 21) hC dX6_rabbit_15 (by decide) (fun c2 => ?_) (fun c2 => ?_)
    · replace h := cb_T c2 h
      refine cj_aload_n hC dX6_rabbit_21 rfl 0 rfl ?_
      refine cj_get (v := .ref (g.2.1 5)) hC fa_X6_64 cx_l0_ (cx_e0 g _) rfl dX6_rabbit_22 ?_
      obtain ⟨M1, e3, h⟩ := cb_l h
      refine cj_callVv (As := []) hC cv_X6_81 cx_l5_ (cx_e5 g _) rfl (c_X0_forgetAll l g  M e3.symm) (by decide) rfl rfl (Nat.le_of_ble_eq_true rfl) dX6_rabbit_25 ?_
      refine cj_aload_n hC dX6_rabbit_28 rfl 0 rfl ?_
      refine cj_get (v := .ref (g.2.1 10)) hC fa_X6_34 cx_l0_ (cx_e0 g _) rfl dX6_rabbit_29 ?_
      refine cj_iload_n hC dX6_rabbit_32 rfl 1 rfl ?_
      refine cj_bipush (v := 8) hC dX6_rabbit_33 rfl ?_
      refine cj_imul hC dX6_rabbit_35 ?_
      refine cj_iload_n hC dX6_rabbit_36 rfl 2 rfl ?_
      refine cj_iadd hC dX6_rabbit_37 ?_
      obtain ⟨x3, M2, e4, h⟩ := cb_b2 h
      refine cj_callVi (As := [.int ((p1 * 8) + p2)]) hC cv_X6_115 (cx_lt cx_row10.1) (cx_row10.2.2.1 g _) rfl (c_X2_add l g 10 14 8 cx_row10 ((p1 * 8) + p2) M1 e4) (by decide) rfl rfl (Nat.le_of_ble_eq_true rfl) dX6_rabbit_38 ?_
      obtain ⟨rfl, rfl⟩ := cb_i2 h
      exact cj_iret hC dX6_rabbit_41
    · replace h := cb_F c2 h
      refine cj_bipush (v := (-2)) hC dX6_rabbit_18 rfl ?_
      obtain ⟨rfl, rfl⟩ := cb_i2 h
      exact cj_iret hC dX6_rabbit_20
def f_X6_back (p1 : Int32) (M : cb_Mem) : Int32 × cb_Mem :=
  cb_let (f_X6_isOff p1 3) fun x1 =>
  if x1 = 0 then
  if p1 = 0 then
  cb_let2 (f_X2_dropLast 8 12 6 M) fun x4 M4 =>
  (x4, M4)
  else
  if p1 = 1 then
  cb_let2 (f_X2_dropLast 9 13 6 M) fun x3 M3 =>
  (x3, M3)
  else
  cb_let (f_X0_forgetAll  M) fun M1 =>
  cb_let2 (f_X2_dropLast 10 14 8 M1) fun x2 M2 =>
  (x2, M2)
  else
  (((-2) : Int32), M)
set_option maxRecDepth 100000 in
set_option maxHeartbeats 4000000 in
theorem c_X6_back (l : Launch) (g : cb_Geo) (p1 : Int32) (M : cb_Mem) {rr : Int32} {Mr : cb_Mem} (h : f_X6_back p1 M = (rr, Mr)) : Met l yX6_back (.code yX6_back cX6_back 2 (some .int) :: cb_ws) (cb_rm 1) (cb_Pc cx g [.ref (g.2.1 0), .int p1] M) (cb_Qi cx g rr Mr) 0 0 (cb_A cx g) := by
  refine cb_met (by decide) wd_496 (Nat.le_of_ble_eq_true rfl) (fun γ hC => ?_)
  replace hC : cb_C cx g γ RX6 cX6_back 2 (some .int) 1 l (cb_Qi cx g rr Mr) := hC
  show cb_J cx g γ 2 M 0 [(0, .ref (g.2.1 0)), (1, .int p1)] []
  unfold f_X6_back at h
  refine cj_iload_n hC dX6_back_0 rfl 1 rfl ?_
  refine cj_iconst (v := 3) hC dX6_back_1 rfl ?_
  obtain ⟨x1, e1, h⟩ := cb_l h
  refine cj_callSi (As := [.int p1, .int 3]) hC cs_X6_77 (c_X6_isOff l g p1 3 M e1.symm) (by decide) rfl rfl (Nat.le_of_ble_eq_true rfl) dX6_back_2 ?_
  refine cj_if_eq (tgt := 11) hC dX6_back_5 (by decide) (fun c1 => ?_) (fun c1 => ?_)
  · replace h := cb_T c1 h
    refine cj_iload_n hC dX6_back_11 rfl 1 rfl ?_
    refine cj_if_ne (tgt := 23) hC dX6_back_12 (by decide) (fun c2 => ?_) (fun c2 => ?_)
    · replace h := cb_F c2 h
      refine cj_iload_n hC dX6_back_23 rfl 1 rfl ?_
      refine cj_iconst (v := 1) hC dX6_back_24 rfl ?_
      refine cj_icmp_ne (tgt := 36) hC dX6_back_25 (by decide) (fun c3 => ?_) (fun c3 => ?_)
      · replace h := cb_F c3 h
        refine cj_aload_n hC dX6_back_36 rfl 0 rfl ?_
        refine cj_get (v := .ref (g.2.1 5)) hC fa_X6_64 cx_l0_ (cx_e0 g _) rfl dX6_back_37 ?_
        obtain ⟨M1, e2, h⟩ := cb_l h
        refine cj_callVv (As := []) hC cv_X6_81 cx_l5_ (cx_e5 g _) rfl (c_X0_forgetAll l g  M e2.symm) (by decide) rfl rfl (Nat.le_of_ble_eq_true rfl) dX6_back_40 ?_
        refine cj_aload_n hC dX6_back_43 rfl 0 rfl ?_
        refine cj_get (v := .ref (g.2.1 10)) hC fa_X6_34 cx_l0_ (cx_e0 g _) rfl dX6_back_44 ?_
        obtain ⟨x2, M2, e3, h⟩ := cb_l2 h
        refine cj_callVi (As := []) hC cv_X6_118 (cx_lt cx_row10.1) (cx_row10.2.2.1 g _) rfl (c_X2_dropLast l g 10 14 8 cx_row10 M1 e3.symm) (by decide) rfl rfl (Nat.le_of_ble_eq_true rfl) dX6_back_47 ?_
        obtain ⟨rfl, rfl⟩ := cb_p2 h
        exact cj_iret hC dX6_back_50
      · replace h := cb_T c3 h
        refine cj_aload_n hC dX6_back_28 rfl 0 rfl ?_
        refine cj_get (v := .ref (g.2.1 9)) hC fa_X6_31 cx_l0_ (cx_e0 g _) rfl dX6_back_29 ?_
        obtain ⟨x3, M3, e4, h⟩ := cb_l2 h
        refine cj_callVi (As := []) hC cv_X6_118 (cx_lt cx_row9.1) (cx_row9.2.2.1 g _) rfl (c_X2_dropLast l g 9 13 6 cx_row9 M e4.symm) (by decide) rfl rfl (Nat.le_of_ble_eq_true rfl) dX6_back_32 ?_
        obtain ⟨rfl, rfl⟩ := cb_p2 h
        exact cj_iret hC dX6_back_35
    · replace h := cb_T c2 h
      refine cj_aload_n hC dX6_back_15 rfl 0 rfl ?_
      refine cj_get (v := .ref (g.2.1 8)) hC fa_X6_27 cx_l0_ (cx_e0 g _) rfl dX6_back_16 ?_
      obtain ⟨x4, M4, e5, h⟩ := cb_l2 h
      refine cj_callVi (As := []) hC cv_X6_118 (cx_lt cx_row8.1) (cx_row8.2.2.1 g _) rfl (c_X2_dropLast l g 8 12 6 cx_row8 M e5.symm) (by decide) rfl rfl (Nat.le_of_ble_eq_true rfl) dX6_back_19 ?_
      obtain ⟨rfl, rfl⟩ := cb_p2 h
      exact cj_iret hC dX6_back_22
  · replace h := cb_F c1 h
    refine cj_bipush (v := (-2)) hC dX6_back_8 rfl ?_
    obtain ⟨rfl, rfl⟩ := cb_p2 h
    exact cj_iret hC dX6_back_10
def f_X6_read_L36 : Nat → Nat → Int32 → Int32 → cb_Mem → Option ((Int32 × cb_Mem) ⊕ (Int32 × cb_Mem))
    | 0, _, _, _, _ => none
    | n + 1, j2, v3, v4, M =>
      if (M (42 + j2) 2) ≤ (v4 + 1) then
      some (Sum.inr (v3, M))
      else
      (f_X3_itemAt j2 v4 M).bind fun x1 =>
      (f_X3_itemAt j2 (v4 + 1) M).bind fun x2 =>
      cb_bind2 (f_X6_rabbit x1 x2 M) fun x3 M1 =>
      if 0 ≤ x3 then
      f_X6_read_L36 n j2 (v3 + 1) (v4 + 2) M1
      else
      some (Sum.inl (v3, M1))
def f_X6_read (p1 : Int32) (M : cb_Mem) : Option (Int32 × cb_Mem) :=
  cb_let (f_X6_isOff p1 4) fun x1 =>
  if x1 = 0 then
  if cb_in p1 4 = true then
  cb_let (f_X3_isLost p1.toNatClampNeg M) fun x2 =>
  if x2 = 0 then
  cb_bs2 (f_X6_read_L36 cb_fuel p1.toNatClampNeg 0 0 M) (fun r => some r) fun x3 M1 =>
  some (x3, M1)
  else
  cb_let2 (f_X6_found 1 M) fun x4 M2 =>
  some (x4, M2)
  else none
  else
  some (((-2) : Int32), M)
set_option maxRecDepth 100000 in
set_option maxHeartbeats 4000000 in
theorem l_X6_read_L36 {l : Launch} {g : cb_Geo} {γ : cb_Gam} {rr : Int32} {Mr : cb_Mem} (hC : cb_C cx g γ RX6 cX6_read 5 (some .int) 2 l (cb_Qi cx g rr Mr)) (j2 : Nat) (hj2_ : j2 < 4) : ∀ (n : Nat) (v3 : Int32) (v4 : Int32) (M : cb_Mem) (o : ((Int32 × cb_Mem) ⊕ (Int32 × cb_Mem))), f_X6_read_L36 n j2 v3 v4 M = some o → (∀ (u : Int32) (U : cb_Mem), o = Sum.inl (u, U) → u = rr ∧ U = Mr) → (∀ (v3' : Int32) (M' : cb_Mem), o = Sum.inr (v3', M') → cb_J cx g γ 5 M' 79 [(3, .int v3')] []) → cb_J cx g γ 5 M 36 [(0, .ref (g.2.1 0)), (2, .ref (g.2.1 (42 + j2))), (3, .int v3), (4, .int v4)] [] := by
  intro n
  induction n with
  | zero =>
    intro v3 v4 M o h
    cases h
  | succ n ih =>
    intro v3 v4 M o h hret hexit
    unfold f_X6_read_L36 at h
    refine cj_iload hC dX6_read_36 3 rfl ?_
    refine cj_iconst (v := 1) hC dX6_read_38 rfl ?_
    refine cj_iadd hC dX6_read_39 ?_
    refine cj_aload_n hC dX6_read_40 rfl 1 rfl ?_
    refine cj_get (v := .int (M (42 + j2) 2)) hC fa_X6_126 (cx_l4 hj2_ (by decide)) (cx_sheet hj2_ g _) rfl dX6_read_41 ?_
    refine cj_icmp_ge (tgt := 79) hC dX6_read_44 (by decide) (fun c1 => ?_) (fun c1 => ?_)
    · replace h := cb_T c1 h
      obtain rfl := Option.some.inj h
      exact cj_pick [2] rfl (hexit _ _ rfl)
    · replace h := cb_F c1 h
      refine cj_aload_n hC dX6_read_47 rfl 0 rfl ?_
      refine cj_aload_n hC dX6_read_48 rfl 1 rfl ?_
      refine cj_iload hC dX6_read_49 3 rfl ?_
      obtain ⟨x1, e1, h⟩ := cb_b h
      refine cj_callVi (As := [.int v4]) hC cv_X6_129 (cx_l4 hj2_ (by decide)) (cx_sheet hj2_ g _) rfl (c_X3_itemAt l g j2 hj2_ v4 M e1) (by decide) rfl rfl (Nat.le_of_ble_eq_true rfl) dX6_read_51 ?_
      refine cj_aload_n hC dX6_read_54 rfl 1 rfl ?_
      refine cj_iload hC dX6_read_55 3 rfl ?_
      refine cj_iconst (v := 1) hC dX6_read_57 rfl ?_
      refine cj_iadd hC dX6_read_58 ?_
      obtain ⟨x2, e2, h⟩ := cb_b h
      refine cj_callVi (As := [.int (v4 + 1)]) hC cv_X6_129 (cx_l4 hj2_ (by decide)) (cx_sheet hj2_ g _) rfl (c_X3_itemAt l g j2 hj2_ (v4 + 1) M e2) (by decide) rfl rfl (Nat.le_of_ble_eq_true rfl) dX6_read_59 ?_
      obtain ⟨x3, M1, e3, h⟩ := cb_b2 h
      refine cj_callVi (As := [.int x1, .int x2]) hC cv_X6_132 cx_l0_ (cx_e0 g _) rfl (c_X6_rabbit l g x1 x2 M e3) (by decide) rfl rfl (Nat.le_of_ble_eq_true rfl) dX6_read_62 ?_
      refine cj_if_ge (tgt := 70) hC dX6_read_65 (by decide) (fun c2 => ?_) (fun c2 => ?_)
      · replace h := cb_T c2 h
        refine cj_iinc (lv' := [(3, .int (v3 + 1)), (0, .ref (g.2.1 0)), (2, .ref (g.2.1 (42 + j2))), (4, .int v4)]) hC dX6_read_70 (q := 2) rfl rfl (by decide) rfl ?_
        refine cj_iinc (lv' := [(4, .int (v4 + 2)), (3, .int (v3 + 1)), (0, .ref (g.2.1 0)), (2, .ref (g.2.1 (42 + j2)))]) hC dX6_read_73 (q := 3) rfl rfl (by decide) rfl ?_
        refine cj_goto (tgt := 36) hC dX6_read_76 (by decide) ?_
        exact cj_pick [2, 3, 1, 0] rfl (ih _ _ _ _ h hret hexit)
      · replace h := cb_F c2 h
        refine cj_iload_n hC dX6_read_68 rfl 2 rfl ?_
        obtain rfl := Option.some.inj h
        obtain ⟨rfl, rfl⟩ := hret _ _ rfl
        exact cj_iret hC dX6_read_69
set_option maxRecDepth 100000 in
set_option maxHeartbeats 4000000 in
theorem c_X6_read (l : Launch) (g : cb_Geo) (p1 : Int32) (M : cb_Mem) {rr : Int32} {Mr : cb_Mem} (h : f_X6_read p1 M = some (rr, Mr)) : Met l yX6_read (.code yX6_read cX6_read 5 (some .int) :: cb_ws) (cb_rm 2) (cb_Pc cx g [.ref (g.2.1 0), .int p1] M) (cb_Qi cx g rr Mr) 0 0 (cb_A cx g) := by
  refine cb_met (by decide) wd_501 (Nat.le_of_ble_eq_true rfl) (fun γ hC => ?_)
  replace hC : cb_C cx g γ RX6 cX6_read 5 (some .int) 2 l (cb_Qi cx g rr Mr) := hC
  show cb_J cx g γ 5 M 0 [(0, .ref (g.2.1 0)), (1, .int p1)] []
  unfold f_X6_read at h
  refine cj_iload_n hC dX6_read_0 rfl 1 rfl ?_
  refine cj_iconst (v := 4) hC dX6_read_1 rfl ?_
  obtain ⟨x1, e1, h⟩ := cb_l h
  refine cj_callSi (As := [.int p1, .int 4]) hC cs_X6_77 (c_X6_isOff l g p1 4 M e1.symm) (by decide) rfl rfl (Nat.le_of_ble_eq_true rfl) dX6_read_2 ?_
  refine cj_if_eq (tgt := 11) hC dX6_read_5 (by decide) (fun c1 => ?_) (fun c1 => ?_)
  · replace h := cb_T c1 h
    refine cj_aload_n hC dX6_read_11 rfl 0 rfl ?_
    refine cj_get (v := .ref (g.2.1 2)) hC fa_X6_43 cx_l0_ (cx_e0 g _) rfl dX6_read_12 ?_
    refine cj_iload_n hC dX6_read_15 rfl 1 rfl ?_
    obtain ⟨i1, h⟩ := cb_g h
    refine cj_aald (t0 := 2) (a := g.2.1 (42 + p1.toNatClampNeg)) hC cx_l2_ (cx_e2 g _) rfl rfl i1 rfl dX6_read_16 ?_
    refine cj_astore_n (lv' := [(2, .ref (g.2.1 (42 + p1.toNatClampNeg))), (0, .ref (g.2.1 0)), (1, .int p1)]) hC dX6_read_17 rfl (by decide) rfl ?_
    refine cj_aload_n hC dX6_read_18 rfl 0 rfl ?_
    obtain ⟨x2, e2, h⟩ := cb_l h
    refine cj_callVi (As := []) hC cv_X6_119 (cx_l4 (vp_lt i1) (by decide)) (cx_sheet (vp_lt i1) g _) rfl (c_X3_isLost l g p1.toNatClampNeg (vp_lt i1) M e2.symm) (by decide) rfl rfl (Nat.le_of_ble_eq_true rfl) dX6_read_19 ?_
    refine cj_if_eq (tgt := 31) hC dX6_read_22 (by decide) (fun c2 => ?_) (fun c2 => ?_)
    · replace h := cb_T c2 h
      refine cj_iconst (v := 0) hC dX6_read_31 rfl ?_
      refine cj_istore_n (lv' := [(3, .int 0), (2, .ref (g.2.1 (42 + p1.toNatClampNeg))), (0, .ref (g.2.1 0)), (1, .int p1)]) hC dX6_read_32 rfl (by decide) rfl ?_
      refine cj_iconst (v := 0) hC dX6_read_33 rfl ?_
      refine cj_istore (lv' := [(4, .int 0), (3, .int 0), (2, .ref (g.2.1 (42 + p1.toNatClampNeg))), (0, .ref (g.2.1 0)), (1, .int p1)]) hC dX6_read_34 (by decide) rfl ?_
      obtain ⟨z1, e3, hr1, hk1⟩ := cb_s2 h
      refine cj_pick [3, 2, 1, 0] rfl ?_
      refine l_X6_read_L36 hC p1.toNatClampNeg (vp_lt i1) cb_fuel _ _ _ _ e3 (fun u U hz => Prod.mk.inj (Option.some.inj (hr1 _ hz))) (fun x3 M1 hz => ?_)
      replace h := hk1 x3 M1 hz
      refine cj_iload_n hC dX6_read_79 rfl 0 rfl ?_
      obtain ⟨rfl, rfl⟩ := cb_i2 h
      exact cj_iret hC dX6_read_80
    · replace h := cb_F c2 h
      refine cj_aload_n hC dX6_read_25 rfl 1 rfl ?_
      refine cj_iconst (v := 1) hC dX6_read_26 rfl ?_
      obtain ⟨x4, M2, e4, h⟩ := cb_l2 h
      refine cj_callVi (As := [.int 1]) hC cv_X6_123 cx_l0_ (cx_e0 g _) rfl (c_X6_found l g 1 M e4.symm) (by decide) rfl rfl (Nat.le_of_ble_eq_true rfl) dX6_read_27 ?_
      obtain ⟨rfl, rfl⟩ := cb_i2 h
      exact cj_iret hC dX6_read_30
  · replace h := cb_F c1 h
    refine cj_bipush (v := (-2)) hC dX6_read_8 rfl ?_
    obtain ⟨rfl, rfl⟩ := cb_i2 h
    exact cj_iret hC dX6_read_10
def f_X6_state (p1 : Int32) (p2 : Int32) (M : cb_Mem) : Option (Int32 × cb_Mem) :=
  cb_let (f_X6_isOff p1 40) fun x1 =>
  if x1 = 0 then
  cb_let (f_X6_isNoHead p2 M) fun x2 =>
  if x2 = 0 then
  (f_X6_walkAsItIs  M).bind fun M1 =>
  (f_X5_stateOf p1 p2 M1).bind fun x3 =>
  some (x3, M1)
  else
  some (((-2) : Int32), M)
  else
  some (((-2) : Int32), M)
set_option maxRecDepth 100000 in
set_option maxHeartbeats 4000000 in
theorem c_X6_state (l : Launch) (g : cb_Geo) (p1 : Int32) (p2 : Int32) (M : cb_Mem) {rr : Int32} {Mr : cb_Mem} (h : f_X6_state p1 p2 M = some (rr, Mr)) : Met l yX6_state (.code yX6_state cX6_state 3 (some .int) :: cb_ws) (cb_rm 4) (cb_Pc cx g [.ref (g.2.1 0), .int p1, .int p2] M) (cb_Qi cx g rr Mr) 0 0 (cb_A cx g) := by
  refine cb_met (by decide) wd_519 (Nat.le_of_ble_eq_true rfl) (fun γ hC => ?_)
  replace hC : cb_C cx g γ RX6 cX6_state 3 (some .int) 4 l (cb_Qi cx g rr Mr) := hC
  show cb_J cx g γ 3 M 0 [(0, .ref (g.2.1 0)), (1, .int p1), (2, .int p2)] []
  unfold f_X6_state at h
  refine cj_iload_n hC dX6_state_0 rfl 1 rfl ?_
  refine cj_bipush (v := 40) hC dX6_state_1 rfl ?_
  obtain ⟨x1, e1, h⟩ := cb_l h
  refine cj_callSi (As := [.int p1, .int 40]) hC cs_X6_77 (c_X6_isOff l g p1 40 M e1.symm) (by decide) rfl rfl (Nat.le_of_ble_eq_true rfl) dX6_state_3 ?_
  refine cj_if_ne (tgt := 17) hC dX6_state_6 (by decide) (fun c1 => ?_) (fun c1 => ?_)
  · replace h := cb_F c1 h
    refine cj_bipush (v := (-2)) hC dX6_state_17 rfl ?_
    obtain ⟨rfl, rfl⟩ := cb_i2 h
    exact cj_iret hC dX6_state_19
  · replace h := cb_T c1 h
    refine cj_aload_n hC dX6_state_9 rfl 0 rfl ?_
    refine cj_iload_n hC dX6_state_10 rfl 2 rfl ?_
    obtain ⟨x2, e2, h⟩ := cb_l h
    refine cj_callVi (As := [.int p2]) hC cv_X6_98 cx_l0_ (cx_e0 g _) rfl (c_X6_isNoHead l g p2 M e2.symm) (by decide) rfl rfl (Nat.le_of_ble_eq_true rfl) dX6_state_11 ?_
    refine cj_if_eq (tgt := 20) hC dX6_state_14 (by decide) (fun c2 => ?_) (fun c2 => ?_)
    · replace h := cb_T c2 h
      refine cj_aload_n hC dX6_state_20 rfl 0 rfl ?_
      obtain ⟨M1, e3, h⟩ := cb_b h
      refine cj_callVv (As := []) hC cv_X6_136 cx_l0_ (cx_e0 g _) rfl (c_X6_walkAsItIs l g  M e3) (by decide) rfl rfl (Nat.le_of_ble_eq_true rfl) dX6_state_21 ?_
      refine cj_aload_n hC dX6_state_24 rfl 0 rfl ?_
      refine cj_get (v := .ref (g.2.1 4)) hC fa_X6_57 cx_l0_ (cx_e0 g _) rfl dX6_state_25 ?_
      refine cj_aload_n hC dX6_state_28 rfl 0 rfl ?_
      refine cj_get (v := .ref (g.2.1 3)) hC fa_X6_50 cx_l0_ (cx_e0 g _) rfl dX6_state_29 ?_
      refine cj_iload_n hC dX6_state_32 rfl 1 rfl ?_
      refine cj_iload_n hC dX6_state_33 rfl 2 rfl ?_
      obtain ⟨x3, e4, h⟩ := cb_b h
      refine cj_callVi (As := [.ref (g.2.1 3), .int p1, .int p2]) hC cv_X6_139 cx_l4_ (cx_e4 g _) rfl (c_X5_stateOf l g p1 p2 M1 e4) (by decide) rfl rfl (Nat.le_of_ble_eq_true rfl) dX6_state_34 ?_
      obtain ⟨rfl, rfl⟩ := cb_i2 h
      exact cj_iret hC dX6_state_37
    · replace h := cb_F c2 h
      refine cj_bipush (v := (-2)) hC dX6_state_17 rfl ?_
      obtain ⟨rfl, rfl⟩ := cb_i2 h
      exact cj_iret hC dX6_state_19
def f_X6_lifted (p1 : Int32) (p2 : Int32) (M : cb_Mem) : Option (Int32 × cb_Mem) :=
  cb_let (f_X6_isNoHead p1 M) fun x1 =>
  if x1 = 0 then
  cb_let (f_X6_isOff p2 3) fun x2 =>
  if x2 = 0 then
  (f_X6_walkAsItIs  M).bind fun M1 =>
  if p2 = 0 then
  if cb_in p1 8 = true then
  some ((M1 22 p1.toNatClampNeg), M1)
  else none
  else
  (f_X5_lifterOf p1 M1).bind fun x3 =>
  cb_let (fun (_ : Unit) =>
  some (x3, M1)) fun k1 =>
  if p2 = 1 then
  k1 ()
  else
  if x3 = (-1) then
  k1 ()
  else
  if cb_in x3 8 = true then
  some ((M1 25 x3.toNatClampNeg), M1)
  else none
  else
  some (((-2) : Int32), M)
  else
  some (((-2) : Int32), M)
set_option maxRecDepth 100000 in
set_option maxHeartbeats 4000000 in
theorem c_X6_lifted (l : Launch) (g : cb_Geo) (p1 : Int32) (p2 : Int32) (M : cb_Mem) {rr : Int32} {Mr : cb_Mem} (h : f_X6_lifted p1 p2 M = some (rr, Mr)) : Met l yX6_lifted (.code yX6_lifted cX6_lifted 4 (some .int) :: cb_ws) (cb_rm 4) (cb_Pc cx g [.ref (g.2.1 0), .int p1, .int p2] M) (cb_Qi cx g rr Mr) 0 0 (cb_A cx g) := by
  refine cb_met (by decide) wd_600 (Nat.le_of_ble_eq_true rfl) (fun γ hC => ?_)
  replace hC : cb_C cx g γ RX6 cX6_lifted 4 (some .int) 4 l (cb_Qi cx g rr Mr) := hC
  show cb_J cx g γ 4 M 0 [(0, .ref (g.2.1 0)), (1, .int p1), (2, .int p2)] []
  unfold f_X6_lifted at h
  refine cj_aload_n hC dX6_lifted_0 rfl 0 rfl ?_
  refine cj_iload_n hC dX6_lifted_1 rfl 1 rfl ?_
  obtain ⟨x1, e1, h⟩ := cb_l h
  refine cj_callVi (As := [.int p1]) hC cv_X6_98 cx_l0_ (cx_e0 g _) rfl (c_X6_isNoHead l g p1 M e1.symm) (by decide) rfl rfl (Nat.le_of_ble_eq_true rfl) dX6_lifted_2 ?_
  refine cj_if_ne (tgt := 16) hC dX6_lifted_5 (by decide) (fun c1 => ?_) (fun c1 => ?_)
  · replace h := cb_F c1 h
    refine cj_bipush (v := (-2)) hC dX6_lifted_16 rfl ?_
    obtain ⟨rfl, rfl⟩ := cb_i2 h
    exact cj_iret hC dX6_lifted_18
  · replace h := cb_T c1 h
    refine cj_iload_n hC dX6_lifted_8 rfl 2 rfl ?_
    refine cj_iconst (v := 3) hC dX6_lifted_9 rfl ?_
    obtain ⟨x2, e2, h⟩ := cb_l h
    refine cj_callSi (As := [.int p2, .int 3]) hC cs_X6_77 (c_X6_isOff l g p2 3 M e2.symm) (by decide) rfl rfl (Nat.le_of_ble_eq_true rfl) dX6_lifted_10 ?_
    refine cj_if_eq (tgt := 19) hC dX6_lifted_13 (by decide) (fun c2 => ?_) (fun c2 => ?_)
    · replace h := cb_T c2 h
      refine cj_aload_n hC dX6_lifted_19 rfl 0 rfl ?_
      obtain ⟨M1, e3, h⟩ := cb_b h
      refine cj_callVv (As := []) hC cv_X6_136 cx_l0_ (cx_e0 g _) rfl (c_X6_walkAsItIs l g  M e3) (by decide) rfl rfl (Nat.le_of_ble_eq_true rfl) dX6_lifted_20 ?_
      refine cj_iload_n hC dX6_lifted_23 rfl 2 rfl ?_
      refine cj_if_ne (tgt := 37) hC dX6_lifted_24 (by decide) (fun c3 => ?_) (fun c3 => ?_)
      · replace h := cb_F c3 h
        refine cj_aload_n hC dX6_lifted_37 rfl 0 rfl ?_
        refine cj_get (v := .ref (g.2.1 4)) hC fa_X6_57 cx_l0_ (cx_e0 g _) rfl dX6_lifted_38 ?_
        refine cj_iload_n hC dX6_lifted_41 rfl 1 rfl ?_
        obtain ⟨x3, e4, h⟩ := cb_b h
        refine cj_callVi (As := [.int p1]) hC cv_X6_146 cx_l4_ (cx_e4 g _) rfl (c_X5_lifterOf l g p1 M1 e4) (by decide) rfl rfl (Nat.le_of_ble_eq_true rfl) dX6_lifted_42 ?_
        refine cj_istore_n (lv' := [(3, .int x3), (0, .ref (g.2.1 0)), (1, .int p1), (2, .int p2)]) hC dX6_lifted_45 rfl (by decide) rfl ?_
        refine cj_iload_n hC dX6_lifted_46 rfl 3 rfl ?_
        refine cj_iconst (v := 1) hC dX6_lifted_47 rfl ?_
        obtain ⟨k1, ek1, h⟩ := cb_l h
        have hk1 : ∀ (u9 : Unit), k1 u9 = some (rr, Mr) → cb_J cx g γ 4 M1 56 [(3, .int x3)] [] := by
          intro u9 h
          replace h := cb_k1 ek1 h
          refine cj_iload_n hC dX6_lifted_56 rfl 0 rfl ?_
          refine cj_goto (tgt := 69) hC dX6_lifted_57 (by decide) ?_
          obtain ⟨rfl, rfl⟩ := cb_i2 h
          exact cj_iret hC dX6_lifted_69
        refine cj_icmp_eq (tgt := 56) hC dX6_lifted_48 (by decide) (fun c4 => ?_) (fun c4 => ?_)
        · replace h := cb_T c4 h
          exact cj_pick [0] rfl (hk1 _ h)
        · replace h := cb_F c4 h
          refine cj_iload_n hC dX6_lifted_51 rfl 0 rfl ?_
          refine cj_iconst (v := (-1)) hC dX6_lifted_52 rfl ?_
          refine cj_icmp_ne (tgt := 60) hC dX6_lifted_53 (by decide) (fun c5 => ?_) (fun c5 => ?_)
          · replace h := cb_F c5 h
            refine cj_aload_n hC dX6_lifted_60 rfl 1 rfl ?_
            refine cj_get (v := .ref (g.2.1 4)) hC fa_X6_57 cx_l0_ (cx_e0 g _) rfl dX6_lifted_61 ?_
            refine cj_get (v := .ref (g.2.1 25)) hC fa_X6_149 cx_l4_ (cx_e4 g _) rfl dX6_lifted_64 ?_
            refine cj_iload_n hC dX6_lifted_67 rfl 0 rfl ?_
            obtain ⟨i1, h⟩ := cb_g h
            refine cj_iald hC cx_l25_ (cx_e25 g _) (cx_t0 g) i1 dX6_lifted_68 ?_
            obtain ⟨rfl, rfl⟩ := cb_i2 h
            exact cj_iret hC dX6_lifted_69
          · replace h := cb_T c5 h
            exact cj_pick [0] rfl (hk1 _ h)
      · replace h := cb_T c3 h
        refine cj_aload_n hC dX6_lifted_27 rfl 0 rfl ?_
        refine cj_get (v := .ref (g.2.1 4)) hC fa_X6_57 cx_l0_ (cx_e0 g _) rfl dX6_lifted_28 ?_
        refine cj_get (v := .ref (g.2.1 22)) hC fa_X6_143 cx_l4_ (cx_e4 g _) rfl dX6_lifted_31 ?_
        refine cj_iload_n hC dX6_lifted_34 rfl 1 rfl ?_
        obtain ⟨i2, h⟩ := cb_g h
        refine cj_iald hC cx_l22_ (cx_e22 g _) (cx_t0 g) i2 dX6_lifted_35 ?_
        obtain ⟨rfl, rfl⟩ := cb_i2 h
        exact cj_iret hC dX6_lifted_36
    · replace h := cb_F c2 h
      refine cj_bipush (v := (-2)) hC dX6_lifted_16 rfl ?_
      obtain ⟨rfl, rfl⟩ := cb_i2 h
      exact cj_iret hC dX6_lifted_18
def f_X6_gets (p1 : Int32) (p2 : Int32) (M : cb_Mem) : Option (Int32 × cb_Mem) :=
  cb_let (f_X6_isNoCouple p1 M) fun x1 =>
  if x1 = 0 then
  cb_let (f_X6_isOff p2 3) fun x2 =>
  if x2 = 0 then
  (f_X6_walkAsItIs  M).bind fun M1 =>
  if p2 = 0 then
  if cb_in p1 8 = true then
  some ((M1 24 p1.toNatClampNeg), M1)
  else none
  else
  if p2 = 1 then
  if cb_in p1 8 = true then
  some ((M1 25 p1.toNatClampNeg), M1)
  else none
  else
  (f_X6_childrenOf p1 M1).bind fun x3 =>
  some (x3, M1)
  else
  some (((-2) : Int32), M)
  else
  some (((-2) : Int32), M)
set_option maxRecDepth 100000 in
set_option maxHeartbeats 4000000 in
theorem c_X6_gets (l : Launch) (g : cb_Geo) (p1 : Int32) (p2 : Int32) (M : cb_Mem) {rr : Int32} {Mr : cb_Mem} (h : f_X6_gets p1 p2 M = some (rr, Mr)) : Met l yX6_gets (.code yX6_gets cX6_gets 3 (some .int) :: cb_ws) (cb_rm 4) (cb_Pc cx g [.ref (g.2.1 0), .int p1, .int p2] M) (cb_Qi cx g rr Mr) 0 0 (cb_A cx g) := by
  refine cb_met (by decide) wd_605 (Nat.le_of_ble_eq_true rfl) (fun γ hC => ?_)
  replace hC : cb_C cx g γ RX6 cX6_gets 3 (some .int) 4 l (cb_Qi cx g rr Mr) := hC
  show cb_J cx g γ 3 M 0 [(0, .ref (g.2.1 0)), (1, .int p1), (2, .int p2)] []
  unfold f_X6_gets at h
  refine cj_aload_n hC dX6_gets_0 rfl 0 rfl ?_
  refine cj_iload_n hC dX6_gets_1 rfl 1 rfl ?_
  obtain ⟨x1, e1, h⟩ := cb_l h
  refine cj_callVi (As := [.int p1]) hC cv_X6_109 cx_l0_ (cx_e0 g _) rfl (c_X6_isNoCouple l g p1 M e1.symm) (by decide) rfl rfl (Nat.le_of_ble_eq_true rfl) dX6_gets_2 ?_
  refine cj_if_ne (tgt := 16) hC dX6_gets_5 (by decide) (fun c1 => ?_) (fun c1 => ?_)
  · replace h := cb_F c1 h
    refine cj_bipush (v := (-2)) hC dX6_gets_16 rfl ?_
    obtain ⟨rfl, rfl⟩ := cb_i2 h
    exact cj_iret hC dX6_gets_18
  · replace h := cb_T c1 h
    refine cj_iload_n hC dX6_gets_8 rfl 2 rfl ?_
    refine cj_iconst (v := 3) hC dX6_gets_9 rfl ?_
    obtain ⟨x2, e2, h⟩ := cb_l h
    refine cj_callSi (As := [.int p2, .int 3]) hC cs_X6_77 (c_X6_isOff l g p2 3 M e2.symm) (by decide) rfl rfl (Nat.le_of_ble_eq_true rfl) dX6_gets_10 ?_
    refine cj_if_eq (tgt := 19) hC dX6_gets_13 (by decide) (fun c2 => ?_) (fun c2 => ?_)
    · replace h := cb_T c2 h
      refine cj_aload_n hC dX6_gets_19 rfl 0 rfl ?_
      obtain ⟨M1, e3, h⟩ := cb_b h
      refine cj_callVv (As := []) hC cv_X6_136 cx_l0_ (cx_e0 g _) rfl (c_X6_walkAsItIs l g  M e3) (by decide) rfl rfl (Nat.le_of_ble_eq_true rfl) dX6_gets_20 ?_
      refine cj_iload_n hC dX6_gets_23 rfl 2 rfl ?_
      refine cj_if_ne (tgt := 37) hC dX6_gets_24 (by decide) (fun c3 => ?_) (fun c3 => ?_)
      · replace h := cb_F c3 h
        refine cj_iload_n hC dX6_gets_37 rfl 2 rfl ?_
        refine cj_iconst (v := 1) hC dX6_gets_38 rfl ?_
        refine cj_icmp_ne (tgt := 54) hC dX6_gets_39 (by decide) (fun c4 => ?_) (fun c4 => ?_)
        · replace h := cb_F c4 h
          refine cj_aload_n hC dX6_gets_54 rfl 0 rfl ?_
          refine cj_iload_n hC dX6_gets_55 rfl 1 rfl ?_
          obtain ⟨x3, e4, h⟩ := cb_b h
          refine cj_callVi (As := [.int p1]) hC cv_X6_155 cx_l0_ (cx_e0 g _) rfl (c_X6_childrenOf l g p1 M1 e4) (by decide) rfl rfl (Nat.le_of_ble_eq_true rfl) dX6_gets_56 ?_
          obtain ⟨rfl, rfl⟩ := cb_i2 h
          exact cj_iret hC dX6_gets_59
        · replace h := cb_T c4 h
          refine cj_aload_n hC dX6_gets_42 rfl 0 rfl ?_
          refine cj_get (v := .ref (g.2.1 4)) hC fa_X6_57 cx_l0_ (cx_e0 g _) rfl dX6_gets_43 ?_
          refine cj_get (v := .ref (g.2.1 25)) hC fa_X6_149 cx_l4_ (cx_e4 g _) rfl dX6_gets_46 ?_
          refine cj_iload_n hC dX6_gets_49 rfl 1 rfl ?_
          obtain ⟨i1, h⟩ := cb_g h
          refine cj_iald hC cx_l25_ (cx_e25 g _) (cx_t0 g) i1 dX6_gets_50 ?_
          refine cj_goto (tgt := 59) hC dX6_gets_51 (by decide) ?_
          obtain ⟨rfl, rfl⟩ := cb_i2 h
          exact cj_iret hC dX6_gets_59
      · replace h := cb_T c3 h
        refine cj_aload_n hC dX6_gets_27 rfl 0 rfl ?_
        refine cj_get (v := .ref (g.2.1 4)) hC fa_X6_57 cx_l0_ (cx_e0 g _) rfl dX6_gets_28 ?_
        refine cj_get (v := .ref (g.2.1 24)) hC fa_X6_152 cx_l4_ (cx_e4 g _) rfl dX6_gets_31 ?_
        refine cj_iload_n hC dX6_gets_34 rfl 1 rfl ?_
        obtain ⟨i2, h⟩ := cb_g h
        refine cj_iald hC cx_l24_ (cx_e24 g _) (cx_t0 g) i2 dX6_gets_35 ?_
        obtain ⟨rfl, rfl⟩ := cb_i2 h
        exact cj_iret hC dX6_gets_36
    · replace h := cb_F c2 h
      refine cj_bipush (v := (-2)) hC dX6_gets_16 rfl ?_
      obtain ⟨rfl, rfl⟩ := cb_i2 h
      exact cj_iret hC dX6_gets_18
def f_X6_children (p1 : Int32) (M : cb_Mem) : Option (Int32 × cb_Mem) :=
  cb_let (f_X6_isOff p1 40) fun x1 =>
  if x1 = 0 then
  (f_X6_walkAsItIs  M).bind fun M1 =>
  (f_X6_childrenBehind p1 M1).bind fun x2 =>
  some (x2, M1)
  else
  some (((-2) : Int32), M)
set_option maxRecDepth 100000 in
set_option maxHeartbeats 4000000 in
theorem c_X6_children (l : Launch) (g : cb_Geo) (p1 : Int32) (M : cb_Mem) {rr : Int32} {Mr : cb_Mem} (h : f_X6_children p1 M = some (rr, Mr)) : Met l yX6_children (.code yX6_children cX6_children 2 (some .int) :: cb_ws) (cb_rm 4) (cb_Pc cx g [.ref (g.2.1 0), .int p1] M) (cb_Qi cx g rr Mr) 0 0 (cb_A cx g) := by
  refine cb_met (by decide) wd_614 (Nat.le_of_ble_eq_true rfl) (fun γ hC => ?_)
  replace hC : cb_C cx g γ RX6 cX6_children 2 (some .int) 4 l (cb_Qi cx g rr Mr) := hC
  show cb_J cx g γ 2 M 0 [(0, .ref (g.2.1 0)), (1, .int p1)] []
  unfold f_X6_children at h
  refine cj_iload_n hC dX6_children_0 rfl 1 rfl ?_
  refine cj_bipush (v := 40) hC dX6_children_1 rfl ?_
  obtain ⟨x1, e1, h⟩ := cb_l h
  refine cj_callSi (As := [.int p1, .int 40]) hC cs_X6_77 (c_X6_isOff l g p1 40 M e1.symm) (by decide) rfl rfl (Nat.le_of_ble_eq_true rfl) dX6_children_3 ?_
  refine cj_if_eq (tgt := 12) hC dX6_children_6 (by decide) (fun c1 => ?_) (fun c1 => ?_)
  · replace h := cb_T c1 h
    refine cj_aload_n hC dX6_children_12 rfl 0 rfl ?_
    obtain ⟨M1, e2, h⟩ := cb_b h
    refine cj_callVv (As := []) hC cv_X6_136 cx_l0_ (cx_e0 g _) rfl (c_X6_walkAsItIs l g  M e2) (by decide) rfl rfl (Nat.le_of_ble_eq_true rfl) dX6_children_13 ?_
    refine cj_aload_n hC dX6_children_16 rfl 0 rfl ?_
    refine cj_iload_n hC dX6_children_17 rfl 1 rfl ?_
    obtain ⟨x2, e3, h⟩ := cb_b h
    refine cj_callVi (As := [.int p1]) hC cv_X6_158 cx_l0_ (cx_e0 g _) rfl (c_X6_childrenBehind l g p1 M1 e3) (by decide) rfl rfl (Nat.le_of_ble_eq_true rfl) dX6_children_18 ?_
    obtain ⟨rfl, rfl⟩ := cb_i2 h
    exact cj_iret hC dX6_children_21
  · replace h := cb_F c1 h
    refine cj_bipush (v := (-2)) hC dX6_children_9 rfl ?_
    obtain ⟨rfl, rfl⟩ := cb_i2 h
    exact cj_iret hC dX6_children_11
def f_X6_without  (M : cb_Mem) : Option (Int32 × cb_Mem) :=
  (f_X6_walkAsItIs  M).bind fun M1 =>
  some ((((M1 4 9) ^^^ (-1)) &&& (((1 : Int32) <<< ((M1 3 7) &&& 31)) - 1)), M1)
set_option maxRecDepth 100000 in
set_option maxHeartbeats 4000000 in
theorem c_X6_without (l : Launch) (g : cb_Geo)  (M : cb_Mem) {rr : Int32} {Mr : cb_Mem} (h : f_X6_without  M = some (rr, Mr)) : Met l yX6_without (.code yX6_without cX6_without 1 (some .int) :: cb_ws) (cb_rm 4) (cb_Pc cx g [.ref (g.2.1 0)] M) (cb_Qi cx g rr Mr) 0 0 (cb_A cx g) := by
  refine cb_met (by decide) wd_622 (Nat.le_of_ble_eq_true rfl) (fun γ hC => ?_)
  replace hC : cb_C cx g γ RX6 cX6_without 1 (some .int) 4 l (cb_Qi cx g rr Mr) := hC
  show cb_J cx g γ 1 M 0 [(0, .ref (g.2.1 0))] []
  unfold f_X6_without at h
  refine cj_aload_n hC dX6_without_0 rfl 0 rfl ?_
  obtain ⟨M1, e1, h⟩ := cb_b h
  refine cj_callVv (As := []) hC cv_X6_136 cx_l0_ (cx_e0 g _) rfl (c_X6_walkAsItIs l g  M e1) (by decide) rfl rfl (Nat.le_of_ble_eq_true rfl) dX6_without_1 ?_
  refine cj_aload_n hC dX6_without_4 rfl 0 rfl ?_
  refine cj_get (v := .ref (g.2.1 4)) hC fa_X6_57 cx_l0_ (cx_e0 g _) rfl dX6_without_5 ?_
  refine cj_get (v := .int (M1 4 9)) hC fa_X6_161 cx_l4_ (cx_e4 g _) rfl dX6_without_8 ?_
  refine cj_iconst (v := (-1)) hC dX6_without_11 rfl ?_
  refine cj_ixor hC dX6_without_12 ?_
  refine cj_iconst (v := 1) hC dX6_without_13 rfl ?_
  refine cj_aload_n hC dX6_without_14 rfl 0 rfl ?_
  refine cj_get (v := .ref (g.2.1 3)) hC fa_X6_50 cx_l0_ (cx_e0 g _) rfl dX6_without_15 ?_
  refine cj_get (v := .int (M1 3 7)) hC fa_X6_164 cx_l3_ (cx_e3 g _) rfl dX6_without_18 ?_
  refine cj_ishl hC dX6_without_21 ?_
  refine cj_iconst (v := 1) hC dX6_without_22 rfl ?_
  refine cj_isub hC dX6_without_23 ?_
  refine cj_iand hC dX6_without_24 ?_
  obtain ⟨rfl, rfl⟩ := cb_i2 h
  exact cj_iret hC dX6_without_25
def f_X6_turn (p1 : Int32) (M : cb_Mem) : Option (Int32 × cb_Mem) :=
  cb_let (f_X6_isOff p1 2) fun x1 =>
  if x1 = 0 then
  (f_X6_walkAsItIs  M).bind fun M1 =>
  (f_X5_firstOutOfTurn  M1).bind fun x2 =>
  cb_let (fun (_ : Unit) =>
  some (x2, M1)) fun k1 =>
  if p1 = 0 then
  k1 ()
  else
  if x2 = (-1) then
  k1 ()
  else
  if cb_in x2 8 = true then
  some ((M1 25 x2.toNatClampNeg), M1)
  else none
  else
  some (((-2) : Int32), M)
set_option maxRecDepth 100000 in
set_option maxHeartbeats 4000000 in
theorem c_X6_turn (l : Launch) (g : cb_Geo) (p1 : Int32) (M : cb_Mem) {rr : Int32} {Mr : cb_Mem} (h : f_X6_turn p1 M = some (rr, Mr)) : Met l yX6_turn (.code yX6_turn cX6_turn 3 (some .int) :: cb_ws) (cb_rm 4) (cb_Pc cx g [.ref (g.2.1 0), .int p1] M) (cb_Qi cx g rr Mr) 0 0 (cb_A cx g) := by
  refine cb_met (by decide) wd_626 (Nat.le_of_ble_eq_true rfl) (fun γ hC => ?_)
  replace hC : cb_C cx g γ RX6 cX6_turn 3 (some .int) 4 l (cb_Qi cx g rr Mr) := hC
  show cb_J cx g γ 3 M 0 [(0, .ref (g.2.1 0)), (1, .int p1)] []
  unfold f_X6_turn at h
  refine cj_iload_n hC dX6_turn_0 rfl 1 rfl ?_
  refine cj_iconst (v := 2) hC dX6_turn_1 rfl ?_
  obtain ⟨x1, e1, h⟩ := cb_l h
  refine cj_callSi (As := [.int p1, .int 2]) hC cs_X6_77 (c_X6_isOff l g p1 2 M e1.symm) (by decide) rfl rfl (Nat.le_of_ble_eq_true rfl) dX6_turn_2 ?_
  refine cj_if_eq (tgt := 11) hC dX6_turn_5 (by decide) (fun c1 => ?_) (fun c1 => ?_)
  · replace h := cb_T c1 h
    refine cj_aload_n hC dX6_turn_11 rfl 0 rfl ?_
    obtain ⟨M1, e2, h⟩ := cb_b h
    refine cj_callVv (As := []) hC cv_X6_136 cx_l0_ (cx_e0 g _) rfl (c_X6_walkAsItIs l g  M e2) (by decide) rfl rfl (Nat.le_of_ble_eq_true rfl) dX6_turn_12 ?_
    refine cj_aload_n hC dX6_turn_15 rfl 0 rfl ?_
    refine cj_get (v := .ref (g.2.1 4)) hC fa_X6_57 cx_l0_ (cx_e0 g _) rfl dX6_turn_16 ?_
    refine cj_aload_n hC dX6_turn_19 rfl 0 rfl ?_
    refine cj_get (v := .ref (g.2.1 3)) hC fa_X6_50 cx_l0_ (cx_e0 g _) rfl dX6_turn_20 ?_
    obtain ⟨x2, e3, h⟩ := cb_b h
    refine cj_callVi (As := [.ref (g.2.1 3)]) hC cv_X6_167 cx_l4_ (cx_e4 g _) rfl (c_X5_firstOutOfTurn l g  M1 e3) (by decide) rfl rfl (Nat.le_of_ble_eq_true rfl) dX6_turn_23 ?_
    refine cj_istore_n (lv' := [(2, .int x2), (0, .ref (g.2.1 0)), (1, .int p1)]) hC dX6_turn_26 rfl (by decide) rfl ?_
    refine cj_iload_n hC dX6_turn_27 rfl 2 rfl ?_
    obtain ⟨k1, ek1, h⟩ := cb_l h
    have hk1 : ∀ (u9 : Unit), k1 u9 = some (rr, Mr) → cb_J cx g γ 3 M1 36 [(2, .int x2)] [] := by
      intro u9 h
      replace h := cb_k1 ek1 h
      refine cj_iload_n hC dX6_turn_36 rfl 0 rfl ?_
      refine cj_goto (tgt := 49) hC dX6_turn_37 (by decide) ?_
      obtain ⟨rfl, rfl⟩ := cb_i2 h
      exact cj_iret hC dX6_turn_49
    refine cj_if_eq (tgt := 36) hC dX6_turn_28 (by decide) (fun c2 => ?_) (fun c2 => ?_)
    · replace h := cb_T c2 h
      exact cj_pick [0] rfl (hk1 _ h)
    · replace h := cb_F c2 h
      refine cj_iload_n hC dX6_turn_31 rfl 0 rfl ?_
      refine cj_iconst (v := (-1)) hC dX6_turn_32 rfl ?_
      refine cj_icmp_ne (tgt := 40) hC dX6_turn_33 (by decide) (fun c3 => ?_) (fun c3 => ?_)
      · replace h := cb_F c3 h
        refine cj_aload_n hC dX6_turn_40 rfl 1 rfl ?_
        refine cj_get (v := .ref (g.2.1 4)) hC fa_X6_57 cx_l0_ (cx_e0 g _) rfl dX6_turn_41 ?_
        refine cj_get (v := .ref (g.2.1 25)) hC fa_X6_149 cx_l4_ (cx_e4 g _) rfl dX6_turn_44 ?_
        refine cj_iload_n hC dX6_turn_47 rfl 0 rfl ?_
        obtain ⟨i1, h⟩ := cb_g h
        refine cj_iald hC cx_l25_ (cx_e25 g _) (cx_t0 g) i1 dX6_turn_48 ?_
        obtain ⟨rfl, rfl⟩ := cb_i2 h
        exact cj_iret hC dX6_turn_49
      · replace h := cb_T c3 h
        exact cj_pick [0] rfl (hk1 _ h)
  · replace h := cb_F c1 h
    refine cj_bipush (v := (-2)) hC dX6_turn_8 rfl ?_
    obtain ⟨rfl, rfl⟩ := cb_i2 h
    exact cj_iret hC dX6_turn_10
def f_X6_met_L14 : Nat → Int32 → Int32 → cb_Mem → Option (Int32)
    | 0, _, _, _ => none
    | n + 1, v1, v2, M =>
      if ((1 : Int32) <<< ((M 3 7) &&& 31)) ≤ v2 then
      some v1
      else
      cb_let (f_J6_bitCount_0f7a4 v2) fun x1 =>
      cb_let (((M 3 7) - x1)) fun x2 =>
      (f_X6_headsFor v2 M).bind fun x3 =>
      cb_let (f_J6_bitCount_0f7a4 x3) fun x4 =>
      cb_let ((cb_min v1 (x2 + x4))) fun x5 =>
      f_X6_met_L14 n x5 (v2 + 1) M
def f_X6_met  (M : cb_Mem) : Option (Int32 × cb_Mem) :=
  (f_X6_walkAsItIs  M).bind fun M1 =>
  cb_let ((M1 3 7)) fun x1 =>
  (f_X6_met_L14 cb_fuel x1 0 M1).bind fun x2 =>
  some (x2, M1)
set_option maxRecDepth 100000 in
set_option maxHeartbeats 4000000 in
theorem l_X6_met_L14 {l : Launch} {g : cb_Geo} {γ : cb_Gam} {rr : Int32} {Mr : cb_Mem} (hC : cb_C cx g γ RX6 cX6_met 4 (some .int) 4 l (cb_Qi cx g rr Mr)) (M : cb_Mem) : ∀ (n : Nat) (v1 : Int32) (v2 : Int32) (o : (Int32)), f_X6_met_L14 n v1 v2 M = some o → (∀ (v1' : Int32), o = v1' → cb_J cx g γ 4 M 61 [(1, .int v1')] []) → cb_J cx g γ 4 M 14 [(0, .ref (g.2.1 0)), (1, .int v1), (2, .int v2)] [] := by
  intro n
  induction n with
  | zero =>
    intro v1 v2 o h
    cases h
  | succ n ih =>
    intro v1 v2 o h hexit
    unfold f_X6_met_L14 at h
    refine cj_iload_n hC dX6_met_14 rfl 2 rfl ?_
    refine cj_iconst (v := 1) hC dX6_met_15 rfl ?_
    refine cj_aload_n hC dX6_met_16 rfl 0 rfl ?_
    refine cj_get (v := .ref (g.2.1 3)) hC fa_X6_50 cx_l0_ (cx_e0 g _) rfl dX6_met_17 ?_
    refine cj_get (v := .int (M 3 7)) hC fa_X6_164 cx_l3_ (cx_e3 g _) rfl dX6_met_20 ?_
    refine cj_ishl hC dX6_met_23 ?_
    refine cj_icmp_ge (tgt := 61) hC dX6_met_24 (by decide) (fun c1 => ?_) (fun c1 => ?_)
    · replace h := cb_T c1 h
      obtain rfl := Option.some.inj h
      exact cj_pick [1] rfl (hexit _ rfl)
    · replace h := cb_F c1 h
      refine cj_aload_n hC dX6_met_27 rfl 0 rfl ?_
      refine cj_get (v := .ref (g.2.1 3)) hC fa_X6_50 cx_l0_ (cx_e0 g _) rfl dX6_met_28 ?_
      refine cj_get (v := .int (M 3 7)) hC fa_X6_164 cx_l3_ (cx_e3 g _) rfl dX6_met_31 ?_
      refine cj_iload_n hC dX6_met_34 rfl 2 rfl ?_
      obtain ⟨x1, e1, h⟩ := cb_l h
      refine cj_callSi (As := [.int v2]) hC cs_X6_171 (c_J6_bitCount_0f7a4 l g v2 M e1.symm) (by decide) rfl rfl (Nat.le_of_ble_eq_true rfl) dX6_met_35 ?_
      refine cj_isub hC dX6_met_38 ?_
      obtain ⟨x2, ex2, h⟩ := cb_l h
      refine cj_topi ex2 ?_
      refine cj_istore_n (lv' := [(3, .int x2), (0, .ref (g.2.1 0)), (1, .int v1), (2, .int v2)]) hC dX6_met_39 rfl (by decide) rfl ?_
      refine cj_iload_n hC dX6_met_40 rfl 2 rfl ?_
      refine cj_iload_n hC dX6_met_41 rfl 0 rfl ?_
      refine cj_aload_n hC dX6_met_42 rfl 1 rfl ?_
      refine cj_iload_n hC dX6_met_43 rfl 3 rfl ?_
      obtain ⟨x3, e2, h⟩ := cb_b h
      refine cj_callVi (As := [.int v2]) hC cv_X6_176 cx_l0_ (cx_e0 g _) rfl (c_X6_headsFor l g v2 M e2) (by decide) rfl rfl (Nat.le_of_ble_eq_true rfl) dX6_met_44 ?_
      obtain ⟨x4, e3, h⟩ := cb_l h
      refine cj_callSi (As := [.int x3]) hC cs_X6_171 (c_J6_bitCount_0f7a4 l g x3 M e3.symm) (by decide) rfl rfl (Nat.le_of_ble_eq_true rfl) dX6_met_47 ?_
      refine cj_iadd hC dX6_met_50 ?_
      refine cj_min hC wd_661 wd_382 wd_68 wd_383 (by decide) (Nat.le_of_ble_eq_true rfl) dX6_met_51 ?_
      obtain ⟨x5, ex5, h⟩ := cb_l h
      refine cj_topi ex5 ?_
      refine cj_istore_n (lv' := [(1, .int x5), (3, .int x2), (0, .ref (g.2.1 0)), (2, .int v2)]) hC dX6_met_54 rfl (by decide) rfl ?_
      refine cj_iinc (lv' := [(2, .int (v2 + 1)), (1, .int x5), (3, .int x2), (0, .ref (g.2.1 0))]) hC dX6_met_55 (q := 3) rfl rfl (by decide) rfl ?_
      refine cj_goto (tgt := 14) hC dX6_met_58 (by decide) ?_
      exact cj_pick [3, 1, 0] rfl (ih _ _ _ h hexit)
set_option maxRecDepth 100000 in
set_option maxHeartbeats 4000000 in
theorem c_X6_met (l : Launch) (g : cb_Geo)  (M : cb_Mem) {rr : Int32} {Mr : cb_Mem} (h : f_X6_met  M = some (rr, Mr)) : Met l yX6_met (.code yX6_met cX6_met 4 (some .int) :: cb_ws) (cb_rm 4) (cb_Pc cx g [.ref (g.2.1 0)] M) (cb_Qi cx g rr Mr) 0 0 (cb_A cx g) := by
  refine cb_met (by decide) wd_650 (Nat.le_of_ble_eq_true rfl) (fun γ hC => ?_)
  replace hC : cb_C cx g γ RX6 cX6_met 4 (some .int) 4 l (cb_Qi cx g rr Mr) := hC
  show cb_J cx g γ 4 M 0 [(0, .ref (g.2.1 0))] []
  unfold f_X6_met at h
  refine cj_aload_n hC dX6_met_0 rfl 0 rfl ?_
  obtain ⟨M1, e1, h⟩ := cb_b h
  refine cj_callVv (As := []) hC cv_X6_136 cx_l0_ (cx_e0 g _) rfl (c_X6_walkAsItIs l g  M e1) (by decide) rfl rfl (Nat.le_of_ble_eq_true rfl) dX6_met_1 ?_
  refine cj_aload_n hC dX6_met_4 rfl 0 rfl ?_
  refine cj_get (v := .ref (g.2.1 3)) hC fa_X6_50 cx_l0_ (cx_e0 g _) rfl dX6_met_5 ?_
  refine cj_get (v := .int (M1 3 7)) hC fa_X6_164 cx_l3_ (cx_e3 g _) rfl dX6_met_8 ?_
  obtain ⟨x1, ex1, h⟩ := cb_l h
  refine cj_topi ex1 ?_
  refine cj_istore_n (lv' := [(1, .int x1), (0, .ref (g.2.1 0))]) hC dX6_met_11 rfl (by decide) rfl ?_
  refine cj_iconst (v := 0) hC dX6_met_12 rfl ?_
  refine cj_istore_n (lv' := [(2, .int 0), (1, .int x1), (0, .ref (g.2.1 0))]) hC dX6_met_13 rfl (by decide) rfl ?_
  obtain ⟨x2, e2, h⟩ := cb_b h
  refine cj_pick [2, 1, 0] rfl ?_
  refine l_X6_met_L14 hC M1 cb_fuel _ _ _ e2 (fun ze2 hz => ?_)
  obtain rfl := hz
  refine cj_iload_n hC dX6_met_61 rfl 0 rfl ?_
  obtain ⟨rfl, rfl⟩ := cb_i2 h
  exact cj_iret hC dX6_met_62
def f_X6_keep (p1 : Int32) (p2 : Int32) (M : cb_Mem) : Option (Int32 × cb_Mem) :=
  cb_let (f_X6_isNoCouple p1 M) fun x1 =>
  if x1 = 0 then
  if p2 < (-1) then
  some (((-2) : Int32), M)
  else
  if p2 ≤ 1 then
  (f_X6_layOut  M).bind fun M1 =>
  cb_bind2 (f_X6_fewestKeptOff p1 M1) fun x2 M2 =>
  if x2 = (-1) then
  some (((-1) : Int32), M2)
  else
  if p2 = (-1) then
  cb_let (f_J6_bitCount_0f7a4 x2) fun x5 =>
  some (x5, M2)
  else
  if p2 = 0 then
  (f_X6_leastBit x2).bind fun x4 =>
  some (x4, M2)
  else
  (f_X6_leastBit (x2 &&& (x2 - 1))).bind fun x3 =>
  some (x3, M2)
  else
  some (((-2) : Int32), M)
  else
  some (((-2) : Int32), M)
set_option maxRecDepth 100000 in
set_option maxHeartbeats 4000000 in
theorem c_X6_keep (l : Launch) (g : cb_Geo) (p1 : Int32) (p2 : Int32) (M : cb_Mem) {rr : Int32} {Mr : cb_Mem} (h : f_X6_keep p1 p2 M = some (rr, Mr)) : Met l yX6_keep (.code yX6_keep cX6_keep 4 (some .int) :: cb_ws) (cb_rm 4) (cb_Pc cx g [.ref (g.2.1 0), .int p1, .int p2] M) (cb_Qi cx g rr Mr) 0 0 (cb_A cx g) := by
  refine cb_met (by decide) wd_665 (Nat.le_of_ble_eq_true rfl) (fun γ hC => ?_)
  replace hC : cb_C cx g γ RX6 cX6_keep 4 (some .int) 4 l (cb_Qi cx g rr Mr) := hC
  show cb_J cx g γ 4 M 0 [(0, .ref (g.2.1 0)), (1, .int p1), (2, .int p2)] []
  unfold f_X6_keep at h
  refine cj_aload_n hC dX6_keep_0 rfl 0 rfl ?_
  refine cj_iload_n hC dX6_keep_1 rfl 1 rfl ?_
  obtain ⟨x1, e1, h⟩ := cb_l h
  refine cj_callVi (As := [.int p1]) hC cv_X6_109 cx_l0_ (cx_e0 g _) rfl (c_X6_isNoCouple l g p1 M e1.symm) (by decide) rfl rfl (Nat.le_of_ble_eq_true rfl) dX6_keep_2 ?_
  refine cj_if_ne (tgt := 18) hC dX6_keep_5 (by decide) (fun c1 => ?_) (fun c1 => ?_)
  · replace h := cb_F c1 h
    refine cj_bipush (v := (-2)) hC dX6_keep_18 rfl ?_
    obtain ⟨rfl, rfl⟩ := cb_i2 h
    exact cj_iret hC dX6_keep_20
  · replace h := cb_T c1 h
    refine cj_iload_n hC dX6_keep_8 rfl 2 rfl ?_
    refine cj_iconst (v := (-1)) hC dX6_keep_9 rfl ?_
    refine cj_icmp_lt (tgt := 18) hC dX6_keep_10 (by decide) (fun c2 => ?_) (fun c2 => ?_)
    · replace h := cb_T c2 h
      refine cj_bipush (v := (-2)) hC dX6_keep_18 rfl ?_
      obtain ⟨rfl, rfl⟩ := cb_i2 h
      exact cj_iret hC dX6_keep_20
    · replace h := cb_F c2 h
      refine cj_iload_n hC dX6_keep_13 rfl 2 rfl ?_
      refine cj_iconst (v := 1) hC dX6_keep_14 rfl ?_
      refine cj_icmp_le (tgt := 21) hC dX6_keep_15 (by decide) (fun c3 => ?_) (fun c3 => ?_)
      · replace h := cb_T c3 h
        refine cj_aload_n hC dX6_keep_21 rfl 0 rfl ?_
        obtain ⟨M1, e2, h⟩ := cb_b h
        refine cj_callVv (As := []) hC cv_X6_184 cx_l0_ (cx_e0 g _) rfl (c_X6_layOut l g  M e2) (by decide) rfl rfl (Nat.le_of_ble_eq_true rfl) dX6_keep_22 ?_
        refine cj_aload_n hC dX6_keep_25 rfl 0 rfl ?_
        refine cj_iload_n hC dX6_keep_26 rfl 1 rfl ?_
        obtain ⟨x2, M2, e3, h⟩ := cb_b2 h
        refine cj_callVi (As := [.int p1]) hC cv_X6_187 cx_l0_ (cx_e0 g _) rfl (c_X6_fewestKeptOff l g p1 M1 e3) (by decide) rfl rfl (Nat.le_of_ble_eq_true rfl) dX6_keep_27 ?_
        refine cj_istore_n (lv' := [(3, .int x2), (0, .ref (g.2.1 0)), (1, .int p1), (2, .int p2)]) hC dX6_keep_30 rfl (by decide) rfl ?_
        refine cj_iload_n hC dX6_keep_31 rfl 0 rfl ?_
        refine cj_iconst (v := (-1)) hC dX6_keep_32 rfl ?_
        refine cj_icmp_ne (tgt := 38) hC dX6_keep_33 (by decide) (fun c4 => ?_) (fun c4 => ?_)
        · replace h := cb_F c4 h
          refine cj_iload_n hC dX6_keep_38 rfl 3 rfl ?_
          refine cj_iconst (v := (-1)) hC dX6_keep_39 rfl ?_
          refine cj_icmp_ne (tgt := 48) hC dX6_keep_40 (by decide) (fun c5 => ?_) (fun c5 => ?_)
          · replace h := cb_F c5 h
            refine cj_iload_n hC dX6_keep_48 rfl 3 rfl ?_
            refine cj_if_ne (tgt := 59) hC dX6_keep_49 (by decide) (fun c6 => ?_) (fun c6 => ?_)
            · replace h := cb_F c6 h
              refine cj_iload_n hC dX6_keep_59 rfl 0 rfl ?_
              refine cj_iload_n hC dX6_keep_60 rfl 0 rfl ?_
              refine cj_iconst (v := 1) hC dX6_keep_61 rfl ?_
              refine cj_isub hC dX6_keep_62 ?_
              refine cj_iand hC dX6_keep_63 ?_
              obtain ⟨x3, e4, h⟩ := cb_b h
              refine cj_callSi (As := [.int (x2 &&& (x2 - 1))]) hC cs_X6_190 (c_X6_leastBit l g (x2 &&& (x2 - 1)) M2 e4) (by decide) rfl rfl (Nat.le_of_ble_eq_true rfl) dX6_keep_64 ?_
              obtain ⟨rfl, rfl⟩ := cb_i2 h
              exact cj_iret hC dX6_keep_67
            · replace h := cb_T c6 h
              refine cj_iload_n hC dX6_keep_52 rfl 0 rfl ?_
              obtain ⟨x4, e5, h⟩ := cb_b h
              refine cj_callSi (As := [.int x2]) hC cs_X6_190 (c_X6_leastBit l g x2 M2 e5) (by decide) rfl rfl (Nat.le_of_ble_eq_true rfl) dX6_keep_53 ?_
              refine cj_goto (tgt := 67) hC dX6_keep_56 (by decide) ?_
              obtain ⟨rfl, rfl⟩ := cb_i2 h
              exact cj_iret hC dX6_keep_67
          · replace h := cb_T c5 h
            refine cj_iload_n hC dX6_keep_43 rfl 0 rfl ?_
            obtain ⟨x5, e6, h⟩ := cb_l h
            refine cj_callSi (As := [.int x2]) hC cs_X6_171 (c_J6_bitCount_0f7a4 l g x2 M2 e6.symm) (by decide) rfl rfl (Nat.le_of_ble_eq_true rfl) dX6_keep_44 ?_
            obtain ⟨rfl, rfl⟩ := cb_i2 h
            exact cj_iret hC dX6_keep_47
        · replace h := cb_T c4 h
          refine cj_iconst (v := (-1)) hC dX6_keep_36 rfl ?_
          obtain ⟨rfl, rfl⟩ := cb_i2 h
          exact cj_iret hC dX6_keep_37
      · replace h := cb_F c3 h
        refine cj_bipush (v := (-2)) hC dX6_keep_18 rfl ?_
        obtain ⟨rfl, rfl⟩ := cb_i2 h
        exact cj_iret hC dX6_keep_20
def f_X6_sow_L32 : Nat → Int32 → Int32 → Int32 → Int32 → Int32 → cb_Mem → Option (Int32 × Int32 × cb_Mem)
    | 0, _, _, _, _, _, _ => none
    | n + 1, v1, v2, v3, v4, v5, M =>
      if 30 ≤ v5 then
      some (v3, v4, M)
      else
      if cb_in v1 8 = true then
      cb_let (cb_up M 17 v1.toNatClampNeg v5) fun M1 =>
      (f_X5_go  M1).bind fun M2 =>
      cb_let (f_X6_numberWithout  M2) fun x1 =>
      cb_bind2 (if v4 ≤ x1 then
      some (v3, v4)
      else
      cb_let (f_X6_numberWithout  M2) fun x4 =>
      some (v5, x4)) fun x2 x3 =>
      f_X6_sow_L32 n v1 v2 x2 x3 (v5 + 1) M2
      else none
def f_X6_sow (p1 : Int32) (p2 : Int32) (M : cb_Mem) : Option (Int32 × cb_Mem) :=
  cb_let (f_X6_isNoHead p1 M) fun x1 =>
  if x1 = 0 then
  cb_let (f_X6_isOff p2 2) fun x2 =>
  if x2 = 0 then
  (f_X6_layOut  M).bind fun M1 =>
  cb_bind3 (f_X6_sow_L32 cb_fuel p1 p2 (-1) 9 0 M1) fun x3 x4 M2 =>
  if p2 = 0 then
  some (x3, M2)
  else
  some (x4, M2)
  else
  some (((-2) : Int32), M)
  else
  some (((-2) : Int32), M)
set_option maxRecDepth 100000 in
set_option maxHeartbeats 4000000 in
theorem l_X6_sow_L32 {l : Launch} {g : cb_Geo} {γ : cb_Gam} {rr : Int32} {Mr : cb_Mem} (hC : cb_C cx g γ RX6 cX6_sow 6 (some .int) 3 l (cb_Qi cx g rr Mr)) (v1 : Int32) (v2 : Int32) : ∀ (n : Nat) (v3 : Int32) (v4 : Int32) (v5 : Int32) (M : cb_Mem) (o : (Int32 × Int32 × cb_Mem)), f_X6_sow_L32 n v1 v2 v3 v4 v5 M = some o → (∀ (v3' : Int32) (v4' : Int32) (M' : cb_Mem), o = (v3', v4', M') → cb_J cx g γ 6 M' 85 [(2, .int v2), (3, .int v3'), (4, .int v4')] []) → cb_J cx g γ 6 M 32 [(0, .ref (g.2.1 0)), (1, .int v1), (2, .int v2), (3, .int v3), (4, .int v4), (5, .int v5)] [] := by
  intro n
  induction n with
  | zero =>
    intro v3 v4 v5 M o h
    cases h
  | succ n ih =>
    intro v3 v4 v5 M o h hexit
    unfold f_X6_sow_L32 at h
    refine cj_iload hC dX6_sow_32 5 rfl ?_
    refine cj_bipush (v := 30) hC dX6_sow_34 rfl ?_
    refine cj_icmp_ge (tgt := 85) hC dX6_sow_36 (by decide) (fun c1 => ?_) (fun c1 => ?_)
    · replace h := cb_T c1 h
      obtain rfl := Option.some.inj h
      exact cj_pick [2, 3, 4] rfl (hexit _ _ _ rfl)
    · replace h := cb_F c1 h
      refine cj_aload_n hC dX6_sow_39 rfl 0 rfl ?_
      refine cj_get (v := .ref (g.2.1 3)) hC fa_X6_50 cx_l0_ (cx_e0 g _) rfl dX6_sow_40 ?_
      refine cj_get (v := .ref (g.2.1 17)) hC fa_X6_193 cx_l3_ (cx_e3 g _) rfl dX6_sow_43 ?_
      refine cj_iload_n hC dX6_sow_46 rfl 1 rfl ?_
      refine cj_iload hC dX6_sow_47 5 rfl ?_
      obtain ⟨i1, h⟩ := cb_g h
      obtain ⟨M1, eM1, h⟩ := cb_l h
      refine cj_iast hC cx_l17_ (cx_e17 g) (cx_t0 g) i1 eM1 dX6_sow_49 ?_
      refine cj_aload_n hC dX6_sow_50 rfl 0 rfl ?_
      refine cj_get (v := .ref (g.2.1 4)) hC fa_X6_57 cx_l0_ (cx_e0 g _) rfl dX6_sow_51 ?_
      refine cj_aload_n hC dX6_sow_54 rfl 0 rfl ?_
      refine cj_get (v := .ref (g.2.1 3)) hC fa_X6_50 cx_l0_ (cx_e0 g _) rfl dX6_sow_55 ?_
      obtain ⟨M2, e1, h⟩ := cb_b h
      refine cj_callVv (As := [.ref (g.2.1 3)]) hC cv_X6_196 cx_l4_ (cx_e4 g _) rfl (c_X5_go l g  M1 e1) (by decide) rfl rfl (Nat.le_of_ble_eq_true rfl) dX6_sow_58 ?_
      refine cj_aload_n hC dX6_sow_61 rfl 0 rfl ?_
      obtain ⟨x1, e2, h⟩ := cb_l h
      refine cj_callVi (As := []) hC cv_X6_200 cx_l0_ (cx_e0 g _) rfl (c_X6_numberWithout l g  M2 e2.symm) (by decide) rfl rfl (Nat.le_of_ble_eq_true rfl) dX6_sow_62 ?_
      refine cj_iload hC dX6_sow_65 4 rfl ?_
      obtain ⟨x2, x3, hx1, h⟩ := cb_b2 h
      have hj1 : cb_J cx g γ 6 M2 79 [(0, .ref (g.2.1 0)), (1, .int v1), (2, .int v2), (3, .int x2), (4, .int x3), (5, .int v5)] [] := by
        refine cj_iinc (lv' := [(5, .int (v5 + 1)), (0, .ref (g.2.1 0)), (1, .int v1), (2, .int v2), (3, .int x2), (4, .int x3)]) hC dX6_sow_79 (q := 5) rfl rfl (by decide) rfl ?_
        refine cj_goto (tgt := 32) hC dX6_sow_82 (by decide) ?_
        exact cj_pick [1, 2, 3, 4, 5, 0] rfl (ih _ _ _ _ _ h hexit)
      refine cj_icmp_ge (tgt := 79) hC dX6_sow_67 (by decide) (fun c2 => ?_) (fun c2 => ?_)
      · replace hx1 := cb_T c2 hx1
        obtain ⟨rfl, rfl⟩ := cb_i2 hx1
        exact cj_pick [0, 1, 2, 3, 4, 5] rfl hj1
      · replace hx1 := cb_F c2 hx1
        refine cj_aload_n hC dX6_sow_70 rfl 0 rfl ?_
        obtain ⟨x4, e3, hx1⟩ := cb_l hx1
        refine cj_callVi (As := []) hC cv_X6_200 cx_l0_ (cx_e0 g _) rfl (c_X6_numberWithout l g  M2 e3.symm) (by decide) rfl rfl (Nat.le_of_ble_eq_true rfl) dX6_sow_71 ?_
        refine cj_istore (lv' := [(4, .int x4), (0, .ref (g.2.1 0)), (1, .int v1), (2, .int v2), (3, .int v3), (5, .int v5)]) hC dX6_sow_74 (by decide) rfl ?_
        refine cj_iload hC dX6_sow_76 5 rfl ?_
        refine cj_istore_n (lv' := [(3, .int v5), (4, .int x4), (0, .ref (g.2.1 0)), (1, .int v1), (2, .int v2), (5, .int v5)]) hC dX6_sow_78 rfl (by decide) rfl ?_
        obtain ⟨rfl, rfl⟩ := cb_i2 hx1
        exact cj_pick [2, 3, 4, 0, 1, 5] rfl hj1
set_option maxRecDepth 100000 in
set_option maxHeartbeats 4000000 in
theorem c_X6_sow (l : Launch) (g : cb_Geo) (p1 : Int32) (p2 : Int32) (M : cb_Mem) {rr : Int32} {Mr : cb_Mem} (h : f_X6_sow p1 p2 M = some (rr, Mr)) : Met l yX6_sow (.code yX6_sow cX6_sow 6 (some .int) :: cb_ws) (cb_rm 3) (cb_Pc cx g [.ref (g.2.1 0), .int p1, .int p2] M) (cb_Qi cx g rr Mr) 0 0 (cb_A cx g) := by
  refine cb_met (by decide) wd_676 (Nat.le_of_ble_eq_true rfl) (fun γ hC => ?_)
  replace hC : cb_C cx g γ RX6 cX6_sow 6 (some .int) 3 l (cb_Qi cx g rr Mr) := hC
  show cb_J cx g γ 6 M 0 [(0, .ref (g.2.1 0)), (1, .int p1), (2, .int p2)] []
  unfold f_X6_sow at h
  refine cj_aload_n hC dX6_sow_0 rfl 0 rfl ?_
  refine cj_iload_n hC dX6_sow_1 rfl 1 rfl ?_
  obtain ⟨x1, e1, h⟩ := cb_l h
  refine cj_callVi (As := [.int p1]) hC cv_X6_98 cx_l0_ (cx_e0 g _) rfl (c_X6_isNoHead l g p1 M e1.symm) (by decide) rfl rfl (Nat.le_of_ble_eq_true rfl) dX6_sow_2 ?_
  refine cj_if_ne (tgt := 16) hC dX6_sow_5 (by decide) (fun c1 => ?_) (fun c1 => ?_)
  · replace h := cb_F c1 h
    refine cj_bipush (v := (-2)) hC dX6_sow_16 rfl ?_
    obtain ⟨rfl, rfl⟩ := cb_i2 h
    exact cj_iret hC dX6_sow_18
  · replace h := cb_T c1 h
    refine cj_iload_n hC dX6_sow_8 rfl 2 rfl ?_
    refine cj_iconst (v := 2) hC dX6_sow_9 rfl ?_
    obtain ⟨x2, e2, h⟩ := cb_l h
    refine cj_callSi (As := [.int p2, .int 2]) hC cs_X6_77 (c_X6_isOff l g p2 2 M e2.symm) (by decide) rfl rfl (Nat.le_of_ble_eq_true rfl) dX6_sow_10 ?_
    refine cj_if_eq (tgt := 19) hC dX6_sow_13 (by decide) (fun c2 => ?_) (fun c2 => ?_)
    · replace h := cb_T c2 h
      refine cj_aload_n hC dX6_sow_19 rfl 0 rfl ?_
      obtain ⟨M1, e3, h⟩ := cb_b h
      refine cj_callVv (As := []) hC cv_X6_184 cx_l0_ (cx_e0 g _) rfl (c_X6_layOut l g  M e3) (by decide) rfl rfl (Nat.le_of_ble_eq_true rfl) dX6_sow_20 ?_
      refine cj_iconst (v := (-1)) hC dX6_sow_23 rfl ?_
      refine cj_istore_n (lv' := [(3, .int (-1)), (0, .ref (g.2.1 0)), (1, .int p1), (2, .int p2)]) hC dX6_sow_24 rfl (by decide) rfl ?_
      refine cj_bipush (v := 9) hC dX6_sow_25 rfl ?_
      refine cj_istore (lv' := [(4, .int 9), (3, .int (-1)), (0, .ref (g.2.1 0)), (1, .int p1), (2, .int p2)]) hC dX6_sow_27 (by decide) rfl ?_
      refine cj_iconst (v := 0) hC dX6_sow_29 rfl ?_
      refine cj_istore (lv' := [(5, .int 0), (4, .int 9), (3, .int (-1)), (0, .ref (g.2.1 0)), (1, .int p1), (2, .int p2)]) hC dX6_sow_30 (by decide) rfl ?_
      obtain ⟨x3, x4, M2, e4, h⟩ := cb_b3 h
      refine cj_pick [3, 4, 5, 2, 1, 0] rfl ?_
      refine l_X6_sow_L32 hC p1 p2 cb_fuel _ _ _ _ _ e4 (fun ze40 ze41 ze42 hz => ?_)
      obtain ⟨rfl, rfl, rfl⟩ := cb_p3 hz
      refine cj_iload_n hC dX6_sow_85 rfl 0 rfl ?_
      refine cj_if_ne (tgt := 93) hC dX6_sow_86 (by decide) (fun c3 => ?_) (fun c3 => ?_)
      · replace h := cb_F c3 h
        refine cj_iload hC dX6_sow_93 2 rfl ?_
        obtain ⟨rfl, rfl⟩ := cb_i2 h
        exact cj_iret hC dX6_sow_95
      · replace h := cb_T c3 h
        refine cj_iload_n hC dX6_sow_89 rfl 1 rfl ?_
        refine cj_goto (tgt := 95) hC dX6_sow_90 (by decide) ?_
        obtain ⟨rfl, rfl⟩ := cb_i2 h
        exact cj_iret hC dX6_sow_95
    · replace h := cb_F c2 h
      refine cj_bipush (v := (-2)) hC dX6_sow_16 rfl ?_
      obtain ⟨rfl, rfl⟩ := cb_i2 h
      exact cj_iret hC dX6_sow_18
def f_X6_come_L31 : Nat → Int32 → Int32 → Int32 → Int32 → Int32 → cb_Mem → Option (Int32 × Int32 × cb_Mem)
    | 0, _, _, _, _, _, _ => none
    | n + 1, v1, v2, v3, v4, v5, M =>
      if 30 ≤ v5 then
      some (v3, v4, M)
      else
      if cb_in v1 8 = true then
      cb_let (cb_up M 19 v1.toNatClampNeg v5) fun M1 =>
      (f_X5_go  M1).bind fun M2 =>
      if cb_in v1 8 = true then
      cb_let ((M2 25 v1.toNatClampNeg)) fun x1 =>
      cb_bind2 (if x1 = (-1) then
      some (v3, v4)
      else
      cb_let (fun (_ : Unit) =>
      some (v5, x1)) fun k1 =>
      if v4 = (-1) then
      k1 ()
      else
      if v4 ≤ x1 then
      some (v3, v4)
      else
      k1 ()) fun x2 x3 =>
      f_X6_come_L31 n v1 v2 x2 x3 (v5 + 1) M2
      else none
      else none
def f_X6_come (p1 : Int32) (p2 : Int32) (M : cb_Mem) : Option (Int32 × cb_Mem) :=
  cb_let (f_X6_isNoCouple p1 M) fun x1 =>
  if x1 = 0 then
  cb_let (f_X6_isOff p2 2) fun x2 =>
  if x2 = 0 then
  (f_X6_layOut  M).bind fun M1 =>
  cb_bind3 (f_X6_come_L31 cb_fuel p1 p2 (-1) (-1) 0 M1) fun x3 x4 M2 =>
  if p2 = 0 then
  some (x3, M2)
  else
  some (x4, M2)
  else
  some (((-2) : Int32), M)
  else
  some (((-2) : Int32), M)
set_option maxRecDepth 100000 in
set_option maxHeartbeats 4000000 in
theorem l_X6_come_L31 {l : Launch} {g : cb_Geo} {γ : cb_Gam} {rr : Int32} {Mr : cb_Mem} (hC : cb_C cx g γ RX6 cX6_come 7 (some .int) 3 l (cb_Qi cx g rr Mr)) (v1 : Int32) (v2 : Int32) : ∀ (n : Nat) (v3 : Int32) (v4 : Int32) (v5 : Int32) (M : cb_Mem) (o : (Int32 × Int32 × cb_Mem)), f_X6_come_L31 n v1 v2 v3 v4 v5 M = some o → (∀ (v3' : Int32) (v4' : Int32) (M' : cb_Mem), o = (v3', v4', M') → cb_J cx g γ 7 M' 103 [(2, .int v2), (3, .int v3'), (4, .int v4')] []) → cb_J cx g γ 7 M 31 [(0, .ref (g.2.1 0)), (1, .int v1), (2, .int v2), (3, .int v3), (4, .int v4), (5, .int v5)] [] := by
  intro n
  induction n with
  | zero =>
    intro v3 v4 v5 M o h
    cases h
  | succ n ih =>
    intro v3 v4 v5 M o h hexit
    unfold f_X6_come_L31 at h
    refine cj_iload hC dX6_come_31 5 rfl ?_
    refine cj_bipush (v := 30) hC dX6_come_33 rfl ?_
    refine cj_icmp_ge (tgt := 103) hC dX6_come_35 (by decide) (fun c1 => ?_) (fun c1 => ?_)
    · replace h := cb_T c1 h
      obtain rfl := Option.some.inj h
      exact cj_pick [2, 3, 4] rfl (hexit _ _ _ rfl)
    · replace h := cb_F c1 h
      refine cj_aload_n hC dX6_come_38 rfl 0 rfl ?_
      refine cj_get (v := .ref (g.2.1 3)) hC fa_X6_50 cx_l0_ (cx_e0 g _) rfl dX6_come_39 ?_
      refine cj_get (v := .ref (g.2.1 19)) hC fa_X6_203 cx_l3_ (cx_e3 g _) rfl dX6_come_42 ?_
      refine cj_iload_n hC dX6_come_45 rfl 1 rfl ?_
      refine cj_iload hC dX6_come_46 5 rfl ?_
      obtain ⟨i1, h⟩ := cb_g h
      obtain ⟨M1, eM1, h⟩ := cb_l h
      refine cj_iast hC cx_l19_ (cx_e19 g) (cx_t0 g) i1 eM1 dX6_come_48 ?_
      refine cj_aload_n hC dX6_come_49 rfl 0 rfl ?_
      refine cj_get (v := .ref (g.2.1 4)) hC fa_X6_57 cx_l0_ (cx_e0 g _) rfl dX6_come_50 ?_
      refine cj_aload_n hC dX6_come_53 rfl 0 rfl ?_
      refine cj_get (v := .ref (g.2.1 3)) hC fa_X6_50 cx_l0_ (cx_e0 g _) rfl dX6_come_54 ?_
      obtain ⟨M2, e1, h⟩ := cb_b h
      refine cj_callVv (As := [.ref (g.2.1 3)]) hC cv_X6_196 cx_l4_ (cx_e4 g _) rfl (c_X5_go l g  M1 e1) (by decide) rfl rfl (Nat.le_of_ble_eq_true rfl) dX6_come_57 ?_
      refine cj_aload_n hC dX6_come_60 rfl 0 rfl ?_
      refine cj_get (v := .ref (g.2.1 4)) hC fa_X6_57 cx_l0_ (cx_e0 g _) rfl dX6_come_61 ?_
      refine cj_get (v := .ref (g.2.1 25)) hC fa_X6_149 cx_l4_ (cx_e4 g _) rfl dX6_come_64 ?_
      refine cj_iload_n hC dX6_come_67 rfl 1 rfl ?_
      obtain ⟨i2, h⟩ := cb_g h
      refine cj_iald hC cx_l25_ (cx_e25 g _) (cx_t0 g) i2 dX6_come_68 ?_
      obtain ⟨x1, ex1, h⟩ := cb_l h
      refine cj_topi ex1 ?_
      refine cj_istore (lv' := [(6, .int x1), (0, .ref (g.2.1 0)), (1, .int v1), (2, .int v2), (3, .int v3), (4, .int v4), (5, .int v5)]) hC dX6_come_69 (by decide) rfl ?_
      refine cj_iload hC dX6_come_71 0 rfl ?_
      refine cj_iconst (v := (-1)) hC dX6_come_73 rfl ?_
      obtain ⟨x2, x3, hx1, h⟩ := cb_b2 h
      have hj1 : cb_J cx g γ 7 M2 97 [(0, .ref (g.2.1 0)), (1, .int v1), (2, .int v2), (3, .int x2), (4, .int x3), (5, .int v5)] [] := by
        refine cj_iinc (lv' := [(5, .int (v5 + 1)), (0, .ref (g.2.1 0)), (1, .int v1), (2, .int v2), (3, .int x2), (4, .int x3)]) hC dX6_come_97 (q := 5) rfl rfl (by decide) rfl ?_
        refine cj_goto (tgt := 31) hC dX6_come_100 (by decide) ?_
        exact cj_pick [1, 2, 3, 4, 5, 0] rfl (ih _ _ _ _ _ h hexit)
      refine cj_icmp_eq (tgt := 97) hC dX6_come_74 (by decide) (fun c2 => ?_) (fun c2 => ?_)
      · replace hx1 := cb_T c2 hx1
        obtain ⟨rfl, rfl⟩ := cb_i2 hx1
        exact cj_pick [1, 2, 3, 4, 5, 6] rfl hj1
      · replace hx1 := cb_F c2 hx1
        refine cj_iload hC dX6_come_77 5 rfl ?_
        refine cj_iconst (v := (-1)) hC dX6_come_79 rfl ?_
        obtain ⟨k1, ek1, hx1⟩ := cb_l hx1
        have hk1 : ∀ (u9 : Unit), k1 u9 = some (x2, x3) → cb_J cx g γ 7 M2 90 [(0, .ref (g.2.1 0)), (1, .int v1), (2, .int v2), (5, .int v5), (6, .int x1)] [] := by
          intro u9 hx1
          replace hx1 := cb_k1 ek1 hx1
          refine cj_iload hC dX6_come_90 4 rfl ?_
          refine cj_istore (lv' := [(4, .int x1), (0, .ref (g.2.1 0)), (1, .int v1), (2, .int v2), (5, .int v5), (6, .int x1)]) hC dX6_come_92 (by decide) rfl ?_
          refine cj_iload hC dX6_come_94 4 rfl ?_
          refine cj_istore_n (lv' := [(3, .int v5), (4, .int x1), (0, .ref (g.2.1 0)), (1, .int v1), (2, .int v2), (5, .int v5), (6, .int x1)]) hC dX6_come_96 rfl (by decide) rfl ?_
          obtain ⟨rfl, rfl⟩ := cb_i2 hx1
          exact cj_pick [2, 3, 4, 0, 1, 5] rfl hj1
        refine cj_icmp_eq (tgt := 90) hC dX6_come_80 (by decide) (fun c3 => ?_) (fun c3 => ?_)
        · replace hx1 := cb_T c3 hx1
          exact cj_pick [1, 2, 3, 6, 0] rfl (hk1 _ hx1)
        · replace hx1 := cb_F c3 hx1
          refine cj_iload hC dX6_come_83 0 rfl ?_
          refine cj_iload hC dX6_come_85 5 rfl ?_
          refine cj_icmp_ge (tgt := 97) hC dX6_come_87 (by decide) (fun c4 => ?_) (fun c4 => ?_)
          · replace hx1 := cb_T c4 hx1
            obtain ⟨rfl, rfl⟩ := cb_i2 hx1
            exact cj_pick [1, 2, 3, 4, 5, 6] rfl hj1
          · replace hx1 := cb_F c4 hx1
            exact cj_pick [1, 2, 3, 6, 0] rfl (hk1 _ hx1)
set_option maxRecDepth 100000 in
set_option maxHeartbeats 4000000 in
theorem c_X6_come (l : Launch) (g : cb_Geo) (p1 : Int32) (p2 : Int32) (M : cb_Mem) {rr : Int32} {Mr : cb_Mem} (h : f_X6_come p1 p2 M = some (rr, Mr)) : Met l yX6_come (.code yX6_come cX6_come 7 (some .int) :: cb_ws) (cb_rm 3) (cb_Pc cx g [.ref (g.2.1 0), .int p1, .int p2] M) (cb_Qi cx g rr Mr) 0 0 (cb_A cx g) := by
  refine cb_met (by decide) wd_684 (Nat.le_of_ble_eq_true rfl) (fun γ hC => ?_)
  replace hC : cb_C cx g γ RX6 cX6_come 7 (some .int) 3 l (cb_Qi cx g rr Mr) := hC
  show cb_J cx g γ 7 M 0 [(0, .ref (g.2.1 0)), (1, .int p1), (2, .int p2)] []
  unfold f_X6_come at h
  refine cj_aload_n hC dX6_come_0 rfl 0 rfl ?_
  refine cj_iload_n hC dX6_come_1 rfl 1 rfl ?_
  obtain ⟨x1, e1, h⟩ := cb_l h
  refine cj_callVi (As := [.int p1]) hC cv_X6_109 cx_l0_ (cx_e0 g _) rfl (c_X6_isNoCouple l g p1 M e1.symm) (by decide) rfl rfl (Nat.le_of_ble_eq_true rfl) dX6_come_2 ?_
  refine cj_if_ne (tgt := 16) hC dX6_come_5 (by decide) (fun c1 => ?_) (fun c1 => ?_)
  · replace h := cb_F c1 h
    refine cj_bipush (v := (-2)) hC dX6_come_16 rfl ?_
    obtain ⟨rfl, rfl⟩ := cb_i2 h
    exact cj_iret hC dX6_come_18
  · replace h := cb_T c1 h
    refine cj_iload_n hC dX6_come_8 rfl 2 rfl ?_
    refine cj_iconst (v := 2) hC dX6_come_9 rfl ?_
    obtain ⟨x2, e2, h⟩ := cb_l h
    refine cj_callSi (As := [.int p2, .int 2]) hC cs_X6_77 (c_X6_isOff l g p2 2 M e2.symm) (by decide) rfl rfl (Nat.le_of_ble_eq_true rfl) dX6_come_10 ?_
    refine cj_if_eq (tgt := 19) hC dX6_come_13 (by decide) (fun c2 => ?_) (fun c2 => ?_)
    · replace h := cb_T c2 h
      refine cj_aload_n hC dX6_come_19 rfl 0 rfl ?_
      obtain ⟨M1, e3, h⟩ := cb_b h
      refine cj_callVv (As := []) hC cv_X6_184 cx_l0_ (cx_e0 g _) rfl (c_X6_layOut l g  M e3) (by decide) rfl rfl (Nat.le_of_ble_eq_true rfl) dX6_come_20 ?_
      refine cj_iconst (v := (-1)) hC dX6_come_23 rfl ?_
      refine cj_istore_n (lv' := [(3, .int (-1)), (0, .ref (g.2.1 0)), (1, .int p1), (2, .int p2)]) hC dX6_come_24 rfl (by decide) rfl ?_
      refine cj_iconst (v := (-1)) hC dX6_come_25 rfl ?_
      refine cj_istore (lv' := [(4, .int (-1)), (3, .int (-1)), (0, .ref (g.2.1 0)), (1, .int p1), (2, .int p2)]) hC dX6_come_26 (by decide) rfl ?_
      refine cj_iconst (v := 0) hC dX6_come_28 rfl ?_
      refine cj_istore (lv' := [(5, .int 0), (4, .int (-1)), (3, .int (-1)), (0, .ref (g.2.1 0)), (1, .int p1), (2, .int p2)]) hC dX6_come_29 (by decide) rfl ?_
      obtain ⟨x3, x4, M2, e4, h⟩ := cb_b3 h
      refine cj_pick [3, 4, 5, 2, 1, 0] rfl ?_
      refine l_X6_come_L31 hC p1 p2 cb_fuel _ _ _ _ _ e4 (fun ze40 ze41 ze42 hz => ?_)
      obtain ⟨rfl, rfl, rfl⟩ := cb_p3 hz
      refine cj_iload_n hC dX6_come_103 rfl 0 rfl ?_
      refine cj_if_ne (tgt := 111) hC dX6_come_104 (by decide) (fun c3 => ?_) (fun c3 => ?_)
      · replace h := cb_F c3 h
        refine cj_iload hC dX6_come_111 2 rfl ?_
        obtain ⟨rfl, rfl⟩ := cb_i2 h
        exact cj_iret hC dX6_come_113
      · replace h := cb_T c3 h
        refine cj_iload_n hC dX6_come_107 rfl 1 rfl ?_
        refine cj_goto (tgt := 113) hC dX6_come_108 (by decide) ?_
        obtain ⟨rfl, rfl⟩ := cb_i2 h
        exact cj_iret hC dX6_come_113
    · replace h := cb_F c2 h
      refine cj_bipush (v := (-2)) hC dX6_come_16 rfl ?_
      obtain ⟨rfl, rfl⟩ := cb_i2 h
      exact cj_iret hC dX6_come_18
