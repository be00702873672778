def f_X3_isLost (i : Nat) (M : cb_Mem) : Int32 :=
  if 0 ≤ (M (42 + i) 2) then
  (0 : Int32)
  else
  (1 : Int32)
set_option maxRecDepth 100000 in
set_option maxHeartbeats 4000000 in
theorem c_X3_isLost (l : Launch) (g : cb_Geo) (i : Nat) (hi : i < 4) (M : cb_Mem) {rr : Int32} (h : f_X3_isLost i M = rr) : Met l yX3_isLost (.code yX3_isLost cX3_isLost 1 (some .boolean) :: cb_ws) (cb_rm 0) (cb_Pc cx g [.ref (g.2.1 (42 + i))] M) (cb_Qi cx g rr M) 0 0 (cb_A cx g) := by
  refine cb_met (by decide) wd_505 (Nat.le_of_ble_eq_true rfl) (fun γ hC => ?_)
  replace hC : cb_C cx g γ RX3 cX3_isLost 1 (some .boolean) 0 l (cb_Qi cx g rr M) := hC
  show cb_J cx g γ 1 M 0 [(0, .ref (g.2.1 (42 + i)))] []
  unfold f_X3_isLost at h
  refine cj_aload_n hC dX3_isLost_0 rfl 0 rfl ?_
  refine cj_get (v := .int (M (42 + i) 2)) hC fa_X3_19 (cx_l4 hi (by decide)) (cx_sheet hi g _) rfl dX3_isLost_1 ?_
  refine cj_if_ge (tgt := 11) hC dX3_isLost_4 (by decide) (fun c1 => ?_) (fun c1 => ?_)
  · replace h := cb_T c1 h
    refine cj_iconst (v := 0) hC dX3_isLost_11 rfl ?_
    obtain rfl := h
    exact cj_zret hC (Or.inl rfl) dX3_isLost_12
  · replace h := cb_F c1 h
    refine cj_iconst (v := 1) hC dX3_isLost_7 rfl ?_
    refine cj_goto (tgt := 12) hC dX3_isLost_8 (by decide) ?_
    obtain rfl := h
    exact cj_zret hC (Or.inr rfl) dX3_isLost_12
def f_X3_renew (i : Nat) (p1 : Int32) (p2 : Int32) (M : cb_Mem) : Option (cb_Mem) :=
  (f_J7_fill_53178 (46 + i) 60 0 M).bind fun M1 =>
  cb_let (cb_up M1 (42 + i) 1 p1) fun M2 =>
  cb_let (cb_up M2 (42 + i) 2 p2) fun M3 =>
  some M3
set_option maxRecDepth 100000 in
set_option maxHeartbeats 4000000 in
theorem c_X3_renew (l : Launch) (g : cb_Geo) (i : Nat) (hi : i < 4) (p1 : Int32) (p2 : Int32) (M : cb_Mem) {Mr : cb_Mem} (h : f_X3_renew i p1 p2 M = some Mr) : Met l yX3_renew (.code yX3_renew cX3_renew 3 none :: cb_ws) (cb_rm 1) (cb_Pc cx g [.ref (g.2.1 (42 + i)), .int p1, .int p2] M) (cb_Qv cx g Mr) 0 0 (cb_A cx g) := by
  refine cb_met (by decide) wd_765 (Nat.le_of_ble_eq_true rfl) (fun γ hC => ?_)
  replace hC : cb_C cx g γ RX3 cX3_renew 3 none 1 l (cb_Qv cx g Mr) := hC
  show cb_J cx g γ 3 M 0 [(0, .ref (g.2.1 (42 + i))), (1, .int p1), (2, .int p2)] []
  unfold f_X3_renew at h
  refine cj_aload_n hC dX3_renew_0 rfl 0 rfl ?_
  refine cj_get (v := .ref (g.2.1 (46 + i))) hC fa_X3_9 (cx_l4 hi (by decide)) (cx_sheet hi g _) rfl dX3_renew_1 ?_
  refine cj_iconst (v := 0) hC dX3_renew_4 rfl ?_
  obtain ⟨M1, e1, h⟩ := cb_b h
  refine cj_callSv (As := [.ref (g.2.1 (46 + i)), .int 0]) hC cs_X3_22 (c_J7_fill_53178 l g (46 + i) 60 (cx_l4 hi (by decide)) (cx_sitems hi g) 0 M e1) (by decide) rfl rfl (Nat.le_of_ble_eq_true rfl) dX3_renew_5 ?_
  refine cj_aload_n hC dX3_renew_8 rfl 0 rfl ?_
  refine cj_iload_n hC dX3_renew_9 rfl 1 rfl ?_
  obtain ⟨M2, eM2, h⟩ := cb_l h
  refine cj_put hC fp_X3_15 (cx_l4 hi (by decide)) (cx_sheet hi g _) ((cx_sheet hi g _).trans rfl) (Nat.le_of_ble_eq_true rfl) eM2 dX3_renew_10 ?_
  refine cj_aload_n hC dX3_renew_13 rfl 0 rfl ?_
  refine cj_iload_n hC dX3_renew_14 rfl 2 rfl ?_
  obtain ⟨M3, eM3, h⟩ := cb_l h
  refine cj_put hC fp_X3_19 (cx_l4 hi (by decide)) (cx_sheet hi g _) ((cx_sheet hi g _).trans rfl) (Nat.le_of_ble_eq_true rfl) eM3 dX3_renew_15 ?_
  obtain rfl := Option.some.inj h
  exact cj_vret hC dX3_renew_18
def f_X3_itemAt (i : Nat) (p1 : Int32) (M : cb_Mem) : Option (Int32) :=
  cb_let (f_X6_isOff p1 (M (42 + i) 2)) fun x1 =>
  if x1 = 0 then
  if cb_in p1 60 = true then
  some (M (46 + i) p1.toNatClampNeg)
  else none
  else
  some (0 : Int32)
set_option maxRecDepth 100000 in
set_option maxHeartbeats 4000000 in
theorem c_X3_itemAt (l : Launch) (g : cb_Geo) (i : Nat) (hi : i < 4) (p1 : Int32) (M : cb_Mem) {rr : Int32} (h : f_X3_itemAt i p1 M = some rr) : Met l yX3_itemAt (.code yX3_itemAt cX3_itemAt 2 (some .int) :: cb_ws) (cb_rm 1) (cb_Pc cx g [.ref (g.2.1 (42 + i)), .int p1] M) (cb_Qi cx g rr M) 0 0 (cb_A cx g) := by
  refine cb_met (by decide) wd_513 (Nat.le_of_ble_eq_true rfl) (fun γ hC => ?_)
  replace hC : cb_C cx g γ RX3 cX3_itemAt 2 (some .int) 1 l (cb_Qi cx g rr M) := hC
  show cb_J cx g γ 2 M 0 [(0, .ref (g.2.1 (42 + i))), (1, .int p1)] []
  unfold f_X3_itemAt at h
  refine cj_iload_n hC dX3_itemAt_0 rfl 1 rfl ?_
  refine cj_aload_n hC dX3_itemAt_1 rfl 0 rfl ?_
  refine cj_get (v := .int (M (42 + i) 2)) hC fa_X3_19 (cx_l4 hi (by decide)) (cx_sheet hi g _) rfl dX3_itemAt_2 ?_
  obtain ⟨x1, e1, h⟩ := cb_l h
  refine cj_callNi (As := [.int p1, .int (M (42 + i) 2)]) hC cn_X3_28 (c_X6_isOff l g p1 (M (42 + i) 2) M e1.symm) (by decide) rfl rfl (Nat.le_of_ble_eq_true rfl) dX3_itemAt_5 ?_
  refine cj_if_eq (tgt := 15) hC dX3_itemAt_8 (by decide) (fun c1 => ?_) (fun c1 => ?_)
  · replace h := cb_T c1 h
    refine cj_aload_n hC dX3_itemAt_15 rfl 0 rfl ?_
    refine cj_get (v := .ref (g.2.1 (46 + i))) hC fa_X3_9 (cx_l4 hi (by decide)) (cx_sheet hi g _) rfl dX3_itemAt_16 ?_
    refine cj_iload_n hC dX3_itemAt_19 rfl 1 rfl ?_
    obtain ⟨i1, h⟩ := cb_g h
    refine cj_iald hC (cx_l4 hi (by decide)) (cx_sitems hi g _) (cx_t0 g) i1 dX3_itemAt_20 ?_
    obtain rfl := Option.some.inj h
    exact cj_iret hC dX3_itemAt_21
  · replace h := cb_F c1 h
    refine cj_iconst (v := 0) hC dX3_itemAt_11 rfl ?_
    refine cj_goto (tgt := 21) hC dX3_itemAt_12 (by decide) ?_
    obtain rfl := Option.some.inj h
    exact cj_iret hC dX3_itemAt_21
def f_X3_put (i : Nat) (p1 : Int32) (p2 : Int32) (M : cb_Mem) : Option (cb_Mem) :=
  cb_let (f_X6_isOff p1 (M (42 + i) 2)) fun x1 =>
  if x1 = 0 then
  cb_let (if (M (42 + i) 1) = 0 then
  p2.toInt8.toInt32
  else
  if (M (42 + i) 1) = 1 then
  p2.toInt16.toInt32
  else
  p2) fun x2 =>
  if cb_in p1 60 = true then
  cb_let (cb_up M (46 + i) p1.toNatClampNeg x2) fun M1 =>
  some M1
  else none
  else
  some M
set_option maxRecDepth 100000 in
set_option maxHeartbeats 4000000 in
theorem c_X3_put (l : Launch) (g : cb_Geo) (i : Nat) (hi : i < 4) (p1 : Int32) (p2 : Int32) (M : cb_Mem) {Mr : cb_Mem} (h : f_X3_put i p1 p2 M = some Mr) : Met l yX3_put (.code yX3_put cX3_put 3 none :: cb_ws) (cb_rm 1) (cb_Pc cx g [.ref (g.2.1 (42 + i)), .int p1, .int p2] M) (cb_Qv cx g Mr) 0 0 (cb_A cx g) := by
  refine cb_met (by decide) wd_781 (Nat.le_of_ble_eq_true rfl) (fun γ hC => ?_)
  replace hC : cb_C cx g γ RX3 cX3_put 3 none 1 l (cb_Qv cx g Mr) := hC
  show cb_J cx g γ 3 M 0 [(0, .ref (g.2.1 (42 + i))), (1, .int p1), (2, .int p2)] []
  unfold f_X3_put at h
  refine cj_iload_n hC dX3_put_0 rfl 1 rfl ?_
  refine cj_aload_n hC dX3_put_1 rfl 0 rfl ?_
  refine cj_get (v := .int (M (42 + i) 2)) hC fa_X3_19 (cx_l4 hi (by decide)) (cx_sheet hi g _) rfl dX3_put_2 ?_
  obtain ⟨x1, e1, h⟩ := cb_l h
  refine cj_callNi (As := [.int p1, .int (M (42 + i) 2)]) hC cn_X3_28 (c_X6_isOff l g p1 (M (42 + i) 2) M e1.symm) (by decide) rfl rfl (Nat.le_of_ble_eq_true rfl) dX3_put_5 ?_
  refine cj_if_eq (tgt := 12) hC dX3_put_8 (by decide) (fun c1 => ?_) (fun c1 => ?_)
  · replace h := cb_T c1 h
    refine cj_aload_n hC dX3_put_12 rfl 0 rfl ?_
    refine cj_get (v := .ref (g.2.1 (46 + i))) hC fa_X3_9 (cx_l4 hi (by decide)) (cx_sheet hi g _) rfl dX3_put_13 ?_
    refine cj_iload_n hC dX3_put_16 rfl 1 rfl ?_
    refine cj_aload_n hC dX3_put_17 rfl 0 rfl ?_
    refine cj_get (v := .int (M (42 + i) 1)) hC fa_X3_15 (cx_l4 hi (by decide)) (cx_sheet hi g _) rfl dX3_put_18 ?_
    obtain ⟨x2, hx1, h⟩ := cb_l h
    replace hx1 := hx1.symm
    have hj1 : cb_J cx g γ 3 M 43 [] [.int x2, .int p1, .ref (g.2.1 (46 + i))] := by
      obtain ⟨i1, h⟩ := cb_g h
      obtain ⟨M1, eM1, h⟩ := cb_l h
      refine cj_iast hC (cx_l4 hi (by decide)) (cx_sitems hi g) (cx_t0 g) i1 eM1 dX3_put_43 ?_
      obtain rfl := Option.some.inj h
      exact cj_vret hC dX3_put_44
    refine cj_if_ne (tgt := 29) hC dX3_put_21 (by decide) (fun c2 => ?_) (fun c2 => ?_)
    · replace hx1 := cb_F c2 hx1
      refine cj_aload_n hC dX3_put_29 rfl 0 rfl ?_
      refine cj_get (v := .int (M (42 + i) 1)) hC fa_X3_15 (cx_l4 hi (by decide)) (cx_sheet hi g _) rfl dX3_put_30 ?_
      refine cj_iconst (v := 1) hC dX3_put_33 rfl ?_
      refine cj_icmp_ne (tgt := 42) hC dX3_put_34 (by decide) (fun c3 => ?_) (fun c3 => ?_)
      · replace hx1 := cb_F c3 hx1
        refine cj_iload_n hC dX3_put_42 rfl 2 rfl ?_
        obtain rfl := hx1
        exact cj_pick [] rfl hj1
      · replace hx1 := cb_T c3 hx1
        refine cj_iload_n hC dX3_put_37 rfl 2 rfl ?_
        refine cj_i2s hC dX3_put_38 ?_
        refine cj_goto (tgt := 43) hC dX3_put_39 (by decide) ?_
        obtain rfl := hx1
        exact cj_pick [] rfl hj1
    · replace hx1 := cb_T c2 hx1
      refine cj_iload_n hC dX3_put_24 rfl 2 rfl ?_
      refine cj_i2b hC dX3_put_25 ?_
      refine cj_goto (tgt := 43) hC dX3_put_26 (by decide) ?_
      obtain rfl := hx1
      exact cj_pick [] rfl hj1
  · replace h := cb_F c1 h
    obtain rfl := Option.some.inj h
    exact cj_vret hC dX3_put_11
def f_X3_hasRun (i : Nat) (p1 : Int32) (p2 : Int32) (M : cb_Mem) : Int32 :=
  if p1 < 0 then
  (0 : Int32)
  else
  if p2 < 0 then
  (0 : Int32)
  else
  if ((M (42 + i) 2) - p1) < p2 then
  (0 : Int32)
  else
  (1 : Int32)
set_option maxRecDepth 100000 in
set_option maxHeartbeats 4000000 in
theorem c_X3_hasRun (l : Launch) (g : cb_Geo) (i : Nat) (hi : i < 4) (p1 : Int32) (p2 : Int32) (M : cb_Mem) {rr : Int32} (h : f_X3_hasRun i p1 p2 M = rr) : Met l yX3_hasRun (.code yX3_hasRun cX3_hasRun 3 (some .boolean) :: cb_ws) (cb_rm 0) (cb_Pc cx g [.ref (g.2.1 (42 + i)), .int p1, .int p2] M) (cb_Qi cx g rr M) 0 0 (cb_A cx g) := by
  refine cb_met (by decide) wd_794 (Nat.le_of_ble_eq_true rfl) (fun γ hC => ?_)
  replace hC : cb_C cx g γ RX3 cX3_hasRun 3 (some .boolean) 0 l (cb_Qi cx g rr M) := hC
  show cb_J cx g γ 3 M 0 [(0, .ref (g.2.1 (42 + i))), (1, .int p1), (2, .int p2)] []
  unfold f_X3_hasRun at h
  refine cj_iload_n hC dX3_hasRun_0 rfl 1 rfl ?_
  refine cj_if_lt (tgt := 22) hC dX3_hasRun_1 (by decide) (fun c1 => ?_) (fun c1 => ?_)
  · replace h := cb_T c1 h
    refine cj_iconst (v := 0) hC dX3_hasRun_22 rfl ?_
    obtain rfl := h
    exact cj_zret hC (Or.inl rfl) dX3_hasRun_23
  · replace h := cb_F c1 h
    refine cj_iload_n hC dX3_hasRun_4 rfl 2 rfl ?_
    refine cj_if_lt (tgt := 22) hC dX3_hasRun_5 (by decide) (fun c2 => ?_) (fun c2 => ?_)
    · replace h := cb_T c2 h
      refine cj_iconst (v := 0) hC dX3_hasRun_22 rfl ?_
      obtain rfl := h
      exact cj_zret hC (Or.inl rfl) dX3_hasRun_23
    · replace h := cb_F c2 h
      refine cj_iload_n hC dX3_hasRun_8 rfl 2 rfl ?_
      refine cj_aload_n hC dX3_hasRun_9 rfl 0 rfl ?_
      refine cj_get (v := .int (M (42 + i) 2)) hC fa_X3_19 (cx_l4 hi (by decide)) (cx_sheet hi g _) rfl dX3_hasRun_10 ?_
      refine cj_iload_n hC dX3_hasRun_13 rfl 1 rfl ?_
      refine cj_isub hC dX3_hasRun_14 ?_
      refine cj_icmp_gt (tgt := 22) hC dX3_hasRun_15 (by decide) (fun c3 => ?_) (fun c3 => ?_)
      · replace h := cb_T c3 h
        refine cj_iconst (v := 0) hC dX3_hasRun_22 rfl ?_
        obtain rfl := h
        exact cj_zret hC (Or.inl rfl) dX3_hasRun_23
      · replace h := cb_F c3 h
        refine cj_iconst (v := 1) hC dX3_hasRun_18 rfl ?_
        refine cj_goto (tgt := 23) hC dX3_hasRun_19 (by decide) ?_
        obtain rfl := h
        exact cj_zret hC (Or.inr rfl) dX3_hasRun_23
def f_X0_forgetAll  (M : cb_Mem) : cb_Mem :=
  cb_let (cb_up M 5 1 (-1)) fun M1 =>
  M1
set_option maxRecDepth 100000 in
set_option maxHeartbeats 4000000 in
theorem c_X0_forgetAll (l : Launch) (g : cb_Geo)  (M : cb_Mem) {Mr : cb_Mem} (h : f_X0_forgetAll  M = Mr) : Met l yX0_forgetAll (.code yX0_forgetAll cX0_forgetAll 1 none :: cb_ws) (cb_rm 0) (cb_Pc cx g [.ref (g.2.1 5)] M) (cb_Qv cx g Mr) 0 0 (cb_A cx g) := by
  refine cb_met (by decide) wd_327 (Nat.le_of_ble_eq_true rfl) (fun γ hC => ?_)
  replace hC : cb_C cx g γ RX0 cX0_forgetAll 1 none 0 l (cb_Qv cx g Mr) := hC
  show cb_J cx g γ 1 M 0 [(0, .ref (g.2.1 5))] []
  unfold f_X0_forgetAll at h
  refine cj_aload_n hC dX0_forgetAll_0 rfl 0 rfl ?_
  refine cj_iconst (v := (-1)) hC dX0_forgetAll_1 rfl ?_
  obtain ⟨M1, eM1, h⟩ := cb_l h
  refine cj_put hC fp_X0_16 cx_l5_ (cx_e5 g _) rfl (Nat.le_of_ble_eq_true rfl) eM1 dX0_forgetAll_2 ?_
  obtain rfl := h
  exact cj_vret hC dX0_forgetAll_5
def f_X0_startFor_L2 : Nat → Int32 → Int32 → cb_Mem → Option (cb_Mem)
    | 0, _, _, _ => none
    | n + 1, v1, v2, M =>
      if 8 ≤ v2 then
      some M
      else
      if cb_in v2 8 = true then
      (f_J7_fill_53178 (58 + v2.toNatClampNeg) 11 0 M).bind fun M1 =>
      f_X0_startFor_L2 n v1 (v2 + 1) M1
      else none
def f_X0_startFor (p1 : Int32) (M : cb_Mem) : Option (cb_Mem) :=
  (f_X0_startFor_L2 cb_fuel p1 0 M).bind fun M1 =>
  cb_let (cb_up M1 5 1 p1) fun M2 =>
  some M2
set_option maxRecDepth 100000 in
set_option maxHeartbeats 4000000 in
theorem l_X0_startFor_L2 {l : Launch} {g : cb_Geo} {γ : cb_Gam} {Mr : cb_Mem} (hC : cb_C cx g γ RX0 cX0_startFor 3 none 1 l (cb_Qv cx g Mr)) (v1 : Int32) : ∀ (n : Nat) (v2 : Int32) (M : cb_Mem) (o : (cb_Mem)), f_X0_startFor_L2 n v1 v2 M = some o → (∀ (M' : cb_Mem), o = M' → cb_J cx g γ 3 M' 24 [(0, .ref (g.2.1 5)), (1, .int v1)] []) → cb_J cx g γ 3 M 2 [(0, .ref (g.2.1 5)), (1, .int v1), (2, .int v2)] [] := by
  intro n
  induction n with
  | zero =>
    intro v2 M o h
    cases h
  | succ n ih =>
    intro v2 M o h hexit
    unfold f_X0_startFor_L2 at h
    refine cj_iload_n hC dX0_startFor_2 rfl 2 rfl ?_
    refine cj_bipush (v := 8) hC dX0_startFor_3 rfl ?_
    refine cj_icmp_ge (tgt := 24) hC dX0_startFor_5 (by decide) (fun c1 => ?_) (fun c1 => ?_)
    · replace h := cb_T c1 h
      obtain rfl := Option.some.inj h
      exact cj_pick [0, 1] rfl (hexit _ rfl)
    · replace h := cb_F c1 h
      refine cj_aload_n hC dX0_startFor_8 rfl 0 rfl ?_
      refine cj_get (v := .ref (g.2.1 7)) hC fa_X0_11 cx_l5_ (cx_e5 g _) rfl dX0_startFor_9 ?_
      refine cj_iload_n hC dX0_startFor_12 rfl 2 rfl ?_
      obtain ⟨i1, h⟩ := cb_g h
      refine cj_aald (t0 := 3) (a := g.2.1 (58 + v2.toNatClampNeg)) hC cx_l7_ (cx_e7 g _) rfl rfl i1 rfl dX0_startFor_13 ?_
      refine cj_iconst (v := 0) hC dX0_startFor_14 rfl ?_
      obtain ⟨M1, e1, h⟩ := cb_b h
      refine cj_callSv (As := [.ref (g.2.1 (58 + v2.toNatClampNeg)), .int 0]) hC cs_X0_20 (c_J7_fill_53178 l g (58 + v2.toNatClampNeg) 11 (cx_l8 (vp_lt i1) (by decide)) (cx_case (vp_lt i1) g) 0 M e1) (by decide) rfl rfl (Nat.le_of_ble_eq_true rfl) dX0_startFor_15 ?_
      refine cj_iinc (lv' := [(2, .int (v2 + 1)), (0, .ref (g.2.1 5)), (1, .int v1)]) hC dX0_startFor_18 (q := 2) rfl rfl (by decide) rfl ?_
      refine cj_goto (tgt := 2) hC dX0_startFor_21 (by decide) ?_
      exact cj_pick [1, 2, 0] rfl (ih _ _ _ h hexit)
set_option maxRecDepth 100000 in
set_option maxHeartbeats 4000000 in
theorem c_X0_startFor (l : Launch) (g : cb_Geo) (p1 : Int32) (M : cb_Mem) {Mr : cb_Mem} (h : f_X0_startFor p1 M = some Mr) : Met l yX0_startFor (.code yX0_startFor cX0_startFor 3 none :: cb_ws) (cb_rm 1) (cb_Pc cx g [.ref (g.2.1 5), .int p1] M) (cb_Qv cx g Mr) 0 0 (cb_A cx g) := by
  refine cb_met (by decide) wd_743 (Nat.le_of_ble_eq_true rfl) (fun γ hC => ?_)
  replace hC : cb_C cx g γ RX0 cX0_startFor 3 none 1 l (cb_Qv cx g Mr) := hC
  show cb_J cx g γ 3 M 0 [(0, .ref (g.2.1 5)), (1, .int p1)] []
  unfold f_X0_startFor at h
  refine cj_iconst (v := 0) hC dX0_startFor_0 rfl ?_
  refine cj_istore_n (lv' := [(2, .int 0), (0, .ref (g.2.1 5)), (1, .int p1)]) hC dX0_startFor_1 rfl (by decide) rfl ?_
  obtain ⟨M1, e1, h⟩ := cb_b h
  refine cj_pick [1, 2, 0] rfl ?_
  refine l_X0_startFor_L2 hC p1 cb_fuel _ _ _ e1 (fun ze1 hz => ?_)
  obtain rfl := hz
  refine cj_aload_n hC dX0_startFor_24 rfl 0 rfl ?_
  refine cj_iload_n hC dX0_startFor_25 rfl 1 rfl ?_
  obtain ⟨M2, eM2, h⟩ := cb_l h
  refine cj_put hC fp_X0_16 cx_l5_ (cx_e5 g _) rfl (Nat.le_of_ble_eq_true rfl) eM2 dX0_startFor_26 ?_
  obtain rfl := Option.some.inj h
  exact cj_vret hC dX0_startFor_29
def f_X0_addCase_L2 : Nat → Int32 → Int32 → Int32 → cb_Mem → Option (cb_Mem)
    | 0, _, _, _, _ => none
    | n + 1, v1, v2, v3, M =>
      if 8 ≤ v3 then
      some M
      else
      Option.bind (if ((v2 >>> (v3 &&& 31)) &&& 1) = 0 then
      some M
      else
      if cb_in v3 8 = true then
      if cb_in v1 11 = true then
      if cb_in v1 11 = true then
      cb_let (cb_up M (58 + v3.toNatClampNeg) v1.toNatClampNeg ((M (58 + v3.toNatClampNeg) v1.toNatClampNeg) + 1)) fun M2 =>
      some M2
      else none
      else none
      else none) fun M1 =>
      f_X0_addCase_L2 n v1 v2 (v3 + 1) M1
def f_X0_addCase (p1 : Int32) (p2 : Int32) (M : cb_Mem) : Option (cb_Mem) :=
  (f_X0_addCase_L2 cb_fuel p1 p2 0 M).bind fun M1 =>
  some M1
set_option maxRecDepth 100000 in
set_option maxHeartbeats 4000000 in
theorem l_X0_addCase_L2 {l : Launch} {g : cb_Geo} {γ : cb_Gam} {Mr : cb_Mem} (hC : cb_C cx g γ RX0 cX0_addCase 4 none 0 l (cb_Qv cx g Mr)) (v1 : Int32) (v2 : Int32) : ∀ (n : Nat) (v3 : Int32) (M : cb_Mem) (o : (cb_Mem)), f_X0_addCase_L2 n v1 v2 v3 M = some o → (∀ (M' : cb_Mem), o = M' → cb_J cx g γ 4 M' 34 [] []) → cb_J cx g γ 4 M 2 [(0, .ref (g.2.1 5)), (1, .int v1), (2, .int v2), (3, .int v3)] [] := by
  intro n
  induction n with
  | zero =>
    intro v3 M o h
    cases h
  | succ n ih =>
    intro v3 M o h hexit
    unfold f_X0_addCase_L2 at h
    refine cj_iload_n hC dX0_addCase_2 rfl 3 rfl ?_
    refine cj_bipush (v := 8) hC dX0_addCase_3 rfl ?_
    refine cj_icmp_ge (tgt := 34) hC dX0_addCase_5 (by decide) (fun c1 => ?_) (fun c1 => ?_)
    · replace h := cb_T c1 h
      obtain rfl := Option.some.inj h
      exact cj_pick [] rfl (hexit _ rfl)
    · replace h := cb_F c1 h
      refine cj_iload_n hC dX0_addCase_8 rfl 2 rfl ?_
      refine cj_iload_n hC dX0_addCase_9 rfl 3 rfl ?_
      refine cj_ishr hC dX0_addCase_10 ?_
      refine cj_iconst (v := 1) hC dX0_addCase_11 rfl ?_
      refine cj_iand hC dX0_addCase_12 ?_
      obtain ⟨M1, hx1, h⟩ := cb_b h
      have hj1 : cb_J cx g γ 4 M1 28 [(0, .ref (g.2.1 5)), (1, .int v1), (2, .int v2), (3, .int v3)] [] := by
        refine cj_iinc (lv' := [(3, .int (v3 + 1)), (0, .ref (g.2.1 5)), (1, .int v1), (2, .int v2)]) hC dX0_addCase_28 (q := 3) rfl rfl (by decide) rfl ?_
        refine cj_goto (tgt := 2) hC dX0_addCase_31 (by decide) ?_
        exact cj_pick [1, 2, 3, 0] rfl (ih _ _ _ h hexit)
      refine cj_if_eq (tgt := 28) hC dX0_addCase_13 (by decide) (fun c2 => ?_) (fun c2 => ?_)
      · replace hx1 := cb_T c2 hx1
        obtain rfl := Option.some.inj hx1
        exact cj_pick [0, 1, 2, 3] rfl hj1
      · replace hx1 := cb_F c2 hx1
        refine cj_aload_n hC dX0_addCase_16 rfl 0 rfl ?_
        refine cj_get (v := .ref (g.2.1 7)) hC fa_X0_11 cx_l5_ (cx_e5 g _) rfl dX0_addCase_17 ?_
        refine cj_iload_n hC dX0_addCase_20 rfl 3 rfl ?_
        obtain ⟨i1, hx1⟩ := cb_g hx1
        refine cj_aald (t0 := 3) (a := g.2.1 (58 + v3.toNatClampNeg)) hC cx_l7_ (cx_e7 g _) rfl rfl i1 rfl dX0_addCase_21 ?_
        refine cj_iload_n hC dX0_addCase_22 rfl 1 rfl ?_
        refine cj_dup2 hC dX0_addCase_23 rfl rfl ?_
        obtain ⟨i2, hx1⟩ := cb_g hx1
        refine cj_iald hC (cx_l8 (vp_lt i1) (by decide)) (cx_case (vp_lt i1) g _) (cx_t0 g) i2 dX0_addCase_24 ?_
        refine cj_iconst (v := 1) hC dX0_addCase_25 rfl ?_
        refine cj_iadd hC dX0_addCase_26 ?_
        obtain ⟨i3, hx1⟩ := cb_g hx1
        obtain ⟨M2, eM2, hx1⟩ := cb_l hx1
        refine cj_iast hC (cx_l8 (vp_lt i1) (by decide)) (cx_case (vp_lt i1) g) (cx_t0 g) i3 eM2 dX0_addCase_27 ?_
        obtain rfl := Option.some.inj hx1
        exact cj_pick [0, 1, 2, 3] rfl hj1
set_option maxRecDepth 100000 in
set_option maxHeartbeats 4000000 in
theorem c_X0_addCase (l : Launch) (g : cb_Geo) (p1 : Int32) (p2 : Int32) (M : cb_Mem) {Mr : cb_Mem} (h : f_X0_addCase p1 p2 M = some Mr) : Met l yX0_addCase (.code yX0_addCase cX0_addCase 4 none :: cb_ws) (cb_rm 0) (cb_Pc cx g [.ref (g.2.1 5), .int p1, .int p2] M) (cb_Qv cx g Mr) 0 0 (cb_A cx g) := by
  refine cb_met (by decide) wd_748 (Nat.le_of_ble_eq_true rfl) (fun γ hC => ?_)
  replace hC : cb_C cx g γ RX0 cX0_addCase 4 none 0 l (cb_Qv cx g Mr) := hC
  show cb_J cx g γ 4 M 0 [(0, .ref (g.2.1 5)), (1, .int p1), (2, .int p2)] []
  unfold f_X0_addCase at h
  refine cj_iconst (v := 0) hC dX0_addCase_0 rfl ?_
  refine cj_istore_n (lv' := [(3, .int 0), (0, .ref (g.2.1 5)), (1, .int p1), (2, .int p2)]) hC dX0_addCase_1 rfl (by decide) rfl ?_
  obtain ⟨M1, e1, h⟩ := cb_b h
  refine cj_pick [1, 2, 3, 0] rfl ?_
  refine l_X0_addCase_L2 hC p1 p2 cb_fuel _ _ _ e1 (fun ze1 hz => ?_)
  obtain rfl := hz
  obtain rfl := Option.some.inj h
  exact cj_vret hC dX0_addCase_34
def f_X0_weightOf_L31 : Nat → Int32 → Int32 → Int64 → Int32 → Int64 → Int32 → cb_Mem → Option (Int64)
    | 0, _, _, _, _, _, _, _ => none
    | n + 1, v1, v2, v3, v5, v6, v8, M =>
      if (M 5 1) < v8 then
      some v6
      else
      cb_let (if v5 ≤ v8 then
      (16 - v2).toInt64
      else
      v2.toInt64) fun y1 =>
      cb_let ((v6 * y1)) fun y2 =>
      f_X0_weightOf_L31 n v1 v2 v3 v5 y2 (v8 + 1) M
def f_X0_weightOf_L5 : Nat → Int32 → Int32 → Int64 → Int32 → cb_Mem → Option (Int64)
    | 0, _, _, _, _, _ => none
    | n + 1, v1, v2, v3, v5, M =>
      if ((M 5 1) + 1) < v5 then
      some v3
      else
      if cb_in v1 8 = true then
      if cb_in v5 11 = true then
      cb_let ((M (58 + v1.toNatClampNeg) v5.toNatClampNeg).toInt64) fun y1 =>
      (f_X0_weightOf_L31 cb_fuel v1 v2 v3 v5 y1 0 M).bind fun y2 =>
      cb_let ((v3 + y2)) fun y3 =>
      f_X0_weightOf_L5 n v1 v2 y3 (v5 + 1) M
      else none
      else none
def f_X0_weightOf (p1 : Int32) (p2 : Int32) (M : cb_Mem) : Option (Int64) :=
  (f_X0_weightOf_L5 cb_fuel p1 p2 0 0 M).bind fun y1 =>
  some y1
set_option maxRecDepth 100000 in
set_option maxHeartbeats 4000000 in
theorem l_X0_weightOf_L31 {l : Launch} {g : cb_Geo} {γ : cb_Gam} {rr : Int64} {M : cb_Mem} (hC : cb_C cx g γ RX0 cX0_weightOf 9 (some .long) 0 l (cb_Ql cx g rr M)) (v1 : Int32) (v2 : Int32) (v3 : Int64) (v5 : Int32) : ∀ (n : Nat) (v6 : Int64) (v8 : Int32) (o : (Int64)), f_X0_weightOf_L31 n v1 v2 v3 v5 v6 v8 M = some o → (∀ (v6' : Int64), o = v6' → cb_J cx g γ 9 M 68 [(0, .ref (g.2.1 5)), (1, .int v1), (2, .int v2), (3, .long v3), (5, .int v5), (6, .long v6')] []) → cb_J cx g γ 9 M 31 [(0, .ref (g.2.1 5)), (1, .int v1), (2, .int v2), (3, .long v3), (5, .int v5), (6, .long v6), (8, .int v8)] [] := by
  intro n
  induction n with
  | zero =>
    intro v6 v8 o h
    cases h
  | succ n ih =>
    intro v6 v8 o h hexit
    unfold f_X0_weightOf_L31 at h
    refine cj_iload hC dX0_weightOf_31 6 rfl ?_
    refine cj_aload_n hC dX0_weightOf_33 rfl 0 rfl ?_
    refine cj_get (v := .int (M 5 1)) hC fa_X0_16 cx_l5_ (cx_e5 g _) rfl dX0_weightOf_34 ?_
    refine cj_icmp_gt (tgt := 68) hC dX0_weightOf_37 (by decide) (fun c1 => ?_) (fun c1 => ?_)
    · replace h := cb_T c1 h
      obtain rfl := Option.some.inj h
      exact cj_pick [0, 1, 2, 3, 4, 5] rfl (hexit _ rfl)
    · replace h := cb_F c1 h
      refine cj_lload hC dX0_weightOf_40 5 rfl ?_
      refine cj_iload hC dX0_weightOf_42 6 rfl ?_
      refine cj_iload hC dX0_weightOf_44 4 rfl ?_
      obtain ⟨y1, hx1, h⟩ := cb_l h
      replace hx1 := hx1.symm
      have hj1 : cb_J cx g γ 9 M 59 [(0, .ref (g.2.1 5)), (1, .int v1), (2, .int v2), (3, .long v3), (5, .int v5), (8, .int v8)] [.long y1, .long v6] := by
        refine cj_lmul hC dX0_weightOf_59 ?_
        obtain ⟨y2, ey2, h⟩ := cb_l h
        refine cj_topl ey2 ?_
        refine cj_lstore (lv' := [(6, .long y2), (0, .ref (g.2.1 5)), (1, .int v1), (2, .int v2), (3, .long v3), (5, .int v5), (8, .int v8)]) hC dX0_weightOf_60 (by decide) rfl ?_
        refine cj_iinc (lv' := [(8, .int (v8 + 1)), (6, .long y2), (0, .ref (g.2.1 5)), (1, .int v1), (2, .int v2), (3, .long v3), (5, .int v5)]) hC dX0_weightOf_62 (q := 6) rfl rfl (by decide) rfl ?_
        refine cj_goto (tgt := 31) hC dX0_weightOf_65 (by decide) ?_
        exact cj_pick [2, 3, 4, 5, 6, 1, 0] rfl (ih _ _ _ h hexit)
      refine cj_icmp_ge (tgt := 54) hC dX0_weightOf_46 (by decide) (fun c2 => ?_) (fun c2 => ?_)
      · replace hx1 := cb_T c2 hx1
        refine cj_bipush (v := 16) hC dX0_weightOf_54 rfl ?_
        refine cj_iload_n hC dX0_weightOf_56 rfl 2 rfl ?_
        refine cj_isub hC dX0_weightOf_57 ?_
        refine cj_i2l hC dX0_weightOf_58 ?_
        obtain rfl := hx1
        exact cj_pick [0, 1, 2, 3, 4, 6] rfl hj1
      · replace hx1 := cb_F c2 hx1
        refine cj_iload_n hC dX0_weightOf_49 rfl 2 rfl ?_
        refine cj_i2l hC dX0_weightOf_50 ?_
        refine cj_goto (tgt := 59) hC dX0_weightOf_51 (by decide) ?_
        obtain rfl := hx1
        exact cj_pick [0, 1, 2, 3, 4, 6] rfl hj1
set_option maxRecDepth 100000 in
set_option maxHeartbeats 4000000 in
theorem l_X0_weightOf_L5 {l : Launch} {g : cb_Geo} {γ : cb_Gam} {rr : Int64} {M : cb_Mem} (hC : cb_C cx g γ RX0 cX0_weightOf 9 (some .long) 0 l (cb_Ql cx g rr M)) (v1 : Int32) (v2 : Int32) : ∀ (n : Nat) (v3 : Int64) (v5 : Int32) (o : (Int64)), f_X0_weightOf_L5 n v1 v2 v3 v5 M = some o → (∀ (v3' : Int64), o = v3' → cb_J cx g γ 9 M 79 [(3, .long v3')] []) → cb_J cx g γ 9 M 5 [(0, .ref (g.2.1 5)), (1, .int v1), (2, .int v2), (3, .long v3), (5, .int v5)] [] := by
  intro n
  induction n with
  | zero =>
    intro v3 v5 o h
    cases h
  | succ n ih =>
    intro v3 v5 o h hexit
    unfold f_X0_weightOf_L5 at h
    refine cj_iload hC dX0_weightOf_5 4 rfl ?_
    refine cj_aload_n hC dX0_weightOf_7 rfl 0 rfl ?_
    refine cj_get (v := .int (M 5 1)) hC fa_X0_16 cx_l5_ (cx_e5 g _) rfl dX0_weightOf_8 ?_
    refine cj_iconst (v := 1) hC dX0_weightOf_11 rfl ?_
    refine cj_iadd hC dX0_weightOf_12 ?_
    refine cj_icmp_gt (tgt := 79) hC dX0_weightOf_13 (by decide) (fun c1 => ?_) (fun c1 => ?_)
    · replace h := cb_T c1 h
      obtain rfl := Option.some.inj h
      exact cj_pick [3] rfl (hexit _ rfl)
    · replace h := cb_F c1 h
      refine cj_aload_n hC dX0_weightOf_16 rfl 0 rfl ?_
      refine cj_get (v := .ref (g.2.1 7)) hC fa_X0_11 cx_l5_ (cx_e5 g _) rfl dX0_weightOf_17 ?_
      refine cj_iload_n hC dX0_weightOf_20 rfl 1 rfl ?_
      obtain ⟨i1, h⟩ := cb_g h
      refine cj_aald (t0 := 3) (a := g.2.1 (58 + v1.toNatClampNeg)) hC cx_l7_ (cx_e7 g _) rfl rfl i1 rfl dX0_weightOf_21 ?_
      refine cj_iload hC dX0_weightOf_22 4 rfl ?_
      obtain ⟨i2, h⟩ := cb_g h
      refine cj_iald hC (cx_l8 (vp_lt i1) (by decide)) (cx_case (vp_lt i1) g _) (cx_t0 g) i2 dX0_weightOf_24 ?_
      refine cj_i2l hC dX0_weightOf_25 ?_
      obtain ⟨y1, ey1, h⟩ := cb_l h
      refine cj_topl ey1 ?_
      refine cj_lstore (lv' := [(6, .long y1), (0, .ref (g.2.1 5)), (1, .int v1), (2, .int v2), (3, .long v3), (5, .int v5)]) hC dX0_weightOf_26 (by decide) rfl ?_
      refine cj_iconst (v := 0) hC dX0_weightOf_28 rfl ?_
      refine cj_istore (lv' := [(8, .int 0), (6, .long y1), (0, .ref (g.2.1 5)), (1, .int v1), (2, .int v2), (3, .long v3), (5, .int v5)]) hC dX0_weightOf_29 (by decide) rfl ?_
      obtain ⟨y2, e1, h⟩ := cb_b h
      refine cj_pick [2, 3, 4, 5, 6, 1, 0] rfl ?_
      refine l_X0_weightOf_L31 hC v1 v2 v3 v5 cb_fuel _ _ _ e1 (fun ze1 hz => ?_)
      obtain rfl := hz
      refine cj_lload_n hC dX0_weightOf_68 rfl 3 rfl ?_
      refine cj_lload hC dX0_weightOf_69 5 rfl ?_
      refine cj_ladd hC dX0_weightOf_71 ?_
      obtain ⟨y3, ey3, h⟩ := cb_l h
      refine cj_topl ey3 ?_
      refine cj_lstore_n (lv' := [(3, .long y3), (0, .ref (g.2.1 5)), (1, .int v1), (2, .int v2), (5, .int v5), (6, .long y2)]) hC dX0_weightOf_72 rfl (by decide) rfl ?_
      refine cj_iinc (lv' := [(5, .int (v5 + 1)), (3, .long y3), (0, .ref (g.2.1 5)), (1, .int v1), (2, .int v2), (6, .long y2)]) hC dX0_weightOf_73 (q := 4) rfl rfl (by decide) rfl ?_
      refine cj_goto (tgt := 5) hC dX0_weightOf_76 (by decide) ?_
      exact cj_pick [2, 3, 4, 1, 0] rfl (ih _ _ _ h hexit)
set_option maxRecDepth 100000 in
set_option maxHeartbeats 4000000 in
theorem c_X0_weightOf (l : Launch) (g : cb_Geo) (p1 : Int32) (p2 : Int32) (M : cb_Mem) {rr : Int64} (h : f_X0_weightOf p1 p2 M = some rr) : Met l yX0_weightOf (.code yX0_weightOf cX0_weightOf 9 (some .long) :: cb_ws) (cb_rm 0) (cb_Pc cx g [.ref (g.2.1 5), .int p1, .int p2] M) (cb_Ql cx g rr M) 0 0 (cb_A cx g) := by
  refine cb_met (by decide) wd_752 (Nat.le_of_ble_eq_true rfl) (fun γ hC => ?_)
  replace hC : cb_C cx g γ RX0 cX0_weightOf 9 (some .long) 0 l (cb_Ql cx g rr M) := hC
  show cb_J cx g γ 9 M 0 [(0, .ref (g.2.1 5)), (1, .int p1), (2, .int p2)] []
  unfold f_X0_weightOf at h
  refine cj_lconst (v := 0) hC dX0_weightOf_0 rfl ?_
  refine cj_lstore_n (lv' := [(3, .long 0), (0, .ref (g.2.1 5)), (1, .int p1), (2, .int p2)]) hC dX0_weightOf_1 rfl (by decide) rfl ?_
  refine cj_iconst (v := 0) hC dX0_weightOf_2 rfl ?_
  refine cj_istore (lv' := [(5, .int 0), (3, .long 0), (0, .ref (g.2.1 5)), (1, .int p1), (2, .int p2)]) hC dX0_weightOf_3 (by decide) rfl ?_
  obtain ⟨y1, e1, h⟩ := cb_b h
  refine cj_pick [2, 3, 4, 1, 0] rfl ?_
  refine l_X0_weightOf_L5 hC p1 p2 cb_fuel _ _ _ e1 (fun ze1 hz => ?_)
  obtain rfl := hz
  refine cj_lload_n hC dX0_weightOf_79 rfl 0 rfl ?_
  obtain rfl := Option.some.inj h
  exact cj_lret hC dX0_weightOf_80
def f_X1_plant (i : Nat) (M : cb_Mem) : cb_Mem :=
  cb_let (cb_up M 3 6 (M (30 + i) 6)) fun M1 =>
  cb_let (cb_copy M1 (36 + i) 16 (0 : Int32).toNatClampNeg (0 : Int32).toNatClampNeg (8 : Int32).toNatClampNeg) fun M2 =>
  cb_let (cb_copy M2 (38 + i) 17 (0 : Int32).toNatClampNeg (0 : Int32).toNatClampNeg (8 : Int32).toNatClampNeg) fun M3 =>
  M3
set_option maxRecDepth 100000 in
set_option maxHeartbeats 4000000 in
theorem c_X1_plant (l : Launch) (g : cb_Geo) (i : Nat) (hi : i < 2) (M : cb_Mem) {Mr : cb_Mem} (h : f_X1_plant i M = Mr) : Met l yX1_plant (.code yX1_plant cX1_plant 2 none :: cb_ws) (cb_rm 1) (cb_Pc cx g [.ref (g.2.1 3), .ref (g.2.1 (30 + i))] M) (cb_Qv cx g Mr) 0 0 (cb_A cx g) := by
  refine cb_met (by decide) wd_531 (Nat.le_of_ble_eq_true rfl) (fun γ hC => ?_)
  replace hC : cb_C cx g γ RX1 cX1_plant 2 none 1 l (cb_Qv cx g Mr) := hC
  show cb_J cx g γ 2 M 0 [(0, .ref (g.2.1 3)), (1, .ref (g.2.1 (30 + i)))] []
  unfold f_X1_plant at h
  refine cj_aload_n hC dX1_plant_0 rfl 0 rfl ?_
  refine cj_aload_n hC dX1_plant_1 rfl 1 rfl ?_
  refine cj_get (v := .int (M (30 + i) 6)) hC fa_X1_30 (cx_l2 hi (by decide)) (cx_text hi g _) rfl dX1_plant_2 ?_
  obtain ⟨M1, eM1, h⟩ := cb_l h
  refine cj_put hC fp_X1_36 cx_l3_ (cx_e3 g _) rfl (Nat.le_of_ble_eq_true rfl) eM1 dX1_plant_5 ?_
  refine cj_aload_n hC dX1_plant_8 rfl 1 rfl ?_
  refine cj_get (v := .ref (g.2.1 (36 + i))) hC fa_X1_39 (cx_l2 hi (by decide)) (cx_text hi g _) rfl dX1_plant_9 ?_
  refine cj_iconst (v := 0) hC dX1_plant_12 rfl ?_
  refine cj_aload_n hC dX1_plant_13 rfl 0 rfl ?_
  refine cj_get (v := .ref (g.2.1 16)) hC fa_X1_9 cx_l3_ (cx_e3 g _) rfl dX1_plant_14 ?_
  refine cj_iconst (v := 0) hC dX1_plant_17 rfl ?_
  refine cj_bipush (v := 8) hC dX1_plant_18 rfl ?_
  obtain ⟨M2, eM2, h⟩ := cb_l h
  refine cj_copy hC wd_532 wd_534 wd_533 wd_79 (cx_l2 hi (by decide)) cx_l16_ (cx_tkinds hi g) (cx_e16 g) (cx_t0 g) ⟨by decide, by decide, by decide, by decide, by decide⟩ eM2 (by decide) (Nat.le_of_ble_eq_true rfl) dX1_plant_20 ?_
  refine cj_aload_n hC dX1_plant_23 rfl 1 rfl ?_
  refine cj_get (v := .ref (g.2.1 (38 + i))) hC fa_X1_48 (cx_l2 hi (by decide)) (cx_text hi g _) rfl dX1_plant_24 ?_
  refine cj_iconst (v := 0) hC dX1_plant_27 rfl ?_
  refine cj_aload_n hC dX1_plant_28 rfl 0 rfl ?_
  refine cj_get (v := .ref (g.2.1 17)) hC fa_X1_15 cx_l3_ (cx_e3 g _) rfl dX1_plant_29 ?_
  refine cj_iconst (v := 0) hC dX1_plant_32 rfl ?_
  refine cj_bipush (v := 8) hC dX1_plant_33 rfl ?_
  obtain ⟨M3, eM3, h⟩ := cb_l h
  refine cj_copy hC wd_532 wd_534 wd_533 wd_79 (cx_l2 hi (by decide)) cx_l17_ (cx_tdays hi g) (cx_e17 g) (cx_t0 g) ⟨by decide, by decide, by decide, by decide, by decide⟩ eM3 (by decide) (Nat.le_of_ble_eq_true rfl) dX1_plant_35 ?_
  obtain rfl := h
  exact cj_vret hC dX1_plant_38
def f_X1_invite (i : Nat) (M : cb_Mem) : cb_Mem :=
  cb_let (cb_up M 3 7 (M (30 + i) 6)) fun M1 =>
  cb_let (cb_copy M1 (36 + i) 18 (0 : Int32).toNatClampNeg (0 : Int32).toNatClampNeg (8 : Int32).toNatClampNeg) fun M2 =>
  cb_let (cb_copy M2 (38 + i) 19 (0 : Int32).toNatClampNeg (0 : Int32).toNatClampNeg (8 : Int32).toNatClampNeg) fun M3 =>
  cb_let (cb_copy M3 (40 + i) 20 (0 : Int32).toNatClampNeg (0 : Int32).toNatClampNeg (8 : Int32).toNatClampNeg) fun M4 =>
  M4
set_option maxRecDepth 100000 in
set_option maxHeartbeats 4000000 in
theorem c_X1_invite (l : Launch) (g : cb_Geo) (i : Nat) (hi : i < 2) (M : cb_Mem) {Mr : cb_Mem} (h : f_X1_invite i M = Mr) : Met l yX1_invite (.code yX1_invite cX1_invite 2 none :: cb_ws) (cb_rm 1) (cb_Pc cx g [.ref (g.2.1 3), .ref (g.2.1 (30 + i))] M) (cb_Qv cx g Mr) 0 0 (cb_A cx g) := by
  refine cb_met (by decide) wd_538 (Nat.le_of_ble_eq_true rfl) (fun γ hC => ?_)
  replace hC : cb_C cx g γ RX1 cX1_invite 2 none 1 l (cb_Qv cx g Mr) := hC
  show cb_J cx g γ 2 M 0 [(0, .ref (g.2.1 3)), (1, .ref (g.2.1 (30 + i)))] []
  unfold f_X1_invite at h
  refine cj_aload_n hC dX1_invite_0 rfl 0 rfl ?_
  refine cj_aload_n hC dX1_invite_1 rfl 1 rfl ?_
  refine cj_get (v := .int (M (30 + i) 6)) hC fa_X1_30 (cx_l2 hi (by decide)) (cx_text hi g _) rfl dX1_invite_2 ?_
  obtain ⟨M1, eM1, h⟩ := cb_l h
  refine cj_put hC fp_X1_51 cx_l3_ (cx_e3 g _) rfl (Nat.le_of_ble_eq_true rfl) eM1 dX1_invite_5 ?_
  refine cj_aload_n hC dX1_invite_8 rfl 1 rfl ?_
  refine cj_get (v := .ref (g.2.1 (36 + i))) hC fa_X1_39 (cx_l2 hi (by decide)) (cx_text hi g _) rfl dX1_invite_9 ?_
  refine cj_iconst (v := 0) hC dX1_invite_12 rfl ?_
  refine cj_aload_n hC dX1_invite_13 rfl 0 rfl ?_
  refine cj_get (v := .ref (g.2.1 18)) hC fa_X1_18 cx_l3_ (cx_e3 g _) rfl dX1_invite_14 ?_
  refine cj_iconst (v := 0) hC dX1_invite_17 rfl ?_
  refine cj_bipush (v := 8) hC dX1_invite_18 rfl ?_
  obtain ⟨M2, eM2, h⟩ := cb_l h
  refine cj_copy hC wd_532 wd_534 wd_533 wd_79 (cx_l2 hi (by decide)) cx_l18_ (cx_tkinds hi g) (cx_e18 g) (cx_t0 g) ⟨by decide, by decide, by decide, by decide, by decide⟩ eM2 (by decide) (Nat.le_of_ble_eq_true rfl) dX1_invite_20 ?_
  refine cj_aload_n hC dX1_invite_23 rfl 1 rfl ?_
  refine cj_get (v := .ref (g.2.1 (38 + i))) hC fa_X1_48 (cx_l2 hi (by decide)) (cx_text hi g _) rfl dX1_invite_24 ?_
  refine cj_iconst (v := 0) hC dX1_invite_27 rfl ?_
  refine cj_aload_n hC dX1_invite_28 rfl 0 rfl ?_
  refine cj_get (v := .ref (g.2.1 19)) hC fa_X1_21 cx_l3_ (cx_e3 g _) rfl dX1_invite_29 ?_
  refine cj_iconst (v := 0) hC dX1_invite_32 rfl ?_
  refine cj_bipush (v := 8) hC dX1_invite_33 rfl ?_
  obtain ⟨M3, eM3, h⟩ := cb_l h
  refine cj_copy hC wd_532 wd_534 wd_533 wd_79 (cx_l2 hi (by decide)) cx_l19_ (cx_tdays hi g) (cx_e19 g) (cx_t0 g) ⟨by decide, by decide, by decide, by decide, by decide⟩ eM3 (by decide) (Nat.le_of_ble_eq_true rfl) dX1_invite_35 ?_
  refine cj_aload_n hC dX1_invite_38 rfl 1 rfl ?_
  refine cj_get (v := .ref (g.2.1 (40 + i))) hC fa_X1_54 (cx_l2 hi (by decide)) (cx_text hi g _) rfl dX1_invite_39 ?_
  refine cj_iconst (v := 0) hC dX1_invite_42 rfl ?_
  refine cj_aload_n hC dX1_invite_43 rfl 0 rfl ?_
  refine cj_get (v := .ref (g.2.1 20)) hC fa_X1_24 cx_l3_ (cx_e3 g _) rfl dX1_invite_44 ?_
  refine cj_iconst (v := 0) hC dX1_invite_47 rfl ?_
  refine cj_bipush (v := 8) hC dX1_invite_48 rfl ?_
  obtain ⟨M4, eM4, h⟩ := cb_l h
  refine cj_copy hC wd_532 wd_534 wd_533 wd_79 (cx_l2 hi (by decide)) cx_l20_ (cx_tlens hi g) (cx_e20 g) (cx_t0 g) ⟨by decide, by decide, by decide, by decide, by decide⟩ eM4 (by decide) (Nat.le_of_ble_eq_true rfl) dX1_invite_50 ?_
  obtain rfl := h
  exact cj_vret hC dX1_invite_53
def f_X1_freeze_L7 : Nat → Int32 → cb_Mem → Option (cb_Mem)
    | 0, _, _ => none
    | n + 1, v2, M =>
      if (M 8 1) ≤ v2 then
      some M
      else
      (f_X2_at 8 12 6 v2 M).bind fun x1 =>
      cb_let (cb_up M 3 8 ((M 3 8) ||| ((1 : Int32) <<< (x1 &&& 31)))) fun M1 =>
      f_X1_freeze_L7 n (v2 + 1) M1
def f_X1_freeze  (M : cb_Mem) : Option (cb_Mem) :=
  cb_let (cb_up M 3 8 0) fun M1 =>
  (f_X1_freeze_L7 cb_fuel 0 M1).bind fun M2 =>
  some M2
set_option maxRecDepth 100000 in
set_option maxHeartbeats 4000000 in
theorem l_X1_freeze_L7 {l : Launch} {g : cb_Geo} {γ : cb_Gam} {Mr : cb_Mem} (hC : cb_C cx g γ RX1 cX1_freeze 3 none 1 l (cb_Qv cx g Mr))  : ∀ (n : Nat) (v2 : Int32) (M : cb_Mem) (o : (cb_Mem)), f_X1_freeze_L7 n v2 M = some o → (∀ (M' : cb_Mem), o = M' → cb_J cx g γ 3 M' 37 [] []) → cb_J cx g γ 3 M 7 [(0, .ref (g.2.1 3)), (1, .ref (g.2.1 8)), (2, .int v2)] [] := by
  intro n
  induction n with
  | zero =>
    intro v2 M o h
    cases h
  | succ n ih =>
    intro v2 M o h hexit
    unfold f_X1_freeze_L7 at h
    refine cj_iload_n hC dX1_freeze_7 rfl 2 rfl ?_
    refine cj_aload_n hC dX1_freeze_8 rfl 1 rfl ?_
    refine cj_get (v := .int (M 8 1)) hC fa_X1_60 (cx_lt cx_row8.1) (cx_row8.2.2.1 g _) rfl dX1_freeze_9 ?_
    refine cj_icmp_ge (tgt := 37) hC dX1_freeze_12 (by decide) (fun c1 => ?_) (fun c1 => ?_)
    · replace h := cb_T c1 h
      obtain rfl := Option.some.inj h
      exact cj_pick [] rfl (hexit _ rfl)
    · replace h := cb_F c1 h
      refine cj_aload_n hC dX1_freeze_15 rfl 0 rfl ?_
      refine cj_dup hC dX1_freeze_16 rfl ?_
      refine cj_get (v := .int (M 3 8)) hC fa_X1_57 cx_l3_ (cx_e3 g _) rfl dX1_freeze_17 ?_
      refine cj_iconst (v := 1) hC dX1_freeze_20 rfl ?_
      refine cj_aload_n hC dX1_freeze_21 rfl 1 rfl ?_
      refine cj_iload_n hC dX1_freeze_22 rfl 2 rfl ?_
      obtain ⟨x1, e1, h⟩ := cb_b h
      refine cj_callVi (As := [.int v2]) hC cv_X1_65 (cx_lt cx_row8.1) (cx_row8.2.2.1 g _) rfl (c_X2_at l g 8 12 6 cx_row8 v2 M e1) (by decide) rfl rfl (Nat.le_of_ble_eq_true rfl) dX1_freeze_23 ?_
      refine cj_ishl hC dX1_freeze_26 ?_
      refine cj_ior hC dX1_freeze_27 ?_
      obtain ⟨M1, eM1, h⟩ := cb_l h
      refine cj_put hC fp_X1_57 cx_l3_ (cx_e3 g _) rfl (Nat.le_of_ble_eq_true rfl) eM1 dX1_freeze_28 ?_
      refine cj_iinc (lv' := [(2, .int (v2 + 1)), (0, .ref (g.2.1 3)), (1, .ref (g.2.1 8))]) hC dX1_freeze_31 (q := 2) rfl rfl (by decide) rfl ?_
      refine cj_goto (tgt := 7) hC dX1_freeze_34 (by decide) ?_
      exact cj_pick [1, 2, 0] rfl (ih _ _ _ h hexit)
set_option maxRecDepth 100000 in
set_option maxHeartbeats 4000000 in
theorem c_X1_freeze (l : Launch) (g : cb_Geo)  (M : cb_Mem) {Mr : cb_Mem} (h : f_X1_freeze  M = some Mr) : Met l yX1_freeze (.code yX1_freeze cX1_freeze 3 none :: cb_ws) (cb_rm 1) (cb_Pc cx g [.ref (g.2.1 3), .ref (g.2.1 8)] M) (cb_Qv cx g Mr) 0 0 (cb_A cx g) := by
  refine cb_met (by decide) wd_542 (Nat.le_of_ble_eq_true rfl) (fun γ hC => ?_)
  replace hC : cb_C cx g γ RX1 cX1_freeze 3 none 1 l (cb_Qv cx g Mr) := hC
  show cb_J cx g γ 3 M 0 [(0, .ref (g.2.1 3)), (1, .ref (g.2.1 8))] []
  unfold f_X1_freeze at h
  refine cj_aload_n hC dX1_freeze_0 rfl 0 rfl ?_
  refine cj_iconst (v := 0) hC dX1_freeze_1 rfl ?_
  obtain ⟨M1, eM1, h⟩ := cb_l h
  refine cj_put hC fp_X1_57 cx_l3_ (cx_e3 g _) rfl (Nat.le_of_ble_eq_true rfl) eM1 dX1_freeze_2 ?_
  refine cj_iconst (v := 0) hC dX1_freeze_5 rfl ?_
  refine cj_istore_n (lv' := [(2, .int 0), (0, .ref (g.2.1 3)), (1, .ref (g.2.1 8))]) hC dX1_freeze_6 rfl (by decide) rfl ?_
  obtain ⟨M2, e1, h⟩ := cb_b h
  refine cj_pick [1, 2, 0] rfl ?_
  refine l_X1_freeze_L7 hC  cb_fuel _ _ _ e1 (fun ze1 hz => ?_)
  obtain rfl := hz
  obtain rfl := Option.some.inj h
  exact cj_vret hC dX1_freeze_37
def f_X1_letRabbitsIn_L11 : Nat → Int32 → Int32 → cb_Mem → Option (cb_Mem)
    | 0, _, _, _ => none
    | n + 1, v2, v3, M =>
      if (M 10 1) ≤ v3 then
      some M
      else
      (f_X2_at 10 14 8 v3 M).bind fun x1 =>
      cb_let ((x1 - x1 / 8 * 8)) fun x2 =>
      Option.bind (if ((v2 >>> (v3 &&& 31)) &&& 1) = 0 then
      cb_let (f_X6_isOff x2 8) fun x3 =>
      if x3 = 0 then
      if cb_in x2 8 = true then
      (f_X2_at 10 14 8 v3 M).bind fun x4 =>
      if cb_in x2 8 = true then
      cb_let (cb_up M 21 x2.toNatClampNeg (cb_min (M 21 x2.toNatClampNeg) (x4 / 8))) fun M2 =>
      some M2
      else none
      else none
      else
      some M
      else
      some M) fun M1 =>
      f_X1_letRabbitsIn_L11 n v2 (v3 + 1) M1
def f_X1_letRabbitsIn (p1 : Int32) (M : cb_Mem) : Option (cb_Mem) :=
  (f_J7_fill_53178 21 8 40 M).bind fun M1 =>
  (f_X1_letRabbitsIn_L11 cb_fuel p1 0 M1).bind fun M2 =>
  some M2
set_option maxRecDepth 100000 in
set_option maxHeartbeats 4000000 in
theorem l_X1_letRabbitsIn_L11 {l : Launch} {g : cb_Geo} {γ : cb_Gam} {Mr : cb_Mem} (hC : cb_C cx g γ RX1 cX1_letRabbitsIn 5 none 1 l (cb_Qv cx g Mr)) (v2 : Int32) : ∀ (n : Nat) (v3 : Int32) (M : cb_Mem) (o : (cb_Mem)), f_X1_letRabbitsIn_L11 n v2 v3 M = some o → (∀ (M' : cb_Mem), o = M' → cb_J cx g γ 5 M' 81 [] []) → cb_J cx g γ 5 M 11 [(0, .ref (g.2.1 3)), (1, .ref (g.2.1 10)), (2, .int v2), (3, .int v3)] [] := by
  intro n
  induction n with
  | zero =>
    intro v3 M o h
    cases h
  | succ n ih =>
    intro v3 M o h hexit
    unfold f_X1_letRabbitsIn_L11 at h
    refine cj_iload_n hC dX1_letRabbitsIn_11 rfl 3 rfl ?_
    refine cj_aload_n hC dX1_letRabbitsIn_12 rfl 1 rfl ?_
    refine cj_get (v := .int (M 10 1)) hC fa_X1_60 (cx_lt cx_row10.1) (cx_row10.2.2.1 g _) rfl dX1_letRabbitsIn_13 ?_
    refine cj_icmp_ge (tgt := 81) hC dX1_letRabbitsIn_16 (by decide) (fun c1 => ?_) (fun c1 => ?_)
    · replace h := cb_T c1 h
      obtain rfl := Option.some.inj h
      exact cj_pick [] rfl (hexit _ rfl)
    · replace h := cb_F c1 h
      refine cj_aload_n hC dX1_letRabbitsIn_19 rfl 1 rfl ?_
      refine cj_iload_n hC dX1_letRabbitsIn_20 rfl 3 rfl ?_
      obtain ⟨x1, e1, h⟩ := cb_b h
      refine cj_callVi (As := [.int v3]) hC cv_X1_65 (cx_lt cx_row10.1) (cx_row10.2.2.1 g _) rfl (c_X2_at l g 10 14 8 cx_row10 v3 M e1) (by decide) rfl rfl (Nat.le_of_ble_eq_true rfl) dX1_letRabbitsIn_21 ?_
      refine cj_bipush (v := 8) hC dX1_letRabbitsIn_24 rfl ?_
      refine cj_irem hC dX1_letRabbitsIn_26 (by decide) ?_
      obtain ⟨x2, ex2, h⟩ := cb_l h
      refine cj_topi ex2 ?_
      refine cj_istore (lv' := [(4, .int x2), (0, .ref (g.2.1 3)), (1, .ref (g.2.1 10)), (2, .int v2), (3, .int v3)]) hC dX1_letRabbitsIn_27 (by decide) rfl ?_
      refine cj_iload_n hC dX1_letRabbitsIn_29 rfl 3 rfl ?_
      refine cj_iload_n hC dX1_letRabbitsIn_30 rfl 4 rfl ?_
      refine cj_ishr hC dX1_letRabbitsIn_31 ?_
      refine cj_iconst (v := 1) hC dX1_letRabbitsIn_32 rfl ?_
      refine cj_iand hC dX1_letRabbitsIn_33 ?_
      obtain ⟨M1, hx1, h⟩ := cb_b h
      have hj1 : cb_J cx g γ 5 M1 75 [(0, .ref (g.2.1 3)), (1, .ref (g.2.1 10)), (2, .int v2), (3, .int v3)] [] := by
        refine cj_iinc (lv' := [(3, .int (v3 + 1)), (0, .ref (g.2.1 3)), (1, .ref (g.2.1 10)), (2, .int v2)]) hC dX1_letRabbitsIn_75 (q := 3) rfl rfl (by decide) rfl ?_
        refine cj_goto (tgt := 11) hC dX1_letRabbitsIn_78 (by decide) ?_
        exact cj_pick [1, 2, 3, 0] rfl (ih _ _ _ h hexit)
      refine cj_if_ne (tgt := 75) hC dX1_letRabbitsIn_34 (by decide) (fun c2 => ?_) (fun c2 => ?_)
      · replace hx1 := cb_F c2 hx1
        obtain rfl := Option.some.inj hx1
        exact cj_pick [1, 2, 3, 4] rfl hj1
      · replace hx1 := cb_T c2 hx1
        refine cj_iload hC dX1_letRabbitsIn_37 0 rfl ?_
        refine cj_bipush (v := 8) hC dX1_letRabbitsIn_39 rfl ?_
        obtain ⟨x3, e2, hx1⟩ := cb_l hx1
        refine cj_callNi (As := [.int x2, .int 8]) hC cn_X1_75 (c_X6_isOff l g x2 8 M e2.symm) (by decide) rfl rfl (Nat.le_of_ble_eq_true rfl) dX1_letRabbitsIn_41 ?_
        refine cj_if_eq (tgt := 50) hC dX1_letRabbitsIn_44 (by decide) (fun c3 => ?_) (fun c3 => ?_)
        · replace hx1 := cb_T c3 hx1
          refine cj_aload_n hC dX1_letRabbitsIn_50 rfl 1 rfl ?_
          refine cj_get (v := .ref (g.2.1 21)) hC fa_X1_27 cx_l3_ (cx_e3 g _) rfl dX1_letRabbitsIn_51 ?_
          refine cj_iload hC dX1_letRabbitsIn_54 0 rfl ?_
          refine cj_aload_n hC dX1_letRabbitsIn_56 rfl 1 rfl ?_
          refine cj_get (v := .ref (g.2.1 21)) hC fa_X1_27 cx_l3_ (cx_e3 g _) rfl dX1_letRabbitsIn_57 ?_
          refine cj_iload hC dX1_letRabbitsIn_60 0 rfl ?_
          obtain ⟨i1, hx1⟩ := cb_g hx1
          refine cj_iald hC cx_l21_ (cx_e21 g _) (cx_t0 g) i1 dX1_letRabbitsIn_62 ?_
          refine cj_aload_n hC dX1_letRabbitsIn_63 rfl 2 rfl ?_
          refine cj_iload_n hC dX1_letRabbitsIn_64 rfl 4 rfl ?_
          obtain ⟨x4, e3, hx1⟩ := cb_b hx1
          refine cj_callVi (As := [.int v3]) hC cv_X1_65 (cx_lt cx_row10.1) (cx_row10.2.2.1 g _) rfl (c_X2_at l g 10 14 8 cx_row10 v3 M e3) (by decide) rfl rfl (Nat.le_of_ble_eq_true rfl) dX1_letRabbitsIn_65 ?_
          refine cj_bipush (v := 8) hC dX1_letRabbitsIn_68 rfl ?_
          refine cj_idiv hC dX1_letRabbitsIn_70 (by decide) ?_
          refine cj_min hC wd_552 wd_382 wd_68 wd_383 (by decide) (Nat.le_of_ble_eq_true rfl) dX1_letRabbitsIn_71 ?_
          obtain ⟨i2, hx1⟩ := cb_g hx1
          obtain ⟨M2, eM2, hx1⟩ := cb_l hx1
          refine cj_iast hC cx_l21_ (cx_e21 g) (cx_t0 g) i2 eM2 dX1_letRabbitsIn_74 ?_
          obtain rfl := Option.some.inj hx1
          exact cj_pick [1, 2, 3, 4] rfl hj1
        · replace hx1 := cb_F c3 hx1
          refine cj_goto (tgt := 75) hC dX1_letRabbitsIn_47 (by decide) ?_
          obtain rfl := Option.some.inj hx1
          exact cj_pick [1, 2, 3, 4] rfl hj1
set_option maxRecDepth 100000 in
set_option maxHeartbeats 4000000 in
theorem c_X1_letRabbitsIn (l : Launch) (g : cb_Geo) (p1 : Int32) (M : cb_Mem) {Mr : cb_Mem} (h : f_X1_letRabbitsIn p1 M = some Mr) : Met l yX1_letRabbitsIn (.code yX1_letRabbitsIn cX1_letRabbitsIn 5 none :: cb_ws) (cb_rm 1) (cb_Pc cx g [.ref (g.2.1 3), .ref (g.2.1 10), .int p1] M) (cb_Qv cx g Mr) 0 0 (cb_A cx g) := by
  refine cb_met (by decide) wd_547 (Nat.le_of_ble_eq_true rfl) (fun γ hC => ?_)
  replace hC : cb_C cx g γ RX1 cX1_letRabbitsIn 5 none 1 l (cb_Qv cx g Mr) := hC
  show cb_J cx g γ 5 M 0 [(0, .ref (g.2.1 3)), (1, .ref (g.2.1 10)), (2, .int p1)] []
  unfold f_X1_letRabbitsIn at h
  refine cj_aload_n hC dX1_letRabbitsIn_0 rfl 0 rfl ?_
  refine cj_get (v := .ref (g.2.1 21)) hC fa_X1_27 cx_l3_ (cx_e3 g _) rfl dX1_letRabbitsIn_1 ?_
  refine cj_bipush (v := 40) hC dX1_letRabbitsIn_4 rfl ?_
  obtain ⟨M1, e1, h⟩ := cb_b h
  refine cj_callSv (As := [.ref (g.2.1 21), .int 40]) hC cs_X1_69 (c_J7_fill_53178 l g 21 8 cx_l21_ (cx_e21 g) 40 M e1) (by decide) rfl rfl (Nat.le_of_ble_eq_true rfl) dX1_letRabbitsIn_6 ?_
  refine cj_iconst (v := 0) hC dX1_letRabbitsIn_9 rfl ?_
  refine cj_istore_n (lv' := [(3, .int 0), (0, .ref (g.2.1 3)), (1, .ref (g.2.1 10)), (2, .int p1)]) hC dX1_letRabbitsIn_10 rfl (by decide) rfl ?_
  obtain ⟨M2, e2, h⟩ := cb_b h
  refine cj_pick [1, 2, 3, 0] rfl ?_
  refine l_X1_letRabbitsIn_L11 hC p1 cb_fuel _ _ _ e2 (fun ze2 hz => ?_)
  obtain rfl := hz
  obtain rfl := Option.some.inj h
  exact cj_vret hC dX1_letRabbitsIn_81
def f_X1_comesOn (p1 : Int32) (p2 : Int32) (M : cb_Mem) : Option (Int32) :=
  if cb_in p1 8 = true then
  if p2 < (M 19 p1.toNatClampNeg) then
  some (0 : Int32)
  else
  if cb_in p1 8 = true then
  if cb_in p1 8 = true then
  if ((M 19 p1.toNatClampNeg) + (M 20 p1.toNatClampNeg)) ≤ p2 then
  some (0 : Int32)
  else
  some (1 : Int32)
  else none
  else none
  else none
set_option maxRecDepth 100000 in
set_option maxHeartbeats 4000000 in
theorem c_X1_comesOn (l : Launch) (g : cb_Geo) (p1 : Int32) (p2 : Int32) (M : cb_Mem) {rr : Int32} (h : f_X1_comesOn p1 p2 M = some rr) : Met l yX1_comesOn (.code yX1_comesOn cX1_comesOn 3 (some .boolean) :: cb_ws) (cb_rm 0) (cb_Pc cx g [.ref (g.2.1 3), .int p1, .int p2] M) (cb_Qi cx g rr M) 0 0 (cb_A cx g) := by
  refine cb_met (by decide) wd_638 (Nat.le_of_ble_eq_true rfl) (fun γ hC => ?_)
  replace hC : cb_C cx g γ RX1 cX1_comesOn 3 (some .boolean) 0 l (cb_Qi cx g rr M) := hC
  show cb_J cx g γ 3 M 0 [(0, .ref (g.2.1 3)), (1, .int p1), (2, .int p2)] []
  unfold f_X1_comesOn at h
  refine cj_aload_n hC dX1_comesOn_0 rfl 0 rfl ?_
  refine cj_get (v := .ref (g.2.1 19)) hC fa_X1_21 cx_l3_ (cx_e3 g _) rfl dX1_comesOn_1 ?_
  refine cj_iload_n hC dX1_comesOn_4 rfl 1 rfl ?_
  obtain ⟨i1, h⟩ := cb_g h
  refine cj_iald hC cx_l19_ (cx_e19 g _) (cx_t0 g) i1 dX1_comesOn_5 ?_
  refine cj_iload_n hC dX1_comesOn_6 rfl 2 rfl ?_
  refine cj_icmp_gt (tgt := 31) hC dX1_comesOn_7 (by decide) (fun c1 => ?_) (fun c1 => ?_)
  · replace h := cb_T c1 h
    refine cj_iconst (v := 0) hC dX1_comesOn_31 rfl ?_
    obtain rfl := Option.some.inj h
    exact cj_zret hC (Or.inl rfl) dX1_comesOn_32
  · replace h := cb_F c1 h
    refine cj_iload_n hC dX1_comesOn_10 rfl 2 rfl ?_
    refine cj_aload_n hC dX1_comesOn_11 rfl 0 rfl ?_
    refine cj_get (v := .ref (g.2.1 19)) hC fa_X1_21 cx_l3_ (cx_e3 g _) rfl dX1_comesOn_12 ?_
    refine cj_iload_n hC dX1_comesOn_15 rfl 1 rfl ?_
    obtain ⟨i2, h⟩ := cb_g h
    refine cj_iald hC cx_l19_ (cx_e19 g _) (cx_t0 g) i2 dX1_comesOn_16 ?_
    refine cj_aload_n hC dX1_comesOn_17 rfl 0 rfl ?_
    refine cj_get (v := .ref (g.2.1 20)) hC fa_X1_24 cx_l3_ (cx_e3 g _) rfl dX1_comesOn_18 ?_
    refine cj_iload_n hC dX1_comesOn_21 rfl 1 rfl ?_
    obtain ⟨i3, h⟩ := cb_g h
    refine cj_iald hC cx_l20_ (cx_e20 g _) (cx_t0 g) i3 dX1_comesOn_22 ?_
    refine cj_iadd hC dX1_comesOn_23 ?_
    refine cj_icmp_ge (tgt := 31) hC dX1_comesOn_24 (by decide) (fun c2 => ?_) (fun c2 => ?_)
    · replace h := cb_T c2 h
      refine cj_iconst (v := 0) hC dX1_comesOn_31 rfl ?_
      obtain rfl := Option.some.inj h
      exact cj_zret hC (Or.inl rfl) dX1_comesOn_32
    · replace h := cb_F c2 h
      refine cj_iconst (v := 1) hC dX1_comesOn_27 rfl ?_
      refine cj_goto (tgt := 32) hC dX1_comesOn_28 (by decide) ?_
      obtain rfl := Option.some.inj h
      exact cj_zret hC (Or.inr rfl) dX1_comesOn_32
def f_X1_isWantedBy (p1 : Int32) (p2 : Int32) (M : cb_Mem) : Option (Int32) :=
  if cb_in p1 8 = true then
  cb_let (fun (_ : Unit) =>
  some (1 : Int32)) fun k1 =>
  if (M 18 p1.toNatClampNeg) = 3 then
  k1 ()
  else
  if cb_in p1 8 = true then
  if (M 18 p1.toNatClampNeg) = p2 then
  k1 ()
  else
  some (0 : Int32)
  else none
  else none
set_option maxRecDepth 100000 in
set_option maxHeartbeats 4000000 in
theorem c_X1_isWantedBy (l : Launch) (g : cb_Geo) (p1 : Int32) (p2 : Int32) (M : cb_Mem) {rr : Int32} (h : f_X1_isWantedBy p1 p2 M = some rr) : Met l yX1_isWantedBy (.code yX1_isWantedBy cX1_isWantedBy 3 (some .boolean) :: cb_ws) (cb_rm 0) (cb_Pc cx g [.ref (g.2.1 3), .int p1, .int p2] M) (cb_Qi cx g rr M) 0 0 (cb_A cx g) := by
  refine cb_met (by decide) wd_642 (Nat.le_of_ble_eq_true rfl) (fun γ hC => ?_)
  replace hC : cb_C cx g γ RX1 cX1_isWantedBy 3 (some .boolean) 0 l (cb_Qi cx g rr M) := hC
  show cb_J cx g γ 3 M 0 [(0, .ref (g.2.1 3)), (1, .int p1), (2, .int p2)] []
  unfold f_X1_isWantedBy at h
  refine cj_aload_n hC dX1_isWantedBy_0 rfl 0 rfl ?_
  refine cj_get (v := .ref (g.2.1 18)) hC fa_X1_18 cx_l3_ (cx_e3 g _) rfl dX1_isWantedBy_1 ?_
  refine cj_iload_n hC dX1_isWantedBy_4 rfl 1 rfl ?_
  obtain ⟨i1, h⟩ := cb_g h
  refine cj_iald hC cx_l18_ (cx_e18 g _) (cx_t0 g) i1 dX1_isWantedBy_5 ?_
  refine cj_iconst (v := 3) hC dX1_isWantedBy_6 rfl ?_
  obtain ⟨k1, ek1, h⟩ := cb_l h
  have hk1 : ∀ (u9 : Unit), k1 u9 = some rr → cb_J cx g γ 3 M 20 [] [] := by
    intro u9 h
    replace h := cb_k1 ek1 h
    refine cj_iconst (v := 1) hC dX1_isWantedBy_20 rfl ?_
    refine cj_goto (tgt := 25) hC dX1_isWantedBy_21 (by decide) ?_
    obtain rfl := Option.some.inj h
    exact cj_zret hC (Or.inr rfl) dX1_isWantedBy_25
  refine cj_icmp_eq (tgt := 20) hC dX1_isWantedBy_7 (by decide) (fun c1 => ?_) (fun c1 => ?_)
  · replace h := cb_T c1 h
    exact cj_pick [] rfl (hk1 _ h)
  · replace h := cb_F c1 h
    refine cj_aload_n hC dX1_isWantedBy_10 rfl 0 rfl ?_
    refine cj_get (v := .ref (g.2.1 18)) hC fa_X1_18 cx_l3_ (cx_e3 g _) rfl dX1_isWantedBy_11 ?_
    refine cj_iload_n hC dX1_isWantedBy_14 rfl 1 rfl ?_
    obtain ⟨i2, h⟩ := cb_g h
    refine cj_iald hC cx_l18_ (cx_e18 g _) (cx_t0 g) i2 dX1_isWantedBy_15 ?_
    refine cj_iload_n hC dX1_isWantedBy_16 rfl 2 rfl ?_
    refine cj_icmp_ne (tgt := 24) hC dX1_isWantedBy_17 (by decide) (fun c2 => ?_) (fun c2 => ?_)
    · replace h := cb_F c2 h
      refine cj_iconst (v := 0) hC dX1_isWantedBy_24 rfl ?_
      obtain rfl := Option.some.inj h
      exact cj_zret hC (Or.inl rfl) dX1_isWantedBy_25
    · replace h := cb_T c2 h
      exact cj_pick [] rfl (hk1 _ h)
def f_X1_firstRipe_L9 : Nat → Int32 → Int32 → Int32 → cb_Mem → Option ((Int32) ⊕ (Int32))
    | 0, _, _, _, _ => none
    | n + 1, v1, v2, v3, M =>
      if 30 ≤ v3 then
      some (Sum.inr v2)
      else
      if v2 ≤ v3 then
      some (Sum.inr v2)
      else
      if ((M 3 8) >>> (v3 &&& 31)) = 0 then
      some (Sum.inr v2)
      else
      cb_let (fun (x1 : Int32) =>
      f_X1_firstRipe_L9 n v1 x1 (v3 + 1) M) fun k1 =>
      if (((M 3 8) >>> (v3 &&& 31)) &&& 1) = 0 then
      k1 v2
      else
      if cb_in v1 8 = true then
      if (M 16 v1.toNatClampNeg) = 2 then
      some (Sum.inl ((-1) : Int32))
      else
      if cb_in v1 8 = true then
      if (M 16 v1.toNatClampNeg) = 0 then
      k1 (v2 + 1)
      else
      k1 v2
      else none
      else none
def f_X1_firstRipe (p1 : Int32) (M : cb_Mem) : Option (Int32) :=
  if cb_in p1 8 = true then
  cb_let ((M 17 p1.toNatClampNeg)) fun x1 =>
  cb_bs (f_X1_firstRipe_L9 cb_fuel p1 x1 0 M) (fun r => some r) fun x2 =>
  some x2
  else none
set_option maxRecDepth 100000 in
set_option maxHeartbeats 4000000 in
theorem l_X1_firstRipe_L9 {l : Launch} {g : cb_Geo} {γ : cb_Gam} {rr : Int32} {M : cb_Mem} (hC : cb_C cx g γ RX1 cX1_firstRipe 4 (some .int) 0 l (cb_Qi cx g rr M)) (v1 : Int32) : ∀ (n : Nat) (v2 : Int32) (v3 : Int32) (o : ((Int32) ⊕ (Int32))), f_X1_firstRipe_L9 n v1 v2 v3 M = some o → (∀ (u : Int32), o = Sum.inl u → u = rr) → (∀ (v2' : Int32), o = Sum.inr v2' → cb_J cx g γ 4 M 73 [(2, .int v2')] []) → cb_J cx g γ 4 M 9 [(0, .ref (g.2.1 3)), (1, .int v1), (2, .int v2), (3, .int v3)] [] := by
  intro n
  induction n with
  | zero =>
    intro v2 v3 o h
    cases h
  | succ n ih =>
    intro v2 v3 o h hret hexit
    unfold f_X1_firstRipe_L9 at h
    refine cj_iload_n hC dX1_firstRipe_9 rfl 3 rfl ?_
    refine cj_bipush (v := 30) hC dX1_firstRipe_10 rfl ?_
    refine cj_icmp_ge (tgt := 73) hC dX1_firstRipe_12 (by decide) (fun c1 => ?_) (fun c1 => ?_)
    · replace h := cb_T c1 h
      obtain rfl := Option.some.inj h
      exact cj_pick [2] rfl (hexit _ rfl)
    · replace h := cb_F c1 h
      refine cj_iload_n hC dX1_firstRipe_15 rfl 3 rfl ?_
      refine cj_iload_n hC dX1_firstRipe_16 rfl 2 rfl ?_
      refine cj_icmp_ge (tgt := 73) hC dX1_firstRipe_17 (by decide) (fun c2 => ?_) (fun c2 => ?_)
      · replace h := cb_T c2 h
        obtain rfl := Option.some.inj h
        exact cj_pick [2] rfl (hexit _ rfl)
      · replace h := cb_F c2 h
        refine cj_aload_n hC dX1_firstRipe_20 rfl 0 rfl ?_
        refine cj_get (v := .int (M 3 8)) hC fa_X1_57 cx_l3_ (cx_e3 g _) rfl dX1_firstRipe_21 ?_
        refine cj_iload_n hC dX1_firstRipe_24 rfl 3 rfl ?_
        refine cj_ishr hC dX1_firstRipe_25 ?_
        refine cj_if_eq (tgt := 73) hC dX1_firstRipe_26 (by decide) (fun c3 => ?_) (fun c3 => ?_)
        · replace h := cb_T c3 h
          obtain rfl := Option.some.inj h
          exact cj_pick [2] rfl (hexit _ rfl)
        · replace h := cb_F c3 h
          refine cj_aload_n hC dX1_firstRipe_29 rfl 0 rfl ?_
          refine cj_get (v := .int (M 3 8)) hC fa_X1_57 cx_l3_ (cx_e3 g _) rfl dX1_firstRipe_30 ?_
          refine cj_iload_n hC dX1_firstRipe_33 rfl 3 rfl ?_
          refine cj_ishr hC dX1_firstRipe_34 ?_
          refine cj_iconst (v := 1) hC dX1_firstRipe_35 rfl ?_
          refine cj_iand hC dX1_firstRipe_36 ?_
          obtain ⟨k1, ek1, h⟩ := cb_l h
          have hk1 : ∀ (x1 : Int32), k1 x1 = some o → cb_J cx g γ 4 M 67 [(0, .ref (g.2.1 3)), (1, .int v1), (2, .int x1), (3, .int v3)] [] := by
            intro x1 h
            replace h := cb_k1 ek1 h
            refine cj_iinc (lv' := [(3, .int (v3 + 1)), (0, .ref (g.2.1 3)), (1, .int v1), (2, .int x1)]) hC dX1_firstRipe_67 (q := 3) rfl rfl (by decide) rfl ?_
            refine cj_goto (tgt := 9) hC dX1_firstRipe_70 (by decide) ?_
            exact cj_pick [1, 2, 3, 0] rfl (ih _ _ _ h hret hexit)
          refine cj_if_ne (tgt := 43) hC dX1_firstRipe_37 (by decide) (fun c4 => ?_) (fun c4 => ?_)
          · replace h := cb_F c4 h
            refine cj_aload_n hC dX1_firstRipe_43 rfl 0 rfl ?_
            refine cj_get (v := .ref (g.2.1 16)) hC fa_X1_9 cx_l3_ (cx_e3 g _) rfl dX1_firstRipe_44 ?_
            refine cj_iload_n hC dX1_firstRipe_47 rfl 1 rfl ?_
            obtain ⟨i1, h⟩ := cb_g h
            refine cj_iald hC cx_l16_ (cx_e16 g _) (cx_t0 g) i1 dX1_firstRipe_48 ?_
            refine cj_iconst (v := 2) hC dX1_firstRipe_49 rfl ?_
            refine cj_icmp_ne (tgt := 55) hC dX1_firstRipe_50 (by decide) (fun c5 => ?_) (fun c5 => ?_)
            · replace h := cb_F c5 h
              refine cj_aload_n hC dX1_firstRipe_55 rfl 0 rfl ?_
              refine cj_get (v := .ref (g.2.1 16)) hC fa_X1_9 cx_l3_ (cx_e3 g _) rfl dX1_firstRipe_56 ?_
              refine cj_iload_n hC dX1_firstRipe_59 rfl 1 rfl ?_
              obtain ⟨i2, h⟩ := cb_g h
              refine cj_iald hC cx_l16_ (cx_e16 g _) (cx_t0 g) i2 dX1_firstRipe_60 ?_
              refine cj_if_ne (tgt := 67) hC dX1_firstRipe_61 (by decide) (fun c6 => ?_) (fun c6 => ?_)
              · replace h := cb_F c6 h
                exact cj_pick [0, 1, 2, 3] rfl (hk1 _ h)
              · replace h := cb_T c6 h
                refine cj_iinc (lv' := [(2, .int (v2 + 1)), (0, .ref (g.2.1 3)), (1, .int v1), (3, .int v3)]) hC dX1_firstRipe_64 (q := 2) rfl rfl (by decide) rfl ?_
                exact cj_pick [1, 2, 0, 3] rfl (hk1 _ h)
            · replace h := cb_T c5 h
              refine cj_iconst (v := (-1)) hC dX1_firstRipe_53 rfl ?_
              obtain rfl := Option.some.inj h
              obtain rfl := hret _ rfl
              exact cj_iret hC dX1_firstRipe_54
          · replace h := cb_T c4 h
            refine cj_goto (tgt := 67) hC dX1_firstRipe_40 (by decide) ?_
            exact cj_pick [0, 1, 2, 3] rfl (hk1 _ h)
set_option maxRecDepth 100000 in
set_option maxHeartbeats 4000000 in
theorem c_X1_firstRipe (l : Launch) (g : cb_Geo) (p1 : Int32) (M : cb_Mem) {rr : Int32} (h : f_X1_firstRipe p1 M = some rr) : Met l yX1_firstRipe (.code yX1_firstRipe cX1_firstRipe 4 (some .int) :: cb_ws) (cb_rm 0) (cb_Pc cx g [.ref (g.2.1 3), .int p1] M) (cb_Qi cx g rr M) 0 0 (cb_A cx g) := by
  refine cb_met (by decide) wd_570 (Nat.le_of_ble_eq_true rfl) (fun γ hC => ?_)
  replace hC : cb_C cx g γ RX1 cX1_firstRipe 4 (some .int) 0 l (cb_Qi cx g rr M) := hC
  show cb_J cx g γ 4 M 0 [(0, .ref (g.2.1 3)), (1, .int p1)] []
  unfold f_X1_firstRipe at h
  refine cj_aload_n hC dX1_firstRipe_0 rfl 0 rfl ?_
  refine cj_get (v := .ref (g.2.1 17)) hC fa_X1_15 cx_l3_ (cx_e3 g _) rfl dX1_firstRipe_1 ?_
  refine cj_iload_n hC dX1_firstRipe_4 rfl 1 rfl ?_
  obtain ⟨i1, h⟩ := cb_g h
  refine cj_iald hC cx_l17_ (cx_e17 g _) (cx_t0 g) i1 dX1_firstRipe_5 ?_
  obtain ⟨x1, ex1, h⟩ := cb_l h
  refine cj_topi ex1 ?_
  refine cj_istore_n (lv' := [(2, .int x1), (0, .ref (g.2.1 3)), (1, .int p1)]) hC dX1_firstRipe_6 rfl (by decide) rfl ?_
  refine cj_iconst (v := 0) hC dX1_firstRipe_7 rfl ?_
  refine cj_istore_n (lv' := [(3, .int 0), (2, .int x1), (0, .ref (g.2.1 3)), (1, .int p1)]) hC dX1_firstRipe_8 rfl (by decide) rfl ?_
  obtain ⟨z1, e1, hr1, hk1⟩ := cb_s h
  refine cj_pick [2, 3, 1, 0] rfl ?_
  refine l_X1_firstRipe_L9 hC p1 cb_fuel _ _ _ e1 (fun u hz => Option.some.inj (hr1 _ hz)) (fun x2 hz => ?_)
  replace h := hk1 x2 hz
  refine cj_iload_n hC dX1_firstRipe_73 rfl 0 rfl ?_
  obtain rfl := Option.some.inj h
  exact cj_iret hC dX1_firstRipe_74
def f_X1_firstFrost_L2 : Nat → Int32 → cb_Mem → Option ((Int32) ⊕ (Unit))
    | 0, _, _ => none
    | n + 1, v1, M =>
      if 30 ≤ v1 then
      some (Sum.inr ())
      else
      if (((M 3 8) >>> (v1 &&& 31)) &&& 1) = 0 then
      f_X1_firstFrost_L2 n (v1 + 1) M
      else
      some (Sum.inl v1)
def f_X1_firstFrost  (M : cb_Mem) : Option (Int32) :=
  cb_bs (f_X1_firstFrost_L2 cb_fuel 0 M) (fun r => some r) fun _ =>
  some (40 : Int32)
set_option maxRecDepth 100000 in
set_option maxHeartbeats 4000000 in
theorem l_X1_firstFrost_L2 {l : Launch} {g : cb_Geo} {γ : cb_Gam} {rr : Int32} {M : cb_Mem} (hC : cb_C cx g γ RX1 cX1_firstFrost 2 (some .int) 0 l (cb_Qi cx g rr M))  : ∀ (n : Nat) (v1 : Int32) (o : ((Int32) ⊕ (Unit))), f_X1_firstFrost_L2 n v1 M = some o → (∀ (u : Int32), o = Sum.inl u → u = rr) → (o = Sum.inr () → cb_J cx g γ 2 M 27 [] []) → cb_J cx g γ 2 M 2 [(0, .ref (g.2.1 3)), (1, .int v1)] [] := by
  intro n
  induction n with
  | zero =>
    intro v1 o h
    cases h
  | succ n ih =>
    intro v1 o h hret hexit
    unfold f_X1_firstFrost_L2 at h
    refine cj_iload_n hC dX1_firstFrost_2 rfl 1 rfl ?_
    refine cj_bipush (v := 30) hC dX1_firstFrost_3 rfl ?_
    refine cj_icmp_ge (tgt := 27) hC dX1_firstFrost_5 (by decide) (fun c1 => ?_) (fun c1 => ?_)
    · replace h := cb_T c1 h
      obtain rfl := Option.some.inj h
      exact cj_pick [] rfl (hexit  rfl)
    · replace h := cb_F c1 h
      refine cj_aload_n hC dX1_firstFrost_8 rfl 0 rfl ?_
      refine cj_get (v := .int (M 3 8)) hC fa_X1_57 cx_l3_ (cx_e3 g _) rfl dX1_firstFrost_9 ?_
      refine cj_iload_n hC dX1_firstFrost_12 rfl 1 rfl ?_
      refine cj_ishr hC dX1_firstFrost_13 ?_
      refine cj_iconst (v := 1) hC dX1_firstFrost_14 rfl ?_
      refine cj_iand hC dX1_firstFrost_15 ?_
      refine cj_if_eq (tgt := 21) hC dX1_firstFrost_16 (by decide) (fun c2 => ?_) (fun c2 => ?_)
      · replace h := cb_T c2 h
        refine cj_iinc (lv' := [(1, .int (v1 + 1)), (0, .ref (g.2.1 3))]) hC dX1_firstFrost_21 (q := 1) rfl rfl (by decide) rfl ?_
        refine cj_goto (tgt := 2) hC dX1_firstFrost_24 (by decide) ?_
        exact cj_pick [1, 0] rfl (ih _ _ h hret hexit)
      · replace h := cb_F c2 h
        refine cj_iload_n hC dX1_firstFrost_19 rfl 1 rfl ?_
        obtain rfl := Option.some.inj h
        obtain rfl := hret _ rfl
        exact cj_iret hC dX1_firstFrost_20
set_option maxRecDepth 100000 in
set_option maxHeartbeats 4000000 in
theorem c_X1_firstFrost (l : Launch) (g : cb_Geo)  (M : cb_Mem) {rr : Int32} (h : f_X1_firstFrost  M = some rr) : Met l yX1_firstFrost (.code yX1_firstFrost cX1_firstFrost 2 (some .int) :: cb_ws) (cb_rm 0) (cb_Pc cx g [.ref (g.2.1 3)] M) (cb_Qi cx g rr M) 0 0 (cb_A cx g) := by
  refine cb_met (by decide) wd_596 (Nat.le_of_ble_eq_true rfl) (fun γ hC => ?_)
  replace hC : cb_C cx g γ RX1 cX1_firstFrost 2 (some .int) 0 l (cb_Qi cx g rr M) := hC
  show cb_J cx g γ 2 M 0 [(0, .ref (g.2.1 3))] []
  unfold f_X1_firstFrost at h
  refine cj_iconst (v := 0) hC dX1_firstFrost_0 rfl ?_
  refine cj_istore_n (lv' := [(1, .int 0), (0, .ref (g.2.1 3))]) hC dX1_firstFrost_1 rfl (by decide) rfl ?_
  obtain ⟨z1, e1, hr1, hk1⟩ := cb_s h
  refine cj_pick [1, 0] rfl ?_
  refine l_X1_firstFrost_L2 hC  cb_fuel _ _ e1 (fun u hz => Option.some.inj (hr1 _ hz)) (fun hz => ?_)
  replace h := hk1 () hz
  refine cj_bipush (v := 40) hC dX1_firstFrost_27 rfl ?_
  obtain rfl := Option.some.inj h
  exact cj_iret hC dX1_firstFrost_29
def f_X5_clear  (M : cb_Mem) : Option (cb_Mem) :=
  (f_J7_fill_53178 22 8 (-1) M).bind fun M1 =>
  (f_J7_fill_53178 23 8 (-1) M1).bind fun M2 =>
  (f_J7_fill_53178 24 8 (-1) M2).bind fun M3 =>
  (f_J7_fill_53178 25 8 (-1) M3).bind fun M4 =>
  (f_J7_fill_53178 26 8 0 M4).bind fun M5 =>
  (f_J7_fill_53178 27 40 0 M5).bind fun M6 =>
  (f_J7_fill_53178 28 40 0 M6).bind fun M7 =>
  (f_J7_fill_53178 29 4 0 M7).bind fun M8 =>
  cb_let (cb_up M8 4 8 0) fun M9 =>
  cb_let (cb_up M9 4 9 0) fun M10 =>
  some M10
set_option maxRecDepth 100000 in
set_option maxHeartbeats 4000000 in
theorem c_X5_clear (l : Launch) (g : cb_Geo)  (M : cb_Mem) {Mr : cb_Mem} (h : f_X5_clear  M = some Mr) : Met l yX5_clear (.code yX5_clear cX5_clear 1 none :: cb_ws) (cb_rm 1) (cb_Pc cx g [.ref (g.2.1 4)] M) (cb_Qv cx g Mr) 0 0 (cb_A cx g) := by
  refine cb_met (by decide) wd_560 (Nat.le_of_ble_eq_true rfl) (fun γ hC => ?_)
  replace hC : cb_C cx g γ RX5 cX5_clear 1 none 1 l (cb_Qv cx g Mr) := hC
  show cb_J cx g γ 1 M 0 [(0, .ref (g.2.1 4))] []
  unfold f_X5_clear at h
  refine cj_aload_n hC dX5_clear_0 rfl 0 rfl ?_
  refine cj_get (v := .ref (g.2.1 22)) hC fa_X5_9 cx_l4_ (cx_e4 g _) rfl dX5_clear_1 ?_
  refine cj_iconst (v := (-1)) hC dX5_clear_4 rfl ?_
  obtain ⟨M1, e1, h⟩ := cb_b h
  refine cj_callSv (As := [.ref (g.2.1 22), .int (-1)]) hC cs_X5_64 (c_J7_fill_53178 l g 22 8 cx_l22_ (cx_e22 g) (-1) M e1) (by decide) rfl rfl (Nat.le_of_ble_eq_true rfl) dX5_clear_5 ?_
  refine cj_aload_n hC dX5_clear_8 rfl 0 rfl ?_
  refine cj_get (v := .ref (g.2.1 23)) hC fa_X5_15 cx_l4_ (cx_e4 g _) rfl dX5_clear_9 ?_
  refine cj_iconst (v := (-1)) hC dX5_clear_12 rfl ?_
  obtain ⟨M2, e2, h⟩ := cb_b h
  refine cj_callSv (As := [.ref (g.2.1 23), .int (-1)]) hC cs_X5_64 (c_J7_fill_53178 l g 23 8 cx_l23_ (cx_e23 g) (-1) M1 e2) (by decide) rfl rfl (Nat.le_of_ble_eq_true rfl) dX5_clear_13 ?_
  refine cj_aload_n hC dX5_clear_16 rfl 0 rfl ?_
  refine cj_get (v := .ref (g.2.1 24)) hC fa_X5_18 cx_l4_ (cx_e4 g _) rfl dX5_clear_17 ?_
  refine cj_iconst (v := (-1)) hC dX5_clear_20 rfl ?_
  obtain ⟨M3, e3, h⟩ := cb_b h
  refine cj_callSv (As := [.ref (g.2.1 24), .int (-1)]) hC cs_X5_64 (c_J7_fill_53178 l g 24 8 cx_l24_ (cx_e24 g) (-1) M2 e3) (by decide) rfl rfl (Nat.le_of_ble_eq_true rfl) dX5_clear_21 ?_
  refine cj_aload_n hC dX5_clear_24 rfl 0 rfl ?_
  refine cj_get (v := .ref (g.2.1 25)) hC fa_X5_21 cx_l4_ (cx_e4 g _) rfl dX5_clear_25 ?_
  refine cj_iconst (v := (-1)) hC dX5_clear_28 rfl ?_
  obtain ⟨M4, e4, h⟩ := cb_b h
  refine cj_callSv (As := [.ref (g.2.1 25), .int (-1)]) hC cs_X5_64 (c_J7_fill_53178 l g 25 8 cx_l25_ (cx_e25 g) (-1) M3 e4) (by decide) rfl rfl (Nat.le_of_ble_eq_true rfl) dX5_clear_29 ?_
  refine cj_aload_n hC dX5_clear_32 rfl 0 rfl ?_
  refine cj_get (v := .ref (g.2.1 26)) hC fa_X5_24 cx_l4_ (cx_e4 g _) rfl dX5_clear_33 ?_
  refine cj_iconst (v := 0) hC dX5_clear_36 rfl ?_
  obtain ⟨M5, e5, h⟩ := cb_b h
  refine cj_callSv (As := [.ref (g.2.1 26), .int 0]) hC cs_X5_64 (c_J7_fill_53178 l g 26 8 cx_l26_ (cx_e26 g) 0 M4 e5) (by decide) rfl rfl (Nat.le_of_ble_eq_true rfl) dX5_clear_37 ?_
  refine cj_aload_n hC dX5_clear_40 rfl 0 rfl ?_
  refine cj_get (v := .ref (g.2.1 27)) hC fa_X5_27 cx_l4_ (cx_e4 g _) rfl dX5_clear_41 ?_
  refine cj_iconst (v := 0) hC dX5_clear_44 rfl ?_
  obtain ⟨M6, e6, h⟩ := cb_b h
  refine cj_callSv (As := [.ref (g.2.1 27), .int 0]) hC cs_X5_64 (c_J7_fill_53178 l g 27 40 cx_l27_ (cx_e27 g) 0 M5 e6) (by decide) rfl rfl (Nat.le_of_ble_eq_true rfl) dX5_clear_45 ?_
  refine cj_aload_n hC dX5_clear_48 rfl 0 rfl ?_
  refine cj_get (v := .ref (g.2.1 28)) hC fa_X5_30 cx_l4_ (cx_e4 g _) rfl dX5_clear_49 ?_
  refine cj_iconst (v := 0) hC dX5_clear_52 rfl ?_
  obtain ⟨M7, e7, h⟩ := cb_b h
  refine cj_callSv (As := [.ref (g.2.1 28), .int 0]) hC cs_X5_64 (c_J7_fill_53178 l g 28 40 cx_l28_ (cx_e28 g) 0 M6 e7) (by decide) rfl rfl (Nat.le_of_ble_eq_true rfl) dX5_clear_53 ?_
  refine cj_aload_n hC dX5_clear_56 rfl 0 rfl ?_
  refine cj_get (v := .ref (g.2.1 29)) hC fa_X5_33 cx_l4_ (cx_e4 g _) rfl dX5_clear_57 ?_
  refine cj_iconst (v := 0) hC dX5_clear_60 rfl ?_
  obtain ⟨M8, e8, h⟩ := cb_b h
  refine cj_callSv (As := [.ref (g.2.1 29), .int 0]) hC cs_X5_64 (c_J7_fill_53178 l g 29 4 cx_l29_ (cx_e29 g) 0 M7 e8) (by decide) rfl rfl (Nat.le_of_ble_eq_true rfl) dX5_clear_61 ?_
  refine cj_aload_n hC dX5_clear_64 rfl 0 rfl ?_
  refine cj_iconst (v := 0) hC dX5_clear_65 rfl ?_
  obtain ⟨M9, eM9, h⟩ := cb_l h
  refine cj_put hC fp_X5_55 cx_l4_ (cx_e4 g _) rfl (Nat.le_of_ble_eq_true rfl) eM9 dX5_clear_66 ?_
  refine cj_aload_n hC dX5_clear_69 rfl 0 rfl ?_
  refine cj_iconst (v := 0) hC dX5_clear_70 rfl ?_
  obtain ⟨M10, eM10, h⟩ := cb_l h
  refine cj_put hC fp_X5_58 cx_l4_ (cx_e4 g _) rfl (Nat.le_of_ble_eq_true rfl) eM10 dX5_clear_71 ?_
  obtain rfl := Option.some.inj h
  exact cj_vret hC dX5_clear_74
def f_X5_bringHead_L105 : Nat → Int32 → Int32 → Int32 → cb_Mem → Option (cb_Mem)
    | 0, _, _, _, _ => none
    | n + 1, v2, v4, v5, M =>
      if v4 ≤ v5 then
      some M
      else
      if 40 ≤ v5 then
      some M
      else
      if cb_in v5 40 = true then
      if cb_in v5 40 = true then
      cb_let (cb_up M 27 v5.toNatClampNeg ((M 27 v5.toNatClampNeg) ||| ((1 : Int32) <<< (v2 &&& 31)))) fun M1 =>
      f_X5_bringHead_L105 n v2 v4 (v5 + 1) M1
      else none
      else none
def f_X5_bringHead (p1 : Int32) (M : cb_Mem) : Option (cb_Mem) :=
  if cb_in p1 8 = true then
  cb_let ((M 16 p1.toNatClampNeg)) fun x1 =>
  cb_let (f_X6_isOff x1 3) fun x2 =>
  if x2 = 0 then
  if cb_in x1 4 = true then
  if cb_in x1 4 = true then
  cb_let (cb_up M 29 x1.toNatClampNeg ((M 29 x1.toNatClampNeg) ||| ((1 : Int32) <<< (p1 &&& 31)))) fun M1 =>
  cb_let (cb_up M1 29 (3 : Int32).toNatClampNeg ((M1 29 (3 : Int32).toNatClampNeg) ||| ((1 : Int32) <<< (p1 &&& 31)))) fun M2 =>
  (f_X1_firstRipe p1 M2).bind fun x3 =>
  if cb_in p1 8 = true then
  cb_let (cb_up M2 22 p1.toNatClampNeg x3) fun M3 =>
  if cb_in p1 8 = true then
  if (M3 22 p1.toNatClampNeg) = (-1) then
  some M3
  else
  if cb_in p1 8 = true then
  if cb_in x1 3 = true then
  if cb_in p1 8 = true then
  cb_let (cb_up M3 23 p1.toNatClampNeg ((M3 22 p1.toNatClampNeg) + (cb_ripe.getD x1.toNatClampNeg 0))) fun M4 =>
  if cb_in p1 8 = true then
  if cb_in p1 8 = true then
  cb_let ((cb_min (M4 23 p1.toNatClampNeg) (M4 21 p1.toNatClampNeg))) fun x4 =>
  if cb_in p1 8 = true then
  cb_let ((M4 22 p1.toNatClampNeg)) fun x5 =>
  (f_X5_bringHead_L105 cb_fuel p1 x4 x5 M4).bind fun M5 =>
  some M5
  else none
  else none
  else none
  else none
  else none
  else none
  else none
  else none
  else none
  else none
  else
  some M
  else none
set_option maxRecDepth 100000 in
set_option maxHeartbeats 4000000 in
theorem l_X5_bringHead_L105 {l : Launch} {g : cb_Geo} {γ : cb_Gam} {Mr : cb_Mem} (hC : cb_C cx g γ RX5 cX5_bringHead 6 none 1 l (cb_Qv cx g Mr)) (v2 : Int32) (v4 : Int32) : ∀ (n : Nat) (v5 : Int32) (M : cb_Mem) (o : (cb_Mem)), f_X5_bringHead_L105 n v2 v4 v5 M = some o → (∀ (M' : cb_Mem), o = M' → cb_J cx g γ 6 M' 138 [] []) → cb_J cx g γ 6 M 105 [(0, .ref (g.2.1 4)), (2, .int v2), (4, .int v4), (5, .int v5)] [] := by
  intro n
  induction n with
  | zero =>
    intro v5 M o h
    cases h
  | succ n ih =>
    intro v5 M o h hexit
    unfold f_X5_bringHead_L105 at h
    refine cj_iload hC dX5_bringHead_105 3 rfl ?_
    refine cj_iload hC dX5_bringHead_107 2 rfl ?_
    refine cj_icmp_ge (tgt := 138) hC dX5_bringHead_109 (by decide) (fun c1 => ?_) (fun c1 => ?_)
    · replace h := cb_T c1 h
      obtain rfl := Option.some.inj h
      exact cj_pick [] rfl (hexit _ rfl)
    · replace h := cb_F c1 h
      refine cj_iload hC dX5_bringHead_112 3 rfl ?_
      refine cj_bipush (v := 40) hC dX5_bringHead_114 rfl ?_
      refine cj_icmp_ge (tgt := 138) hC dX5_bringHead_116 (by decide) (fun c2 => ?_) (fun c2 => ?_)
      · replace h := cb_T c2 h
        obtain rfl := Option.some.inj h
        exact cj_pick [] rfl (hexit _ rfl)
      · replace h := cb_F c2 h
        refine cj_aload_n hC dX5_bringHead_119 rfl 0 rfl ?_
        refine cj_get (v := .ref (g.2.1 27)) hC fa_X5_27 cx_l4_ (cx_e4 g _) rfl dX5_bringHead_120 ?_
        refine cj_iload hC dX5_bringHead_123 3 rfl ?_
        refine cj_dup2 hC dX5_bringHead_125 rfl rfl ?_
        obtain ⟨i1, h⟩ := cb_g h
        refine cj_iald hC cx_l27_ (cx_e27 g _) (cx_t0 g) i1 dX5_bringHead_126 ?_
        refine cj_iconst (v := 1) hC dX5_bringHead_127 rfl ?_
        refine cj_iload_n hC dX5_bringHead_128 rfl 1 rfl ?_
        refine cj_ishl hC dX5_bringHead_129 ?_
        refine cj_ior hC dX5_bringHead_130 ?_
        obtain ⟨i2, h⟩ := cb_g h
        obtain ⟨M1, eM1, h⟩ := cb_l h
        refine cj_iast hC cx_l27_ (cx_e27 g) (cx_t0 g) i2 eM1 dX5_bringHead_131 ?_
        refine cj_iinc (lv' := [(5, .int (v5 + 1)), (0, .ref (g.2.1 4)), (2, .int v2), (4, .int v4)]) hC dX5_bringHead_132 (q := 3) rfl rfl (by decide) rfl ?_
        refine cj_goto (tgt := 105) hC dX5_bringHead_135 (by decide) ?_
        exact cj_pick [1, 2, 3, 0] rfl (ih _ _ _ h hexit)
set_option maxRecDepth 100000 in
set_option maxHeartbeats 4000000 in
theorem c_X5_bringHead (l : Launch) (g : cb_Geo) (p1 : Int32) (M : cb_Mem) {Mr : cb_Mem} (h : f_X5_bringHead p1 M = some Mr) : Met l yX5_bringHead (.code yX5_bringHead cX5_bringHead 6 none :: cb_ws) (cb_rm 1) (cb_Pc cx g [.ref (g.2.1 4), .ref (g.2.1 3), .int p1] M) (cb_Qv cx g Mr) 0 0 (cb_A cx g) := by
  refine cb_met (by decide) wd_565 (Nat.le_of_ble_eq_true rfl) (fun γ hC => ?_)
  replace hC : cb_C cx g γ RX5 cX5_bringHead 6 none 1 l (cb_Qv cx g Mr) := hC
  show cb_J cx g γ 6 M 0 [(0, .ref (g.2.1 4)), (1, .ref (g.2.1 3)), (2, .int p1)] []
  unfold f_X5_bringHead at h
  refine cj_aload_n hC dX5_bringHead_0 rfl 1 rfl ?_
  refine cj_get (v := .ref (g.2.1 16)) hC fa_X5_70 cx_l3_ (cx_e3 g _) rfl dX5_bringHead_1 ?_
  refine cj_iload_n hC dX5_bringHead_4 rfl 2 rfl ?_
  obtain ⟨i1, h⟩ := cb_g h
  refine cj_iald hC cx_l16_ (cx_e16 g _) (cx_t0 g) i1 dX5_bringHead_5 ?_
  obtain ⟨x1, ex1, h⟩ := cb_l h
  refine cj_topi ex1 ?_
  refine cj_istore_n (lv' := [(3, .int x1), (0, .ref (g.2.1 4)), (1, .ref (g.2.1 3)), (2, .int p1)]) hC dX5_bringHead_6 rfl (by decide) rfl ?_
  refine cj_iload_n hC dX5_bringHead_7 rfl 0 rfl ?_
  refine cj_iconst (v := 3) hC dX5_bringHead_8 rfl ?_
  obtain ⟨x2, e1, h⟩ := cb_l h
  refine cj_callNi (As := [.int x1, .int 3]) hC cn_X5_73 (c_X6_isOff l g x1 3 M e1.symm) (by decide) rfl rfl (Nat.le_of_ble_eq_true rfl) dX5_bringHead_9 ?_
  refine cj_if_eq (tgt := 16) hC dX5_bringHead_12 (by decide) (fun c1 => ?_) (fun c1 => ?_)
  · replace h := cb_T c1 h
    refine cj_aload_n hC dX5_bringHead_16 rfl 1 rfl ?_
    refine cj_get (v := .ref (g.2.1 29)) hC fa_X5_33 cx_l4_ (cx_e4 g _) rfl dX5_bringHead_17 ?_
    refine cj_iload_n hC dX5_bringHead_20 rfl 0 rfl ?_
    refine cj_dup2 hC dX5_bringHead_21 rfl rfl ?_
    obtain ⟨i2, h⟩ := cb_g h
    refine cj_iald hC cx_l29_ (cx_e29 g _) (cx_t0 g) i2 dX5_bringHead_22 ?_
    refine cj_iconst (v := 1) hC dX5_bringHead_23 rfl ?_
    refine cj_iload_n hC dX5_bringHead_24 rfl 3 rfl ?_
    refine cj_ishl hC dX5_bringHead_25 ?_
    refine cj_ior hC dX5_bringHead_26 ?_
    obtain ⟨i3, h⟩ := cb_g h
    obtain ⟨M1, eM1, h⟩ := cb_l h
    refine cj_iast hC cx_l29_ (cx_e29 g) (cx_t0 g) i3 eM1 dX5_bringHead_27 ?_
    refine cj_aload_n hC dX5_bringHead_28 rfl 1 rfl ?_
    refine cj_get (v := .ref (g.2.1 29)) hC fa_X5_33 cx_l4_ (cx_e4 g _) rfl dX5_bringHead_29 ?_
    refine cj_iconst (v := 3) hC dX5_bringHead_32 rfl ?_
    refine cj_dup2 hC dX5_bringHead_33 rfl rfl ?_
    refine cj_iald hC cx_l29_ (cx_e29 g _) (cx_t0 g) (cb_in_iff.mp (by decide)) dX5_bringHead_34 ?_
    refine cj_iconst (v := 1) hC dX5_bringHead_35 rfl ?_
    refine cj_iload_n hC dX5_bringHead_36 rfl 3 rfl ?_
    refine cj_ishl hC dX5_bringHead_37 ?_
    refine cj_ior hC dX5_bringHead_38 ?_
    obtain ⟨M2, eM2, h⟩ := cb_l h
    refine cj_iast hC cx_l29_ (cx_e29 g) (cx_t0 g) (cb_in_iff.mp (by decide)) eM2 dX5_bringHead_39 ?_
    refine cj_aload_n hC dX5_bringHead_40 rfl 1 rfl ?_
    refine cj_get (v := .ref (g.2.1 22)) hC fa_X5_9 cx_l4_ (cx_e4 g _) rfl dX5_bringHead_41 ?_
    refine cj_iload_n hC dX5_bringHead_44 rfl 3 rfl ?_
    refine cj_aload_n hC dX5_bringHead_45 rfl 2 rfl ?_
    refine cj_iload_n hC dX5_bringHead_46 rfl 3 rfl ?_
    obtain ⟨x3, e2, h⟩ := cb_b h
    refine cj_callVi (As := [.int p1]) hC cv_X5_77 cx_l3_ (cx_e3 g _) rfl (c_X1_firstRipe l g p1 M2 e2) (by decide) rfl rfl (Nat.le_of_ble_eq_true rfl) dX5_bringHead_47 ?_
    obtain ⟨i4, h⟩ := cb_g h
    obtain ⟨M3, eM3, h⟩ := cb_l h
    refine cj_iast hC cx_l22_ (cx_e22 g) (cx_t0 g) i4 eM3 dX5_bringHead_50 ?_
    refine cj_aload_n hC dX5_bringHead_51 rfl 1 rfl ?_
    refine cj_get (v := .ref (g.2.1 22)) hC fa_X5_9 cx_l4_ (cx_e4 g _) rfl dX5_bringHead_52 ?_
    refine cj_iload_n hC dX5_bringHead_55 rfl 3 rfl ?_
    obtain ⟨i5, h⟩ := cb_g h
    refine cj_iald hC cx_l22_ (cx_e22 g _) (cx_t0 g) i5 dX5_bringHead_56 ?_
    refine cj_iconst (v := (-1)) hC dX5_bringHead_57 rfl ?_
    refine cj_icmp_ne (tgt := 62) hC dX5_bringHead_58 (by decide) (fun c2 => ?_) (fun c2 => ?_)
    · replace h := cb_F c2 h
      refine cj_aload_n hC dX5_bringHead_62 rfl 1 rfl ?_
      refine cj_get (v := .ref (g.2.1 23)) hC fa_X5_15 cx_l4_ (cx_e4 g _) rfl dX5_bringHead_63 ?_
      refine cj_iload_n hC dX5_bringHead_66 rfl 3 rfl ?_
      refine cj_aload_n hC dX5_bringHead_67 rfl 1 rfl ?_
      refine cj_get (v := .ref (g.2.1 22)) hC fa_X5_9 cx_l4_ (cx_e4 g _) rfl dX5_bringHead_68 ?_
      refine cj_iload_n hC dX5_bringHead_71 rfl 3 rfl ?_
      obtain ⟨i6, h⟩ := cb_g h
      refine cj_iald hC cx_l22_ (cx_e22 g _) (cx_t0 g) i6 dX5_bringHead_72 ?_
      refine cj_gets_ripe hC wn_571 dX5_bringHead_73 ?_
      refine cj_iload_n hC dX5_bringHead_76 rfl 0 rfl ?_
      obtain ⟨i7, h⟩ := cb_g h
      refine cj_ald_ripe hC i7 dX5_bringHead_77 ?_
      refine cj_iadd hC dX5_bringHead_78 ?_
      obtain ⟨i8, h⟩ := cb_g h
      obtain ⟨M4, eM4, h⟩ := cb_l h
      refine cj_iast hC cx_l23_ (cx_e23 g) (cx_t0 g) i8 eM4 dX5_bringHead_79 ?_
      refine cj_aload_n hC dX5_bringHead_80 rfl 1 rfl ?_
      refine cj_get (v := .ref (g.2.1 23)) hC fa_X5_15 cx_l4_ (cx_e4 g _) rfl dX5_bringHead_81 ?_
      refine cj_iload_n hC dX5_bringHead_84 rfl 3 rfl ?_
      obtain ⟨i9, h⟩ := cb_g h
      refine cj_iald hC cx_l23_ (cx_e23 g _) (cx_t0 g) i9 dX5_bringHead_85 ?_
      refine cj_aload_n hC dX5_bringHead_86 rfl 2 rfl ?_
      refine cj_get (v := .ref (g.2.1 21)) hC fa_X5_84 cx_l3_ (cx_e3 g _) rfl dX5_bringHead_87 ?_
      refine cj_iload_n hC dX5_bringHead_90 rfl 3 rfl ?_
      obtain ⟨i10, h⟩ := cb_g h
      refine cj_iald hC cx_l21_ (cx_e21 g _) (cx_t0 g) i10 dX5_bringHead_91 ?_
      refine cj_min hC wd_573 wd_382 wd_68 wd_383 (by decide) (Nat.le_of_ble_eq_true rfl) dX5_bringHead_92 ?_
      obtain ⟨x4, ex4, h⟩ := cb_l h
      refine cj_topi ex4 ?_
      refine cj_istore (lv' := [(4, .int x4), (3, .int x1), (0, .ref (g.2.1 4)), (1, .ref (g.2.1 3)), (2, .int p1)]) hC dX5_bringHead_95 (by decide) rfl ?_
      refine cj_aload_n hC dX5_bringHead_97 rfl 2 rfl ?_
      refine cj_get (v := .ref (g.2.1 22)) hC fa_X5_9 cx_l4_ (cx_e4 g _) rfl dX5_bringHead_98 ?_
      refine cj_iload_n hC dX5_bringHead_101 rfl 4 rfl ?_
      obtain ⟨i11, h⟩ := cb_g h
      refine cj_iald hC cx_l22_ (cx_e22 g _) (cx_t0 g) i11 dX5_bringHead_102 ?_
      obtain ⟨x5, ex5, h⟩ := cb_l h
      refine cj_topi ex5 ?_
      refine cj_istore (lv' := [(5, .int x5), (4, .int x4), (3, .int x1), (0, .ref (g.2.1 4)), (1, .ref (g.2.1 3)), (2, .int p1)]) hC dX5_bringHead_103 (by decide) rfl ?_
      obtain ⟨M5, e3, h⟩ := cb_b h
      refine cj_pick [3, 5, 1, 0] rfl ?_
      refine l_X5_bringHead_L105 hC p1 x4 cb_fuel _ _ _ e3 (fun ze3 hz => ?_)
      obtain rfl := hz
      obtain rfl := Option.some.inj h
      exact cj_vret hC dX5_bringHead_138
    · replace h := cb_T c2 h
      obtain rfl := Option.some.inj h
      exact cj_vret hC dX5_bringHead_61
  · replace h := cb_F c1 h
    obtain rfl := Option.some.inj h
    exact cj_vret hC dX5_bringHead_15
def f_X5_bringCouple_L53 : Nat → Int32 → Int32 → Int32 → Int32 → cb_Mem → Option (cb_Mem)
    | 0, _, _, _, _, _ => none
    | n + 1, v2, v3, v4, v5, M =>
      if v4 ≤ v5 then
      some M
      else
      if cb_in v5 40 = true then
      if cb_in v5 40 = true then
      cb_let (cb_up M 28 v5.toNatClampNeg ((M 28 v5.toNatClampNeg) ||| ((1 : Int32) <<< (v2 &&& 31)))) fun M1 =>
      if cb_in v2 8 = true then
      if cb_in v5 40 = true then
      if cb_in v3 4 = true then
      if cb_in v2 8 = true then
      cb_let (cb_up M1 26 v2.toNatClampNeg ((M1 26 v2.toNatClampNeg) ||| ((M1 27 v5.toNatClampNeg) &&& (M1 29 v3.toNatClampNeg)))) fun M2 =>
      f_X5_bringCouple_L53 n v2 v3 v4 (v5 + 1) M2
      else none
      else none
      else none
      else none
      else none
      else none
def f_X5_bringCouple (p1 : Int32) (M : cb_Mem) : Option (cb_Mem) :=
  if cb_in p1 8 = true then
  cb_let ((M 18 p1.toNatClampNeg)) fun x1 =>
  cb_let (f_X6_isOff x1 4) fun x2 =>
  if x2 = 0 then
  if cb_in p1 8 = true then
  if 0 ≤ (M 19 p1.toNatClampNeg) then
  if cb_in p1 8 = true then
  if cb_in p1 8 = true then
  cb_let ((cb_min ((M 19 p1.toNatClampNeg) + (M 20 p1.toNatClampNeg)) 40)) fun x3 =>
  if cb_in p1 8 = true then
  cb_let ((M 19 p1.toNatClampNeg)) fun x4 =>
  (f_X5_bringCouple_L53 cb_fuel p1 x1 x3 x4 M).bind fun M1 =>
  some M1
  else none
  else none
  else none
  else
  some M
  else none
  else
  some M
  else none
set_option maxRecDepth 100000 in
set_option maxHeartbeats 4000000 in
theorem l_X5_bringCouple_L53 {l : Launch} {g : cb_Geo} {γ : cb_Gam} {Mr : cb_Mem} (hC : cb_C cx g γ RX5 cX5_bringCouple 6 none 1 l (cb_Qv cx g Mr)) (v2 : Int32) (v3 : Int32) (v4 : Int32) : ∀ (n : Nat) (v5 : Int32) (M : cb_Mem) (o : (cb_Mem)), f_X5_bringCouple_L53 n v2 v3 v4 v5 M = some o → (∀ (M' : cb_Mem), o = M' → cb_J cx g γ 6 M' 102 [] []) → cb_J cx g γ 6 M 53 [(0, .ref (g.2.1 4)), (2, .int v2), (3, .int v3), (4, .int v4), (5, .int v5)] [] := by
  intro n
  induction n with
  | zero =>
    intro v5 M o h
    cases h
  | succ n ih =>
    intro v5 M o h hexit
    unfold f_X5_bringCouple_L53 at h
    refine cj_iload hC dX5_bringCouple_53 4 rfl ?_
    refine cj_iload hC dX5_bringCouple_55 3 rfl ?_
    refine cj_icmp_ge (tgt := 102) hC dX5_bringCouple_57 (by decide) (fun c1 => ?_) (fun c1 => ?_)
    · replace h := cb_T c1 h
      obtain rfl := Option.some.inj h
      exact cj_pick [] rfl (hexit _ rfl)
    · replace h := cb_F c1 h
      refine cj_aload_n hC dX5_bringCouple_60 rfl 0 rfl ?_
      refine cj_get (v := .ref (g.2.1 28)) hC fa_X5_30 cx_l4_ (cx_e4 g _) rfl dX5_bringCouple_61 ?_
      refine cj_iload hC dX5_bringCouple_64 4 rfl ?_
      refine cj_dup2 hC dX5_bringCouple_66 rfl rfl ?_
      obtain ⟨i1, h⟩ := cb_g h
      refine cj_iald hC cx_l28_ (cx_e28 g _) (cx_t0 g) i1 dX5_bringCouple_67 ?_
      refine cj_iconst (v := 1) hC dX5_bringCouple_68 rfl ?_
      refine cj_iload_n hC dX5_bringCouple_69 rfl 1 rfl ?_
      refine cj_ishl hC dX5_bringCouple_70 ?_
      refine cj_ior hC dX5_bringCouple_71 ?_
      obtain ⟨i2, h⟩ := cb_g h
      obtain ⟨M1, eM1, h⟩ := cb_l h
      refine cj_iast hC cx_l28_ (cx_e28 g) (cx_t0 g) i2 eM1 dX5_bringCouple_72 ?_
      refine cj_aload_n hC dX5_bringCouple_73 rfl 0 rfl ?_
      refine cj_get (v := .ref (g.2.1 26)) hC fa_X5_24 cx_l4_ (cx_e4 g _) rfl dX5_bringCouple_74 ?_
      refine cj_iload_n hC dX5_bringCouple_77 rfl 1 rfl ?_
      refine cj_dup2 hC dX5_bringCouple_78 rfl rfl ?_
      obtain ⟨i3, h⟩ := cb_g h
      refine cj_iald hC cx_l26_ (cx_e26 g _) (cx_t0 g) i3 dX5_bringCouple_79 ?_
      refine cj_aload_n hC dX5_bringCouple_80 rfl 0 rfl ?_
      refine cj_get (v := .ref (g.2.1 27)) hC fa_X5_27 cx_l4_ (cx_e4 g _) rfl dX5_bringCouple_81 ?_
      refine cj_iload hC dX5_bringCouple_84 4 rfl ?_
      obtain ⟨i4, h⟩ := cb_g h
      refine cj_iald hC cx_l27_ (cx_e27 g _) (cx_t0 g) i4 dX5_bringCouple_86 ?_
      refine cj_aload_n hC dX5_bringCouple_87 rfl 0 rfl ?_
      refine cj_get (v := .ref (g.2.1 29)) hC fa_X5_33 cx_l4_ (cx_e4 g _) rfl dX5_bringCouple_88 ?_
      refine cj_iload_n hC dX5_bringCouple_91 rfl 2 rfl ?_
      obtain ⟨i5, h⟩ := cb_g h
      refine cj_iald hC cx_l29_ (cx_e29 g _) (cx_t0 g) i5 dX5_bringCouple_92 ?_
      refine cj_iand hC dX5_bringCouple_93 ?_
      refine cj_ior hC dX5_bringCouple_94 ?_
      obtain ⟨i6, h⟩ := cb_g h
      obtain ⟨M2, eM2, h⟩ := cb_l h
      refine cj_iast hC cx_l26_ (cx_e26 g) (cx_t0 g) i6 eM2 dX5_bringCouple_95 ?_
      refine cj_iinc (lv' := [(5, .int (v5 + 1)), (0, .ref (g.2.1 4)), (2, .int v2), (3, .int v3), (4, .int v4)]) hC dX5_bringCouple_96 (q := 4) rfl rfl (by decide) rfl ?_
      refine cj_goto (tgt := 53) hC dX5_bringCouple_99 (by decide) ?_
      exact cj_pick [1, 2, 3, 4, 0] rfl (ih _ _ _ h hexit)
set_option maxRecDepth 100000 in
set_option maxHeartbeats 4000000 in
theorem c_X5_bringCouple (l : Launch) (g : cb_Geo) (p1 : Int32) (M : cb_Mem) {Mr : cb_Mem} (h : f_X5_bringCouple p1 M = some Mr) : Met l yX5_bringCouple (.code yX5_bringCouple cX5_bringCouple 6 none :: cb_ws) (cb_rm 1) (cb_Pc cx g [.ref (g.2.1 4), .ref (g.2.1 3), .int p1] M) (cb_Qv cx g Mr) 0 0 (cb_A cx g) := by
  refine cb_met (by decide) wd_577 (Nat.le_of_ble_eq_true rfl) (fun γ hC => ?_)
  replace hC : cb_C cx g γ RX5 cX5_bringCouple 6 none 1 l (cb_Qv cx g Mr) := hC
  show cb_J cx g γ 6 M 0 [(0, .ref (g.2.1 4)), (1, .ref (g.2.1 3)), (2, .int p1)] []
  unfold f_X5_bringCouple at h
  refine cj_aload_n hC dX5_bringCouple_0 rfl 1 rfl ?_
  refine cj_get (v := .ref (g.2.1 18)) hC fa_X5_93 cx_l3_ (cx_e3 g _) rfl dX5_bringCouple_1 ?_
  refine cj_iload_n hC dX5_bringCouple_4 rfl 2 rfl ?_
  obtain ⟨i1, h⟩ := cb_g h
  refine cj_iald hC cx_l18_ (cx_e18 g _) (cx_t0 g) i1 dX5_bringCouple_5 ?_
  obtain ⟨x1, ex1, h⟩ := cb_l h
  refine cj_topi ex1 ?_
  refine cj_istore_n (lv' := [(3, .int x1), (0, .ref (g.2.1 4)), (1, .ref (g.2.1 3)), (2, .int p1)]) hC dX5_bringCouple_6 rfl (by decide) rfl ?_
  refine cj_iload_n hC dX5_bringCouple_7 rfl 0 rfl ?_
  refine cj_iconst (v := 4) hC dX5_bringCouple_8 rfl ?_
  obtain ⟨x2, e1, h⟩ := cb_l h
  refine cj_callNi (As := [.int x1, .int 4]) hC cn_X5_73 (c_X6_isOff l g x1 4 M e1.symm) (by decide) rfl rfl (Nat.le_of_ble_eq_true rfl) dX5_bringCouple_9 ?_
  refine cj_if_ne (tgt := 24) hC dX5_bringCouple_12 (by decide) (fun c1 => ?_) (fun c1 => ?_)
  · replace h := cb_F c1 h
    obtain rfl := Option.some.inj h
    exact cj_vret hC dX5_bringCouple_24
  · replace h := cb_T c1 h
    refine cj_aload_n hC dX5_bringCouple_15 rfl 2 rfl ?_
    refine cj_get (v := .ref (g.2.1 19)) hC fa_X5_96 cx_l3_ (cx_e3 g _) rfl dX5_bringCouple_16 ?_
    refine cj_iload_n hC dX5_bringCouple_19 rfl 3 rfl ?_
    obtain ⟨i2, h⟩ := cb_g h
    refine cj_iald hC cx_l19_ (cx_e19 g _) (cx_t0 g) i2 dX5_bringCouple_20 ?_
    refine cj_if_ge (tgt := 25) hC dX5_bringCouple_21 (by decide) (fun c2 => ?_) (fun c2 => ?_)
    · replace h := cb_T c2 h
      refine cj_aload_n hC dX5_bringCouple_25 rfl 2 rfl ?_
      refine cj_get (v := .ref (g.2.1 19)) hC fa_X5_96 cx_l3_ (cx_e3 g _) rfl dX5_bringCouple_26 ?_
      refine cj_iload_n hC dX5_bringCouple_29 rfl 3 rfl ?_
      obtain ⟨i3, h⟩ := cb_g h
      refine cj_iald hC cx_l19_ (cx_e19 g _) (cx_t0 g) i3 dX5_bringCouple_30 ?_
      refine cj_aload_n hC dX5_bringCouple_31 rfl 2 rfl ?_
      refine cj_get (v := .ref (g.2.1 20)) hC fa_X5_99 cx_l3_ (cx_e3 g _) rfl dX5_bringCouple_32 ?_
      refine cj_iload_n hC dX5_bringCouple_35 rfl 3 rfl ?_
      obtain ⟨i4, h⟩ := cb_g h
      refine cj_iald hC cx_l20_ (cx_e20 g _) (cx_t0 g) i4 dX5_bringCouple_36 ?_
      refine cj_iadd hC dX5_bringCouple_37 ?_
      refine cj_bipush (v := 40) hC dX5_bringCouple_38 rfl ?_
      refine cj_min hC wd_573 wd_382 wd_68 wd_383 (by decide) (Nat.le_of_ble_eq_true rfl) dX5_bringCouple_40 ?_
      obtain ⟨x3, ex3, h⟩ := cb_l h
      refine cj_topi ex3 ?_
      refine cj_istore (lv' := [(4, .int x3), (3, .int x1), (0, .ref (g.2.1 4)), (1, .ref (g.2.1 3)), (2, .int p1)]) hC dX5_bringCouple_43 (by decide) rfl ?_
      refine cj_aload_n hC dX5_bringCouple_45 rfl 3 rfl ?_
      refine cj_get (v := .ref (g.2.1 19)) hC fa_X5_96 cx_l3_ (cx_e3 g _) rfl dX5_bringCouple_46 ?_
      refine cj_iload_n hC dX5_bringCouple_49 rfl 4 rfl ?_
      obtain ⟨i5, h⟩ := cb_g h
      refine cj_iald hC cx_l19_ (cx_e19 g _) (cx_t0 g) i5 dX5_bringCouple_50 ?_
      obtain ⟨x4, ex4, h⟩ := cb_l h
      refine cj_topi ex4 ?_
      refine cj_istore (lv' := [(5, .int x4), (4, .int x3), (3, .int x1), (0, .ref (g.2.1 4)), (1, .ref (g.2.1 3)), (2, .int p1)]) hC dX5_bringCouple_51 (by decide) rfl ?_
      obtain ⟨M1, e2, h⟩ := cb_b h
      refine cj_pick [3, 5, 2, 1, 0] rfl ?_
      refine l_X5_bringCouple_L53 hC p1 x1 x3 cb_fuel _ _ _ e2 (fun ze2 hz => ?_)
      obtain rfl := hz
      obtain rfl := Option.some.inj h
      exact cj_vret hC dX5_bringCouple_102
    · replace h := cb_F c2 h
      obtain rfl := Option.some.inj h
      exact cj_vret hC dX5_bringCouple_24
def f_X5_dawn_L2 : Nat → Int32 → Int32 → cb_Mem → Option (cb_Mem)
    | 0, _, _, _ => none
    | n + 1, v2, v3, M =>
      if (M 3 7) ≤ v3 then
      some M
      else
      if cb_in v2 40 = true then
      Option.bind (if (((M 28 v2.toNatClampNeg) &&& ((M 4 9) ^^^ (-1))) &&& ((1 : Int32) <<< (v3 &&& 31))) = 0 then
      some M
      else
      if cb_in v2 40 = true then
      if cb_in v3 8 = true then
      (f_X6_leastBit (((M 27 v2.toNatClampNeg) &&& ((M 4 8) ^^^ (-1))) &&& (M 26 v3.toNatClampNeg))).bind fun x1 =>
      if x1 = (-1) then
      some M
      else
      cb_let (cb_up M 4 8 ((M 4 8) ||| ((1 : Int32) <<< (x1 &&& 31)))) fun M2 =>
      cb_let (cb_up M2 4 9 ((M2 4 9) ||| ((1 : Int32) <<< (v3 &&& 31)))) fun M3 =>
      if cb_in v3 8 = true then
      cb_let (cb_up M3 24 v3.toNatClampNeg x1) fun M4 =>
      if cb_in v3 8 = true then
      cb_let (cb_up M4 25 v3.toNatClampNeg v2) fun M5 =>
      some M5
      else none
      else none
      else none
      else none) fun M1 =>
      f_X5_dawn_L2 n v2 (v3 + 1) M1
      else none
def f_X5_dawn (p1 : Int32) (M : cb_Mem) : Option (cb_Mem) :=
  (f_X5_dawn_L2 cb_fuel p1 0 M).bind fun M1 =>
  some M1
set_option maxRecDepth 100000 in
set_option maxHeartbeats 4000000 in
theorem l_X5_dawn_L2 {l : Launch} {g : cb_Geo} {γ : cb_Gam} {Mr : cb_Mem} (hC : cb_C cx g γ RX5 cX5_dawn 5 none 1 l (cb_Qv cx g Mr)) (v2 : Int32) : ∀ (n : Nat) (v3 : Int32) (M : cb_Mem) (o : (cb_Mem)), f_X5_dawn_L2 n v2 v3 M = some o → (∀ (M' : cb_Mem), o = M' → cb_J cx g γ 5 M' 113 [] []) → cb_J cx g γ 5 M 2 [(0, .ref (g.2.1 4)), (1, .ref (g.2.1 3)), (2, .int v2), (3, .int v3)] [] := by
  intro n
  induction n with
  | zero =>
    intro v3 M o h
    cases h
  | succ n ih =>
    intro v3 M o h hexit
    unfold f_X5_dawn_L2 at h
    refine cj_iload_n hC dX5_dawn_2 rfl 3 rfl ?_
    refine cj_aload_n hC dX5_dawn_3 rfl 1 rfl ?_
    refine cj_get (v := .int (M 3 7)) hC fa_X5_49 cx_l3_ (cx_e3 g _) rfl dX5_dawn_4 ?_
    refine cj_icmp_ge (tgt := 113) hC dX5_dawn_7 (by decide) (fun c1 => ?_) (fun c1 => ?_)
    · replace h := cb_T c1 h
      obtain rfl := Option.some.inj h
      exact cj_pick [] rfl (hexit _ rfl)
    · replace h := cb_F c1 h
      refine cj_aload_n hC dX5_dawn_10 rfl 0 rfl ?_
      refine cj_get (v := .ref (g.2.1 28)) hC fa_X5_30 cx_l4_ (cx_e4 g _) rfl dX5_dawn_11 ?_
      refine cj_iload_n hC dX5_dawn_14 rfl 2 rfl ?_
      obtain ⟨i1, h⟩ := cb_g h
      refine cj_iald hC cx_l28_ (cx_e28 g _) (cx_t0 g) i1 dX5_dawn_15 ?_
      refine cj_aload_n hC dX5_dawn_16 rfl 0 rfl ?_
      refine cj_get (v := .int (M 4 9)) hC fa_X5_58 cx_l4_ (cx_e4 g _) rfl dX5_dawn_17 ?_
      refine cj_iconst (v := (-1)) hC dX5_dawn_20 rfl ?_
      refine cj_ixor hC dX5_dawn_21 ?_
      refine cj_iand hC dX5_dawn_22 ?_
      refine cj_iconst (v := 1) hC dX5_dawn_23 rfl ?_
      refine cj_iload_n hC dX5_dawn_24 rfl 3 rfl ?_
      refine cj_ishl hC dX5_dawn_25 ?_
      refine cj_iand hC dX5_dawn_26 ?_
      obtain ⟨M1, hx1, h⟩ := cb_b h
      have hj1 : cb_J cx g γ 5 M1 107 [(0, .ref (g.2.1 4)), (1, .ref (g.2.1 3)), (2, .int v2), (3, .int v3)] [] := by
        refine cj_iinc (lv' := [(3, .int (v3 + 1)), (0, .ref (g.2.1 4)), (1, .ref (g.2.1 3)), (2, .int v2)]) hC dX5_dawn_107 (q := 3) rfl rfl (by decide) rfl ?_
        refine cj_goto (tgt := 2) hC dX5_dawn_110 (by decide) ?_
        exact cj_pick [1, 2, 3, 0] rfl (ih _ _ _ h hexit)
      refine cj_if_ne (tgt := 33) hC dX5_dawn_27 (by decide) (fun c2 => ?_) (fun c2 => ?_)
      · replace hx1 := cb_F c2 hx1
        refine cj_aload_n hC dX5_dawn_33 rfl 0 rfl ?_
        refine cj_get (v := .ref (g.2.1 27)) hC fa_X5_27 cx_l4_ (cx_e4 g _) rfl dX5_dawn_34 ?_
        refine cj_iload_n hC dX5_dawn_37 rfl 2 rfl ?_
        obtain ⟨i2, hx1⟩ := cb_g hx1
        refine cj_iald hC cx_l27_ (cx_e27 g _) (cx_t0 g) i2 dX5_dawn_38 ?_
        refine cj_aload_n hC dX5_dawn_39 rfl 0 rfl ?_
        refine cj_get (v := .int (M 4 8)) hC fa_X5_55 cx_l4_ (cx_e4 g _) rfl dX5_dawn_40 ?_
        refine cj_iconst (v := (-1)) hC dX5_dawn_43 rfl ?_
        refine cj_ixor hC dX5_dawn_44 ?_
        refine cj_iand hC dX5_dawn_45 ?_
        refine cj_aload_n hC dX5_dawn_46 rfl 0 rfl ?_
        refine cj_get (v := .ref (g.2.1 26)) hC fa_X5_24 cx_l4_ (cx_e4 g _) rfl dX5_dawn_47 ?_
        refine cj_iload_n hC dX5_dawn_50 rfl 3 rfl ?_
        obtain ⟨i3, hx1⟩ := cb_g hx1
        refine cj_iald hC cx_l26_ (cx_e26 g _) (cx_t0 g) i3 dX5_dawn_51 ?_
        refine cj_iand hC dX5_dawn_52 ?_
        obtain ⟨x1, e1, hx1⟩ := cb_b hx1
        refine cj_callNi (As := [.int (((M 27 v2.toNatClampNeg) &&& ((M 4 8) ^^^ (-1))) &&& (M 26 v3.toNatClampNeg))]) hC cn_X5_102 (c_X6_leastBit l g (((M 27 v2.toNatClampNeg) &&& ((M 4 8) ^^^ (-1))) &&& (M 26 v3.toNatClampNeg)) M e1) (by decide) rfl rfl (Nat.le_of_ble_eq_true rfl) dX5_dawn_53 ?_
        refine cj_istore (lv' := [(4, .int x1), (0, .ref (g.2.1 4)), (1, .ref (g.2.1 3)), (2, .int v2), (3, .int v3)]) hC dX5_dawn_56 (by decide) rfl ?_
        refine cj_iload hC dX5_dawn_58 0 rfl ?_
        refine cj_iconst (v := (-1)) hC dX5_dawn_60 rfl ?_
        refine cj_icmp_ne (tgt := 67) hC dX5_dawn_61 (by decide) (fun c3 => ?_) (fun c3 => ?_)
        · replace hx1 := cb_F c3 hx1
          refine cj_aload_n hC dX5_dawn_67 rfl 1 rfl ?_
          refine cj_dup hC dX5_dawn_68 rfl ?_
          refine cj_get (v := .int (M 4 8)) hC fa_X5_55 cx_l4_ (cx_e4 g _) rfl dX5_dawn_69 ?_
          refine cj_iconst (v := 1) hC dX5_dawn_72 rfl ?_
          refine cj_iload hC dX5_dawn_73 0 rfl ?_
          refine cj_ishl hC dX5_dawn_75 ?_
          refine cj_ior hC dX5_dawn_76 ?_
          obtain ⟨M2, eM2, hx1⟩ := cb_l hx1
          refine cj_put hC fp_X5_55 cx_l4_ (cx_e4 g _) rfl (Nat.le_of_ble_eq_true rfl) eM2 dX5_dawn_77 ?_
          refine cj_aload_n hC dX5_dawn_80 rfl 1 rfl ?_
          refine cj_dup hC dX5_dawn_81 rfl ?_
          refine cj_get (v := .int (M2 4 9)) hC fa_X5_58 cx_l4_ (cx_e4 g _) rfl dX5_dawn_82 ?_
          refine cj_iconst (v := 1) hC dX5_dawn_85 rfl ?_
          refine cj_iload_n hC dX5_dawn_86 rfl 4 rfl ?_
          refine cj_ishl hC dX5_dawn_87 ?_
          refine cj_ior hC dX5_dawn_88 ?_
          obtain ⟨M3, eM3, hx1⟩ := cb_l hx1
          refine cj_put hC fp_X5_58 cx_l4_ (cx_e4 g _) rfl (Nat.le_of_ble_eq_true rfl) eM3 dX5_dawn_89 ?_
          refine cj_aload_n hC dX5_dawn_92 rfl 1 rfl ?_
          refine cj_get (v := .ref (g.2.1 24)) hC fa_X5_18 cx_l4_ (cx_e4 g _) rfl dX5_dawn_93 ?_
          refine cj_iload_n hC dX5_dawn_96 rfl 4 rfl ?_
          refine cj_iload hC dX5_dawn_97 0 rfl ?_
          obtain ⟨i4, hx1⟩ := cb_g hx1
          obtain ⟨M4, eM4, hx1⟩ := cb_l hx1
          refine cj_iast hC cx_l24_ (cx_e24 g) (cx_t0 g) i4 eM4 dX5_dawn_99 ?_
          refine cj_aload_n hC dX5_dawn_100 rfl 1 rfl ?_
          refine cj_get (v := .ref (g.2.1 25)) hC fa_X5_21 cx_l4_ (cx_e4 g _) rfl dX5_dawn_101 ?_
          refine cj_iload_n hC dX5_dawn_104 rfl 4 rfl ?_
          refine cj_iload_n hC dX5_dawn_105 rfl 3 rfl ?_
          obtain ⟨i5, hx1⟩ := cb_g hx1
          obtain ⟨M5, eM5, hx1⟩ := cb_l hx1
          refine cj_iast hC cx_l25_ (cx_e25 g) (cx_t0 g) i5 eM5 dX5_dawn_106 ?_
          obtain rfl := Option.some.inj hx1
          exact cj_pick [1, 2, 3, 4] rfl hj1
        · replace hx1 := cb_T c3 hx1
          refine cj_goto (tgt := 107) hC dX5_dawn_64 (by decide) ?_
          obtain rfl := Option.some.inj hx1
          exact cj_pick [1, 2, 3, 4] rfl hj1
      · replace hx1 := cb_T c2 hx1
        refine cj_goto (tgt := 107) hC dX5_dawn_30 (by decide) ?_
        obtain rfl := Option.some.inj hx1
        exact cj_pick [0, 1, 2, 3] rfl hj1
set_option maxRecDepth 100000 in
set_option maxHeartbeats 4000000 in
theorem c_X5_dawn (l : Launch) (g : cb_Geo) (p1 : Int32) (M : cb_Mem) {Mr : cb_Mem} (h : f_X5_dawn p1 M = some Mr) : Met l yX5_dawn (.code yX5_dawn cX5_dawn 5 none :: cb_ws) (cb_rm 1) (cb_Pc cx g [.ref (g.2.1 4), .ref (g.2.1 3), .int p1] M) (cb_Qv cx g Mr) 0 0 (cb_A cx g) := by
  refine cb_met (by decide) wd_581 (Nat.le_of_ble_eq_true rfl) (fun γ hC => ?_)
  replace hC : cb_C cx g γ RX5 cX5_dawn 5 none 1 l (cb_Qv cx g Mr) := hC
  show cb_J cx g γ 5 M 0 [(0, .ref (g.2.1 4)), (1, .ref (g.2.1 3)), (2, .int p1)] []
  unfold f_X5_dawn at h
  refine cj_iconst (v := 0) hC dX5_dawn_0 rfl ?_
  refine cj_istore_n (lv' := [(3, .int 0), (0, .ref (g.2.1 4)), (1, .ref (g.2.1 3)), (2, .int p1)]) hC dX5_dawn_1 rfl (by decide) rfl ?_
  obtain ⟨M1, e1, h⟩ := cb_b h
  refine cj_pick [1, 2, 3, 0] rfl ?_
  refine l_X5_dawn_L2 hC p1 cb_fuel _ _ _ e1 (fun ze1 hz => ?_)
  obtain rfl := hz
  obtain rfl := Option.some.inj h
  exact cj_vret hC dX5_dawn_113
def f_X5_go_L6 : Nat → Int32 → cb_Mem → Option (cb_Mem)
    | 0, _, _ => none
    | n + 1, v2, M =>
      if (M 3 6) ≤ v2 then
      some M
      else
      (f_X5_bringHead v2 M).bind fun M1 =>
      f_X5_go_L6 n (v2 + 1) M1
def f_X5_go_L28 : Nat → Int32 → cb_Mem → Option (cb_Mem)
    | 0, _, _ => none
    | n + 1, v2, M =>
      if (M 3 7) ≤ v2 then
      some M
      else
      (f_X5_bringCouple v2 M).bind fun M1 =>
      f_X5_go_L28 n (v2 + 1) M1
def f_X5_go_L50 : Nat → Int32 → cb_Mem → Option (cb_Mem)
    | 0, _, _ => none
    | n + 1, v2, M =>
      if 40 ≤ v2 then
      some M
      else
      if cb_in v2 40 = true then
      Option.bind (if ((M 27 v2.toNatClampNeg) &&& ((M 4 8) ^^^ (-1))) = 0 then
      some M
      else
      if cb_in v2 40 = true then
      if ((M 28 v2.toNatClampNeg) &&& ((M 4 9) ^^^ (-1))) = 0 then
      some M
      else
      (f_X5_dawn v2 M).bind fun M2 =>
      some M2
      else none) fun M1 =>
      f_X5_go_L50 n (v2 + 1) M1
      else none
def f_X5_go  (M : cb_Mem) : Option (cb_Mem) :=
  (f_X5_clear  M).bind fun M1 =>
  (f_X5_go_L6 cb_fuel 0 M1).bind fun M2 =>
  (f_X5_go_L28 cb_fuel 0 M2).bind fun M3 =>
  (f_X5_go_L50 cb_fuel 0 M3).bind fun M4 =>
  some M4
set_option maxRecDepth 100000 in
set_option maxHeartbeats 4000000 in
theorem l_X5_go_L6 {l : Launch} {g : cb_Geo} {γ : cb_Gam} {Mr : cb_Mem} (hC : cb_C cx g γ RX5 cX5_go 3 none 2 l (cb_Qv cx g Mr))  : ∀ (n : Nat) (v2 : Int32) (M : cb_Mem) (o : (cb_Mem)), f_X5_go_L6 n v2 M = some o → (∀ (M' : cb_Mem), o = M' → cb_J cx g γ 3 M' 26 [(0, .ref (g.2.1 4)), (1, .ref (g.2.1 3))] []) → cb_J cx g γ 3 M 6 [(0, .ref (g.2.1 4)), (1, .ref (g.2.1 3)), (2, .int v2)] [] := by
  intro n
  induction n with
  | zero =>
    intro v2 M o h
    cases h
  | succ n ih =>
    intro v2 M o h hexit
    unfold f_X5_go_L6 at h
    refine cj_iload_n hC dX5_go_6 rfl 2 rfl ?_
    refine cj_aload_n hC dX5_go_7 rfl 1 rfl ?_
    refine cj_get (v := .int (M 3 6)) hC fa_X5_39 cx_l3_ (cx_e3 g _) rfl dX5_go_8 ?_
    refine cj_icmp_ge (tgt := 26) hC dX5_go_11 (by decide) (fun c1 => ?_) (fun c1 => ?_)
    · replace h := cb_T c1 h
      obtain rfl := Option.some.inj h
      exact cj_pick [0, 1] rfl (hexit _ rfl)
    · replace h := cb_F c1 h
      refine cj_aload_n hC dX5_go_14 rfl 0 rfl ?_
      refine cj_aload_n hC dX5_go_15 rfl 1 rfl ?_
      refine cj_iload_n hC dX5_go_16 rfl 2 rfl ?_
      obtain ⟨M1, e1, h⟩ := cb_b h
      refine cj_callVv (As := [.ref (g.2.1 3), .int v2]) hC cv_X5_45 cx_l4_ (cx_e4 g _) rfl (c_X5_bringHead l g v2 M e1) (by decide) rfl rfl (Nat.le_of_ble_eq_true rfl) dX5_go_17 ?_
      refine cj_iinc (lv' := [(2, .int (v2 + 1)), (0, .ref (g.2.1 4)), (1, .ref (g.2.1 3))]) hC dX5_go_20 (q := 2) rfl rfl (by decide) rfl ?_
      refine cj_goto (tgt := 6) hC dX5_go_23 (by decide) ?_
      exact cj_pick [1, 2, 0] rfl (ih _ _ _ h hexit)
set_option maxRecDepth 100000 in
set_option maxHeartbeats 4000000 in
theorem l_X5_go_L28 {l : Launch} {g : cb_Geo} {γ : cb_Gam} {Mr : cb_Mem} (hC : cb_C cx g γ RX5 cX5_go 3 none 2 l (cb_Qv cx g Mr))  : ∀ (n : Nat) (v2 : Int32) (M : cb_Mem) (o : (cb_Mem)), f_X5_go_L28 n v2 M = some o → (∀ (M' : cb_Mem), o = M' → cb_J cx g γ 3 M' 48 [(0, .ref (g.2.1 4)), (1, .ref (g.2.1 3))] []) → cb_J cx g γ 3 M 28 [(0, .ref (g.2.1 4)), (1, .ref (g.2.1 3)), (2, .int v2)] [] := by
  intro n
  induction n with
  | zero =>
    intro v2 M o h
    cases h
  | succ n ih =>
    intro v2 M o h hexit
    unfold f_X5_go_L28 at h
    refine cj_iload_n hC dX5_go_28 rfl 2 rfl ?_
    refine cj_aload_n hC dX5_go_29 rfl 1 rfl ?_
    refine cj_get (v := .int (M 3 7)) hC fa_X5_49 cx_l3_ (cx_e3 g _) rfl dX5_go_30 ?_
    refine cj_icmp_ge (tgt := 48) hC dX5_go_33 (by decide) (fun c1 => ?_) (fun c1 => ?_)
    · replace h := cb_T c1 h
      obtain rfl := Option.some.inj h
      exact cj_pick [0, 1] rfl (hexit _ rfl)
    · replace h := cb_F c1 h
      refine cj_aload_n hC dX5_go_36 rfl 0 rfl ?_
      refine cj_aload_n hC dX5_go_37 rfl 1 rfl ?_
      refine cj_iload_n hC dX5_go_38 rfl 2 rfl ?_
      obtain ⟨M1, e1, h⟩ := cb_b h
      refine cj_callVv (As := [.ref (g.2.1 3), .int v2]) hC cv_X5_52 cx_l4_ (cx_e4 g _) rfl (c_X5_bringCouple l g v2 M e1) (by decide) rfl rfl (Nat.le_of_ble_eq_true rfl) dX5_go_39 ?_
      refine cj_iinc (lv' := [(2, .int (v2 + 1)), (0, .ref (g.2.1 4)), (1, .ref (g.2.1 3))]) hC dX5_go_42 (q := 2) rfl rfl (by decide) rfl ?_
      refine cj_goto (tgt := 28) hC dX5_go_45 (by decide) ?_
      exact cj_pick [1, 2, 0] rfl (ih _ _ _ h hexit)
set_option maxRecDepth 100000 in
set_option maxHeartbeats 4000000 in
theorem l_X5_go_L50 {l : Launch} {g : cb_Geo} {γ : cb_Gam} {Mr : cb_Mem} (hC : cb_C cx g γ RX5 cX5_go 3 none 2 l (cb_Qv cx g Mr))  : ∀ (n : Nat) (v2 : Int32) (M : cb_Mem) (o : (cb_Mem)), f_X5_go_L50 n v2 M = some o → (∀ (M' : cb_Mem), o = M' → cb_J cx g γ 3 M' 100 [] []) → cb_J cx g γ 3 M 50 [(0, .ref (g.2.1 4)), (1, .ref (g.2.1 3)), (2, .int v2)] [] := by
  intro n
  induction n with
  | zero =>
    intro v2 M o h
    cases h
  | succ n ih =>
    intro v2 M o h hexit
    unfold f_X5_go_L50 at h
    refine cj_iload_n hC dX5_go_50 rfl 2 rfl ?_
    refine cj_bipush (v := 40) hC dX5_go_51 rfl ?_
    refine cj_icmp_ge (tgt := 100) hC dX5_go_53 (by decide) (fun c1 => ?_) (fun c1 => ?_)
    · replace h := cb_T c1 h
      obtain rfl := Option.some.inj h
      exact cj_pick [] rfl (hexit _ rfl)
    · replace h := cb_F c1 h
      refine cj_aload_n hC dX5_go_56 rfl 0 rfl ?_
      refine cj_get (v := .ref (g.2.1 27)) hC fa_X5_27 cx_l4_ (cx_e4 g _) rfl dX5_go_57 ?_
      refine cj_iload_n hC dX5_go_60 rfl 2 rfl ?_
      obtain ⟨i1, h⟩ := cb_g h
      refine cj_iald hC cx_l27_ (cx_e27 g _) (cx_t0 g) i1 dX5_go_61 ?_
      refine cj_aload_n hC dX5_go_62 rfl 0 rfl ?_
      refine cj_get (v := .int (M 4 8)) hC fa_X5_55 cx_l4_ (cx_e4 g _) rfl dX5_go_63 ?_
      refine cj_iconst (v := (-1)) hC dX5_go_66 rfl ?_
      refine cj_ixor hC dX5_go_67 ?_
      refine cj_iand hC dX5_go_68 ?_
      obtain ⟨M1, hx1, h⟩ := cb_b h
      have hj1 : cb_J cx g γ 3 M1 94 [(0, .ref (g.2.1 4)), (1, .ref (g.2.1 3)), (2, .int v2)] [] := by
        refine cj_iinc (lv' := [(2, .int (v2 + 1)), (0, .ref (g.2.1 4)), (1, .ref (g.2.1 3))]) hC dX5_go_94 (q := 2) rfl rfl (by decide) rfl ?_
        refine cj_goto (tgt := 50) hC dX5_go_97 (by decide) ?_
        exact cj_pick [1, 2, 0] rfl (ih _ _ _ h hexit)
      refine cj_if_eq (tgt := 94) hC dX5_go_69 (by decide) (fun c2 => ?_) (fun c2 => ?_)
      · replace hx1 := cb_T c2 hx1
        obtain rfl := Option.some.inj hx1
        exact cj_pick [0, 1, 2] rfl hj1
      · replace hx1 := cb_F c2 hx1
        refine cj_aload_n hC dX5_go_72 rfl 0 rfl ?_
        refine cj_get (v := .ref (g.2.1 28)) hC fa_X5_30 cx_l4_ (cx_e4 g _) rfl dX5_go_73 ?_
        refine cj_iload_n hC dX5_go_76 rfl 2 rfl ?_
        obtain ⟨i2, hx1⟩ := cb_g hx1
        refine cj_iald hC cx_l28_ (cx_e28 g _) (cx_t0 g) i2 dX5_go_77 ?_
        refine cj_aload_n hC dX5_go_78 rfl 0 rfl ?_
        refine cj_get (v := .int (M 4 9)) hC fa_X5_58 cx_l4_ (cx_e4 g _) rfl dX5_go_79 ?_
        refine cj_iconst (v := (-1)) hC dX5_go_82 rfl ?_
        refine cj_ixor hC dX5_go_83 ?_
        refine cj_iand hC dX5_go_84 ?_
        refine cj_if_eq (tgt := 94) hC dX5_go_85 (by decide) (fun c3 => ?_) (fun c3 => ?_)
        · replace hx1 := cb_T c3 hx1
          obtain rfl := Option.some.inj hx1
          exact cj_pick [0, 1, 2] rfl hj1
        · replace hx1 := cb_F c3 hx1
          refine cj_aload_n hC dX5_go_88 rfl 0 rfl ?_
          refine cj_aload_n hC dX5_go_89 rfl 1 rfl ?_
          refine cj_iload_n hC dX5_go_90 rfl 2 rfl ?_
          obtain ⟨M2, e1, hx1⟩ := cb_b hx1
          refine cj_callVv (As := [.ref (g.2.1 3), .int v2]) hC cv_X5_61 cx_l4_ (cx_e4 g _) rfl (c_X5_dawn l g v2 M e1) (by decide) rfl rfl (Nat.le_of_ble_eq_true rfl) dX5_go_91 ?_
          obtain rfl := Option.some.inj hx1
          exact cj_pick [0, 1, 2] rfl hj1
set_option maxRecDepth 100000 in
set_option maxHeartbeats 4000000 in
theorem c_X5_go (l : Launch) (g : cb_Geo)  (M : cb_Mem) {Mr : cb_Mem} (h : f_X5_go  M = some Mr) : Met l yX5_go (.code yX5_go cX5_go 3 none :: cb_ws) (cb_rm 2) (cb_Pc cx g [.ref (g.2.1 4), .ref (g.2.1 3)] M) (cb_Qv cx g Mr) 0 0 (cb_A cx g) := by
  refine cb_met (by decide) wd_556 (Nat.le_of_ble_eq_true rfl) (fun γ hC => ?_)
  replace hC : cb_C cx g γ RX5 cX5_go 3 none 2 l (cb_Qv cx g Mr) := hC
  show cb_J cx g γ 3 M 0 [(0, .ref (g.2.1 4)), (1, .ref (g.2.1 3))] []
  unfold f_X5_go at h
  refine cj_aload_n hC dX5_go_0 rfl 0 rfl ?_
  obtain ⟨M1, e1, h⟩ := cb_b h
  refine cj_callVv (As := []) hC cv_X5_36 cx_l4_ (cx_e4 g _) rfl (c_X5_clear l g  M e1) (by decide) rfl rfl (Nat.le_of_ble_eq_true rfl) dX5_go_1 ?_
  refine cj_iconst (v := 0) hC dX5_go_4 rfl ?_
  refine cj_istore_n (lv' := [(2, .int 0), (0, .ref (g.2.1 4)), (1, .ref (g.2.1 3))]) hC dX5_go_5 rfl (by decide) rfl ?_
  obtain ⟨M2, e2, h⟩ := cb_b h
  refine cj_pick [1, 2, 0] rfl ?_
  refine l_X5_go_L6 hC  cb_fuel _ _ _ e2 (fun ze2 hz => ?_)
  obtain rfl := hz
  refine cj_iconst (v := 0) hC dX5_go_26 rfl ?_
  refine cj_istore_n (lv' := [(2, .int 0), (0, .ref (g.2.1 4)), (1, .ref (g.2.1 3))]) hC dX5_go_27 rfl (by decide) rfl ?_
  obtain ⟨M3, e3, h⟩ := cb_b h
  refine cj_pick [1, 2, 0] rfl ?_
  refine l_X5_go_L28 hC  cb_fuel _ _ _ e3 (fun ze3 hz => ?_)
  obtain rfl := hz
  refine cj_iconst (v := 0) hC dX5_go_48 rfl ?_
  refine cj_istore_n (lv' := [(2, .int 0), (0, .ref (g.2.1 4)), (1, .ref (g.2.1 3))]) hC dX5_go_49 rfl (by decide) rfl ?_
  obtain ⟨M4, e4, h⟩ := cb_b h
  refine cj_pick [1, 2, 0] rfl ?_
  refine l_X5_go_L50 hC  cb_fuel _ _ _ e4 (fun ze4 hz => ?_)
  obtain rfl := hz
  obtain rfl := Option.some.inj h
  exact cj_vret hC dX5_go_100
def f_X5_lifterOf_L2 : Nat → Int32 → Int32 → cb_Mem → Option ((Int32) ⊕ (Unit))
    | 0, _, _, _ => none
    | n + 1, v1, v2, M =>
      if 8 ≤ v2 then
      some (Sum.inr ())
      else
      if cb_in v2 8 = true then
      if (M 24 v2.toNatClampNeg) = v1 then
      some (Sum.inl v2)
      else
      f_X5_lifterOf_L2 n v1 (v2 + 1) M
      else none
def f_X5_lifterOf (p1 : Int32) (M : cb_Mem) : Option (Int32) :=
  cb_bs (f_X5_lifterOf_L2 cb_fuel p1 0 M) (fun r => some r) fun _ =>
  some ((-1) : Int32)
set_option maxRecDepth 100000 in
set_option maxHeartbeats 4000000 in
theorem l_X5_lifterOf_L2 {l : Launch} {g : cb_Geo} {γ : cb_Gam} {rr : Int32} {M : cb_Mem} (hC : cb_C cx g γ RX5 cX5_lifterOf 3 (some .int) 0 l (cb_Qi cx g rr M)) (v1 : Int32) : ∀ (n : Nat) (v2 : Int32) (o : ((Int32) ⊕ (Unit))), f_X5_lifterOf_L2 n v1 v2 M = some o → (∀ (u : Int32), o = Sum.inl u → u = rr) → (o = Sum.inr () → cb_J cx g γ 3 M 26 [] []) → cb_J cx g γ 3 M 2 [(0, .ref (g.2.1 4)), (1, .int v1), (2, .int v2)] [] := by
  intro n
  induction n with
  | zero =>
    intro v2 o h
    cases h
  | succ n ih =>
    intro v2 o h hret hexit
    unfold f_X5_lifterOf_L2 at h
    refine cj_iload_n hC dX5_lifterOf_2 rfl 2 rfl ?_
    refine cj_bipush (v := 8) hC dX5_lifterOf_3 rfl ?_
    refine cj_icmp_ge (tgt := 26) hC dX5_lifterOf_5 (by decide) (fun c1 => ?_) (fun c1 => ?_)
    · replace h := cb_T c1 h
      obtain rfl := Option.some.inj h
      exact cj_pick [] rfl (hexit  rfl)
    · replace h := cb_F c1 h
      refine cj_aload_n hC dX5_lifterOf_8 rfl 0 rfl ?_
      refine cj_get (v := .ref (g.2.1 24)) hC fa_X5_18 cx_l4_ (cx_e4 g _) rfl dX5_lifterOf_9 ?_
      refine cj_iload_n hC dX5_lifterOf_12 rfl 2 rfl ?_
      obtain ⟨i1, h⟩ := cb_g h
      refine cj_iald hC cx_l24_ (cx_e24 g _) (cx_t0 g) i1 dX5_lifterOf_13 ?_
      refine cj_iload_n hC dX5_lifterOf_14 rfl 1 rfl ?_
      refine cj_icmp_ne (tgt := 20) hC dX5_lifterOf_15 (by decide) (fun c2 => ?_) (fun c2 => ?_)
      · replace h := cb_F c2 h
        refine cj_iinc (lv' := [(2, .int (v2 + 1)), (0, .ref (g.2.1 4)), (1, .int v1)]) hC dX5_lifterOf_20 (q := 2) rfl rfl (by decide) rfl ?_
        refine cj_goto (tgt := 2) hC dX5_lifterOf_23 (by decide) ?_
        exact cj_pick [1, 2, 0] rfl (ih _ _ h hret hexit)
      · replace h := cb_T c2 h
        refine cj_iload_n hC dX5_lifterOf_18 rfl 2 rfl ?_
        obtain rfl := Option.some.inj h
        obtain rfl := hret _ rfl
        exact cj_iret hC dX5_lifterOf_19
set_option maxRecDepth 100000 in
set_option maxHeartbeats 4000000 in
theorem c_X5_lifterOf (l : Launch) (g : cb_Geo) (p1 : Int32) (M : cb_Mem) {rr : Int32} (h : f_X5_lifterOf p1 M = some rr) : Met l yX5_lifterOf (.code yX5_lifterOf cX5_lifterOf 3 (some .int) :: cb_ws) (cb_rm 0) (cb_Pc cx g [.ref (g.2.1 4), .int p1] M) (cb_Qi cx g rr M) 0 0 (cb_A cx g) := by
  refine cb_met (by decide) wd_592 (Nat.le_of_ble_eq_true rfl) (fun γ hC => ?_)
  replace hC : cb_C cx g γ RX5 cX5_lifterOf 3 (some .int) 0 l (cb_Qi cx g rr M) := hC
  show cb_J cx g γ 3 M 0 [(0, .ref (g.2.1 4)), (1, .int p1)] []
  unfold f_X5_lifterOf at h
  refine cj_iconst (v := 0) hC dX5_lifterOf_0 rfl ?_
  refine cj_istore_n (lv' := [(2, .int 0), (0, .ref (g.2.1 4)), (1, .int p1)]) hC dX5_lifterOf_1 rfl (by decide) rfl ?_
  obtain ⟨z1, e1, hr1, hk1⟩ := cb_s h
  refine cj_pick [1, 2, 0] rfl ?_
  refine l_X5_lifterOf_L2 hC p1 cb_fuel _ _ e1 (fun u hz => Option.some.inj (hr1 _ hz)) (fun hz => ?_)
  replace h := hk1 () hz
  refine cj_iconst (v := (-1)) hC dX5_lifterOf_26 rfl ?_
  obtain rfl := Option.some.inj h
  exact cj_iret hC dX5_lifterOf_27
def f_X5_stateOf (p1 : Int32) (p2 : Int32) (M : cb_Mem) : Option (Int32) :=
  (f_X5_lifterOf p2 M).bind fun x1 =>
  cb_let (fun (_ : Unit) =>
  if cb_in p2 8 = true then
  if p1 < (M 21 p2.toNatClampNeg) then
  if cb_in p2 8 = true then
  if (M 22 p2.toNatClampNeg) = (-1) then
  (f_X1_firstFrost  M).bind fun x2 =>
  if p1 < x2 then
  some (0 : Int32)
  else
  some (3 : Int32)
  else
  if cb_in p2 8 = true then
  if (M 22 p2.toNatClampNeg) ≤ p1 then
  if cb_in p2 8 = true then
  if (M 23 p2.toNatClampNeg) ≤ p1 then
  some (4 : Int32)
  else
  some (1 : Int32)
  else none
  else
  some (0 : Int32)
  else none
  else none
  else
  some (3 : Int32)
  else none) fun k1 =>
  if x1 = (-1) then
  k1 ()
  else
  if cb_in x1 8 = true then
  if p1 < (M 25 x1.toNatClampNeg) then
  k1 ()
  else
  some (2 : Int32)
  else none
set_option maxRecDepth 100000 in
set_option maxHeartbeats 4000000 in
theorem c_X5_stateOf (l : Launch) (g : cb_Geo) (p1 : Int32) (p2 : Int32) (M : cb_Mem) {rr : Int32} (h : f_X5_stateOf p1 p2 M = some rr) : Met l yX5_stateOf (.code yX5_stateOf cX5_stateOf 5 (some .int) :: cb_ws) (cb_rm 1) (cb_Pc cx g [.ref (g.2.1 4), .ref (g.2.1 3), .int p1, .int p2] M) (cb_Qi cx g rr M) 0 0 (cb_A cx g) := by
  refine cb_met (by decide) wd_588 (Nat.le_of_ble_eq_true rfl) (fun γ hC => ?_)
  replace hC : cb_C cx g γ RX5 cX5_stateOf 5 (some .int) 1 l (cb_Qi cx g rr M) := hC
  show cb_J cx g γ 5 M 0 [(0, .ref (g.2.1 4)), (1, .ref (g.2.1 3)), (2, .int p1), (3, .int p2)] []
  unfold f_X5_stateOf at h
  refine cj_aload_n hC dX5_stateOf_0 rfl 0 rfl ?_
  refine cj_iload_n hC dX5_stateOf_1 rfl 3 rfl ?_
  obtain ⟨x1, e1, h⟩ := cb_b h
  refine cj_callVi (As := [.int p2]) hC cv_X5_105 cx_l4_ (cx_e4 g _) rfl (c_X5_lifterOf l g p2 M e1) (by decide) rfl rfl (Nat.le_of_ble_eq_true rfl) dX5_stateOf_2 ?_
  refine cj_istore (lv' := [(4, .int x1), (0, .ref (g.2.1 4)), (1, .ref (g.2.1 3)), (2, .int p1), (3, .int p2)]) hC dX5_stateOf_5 (by decide) rfl ?_
  refine cj_iload hC dX5_stateOf_7 0 rfl ?_
  refine cj_iconst (v := (-1)) hC dX5_stateOf_9 rfl ?_
  obtain ⟨k1, ek1, h⟩ := cb_l h
  have hk1 : ∀ (u9 : Unit), k1 u9 = some rr → cb_J cx g γ 5 M 26 [(0, .ref (g.2.1 4)), (1, .ref (g.2.1 3)), (2, .int p1), (3, .int p2)] [] := by
    intro u9 h
    replace h := cb_k1 ek1 h
    refine cj_aload_n hC dX5_stateOf_26 rfl 1 rfl ?_
    refine cj_get (v := .ref (g.2.1 21)) hC fa_X5_84 cx_l3_ (cx_e3 g _) rfl dX5_stateOf_27 ?_
    refine cj_iload_n hC dX5_stateOf_30 rfl 3 rfl ?_
    obtain ⟨i1, h⟩ := cb_g h
    refine cj_iald hC cx_l21_ (cx_e21 g _) (cx_t0 g) i1 dX5_stateOf_31 ?_
    refine cj_iload_n hC dX5_stateOf_32 rfl 2 rfl ?_
    refine cj_icmp_gt (tgt := 38) hC dX5_stateOf_33 (by decide) (fun c1 => ?_) (fun c1 => ?_)
    · replace h := cb_T c1 h
      refine cj_aload_n hC dX5_stateOf_38 rfl 0 rfl ?_
      refine cj_get (v := .ref (g.2.1 22)) hC fa_X5_9 cx_l4_ (cx_e4 g _) rfl dX5_stateOf_39 ?_
      refine cj_iload_n hC dX5_stateOf_42 rfl 3 rfl ?_
      obtain ⟨i2, h⟩ := cb_g h
      refine cj_iald hC cx_l22_ (cx_e22 g _) (cx_t0 g) i2 dX5_stateOf_43 ?_
      refine cj_iconst (v := (-1)) hC dX5_stateOf_44 rfl ?_
      refine cj_icmp_ne (tgt := 62) hC dX5_stateOf_45 (by decide) (fun c2 => ?_) (fun c2 => ?_)
      · replace h := cb_F c2 h
        refine cj_iload_n hC dX5_stateOf_62 rfl 2 rfl ?_
        refine cj_aload_n hC dX5_stateOf_63 rfl 0 rfl ?_
        refine cj_get (v := .ref (g.2.1 22)) hC fa_X5_9 cx_l4_ (cx_e4 g _) rfl dX5_stateOf_64 ?_
        refine cj_iload_n hC dX5_stateOf_67 rfl 3 rfl ?_
        obtain ⟨i3, h⟩ := cb_g h
        refine cj_iald hC cx_l22_ (cx_e22 g _) (cx_t0 g) i3 dX5_stateOf_68 ?_
        refine cj_icmp_ge (tgt := 74) hC dX5_stateOf_69 (by decide) (fun c3 => ?_) (fun c3 => ?_)
        · replace h := cb_T c3 h
          refine cj_iload_n hC dX5_stateOf_74 rfl 2 rfl ?_
          refine cj_aload_n hC dX5_stateOf_75 rfl 0 rfl ?_
          refine cj_get (v := .ref (g.2.1 23)) hC fa_X5_15 cx_l4_ (cx_e4 g _) rfl dX5_stateOf_76 ?_
          refine cj_iload_n hC dX5_stateOf_79 rfl 3 rfl ?_
          obtain ⟨i4, h⟩ := cb_g h
          refine cj_iald hC cx_l23_ (cx_e23 g _) (cx_t0 g) i4 dX5_stateOf_80 ?_
          refine cj_icmp_ge (tgt := 88) hC dX5_stateOf_81 (by decide) (fun c4 => ?_) (fun c4 => ?_)
          · replace h := cb_T c4 h
            refine cj_iconst (v := 4) hC dX5_stateOf_88 rfl ?_
            obtain rfl := Option.some.inj h
            exact cj_iret hC dX5_stateOf_89
          · replace h := cb_F c4 h
            refine cj_iconst (v := 1) hC dX5_stateOf_84 rfl ?_
            refine cj_goto (tgt := 89) hC dX5_stateOf_85 (by decide) ?_
            obtain rfl := Option.some.inj h
            exact cj_iret hC dX5_stateOf_89
        · replace h := cb_F c3 h
          refine cj_iconst (v := 0) hC dX5_stateOf_72 rfl ?_
          obtain rfl := Option.some.inj h
          exact cj_iret hC dX5_stateOf_73
      · replace h := cb_T c2 h
        refine cj_aload_n hC dX5_stateOf_48 rfl 1 rfl ?_
        obtain ⟨x2, e2, h⟩ := cb_b h
        refine cj_callVi (As := []) hC cv_X5_108 cx_l3_ (cx_e3 g _) rfl (c_X1_firstFrost l g  M e2) (by decide) rfl rfl (Nat.le_of_ble_eq_true rfl) dX5_stateOf_49 ?_
        refine cj_iload_n hC dX5_stateOf_52 rfl 2 rfl ?_
        refine cj_icmp_gt (tgt := 60) hC dX5_stateOf_53 (by decide) (fun c5 => ?_) (fun c5 => ?_)
        · replace h := cb_T c5 h
          refine cj_iconst (v := 0) hC dX5_stateOf_60 rfl ?_
          obtain rfl := Option.some.inj h
          exact cj_iret hC dX5_stateOf_61
        · replace h := cb_F c5 h
          refine cj_iconst (v := 3) hC dX5_stateOf_56 rfl ?_
          refine cj_goto (tgt := 61) hC dX5_stateOf_57 (by decide) ?_
          obtain rfl := Option.some.inj h
          exact cj_iret hC dX5_stateOf_61
    · replace h := cb_F c1 h
      refine cj_iconst (v := 3) hC dX5_stateOf_36 rfl ?_
      obtain rfl := Option.some.inj h
      exact cj_iret hC dX5_stateOf_37
  refine cj_icmp_eq (tgt := 26) hC dX5_stateOf_10 (by decide) (fun c6 => ?_) (fun c6 => ?_)
  · replace h := cb_T c6 h
    exact cj_pick [1, 2, 3, 4] rfl (hk1 _ h)
  · replace h := cb_F c6 h
    refine cj_aload_n hC dX5_stateOf_13 rfl 1 rfl ?_
    refine cj_get (v := .ref (g.2.1 25)) hC fa_X5_21 cx_l4_ (cx_e4 g _) rfl dX5_stateOf_14 ?_
    refine cj_iload hC dX5_stateOf_17 0 rfl ?_
    obtain ⟨i5, h⟩ := cb_g h
    refine cj_iald hC cx_l25_ (cx_e25 g _) (cx_t0 g) i5 dX5_stateOf_19 ?_
    refine cj_iload_n hC dX5_stateOf_20 rfl 3 rfl ?_
    refine cj_icmp_gt (tgt := 26) hC dX5_stateOf_21 (by decide) (fun c7 => ?_) (fun c7 => ?_)
    · replace h := cb_T c7 h
      exact cj_pick [1, 2, 3, 4] rfl (hk1 _ h)
    · replace h := cb_F c7 h
      refine cj_iconst (v := 2) hC dX5_stateOf_24 rfl ?_
      obtain rfl := Option.some.inj h
      exact cj_iret hC dX5_stateOf_25
def f_X5_isStillWithout (p1 : Int32) (p2 : Int32) (M : cb_Mem) : Option (Int32) :=
  if cb_in p1 8 = true then
  if (M 25 p1.toNatClampNeg) = (-1) then
  some (1 : Int32)
  else
  if cb_in p1 8 = true then
  if cb_in p2 8 = true then
  if (M 25 p1.toNatClampNeg) ≤ (M 25 p2.toNatClampNeg) then
  if cb_in p1 8 = true then
  if cb_in p2 8 = true then
  if (M 25 p1.toNatClampNeg) = (M 25 p2.toNatClampNeg) then
  if p1 ≤ p2 then
  some (0 : Int32)
  else
  some (1 : Int32)
  else
  some (0 : Int32)
  else none
  else none
  else
  some (1 : Int32)
  else none
  else none
  else none
set_option maxRecDepth 100000 in
set_option maxHeartbeats 4000000 in
theorem c_X5_isStillWithout (l : Launch) (g : cb_Geo) (p1 : Int32) (p2 : Int32) (M : cb_Mem) {rr : Int32} (h : f_X5_isStillWithout p1 p2 M = some rr) : Met l yX5_isStillWithout (.code yX5_isStillWithout cX5_isStillWithout 3 (some .boolean) :: cb_ws) (cb_rm 0) (cb_Pc cx g [.ref (g.2.1 4), .int p1, .int p2] M) (cb_Qi cx g rr M) 0 0 (cb_A cx g) := by
  refine cb_met (by decide) wd_646 (Nat.le_of_ble_eq_true rfl) (fun γ hC => ?_)
  replace hC : cb_C cx g γ RX5 cX5_isStillWithout 3 (some .boolean) 0 l (cb_Qi cx g rr M) := hC
  show cb_J cx g γ 3 M 0 [(0, .ref (g.2.1 4)), (1, .int p1), (2, .int p2)] []
  unfold f_X5_isStillWithout at h
  refine cj_aload_n hC dX5_isStillWithout_0 rfl 0 rfl ?_
  refine cj_get (v := .ref (g.2.1 25)) hC fa_X5_21 cx_l4_ (cx_e4 g _) rfl dX5_isStillWithout_1 ?_
  refine cj_iload_n hC dX5_isStillWithout_4 rfl 1 rfl ?_
  obtain ⟨i1, h⟩ := cb_g h
  refine cj_iald hC cx_l25_ (cx_e25 g _) (cx_t0 g) i1 dX5_isStillWithout_5 ?_
  refine cj_iconst (v := (-1)) hC dX5_isStillWithout_6 rfl ?_
  refine cj_icmp_eq (tgt := 25) hC dX5_isStillWithout_7 (by decide) (fun c1 => ?_) (fun c1 => ?_)
  · replace h := cb_T c1 h
    refine cj_iconst (v := 1) hC dX5_isStillWithout_25 rfl ?_
    obtain rfl := Option.some.inj h
    exact cj_zret hC (Or.inr rfl) dX5_isStillWithout_26
  · replace h := cb_F c1 h
    refine cj_aload_n hC dX5_isStillWithout_10 rfl 0 rfl ?_
    refine cj_get (v := .ref (g.2.1 25)) hC fa_X5_21 cx_l4_ (cx_e4 g _) rfl dX5_isStillWithout_11 ?_
    refine cj_iload_n hC dX5_isStillWithout_14 rfl 1 rfl ?_
    obtain ⟨i2, h⟩ := cb_g h
    refine cj_iald hC cx_l25_ (cx_e25 g _) (cx_t0 g) i2 dX5_isStillWithout_15 ?_
    refine cj_aload_n hC dX5_isStillWithout_16 rfl 0 rfl ?_
    refine cj_get (v := .ref (g.2.1 25)) hC fa_X5_21 cx_l4_ (cx_e4 g _) rfl dX5_isStillWithout_17 ?_
    refine cj_iload_n hC dX5_isStillWithout_20 rfl 2 rfl ?_
    obtain ⟨i3, h⟩ := cb_g h
    refine cj_iald hC cx_l25_ (cx_e25 g _) (cx_t0 g) i3 dX5_isStillWithout_21 ?_
    refine cj_icmp_le (tgt := 27) hC dX5_isStillWithout_22 (by decide) (fun c2 => ?_) (fun c2 => ?_)
    · replace h := cb_T c2 h
      refine cj_aload_n hC dX5_isStillWithout_27 rfl 0 rfl ?_
      refine cj_get (v := .ref (g.2.1 25)) hC fa_X5_21 cx_l4_ (cx_e4 g _) rfl dX5_isStillWithout_28 ?_
      refine cj_iload_n hC dX5_isStillWithout_31 rfl 1 rfl ?_
      obtain ⟨i4, h⟩ := cb_g h
      refine cj_iald hC cx_l25_ (cx_e25 g _) (cx_t0 g) i4 dX5_isStillWithout_32 ?_
      refine cj_aload_n hC dX5_isStillWithout_33 rfl 0 rfl ?_
      refine cj_get (v := .ref (g.2.1 25)) hC fa_X5_21 cx_l4_ (cx_e4 g _) rfl dX5_isStillWithout_34 ?_
      refine cj_iload_n hC dX5_isStillWithout_37 rfl 2 rfl ?_
      obtain ⟨i5, h⟩ := cb_g h
      refine cj_iald hC cx_l25_ (cx_e25 g _) (cx_t0 g) i5 dX5_isStillWithout_38 ?_
      refine cj_icmp_ne (tgt := 51) hC dX5_isStillWithout_39 (by decide) (fun c3 => ?_) (fun c3 => ?_)
      · replace h := cb_F c3 h
        refine cj_iconst (v := 0) hC dX5_isStillWithout_51 rfl ?_
        obtain rfl := Option.some.inj h
        exact cj_zret hC (Or.inl rfl) dX5_isStillWithout_52
      · replace h := cb_T c3 h
        refine cj_iload_n hC dX5_isStillWithout_42 rfl 1 rfl ?_
        refine cj_iload_n hC dX5_isStillWithout_43 rfl 2 rfl ?_
        refine cj_icmp_le (tgt := 51) hC dX5_isStillWithout_44 (by decide) (fun c4 => ?_) (fun c4 => ?_)
        · replace h := cb_T c4 h
          refine cj_iconst (v := 0) hC dX5_isStillWithout_51 rfl ?_
          obtain rfl := Option.some.inj h
          exact cj_zret hC (Or.inl rfl) dX5_isStillWithout_52
        · replace h := cb_F c4 h
          refine cj_iconst (v := 1) hC dX5_isStillWithout_47 rfl ?_
          refine cj_goto (tgt := 52) hC dX5_isStillWithout_48 (by decide) ?_
          obtain rfl := Option.some.inj h
          exact cj_zret hC (Or.inr rfl) dX5_isStillWithout_52
    · replace h := cb_F c2 h
      refine cj_iconst (v := 1) hC dX5_isStillWithout_25 rfl ?_
      obtain rfl := Option.some.inj h
      exact cj_zret hC (Or.inr rfl) dX5_isStillWithout_26
def f_X5_isOutOfTurn_L15 : Nat → Int32 → Int32 → Int32 → cb_Mem → Option ((Int32) ⊕ (Unit))
    | 0, _, _, _, _ => none
    | n + 1, v2, v3, v4, M =>
      if (M 3 7) ≤ v4 then
      some (Sum.inr ())
      else
      if cb_in v4 8 = true then
      if cb_in v2 8 = true then
      cb_let (fun (_ : Unit) =>
      f_X5_isOutOfTurn_L15 n v2 v3 (v4 + 1) M) fun k1 =>
      if (M 19 v2.toNatClampNeg) ≤ (M 19 v4.toNatClampNeg) then
      k1 ()
      else
      if cb_in v2 8 = true then
      (f_X1_comesOn v4 (M 25 v2.toNatClampNeg) M).bind fun x1 =>
      if x1 = 0 then
      k1 ()
      else
      (f_X1_isWantedBy v4 v3 M).bind fun x2 =>
      if x2 = 0 then
      k1 ()
      else
      (f_X5_isStillWithout v4 v2 M).bind fun x3 =>
      if x3 = 0 then
      k1 ()
      else
      some (Sum.inl (1 : Int32))
      else none
      else none
      else none
def f_X5_isOutOfTurn (p1 : Int32) (M : cb_Mem) : Option (Int32) :=
  if cb_in p1 8 = true then
  if cb_in (M 24 p1.toNatClampNeg) 8 = true then
  cb_let ((M 16 (M 24 p1.toNatClampNeg).toNatClampNeg)) fun x1 =>
  cb_bs (f_X5_isOutOfTurn_L15 cb_fuel p1 x1 0 M) (fun r => some r) fun _ =>
  some (0 : Int32)
  else none
  else none
set_option maxRecDepth 100000 in
set_option maxHeartbeats 4000000 in
theorem l_X5_isOutOfTurn_L15 {l : Launch} {g : cb_Geo} {γ : cb_Gam} {rr : Int32} {M : cb_Mem} (hC : cb_C cx g γ RX5 cX5_isOutOfTurn 5 (some .boolean) 1 l (cb_Qi cx g rr M)) (v2 : Int32) (v3 : Int32) : ∀ (n : Nat) (v4 : Int32) (o : ((Int32) ⊕ (Unit))), f_X5_isOutOfTurn_L15 n v2 v3 v4 M = some o → (∀ (u : Int32), o = Sum.inl u → u = rr) → (o = Sum.inr () → cb_J cx g γ 5 M 83 [] []) → cb_J cx g γ 5 M 15 [(0, .ref (g.2.1 4)), (1, .ref (g.2.1 3)), (2, .int v2), (3, .int v3), (4, .int v4)] [] := by
  intro n
  induction n with
  | zero =>
    intro v4 o h
    cases h
  | succ n ih =>
    intro v4 o h hret hexit
    unfold f_X5_isOutOfTurn_L15 at h
    refine cj_iload hC dX5_isOutOfTurn_15 4 rfl ?_
    refine cj_aload_n hC dX5_isOutOfTurn_17 rfl 1 rfl ?_
    refine cj_get (v := .int (M 3 7)) hC fa_X5_49 cx_l3_ (cx_e3 g _) rfl dX5_isOutOfTurn_18 ?_
    refine cj_icmp_ge (tgt := 83) hC dX5_isOutOfTurn_21 (by decide) (fun c1 => ?_) (fun c1 => ?_)
    · replace h := cb_T c1 h
      obtain rfl := Option.some.inj h
      exact cj_pick [] rfl (hexit  rfl)
    · replace h := cb_F c1 h
      refine cj_aload_n hC dX5_isOutOfTurn_24 rfl 1 rfl ?_
      refine cj_get (v := .ref (g.2.1 19)) hC fa_X5_96 cx_l3_ (cx_e3 g _) rfl dX5_isOutOfTurn_25 ?_
      refine cj_iload hC dX5_isOutOfTurn_28 4 rfl ?_
      obtain ⟨i1, h⟩ := cb_g h
      refine cj_iald hC cx_l19_ (cx_e19 g _) (cx_t0 g) i1 dX5_isOutOfTurn_30 ?_
      refine cj_aload_n hC dX5_isOutOfTurn_31 rfl 1 rfl ?_
      refine cj_get (v := .ref (g.2.1 19)) hC fa_X5_96 cx_l3_ (cx_e3 g _) rfl dX5_isOutOfTurn_32 ?_
      refine cj_iload_n hC dX5_isOutOfTurn_35 rfl 2 rfl ?_
      obtain ⟨i2, h⟩ := cb_g h
      refine cj_iald hC cx_l19_ (cx_e19 g _) (cx_t0 g) i2 dX5_isOutOfTurn_36 ?_
      obtain ⟨k1, ek1, h⟩ := cb_l h
      have hk1 : ∀ (u9 : Unit), k1 u9 = some o → cb_J cx g γ 5 M 77 [(0, .ref (g.2.1 4)), (1, .ref (g.2.1 3)), (2, .int v2), (3, .int v3), (4, .int v4)] [] := by
        intro u9 h
        replace h := cb_k1 ek1 h
        refine cj_iinc (lv' := [(4, .int (v4 + 1)), (0, .ref (g.2.1 4)), (1, .ref (g.2.1 3)), (2, .int v2), (3, .int v3)]) hC dX5_isOutOfTurn_77 (q := 4) rfl rfl (by decide) rfl ?_
        refine cj_goto (tgt := 15) hC dX5_isOutOfTurn_80 (by decide) ?_
        exact cj_pick [1, 2, 3, 4, 0] rfl (ih _ _ h hret hexit)
      refine cj_icmp_ge (tgt := 77) hC dX5_isOutOfTurn_37 (by decide) (fun c2 => ?_) (fun c2 => ?_)
      · replace h := cb_T c2 h
        exact cj_pick [0, 1, 2, 3, 4] rfl (hk1 _ h)
      · replace h := cb_F c2 h
        refine cj_aload_n hC dX5_isOutOfTurn_40 rfl 1 rfl ?_
        refine cj_iload hC dX5_isOutOfTurn_41 4 rfl ?_
        refine cj_aload_n hC dX5_isOutOfTurn_43 rfl 0 rfl ?_
        refine cj_get (v := .ref (g.2.1 25)) hC fa_X5_21 cx_l4_ (cx_e4 g _) rfl dX5_isOutOfTurn_44 ?_
        refine cj_iload_n hC dX5_isOutOfTurn_47 rfl 2 rfl ?_
        obtain ⟨i3, h⟩ := cb_g h
        refine cj_iald hC cx_l25_ (cx_e25 g _) (cx_t0 g) i3 dX5_isOutOfTurn_48 ?_
        obtain ⟨x1, e1, h⟩ := cb_b h
        refine cj_callVi (As := [.int v4, .int (M 25 v2.toNatClampNeg)]) hC cv_X5_116 cx_l3_ (cx_e3 g _) rfl (c_X1_comesOn l g v4 (M 25 v2.toNatClampNeg) M e1) (by decide) rfl rfl (Nat.le_of_ble_eq_true rfl) dX5_isOutOfTurn_49 ?_
        refine cj_if_eq (tgt := 77) hC dX5_isOutOfTurn_52 (by decide) (fun c3 => ?_) (fun c3 => ?_)
        · replace h := cb_T c3 h
          exact cj_pick [0, 1, 2, 3, 4] rfl (hk1 _ h)
        · replace h := cb_F c3 h
          refine cj_aload_n hC dX5_isOutOfTurn_55 rfl 1 rfl ?_
          refine cj_iload hC dX5_isOutOfTurn_56 4 rfl ?_
          refine cj_iload_n hC dX5_isOutOfTurn_58 rfl 3 rfl ?_
          obtain ⟨x2, e2, h⟩ := cb_b h
          refine cj_callVi (As := [.int v4, .int v3]) hC cv_X5_119 cx_l3_ (cx_e3 g _) rfl (c_X1_isWantedBy l g v4 v3 M e2) (by decide) rfl rfl (Nat.le_of_ble_eq_true rfl) dX5_isOutOfTurn_59 ?_
          refine cj_if_eq (tgt := 77) hC dX5_isOutOfTurn_62 (by decide) (fun c4 => ?_) (fun c4 => ?_)
          · replace h := cb_T c4 h
            exact cj_pick [0, 1, 2, 3, 4] rfl (hk1 _ h)
          · replace h := cb_F c4 h
            refine cj_aload_n hC dX5_isOutOfTurn_65 rfl 0 rfl ?_
            refine cj_iload hC dX5_isOutOfTurn_66 4 rfl ?_
            refine cj_iload_n hC dX5_isOutOfTurn_68 rfl 2 rfl ?_
            obtain ⟨x3, e3, h⟩ := cb_b h
            refine cj_callVi (As := [.int v4, .int v2]) hC cv_X5_122 cx_l4_ (cx_e4 g _) rfl (c_X5_isStillWithout l g v4 v2 M e3) (by decide) rfl rfl (Nat.le_of_ble_eq_true rfl) dX5_isOutOfTurn_69 ?_
            refine cj_if_eq (tgt := 77) hC dX5_isOutOfTurn_72 (by decide) (fun c5 => ?_) (fun c5 => ?_)
            · replace h := cb_T c5 h
              exact cj_pick [0, 1, 2, 3, 4] rfl (hk1 _ h)
            · replace h := cb_F c5 h
              refine cj_iconst (v := 1) hC dX5_isOutOfTurn_75 rfl ?_
              obtain rfl := Option.some.inj h
              obtain rfl := hret _ rfl
              exact cj_zret hC (Or.inr rfl) dX5_isOutOfTurn_76
set_option maxRecDepth 100000 in
set_option maxHeartbeats 4000000 in
theorem c_X5_isOutOfTurn (l : Launch) (g : cb_Geo) (p1 : Int32) (M : cb_Mem) {rr : Int32} (h : f_X5_isOutOfTurn p1 M = some rr) : Met l yX5_isOutOfTurn (.code yX5_isOutOfTurn cX5_isOutOfTurn 5 (some .boolean) :: cb_ws) (cb_rm 1) (cb_Pc cx g [.ref (g.2.1 4), .ref (g.2.1 3), .int p1] M) (cb_Qi cx g rr M) 0 0 (cb_A cx g) := by
  refine cb_met (by decide) wd_634 (Nat.le_of_ble_eq_true rfl) (fun γ hC => ?_)
  replace hC : cb_C cx g γ RX5 cX5_isOutOfTurn 5 (some .boolean) 1 l (cb_Qi cx g rr M) := hC
  show cb_J cx g γ 5 M 0 [(0, .ref (g.2.1 4)), (1, .ref (g.2.1 3)), (2, .int p1)] []
  unfold f_X5_isOutOfTurn at h
  refine cj_aload_n hC dX5_isOutOfTurn_0 rfl 1 rfl ?_
  refine cj_get (v := .ref (g.2.1 16)) hC fa_X5_70 cx_l3_ (cx_e3 g _) rfl dX5_isOutOfTurn_1 ?_
  refine cj_aload_n hC dX5_isOutOfTurn_4 rfl 0 rfl ?_
  refine cj_get (v := .ref (g.2.1 24)) hC fa_X5_18 cx_l4_ (cx_e4 g _) rfl dX5_isOutOfTurn_5 ?_
  refine cj_iload_n hC dX5_isOutOfTurn_8 rfl 2 rfl ?_
  obtain ⟨i1, h⟩ := cb_g h
  refine cj_iald hC cx_l24_ (cx_e24 g _) (cx_t0 g) i1 dX5_isOutOfTurn_9 ?_
  obtain ⟨i2, h⟩ := cb_g h
  refine cj_iald hC cx_l16_ (cx_e16 g _) (cx_t0 g) i2 dX5_isOutOfTurn_10 ?_
  obtain ⟨x1, ex1, h⟩ := cb_l h
  refine cj_topi ex1 ?_
  refine cj_istore_n (lv' := [(3, .int x1), (0, .ref (g.2.1 4)), (1, .ref (g.2.1 3)), (2, .int p1)]) hC dX5_isOutOfTurn_11 rfl (by decide) rfl ?_
  refine cj_iconst (v := 0) hC dX5_isOutOfTurn_12 rfl ?_
  refine cj_istore (lv' := [(4, .int 0), (3, .int x1), (0, .ref (g.2.1 4)), (1, .ref (g.2.1 3)), (2, .int p1)]) hC dX5_isOutOfTurn_13 (by decide) rfl ?_
  obtain ⟨z1, e1, hr1, hk1⟩ := cb_s h
  refine cj_pick [2, 3, 4, 1, 0] rfl ?_
  refine l_X5_isOutOfTurn_L15 hC p1 x1 cb_fuel _ _ e1 (fun u hz => Option.some.inj (hr1 _ hz)) (fun hz => ?_)
  replace h := hk1 () hz
  refine cj_iconst (v := 0) hC dX5_isOutOfTurn_83 rfl ?_
  obtain rfl := Option.some.inj h
  exact cj_zret hC (Or.inl rfl) dX5_isOutOfTurn_84
def f_X5_firstOutOfTurn_L4 : Nat → Int32 → Int32 → cb_Mem → Option (Int32)
    | 0, _, _, _ => none
    | n + 1, v2, v3, M =>
      if (M 3 7) ≤ v3 then
      some v2
      else
      if cb_in v3 8 = true then
      Option.bind (if (M 24 v3.toNatClampNeg) = (-1) then
      some v2
      else
      (f_X5_isOutOfTurn v3 M).bind fun x2 =>
      if x2 = 0 then
      some v2
      else
      cb_let (fun (_ : Unit) =>
      some v3) fun k1 =>
      if v2 = (-1) then
      k1 ()
      else
      if cb_in v3 8 = true then
      if cb_in v2 8 = true then
      if (M 25 v2.toNatClampNeg) ≤ (M 25 v3.toNatClampNeg) then
      some v2
      else
      k1 ()
      else none
      else none) fun x1 =>
      f_X5_firstOutOfTurn_L4 n x1 (v3 + 1) M
      else none
def f_X5_firstOutOfTurn  (M : cb_Mem) : Option (Int32) :=
  (f_X5_firstOutOfTurn_L4 cb_fuel (-1) 0 M).bind fun x1 =>
  some x1
set_option maxRecDepth 100000 in
set_option maxHeartbeats 4000000 in
theorem l_X5_firstOutOfTurn_L4 {l : Launch} {g : cb_Geo} {γ : cb_Gam} {rr : Int32} {M : cb_Mem} (hC : cb_C cx g γ RX5 cX5_firstOutOfTurn 4 (some .int) 2 l (cb_Qi cx g rr M))  : ∀ (n : Nat) (v2 : Int32) (v3 : Int32) (o : (Int32)), f_X5_firstOutOfTurn_L4 n v2 v3 M = some o → (∀ (v2' : Int32), o = v2' → cb_J cx g γ 4 M 62 [(2, .int v2')] []) → cb_J cx g γ 4 M 4 [(0, .ref (g.2.1 4)), (1, .ref (g.2.1 3)), (2, .int v2), (3, .int v3)] [] := by
  intro n
  induction n with
  | zero =>
    intro v2 v3 o h
    cases h
  | succ n ih =>
    intro v2 v3 o h hexit
    unfold f_X5_firstOutOfTurn_L4 at h
    refine cj_iload_n hC dX5_firstOutOfTurn_4 rfl 3 rfl ?_
    refine cj_aload_n hC dX5_firstOutOfTurn_5 rfl 1 rfl ?_
    refine cj_get (v := .int (M 3 7)) hC fa_X5_49 cx_l3_ (cx_e3 g _) rfl dX5_firstOutOfTurn_6 ?_
    refine cj_icmp_ge (tgt := 62) hC dX5_firstOutOfTurn_9 (by decide) (fun c1 => ?_) (fun c1 => ?_)
    · replace h := cb_T c1 h
      obtain rfl := Option.some.inj h
      exact cj_pick [2] rfl (hexit _ rfl)
    · replace h := cb_F c1 h
      refine cj_aload_n hC dX5_firstOutOfTurn_12 rfl 0 rfl ?_
      refine cj_get (v := .ref (g.2.1 24)) hC fa_X5_18 cx_l4_ (cx_e4 g _) rfl dX5_firstOutOfTurn_13 ?_
      refine cj_iload_n hC dX5_firstOutOfTurn_16 rfl 3 rfl ?_
      obtain ⟨i1, h⟩ := cb_g h
      refine cj_iald hC cx_l24_ (cx_e24 g _) (cx_t0 g) i1 dX5_firstOutOfTurn_17 ?_
      refine cj_iconst (v := (-1)) hC dX5_firstOutOfTurn_18 rfl ?_
      obtain ⟨x1, hx1, h⟩ := cb_b h
      have hj1 : cb_J cx g γ 4 M 56 [(0, .ref (g.2.1 4)), (1, .ref (g.2.1 3)), (2, .int x1), (3, .int v3)] [] := by
        refine cj_iinc (lv' := [(3, .int (v3 + 1)), (0, .ref (g.2.1 4)), (1, .ref (g.2.1 3)), (2, .int x1)]) hC dX5_firstOutOfTurn_56 (q := 3) rfl rfl (by decide) rfl ?_
        refine cj_goto (tgt := 4) hC dX5_firstOutOfTurn_59 (by decide) ?_
        exact cj_pick [1, 2, 3, 0] rfl (ih _ _ _ h hexit)
      refine cj_icmp_eq (tgt := 56) hC dX5_firstOutOfTurn_19 (by decide) (fun c2 => ?_) (fun c2 => ?_)
      · replace hx1 := cb_T c2 hx1
        obtain rfl := Option.some.inj hx1
        exact cj_pick [0, 1, 2, 3] rfl hj1
      · replace hx1 := cb_F c2 hx1
        refine cj_aload_n hC dX5_firstOutOfTurn_22 rfl 0 rfl ?_
        refine cj_aload_n hC dX5_firstOutOfTurn_23 rfl 1 rfl ?_
        refine cj_iload_n hC dX5_firstOutOfTurn_24 rfl 3 rfl ?_
        obtain ⟨x2, e1, hx1⟩ := cb_b hx1
        refine cj_callVi (As := [.ref (g.2.1 3), .int v3]) hC cv_X5_112 cx_l4_ (cx_e4 g _) rfl (c_X5_isOutOfTurn l g v3 M e1) (by decide) rfl rfl (Nat.le_of_ble_eq_true rfl) dX5_firstOutOfTurn_25 ?_
        refine cj_if_ne (tgt := 34) hC dX5_firstOutOfTurn_28 (by decide) (fun c3 => ?_) (fun c3 => ?_)
        · replace hx1 := cb_F c3 hx1
          refine cj_iload_n hC dX5_firstOutOfTurn_34 rfl 2 rfl ?_
          refine cj_iconst (v := (-1)) hC dX5_firstOutOfTurn_35 rfl ?_
          obtain ⟨k1, ek1, hx1⟩ := cb_l hx1
          have hk1 : ∀ (u9 : Unit), k1 u9 = some (x1) → cb_J cx g γ 4 M 54 [(0, .ref (g.2.1 4)), (1, .ref (g.2.1 3)), (3, .int v3)] [] := by
            intro u9 hx1
            replace hx1 := cb_k1 ek1 hx1
            refine cj_iload_n hC dX5_firstOutOfTurn_54 rfl 2 rfl ?_
            refine cj_istore_n (lv' := [(2, .int v3), (0, .ref (g.2.1 4)), (1, .ref (g.2.1 3)), (3, .int v3)]) hC dX5_firstOutOfTurn_55 rfl (by decide) rfl ?_
            obtain rfl := Option.some.inj hx1
            exact cj_pick [1, 2, 0, 3] rfl hj1
          refine cj_icmp_eq (tgt := 54) hC dX5_firstOutOfTurn_36 (by decide) (fun c4 => ?_) (fun c4 => ?_)
          · replace hx1 := cb_T c4 hx1
            exact cj_pick [0, 1, 3] rfl (hk1 _ hx1)
          · replace hx1 := cb_F c4 hx1
            refine cj_aload_n hC dX5_firstOutOfTurn_39 rfl 0 rfl ?_
            refine cj_get (v := .ref (g.2.1 25)) hC fa_X5_21 cx_l4_ (cx_e4 g _) rfl dX5_firstOutOfTurn_40 ?_
            refine cj_iload_n hC dX5_firstOutOfTurn_43 rfl 3 rfl ?_
            obtain ⟨i2, hx1⟩ := cb_g hx1
            refine cj_iald hC cx_l25_ (cx_e25 g _) (cx_t0 g) i2 dX5_firstOutOfTurn_44 ?_
            refine cj_aload_n hC dX5_firstOutOfTurn_45 rfl 0 rfl ?_
            refine cj_get (v := .ref (g.2.1 25)) hC fa_X5_21 cx_l4_ (cx_e4 g _) rfl dX5_firstOutOfTurn_46 ?_
            refine cj_iload_n hC dX5_firstOutOfTurn_49 rfl 2 rfl ?_
            obtain ⟨i3, hx1⟩ := cb_g hx1
            refine cj_iald hC cx_l25_ (cx_e25 g _) (cx_t0 g) i3 dX5_firstOutOfTurn_50 ?_
            refine cj_icmp_ge (tgt := 56) hC dX5_firstOutOfTurn_51 (by decide) (fun c5 => ?_) (fun c5 => ?_)
            · replace hx1 := cb_T c5 hx1
              obtain rfl := Option.some.inj hx1
              exact cj_pick [0, 1, 2, 3] rfl hj1
            · replace hx1 := cb_F c5 hx1
              exact cj_pick [0, 1, 3] rfl (hk1 _ hx1)
        · replace hx1 := cb_T c3 hx1
          refine cj_goto (tgt := 56) hC dX5_firstOutOfTurn_31 (by decide) ?_
          obtain rfl := Option.some.inj hx1
          exact cj_pick [0, 1, 2, 3] rfl hj1
set_option maxRecDepth 100000 in
set_option maxHeartbeats 4000000 in
theorem c_X5_firstOutOfTurn (l : Launch) (g : cb_Geo)  (M : cb_Mem) {rr : Int32} (h : f_X5_firstOutOfTurn  M = some rr) : Met l yX5_firstOutOfTurn (.code yX5_firstOutOfTurn cX5_firstOutOfTurn 4 (some .int) :: cb_ws) (cb_rm 2) (cb_Pc cx g [.ref (g.2.1 4), .ref (g.2.1 3)] M) (cb_Qi cx g rr M) 0 0 (cb_A cx g) := by
  refine cb_met (by decide) wd_630 (Nat.le_of_ble_eq_true rfl) (fun γ hC => ?_)
  replace hC : cb_C cx g γ RX5 cX5_firstOutOfTurn 4 (some .int) 2 l (cb_Qi cx g rr M) := hC
  show cb_J cx g γ 4 M 0 [(0, .ref (g.2.1 4)), (1, .ref (g.2.1 3))] []
  unfold f_X5_firstOutOfTurn at h
  refine cj_iconst (v := (-1)) hC dX5_firstOutOfTurn_0 rfl ?_
  refine cj_istore_n (lv' := [(2, .int (-1)), (0, .ref (g.2.1 4)), (1, .ref (g.2.1 3))]) hC dX5_firstOutOfTurn_1 rfl (by decide) rfl ?_
  refine cj_iconst (v := 0) hC dX5_firstOutOfTurn_2 rfl ?_
  refine cj_istore_n (lv' := [(3, .int 0), (2, .int (-1)), (0, .ref (g.2.1 4)), (1, .ref (g.2.1 3))]) hC dX5_firstOutOfTurn_3 rfl (by decide) rfl ?_
  obtain ⟨x1, e1, h⟩ := cb_b h
  refine cj_pick [2, 3, 1, 0] rfl ?_
  refine l_X5_firstOutOfTurn_L4 hC  cb_fuel _ _ _ e1 (fun ze1 hz => ?_)
  obtain rfl := hz
  refine cj_iload_n hC dX5_firstOutOfTurn_62 rfl 0 rfl ?_
  obtain rfl := Option.some.inj h
  exact cj_iret hC dX5_firstOutOfTurn_63
