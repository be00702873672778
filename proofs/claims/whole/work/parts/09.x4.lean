def f_X6_seen (p1 : Int32) (p2 : Int32) (M : cb_Mem) : Option (Int32 × cb_Mem) :=
  cb_let (f_X6_isOff p1 8) fun x1 =>
  if x1 = 0 then
  cb_let (f_X6_isOff p2 9) fun x2 =>
  if x2 = 0 then
  cb_bind2 (f_X2_add 11 15 8 ((p1 * 9) + p2) M) fun x3 M1 =>
  some (x3, M1)
  else
  some (((-2) : Int32), M)
  else
  some (((-2) : Int32), M)
set_option maxRecDepth 100000 in
set_option maxHeartbeats 4000000 in
theorem c_X6_seen (l : Launch) (g : cb_Geo) (p1 : Int32) (p2 : Int32) (M : cb_Mem) {rr : Int32} {Mr : cb_Mem} (h : f_X6_seen p1 p2 M = some (rr, Mr)) : Met l yX6_seen (.code yX6_seen cX6_seen 3 (some .int) :: cb_ws) (cb_rm 1) (cb_Pc cx g [.ref (g.2.1 0), .int p1, .int p2] M) (cb_Qi cx g rr Mr) 0 0 (cb_A cx g) := by
  refine cb_met (by decide) wd_688 (Nat.le_of_ble_eq_true rfl) (fun γ hC => ?_)
  replace hC : cb_C cx g γ RX6 cX6_seen 3 (some .int) 1 l (cb_Qi cx g rr Mr) := hC
  show cb_J cx g γ 3 M 0 [(0, .ref (g.2.1 0)), (1, .int p1), (2, .int p2)] []
  unfold f_X6_seen at h
  refine cj_iload_n hC dX6_seen_0 rfl 1 rfl ?_
  refine cj_bipush (v := 8) hC dX6_seen_1 rfl ?_
  obtain ⟨x1, e1, h⟩ := cb_l h
  refine cj_callSi (As := [.int p1, .int 8]) hC cs_X6_77 (c_X6_isOff l g p1 8 M e1.symm) (by decide) rfl rfl (Nat.le_of_ble_eq_true rfl) dX6_seen_3 ?_
  refine cj_if_ne (tgt := 18) hC dX6_seen_6 (by decide) (fun c1 => ?_) (fun c1 => ?_)
  · replace h := cb_F c1 h
    refine cj_bipush (v := (-2)) hC dX6_seen_18 rfl ?_
    obtain ⟨rfl, rfl⟩ := cb_i2 h
    exact cj_iret hC dX6_seen_20
  · replace h := cb_T c1 h
    refine cj_iload_n hC dX6_seen_9 rfl 2 rfl ?_
    refine cj_bipush (v := 9) hC dX6_seen_10 rfl ?_
    obtain ⟨x2, e2, h⟩ := cb_l h
    refine cj_callSi (As := [.int p2, .int 9]) hC cs_X6_77 (c_X6_isOff l g p2 9 M e2.symm) (by decide) rfl rfl (Nat.le_of_ble_eq_true rfl) dX6_seen_12 ?_
    refine cj_if_eq (tgt := 21) hC dX6_seen_15 (by decide) (fun c2 => ?_) (fun c2 => ?_)
    · replace h := cb_T c2 h
      refine cj_aload_n hC dX6_seen_21 rfl 0 rfl ?_
      refine cj_get (v := .ref (g.2.1 11)) hC fa_X6_37 cx_l0_ (cx_e0 g _) rfl dX6_seen_22 ?_
      refine cj_iload_n hC dX6_seen_25 rfl 1 rfl ?_
      refine cj_bipush (v := 9) hC dX6_seen_26 rfl ?_
      refine cj_imul hC dX6_seen_28 ?_
      refine cj_iload_n hC dX6_seen_29 rfl 2 rfl ?_
      refine cj_iadd hC dX6_seen_30 ?_
      obtain ⟨x3, M1, e3, h⟩ := cb_b2 h
      refine cj_callVi (As := [.int ((p1 * 9) + p2)]) hC cv_X6_115 (cx_lt cx_row11.1) (cx_row11.2.2.1 g _) rfl (c_X2_add l g 11 15 8 cx_row11 ((p1 * 9) + p2) M e3) (by decide) rfl rfl (Nat.le_of_ble_eq_true rfl) dX6_seen_31 ?_
      obtain ⟨rfl, rfl⟩ := cb_i2 h
      exact cj_iret hC dX6_seen_34
    · replace h := cb_F c2 h
      refine cj_bipush (v := (-2)) hC dX6_seen_18 rfl ?_
      obtain ⟨rfl, rfl⟩ := cb_i2 h
      exact cj_iret hC dX6_seen_20
def f_X6_forget  (M : cb_Mem) : Int32 × cb_Mem :=
  cb_let2 (f_X2_clear 11 15 8 M) fun x1 M1 =>
  (x1, M1)
set_option maxRecDepth 100000 in
set_option maxHeartbeats 4000000 in
theorem c_X6_forget (l : Launch) (g : cb_Geo)  (M : cb_Mem) {rr : Int32} {Mr : cb_Mem} (h : f_X6_forget  M = (rr, Mr)) : Met l yX6_forget (.code yX6_forget cX6_forget 1 (some .int) :: cb_ws) (cb_rm 1) (cb_Pc cx g [.ref (g.2.1 0)] M) (cb_Qi cx g rr Mr) 0 0 (cb_A cx g) := by
  refine cb_met (by decide) wd_692 (Nat.le_of_ble_eq_true rfl) (fun γ hC => ?_)
  replace hC : cb_C cx g γ RX6 cX6_forget 1 (some .int) 1 l (cb_Qi cx g rr Mr) := hC
  show cb_J cx g γ 1 M 0 [(0, .ref (g.2.1 0))] []
  unfold f_X6_forget at h
  refine cj_aload_n hC dX6_forget_0 rfl 0 rfl ?_
  refine cj_get (v := .ref (g.2.1 11)) hC fa_X6_37 cx_l0_ (cx_e0 g _) rfl dX6_forget_1 ?_
  obtain ⟨x1, M1, e1, h⟩ := cb_l2 h
  refine cj_callVi (As := []) hC cv_X6_206 (cx_lt cx_row11.1) (cx_row11.2.2.1 g _) rfl (c_X2_clear l g 11 15 8 cx_row11 M e1.symm) (by decide) rfl rfl (Nat.le_of_ble_eq_true rfl) dX6_forget_4 ?_
  obtain ⟨rfl, rfl⟩ := cb_p2 h
  exact cj_iret hC dX6_forget_7
def f_X6_never_L8 : Nat → Int32 → Int32 → cb_Mem → Option (Int32 × cb_Mem)
    | 0, _, _, _ => none
    | n + 1, v1, v2, M =>
      if (M 10 1) ≤ v2 then
      some (v1, M)
      else
      (f_X1_letRabbitsIn ((1 : Int32) <<< (v2 &&& 31)) M).bind fun M1 =>
      (f_X5_go  M1).bind fun M2 =>
      (f_X6_isAsSeen  M2).bind fun x1 =>
      cb_let (if x1 = 0 then
      v1
      else
      cb_let ((v1 ||| ((1 : Int32) <<< (v2 &&& 31)))) fun x3 =>
      x3) fun x2 =>
      f_X6_never_L8 n x2 (v2 + 1) M2
def f_X6_never  (M : cb_Mem) : Option (Int32 × cb_Mem) :=
  (f_X6_layOut  M).bind fun M1 =>
  cb_bind2 (f_X6_never_L8 cb_fuel 0 0 M1) fun x1 M2 =>
  some (x1, M2)
set_option maxRecDepth 100000 in
set_option maxHeartbeats 4000000 in
theorem l_X6_never_L8 {l : Launch} {g : cb_Geo} {γ : cb_Gam} {rr : Int32} {Mr : cb_Mem} (hC : cb_C cx g γ RX6 cX6_never 3 (some .int) 3 l (cb_Qi cx g rr Mr))  : ∀ (n : Nat) (v1 : Int32) (v2 : Int32) (M : cb_Mem) (o : (Int32 × cb_Mem)), f_X6_never_L8 n v1 v2 M = some o → (∀ (v1' : Int32) (M' : cb_Mem), o = (v1', M') → cb_J cx g γ 3 M' 63 [(1, .int v1')] []) → cb_J cx g γ 3 M 8 [(0, .ref (g.2.1 0)), (1, .int v1), (2, .int v2)] [] := by
  intro n
  induction n with
  | zero =>
    intro v1 v2 M o h
    cases h
  | succ n ih =>
    intro v1 v2 M o h hexit
    unfold f_X6_never_L8 at h
    refine cj_iload_n hC dX6_never_8 rfl 2 rfl ?_
    refine cj_aload_n hC dX6_never_9 rfl 0 rfl ?_
    refine cj_get (v := .ref (g.2.1 10)) hC fa_X6_34 cx_l0_ (cx_e0 g _) rfl dX6_never_10 ?_
    refine cj_get (v := .int (M 10 1)) hC fa_X6_209 (cx_lt cx_row10.1) (cx_row10.2.2.1 g _) rfl dX6_never_13 ?_
    refine cj_icmp_ge (tgt := 63) hC dX6_never_16 (by decide) (fun c1 => ?_) (fun c1 => ?_)
    · replace h := cb_T c1 h
      obtain rfl := Option.some.inj h
      exact cj_pick [1] rfl (hexit _ _ rfl)
    · replace h := cb_F c1 h
      refine cj_aload_n hC dX6_never_19 rfl 0 rfl ?_
      refine cj_get (v := .ref (g.2.1 3)) hC fa_X6_50 cx_l0_ (cx_e0 g _) rfl dX6_never_20 ?_
      refine cj_aload_n hC dX6_never_23 rfl 0 rfl ?_
      refine cj_get (v := .ref (g.2.1 10)) hC fa_X6_34 cx_l0_ (cx_e0 g _) rfl dX6_never_24 ?_
      refine cj_iconst (v := 1) hC dX6_never_27 rfl ?_
      refine cj_iload_n hC dX6_never_28 rfl 2 rfl ?_
      refine cj_ishl hC dX6_never_29 ?_
      obtain ⟨M1, e1, h⟩ := cb_b h
      refine cj_callVv (As := [.ref (g.2.1 10), .int ((1 : Int32) <<< (v2 &&& 31))]) hC cv_X6_210 cx_l3_ (cx_e3 g _) rfl (c_X1_letRabbitsIn l g ((1 : Int32) <<< (v2 &&& 31)) M e1) (by decide) rfl rfl (Nat.le_of_ble_eq_true rfl) dX6_never_30 ?_
      refine cj_aload_n hC dX6_never_33 rfl 0 rfl ?_
      refine cj_get (v := .ref (g.2.1 4)) hC fa_X6_57 cx_l0_ (cx_e0 g _) rfl dX6_never_34 ?_
      refine cj_aload_n hC dX6_never_37 rfl 0 rfl ?_
      refine cj_get (v := .ref (g.2.1 3)) hC fa_X6_50 cx_l0_ (cx_e0 g _) rfl dX6_never_38 ?_
      obtain ⟨M2, e2, h⟩ := cb_b h
      refine cj_callVv (As := [.ref (g.2.1 3)]) hC cv_X6_196 cx_l4_ (cx_e4 g _) rfl (c_X5_go l g  M1 e2) (by decide) rfl rfl (Nat.le_of_ble_eq_true rfl) dX6_never_41 ?_
      refine cj_aload_n hC dX6_never_44 rfl 0 rfl ?_
      obtain ⟨x1, e3, h⟩ := cb_b h
      refine cj_callVi (As := []) hC cv_X6_214 cx_l0_ (cx_e0 g _) rfl (c_X6_isAsSeen l g  M2 e3) (by decide) rfl rfl (Nat.le_of_ble_eq_true rfl) dX6_never_45 ?_
      obtain ⟨x2, hx1, h⟩ := cb_l h
      replace hx1 := hx1.symm
      have hj1 : cb_J cx g γ 3 M2 57 [(0, .ref (g.2.1 0)), (1, .int x2), (2, .int v2)] [] := by
        refine cj_iinc (lv' := [(2, .int (v2 + 1)), (0, .ref (g.2.1 0)), (1, .int x2)]) hC dX6_never_57 (q := 2) rfl rfl (by decide) rfl ?_
        refine cj_goto (tgt := 8) hC dX6_never_60 (by decide) ?_
        exact cj_pick [1, 2, 0] rfl (ih _ _ _ _ h hexit)
      refine cj_if_eq (tgt := 57) hC dX6_never_48 (by decide) (fun c2 => ?_) (fun c2 => ?_)
      · replace hx1 := cb_T c2 hx1
        obtain rfl := hx1
        exact cj_pick [0, 1, 2] rfl hj1
      · replace hx1 := cb_F c2 hx1
        refine cj_iload_n hC dX6_never_51 rfl 1 rfl ?_
        refine cj_iconst (v := 1) hC dX6_never_52 rfl ?_
        refine cj_iload_n hC dX6_never_53 rfl 2 rfl ?_
        refine cj_ishl hC dX6_never_54 ?_
        refine cj_ior hC dX6_never_55 ?_
        obtain ⟨x3, ex3, hx1⟩ := cb_l hx1
        refine cj_topi ex3 ?_
        refine cj_istore_n (lv' := [(1, .int x3), (0, .ref (g.2.1 0)), (2, .int v2)]) hC dX6_never_56 rfl (by decide) rfl ?_
        obtain rfl := hx1
        exact cj_pick [1, 0, 2] rfl hj1
set_option maxRecDepth 100000 in
set_option maxHeartbeats 4000000 in
theorem c_X6_never (l : Launch) (g : cb_Geo)  (M : cb_Mem) {rr : Int32} {Mr : cb_Mem} (h : f_X6_never  M = some (rr, Mr)) : Met l yX6_never (.code yX6_never cX6_never 3 (some .int) :: cb_ws) (cb_rm 3) (cb_Pc cx g [.ref (g.2.1 0)] M) (cb_Qi cx g rr Mr) 0 0 (cb_A cx g) := by
  refine cb_met (by decide) wd_697 (Nat.le_of_ble_eq_true rfl) (fun γ hC => ?_)
  replace hC : cb_C cx g γ RX6 cX6_never 3 (some .int) 3 l (cb_Qi cx g rr Mr) := hC
  show cb_J cx g γ 3 M 0 [(0, .ref (g.2.1 0))] []
  unfold f_X6_never at h
  refine cj_aload_n hC dX6_never_0 rfl 0 rfl ?_
  obtain ⟨M1, e1, h⟩ := cb_b h
  refine cj_callVv (As := []) hC cv_X6_184 cx_l0_ (cx_e0 g _) rfl (c_X6_layOut l g  M e1) (by decide) rfl rfl (Nat.le_of_ble_eq_true rfl) dX6_never_1 ?_
  refine cj_iconst (v := 0) hC dX6_never_4 rfl ?_
  refine cj_istore_n (lv' := [(1, .int 0), (0, .ref (g.2.1 0))]) hC dX6_never_5 rfl (by decide) rfl ?_
  refine cj_iconst (v := 0) hC dX6_never_6 rfl ?_
  refine cj_istore_n (lv' := [(2, .int 0), (1, .int 0), (0, .ref (g.2.1 0))]) hC dX6_never_7 rfl (by decide) rfl ?_
  obtain ⟨x1, M2, e2, h⟩ := cb_b2 h
  refine cj_pick [2, 1, 0] rfl ?_
  refine l_X6_never_L8 hC  cb_fuel _ _ _ _ e2 (fun ze20 ze21 hz => ?_)
  obtain ⟨rfl, rfl⟩ := cb_p2 hz
  refine cj_iload_n hC dX6_never_63 rfl 0 rfl ?_
  obtain ⟨rfl, rfl⟩ := cb_i2 h
  exact cj_iret hC dX6_never_64
def f_X6_was (p1 : Int32) (p2 : Int32) (M : cb_Mem) : Option (Int32 × cb_Mem) :=
  cb_let (f_X6_isNoHead p1 M) fun x1 =>
  if x1 = 0 then
  cb_let (f_X6_isOff p2 2) fun x2 =>
  if x2 = 0 then
  (f_X6_layOut  M).bind fun M1 =>
  if p2 = 0 then
  cb_bind2 (f_X6_sortsAsSeen p1 M1) fun x4 M3 =>
  some (x4, M3)
  else
  cb_bind2 (f_X6_duesAsSeen p1 M1) fun x3 M2 =>
  some (x3, M2)
  else
  some (((-2) : Int32), M)
  else
  some (((-2) : Int32), M)
set_option maxRecDepth 100000 in
set_option maxHeartbeats 4000000 in
theorem c_X6_was (l : Launch) (g : cb_Geo) (p1 : Int32) (p2 : Int32) (M : cb_Mem) {rr : Int32} {Mr : cb_Mem} (h : f_X6_was p1 p2 M = some (rr, Mr)) : Met l yX6_was (.code yX6_was cX6_was 3 (some .int) :: cb_ws) (cb_rm 4) (cb_Pc cx g [.ref (g.2.1 0), .int p1, .int p2] M) (cb_Qi cx g rr Mr) 0 0 (cb_A cx g) := by
  refine cb_met (by decide) wd_705 (Nat.le_of_ble_eq_true rfl) (fun γ hC => ?_)
  replace hC : cb_C cx g γ RX6 cX6_was 3 (some .int) 4 l (cb_Qi cx g rr Mr) := hC
  show cb_J cx g γ 3 M 0 [(0, .ref (g.2.1 0)), (1, .int p1), (2, .int p2)] []
  unfold f_X6_was at h
  refine cj_aload_n hC dX6_was_0 rfl 0 rfl ?_
  refine cj_iload_n hC dX6_was_1 rfl 1 rfl ?_
  obtain ⟨x1, e1, h⟩ := cb_l h
  refine cj_callVi (As := [.int p1]) hC cv_X6_98 cx_l0_ (cx_e0 g _) rfl (c_X6_isNoHead l g p1 M e1.symm) (by decide) rfl rfl (Nat.le_of_ble_eq_true rfl) dX6_was_2 ?_
  refine cj_if_ne (tgt := 16) hC dX6_was_5 (by decide) (fun c1 => ?_) (fun c1 => ?_)
  · replace h := cb_F c1 h
    refine cj_bipush (v := (-2)) hC dX6_was_16 rfl ?_
    obtain ⟨rfl, rfl⟩ := cb_i2 h
    exact cj_iret hC dX6_was_18
  · replace h := cb_T c1 h
    refine cj_iload_n hC dX6_was_8 rfl 2 rfl ?_
    refine cj_iconst (v := 2) hC dX6_was_9 rfl ?_
    obtain ⟨x2, e2, h⟩ := cb_l h
    refine cj_callSi (As := [.int p2, .int 2]) hC cs_X6_77 (c_X6_isOff l g p2 2 M e2.symm) (by decide) rfl rfl (Nat.le_of_ble_eq_true rfl) dX6_was_10 ?_
    refine cj_if_eq (tgt := 19) hC dX6_was_13 (by decide) (fun c2 => ?_) (fun c2 => ?_)
    · replace h := cb_T c2 h
      refine cj_aload_n hC dX6_was_19 rfl 0 rfl ?_
      obtain ⟨M1, e3, h⟩ := cb_b h
      refine cj_callVv (As := []) hC cv_X6_184 cx_l0_ (cx_e0 g _) rfl (c_X6_layOut l g  M e3) (by decide) rfl rfl (Nat.le_of_ble_eq_true rfl) dX6_was_20 ?_
      refine cj_iload_n hC dX6_was_23 rfl 2 rfl ?_
      refine cj_if_ne (tgt := 35) hC dX6_was_24 (by decide) (fun c3 => ?_) (fun c3 => ?_)
      · replace h := cb_F c3 h
        refine cj_aload_n hC dX6_was_35 rfl 0 rfl ?_
        refine cj_iload_n hC dX6_was_36 rfl 1 rfl ?_
        obtain ⟨x3, M2, e4, h⟩ := cb_b2 h
        refine cj_callVi (As := [.int p1]) hC cv_X6_220 cx_l0_ (cx_e0 g _) rfl (c_X6_duesAsSeen l g p1 M1 e4) (by decide) rfl rfl (Nat.le_of_ble_eq_true rfl) dX6_was_37 ?_
        obtain ⟨rfl, rfl⟩ := cb_i2 h
        exact cj_iret hC dX6_was_40
      · replace h := cb_T c3 h
        refine cj_aload_n hC dX6_was_27 rfl 0 rfl ?_
        refine cj_iload_n hC dX6_was_28 rfl 1 rfl ?_
        obtain ⟨x4, M3, e5, h⟩ := cb_b2 h
        refine cj_callVi (As := [.int p1]) hC cv_X6_217 cx_l0_ (cx_e0 g _) rfl (c_X6_sortsAsSeen l g p1 M1 e5) (by decide) rfl rfl (Nat.le_of_ble_eq_true rfl) dX6_was_29 ?_
        refine cj_goto (tgt := 40) hC dX6_was_32 (by decide) ?_
        obtain ⟨rfl, rfl⟩ := cb_i2 h
        exact cj_iret hC dX6_was_40
    · replace h := cb_F c2 h
      refine cj_bipush (v := (-2)) hC dX6_was_16 rfl ?_
      obtain ⟨rfl, rfl⟩ := cb_i2 h
      exact cj_iret hC dX6_was_18
def f_X6_ask_L17 : Nat → Int32 → Int32 → cb_Mem → Option (cb_Mem)
    | 0, _, _, _ => none
    | n + 1, v1, v2, M =>
      if 8 ≤ v2 then
      some M
      else
      if cb_in v2 8 = true then
      (f_J7_fill_53178 (50 + v2.toNatClampNeg) 9 0 M).bind fun M1 =>
      f_X6_ask_L17 n v1 (v2 + 1) M1
      else none
def f_X6_ask_L41 : Nat → Int32 → Int32 → cb_Mem → Option (cb_Mem)
    | 0, _, _, _ => none
    | n + 1, v1, v2, M =>
      if 30 ≤ v2 then
      some M
      else
      if cb_in v1 8 = true then
      cb_let (cb_up M 17 v1.toNatClampNeg v2) fun M1 =>
      (f_X5_go  M1).bind fun M2 =>
      (f_X6_isAsSeen  M2).bind fun x1 =>
      Option.bind (if x1 = 0 then
      some M2
      else
      (f_X6_tallyWhoGotWhat  M2).bind fun M4 =>
      some M4) fun M3 =>
      f_X6_ask_L41 n v1 (v2 + 1) M3
      else none
def f_X6_ask (p1 : Int32) (M : cb_Mem) : Option (Int32 × cb_Mem) :=
  cb_let (f_X6_isNoHead p1 M) fun x1 =>
  if x1 = 0 then
  (f_X6_layOut  M).bind fun M1 =>
  (f_X6_ask_L17 cb_fuel p1 0 M1).bind fun M2 =>
  (f_X6_ask_L41 cb_fuel p1 0 M2).bind fun M3 =>
  (f_X6_leastTallied  M3).bind fun x2 =>
  some (x2, M3)
  else
  some (((-2) : Int32), M)
set_option maxRecDepth 100000 in
set_option maxHeartbeats 4000000 in
theorem l_X6_ask_L17 {l : Launch} {g : cb_Geo} {γ : cb_Gam} {rr : Int32} {Mr : cb_Mem} (hC : cb_C cx g γ RX6 cX6_ask 3 (some .int) 3 l (cb_Qi cx g rr Mr)) (v1 : Int32) : ∀ (n : Nat) (v2 : Int32) (M : cb_Mem) (o : (cb_Mem)), f_X6_ask_L17 n v1 v2 M = some o → (∀ (M' : cb_Mem), o = M' → cb_J cx g γ 3 M' 39 [(0, .ref (g.2.1 0)), (1, .int v1)] []) → cb_J cx g γ 3 M 17 [(0, .ref (g.2.1 0)), (1, .int v1), (2, .int v2)] [] := by
  intro n
  induction n with
  | zero =>
    intro v2 M o h
    cases h
  | succ n ih =>
    intro v2 M o h hexit
    unfold f_X6_ask_L17 at h
    refine cj_iload_n hC dX6_ask_17 rfl 2 rfl ?_
    refine cj_bipush (v := 8) hC dX6_ask_18 rfl ?_
    refine cj_icmp_ge (tgt := 39) hC dX6_ask_20 (by decide) (fun c1 => ?_) (fun c1 => ?_)
    · replace h := cb_T c1 h
      obtain rfl := Option.some.inj h
      exact cj_pick [0, 1] rfl (hexit _ rfl)
    · replace h := cb_F c1 h
      refine cj_aload_n hC dX6_ask_23 rfl 0 rfl ?_
      refine cj_get (v := .ref (g.2.1 6)) hC fa_X6_70 cx_l0_ (cx_e0 g _) rfl dX6_ask_24 ?_
      refine cj_iload_n hC dX6_ask_27 rfl 2 rfl ?_
      obtain ⟨i1, h⟩ := cb_g h
      refine cj_aald (t0 := 3) (a := g.2.1 (50 + v2.toNatClampNeg)) hC cx_l6_ (cx_e6 g _) rfl rfl i1 rfl dX6_ask_28 ?_
      refine cj_iconst (v := 0) hC dX6_ask_29 rfl ?_
      obtain ⟨M1, e1, h⟩ := cb_b h
      refine cj_callSv (As := [.ref (g.2.1 (50 + v2.toNatClampNeg)), .int 0]) hC cs_X6_223 (c_J7_fill_53178 l g (50 + v2.toNatClampNeg) 9 (cx_l8 (vp_lt i1) (by decide)) (cx_tally (vp_lt i1) g) 0 M e1) (by decide) rfl rfl (Nat.le_of_ble_eq_true rfl) dX6_ask_30 ?_
      refine cj_iinc (lv' := [(2, .int (v2 + 1)), (0, .ref (g.2.1 0)), (1, .int v1)]) hC dX6_ask_33 (q := 2) rfl rfl (by decide) rfl ?_
      refine cj_goto (tgt := 17) hC dX6_ask_36 (by decide) ?_
      exact cj_pick [1, 2, 0] rfl (ih _ _ _ h hexit)
set_option maxRecDepth 100000 in
set_option maxHeartbeats 4000000 in
theorem l_X6_ask_L41 {l : Launch} {g : cb_Geo} {γ : cb_Gam} {rr : Int32} {Mr : cb_Mem} (hC : cb_C cx g γ RX6 cX6_ask 3 (some .int) 3 l (cb_Qi cx g rr Mr)) (v1 : Int32) : ∀ (n : Nat) (v2 : Int32) (M : cb_Mem) (o : (cb_Mem)), f_X6_ask_L41 n v1 v2 M = some o → (∀ (M' : cb_Mem), o = M' → cb_J cx g γ 3 M' 85 [(0, .ref (g.2.1 0))] []) → cb_J cx g γ 3 M 41 [(0, .ref (g.2.1 0)), (1, .int v1), (2, .int v2)] [] := by
  intro n
  induction n with
  | zero =>
    intro v2 M o h
    cases h
  | succ n ih =>
    intro v2 M o h hexit
    unfold f_X6_ask_L41 at h
    refine cj_iload_n hC dX6_ask_41 rfl 2 rfl ?_
    refine cj_bipush (v := 30) hC dX6_ask_42 rfl ?_
    refine cj_icmp_ge (tgt := 85) hC dX6_ask_44 (by decide) (fun c1 => ?_) (fun c1 => ?_)
    · replace h := cb_T c1 h
      obtain rfl := Option.some.inj h
      exact cj_pick [0] rfl (hexit _ rfl)
    · replace h := cb_F c1 h
      refine cj_aload_n hC dX6_ask_47 rfl 0 rfl ?_
      refine cj_get (v := .ref (g.2.1 3)) hC fa_X6_50 cx_l0_ (cx_e0 g _) rfl dX6_ask_48 ?_
      refine cj_get (v := .ref (g.2.1 17)) hC fa_X6_193 cx_l3_ (cx_e3 g _) rfl dX6_ask_51 ?_
      refine cj_iload_n hC dX6_ask_54 rfl 1 rfl ?_
      refine cj_iload_n hC dX6_ask_55 rfl 2 rfl ?_
      obtain ⟨i1, h⟩ := cb_g h
      obtain ⟨M1, eM1, h⟩ := cb_l h
      refine cj_iast hC cx_l17_ (cx_e17 g) (cx_t0 g) i1 eM1 dX6_ask_56 ?_
      refine cj_aload_n hC dX6_ask_57 rfl 0 rfl ?_
      refine cj_get (v := .ref (g.2.1 4)) hC fa_X6_57 cx_l0_ (cx_e0 g _) rfl dX6_ask_58 ?_
      refine cj_aload_n hC dX6_ask_61 rfl 0 rfl ?_
      refine cj_get (v := .ref (g.2.1 3)) hC fa_X6_50 cx_l0_ (cx_e0 g _) rfl dX6_ask_62 ?_
      obtain ⟨M2, e1, h⟩ := cb_b h
      refine cj_callVv (As := [.ref (g.2.1 3)]) hC cv_X6_196 cx_l4_ (cx_e4 g _) rfl (c_X5_go l g  M1 e1) (by decide) rfl rfl (Nat.le_of_ble_eq_true rfl) dX6_ask_65 ?_
      refine cj_aload_n hC dX6_ask_68 rfl 0 rfl ?_
      obtain ⟨x1, e2, h⟩ := cb_b h
      refine cj_callVi (As := []) hC cv_X6_214 cx_l0_ (cx_e0 g _) rfl (c_X6_isAsSeen l g  M2 e2) (by decide) rfl rfl (Nat.le_of_ble_eq_true rfl) dX6_ask_69 ?_
      obtain ⟨M3, hx1, h⟩ := cb_b h
      have hj1 : cb_J cx g γ 3 M3 79 [(0, .ref (g.2.1 0)), (1, .int v1), (2, .int v2)] [] := by
        refine cj_iinc (lv' := [(2, .int (v2 + 1)), (0, .ref (g.2.1 0)), (1, .int v1)]) hC dX6_ask_79 (q := 2) rfl rfl (by decide) rfl ?_
        refine cj_goto (tgt := 41) hC dX6_ask_82 (by decide) ?_
        exact cj_pick [1, 2, 0] rfl (ih _ _ _ h hexit)
      refine cj_if_eq (tgt := 79) hC dX6_ask_72 (by decide) (fun c2 => ?_) (fun c2 => ?_)
      · replace hx1 := cb_T c2 hx1
        obtain rfl := Option.some.inj hx1
        exact cj_pick [0, 1, 2] rfl hj1
      · replace hx1 := cb_F c2 hx1
        refine cj_aload_n hC dX6_ask_75 rfl 0 rfl ?_
        obtain ⟨M4, e3, hx1⟩ := cb_b hx1
        refine cj_callVv (As := []) hC cv_X6_229 cx_l0_ (cx_e0 g _) rfl (c_X6_tallyWhoGotWhat l g  M2 e3) (by decide) rfl rfl (Nat.le_of_ble_eq_true rfl) dX6_ask_76 ?_
        obtain rfl := Option.some.inj hx1
        exact cj_pick [0, 1, 2] rfl hj1
set_option maxRecDepth 100000 in
set_option maxHeartbeats 4000000 in
theorem c_X6_ask (l : Launch) (g : cb_Geo) (p1 : Int32) (M : cb_Mem) {rr : Int32} {Mr : cb_Mem} (h : f_X6_ask p1 M = some (rr, Mr)) : Met l yX6_ask (.code yX6_ask cX6_ask 3 (some .int) :: cb_ws) (cb_rm 3) (cb_Pc cx g [.ref (g.2.1 0), .int p1] M) (cb_Qi cx g rr Mr) 0 0 (cb_A cx g) := by
  refine cb_met (by decide) wd_717 (Nat.le_of_ble_eq_true rfl) (fun γ hC => ?_)
  replace hC : cb_C cx g γ RX6 cX6_ask 3 (some .int) 3 l (cb_Qi cx g rr Mr) := hC
  show cb_J cx g γ 3 M 0 [(0, .ref (g.2.1 0)), (1, .int p1)] []
  unfold f_X6_ask at h
  refine cj_aload_n hC dX6_ask_0 rfl 0 rfl ?_
  refine cj_iload_n hC dX6_ask_1 rfl 1 rfl ?_
  obtain ⟨x1, e1, h⟩ := cb_l h
  refine cj_callVi (As := [.int p1]) hC cv_X6_98 cx_l0_ (cx_e0 g _) rfl (c_X6_isNoHead l g p1 M e1.symm) (by decide) rfl rfl (Nat.le_of_ble_eq_true rfl) dX6_ask_2 ?_
  refine cj_if_eq (tgt := 11) hC dX6_ask_5 (by decide) (fun c1 => ?_) (fun c1 => ?_)
  · replace h := cb_T c1 h
    refine cj_aload_n hC dX6_ask_11 rfl 0 rfl ?_
    obtain ⟨M1, e2, h⟩ := cb_b h
    refine cj_callVv (As := []) hC cv_X6_184 cx_l0_ (cx_e0 g _) rfl (c_X6_layOut l g  M e2) (by decide) rfl rfl (Nat.le_of_ble_eq_true rfl) dX6_ask_12 ?_
    refine cj_iconst (v := 0) hC dX6_ask_15 rfl ?_
    refine cj_istore_n (lv' := [(2, .int 0), (0, .ref (g.2.1 0)), (1, .int p1)]) hC dX6_ask_16 rfl (by decide) rfl ?_
    obtain ⟨M2, e3, h⟩ := cb_b h
    refine cj_pick [1, 2, 0] rfl ?_
    refine l_X6_ask_L17 hC p1 cb_fuel _ _ _ e3 (fun ze3 hz => ?_)
    obtain rfl := hz
    refine cj_iconst (v := 0) hC dX6_ask_39 rfl ?_
    refine cj_istore_n (lv' := [(2, .int 0), (0, .ref (g.2.1 0)), (1, .int p1)]) hC dX6_ask_40 rfl (by decide) rfl ?_
    obtain ⟨M3, e4, h⟩ := cb_b h
    refine cj_pick [1, 2, 0] rfl ?_
    refine l_X6_ask_L41 hC p1 cb_fuel _ _ _ e4 (fun ze4 hz => ?_)
    obtain rfl := hz
    refine cj_aload_n hC dX6_ask_85 rfl 0 rfl ?_
    obtain ⟨x2, e5, h⟩ := cb_b h
    refine cj_callVi (As := []) hC cv_X6_232 cx_l0_ (cx_e0 g _) rfl (c_X6_leastTallied l g  M3 e5) (by decide) rfl rfl (Nat.le_of_ble_eq_true rfl) dX6_ask_86 ?_
    obtain ⟨rfl, rfl⟩ := cb_i2 h
    exact cj_iret hC dX6_ask_89
  · replace h := cb_F c1 h
    refine cj_bipush (v := (-2)) hC dX6_ask_8 rfl ?_
    obtain ⟨rfl, rfl⟩ := cb_i2 h
    exact cj_iret hC dX6_ask_10
def f_X6_chill_L86 : Nat → Int32 → Int64 → Int64 → Int32 → Option (Int64 × Int64)
    | 0, _, _, _, _ => none
    | n + 1, v4, v5, v7, v9 =>
      if 40 ≤ v9 then
      some (v5, v7)
      else
      if (lg_cmp v7 1) ≤ 0 then
      some (v5, v7)
      else
      if (lg_cmp (v5 &&& 1) 0) = 0 then
      cb_let ((v5 >>> ((1 : Int32).toInt64 &&& 63))) fun y1 =>
      cb_let ((v7 >>> ((1 : Int32).toInt64 &&& 63))) fun y2 =>
      f_X6_chill_L86 n v4 y1 y2 (v9 + 1)
      else
      some (v5, v7)
def f_X6_chill (p1 : Int32) (p2 : Int32) (p3 : Int32) (p4 : Int32) (M : cb_Mem) : Option (Int64 × cb_Mem) :=
  cb_let (f_X6_isOff p1 17) fun x1 =>
  cb_let (fun (_ : Unit) =>
  cb_let (f_X6_asLong (-2)) fun y1 =>
  some (y1, M)) fun k1 =>
  if x1 = 0 then
  cb_let (f_X6_isOff p2 10) fun x2 =>
  if x2 = 0 then
  cb_let (f_X6_isNoCouple p3 M) fun x3 =>
  cb_let (fun (_ : Unit) =>
  cb_let (f_X6_asLong (-2)) fun y2 =>
  some (y2, M)) fun k2 =>
  if x3 = 0 then
  cb_let (f_X6_isOff p4 2) fun x4 =>
  if x4 = 0 then
  Option.bind (if (M 5 1) = p2 then
  some M
  else
  (f_X6_countChances p2 M).bind fun M2 =>
  some M2) fun M1 =>
  (f_X0_weightOf p3 p1 M1).bind fun y3 =>
  cb_let (((1 : Int64) <<< ((4 * (p2 + 1)).toInt64 &&& 63))) fun y4 =>
  cb_bind2 (f_X6_chill_L86 cb_fuel p4 y3 y4 0) fun y5 y6 =>
  if p4 = 0 then
  some (y5, M1)
  else
  some (y6, M1)
  else
  k2 ()
  else
  k2 ()
  else
  k1 ()
  else
  k1 ()
set_option maxRecDepth 100000 in
set_option maxHeartbeats 4000000 in
theorem l_X6_chill_L86 {l : Launch} {g : cb_Geo} {γ : cb_Gam} {rr : Int64} {Mr : cb_Mem} (hC : cb_C cx g γ RX6 cX6_chill 10 (some .long) 4 l (cb_Ql cx g rr Mr)) (v4 : Int32) (M : cb_Mem) : ∀ (n : Nat) (v5 : Int64) (v7 : Int64) (v9 : Int32) (o : (Int64 × Int64)), f_X6_chill_L86 n v4 v5 v7 v9 = some o → (∀ (v5' : Int64) (v7' : Int64), o = (v5', v7') → cb_J cx g γ 10 M 127 [(4, .int v4), (5, .long v5'), (7, .long v7')] []) → cb_J cx g γ 10 M 86 [(4, .int v4), (5, .long v5), (7, .long v7), (9, .int v9)] [] := by
  intro n
  induction n with
  | zero =>
    intro v5 v7 v9 o h
    cases h
  | succ n ih =>
    intro v5 v7 v9 o h hexit
    unfold f_X6_chill_L86 at h
    refine cj_iload hC dX6_chill_86 3 rfl ?_
    refine cj_bipush (v := 40) hC dX6_chill_88 rfl ?_
    refine cj_icmp_ge (tgt := 127) hC dX6_chill_90 (by decide) (fun c1 => ?_) (fun c1 => ?_)
    · replace h := cb_T c1 h
      obtain rfl := Option.some.inj h
      exact cj_pick [0, 1, 2] rfl (hexit _ _ rfl)
    · replace h := cb_F c1 h
      refine cj_lload hC dX6_chill_93 2 rfl ?_
      refine cj_lconst (v := 1) hC dX6_chill_95 rfl ?_
      refine cj_lcmp hC dX6_chill_96 ?_
      refine cj_if_le (tgt := 127) hC dX6_chill_97 (by decide) (fun c2 => ?_) (fun c2 => ?_)
      · replace h := cb_T c2 h
        obtain rfl := Option.some.inj h
        exact cj_pick [0, 1, 2] rfl (hexit _ _ rfl)
      · replace h := cb_F c2 h
        refine cj_lload hC dX6_chill_100 1 rfl ?_
        refine cj_lconst (v := 1) hC dX6_chill_102 rfl ?_
        refine cj_land hC dX6_chill_103 ?_
        refine cj_lconst (v := 0) hC dX6_chill_104 rfl ?_
        refine cj_lcmp hC dX6_chill_105 ?_
        refine cj_if_ne (tgt := 127) hC dX6_chill_106 (by decide) (fun c3 => ?_) (fun c3 => ?_)
        · replace h := cb_F c3 h
          obtain rfl := Option.some.inj h
          exact cj_pick [0, 1, 2] rfl (hexit _ _ rfl)
        · replace h := cb_T c3 h
          refine cj_lload hC dX6_chill_109 1 rfl ?_
          refine cj_iconst (v := 1) hC dX6_chill_111 rfl ?_
          refine cj_lshr hC dX6_chill_112 ?_
          obtain ⟨y1, ey1, h⟩ := cb_l h
          refine cj_topl ey1 ?_
          refine cj_lstore (lv' := [(5, .long y1), (4, .int v4), (7, .long v7), (9, .int v9)]) hC dX6_chill_113 (by decide) rfl ?_
          refine cj_lload hC dX6_chill_115 2 rfl ?_
          refine cj_iconst (v := 1) hC dX6_chill_117 rfl ?_
          refine cj_lshr hC dX6_chill_118 ?_
          obtain ⟨y2, ey2, h⟩ := cb_l h
          refine cj_topl ey2 ?_
          refine cj_lstore (lv' := [(7, .long y2), (5, .long y1), (4, .int v4), (9, .int v9)]) hC dX6_chill_119 (by decide) rfl ?_
          refine cj_iinc (lv' := [(9, .int (v9 + 1)), (7, .long y2), (5, .long y1), (4, .int v4)]) hC dX6_chill_121 (q := 3) rfl rfl (by decide) rfl ?_
          refine cj_goto (tgt := 86) hC dX6_chill_124 (by decide) ?_
          exact cj_pick [3, 2, 1, 0] rfl (ih _ _ _ _ h hexit)
set_option maxRecDepth 100000 in
set_option maxHeartbeats 4000000 in
theorem c_X6_chill (l : Launch) (g : cb_Geo) (p1 : Int32) (p2 : Int32) (p3 : Int32) (p4 : Int32) (M : cb_Mem) {rr : Int64} {Mr : cb_Mem} (h : f_X6_chill p1 p2 p3 p4 M = some (rr, Mr)) : Met l yX6_chill (.code yX6_chill cX6_chill 10 (some .long) :: cb_ws) (cb_rm 4) (cb_Pc cx g [.ref (g.2.1 0), .int p1, .int p2, .int p3, .int p4] M) (cb_Ql cx g rr Mr) 0 0 (cb_A cx g) := by
  refine cb_met (by decide) wd_731 (Nat.le_of_ble_eq_true rfl) (fun γ hC => ?_)
  replace hC : cb_C cx g γ RX6 cX6_chill 10 (some .long) 4 l (cb_Ql cx g rr Mr) := hC
  show cb_J cx g γ 10 M 0 [(0, .ref (g.2.1 0)), (1, .int p1), (2, .int p2), (3, .int p3), (4, .int p4)] []
  unfold f_X6_chill at h
  refine cj_iload_n hC dX6_chill_0 rfl 1 rfl ?_
  refine cj_bipush (v := 17) hC dX6_chill_1 rfl ?_
  obtain ⟨x1, e1, h⟩ := cb_l h
  refine cj_callSi (As := [.int p1, .int 17]) hC cs_X6_77 (c_X6_isOff l g p1 17 M e1.symm) (by decide) rfl rfl (Nat.le_of_ble_eq_true rfl) dX6_chill_3 ?_
  obtain ⟨k1, ek1, h⟩ := cb_l h
  have hk1 : ∀ (u9 : Unit), k1 u9 = some (rr, Mr) → cb_J cx g γ 10 M 18 [] [] := by
    intro u9 h
    replace h := cb_k1 ek1 h
    refine cj_bipush (v := (-2)) hC dX6_chill_18 rfl ?_
    obtain ⟨y1, e2, h⟩ := cb_l h
    refine cj_callSl (As := [.int (-2)]) hC cs_X6_235 (c_X6_asLong l g (-2) M e2.symm) (by decide) rfl rfl (Nat.le_of_ble_eq_true rfl) dX6_chill_20 ?_
    obtain ⟨rfl, rfl⟩ := cb_i2 h
    exact cj_lret hC dX6_chill_23
  refine cj_if_ne (tgt := 18) hC dX6_chill_6 (by decide) (fun c1 => ?_) (fun c1 => ?_)
  · replace h := cb_F c1 h
    exact cj_pick [] rfl (hk1 _ h)
  · replace h := cb_T c1 h
    refine cj_iload_n hC dX6_chill_9 rfl 2 rfl ?_
    refine cj_bipush (v := 10) hC dX6_chill_10 rfl ?_
    obtain ⟨x2, e3, h⟩ := cb_l h
    refine cj_callSi (As := [.int p2, .int 10]) hC cs_X6_77 (c_X6_isOff l g p2 10 M e3.symm) (by decide) rfl rfl (Nat.le_of_ble_eq_true rfl) dX6_chill_12 ?_
    refine cj_if_eq (tgt := 24) hC dX6_chill_15 (by decide) (fun c2 => ?_) (fun c2 => ?_)
    · replace h := cb_T c2 h
      refine cj_aload_n hC dX6_chill_24 rfl 0 rfl ?_
      refine cj_iload_n hC dX6_chill_25 rfl 3 rfl ?_
      obtain ⟨x3, e4, h⟩ := cb_l h
      refine cj_callVi (As := [.int p3]) hC cv_X6_109 cx_l0_ (cx_e0 g _) rfl (c_X6_isNoCouple l g p3 M e4.symm) (by decide) rfl rfl (Nat.le_of_ble_eq_true rfl) dX6_chill_26 ?_
      obtain ⟨k2, ek2, h⟩ := cb_l h
      have hk2 : ∀ (u9 : Unit), k2 u9 = some (rr, Mr) → cb_J cx g γ 10 M 41 [] [] := by
        intro u9 h
        replace h := cb_k1 ek2 h
        refine cj_bipush (v := (-2)) hC dX6_chill_41 rfl ?_
        obtain ⟨y2, e5, h⟩ := cb_l h
        refine cj_callSl (As := [.int (-2)]) hC cs_X6_235 (c_X6_asLong l g (-2) M e5.symm) (by decide) rfl rfl (Nat.le_of_ble_eq_true rfl) dX6_chill_43 ?_
        obtain ⟨rfl, rfl⟩ := cb_i2 h
        exact cj_lret hC dX6_chill_46
      refine cj_if_ne (tgt := 41) hC dX6_chill_29 (by decide) (fun c3 => ?_) (fun c3 => ?_)
      · replace h := cb_F c3 h
        exact cj_pick [] rfl (hk2 _ h)
      · replace h := cb_T c3 h
        refine cj_iload hC dX6_chill_32 4 rfl ?_
        refine cj_iconst (v := 2) hC dX6_chill_34 rfl ?_
        obtain ⟨x4, e6, h⟩ := cb_l h
        refine cj_callSi (As := [.int p4, .int 2]) hC cs_X6_77 (c_X6_isOff l g p4 2 M e6.symm) (by decide) rfl rfl (Nat.le_of_ble_eq_true rfl) dX6_chill_35 ?_
        refine cj_if_eq (tgt := 47) hC dX6_chill_38 (by decide) (fun c4 => ?_) (fun c4 => ?_)
        · replace h := cb_T c4 h
          refine cj_aload_n hC dX6_chill_47 rfl 0 rfl ?_
          refine cj_get (v := .ref (g.2.1 5)) hC fa_X6_64 cx_l0_ (cx_e0 g _) rfl dX6_chill_48 ?_
          refine cj_get (v := .int (M 5 1)) hC fa_X6_239 cx_l5_ (cx_e5 g _) rfl dX6_chill_51 ?_
          refine cj_iload_n hC dX6_chill_54 rfl 2 rfl ?_
          obtain ⟨M1, hx1, h⟩ := cb_b h
          have hj1 : cb_J cx g γ 10 M1 63 [(0, .ref (g.2.1 0)), (1, .int p1), (2, .int p2), (3, .int p3), (4, .int p4)] [] := by
            refine cj_aload_n hC dX6_chill_63 rfl 0 rfl ?_
            refine cj_get (v := .ref (g.2.1 5)) hC fa_X6_64 cx_l0_ (cx_e0 g _) rfl dX6_chill_64 ?_
            refine cj_iload_n hC dX6_chill_67 rfl 3 rfl ?_
            refine cj_iload_n hC dX6_chill_68 rfl 1 rfl ?_
            obtain ⟨y3, e8, h⟩ := cb_b h
            refine cj_callVl (As := [.int p3, .int p1]) hC cv_X6_245 cx_l5_ (cx_e5 g _) rfl (c_X0_weightOf l g p3 p1 M1 e8) (by decide) rfl rfl (Nat.le_of_ble_eq_true rfl) dX6_chill_69 ?_
            refine cj_lstore (lv' := [(5, .long y3), (0, .ref (g.2.1 0)), (1, .int p1), (2, .int p2), (3, .int p3), (4, .int p4)]) hC dX6_chill_72 (by decide) rfl ?_
            refine cj_lconst (v := 1) hC dX6_chill_74 rfl ?_
            refine cj_iconst (v := 4) hC dX6_chill_75 rfl ?_
            refine cj_iload_n hC dX6_chill_76 rfl 3 rfl ?_
            refine cj_iconst (v := 1) hC dX6_chill_77 rfl ?_
            refine cj_iadd hC dX6_chill_78 ?_
            refine cj_imul hC dX6_chill_79 ?_
            refine cj_lshl hC dX6_chill_80 ?_
            obtain ⟨y4, ey4, h⟩ := cb_l h
            refine cj_topl ey4 ?_
            refine cj_lstore (lv' := [(7, .long y4), (5, .long y3), (0, .ref (g.2.1 0)), (1, .int p1), (2, .int p2), (3, .int p3), (4, .int p4)]) hC dX6_chill_81 (by decide) rfl ?_
            refine cj_iconst (v := 0) hC dX6_chill_83 rfl ?_
            refine cj_istore (lv' := [(9, .int 0), (7, .long y4), (5, .long y3), (0, .ref (g.2.1 0)), (1, .int p1), (2, .int p2), (3, .int p3), (4, .int p4)]) hC dX6_chill_84 (by decide) rfl ?_
            obtain ⟨y5, y6, e9, h⟩ := cb_b2 h
            refine cj_pick [7, 2, 1, 0] rfl ?_
            refine l_X6_chill_L86 hC p4 M1 cb_fuel _ _ _ _ e9 (fun ze90 ze91 hz => ?_)
            obtain ⟨rfl, rfl⟩ := cb_p2 hz
            refine cj_iload hC dX6_chill_127 0 rfl ?_
            refine cj_if_ne (tgt := 137) hC dX6_chill_129 (by decide) (fun c6 => ?_) (fun c6 => ?_)
            · replace h := cb_F c6 h
              refine cj_lload hC dX6_chill_137 2 rfl ?_
              obtain ⟨rfl, rfl⟩ := cb_i2 h
              exact cj_lret hC dX6_chill_139
            · replace h := cb_T c6 h
              refine cj_lload hC dX6_chill_132 1 rfl ?_
              refine cj_goto (tgt := 139) hC dX6_chill_134 (by decide) ?_
              obtain ⟨rfl, rfl⟩ := cb_i2 h
              exact cj_lret hC dX6_chill_139
          refine cj_icmp_eq (tgt := 63) hC dX6_chill_55 (by decide) (fun c5 => ?_) (fun c5 => ?_)
          · replace hx1 := cb_T c5 hx1
            obtain rfl := Option.some.inj hx1
            exact cj_pick [0, 1, 2, 3, 4] rfl hj1
          · replace hx1 := cb_F c5 hx1
            refine cj_aload_n hC dX6_chill_58 rfl 0 rfl ?_
            refine cj_iload_n hC dX6_chill_59 rfl 2 rfl ?_
            obtain ⟨M2, e7, hx1⟩ := cb_b hx1
            refine cj_callVv (As := [.int p2]) hC cv_X6_242 cx_l0_ (cx_e0 g _) rfl (c_X6_countChances l g p2 M e7) (by decide) rfl rfl (Nat.le_of_ble_eq_true rfl) dX6_chill_60 ?_
            obtain rfl := Option.some.inj hx1
            exact cj_pick [0, 1, 2, 3, 4] rfl hj1
        · replace h := cb_F c4 h
          exact cj_pick [] rfl (hk2 _ h)
    · replace h := cb_F c2 h
      exact cj_pick [] rfl (hk1 _ h)
def f_X6_year_L20 : Nat → Int32 → Int32 → Int32 → cb_Mem → Option (cb_Mem)
    | 0, _, _, _, _ => none
    | n + 1, v2, v3, v4, M =>
      if (M 3 6) ≤ v4 then
      some M
      else
      cb_let (((1103515245 * v3) + 12345)) fun x1 =>
      if cb_in v4 8 = true then
      cb_let (cb_up M 17 v4.toNatClampNeg ((x1.toUInt32 >>> ((16 : Int32).toUInt32 &&& Int32.toUInt32 31)).toInt32 - (x1.toUInt32 >>> ((16 : Int32).toUInt32 &&& Int32.toUInt32 31)).toInt32 / 30 * 30)) fun M1 =>
      f_X6_year_L20 n v2 x1 (v4 + 1) M1
      else none
def f_X6_year (p1 : Int32) (p2 : Int32) (M : cb_Mem) : Option (Int32 × cb_Mem) :=
  cb_let (f_X6_isOff p2 2) fun x1 =>
  if x1 = 0 then
  (f_X6_layOut  M).bind fun M1 =>
  (f_X6_year_L20 cb_fuel p2 p1 0 M1).bind fun M2 =>
  (f_X5_go  M2).bind fun M3 =>
  if p2 = 0 then
  (f_X6_childrenBehind 39 M3).bind fun x3 =>
  some (x3, M3)
  else
  cb_let (f_X6_numberWithout  M3) fun x2 =>
  some (x2, M3)
  else
  some (((-2) : Int32), M)
set_option maxRecDepth 100000 in
set_option maxHeartbeats 4000000 in
theorem l_X6_year_L20 {l : Launch} {g : cb_Geo} {γ : cb_Gam} {rr : Int32} {Mr : cb_Mem} (hC : cb_C cx g γ RX6 cX6_year 5 (some .int) 3 l (cb_Qi cx g rr Mr)) (v2 : Int32) : ∀ (n : Nat) (v3 : Int32) (v4 : Int32) (M : cb_Mem) (o : (cb_Mem)), f_X6_year_L20 n v2 v3 v4 M = some o → (∀ (M' : cb_Mem), o = M' → cb_J cx g γ 5 M' 64 [(0, .ref (g.2.1 0)), (2, .int v2)] []) → cb_J cx g γ 5 M 20 [(0, .ref (g.2.1 0)), (2, .int v2), (3, .int v3), (4, .int v4)] [] := by
  intro n
  induction n with
  | zero =>
    intro v3 v4 M o h
    cases h
  | succ n ih =>
    intro v3 v4 M o h hexit
    unfold f_X6_year_L20 at h
    refine cj_iload hC dX6_year_20 3 rfl ?_
    refine cj_aload_n hC dX6_year_22 rfl 0 rfl ?_
    refine cj_get (v := .ref (g.2.1 3)) hC fa_X6_50 cx_l0_ (cx_e0 g _) rfl dX6_year_23 ?_
    refine cj_get (v := .int (M 3 6)) hC fa_X6_249 cx_l3_ (cx_e3 g _) rfl dX6_year_26 ?_
    refine cj_icmp_ge (tgt := 64) hC dX6_year_29 (by decide) (fun c1 => ?_) (fun c1 => ?_)
    · replace h := cb_T c1 h
      obtain rfl := Option.some.inj h
      exact cj_pick [0, 1] rfl (hexit _ rfl)
    · replace h := cb_F c1 h
      refine cj_ldc (v := 1103515245) hC wd_757 dX6_year_32 ?_
      refine cj_iload_n hC dX6_year_34 rfl 2 rfl ?_
      refine cj_imul hC dX6_year_35 ?_
      refine cj_sipush (v := 12345) hC dX6_year_36 rfl ?_
      refine cj_iadd hC dX6_year_39 ?_
      obtain ⟨x1, ex1, h⟩ := cb_l h
      refine cj_topi ex1 ?_
      refine cj_istore_n (lv' := [(3, .int x1), (0, .ref (g.2.1 0)), (2, .int v2), (4, .int v4)]) hC dX6_year_40 rfl (by decide) rfl ?_
      refine cj_aload_n hC dX6_year_41 rfl 1 rfl ?_
      refine cj_get (v := .ref (g.2.1 3)) hC fa_X6_50 cx_l0_ (cx_e0 g _) rfl dX6_year_42 ?_
      refine cj_get (v := .ref (g.2.1 17)) hC fa_X6_193 cx_l3_ (cx_e3 g _) rfl dX6_year_45 ?_
      refine cj_iload hC dX6_year_48 3 rfl ?_
      refine cj_iload_n hC dX6_year_50 rfl 0 rfl ?_
      refine cj_bipush (v := 16) hC dX6_year_51 rfl ?_
      refine cj_iushr hC dX6_year_53 ?_
      refine cj_bipush (v := 30) hC dX6_year_54 rfl ?_
      refine cj_irem hC dX6_year_56 (by decide) ?_
      obtain ⟨i1, h⟩ := cb_g h
      obtain ⟨M1, eM1, h⟩ := cb_l h
      refine cj_iast hC cx_l17_ (cx_e17 g) (cx_t0 g) i1 eM1 dX6_year_57 ?_
      refine cj_iinc (lv' := [(4, .int (v4 + 1)), (3, .int x1), (0, .ref (g.2.1 0)), (2, .int v2)]) hC dX6_year_58 (q := 3) rfl rfl (by decide) rfl ?_
      refine cj_goto (tgt := 20) hC dX6_year_61 (by decide) ?_
      exact cj_pick [2, 3, 1, 0] rfl (ih _ _ _ _ h hexit)
set_option maxRecDepth 100000 in
set_option maxHeartbeats 4000000 in
theorem c_X6_year (l : Launch) (g : cb_Geo) (p1 : Int32) (p2 : Int32) (M : cb_Mem) {rr : Int32} {Mr : cb_Mem} (h : f_X6_year p1 p2 M = some (rr, Mr)) : Met l yX6_year (.code yX6_year cX6_year 5 (some .int) :: cb_ws) (cb_rm 3) (cb_Pc cx g [.ref (g.2.1 0), .int p1, .int p2] M) (cb_Qi cx g rr Mr) 0 0 (cb_A cx g) := by
  refine cb_met (by decide) wd_756 (Nat.le_of_ble_eq_true rfl) (fun γ hC => ?_)
  replace hC : cb_C cx g γ RX6 cX6_year 5 (some .int) 3 l (cb_Qi cx g rr Mr) := hC
  show cb_J cx g γ 5 M 0 [(0, .ref (g.2.1 0)), (1, .int p1), (2, .int p2)] []
  unfold f_X6_year at h
  refine cj_iload_n hC dX6_year_0 rfl 2 rfl ?_
  refine cj_iconst (v := 2) hC dX6_year_1 rfl ?_
  obtain ⟨x1, e1, h⟩ := cb_l h
  refine cj_callSi (As := [.int p2, .int 2]) hC cs_X6_77 (c_X6_isOff l g p2 2 M e1.symm) (by decide) rfl rfl (Nat.le_of_ble_eq_true rfl) dX6_year_2 ?_
  refine cj_if_eq (tgt := 11) hC dX6_year_5 (by decide) (fun c1 => ?_) (fun c1 => ?_)
  · replace h := cb_T c1 h
    refine cj_aload_n hC dX6_year_11 rfl 0 rfl ?_
    obtain ⟨M1, e2, h⟩ := cb_b h
    refine cj_callVv (As := []) hC cv_X6_184 cx_l0_ (cx_e0 g _) rfl (c_X6_layOut l g  M e2) (by decide) rfl rfl (Nat.le_of_ble_eq_true rfl) dX6_year_12 ?_
    refine cj_iload_n hC dX6_year_15 rfl 1 rfl ?_
    refine cj_istore_n (lv' := [(3, .int p1), (0, .ref (g.2.1 0)), (1, .int p1), (2, .int p2)]) hC dX6_year_16 rfl (by decide) rfl ?_
    refine cj_iconst (v := 0) hC dX6_year_17 rfl ?_
    refine cj_istore (lv' := [(4, .int 0), (3, .int p1), (0, .ref (g.2.1 0)), (1, .int p1), (2, .int p2)]) hC dX6_year_18 (by decide) rfl ?_
    obtain ⟨M2, e3, h⟩ := cb_b h
    refine cj_pick [2, 4, 1, 0] rfl ?_
    refine l_X6_year_L20 hC p2 cb_fuel _ _ _ _ e3 (fun ze3 hz => ?_)
    obtain rfl := hz
    refine cj_aload_n hC dX6_year_64 rfl 0 rfl ?_
    refine cj_get (v := .ref (g.2.1 4)) hC fa_X6_57 cx_l0_ (cx_e0 g _) rfl dX6_year_65 ?_
    refine cj_aload_n hC dX6_year_68 rfl 0 rfl ?_
    refine cj_get (v := .ref (g.2.1 3)) hC fa_X6_50 cx_l0_ (cx_e0 g _) rfl dX6_year_69 ?_
    obtain ⟨M3, e4, h⟩ := cb_b h
    refine cj_callVv (As := [.ref (g.2.1 3)]) hC cv_X6_196 cx_l4_ (cx_e4 g _) rfl (c_X5_go l g  M2 e4) (by decide) rfl rfl (Nat.le_of_ble_eq_true rfl) dX6_year_72 ?_
    refine cj_iload_n hC dX6_year_75 rfl 1 rfl ?_
    refine cj_if_ne (tgt := 88) hC dX6_year_76 (by decide) (fun c2 => ?_) (fun c2 => ?_)
    · replace h := cb_F c2 h
      refine cj_aload_n hC dX6_year_88 rfl 0 rfl ?_
      obtain ⟨x2, e5, h⟩ := cb_l h
      refine cj_callVi (As := []) hC cv_X6_200 cx_l0_ (cx_e0 g _) rfl (c_X6_numberWithout l g  M3 e5.symm) (by decide) rfl rfl (Nat.le_of_ble_eq_true rfl) dX6_year_89 ?_
      obtain ⟨rfl, rfl⟩ := cb_i2 h
      exact cj_iret hC dX6_year_92
    · replace h := cb_T c2 h
      refine cj_aload_n hC dX6_year_79 rfl 0 rfl ?_
      refine cj_bipush (v := 39) hC dX6_year_80 rfl ?_
      obtain ⟨x3, e6, h⟩ := cb_b h
      refine cj_callVi (As := [.int 39]) hC cv_X6_158 cx_l0_ (cx_e0 g _) rfl (c_X6_childrenBehind l g 39 M3 e6) (by decide) rfl rfl (Nat.le_of_ble_eq_true rfl) dX6_year_82 ?_
      refine cj_goto (tgt := 92) hC dX6_year_85 (by decide) ?_
      obtain ⟨rfl, rfl⟩ := cb_i2 h
      exact cj_iret hC dX6_year_92
  · replace h := cb_F c1 h
    refine cj_bipush (v := (-2)) hC dX6_year_8 rfl ?_
    obtain ⟨rfl, rfl⟩ := cb_i2 h
    exact cj_iret hC dX6_year_10
def f_X6_sheet (p1 : Int32) (p2 : Int32) (p3 : Int32) (M : cb_Mem) : Option (Int32 × cb_Mem) :=
  cb_let (f_X6_isOff p1 4) fun x1 =>
  if x1 = 0 then
  cb_let (f_X6_isOff p2 3) fun x2 =>
  if x2 = 0 then
  if p3 ≤ 60 then
  if 0 ≤ p3 then
  if cb_in p1 4 = true then
  (f_X3_renew p1.toNatClampNeg p2 p3 M).bind fun M1 =>
  some (p3, M1)
  else none
  else
  cb_let2 (f_X6_found 5 M) fun x3 M2 =>
  some (x3, M2)
  else
  some (((-2) : Int32), M)
  else
  some (((-2) : Int32), M)
  else
  some (((-2) : Int32), M)
set_option maxRecDepth 100000 in
set_option maxHeartbeats 4000000 in
theorem c_X6_sheet (l : Launch) (g : cb_Geo) (p1 : Int32) (p2 : Int32) (p3 : Int32) (M : cb_Mem) {rr : Int32} {Mr : cb_Mem} (h : f_X6_sheet p1 p2 p3 M = some (rr, Mr)) : Met l yX6_sheet (.code yX6_sheet cX6_sheet 4 (some .int) :: cb_ws) (cb_rm 2) (cb_Pc cx g [.ref (g.2.1 0), .int p1, .int p2, .int p3] M) (cb_Qi cx g rr Mr) 0 0 (cb_A cx g) := by
  refine cb_met (by decide) wd_761 (Nat.le_of_ble_eq_true rfl) (fun γ hC => ?_)
  replace hC : cb_C cx g γ RX6 cX6_sheet 4 (some .int) 2 l (cb_Qi cx g rr Mr) := hC
  show cb_J cx g γ 4 M 0 [(0, .ref (g.2.1 0)), (1, .int p1), (2, .int p2), (3, .int p3)] []
  unfold f_X6_sheet at h
  refine cj_iload_n hC dX6_sheet_0 rfl 1 rfl ?_
  refine cj_iconst (v := 4) hC dX6_sheet_1 rfl ?_
  obtain ⟨x1, e1, h⟩ := cb_l h
  refine cj_callSi (As := [.int p1, .int 4]) hC cs_X6_77 (c_X6_isOff l g p1 4 M e1.symm) (by decide) rfl rfl (Nat.le_of_ble_eq_true rfl) dX6_sheet_2 ?_
  refine cj_if_ne (tgt := 22) hC dX6_sheet_5 (by decide) (fun c1 => ?_) (fun c1 => ?_)
  · replace h := cb_F c1 h
    refine cj_bipush (v := (-2)) hC dX6_sheet_22 rfl ?_
    obtain ⟨rfl, rfl⟩ := cb_i2 h
    exact cj_iret hC dX6_sheet_24
  · replace h := cb_T c1 h
    refine cj_iload_n hC dX6_sheet_8 rfl 2 rfl ?_
    refine cj_iconst (v := 3) hC dX6_sheet_9 rfl ?_
    obtain ⟨x2, e2, h⟩ := cb_l h
    refine cj_callSi (As := [.int p2, .int 3]) hC cs_X6_77 (c_X6_isOff l g p2 3 M e2.symm) (by decide) rfl rfl (Nat.le_of_ble_eq_true rfl) dX6_sheet_10 ?_
    refine cj_if_ne (tgt := 22) hC dX6_sheet_13 (by decide) (fun c2 => ?_) (fun c2 => ?_)
    · replace h := cb_F c2 h
      refine cj_bipush (v := (-2)) hC dX6_sheet_22 rfl ?_
      obtain ⟨rfl, rfl⟩ := cb_i2 h
      exact cj_iret hC dX6_sheet_24
    · replace h := cb_T c2 h
      refine cj_iload_n hC dX6_sheet_16 rfl 3 rfl ?_
      refine cj_bipush (v := 60) hC dX6_sheet_17 rfl ?_
      refine cj_icmp_le (tgt := 25) hC dX6_sheet_19 (by decide) (fun c3 => ?_) (fun c3 => ?_)
      · replace h := cb_T c3 h
        refine cj_iload_n hC dX6_sheet_25 rfl 3 rfl ?_
        refine cj_if_ge (tgt := 35) hC dX6_sheet_26 (by decide) (fun c4 => ?_) (fun c4 => ?_)
        · replace h := cb_T c4 h
          refine cj_aload_n hC dX6_sheet_35 rfl 0 rfl ?_
          refine cj_get (v := .ref (g.2.1 2)) hC fa_X6_43 cx_l0_ (cx_e0 g _) rfl dX6_sheet_36 ?_
          refine cj_iload_n hC dX6_sheet_39 rfl 1 rfl ?_
          obtain ⟨i1, h⟩ := cb_g h
          refine cj_aald (t0 := 2) (a := g.2.1 (42 + p1.toNatClampNeg)) hC cx_l2_ (cx_e2 g _) rfl rfl i1 rfl dX6_sheet_40 ?_
          refine cj_iload_n hC dX6_sheet_41 rfl 2 rfl ?_
          refine cj_iload_n hC dX6_sheet_42 rfl 3 rfl ?_
          obtain ⟨M1, e3, h⟩ := cb_b h
          refine cj_callVv (As := [.int p2, .int p3]) hC cv_X6_253 (cx_l4 (vp_lt i1) (by decide)) (cx_sheet (vp_lt i1) g _) rfl (c_X3_renew l g p1.toNatClampNeg (vp_lt i1) p2 p3 M e3) (by decide) rfl rfl (Nat.le_of_ble_eq_true rfl) dX6_sheet_43 ?_
          refine cj_iload_n hC dX6_sheet_46 rfl 3 rfl ?_
          obtain ⟨rfl, rfl⟩ := cb_i2 h
          exact cj_iret hC dX6_sheet_47
        · replace h := cb_F c4 h
          refine cj_aload_n hC dX6_sheet_29 rfl 0 rfl ?_
          refine cj_iconst (v := 5) hC dX6_sheet_30 rfl ?_
          obtain ⟨x3, M2, e4, h⟩ := cb_l2 h
          refine cj_callVi (As := [.int 5]) hC cv_X6_123 cx_l0_ (cx_e0 g _) rfl (c_X6_found l g 5 M e4.symm) (by decide) rfl rfl (Nat.le_of_ble_eq_true rfl) dX6_sheet_31 ?_
          obtain ⟨rfl, rfl⟩ := cb_i2 h
          exact cj_iret hC dX6_sheet_34
      · replace h := cb_F c3 h
        refine cj_bipush (v := (-2)) hC dX6_sheet_22 rfl ?_
        obtain ⟨rfl, rfl⟩ := cb_i2 h
        exact cj_iret hC dX6_sheet_24
def f_X6_lose (p1 : Int32) (M : cb_Mem) : Option (Int32 × cb_Mem) :=
  cb_let (f_X6_isOff p1 4) fun x1 =>
  if x1 = 0 then
  if cb_in p1 4 = true then
  cb_let (f_X3_isLost p1.toNatClampNeg M) fun x2 =>
  if x2 = 0 then
  cb_let ((M (42 + p1.toNatClampNeg) 2)) fun x3 =>
  cb_let (cb_up M (42 + p1.toNatClampNeg) 2 (-1)) fun M1 =>
  some (x3, M1)
  else
  cb_let2 (f_X6_found 1 M) fun x4 M2 =>
  some (x4, M2)
  else none
  else
  some (((-2) : Int32), M)
set_option maxRecDepth 100000 in
set_option maxHeartbeats 4000000 in
theorem c_X6_lose (l : Launch) (g : cb_Geo) (p1 : Int32) (M : cb_Mem) {rr : Int32} {Mr : cb_Mem} (h : f_X6_lose p1 M = some (rr, Mr)) : Met l yX6_lose (.code yX6_lose cX6_lose 4 (some .int) :: cb_ws) (cb_rm 1) (cb_Pc cx g [.ref (g.2.1 0), .int p1] M) (cb_Qi cx g rr Mr) 0 0 (cb_A cx g) := by
  refine cb_met (by decide) wd_770 (Nat.le_of_ble_eq_true rfl) (fun γ hC => ?_)
  replace hC : cb_C cx g γ RX6 cX6_lose 4 (some .int) 1 l (cb_Qi cx g rr Mr) := hC
  show cb_J cx g γ 4 M 0 [(0, .ref (g.2.1 0)), (1, .int p1)] []
  unfold f_X6_lose at h
  refine cj_iload_n hC dX6_lose_0 rfl 1 rfl ?_
  refine cj_iconst (v := 4) hC dX6_lose_1 rfl ?_
  obtain ⟨x1, e1, h⟩ := cb_l h
  refine cj_callSi (As := [.int p1, .int 4]) hC cs_X6_77 (c_X6_isOff l g p1 4 M e1.symm) (by decide) rfl rfl (Nat.le_of_ble_eq_true rfl) dX6_lose_2 ?_
  refine cj_if_eq (tgt := 11) hC dX6_lose_5 (by decide) (fun c1 => ?_) (fun c1 => ?_)
  · replace h := cb_T c1 h
    refine cj_aload_n hC dX6_lose_11 rfl 0 rfl ?_
    refine cj_get (v := .ref (g.2.1 2)) hC fa_X6_43 cx_l0_ (cx_e0 g _) rfl dX6_lose_12 ?_
    refine cj_iload_n hC dX6_lose_15 rfl 1 rfl ?_
    obtain ⟨i1, h⟩ := cb_g h
    refine cj_aald (t0 := 2) (a := g.2.1 (42 + p1.toNatClampNeg)) hC cx_l2_ (cx_e2 g _) rfl rfl i1 rfl dX6_lose_16 ?_
    refine cj_astore_n (lv' := [(2, .ref (g.2.1 (42 + p1.toNatClampNeg))), (0, .ref (g.2.1 0)), (1, .int p1)]) hC dX6_lose_17 rfl (by decide) rfl ?_
    refine cj_aload_n hC dX6_lose_18 rfl 0 rfl ?_
    obtain ⟨x2, e2, h⟩ := cb_l h
    refine cj_callVi (As := []) hC cv_X6_119 (cx_l4 (vp_lt i1) (by decide)) (cx_sheet (vp_lt i1) g _) rfl (c_X3_isLost l g p1.toNatClampNeg (vp_lt i1) M e2.symm) (by decide) rfl rfl (Nat.le_of_ble_eq_true rfl) dX6_lose_19 ?_
    refine cj_if_eq (tgt := 31) hC dX6_lose_22 (by decide) (fun c2 => ?_) (fun c2 => ?_)
    · replace h := cb_T c2 h
      refine cj_aload_n hC dX6_lose_31 rfl 0 rfl ?_
      refine cj_get (v := .int (M (42 + p1.toNatClampNeg) 2)) hC fa_X6_126 (cx_l4 (vp_lt i1) (by decide)) (cx_sheet (vp_lt i1) g _) rfl dX6_lose_32 ?_
      obtain ⟨x3, ex3, h⟩ := cb_l h
      refine cj_topi ex3 ?_
      refine cj_istore_n (lv' := [(3, .int x3), (2, .ref (g.2.1 (42 + p1.toNatClampNeg))), (0, .ref (g.2.1 0)), (1, .int p1)]) hC dX6_lose_35 rfl (by decide) rfl ?_
      refine cj_aload_n hC dX6_lose_36 rfl 1 rfl ?_
      refine cj_iconst (v := (-1)) hC dX6_lose_37 rfl ?_
      obtain ⟨M1, eM1, h⟩ := cb_l h
      refine cj_put hC fp_X6_126 (cx_l4 (vp_lt i1) (by decide)) (cx_sheet (vp_lt i1) g _) ((cx_sheet (vp_lt i1) g _).trans rfl) (Nat.le_of_ble_eq_true rfl) eM1 dX6_lose_38 ?_
      refine cj_iload_n hC dX6_lose_41 rfl 0 rfl ?_
      obtain ⟨rfl, rfl⟩ := cb_i2 h
      exact cj_iret hC dX6_lose_42
    · replace h := cb_F c2 h
      refine cj_aload_n hC dX6_lose_25 rfl 1 rfl ?_
      refine cj_iconst (v := 1) hC dX6_lose_26 rfl ?_
      obtain ⟨x4, M2, e3, h⟩ := cb_l2 h
      refine cj_callVi (As := [.int 1]) hC cv_X6_123 cx_l0_ (cx_e0 g _) rfl (c_X6_found l g 1 M e3.symm) (by decide) rfl rfl (Nat.le_of_ble_eq_true rfl) dX6_lose_27 ?_
      obtain ⟨rfl, rfl⟩ := cb_i2 h
      exact cj_iret hC dX6_lose_30
  · replace h := cb_F c1 h
    refine cj_bipush (v := (-2)) hC dX6_lose_8 rfl ?_
    obtain ⟨rfl, rfl⟩ := cb_i2 h
    exact cj_iret hC dX6_lose_10
def f_X6_lay (p1 : Int32) (p2 : Int32) (p3 : Int32) (p4 : Int32) (M : cb_Mem) : Option (Int32 × cb_Mem) :=
  cb_let (f_X6_isOff p1 4) fun x1 =>
  if x1 = 0 then
  cb_let (f_X6_isOff p2 3) fun x2 =>
  if x2 = 0 then
  if cb_in p1 4 = true then
  cb_let (f_X6_whatIsWrong p1.toNatClampNeg p2 p3 M) fun x3 =>
  if x3 = 0 then
  if cb_in p1 4 = true then
  (f_X3_put p1.toNatClampNeg p3 p4 M).bind fun M1 =>
  some ((1 : Int32), M1)
  else none
  else
  cb_let2 (f_X6_found x3 M) fun x4 M2 =>
  some (x4, M2)
  else none
  else
  some (((-2) : Int32), M)
  else
  some (((-2) : Int32), M)
set_option maxRecDepth 100000 in
set_option maxHeartbeats 4000000 in
theorem c_X6_lay (l : Launch) (g : cb_Geo) (p1 : Int32) (p2 : Int32) (p3 : Int32) (p4 : Int32) (M : cb_Mem) {rr : Int32} {Mr : cb_Mem} (h : f_X6_lay p1 p2 p3 p4 M = some (rr, Mr)) : Met l yX6_lay (.code yX6_lay cX6_lay 6 (some .int) :: cb_ws) (cb_rm 2) (cb_Pc cx g [.ref (g.2.1 0), .int p1, .int p2, .int p3, .int p4] M) (cb_Qi cx g rr Mr) 0 0 (cb_A cx g) := by
  refine cb_met (by decide) wd_774 (Nat.le_of_ble_eq_true rfl) (fun γ hC => ?_)
  replace hC : cb_C cx g γ RX6 cX6_lay 6 (some .int) 2 l (cb_Qi cx g rr Mr) := hC
  show cb_J cx g γ 6 M 0 [(0, .ref (g.2.1 0)), (1, .int p1), (2, .int p2), (3, .int p3), (4, .int p4)] []
  unfold f_X6_lay at h
  refine cj_iload_n hC dX6_lay_0 rfl 1 rfl ?_
  refine cj_iconst (v := 4) hC dX6_lay_1 rfl ?_
  obtain ⟨x1, e1, h⟩ := cb_l h
  refine cj_callSi (As := [.int p1, .int 4]) hC cs_X6_77 (c_X6_isOff l g p1 4 M e1.symm) (by decide) rfl rfl (Nat.le_of_ble_eq_true rfl) dX6_lay_2 ?_
  refine cj_if_ne (tgt := 16) hC dX6_lay_5 (by decide) (fun c1 => ?_) (fun c1 => ?_)
  · replace h := cb_F c1 h
    refine cj_bipush (v := (-2)) hC dX6_lay_16 rfl ?_
    obtain ⟨rfl, rfl⟩ := cb_i2 h
    exact cj_iret hC dX6_lay_18
  · replace h := cb_T c1 h
    refine cj_iload_n hC dX6_lay_8 rfl 2 rfl ?_
    refine cj_iconst (v := 3) hC dX6_lay_9 rfl ?_
    obtain ⟨x2, e2, h⟩ := cb_l h
    refine cj_callSi (As := [.int p2, .int 3]) hC cs_X6_77 (c_X6_isOff l g p2 3 M e2.symm) (by decide) rfl rfl (Nat.le_of_ble_eq_true rfl) dX6_lay_10 ?_
    refine cj_if_eq (tgt := 19) hC dX6_lay_13 (by decide) (fun c2 => ?_) (fun c2 => ?_)
    · replace h := cb_T c2 h
      refine cj_aload_n hC dX6_lay_19 rfl 0 rfl ?_
      refine cj_get (v := .ref (g.2.1 2)) hC fa_X6_43 cx_l0_ (cx_e0 g _) rfl dX6_lay_20 ?_
      refine cj_iload_n hC dX6_lay_23 rfl 1 rfl ?_
      obtain ⟨i1, h⟩ := cb_g h
      refine cj_aald (t0 := 2) (a := g.2.1 (42 + p1.toNatClampNeg)) hC cx_l2_ (cx_e2 g _) rfl rfl i1 rfl dX6_lay_24 ?_
      refine cj_iload_n hC dX6_lay_25 rfl 2 rfl ?_
      refine cj_iload_n hC dX6_lay_26 rfl 3 rfl ?_
      obtain ⟨x3, e3, h⟩ := cb_l h
      refine cj_callSi (As := [.ref (g.2.1 (42 + p1.toNatClampNeg)), .int p2, .int p3]) hC cs_X6_257 (c_X6_whatIsWrong l g p1.toNatClampNeg (vp_lt i1) p2 p3 M e3.symm) (by decide) rfl rfl (Nat.le_of_ble_eq_true rfl) dX6_lay_27 ?_
      refine cj_istore (lv' := [(5, .int x3), (0, .ref (g.2.1 0)), (1, .int p1), (2, .int p2), (3, .int p3), (4, .int p4)]) hC dX6_lay_30 (by decide) rfl ?_
      refine cj_iload hC dX6_lay_32 0 rfl ?_
      refine cj_if_eq (tgt := 44) hC dX6_lay_34 (by decide) (fun c3 => ?_) (fun c3 => ?_)
      · replace h := cb_T c3 h
        refine cj_aload_n hC dX6_lay_44 rfl 1 rfl ?_
        refine cj_get (v := .ref (g.2.1 2)) hC fa_X6_43 cx_l0_ (cx_e0 g _) rfl dX6_lay_45 ?_
        refine cj_iload_n hC dX6_lay_48 rfl 2 rfl ?_
        obtain ⟨i2, h⟩ := cb_g h
        refine cj_aald (t0 := 2) (a := g.2.1 (42 + p1.toNatClampNeg)) hC cx_l2_ (cx_e2 g _) rfl rfl i2 rfl dX6_lay_49 ?_
        refine cj_iload_n hC dX6_lay_50 rfl 4 rfl ?_
        refine cj_iload hC dX6_lay_51 5 rfl ?_
        obtain ⟨M1, e4, h⟩ := cb_b h
        refine cj_callVv (As := [.int p3, .int p4]) hC cv_X6_261 (cx_l4 (vp_lt i2) (by decide)) (cx_sheet (vp_lt i2) g _) rfl (c_X3_put l g p1.toNatClampNeg (vp_lt i2) p3 p4 M e4) (by decide) rfl rfl (Nat.le_of_ble_eq_true rfl) dX6_lay_53 ?_
        refine cj_iconst (v := 1) hC dX6_lay_56 rfl ?_
        obtain ⟨rfl, rfl⟩ := cb_i2 h
        exact cj_iret hC dX6_lay_57
      · replace h := cb_F c3 h
        refine cj_aload_n hC dX6_lay_37 rfl 1 rfl ?_
        refine cj_iload hC dX6_lay_38 0 rfl ?_
        obtain ⟨x4, M2, e5, h⟩ := cb_l2 h
        refine cj_callVi (As := [.int x3]) hC cv_X6_123 cx_l0_ (cx_e0 g _) rfl (c_X6_found l g x3 M e5.symm) (by decide) rfl rfl (Nat.le_of_ble_eq_true rfl) dX6_lay_40 ?_
        obtain ⟨rfl, rfl⟩ := cb_i2 h
        exact cj_iret hC dX6_lay_43
    · replace h := cb_F c2 h
      refine cj_bipush (v := (-2)) hC dX6_lay_16 rfl ?_
      obtain ⟨rfl, rfl⟩ := cb_i2 h
      exact cj_iret hC dX6_lay_18
def f_X6_get (p1 : Int32) (p2 : Int32) (p3 : Int32) (M : cb_Mem) : Option (Int32 × cb_Mem) :=
  cb_let (f_X6_isOff p1 4) fun x1 =>
  cb_let (fun (_ : Unit) =>
  some (((-2147483648) : Int32), M)) fun k1 =>
  if x1 = 0 then
  cb_let (f_X6_isOff p2 3) fun x2 =>
  if x2 = 0 then
  if cb_in p1 4 = true then
  cb_let (f_X6_whatIsWrong p1.toNatClampNeg p2 p3 M) fun x3 =>
  if x3 = 0 then
  if cb_in p1 4 = true then
  (f_X3_itemAt p1.toNatClampNeg p3 M).bind fun x5 =>
  some (x5, M)
  else none
  else
  cb_let2 (f_X6_found x3 M) fun x4 M1 =>
  some (((-2147483648) : Int32), M1)
  else none
  else
  k1 ()
  else
  k1 ()
set_option maxRecDepth 100000 in
set_option maxHeartbeats 4000000 in
theorem c_X6_get (l : Launch) (g : cb_Geo) (p1 : Int32) (p2 : Int32) (p3 : Int32) (M : cb_Mem) {rr : Int32} {Mr : cb_Mem} (h : f_X6_get p1 p2 p3 M = some (rr, Mr)) : Met l yX6_get (.code yX6_get cX6_get 5 (some .int) :: cb_ws) (cb_rm 2) (cb_Pc cx g [.ref (g.2.1 0), .int p1, .int p2, .int p3] M) (cb_Qi cx g rr Mr) 0 0 (cb_A cx g) := by
  refine cb_met (by decide) wd_785 (Nat.le_of_ble_eq_true rfl) (fun γ hC => ?_)
  replace hC : cb_C cx g γ RX6 cX6_get 5 (some .int) 2 l (cb_Qi cx g rr Mr) := hC
  show cb_J cx g γ 5 M 0 [(0, .ref (g.2.1 0)), (1, .int p1), (2, .int p2), (3, .int p3)] []
  unfold f_X6_get at h
  refine cj_iload_n hC dX6_get_0 rfl 1 rfl ?_
  refine cj_iconst (v := 4) hC dX6_get_1 rfl ?_
  obtain ⟨x1, e1, h⟩ := cb_l h
  refine cj_callSi (As := [.int p1, .int 4]) hC cs_X6_77 (c_X6_isOff l g p1 4 M e1.symm) (by decide) rfl rfl (Nat.le_of_ble_eq_true rfl) dX6_get_2 ?_
  obtain ⟨k1, ek1, h⟩ := cb_l h
  have hk1 : ∀ (u9 : Unit), k1 u9 = some (rr, Mr) → cb_J cx g γ 5 M 16 [] [] := by
    intro u9 h
    replace h := cb_k1 ek1 h
    refine cj_ldc_w (v := (-2147483648)) hC wd_786 dX6_get_16 ?_
    obtain ⟨rfl, rfl⟩ := cb_i2 h
    exact cj_iret hC dX6_get_19
  refine cj_if_ne (tgt := 16) hC dX6_get_5 (by decide) (fun c1 => ?_) (fun c1 => ?_)
  · replace h := cb_F c1 h
    exact cj_pick [] rfl (hk1 _ h)
  · replace h := cb_T c1 h
    refine cj_iload_n hC dX6_get_8 rfl 2 rfl ?_
    refine cj_iconst (v := 3) hC dX6_get_9 rfl ?_
    obtain ⟨x2, e2, h⟩ := cb_l h
    refine cj_callSi (As := [.int p2, .int 3]) hC cs_X6_77 (c_X6_isOff l g p2 3 M e2.symm) (by decide) rfl rfl (Nat.le_of_ble_eq_true rfl) dX6_get_10 ?_
    refine cj_if_eq (tgt := 20) hC dX6_get_13 (by decide) (fun c2 => ?_) (fun c2 => ?_)
    · replace h := cb_T c2 h
      refine cj_aload_n hC dX6_get_20 rfl 0 rfl ?_
      refine cj_get (v := .ref (g.2.1 2)) hC fa_X6_43 cx_l0_ (cx_e0 g _) rfl dX6_get_21 ?_
      refine cj_iload_n hC dX6_get_24 rfl 1 rfl ?_
      obtain ⟨i1, h⟩ := cb_g h
      refine cj_aald (t0 := 2) (a := g.2.1 (42 + p1.toNatClampNeg)) hC cx_l2_ (cx_e2 g _) rfl rfl i1 rfl dX6_get_25 ?_
      refine cj_iload_n hC dX6_get_26 rfl 2 rfl ?_
      refine cj_iload_n hC dX6_get_27 rfl 3 rfl ?_
      obtain ⟨x3, e3, h⟩ := cb_l h
      refine cj_callSi (As := [.ref (g.2.1 (42 + p1.toNatClampNeg)), .int p2, .int p3]) hC cs_X6_257 (c_X6_whatIsWrong l g p1.toNatClampNeg (vp_lt i1) p2 p3 M e3.symm) (by decide) rfl rfl (Nat.le_of_ble_eq_true rfl) dX6_get_28 ?_
      refine cj_istore (lv' := [(4, .int x3), (0, .ref (g.2.1 0)), (1, .int p1), (2, .int p2), (3, .int p3)]) hC dX6_get_31 (by decide) rfl ?_
      refine cj_iload hC dX6_get_33 0 rfl ?_
      refine cj_if_ne (tgt := 49) hC dX6_get_35 (by decide) (fun c3 => ?_) (fun c3 => ?_)
      · replace h := cb_F c3 h
        refine cj_aload_n hC dX6_get_49 rfl 1 rfl ?_
        refine cj_iload hC dX6_get_50 0 rfl ?_
        obtain ⟨x4, M1, e4, h⟩ := cb_l2 h
        refine cj_callVi (As := [.int x3]) hC cv_X6_123 cx_l0_ (cx_e0 g _) rfl (c_X6_found l g x3 M e4.symm) (by decide) rfl rfl (Nat.le_of_ble_eq_true rfl) dX6_get_52 ?_
        refine cj_pop hC dX6_get_55 rfl ?_
        refine cj_ldc_w (v := (-2147483648)) hC wd_786 dX6_get_56 ?_
        obtain ⟨rfl, rfl⟩ := cb_i2 h
        exact cj_iret hC dX6_get_59
      · replace h := cb_T c3 h
        refine cj_aload_n hC dX6_get_38 rfl 1 rfl ?_
        refine cj_get (v := .ref (g.2.1 2)) hC fa_X6_43 cx_l0_ (cx_e0 g _) rfl dX6_get_39 ?_
        refine cj_iload_n hC dX6_get_42 rfl 2 rfl ?_
        obtain ⟨i2, h⟩ := cb_g h
        refine cj_aald (t0 := 2) (a := g.2.1 (42 + p1.toNatClampNeg)) hC cx_l2_ (cx_e2 g _) rfl rfl i2 rfl dX6_get_43 ?_
        refine cj_iload_n hC dX6_get_44 rfl 4 rfl ?_
        obtain ⟨x5, e5, h⟩ := cb_b h
        refine cj_callVi (As := [.int p3]) hC cv_X6_129 (cx_l4 (vp_lt i2) (by decide)) (cx_sheet (vp_lt i2) g _) rfl (c_X3_itemAt l g p1.toNatClampNeg (vp_lt i2) p3 M e5) (by decide) rfl rfl (Nat.le_of_ble_eq_true rfl) dX6_get_45 ?_
        obtain ⟨rfl, rfl⟩ := cb_i2 h
        exact cj_iret hC dX6_get_48
    · replace h := cb_F c2 h
      exact cj_pick [] rfl (hk1 _ h)
def f_X6_copy (p1 : Int32) (p2 : Int32) (p3 : Int32) (p4 : Int32) (p5 : Int32) (M : cb_Mem) : Option (Int32 × cb_Mem) :=
  cb_let (f_X6_isOff p1 4) fun x1 =>
  if x1 = 0 then
  cb_let (f_X6_isOff p3 4) fun x2 =>
  if x2 = 0 then
  if cb_in p1 4 = true then
  if cb_in p3 4 = true then
  cb_let (f_X3_isLost p1.toNatClampNeg M) fun x3 =>
  cb_let (fun (_ : Unit) =>
  cb_let2 (f_X6_found 1 M) fun x4 M1 =>
  some (x4, M1)) fun k1 =>
  if x3 = 0 then
  cb_let (f_X3_isLost p3.toNatClampNeg M) fun x5 =>
  if x5 = 0 then
  if (M (42 + p1.toNatClampNeg) 1) = (M (42 + p3.toNatClampNeg) 1) then
  cb_let (f_X3_hasRun p1.toNatClampNeg p2 p5 M) fun x6 =>
  cb_let (fun (_ : Unit) =>
  cb_let2 (f_X6_found 2 M) fun x7 M2 =>
  some (x7, M2)) fun k2 =>
  if x6 = 0 then
  k2 ()
  else
  cb_let (f_X3_hasRun p3.toNatClampNeg p4 p5 M) fun x8 =>
  if x8 = 0 then
  k2 ()
  else
  if cb_cin p2 p4 p5 60 60 then
  cb_let (cb_copy M (46 + p1.toNatClampNeg) (46 + p3.toNatClampNeg) p2.toNatClampNeg p4.toNatClampNeg p5.toNatClampNeg) fun M3 =>
  some ((1 : Int32), M3)
  else none
  else
  cb_let2 (f_X6_found 4 M) fun x9 M4 =>
  some (x9, M4)
  else
  k1 ()
  else
  k1 ()
  else none
  else none
  else
  some (((-2) : Int32), M)
  else
  some (((-2) : Int32), M)
set_option maxRecDepth 100000 in
set_option maxHeartbeats 4000000 in
theorem c_X6_copy (l : Launch) (g : cb_Geo) (p1 : Int32) (p2 : Int32) (p3 : Int32) (p4 : Int32) (p5 : Int32) (M : cb_Mem) {rr : Int32} {Mr : cb_Mem} (h : f_X6_copy p1 p2 p3 p4 p5 M = some (rr, Mr)) : Met l yX6_copy (.code yX6_copy cX6_copy 8 (some .int) :: cb_ws) (cb_rm 1) (cb_Pc cx g [.ref (g.2.1 0), .int p1, .int p2, .int p3, .int p4, .int p5] M) (cb_Qi cx g rr Mr) 0 0 (cb_A cx g) := by
  refine cb_met (by decide) wd_790 (Nat.le_of_ble_eq_true rfl) (fun γ hC => ?_)
  replace hC : cb_C cx g γ RX6 cX6_copy 8 (some .int) 1 l (cb_Qi cx g rr Mr) := hC
  show cb_J cx g γ 8 M 0 [(0, .ref (g.2.1 0)), (1, .int p1), (2, .int p2), (3, .int p3), (4, .int p4), (5, .int p5)] []
  unfold f_X6_copy at h
  refine cj_iload_n hC dX6_copy_0 rfl 1 rfl ?_
  refine cj_iconst (v := 4) hC dX6_copy_1 rfl ?_
  obtain ⟨x1, e1, h⟩ := cb_l h
  refine cj_callSi (As := [.int p1, .int 4]) hC cs_X6_77 (c_X6_isOff l g p1 4 M e1.symm) (by decide) rfl rfl (Nat.le_of_ble_eq_true rfl) dX6_copy_2 ?_
  refine cj_if_ne (tgt := 16) hC dX6_copy_5 (by decide) (fun c1 => ?_) (fun c1 => ?_)
  · replace h := cb_F c1 h
    refine cj_bipush (v := (-2)) hC dX6_copy_16 rfl ?_
    obtain ⟨rfl, rfl⟩ := cb_i2 h
    exact cj_iret hC dX6_copy_18
  · replace h := cb_T c1 h
    refine cj_iload_n hC dX6_copy_8 rfl 3 rfl ?_
    refine cj_iconst (v := 4) hC dX6_copy_9 rfl ?_
    obtain ⟨x2, e2, h⟩ := cb_l h
    refine cj_callSi (As := [.int p3, .int 4]) hC cs_X6_77 (c_X6_isOff l g p3 4 M e2.symm) (by decide) rfl rfl (Nat.le_of_ble_eq_true rfl) dX6_copy_10 ?_
    refine cj_if_eq (tgt := 19) hC dX6_copy_13 (by decide) (fun c2 => ?_) (fun c2 => ?_)
    · replace h := cb_T c2 h
      refine cj_aload_n hC dX6_copy_19 rfl 0 rfl ?_
      refine cj_get (v := .ref (g.2.1 2)) hC fa_X6_43 cx_l0_ (cx_e0 g _) rfl dX6_copy_20 ?_
      refine cj_iload_n hC dX6_copy_23 rfl 1 rfl ?_
      obtain ⟨i1, h⟩ := cb_g h
      refine cj_aald (t0 := 2) (a := g.2.1 (42 + p1.toNatClampNeg)) hC cx_l2_ (cx_e2 g _) rfl rfl i1 rfl dX6_copy_24 ?_
      refine cj_astore (lv' := [(6, .ref (g.2.1 (42 + p1.toNatClampNeg))), (0, .ref (g.2.1 0)), (1, .int p1), (2, .int p2), (3, .int p3), (4, .int p4), (5, .int p5)]) hC dX6_copy_25 (by decide) rfl ?_
      refine cj_aload_n hC dX6_copy_27 rfl 1 rfl ?_
      refine cj_get (v := .ref (g.2.1 2)) hC fa_X6_43 cx_l0_ (cx_e0 g _) rfl dX6_copy_28 ?_
      refine cj_iload_n hC dX6_copy_31 rfl 4 rfl ?_
      obtain ⟨i2, h⟩ := cb_g h
      refine cj_aald (t0 := 2) (a := g.2.1 (42 + p3.toNatClampNeg)) hC cx_l2_ (cx_e2 g _) rfl rfl i2 rfl dX6_copy_32 ?_
      refine cj_astore (lv' := [(7, .ref (g.2.1 (42 + p3.toNatClampNeg))), (6, .ref (g.2.1 (42 + p1.toNatClampNeg))), (0, .ref (g.2.1 0)), (1, .int p1), (2, .int p2), (3, .int p3), (4, .int p4), (5, .int p5)]) hC dX6_copy_33 (by decide) rfl ?_
      refine cj_aload hC dX6_copy_35 1 rfl ?_
      obtain ⟨x3, e3, h⟩ := cb_l h
      refine cj_callVi (As := []) hC cv_X6_119 (cx_l4 (vp_lt i1) (by decide)) (cx_sheet (vp_lt i1) g _) rfl (c_X3_isLost l g p1.toNatClampNeg (vp_lt i1) M e3.symm) (by decide) rfl rfl (Nat.le_of_ble_eq_true rfl) dX6_copy_37 ?_
      obtain ⟨k1, ek1, h⟩ := cb_l h
      have hk1 : ∀ (u9 : Unit), k1 u9 = some (rr, Mr) → cb_J cx g γ 8 M 51 [(0, .ref (g.2.1 0))] [] := by
        intro u9 h
        replace h := cb_k1 ek1 h
        refine cj_aload_n hC dX6_copy_51 rfl 0 rfl ?_
        refine cj_iconst (v := 1) hC dX6_copy_52 rfl ?_
        obtain ⟨x4, M1, e4, h⟩ := cb_l2 h
        refine cj_callVi (As := [.int 1]) hC cv_X6_123 cx_l0_ (cx_e0 g _) rfl (c_X6_found l g 1 M e4.symm) (by decide) rfl rfl (Nat.le_of_ble_eq_true rfl) dX6_copy_53 ?_
        obtain ⟨rfl, rfl⟩ := cb_i2 h
        exact cj_iret hC dX6_copy_56
      refine cj_if_ne (tgt := 51) hC dX6_copy_40 (by decide) (fun c3 => ?_) (fun c3 => ?_)
      · replace h := cb_F c3 h
        exact cj_pick [2] rfl (hk1 _ h)
      · replace h := cb_T c3 h
        refine cj_aload hC dX6_copy_43 0 rfl ?_
        obtain ⟨x5, e5, h⟩ := cb_l h
        refine cj_callVi (As := []) hC cv_X6_119 (cx_l4 (vp_lt i2) (by decide)) (cx_sheet (vp_lt i2) g _) rfl (c_X3_isLost l g p3.toNatClampNeg (vp_lt i2) M e5.symm) (by decide) rfl rfl (Nat.le_of_ble_eq_true rfl) dX6_copy_45 ?_
        refine cj_if_eq (tgt := 57) hC dX6_copy_48 (by decide) (fun c4 => ?_) (fun c4 => ?_)
        · replace h := cb_T c4 h
          refine cj_aload hC dX6_copy_57 1 rfl ?_
          refine cj_get (v := .int (M (42 + p1.toNatClampNeg) 1)) hC fa_X6_265 (cx_l4 (vp_lt i1) (by decide)) (cx_sheet (vp_lt i1) g _) rfl dX6_copy_59 ?_
          refine cj_aload hC dX6_copy_62 0 rfl ?_
          refine cj_get (v := .int (M (42 + p3.toNatClampNeg) 1)) hC fa_X6_265 (cx_l4 (vp_lt i2) (by decide)) (cx_sheet (vp_lt i2) g _) rfl dX6_copy_64 ?_
          refine cj_icmp_eq (tgt := 76) hC dX6_copy_67 (by decide) (fun c5 => ?_) (fun c5 => ?_)
          · replace h := cb_T c5 h
            refine cj_aload hC dX6_copy_76 1 rfl ?_
            refine cj_iload_n hC dX6_copy_78 rfl 4 rfl ?_
            refine cj_iload hC dX6_copy_79 7 rfl ?_
            obtain ⟨x6, e6, h⟩ := cb_l h
            refine cj_callVi (As := [.int p2, .int p5]) hC cv_X6_268 (cx_l4 (vp_lt i1) (by decide)) (cx_sheet (vp_lt i1) g _) rfl (c_X3_hasRun l g p1.toNatClampNeg (vp_lt i1) p2 p5 M e6.symm) (by decide) rfl rfl (Nat.le_of_ble_eq_true rfl) dX6_copy_81 ?_
            obtain ⟨k2, ek2, h⟩ := cb_l h
            have hk2 : ∀ (u9 : Unit), k2 u9 = some (rr, Mr) → cb_J cx g γ 8 M 99 [(0, .ref (g.2.1 0))] [] := by
              intro u9 h
              replace h := cb_k1 ek2 h
              refine cj_aload_n hC dX6_copy_99 rfl 0 rfl ?_
              refine cj_iconst (v := 2) hC dX6_copy_100 rfl ?_
              obtain ⟨x7, M2, e7, h⟩ := cb_l2 h
              refine cj_callVi (As := [.int 2]) hC cv_X6_123 cx_l0_ (cx_e0 g _) rfl (c_X6_found l g 2 M e7.symm) (by decide) rfl rfl (Nat.le_of_ble_eq_true rfl) dX6_copy_101 ?_
              obtain ⟨rfl, rfl⟩ := cb_i2 h
              exact cj_iret hC dX6_copy_104
            refine cj_if_eq (tgt := 99) hC dX6_copy_84 (by decide) (fun c6 => ?_) (fun c6 => ?_)
            · replace h := cb_T c6 h
              exact cj_pick [2] rfl (hk2 _ h)
            · replace h := cb_F c6 h
              refine cj_aload hC dX6_copy_87 0 rfl ?_
              refine cj_iload hC dX6_copy_89 6 rfl ?_
              refine cj_iload hC dX6_copy_91 7 rfl ?_
              obtain ⟨x8, e8, h⟩ := cb_l h
              refine cj_callVi (As := [.int p4, .int p5]) hC cv_X6_268 (cx_l4 (vp_lt i2) (by decide)) (cx_sheet (vp_lt i2) g _) rfl (c_X3_hasRun l g p3.toNatClampNeg (vp_lt i2) p4 p5 M e8.symm) (by decide) rfl rfl (Nat.le_of_ble_eq_true rfl) dX6_copy_93 ?_
              refine cj_if_ne (tgt := 105) hC dX6_copy_96 (by decide) (fun c7 => ?_) (fun c7 => ?_)
              · replace h := cb_F c7 h
                refine cj_aload hC dX6_copy_105 1 rfl ?_
                refine cj_get (v := .ref (g.2.1 (46 + p1.toNatClampNeg))) hC fa_X6_271 (cx_l4 (vp_lt i1) (by decide)) (cx_sheet (vp_lt i1) g _) rfl dX6_copy_107 ?_
                refine cj_iload_n hC dX6_copy_110 rfl 4 rfl ?_
                refine cj_aload hC dX6_copy_111 0 rfl ?_
                refine cj_get (v := .ref (g.2.1 (46 + p3.toNatClampNeg))) hC fa_X6_271 (cx_l4 (vp_lt i2) (by decide)) (cx_sheet (vp_lt i2) g _) rfl dX6_copy_113 ?_
                refine cj_iload hC dX6_copy_116 6 rfl ?_
                refine cj_iload hC dX6_copy_118 7 rfl ?_
                obtain ⟨i3, h⟩ := cb_gp h
                obtain ⟨M3, eM3, h⟩ := cb_l h
                refine cj_copy hC wd_795 wd_534 wd_533 wd_79 (cx_l4 (vp_lt i1) (by decide)) (cx_l4 (vp_lt i2) (by decide)) (cx_sitems (vp_lt i1) g) (cx_sitems (vp_lt i2) g) (cx_t0 g) i3 eM3 (by decide) (Nat.le_of_ble_eq_true rfl) dX6_copy_120 ?_
                refine cj_iconst (v := 1) hC dX6_copy_123 rfl ?_
                obtain ⟨rfl, rfl⟩ := cb_i2 h
                exact cj_iret hC dX6_copy_124
              · replace h := cb_T c7 h
                exact cj_pick [2] rfl (hk2 _ h)
          · replace h := cb_F c5 h
            refine cj_aload_n hC dX6_copy_70 rfl 2 rfl ?_
            refine cj_iconst (v := 4) hC dX6_copy_71 rfl ?_
            obtain ⟨x9, M4, e9, h⟩ := cb_l2 h
            refine cj_callVi (As := [.int 4]) hC cv_X6_123 cx_l0_ (cx_e0 g _) rfl (c_X6_found l g 4 M e9.symm) (by decide) rfl rfl (Nat.le_of_ble_eq_true rfl) dX6_copy_72 ?_
            obtain ⟨rfl, rfl⟩ := cb_i2 h
            exact cj_iret hC dX6_copy_75
        · replace h := cb_F c4 h
          exact cj_pick [2] rfl (hk1 _ h)
    · replace h := cb_F c2 h
      refine cj_bipush (v := (-2)) hC dX6_copy_16 rfl ?_
      obtain ⟨rfl, rfl⟩ := cb_i2 h
      exact cj_iret hC dX6_copy_18
def f_X6_write_L63 : Nat → Nat → Int32 → Int32 → Int32 → cb_Mem → Option (cb_Mem)
    | 0, _, _, _, _, _ => none
    | n + 1, j3, v1, v4, v5, M =>
      if v4 ≤ v5 then
      some M
      else
      (f_X5_stateOf v1 v5 M).bind fun x1 =>
      (f_X3_put j3 v5 x1 M).bind fun M1 =>
      f_X6_write_L63 n j3 v1 v4 (v5 + 1) M1
def f_X6_write (p1 : Int32) (p2 : Int32) (M : cb_Mem) : Option (Int32 × cb_Mem) :=
  cb_let (f_X6_isOff p1 40) fun x1 =>
  if x1 = 0 then
  cb_let (f_X6_isOff p2 4) fun x2 =>
  if x2 = 0 then
  if cb_in p2 4 = true then
  cb_let (f_X3_isLost p2.toNatClampNeg M) fun x3 =>
  if x3 = 0 then
  (f_X6_walkAsItIs  M).bind fun M1 =>
  cb_let ((cb_min (M1 (42 + p2.toNatClampNeg) 2) (M1 3 6))) fun x4 =>
  (f_X6_write_L63 cb_fuel p2.toNatClampNeg p1 x4 0 M1).bind fun M2 =>
  some (x4, M2)
  else
  cb_let2 (f_X6_found 1 M) fun x5 M3 =>
  some (x5, M3)
  else none
  else
  some (((-2) : Int32), M)
  else
  some (((-2) : Int32), M)
set_option maxRecDepth 100000 in
set_option maxHeartbeats 4000000 in
theorem l_X6_write_L63 {l : Launch} {g : cb_Geo} {γ : cb_Gam} {rr : Int32} {Mr : cb_Mem} (hC : cb_C cx g γ RX6 cX6_write 6 (some .int) 4 l (cb_Qi cx g rr Mr)) (j3 : Nat) (hj3_ : j3 < 4) (v1 : Int32) (v4 : Int32) : ∀ (n : Nat) (v5 : Int32) (M : cb_Mem) (o : (cb_Mem)), f_X6_write_L63 n j3 v1 v4 v5 M = some o → (∀ (M' : cb_Mem), o = M' → cb_J cx g γ 6 M' 96 [(4, .int v4)] []) → cb_J cx g γ 6 M 63 [(0, .ref (g.2.1 0)), (1, .int v1), (3, .ref (g.2.1 (42 + j3))), (4, .int v4), (5, .int v5)] [] := by
  intro n
  induction n with
  | zero =>
    intro v5 M o h
    cases h
  | succ n ih =>
    intro v5 M o h hexit
    unfold f_X6_write_L63 at h
    refine cj_iload hC dX6_write_63 4 rfl ?_
    refine cj_iload hC dX6_write_65 3 rfl ?_
    refine cj_icmp_ge (tgt := 96) hC dX6_write_67 (by decide) (fun c1 => ?_) (fun c1 => ?_)
    · replace h := cb_T c1 h
      obtain rfl := Option.some.inj h
      exact cj_pick [3] rfl (hexit _ rfl)
    · replace h := cb_F c1 h
      refine cj_aload_n hC dX6_write_70 rfl 2 rfl ?_
      refine cj_iload hC dX6_write_71 4 rfl ?_
      refine cj_aload_n hC dX6_write_73 rfl 0 rfl ?_
      refine cj_get (v := .ref (g.2.1 4)) hC fa_X6_57 cx_l0_ (cx_e0 g _) rfl dX6_write_74 ?_
      refine cj_aload_n hC dX6_write_77 rfl 0 rfl ?_
      refine cj_get (v := .ref (g.2.1 3)) hC fa_X6_50 cx_l0_ (cx_e0 g _) rfl dX6_write_78 ?_
      refine cj_iload_n hC dX6_write_81 rfl 1 rfl ?_
      refine cj_iload hC dX6_write_82 4 rfl ?_
      obtain ⟨x1, e1, h⟩ := cb_b h
      refine cj_callVi (As := [.ref (g.2.1 3), .int v1, .int v5]) hC cv_X6_139 cx_l4_ (cx_e4 g _) rfl (c_X5_stateOf l g v1 v5 M e1) (by decide) rfl rfl (Nat.le_of_ble_eq_true rfl) dX6_write_84 ?_
      obtain ⟨M1, e2, h⟩ := cb_b h
      refine cj_callVv (As := [.int v5, .int x1]) hC cv_X6_261 (cx_l4 hj3_ (by decide)) (cx_sheet hj3_ g _) rfl (c_X3_put l g j3 hj3_ v5 x1 M e2) (by decide) rfl rfl (Nat.le_of_ble_eq_true rfl) dX6_write_87 ?_
      refine cj_iinc (lv' := [(5, .int (v5 + 1)), (0, .ref (g.2.1 0)), (1, .int v1), (3, .ref (g.2.1 (42 + j3))), (4, .int v4)]) hC dX6_write_90 (q := 4) rfl rfl (by decide) rfl ?_
      refine cj_goto (tgt := 63) hC dX6_write_93 (by decide) ?_
      exact cj_pick [1, 2, 3, 4, 0] rfl (ih _ _ _ h hexit)
set_option maxRecDepth 100000 in
set_option maxHeartbeats 4000000 in
theorem c_X6_write (l : Launch) (g : cb_Geo) (p1 : Int32) (p2 : Int32) (M : cb_Mem) {rr : Int32} {Mr : cb_Mem} (h : f_X6_write p1 p2 M = some (rr, Mr)) : Met l yX6_write (.code yX6_write cX6_write 6 (some .int) :: cb_ws) (cb_rm 4) (cb_Pc cx g [.ref (g.2.1 0), .int p1, .int p2] M) (cb_Qi cx g rr Mr) 0 0 (cb_A cx g) := by
  refine cb_met (by decide) wd_799 (Nat.le_of_ble_eq_true rfl) (fun γ hC => ?_)
  replace hC : cb_C cx g γ RX6 cX6_write 6 (some .int) 4 l (cb_Qi cx g rr Mr) := hC
  show cb_J cx g γ 6 M 0 [(0, .ref (g.2.1 0)), (1, .int p1), (2, .int p2)] []
  unfold f_X6_write at h
  refine cj_iload_n hC dX6_write_0 rfl 1 rfl ?_
  refine cj_bipush (v := 40) hC dX6_write_1 rfl ?_
  obtain ⟨x1, e1, h⟩ := cb_l h
  refine cj_callSi (As := [.int p1, .int 40]) hC cs_X6_77 (c_X6_isOff l g p1 40 M e1.symm) (by decide) rfl rfl (Nat.le_of_ble_eq_true rfl) dX6_write_3 ?_
  refine cj_if_ne (tgt := 17) hC dX6_write_6 (by decide) (fun c1 => ?_) (fun c1 => ?_)
  · replace h := cb_F c1 h
    refine cj_bipush (v := (-2)) hC dX6_write_17 rfl ?_
    obtain ⟨rfl, rfl⟩ := cb_i2 h
    exact cj_iret hC dX6_write_19
  · replace h := cb_T c1 h
    refine cj_iload_n hC dX6_write_9 rfl 2 rfl ?_
    refine cj_iconst (v := 4) hC dX6_write_10 rfl ?_
    obtain ⟨x2, e2, h⟩ := cb_l h
    refine cj_callSi (As := [.int p2, .int 4]) hC cs_X6_77 (c_X6_isOff l g p2 4 M e2.symm) (by decide) rfl rfl (Nat.le_of_ble_eq_true rfl) dX6_write_11 ?_
    refine cj_if_eq (tgt := 20) hC dX6_write_14 (by decide) (fun c2 => ?_) (fun c2 => ?_)
    · replace h := cb_T c2 h
      refine cj_aload_n hC dX6_write_20 rfl 0 rfl ?_
      refine cj_get (v := .ref (g.2.1 2)) hC fa_X6_43 cx_l0_ (cx_e0 g _) rfl dX6_write_21 ?_
      refine cj_iload_n hC dX6_write_24 rfl 2 rfl ?_
      obtain ⟨i1, h⟩ := cb_g h
      refine cj_aald (t0 := 2) (a := g.2.1 (42 + p2.toNatClampNeg)) hC cx_l2_ (cx_e2 g _) rfl rfl i1 rfl dX6_write_25 ?_
      refine cj_astore_n (lv' := [(3, .ref (g.2.1 (42 + p2.toNatClampNeg))), (0, .ref (g.2.1 0)), (1, .int p1), (2, .int p2)]) hC dX6_write_26 rfl (by decide) rfl ?_
      refine cj_aload_n hC dX6_write_27 rfl 0 rfl ?_
      obtain ⟨x3, e3, h⟩ := cb_l h
      refine cj_callVi (As := []) hC cv_X6_119 (cx_l4 (vp_lt i1) (by decide)) (cx_sheet (vp_lt i1) g _) rfl (c_X3_isLost l g p2.toNatClampNeg (vp_lt i1) M e3.symm) (by decide) rfl rfl (Nat.le_of_ble_eq_true rfl) dX6_write_28 ?_
      refine cj_if_eq (tgt := 40) hC dX6_write_31 (by decide) (fun c3 => ?_) (fun c3 => ?_)
      · replace h := cb_T c3 h
        refine cj_aload_n hC dX6_write_40 rfl 1 rfl ?_
        obtain ⟨M1, e4, h⟩ := cb_b h
        refine cj_callVv (As := []) hC cv_X6_136 cx_l0_ (cx_e0 g _) rfl (c_X6_walkAsItIs l g  M e4) (by decide) rfl rfl (Nat.le_of_ble_eq_true rfl) dX6_write_41 ?_
        refine cj_aload_n hC dX6_write_44 rfl 0 rfl ?_
        refine cj_get (v := .int (M1 (42 + p2.toNatClampNeg) 2)) hC fa_X6_126 (cx_l4 (vp_lt i1) (by decide)) (cx_sheet (vp_lt i1) g _) rfl dX6_write_45 ?_
        refine cj_aload_n hC dX6_write_48 rfl 1 rfl ?_
        refine cj_get (v := .ref (g.2.1 3)) hC fa_X6_50 cx_l0_ (cx_e0 g _) rfl dX6_write_49 ?_
        refine cj_get (v := .int (M1 3 6)) hC fa_X6_249 cx_l3_ (cx_e3 g _) rfl dX6_write_52 ?_
        refine cj_min hC wd_661 wd_382 wd_68 wd_383 (by decide) (Nat.le_of_ble_eq_true rfl) dX6_write_55 ?_
        obtain ⟨x4, ex4, h⟩ := cb_l h
        refine cj_topi ex4 ?_
        refine cj_istore (lv' := [(4, .int x4), (3, .ref (g.2.1 (42 + p2.toNatClampNeg))), (0, .ref (g.2.1 0)), (1, .int p1), (2, .int p2)]) hC dX6_write_58 (by decide) rfl ?_
        refine cj_iconst (v := 0) hC dX6_write_60 rfl ?_
        refine cj_istore (lv' := [(5, .int 0), (4, .int x4), (3, .ref (g.2.1 (42 + p2.toNatClampNeg))), (0, .ref (g.2.1 0)), (1, .int p1), (2, .int p2)]) hC dX6_write_61 (by decide) rfl ?_
        obtain ⟨M2, e5, h⟩ := cb_b h
        refine cj_pick [3, 4, 2, 1, 0] rfl ?_
        refine l_X6_write_L63 hC p2.toNatClampNeg (vp_lt i1) p1 x4 cb_fuel _ _ _ e5 (fun ze5 hz => ?_)
        obtain rfl := hz
        refine cj_iload hC dX6_write_96 0 rfl ?_
        obtain ⟨rfl, rfl⟩ := cb_i2 h
        exact cj_iret hC dX6_write_98
      · replace h := cb_F c3 h
        refine cj_aload_n hC dX6_write_34 rfl 1 rfl ?_
        refine cj_iconst (v := 1) hC dX6_write_35 rfl ?_
        obtain ⟨x5, M3, e6, h⟩ := cb_l2 h
        refine cj_callVi (As := [.int 1]) hC cv_X6_123 cx_l0_ (cx_e0 g _) rfl (c_X6_found l g 1 M e6.symm) (by decide) rfl rfl (Nat.le_of_ble_eq_true rfl) dX6_write_36 ?_
        obtain ⟨rfl, rfl⟩ := cb_i2 h
        exact cj_iret hC dX6_write_39
    · replace h := cb_F c2 h
      refine cj_bipush (v := (-2)) hC dX6_write_17 rfl ?_
      obtain ⟨rfl, rfl⟩ := cb_i2 h
      exact cj_iret hC dX6_write_19
def f_X6_count (p1 : Int32) (M : cb_Mem) : Option (Int32 × cb_Mem) :=
  if p1 = 0 then
  some ((M 30 6), M)
  else
  if p1 = 1 then
  some ((M 31 6), M)
  else
  if p1 = 2 then
  some ((M 32 1), M)
  else
  if p1 = 3 then
  some ((M 33 1), M)
  else
  if p1 = 4 then
  some (((M 8 1) + (M 9 1)), M)
  else
  if p1 = 5 then
  some ((M 10 1), M)
  else
  if p1 = 6 then
  cb_bind2 (f_X6_children 39 M) fun x1 M1 =>
  some (x1, M1)
  else
  if p1 = 7 then
  some ((M 11 1), M)
  else
  if p1 = 8 then
  some ((M 0 10), M)
  else
  some (((-2) : Int32), M)
set_option maxRecDepth 100000 in
set_option maxHeartbeats 4000000 in
theorem c_X6_count (l : Launch) (g : cb_Geo) (p1 : Int32) (M : cb_Mem) {rr : Int32} {Mr : cb_Mem} (h : f_X6_count p1 M = some (rr, Mr)) : Met l yX6_count (.code yX6_count cX6_count 2 (some .int) :: cb_ws) (cb_rm 5) (cb_Pc cx g [.ref (g.2.1 0), .int p1] M) (cb_Qi cx g rr Mr) 0 0 (cb_A cx g) := by
  refine cb_met (by decide) wd_803 (Nat.le_of_ble_eq_true rfl) (fun γ hC => ?_)
  replace hC : cb_C cx g γ RX6 cX6_count 2 (some .int) 5 l (cb_Qi cx g rr Mr) := hC
  show cb_J cx g γ 2 M 0 [(0, .ref (g.2.1 0)), (1, .int p1)] []
  unfold f_X6_count at h
  refine cj_iload_n hC dX6_count_0 rfl 1 rfl ?_
  by_cases c1 : p1 = 0
  · replace h := cb_T c1 h
    refine cj_tableIn (off := 51) (tgt := 52) hC dX6_count_1 (by rw [c1]; decide) (by rw [c1]; decide) (by rw [c1]; rfl) (by decide) ?_
    refine cj_aload_n hC dX6_count_52 rfl 0 rfl ?_
    refine cj_get (v := .ref (g.2.1 1)) hC fa_X6_16 cx_l0_ (cx_e0 g _) rfl dX6_count_53 ?_
    refine cj_iconst (v := 0) hC dX6_count_56 rfl ?_
    refine cj_aald (t0 := 1) (a := g.2.1 30) hC cx_l1_ (cx_e1 g _) rfl rfl (cb_in_iff.mp (by decide)) rfl dX6_count_57 ?_
    refine cj_get (v := .int (M 30 6)) hC fa_X6_280 (by decide) (cx_text (show 0 < 2 by decide) g _) rfl dX6_count_58 ?_
    obtain ⟨rfl, rfl⟩ := cb_i2 h
    exact cj_iret hC dX6_count_61
  · replace h := cb_F c1 h
    by_cases c2 : p1 = 1
    · replace h := cb_T c2 h
      refine cj_tableIn (off := 61) (tgt := 62) hC dX6_count_1 (by rw [c2]; decide) (by rw [c2]; decide) (by rw [c2]; rfl) (by decide) ?_
      refine cj_aload_n hC dX6_count_62 rfl 0 rfl ?_
      refine cj_get (v := .ref (g.2.1 1)) hC fa_X6_16 cx_l0_ (cx_e0 g _) rfl dX6_count_63 ?_
      refine cj_iconst (v := 1) hC dX6_count_66 rfl ?_
      refine cj_aald (t0 := 1) (a := g.2.1 31) hC cx_l1_ (cx_e1 g _) rfl rfl (cb_in_iff.mp (by decide)) rfl dX6_count_67 ?_
      refine cj_get (v := .int (M 31 6)) hC fa_X6_280 (by decide) (cx_text (show 1 < 2 by decide) g _) rfl dX6_count_68 ?_
      obtain ⟨rfl, rfl⟩ := cb_i2 h
      exact cj_iret hC dX6_count_71
    · replace h := cb_F c2 h
      by_cases c3 : p1 = 2
      · replace h := cb_T c3 h
        refine cj_tableIn (off := 71) (tgt := 72) hC dX6_count_1 (by rw [c3]; decide) (by rw [c3]; decide) (by rw [c3]; rfl) (by decide) ?_
        refine cj_aload_n hC dX6_count_72 rfl 0 rfl ?_
        refine cj_get (v := .ref (g.2.1 1)) hC fa_X6_16 cx_l0_ (cx_e0 g _) rfl dX6_count_73 ?_
        refine cj_iconst (v := 0) hC dX6_count_76 rfl ?_
        refine cj_aald (t0 := 1) (a := g.2.1 30) hC cx_l1_ (cx_e1 g _) rfl rfl (cb_in_iff.mp (by decide)) rfl dX6_count_77 ?_
        refine cj_get (v := .ref (g.2.1 32)) hC fa_X6_283 (by decide) (cx_text (show 0 < 2 by decide) g _) rfl dX6_count_78 ?_
        refine cj_get (v := .int (M 32 1)) hC fa_X6_209 (cx_lt (cx_trow (show 0 < 2 by decide)).1) ((cx_trow (show 0 < 2 by decide)).2.2.1 g _) rfl dX6_count_81 ?_
        obtain ⟨rfl, rfl⟩ := cb_i2 h
        exact cj_iret hC dX6_count_84
      · replace h := cb_F c3 h
        by_cases c4 : p1 = 3
        · replace h := cb_T c4 h
          refine cj_tableIn (off := 84) (tgt := 85) hC dX6_count_1 (by rw [c4]; decide) (by rw [c4]; decide) (by rw [c4]; rfl) (by decide) ?_
          refine cj_aload_n hC dX6_count_85 rfl 0 rfl ?_
          refine cj_get (v := .ref (g.2.1 1)) hC fa_X6_16 cx_l0_ (cx_e0 g _) rfl dX6_count_86 ?_
          refine cj_iconst (v := 1) hC dX6_count_89 rfl ?_
          refine cj_aald (t0 := 1) (a := g.2.1 31) hC cx_l1_ (cx_e1 g _) rfl rfl (cb_in_iff.mp (by decide)) rfl dX6_count_90 ?_
          refine cj_get (v := .ref (g.2.1 33)) hC fa_X6_283 (by decide) (cx_text (show 1 < 2 by decide) g _) rfl dX6_count_91 ?_
          refine cj_get (v := .int (M 33 1)) hC fa_X6_209 (cx_lt (cx_trow (show 1 < 2 by decide)).1) ((cx_trow (show 1 < 2 by decide)).2.2.1 g _) rfl dX6_count_94 ?_
          obtain ⟨rfl, rfl⟩ := cb_i2 h
          exact cj_iret hC dX6_count_97
        · replace h := cb_F c4 h
          by_cases c5 : p1 = 4
          · replace h := cb_T c5 h
            refine cj_tableIn (off := 97) (tgt := 98) hC dX6_count_1 (by rw [c5]; decide) (by rw [c5]; decide) (by rw [c5]; rfl) (by decide) ?_
            refine cj_aload_n hC dX6_count_98 rfl 0 rfl ?_
            refine cj_get (v := .ref (g.2.1 8)) hC fa_X6_27 cx_l0_ (cx_e0 g _) rfl dX6_count_99 ?_
            refine cj_get (v := .int (M 8 1)) hC fa_X6_209 (cx_lt cx_row8.1) (cx_row8.2.2.1 g _) rfl dX6_count_102 ?_
            refine cj_aload_n hC dX6_count_105 rfl 0 rfl ?_
            refine cj_get (v := .ref (g.2.1 9)) hC fa_X6_31 cx_l0_ (cx_e0 g _) rfl dX6_count_106 ?_
            refine cj_get (v := .int (M 9 1)) hC fa_X6_209 (cx_lt cx_row9.1) (cx_row9.2.2.1 g _) rfl dX6_count_109 ?_
            refine cj_iadd hC dX6_count_112 ?_
            obtain ⟨rfl, rfl⟩ := cb_i2 h
            exact cj_iret hC dX6_count_113
          · replace h := cb_F c5 h
            by_cases c6 : p1 = 5
            · replace h := cb_T c6 h
              refine cj_tableIn (off := 113) (tgt := 114) hC dX6_count_1 (by rw [c6]; decide) (by rw [c6]; decide) (by rw [c6]; rfl) (by decide) ?_
              refine cj_aload_n hC dX6_count_114 rfl 0 rfl ?_
              refine cj_get (v := .ref (g.2.1 10)) hC fa_X6_34 cx_l0_ (cx_e0 g _) rfl dX6_count_115 ?_
              refine cj_get (v := .int (M 10 1)) hC fa_X6_209 (cx_lt cx_row10.1) (cx_row10.2.2.1 g _) rfl dX6_count_118 ?_
              obtain ⟨rfl, rfl⟩ := cb_i2 h
              exact cj_iret hC dX6_count_121
            · replace h := cb_F c6 h
              by_cases c7 : p1 = 6
              · replace h := cb_T c7 h
                refine cj_tableIn (off := 121) (tgt := 122) hC dX6_count_1 (by rw [c7]; decide) (by rw [c7]; decide) (by rw [c7]; rfl) (by decide) ?_
                refine cj_aload_n hC dX6_count_122 rfl 0 rfl ?_
                refine cj_bipush (v := 39) hC dX6_count_123 rfl ?_
                obtain ⟨x1, M1, e1, h⟩ := cb_b2 h
                refine cj_callVi (As := [.int 39]) hC cv_X6_286 cx_l0_ (cx_e0 g _) rfl (c_X6_children l g 39 M e1) (by decide) rfl rfl (Nat.le_of_ble_eq_true rfl) dX6_count_125 ?_
                obtain ⟨rfl, rfl⟩ := cb_i2 h
                exact cj_iret hC dX6_count_128
              · replace h := cb_F c7 h
                by_cases c8 : p1 = 7
                · replace h := cb_T c8 h
                  refine cj_tableIn (off := 128) (tgt := 129) hC dX6_count_1 (by rw [c8]; decide) (by rw [c8]; decide) (by rw [c8]; rfl) (by decide) ?_
                  refine cj_aload_n hC dX6_count_129 rfl 0 rfl ?_
                  refine cj_get (v := .ref (g.2.1 11)) hC fa_X6_37 cx_l0_ (cx_e0 g _) rfl dX6_count_130 ?_
                  refine cj_get (v := .int (M 11 1)) hC fa_X6_209 (cx_lt cx_row11.1) (cx_row11.2.2.1 g _) rfl dX6_count_133 ?_
                  obtain ⟨rfl, rfl⟩ := cb_i2 h
                  exact cj_iret hC dX6_count_136
                · replace h := cb_F c8 h
                  by_cases c9 : p1 = 8
                  · replace h := cb_T c9 h
                    refine cj_tableIn (off := 136) (tgt := 137) hC dX6_count_1 (by rw [c9]; decide) (by rw [c9]; decide) (by rw [c9]; rfl) (by decide) ?_
                    refine cj_aload_n hC dX6_count_137 rfl 0 rfl ?_
                    refine cj_get (v := .int (M 0 10)) hC fa_X6_73 cx_l0_ (cx_e0 g _) rfl dX6_count_138 ?_
                    obtain ⟨rfl, rfl⟩ := cb_i2 h
                    exact cj_iret hC dX6_count_141
                  · replace h := cb_F c9 h
                    refine cj_tableOut (tgt := 142) hC dX6_count_1 (by have qc1 : (p1).toInt ≠ 0 := fun e => c1 (Int32.toInt_inj.mp (e.trans (by decide))); have qc2 : (p1).toInt ≠ 1 := fun e => c2 (Int32.toInt_inj.mp (e.trans (by decide))); have qc3 : (p1).toInt ≠ 2 := fun e => c3 (Int32.toInt_inj.mp (e.trans (by decide))); have qc4 : (p1).toInt ≠ 3 := fun e => c4 (Int32.toInt_inj.mp (e.trans (by decide))); have qc5 : (p1).toInt ≠ 4 := fun e => c5 (Int32.toInt_inj.mp (e.trans (by decide))); have qc6 : (p1).toInt ≠ 5 := fun e => c6 (Int32.toInt_inj.mp (e.trans (by decide))); have qc7 : (p1).toInt ≠ 6 := fun e => c7 (Int32.toInt_inj.mp (e.trans (by decide))); have qc8 : (p1).toInt ≠ 7 := fun e => c8 (Int32.toInt_inj.mp (e.trans (by decide))); have qc9 : (p1).toInt ≠ 8 := fun e => c9 (Int32.toInt_inj.mp (e.trans (by decide))); omega) (by decide) ?_
                    refine cj_bipush (v := (-2)) hC dX6_count_142 rfl ?_
                    obtain ⟨rfl, rfl⟩ := cb_i2 h
                    exact cj_iret hC dX6_count_144
def f_X6_digestHead_L60 : Nat → Int32 → Int64 → Int32 → cb_Mem → Option (Int64 × cb_Mem)
    | 0, _, _, _, _ => none
    | n + 1, v3, v4, v6, M =>
      if 3 ≤ v6 then
      some (v4, M)
      else
      cb_bind2 (f_X6_lifted v3 v6 M) fun x1 M1 =>
      cb_let ((((31 : Int64) * v4) + x1.toInt64)) fun y1 =>
      f_X6_digestHead_L60 n v3 y1 (v6 + 1) M1
def f_X6_digestHead (p1 : Int64) (p2 : Int32) (M : cb_Mem) : Option (Int64 × cb_Mem) :=
  (f_X6_head p2 0 M).bind fun x1 =>
  (f_X6_head p2 1 M).bind fun x2 =>
  cb_let ((((31 : Int64) * (((31 : Int64) * p1) + x1.toInt64)) + x2.toInt64)) fun y1 =>
  cb_bind2 (f_X6_state 9 p2 M) fun x3 M1 =>
  cb_bind2 (f_X6_state 39 p2 M1) fun x4 M2 =>
  cb_let ((((31 : Int64) * (((31 : Int64) * y1) + x3.toInt64)) + x4.toInt64)) fun y2 =>
  cb_bind2 (f_X6_digestHead_L60 cb_fuel p2 y2 0 M2) fun y3 M3 =>
  cb_bind2 (f_X6_sow p2 0 M3) fun x5 M4 =>
  cb_bind2 (f_X6_sow p2 1 M4) fun x6 M5 =>
  cb_let ((((31 : Int64) * (((31 : Int64) * y3) + x5.toInt64)) + x6.toInt64)) fun y4 =>
  cb_bind2 (f_X6_was p2 0 M5) fun x7 M6 =>
  cb_bind2 (f_X6_was p2 1 M6) fun x8 M7 =>
  cb_let ((((31 : Int64) * (((31 : Int64) * y4) + x7.toInt64)) + x8.toInt64)) fun y5 =>
  cb_bind2 (f_X6_ask p2 M7) fun x9 M8 =>
  some ((((31 : Int64) * y5) + x9.toInt64), M8)
set_option maxRecDepth 100000 in
set_option maxHeartbeats 4000000 in
theorem l_X6_digestHead_L60 {l : Launch} {g : cb_Geo} {γ : cb_Gam} {rr : Int64} {Mr : cb_Mem} (hC : cb_C cx g γ RX6 cX6_digestHead 7 (some .long) 5 l (cb_Ql cx g rr Mr)) (v3 : Int32) : ∀ (n : Nat) (v4 : Int64) (v6 : Int32) (M : cb_Mem) (o : (Int64 × cb_Mem)), f_X6_digestHead_L60 n v3 v4 v6 M = some o → (∀ (v4' : Int64) (M' : cb_Mem), o = (v4', M') → cb_J cx g γ 7 M' 89 [(0, .ref (g.2.1 0)), (3, .int v3), (4, .long v4')] []) → cb_J cx g γ 7 M 60 [(0, .ref (g.2.1 0)), (3, .int v3), (4, .long v4), (6, .int v6)] [] := by
  intro n
  induction n with
  | zero =>
    intro v4 v6 M o h
    cases h
  | succ n ih =>
    intro v4 v6 M o h hexit
    unfold f_X6_digestHead_L60 at h
    refine cj_iload hC dX6_digestHead_60 3 rfl ?_
    refine cj_iconst (v := 3) hC dX6_digestHead_62 rfl ?_
    refine cj_icmp_ge (tgt := 89) hC dX6_digestHead_63 (by decide) (fun c1 => ?_) (fun c1 => ?_)
    · replace h := cb_T c1 h
      obtain rfl := Option.some.inj h
      exact cj_pick [0, 1, 2] rfl (hexit _ _ rfl)
    · replace h := cb_F c1 h
      refine cj_ldc2_w (v := 31) hC wd_810 dX6_digestHead_66 ?_
      refine cj_lload hC dX6_digestHead_69 2 rfl ?_
      refine cj_lmul hC dX6_digestHead_71 ?_
      refine cj_aload_n hC dX6_digestHead_72 rfl 0 rfl ?_
      refine cj_iload_n hC dX6_digestHead_73 rfl 1 rfl ?_
      refine cj_iload hC dX6_digestHead_74 3 rfl ?_
      obtain ⟨x1, M1, e1, h⟩ := cb_b2 h
      refine cj_callVi (As := [.int v3, .int v6]) hC cv_X6_326 cx_l0_ (cx_e0 g _) rfl (c_X6_lifted l g v3 v6 M e1) (by decide) rfl rfl (Nat.le_of_ble_eq_true rfl) dX6_digestHead_76 ?_
      refine cj_i2l hC dX6_digestHead_79 ?_
      refine cj_ladd hC dX6_digestHead_80 ?_
      obtain ⟨y1, ey1, h⟩ := cb_l h
      refine cj_topl ey1 ?_
      refine cj_lstore (lv' := [(4, .long y1), (0, .ref (g.2.1 0)), (3, .int v3), (6, .int v6)]) hC dX6_digestHead_81 (by decide) rfl ?_
      refine cj_iinc (lv' := [(6, .int (v6 + 1)), (4, .long y1), (0, .ref (g.2.1 0)), (3, .int v3)]) hC dX6_digestHead_83 (q := 3) rfl rfl (by decide) rfl ?_
      refine cj_goto (tgt := 60) hC dX6_digestHead_86 (by decide) ?_
      exact cj_pick [2, 3, 1, 0] rfl (ih _ _ _ _ h hexit)
set_option maxRecDepth 100000 in
set_option maxHeartbeats 4000000 in
theorem c_X6_digestHead (l : Launch) (g : cb_Geo) (p1 : Int64) (p2 : Int32) (M : cb_Mem) {rr : Int64} {Mr : cb_Mem} (h : f_X6_digestHead p1 p2 M = some (rr, Mr)) : Met l yX6_digestHead (.code yX6_digestHead cX6_digestHead 7 (some .long) :: cb_ws) (cb_rm 5) (cb_Pc cx g [.ref (g.2.1 0), .long p1, .int p2] M) (cb_Ql cx g rr Mr) 0 0 (cb_A cx g) := by
  refine cb_met (by decide) wd_816 (Nat.le_of_ble_eq_true rfl) (fun γ hC => ?_)
  replace hC : cb_C cx g γ RX6 cX6_digestHead 7 (some .long) 5 l (cb_Ql cx g rr Mr) := hC
  show cb_J cx g γ 7 M 0 [(0, .ref (g.2.1 0)), (1, .long p1), (3, .int p2)] []
  unfold f_X6_digestHead at h
  refine cj_ldc2_w (v := 31) hC wd_810 dX6_digestHead_0 ?_
  refine cj_ldc2_w (v := 31) hC wd_810 dX6_digestHead_3 ?_
  refine cj_lload_n hC dX6_digestHead_6 rfl 1 rfl ?_
  refine cj_lmul hC dX6_digestHead_7 ?_
  refine cj_aload_n hC dX6_digestHead_8 rfl 0 rfl ?_
  refine cj_iload_n hC dX6_digestHead_9 rfl 2 rfl ?_
  refine cj_iconst (v := 0) hC dX6_digestHead_10 rfl ?_
  obtain ⟨x1, e1, h⟩ := cb_b h
  refine cj_callVi (As := [.int p2, .int 0]) hC cv_X6_320 cx_l0_ (cx_e0 g _) rfl (c_X6_head l g p2 0 M e1) (by decide) rfl rfl (Nat.le_of_ble_eq_true rfl) dX6_digestHead_11 ?_
  refine cj_i2l hC dX6_digestHead_14 ?_
  refine cj_ladd hC dX6_digestHead_15 ?_
  refine cj_lmul hC dX6_digestHead_16 ?_
  refine cj_aload_n hC dX6_digestHead_17 rfl 0 rfl ?_
  refine cj_iload_n hC dX6_digestHead_18 rfl 2 rfl ?_
  refine cj_iconst (v := 1) hC dX6_digestHead_19 rfl ?_
  obtain ⟨x2, e2, h⟩ := cb_b h
  refine cj_callVi (As := [.int p2, .int 1]) hC cv_X6_320 cx_l0_ (cx_e0 g _) rfl (c_X6_head l g p2 1 M e2) (by decide) rfl rfl (Nat.le_of_ble_eq_true rfl) dX6_digestHead_20 ?_
  refine cj_i2l hC dX6_digestHead_23 ?_
  refine cj_ladd hC dX6_digestHead_24 ?_
  obtain ⟨y1, ey1, h⟩ := cb_l h
  refine cj_topl ey1 ?_
  refine cj_lstore (lv' := [(4, .long y1), (0, .ref (g.2.1 0)), (1, .long p1), (3, .int p2)]) hC dX6_digestHead_25 (by decide) rfl ?_
  refine cj_ldc2_w (v := 31) hC wd_810 dX6_digestHead_27 ?_
  refine cj_ldc2_w (v := 31) hC wd_810 dX6_digestHead_30 ?_
  refine cj_lload hC dX6_digestHead_33 0 rfl ?_
  refine cj_lmul hC dX6_digestHead_35 ?_
  refine cj_aload_n hC dX6_digestHead_36 rfl 1 rfl ?_
  refine cj_bipush (v := 9) hC dX6_digestHead_37 rfl ?_
  refine cj_iload_n hC dX6_digestHead_39 rfl 3 rfl ?_
  obtain ⟨x3, M1, e3, h⟩ := cb_b2 h
  refine cj_callVi (As := [.int 9, .int p2]) hC cv_X6_323 cx_l0_ (cx_e0 g _) rfl (c_X6_state l g 9 p2 M e3) (by decide) rfl rfl (Nat.le_of_ble_eq_true rfl) dX6_digestHead_40 ?_
  refine cj_i2l hC dX6_digestHead_43 ?_
  refine cj_ladd hC dX6_digestHead_44 ?_
  refine cj_lmul hC dX6_digestHead_45 ?_
  refine cj_aload_n hC dX6_digestHead_46 rfl 1 rfl ?_
  refine cj_bipush (v := 39) hC dX6_digestHead_47 rfl ?_
  refine cj_iload_n hC dX6_digestHead_49 rfl 3 rfl ?_
  obtain ⟨x4, M2, e4, h⟩ := cb_b2 h
  refine cj_callVi (As := [.int 39, .int p2]) hC cv_X6_323 cx_l0_ (cx_e0 g _) rfl (c_X6_state l g 39 p2 M1 e4) (by decide) rfl rfl (Nat.le_of_ble_eq_true rfl) dX6_digestHead_50 ?_
  refine cj_i2l hC dX6_digestHead_53 ?_
  refine cj_ladd hC dX6_digestHead_54 ?_
  obtain ⟨y2, ey2, h⟩ := cb_l h
  refine cj_topl ey2 ?_
  refine cj_lstore (lv' := [(4, .long y2), (0, .ref (g.2.1 0)), (1, .long p1), (3, .int p2)]) hC dX6_digestHead_55 (by decide) rfl ?_
  refine cj_iconst (v := 0) hC dX6_digestHead_57 rfl ?_
  refine cj_istore (lv' := [(6, .int 0), (4, .long y2), (0, .ref (g.2.1 0)), (1, .long p1), (3, .int p2)]) hC dX6_digestHead_58 (by decide) rfl ?_
  obtain ⟨y3, M3, e5, h⟩ := cb_b2 h
  refine cj_pick [2, 4, 1, 0] rfl ?_
  refine l_X6_digestHead_L60 hC p2 cb_fuel _ _ _ _ e5 (fun ze50 ze51 hz => ?_)
  obtain ⟨rfl, rfl⟩ := cb_p2 hz
  refine cj_ldc2_w (v := 31) hC wd_810 dX6_digestHead_89 ?_
  refine cj_ldc2_w (v := 31) hC wd_810 dX6_digestHead_92 ?_
  refine cj_lload hC dX6_digestHead_95 2 rfl ?_
  refine cj_lmul hC dX6_digestHead_97 ?_
  refine cj_aload_n hC dX6_digestHead_98 rfl 0 rfl ?_
  refine cj_iload_n hC dX6_digestHead_99 rfl 1 rfl ?_
  refine cj_iconst (v := 0) hC dX6_digestHead_100 rfl ?_
  obtain ⟨x5, M4, e6, h⟩ := cb_b2 h
  refine cj_callVi (As := [.int p2, .int 0]) hC cv_X6_329 cx_l0_ (cx_e0 g _) rfl (c_X6_sow l g p2 0 M3 e6) (by decide) rfl rfl (Nat.le_of_ble_eq_true rfl) dX6_digestHead_101 ?_
  refine cj_i2l hC dX6_digestHead_104 ?_
  refine cj_ladd hC dX6_digestHead_105 ?_
  refine cj_lmul hC dX6_digestHead_106 ?_
  refine cj_aload_n hC dX6_digestHead_107 rfl 0 rfl ?_
  refine cj_iload_n hC dX6_digestHead_108 rfl 1 rfl ?_
  refine cj_iconst (v := 1) hC dX6_digestHead_109 rfl ?_
  obtain ⟨x6, M5, e7, h⟩ := cb_b2 h
  refine cj_callVi (As := [.int p2, .int 1]) hC cv_X6_329 cx_l0_ (cx_e0 g _) rfl (c_X6_sow l g p2 1 M4 e7) (by decide) rfl rfl (Nat.le_of_ble_eq_true rfl) dX6_digestHead_110 ?_
  refine cj_i2l hC dX6_digestHead_113 ?_
  refine cj_ladd hC dX6_digestHead_114 ?_
  obtain ⟨y4, ey4, h⟩ := cb_l h
  refine cj_topl ey4 ?_
  refine cj_lstore (lv' := [(4, .long y4), (0, .ref (g.2.1 0)), (3, .int p2)]) hC dX6_digestHead_115 (by decide) rfl ?_
  refine cj_ldc2_w (v := 31) hC wd_810 dX6_digestHead_117 ?_
  refine cj_ldc2_w (v := 31) hC wd_810 dX6_digestHead_120 ?_
  refine cj_lload hC dX6_digestHead_123 0 rfl ?_
  refine cj_lmul hC dX6_digestHead_125 ?_
  refine cj_aload_n hC dX6_digestHead_126 rfl 1 rfl ?_
  refine cj_iload_n hC dX6_digestHead_127 rfl 2 rfl ?_
  refine cj_iconst (v := 0) hC dX6_digestHead_128 rfl ?_
  obtain ⟨x7, M6, e8, h⟩ := cb_b2 h
  refine cj_callVi (As := [.int p2, .int 0]) hC cv_X6_332 cx_l0_ (cx_e0 g _) rfl (c_X6_was l g p2 0 M5 e8) (by decide) rfl rfl (Nat.le_of_ble_eq_true rfl) dX6_digestHead_129 ?_
  refine cj_i2l hC dX6_digestHead_132 ?_
  refine cj_ladd hC dX6_digestHead_133 ?_
  refine cj_lmul hC dX6_digestHead_134 ?_
  refine cj_aload_n hC dX6_digestHead_135 rfl 1 rfl ?_
  refine cj_iload_n hC dX6_digestHead_136 rfl 2 rfl ?_
  refine cj_iconst (v := 1) hC dX6_digestHead_137 rfl ?_
  obtain ⟨x8, M7, e9, h⟩ := cb_b2 h
  refine cj_callVi (As := [.int p2, .int 1]) hC cv_X6_332 cx_l0_ (cx_e0 g _) rfl (c_X6_was l g p2 1 M6 e9) (by decide) rfl rfl (Nat.le_of_ble_eq_true rfl) dX6_digestHead_138 ?_
  refine cj_i2l hC dX6_digestHead_141 ?_
  refine cj_ladd hC dX6_digestHead_142 ?_
  obtain ⟨y5, ey5, h⟩ := cb_l h
  refine cj_topl ey5 ?_
  refine cj_lstore (lv' := [(4, .long y5), (0, .ref (g.2.1 0)), (3, .int p2)]) hC dX6_digestHead_143 (by decide) rfl ?_
  refine cj_ldc2_w (v := 31) hC wd_810 dX6_digestHead_145 ?_
  refine cj_lload hC dX6_digestHead_148 0 rfl ?_
  refine cj_lmul hC dX6_digestHead_150 ?_
  refine cj_aload_n hC dX6_digestHead_151 rfl 1 rfl ?_
  refine cj_iload_n hC dX6_digestHead_152 rfl 2 rfl ?_
  obtain ⟨x9, M8, e10, h⟩ := cb_b2 h
  refine cj_callVi (As := [.int p2]) hC cv_X6_335 cx_l0_ (cx_e0 g _) rfl (c_X6_ask l g p2 M7 e10) (by decide) rfl rfl (Nat.le_of_ble_eq_true rfl) dX6_digestHead_153 ?_
  refine cj_i2l hC dX6_digestHead_156 ?_
  refine cj_ladd hC dX6_digestHead_157 ?_
  obtain ⟨rfl, rfl⟩ := cb_i2 h
  exact cj_lret hC dX6_digestHead_158
def f_X6_digestCouple_L6 : Nat → Int32 → Int64 → Int32 → cb_Mem → Option (Int64)
    | 0, _, _, _, _ => none
    | n + 1, v3, v4, v6, M =>
      if 3 ≤ v6 then
      some v4
      else
      (f_X6_couple v3 v6 M).bind fun x1 =>
      cb_let ((((31 : Int64) * v4) + x1.toInt64)) fun y1 =>
      f_X6_digestCouple_L6 n v3 y1 (v6 + 1) M
def f_X6_digestCouple_L38 : Nat → Int32 → Int64 → Int32 → cb_Mem → Option (Int64 × cb_Mem)
    | 0, _, _, _, _ => none
    | n + 1, v3, v4, v6, M =>
      if 3 ≤ v6 then
      some (v4, M)
      else
      cb_bind2 (f_X6_gets v3 v6 M) fun x1 M1 =>
      cb_let ((((31 : Int64) * v4) + x1.toInt64)) fun y1 =>
      f_X6_digestCouple_L38 n v3 y1 (v6 + 1) M1
def f_X6_digestCouple (p1 : Int64) (p2 : Int32) (M : cb_Mem) : Option (Int64 × cb_Mem) :=
  (f_X6_digestCouple_L6 cb_fuel p2 p1 0 M).bind fun y1 =>
  cb_bind2 (f_X6_digestCouple_L38 cb_fuel p2 y1 0 M) fun y2 M1 =>
  cb_bind2 (f_X6_keep p2 (-1) M1) fun x1 M2 =>
  cb_bind2 (f_X6_keep p2 0 M2) fun x2 M3 =>
  cb_let ((((31 : Int64) * (((31 : Int64) * y2) + x1.toInt64)) + x2.toInt64)) fun y3 =>
  cb_bind2 (f_X6_come p2 0 M3) fun x3 M4 =>
  cb_bind2 (f_X6_come p2 1 M4) fun x4 M5 =>
  cb_let ((((31 : Int64) * (((31 : Int64) * y3) + x3.toInt64)) + x4.toInt64)) fun y4 =>
  cb_bind2 (f_X6_chill 5 7 p2 0 M5) fun y5 M6 =>
  cb_bind2 (f_X6_chill 5 7 p2 1 M6) fun y6 M7 =>
  some ((((31 : Int64) * (((31 : Int64) * y4) + y5)) + y6), M7)
set_option maxRecDepth 100000 in
set_option maxHeartbeats 4000000 in
theorem l_X6_digestCouple_L6 {l : Launch} {g : cb_Geo} {γ : cb_Gam} {rr : Int64} {Mr : cb_Mem} (hC : cb_C cx g γ RX6 cX6_digestCouple 7 (some .long) 5 l (cb_Ql cx g rr Mr)) (v3 : Int32) (M : cb_Mem) : ∀ (n : Nat) (v4 : Int64) (v6 : Int32) (o : (Int64)), f_X6_digestCouple_L6 n v3 v4 v6 M = some o → (∀ (v4' : Int64), o = v4' → cb_J cx g γ 7 M 35 [(0, .ref (g.2.1 0)), (3, .int v3), (4, .long v4')] []) → cb_J cx g γ 7 M 6 [(0, .ref (g.2.1 0)), (3, .int v3), (4, .long v4), (6, .int v6)] [] := by
  intro n
  induction n with
  | zero =>
    intro v4 v6 o h
    cases h
  | succ n ih =>
    intro v4 v6 o h hexit
    unfold f_X6_digestCouple_L6 at h
    refine cj_iload hC dX6_digestCouple_6 3 rfl ?_
    refine cj_iconst (v := 3) hC dX6_digestCouple_8 rfl ?_
    refine cj_icmp_ge (tgt := 35) hC dX6_digestCouple_9 (by decide) (fun c1 => ?_) (fun c1 => ?_)
    · replace h := cb_T c1 h
      obtain rfl := Option.some.inj h
      exact cj_pick [0, 1, 2] rfl (hexit _ rfl)
    · replace h := cb_F c1 h
      refine cj_ldc2_w (v := 31) hC wd_810 dX6_digestCouple_12 ?_
      refine cj_lload hC dX6_digestCouple_15 2 rfl ?_
      refine cj_lmul hC dX6_digestCouple_17 ?_
      refine cj_aload_n hC dX6_digestCouple_18 rfl 0 rfl ?_
      refine cj_iload_n hC dX6_digestCouple_19 rfl 1 rfl ?_
      refine cj_iload hC dX6_digestCouple_20 3 rfl ?_
      obtain ⟨x1, e1, h⟩ := cb_b h
      refine cj_callVi (As := [.int v3, .int v6]) hC cv_X6_338 cx_l0_ (cx_e0 g _) rfl (c_X6_couple l g v3 v6 M e1) (by decide) rfl rfl (Nat.le_of_ble_eq_true rfl) dX6_digestCouple_22 ?_
      refine cj_i2l hC dX6_digestCouple_25 ?_
      refine cj_ladd hC dX6_digestCouple_26 ?_
      obtain ⟨y1, ey1, h⟩ := cb_l h
      refine cj_topl ey1 ?_
      refine cj_lstore (lv' := [(4, .long y1), (0, .ref (g.2.1 0)), (3, .int v3), (6, .int v6)]) hC dX6_digestCouple_27 (by decide) rfl ?_
      refine cj_iinc (lv' := [(6, .int (v6 + 1)), (4, .long y1), (0, .ref (g.2.1 0)), (3, .int v3)]) hC dX6_digestCouple_29 (q := 3) rfl rfl (by decide) rfl ?_
      refine cj_goto (tgt := 6) hC dX6_digestCouple_32 (by decide) ?_
      exact cj_pick [2, 3, 1, 0] rfl (ih _ _ _ h hexit)
set_option maxRecDepth 100000 in
set_option maxHeartbeats 4000000 in
theorem l_X6_digestCouple_L38 {l : Launch} {g : cb_Geo} {γ : cb_Gam} {rr : Int64} {Mr : cb_Mem} (hC : cb_C cx g γ RX6 cX6_digestCouple 7 (some .long) 5 l (cb_Ql cx g rr Mr)) (v3 : Int32) : ∀ (n : Nat) (v4 : Int64) (v6 : Int32) (M : cb_Mem) (o : (Int64 × cb_Mem)), f_X6_digestCouple_L38 n v3 v4 v6 M = some o → (∀ (v4' : Int64) (M' : cb_Mem), o = (v4', M') → cb_J cx g γ 7 M' 67 [(0, .ref (g.2.1 0)), (3, .int v3), (4, .long v4')] []) → cb_J cx g γ 7 M 38 [(0, .ref (g.2.1 0)), (3, .int v3), (4, .long v4), (6, .int v6)] [] := by
  intro n
  induction n with
  | zero =>
    intro v4 v6 M o h
    cases h
  | succ n ih =>
    intro v4 v6 M o h hexit
    unfold f_X6_digestCouple_L38 at h
    refine cj_iload hC dX6_digestCouple_38 3 rfl ?_
    refine cj_iconst (v := 3) hC dX6_digestCouple_40 rfl ?_
    refine cj_icmp_ge (tgt := 67) hC dX6_digestCouple_41 (by decide) (fun c1 => ?_) (fun c1 => ?_)
    · replace h := cb_T c1 h
      obtain rfl := Option.some.inj h
      exact cj_pick [0, 1, 2] rfl (hexit _ _ rfl)
    · replace h := cb_F c1 h
      refine cj_ldc2_w (v := 31) hC wd_810 dX6_digestCouple_44 ?_
      refine cj_lload hC dX6_digestCouple_47 2 rfl ?_
      refine cj_lmul hC dX6_digestCouple_49 ?_
      refine cj_aload_n hC dX6_digestCouple_50 rfl 0 rfl ?_
      refine cj_iload_n hC dX6_digestCouple_51 rfl 1 rfl ?_
      refine cj_iload hC dX6_digestCouple_52 3 rfl ?_
      obtain ⟨x1, M1, e1, h⟩ := cb_b2 h
      refine cj_callVi (As := [.int v3, .int v6]) hC cv_X6_341 cx_l0_ (cx_e0 g _) rfl (c_X6_gets l g v3 v6 M e1) (by decide) rfl rfl (Nat.le_of_ble_eq_true rfl) dX6_digestCouple_54 ?_
      refine cj_i2l hC dX6_digestCouple_57 ?_
      refine cj_ladd hC dX6_digestCouple_58 ?_
      obtain ⟨y1, ey1, h⟩ := cb_l h
      refine cj_topl ey1 ?_
      refine cj_lstore (lv' := [(4, .long y1), (0, .ref (g.2.1 0)), (3, .int v3), (6, .int v6)]) hC dX6_digestCouple_59 (by decide) rfl ?_
      refine cj_iinc (lv' := [(6, .int (v6 + 1)), (4, .long y1), (0, .ref (g.2.1 0)), (3, .int v3)]) hC dX6_digestCouple_61 (q := 3) rfl rfl (by decide) rfl ?_
      refine cj_goto (tgt := 38) hC dX6_digestCouple_64 (by decide) ?_
      exact cj_pick [2, 3, 1, 0] rfl (ih _ _ _ _ h hexit)
set_option maxRecDepth 100000 in
set_option maxHeartbeats 4000000 in
theorem c_X6_digestCouple (l : Launch) (g : cb_Geo) (p1 : Int64) (p2 : Int32) (M : cb_Mem) {rr : Int64} {Mr : cb_Mem} (h : f_X6_digestCouple p1 p2 M = some (rr, Mr)) : Met l yX6_digestCouple (.code yX6_digestCouple cX6_digestCouple 7 (some .long) :: cb_ws) (cb_rm 5) (cb_Pc cx g [.ref (g.2.1 0), .long p1, .int p2] M) (cb_Ql cx g rr Mr) 0 0 (cb_A cx g) := by
  refine cb_met (by decide) wd_826 (Nat.le_of_ble_eq_true rfl) (fun γ hC => ?_)
  replace hC : cb_C cx g γ RX6 cX6_digestCouple 7 (some .long) 5 l (cb_Ql cx g rr Mr) := hC
  show cb_J cx g γ 7 M 0 [(0, .ref (g.2.1 0)), (1, .long p1), (3, .int p2)] []
  unfold f_X6_digestCouple at h
  refine cj_lload_n hC dX6_digestCouple_0 rfl 1 rfl ?_
  refine cj_lstore (lv' := [(4, .long p1), (0, .ref (g.2.1 0)), (1, .long p1), (3, .int p2)]) hC dX6_digestCouple_1 (by decide) rfl ?_
  refine cj_iconst (v := 0) hC dX6_digestCouple_3 rfl ?_
  refine cj_istore (lv' := [(6, .int 0), (4, .long p1), (0, .ref (g.2.1 0)), (1, .long p1), (3, .int p2)]) hC dX6_digestCouple_4 (by decide) rfl ?_
  obtain ⟨y1, e1, h⟩ := cb_b h
  refine cj_pick [2, 4, 1, 0] rfl ?_
  refine l_X6_digestCouple_L6 hC p2 M cb_fuel _ _ _ e1 (fun ze1 hz => ?_)
  obtain rfl := hz
  refine cj_iconst (v := 0) hC dX6_digestCouple_35 rfl ?_
  refine cj_istore (lv' := [(6, .int 0), (0, .ref (g.2.1 0)), (3, .int p2), (4, .long y1)]) hC dX6_digestCouple_36 (by decide) rfl ?_
  obtain ⟨y2, M1, e2, h⟩ := cb_b2 h
  refine cj_pick [1, 2, 3, 0] rfl ?_
  refine l_X6_digestCouple_L38 hC p2 cb_fuel _ _ _ _ e2 (fun ze20 ze21 hz => ?_)
  obtain ⟨rfl, rfl⟩ := cb_p2 hz
  refine cj_ldc2_w (v := 31) hC wd_810 dX6_digestCouple_67 ?_
  refine cj_ldc2_w (v := 31) hC wd_810 dX6_digestCouple_70 ?_
  refine cj_lload hC dX6_digestCouple_73 2 rfl ?_
  refine cj_lmul hC dX6_digestCouple_75 ?_
  refine cj_aload_n hC dX6_digestCouple_76 rfl 0 rfl ?_
  refine cj_iload_n hC dX6_digestCouple_77 rfl 1 rfl ?_
  refine cj_iconst (v := (-1)) hC dX6_digestCouple_78 rfl ?_
  obtain ⟨x1, M2, e3, h⟩ := cb_b2 h
  refine cj_callVi (As := [.int p2, .int (-1)]) hC cv_X6_344 cx_l0_ (cx_e0 g _) rfl (c_X6_keep l g p2 (-1) M1 e3) (by decide) rfl rfl (Nat.le_of_ble_eq_true rfl) dX6_digestCouple_79 ?_
  refine cj_i2l hC dX6_digestCouple_82 ?_
  refine cj_ladd hC dX6_digestCouple_83 ?_
  refine cj_lmul hC dX6_digestCouple_84 ?_
  refine cj_aload_n hC dX6_digestCouple_85 rfl 0 rfl ?_
  refine cj_iload_n hC dX6_digestCouple_86 rfl 1 rfl ?_
  refine cj_iconst (v := 0) hC dX6_digestCouple_87 rfl ?_
  obtain ⟨x2, M3, e4, h⟩ := cb_b2 h
  refine cj_callVi (As := [.int p2, .int 0]) hC cv_X6_344 cx_l0_ (cx_e0 g _) rfl (c_X6_keep l g p2 0 M2 e4) (by decide) rfl rfl (Nat.le_of_ble_eq_true rfl) dX6_digestCouple_88 ?_
  refine cj_i2l hC dX6_digestCouple_91 ?_
  refine cj_ladd hC dX6_digestCouple_92 ?_
  obtain ⟨y3, ey3, h⟩ := cb_l h
  refine cj_topl ey3 ?_
  refine cj_lstore (lv' := [(4, .long y3), (0, .ref (g.2.1 0)), (3, .int p2)]) hC dX6_digestCouple_93 (by decide) rfl ?_
  refine cj_ldc2_w (v := 31) hC wd_810 dX6_digestCouple_95 ?_
  refine cj_ldc2_w (v := 31) hC wd_810 dX6_digestCouple_98 ?_
  refine cj_lload hC dX6_digestCouple_101 0 rfl ?_
  refine cj_lmul hC dX6_digestCouple_103 ?_
  refine cj_aload_n hC dX6_digestCouple_104 rfl 1 rfl ?_
  refine cj_iload_n hC dX6_digestCouple_105 rfl 2 rfl ?_
  refine cj_iconst (v := 0) hC dX6_digestCouple_106 rfl ?_
  obtain ⟨x3, M4, e5, h⟩ := cb_b2 h
  refine cj_callVi (As := [.int p2, .int 0]) hC cv_X6_347 cx_l0_ (cx_e0 g _) rfl (c_X6_come l g p2 0 M3 e5) (by decide) rfl rfl (Nat.le_of_ble_eq_true rfl) dX6_digestCouple_107 ?_
  refine cj_i2l hC dX6_digestCouple_110 ?_
  refine cj_ladd hC dX6_digestCouple_111 ?_
  refine cj_lmul hC dX6_digestCouple_112 ?_
  refine cj_aload_n hC dX6_digestCouple_113 rfl 1 rfl ?_
  refine cj_iload_n hC dX6_digestCouple_114 rfl 2 rfl ?_
  refine cj_iconst (v := 1) hC dX6_digestCouple_115 rfl ?_
  obtain ⟨x4, M5, e6, h⟩ := cb_b2 h
  refine cj_callVi (As := [.int p2, .int 1]) hC cv_X6_347 cx_l0_ (cx_e0 g _) rfl (c_X6_come l g p2 1 M4 e6) (by decide) rfl rfl (Nat.le_of_ble_eq_true rfl) dX6_digestCouple_116 ?_
  refine cj_i2l hC dX6_digestCouple_119 ?_
  refine cj_ladd hC dX6_digestCouple_120 ?_
  obtain ⟨y4, ey4, h⟩ := cb_l h
  refine cj_topl ey4 ?_
  refine cj_lstore (lv' := [(4, .long y4), (0, .ref (g.2.1 0)), (3, .int p2)]) hC dX6_digestCouple_121 (by decide) rfl ?_
  refine cj_ldc2_w (v := 31) hC wd_810 dX6_digestCouple_123 ?_
  refine cj_ldc2_w (v := 31) hC wd_810 dX6_digestCouple_126 ?_
  refine cj_lload hC dX6_digestCouple_129 0 rfl ?_
  refine cj_lmul hC dX6_digestCouple_131 ?_
  refine cj_aload_n hC dX6_digestCouple_132 rfl 1 rfl ?_
  refine cj_iconst (v := 5) hC dX6_digestCouple_133 rfl ?_
  refine cj_bipush (v := 7) hC dX6_digestCouple_134 rfl ?_
  refine cj_iload_n hC dX6_digestCouple_136 rfl 2 rfl ?_
  refine cj_iconst (v := 0) hC dX6_digestCouple_137 rfl ?_
  obtain ⟨y5, M6, e7, h⟩ := cb_b2 h
  refine cj_callVl (As := [.int 5, .int 7, .int p2, .int 0]) hC cv_X6_350 cx_l0_ (cx_e0 g _) rfl (c_X6_chill l g 5 7 p2 0 M5 e7) (by decide) rfl rfl (Nat.le_of_ble_eq_true rfl) dX6_digestCouple_138 ?_
  refine cj_ladd hC dX6_digestCouple_141 ?_
  refine cj_lmul hC dX6_digestCouple_142 ?_
  refine cj_aload_n hC dX6_digestCouple_143 rfl 1 rfl ?_
  refine cj_iconst (v := 5) hC dX6_digestCouple_144 rfl ?_
  refine cj_bipush (v := 7) hC dX6_digestCouple_145 rfl ?_
  refine cj_iload_n hC dX6_digestCouple_147 rfl 2 rfl ?_
  refine cj_iconst (v := 1) hC dX6_digestCouple_148 rfl ?_
  obtain ⟨y6, M7, e8, h⟩ := cb_b2 h
  refine cj_callVl (As := [.int 5, .int 7, .int p2, .int 1]) hC cv_X6_350 cx_l0_ (cx_e0 g _) rfl (c_X6_chill l g 5 7 p2 1 M6 e8) (by decide) rfl rfl (Nat.le_of_ble_eq_true rfl) dX6_digestCouple_149 ?_
  refine cj_ladd hC dX6_digestCouple_152 ?_
  obtain ⟨rfl, rfl⟩ := cb_i2 h
  exact cj_lret hC dX6_digestCouple_153
def f_X6_digest_L6 : Nat → Int64 → Int32 → cb_Mem → Option (Int64 × cb_Mem)
    | 0, _, _, _ => none
    | n + 1, v1, v3, M =>
      if 8 ≤ v3 then
      some (v1, M)
      else
      cb_bind2 (f_X6_count v3 M) fun x1 M1 =>
      cb_let ((((31 : Int64) * v1) + x1.toInt64)) fun y1 =>
      f_X6_digest_L6 n y1 (v3 + 1) M1
def f_X6_digest_L68 : Nat → Int32 → Int64 → Int32 → cb_Mem → Option (Int64 × cb_Mem)
    | 0, _, _, _, _ => none
    | n + 1, v3, v1, v4, M =>
      if v3 ≤ v4 then
      some (v1, M)
      else
      cb_bind2 (f_X6_digestHead v1 v4 M) fun y1 M1 =>
      f_X6_digest_L68 n v3 y1 (v4 + 1) M1
def f_X6_digest_L102 : Nat → Int32 → Int64 → Int32 → cb_Mem → Option (Int64 × cb_Mem)
    | 0, _, _, _, _ => none
    | n + 1, v4, v1, v5, M =>
      if v4 ≤ v5 then
      some (v1, M)
      else
      cb_bind2 (f_X6_digestCouple v1 v5 M) fun y1 M1 =>
      f_X6_digest_L102 n v4 y1 (v5 + 1) M1
def f_X6_digest  (M : cb_Mem) : Option (Int64 × cb_Mem) :=
  cb_bind2 (f_X6_digest_L6 cb_fuel 17 0 M) fun y1 M1 =>
  (f_X6_fault 0 M1).bind fun x1 =>
  (f_X6_fault 1 M1).bind fun x2 =>
  cb_let ((((31 : Int64) * (((31 : Int64) * y1) + x1.toInt64)) + x2.toInt64)) fun y2 =>
  cb_let ((M1 30 6)) fun x3 =>
  cb_bind2 (f_X6_digest_L68 cb_fuel x3 y2 0 M1) fun y3 M2 =>
  cb_let ((M2 31 6)) fun x4 =>
  cb_bind2 (f_X6_digest_L102 cb_fuel x4 y3 0 M2) fun y4 M3 =>
  cb_bind2 (f_X6_children 9 M3) fun x5 M4 =>
  cb_bind2 (f_X6_without  M4) fun x6 M5 =>
  cb_let ((((31 : Int64) * (((31 : Int64) * y4) + x5.toInt64)) + x6.toInt64)) fun y5 =>
  cb_bind2 (f_X6_turn 0 M5) fun x7 M6 =>
  cb_bind2 (f_X6_turn 1 M6) fun x8 M7 =>
  cb_let ((((31 : Int64) * (((31 : Int64) * y5) + x7.toInt64)) + x8.toInt64)) fun y6 =>
  cb_bind2 (f_X6_met  M7) fun x9 M8 =>
  cb_bind2 (f_X6_never  M8) fun x10 M9 =>
  cb_let ((((31 : Int64) * (((31 : Int64) * y6) + x9.toInt64)) + x10.toInt64)) fun y7 =>
  cb_bind2 (f_X6_year 7 0 M9) fun x11 M10 =>
  cb_bind2 (f_X6_year 7 1 M10) fun x12 M11 =>
  some ((((31 : Int64) * (((31 : Int64) * y7) + x11.toInt64)) + x12.toInt64), M11)
set_option maxRecDepth 100000 in
set_option maxHeartbeats 4000000 in
theorem l_X6_digest_L6 {l : Launch} {g : cb_Geo} {γ : cb_Gam} {rr : Int64} {Mr : cb_Mem} (hC : cb_C cx g γ RX6 cX6_digest 6 (some .long) 6 l (cb_Ql cx g rr Mr))  : ∀ (n : Nat) (v1 : Int64) (v3 : Int32) (M : cb_Mem) (o : (Int64 × cb_Mem)), f_X6_digest_L6 n v1 v3 M = some o → (∀ (v1' : Int64) (M' : cb_Mem), o = (v1', M') → cb_J cx g γ 6 M' 31 [(0, .ref (g.2.1 0)), (1, .long v1')] []) → cb_J cx g γ 6 M 6 [(0, .ref (g.2.1 0)), (1, .long v1), (3, .int v3)] [] := by
  intro n
  induction n with
  | zero =>
    intro v1 v3 M o h
    cases h
  | succ n ih =>
    intro v1 v3 M o h hexit
    unfold f_X6_digest_L6 at h
    refine cj_iload_n hC dX6_digest_6 rfl 2 rfl ?_
    refine cj_bipush (v := 8) hC dX6_digest_7 rfl ?_
    refine cj_icmp_ge (tgt := 31) hC dX6_digest_9 (by decide) (fun c1 => ?_) (fun c1 => ?_)
    · replace h := cb_T c1 h
      obtain rfl := Option.some.inj h
      exact cj_pick [0, 1] rfl (hexit _ _ rfl)
    · replace h := cb_F c1 h
      refine cj_ldc2_w (v := 31) hC wd_810 dX6_digest_12 ?_
      refine cj_lload_n hC dX6_digest_15 rfl 1 rfl ?_
      refine cj_lmul hC dX6_digest_16 ?_
      refine cj_aload_n hC dX6_digest_17 rfl 0 rfl ?_
      refine cj_iload_n hC dX6_digest_18 rfl 2 rfl ?_
      obtain ⟨x1, M1, e1, h⟩ := cb_b2 h
      refine cj_callVi (As := [.int v3]) hC cv_X6_293 cx_l0_ (cx_e0 g _) rfl (c_X6_count l g v3 M e1) (by decide) rfl rfl (Nat.le_of_ble_eq_true rfl) dX6_digest_19 ?_
      refine cj_i2l hC dX6_digest_22 ?_
      refine cj_ladd hC dX6_digest_23 ?_
      obtain ⟨y1, ey1, h⟩ := cb_l h
      refine cj_topl ey1 ?_
      refine cj_lstore_n (lv' := [(1, .long y1), (0, .ref (g.2.1 0)), (3, .int v3)]) hC dX6_digest_24 rfl (by decide) rfl ?_
      refine cj_iinc (lv' := [(3, .int (v3 + 1)), (1, .long y1), (0, .ref (g.2.1 0))]) hC dX6_digest_25 (q := 2) rfl rfl (by decide) rfl ?_
      refine cj_goto (tgt := 6) hC dX6_digest_28 (by decide) ?_
      exact cj_pick [2, 1, 0] rfl (ih _ _ _ _ h hexit)
set_option maxRecDepth 100000 in
set_option maxHeartbeats 4000000 in
theorem l_X6_digest_L68 {l : Launch} {g : cb_Geo} {γ : cb_Gam} {rr : Int64} {Mr : cb_Mem} (hC : cb_C cx g γ RX6 cX6_digest 6 (some .long) 6 l (cb_Ql cx g rr Mr)) (v3 : Int32) : ∀ (n : Nat) (v1 : Int64) (v4 : Int32) (M : cb_Mem) (o : (Int64 × cb_Mem)), f_X6_digest_L68 n v3 v1 v4 M = some o → (∀ (v1' : Int64) (M' : cb_Mem), o = (v1', M') → cb_J cx g γ 6 M' 88 [(0, .ref (g.2.1 0)), (1, .long v1')] []) → cb_J cx g γ 6 M 68 [(0, .ref (g.2.1 0)), (1, .long v1), (3, .int v3), (4, .int v4)] [] := by
  intro n
  induction n with
  | zero =>
    intro v1 v4 M o h
    cases h
  | succ n ih =>
    intro v1 v4 M o h hexit
    unfold f_X6_digest_L68 at h
    refine cj_iload hC dX6_digest_68 3 rfl ?_
    refine cj_iload_n hC dX6_digest_70 rfl 2 rfl ?_
    refine cj_icmp_ge (tgt := 88) hC dX6_digest_71 (by decide) (fun c1 => ?_) (fun c1 => ?_)
    · replace h := cb_T c1 h
      obtain rfl := Option.some.inj h
      exact cj_pick [0, 1] rfl (hexit _ _ rfl)
    · replace h := cb_F c1 h
      refine cj_aload_n hC dX6_digest_74 rfl 0 rfl ?_
      refine cj_lload_n hC dX6_digest_75 rfl 1 rfl ?_
      refine cj_iload hC dX6_digest_76 3 rfl ?_
      obtain ⟨y1, M1, e1, h⟩ := cb_b2 h
      refine cj_callVl (As := [.long v1, .int v4]) hC cv_X6_298 cx_l0_ (cx_e0 g _) rfl (c_X6_digestHead l g v1 v4 M e1) (by decide) rfl rfl (Nat.le_of_ble_eq_true rfl) dX6_digest_78 ?_
      refine cj_lstore_n (lv' := [(1, .long y1), (0, .ref (g.2.1 0)), (3, .int v3), (4, .int v4)]) hC dX6_digest_81 rfl (by decide) rfl ?_
      refine cj_iinc (lv' := [(4, .int (v4 + 1)), (1, .long y1), (0, .ref (g.2.1 0)), (3, .int v3)]) hC dX6_digest_82 (q := 3) rfl rfl (by decide) rfl ?_
      refine cj_goto (tgt := 68) hC dX6_digest_85 (by decide) ?_
      exact cj_pick [2, 1, 3, 0] rfl (ih _ _ _ _ h hexit)
set_option maxRecDepth 100000 in
set_option maxHeartbeats 4000000 in
theorem l_X6_digest_L102 {l : Launch} {g : cb_Geo} {γ : cb_Gam} {rr : Int64} {Mr : cb_Mem} (hC : cb_C cx g γ RX6 cX6_digest 6 (some .long) 6 l (cb_Ql cx g rr Mr)) (v4 : Int32) : ∀ (n : Nat) (v1 : Int64) (v5 : Int32) (M : cb_Mem) (o : (Int64 × cb_Mem)), f_X6_digest_L102 n v4 v1 v5 M = some o → (∀ (v1' : Int64) (M' : cb_Mem), o = (v1', M') → cb_J cx g γ 6 M' 123 [(0, .ref (g.2.1 0)), (1, .long v1')] []) → cb_J cx g γ 6 M 102 [(0, .ref (g.2.1 0)), (1, .long v1), (4, .int v4), (5, .int v5)] [] := by
  intro n
  induction n with
  | zero =>
    intro v1 v5 M o h
    cases h
  | succ n ih =>
    intro v1 v5 M o h hexit
    unfold f_X6_digest_L102 at h
    refine cj_iload hC dX6_digest_102 3 rfl ?_
    refine cj_iload hC dX6_digest_104 2 rfl ?_
    refine cj_icmp_ge (tgt := 123) hC dX6_digest_106 (by decide) (fun c1 => ?_) (fun c1 => ?_)
    · replace h := cb_T c1 h
      obtain rfl := Option.some.inj h
      exact cj_pick [0, 1] rfl (hexit _ _ rfl)
    · replace h := cb_F c1 h
      refine cj_aload_n hC dX6_digest_109 rfl 0 rfl ?_
      refine cj_lload_n hC dX6_digest_110 rfl 1 rfl ?_
      refine cj_iload hC dX6_digest_111 3 rfl ?_
      obtain ⟨y1, M1, e1, h⟩ := cb_b2 h
      refine cj_callVl (As := [.long v1, .int v5]) hC cv_X6_302 cx_l0_ (cx_e0 g _) rfl (c_X6_digestCouple l g v1 v5 M e1) (by decide) rfl rfl (Nat.le_of_ble_eq_true rfl) dX6_digest_113 ?_
      refine cj_lstore_n (lv' := [(1, .long y1), (0, .ref (g.2.1 0)), (4, .int v4), (5, .int v5)]) hC dX6_digest_116 rfl (by decide) rfl ?_
      refine cj_iinc (lv' := [(5, .int (v5 + 1)), (1, .long y1), (0, .ref (g.2.1 0)), (4, .int v4)]) hC dX6_digest_117 (q := 3) rfl rfl (by decide) rfl ?_
      refine cj_goto (tgt := 102) hC dX6_digest_120 (by decide) ?_
      exact cj_pick [2, 1, 3, 0] rfl (ih _ _ _ _ h hexit)
set_option maxRecDepth 100000 in
set_option maxHeartbeats 4000000 in
theorem c_X6_digest (l : Launch) (g : cb_Geo)  (M : cb_Mem) {rr : Int64} {Mr : cb_Mem} (h : f_X6_digest  M = some (rr, Mr)) : Met l yX6_digest (.code yX6_digest cX6_digest 6 (some .long) :: cb_ws) (cb_rm 6) (cb_Pc cx g [.ref (g.2.1 0)] M) (cb_Ql cx g rr Mr) 0 0 (cb_A cx g) := by
  refine cb_met (by decide) wd_808 (Nat.le_of_ble_eq_true rfl) (fun γ hC => ?_)
  replace hC : cb_C cx g γ RX6 cX6_digest 6 (some .long) 6 l (cb_Ql cx g rr Mr) := hC
  show cb_J cx g γ 6 M 0 [(0, .ref (g.2.1 0))] []
  unfold f_X6_digest at h
  refine cj_ldc2_w (v := 17) hC wd_809 dX6_digest_0 ?_
  refine cj_lstore_n (lv' := [(1, .long 17), (0, .ref (g.2.1 0))]) hC dX6_digest_3 rfl (by decide) rfl ?_
  refine cj_iconst (v := 0) hC dX6_digest_4 rfl ?_
  refine cj_istore_n (lv' := [(3, .int 0), (1, .long 17), (0, .ref (g.2.1 0))]) hC dX6_digest_5 rfl (by decide) rfl ?_
  obtain ⟨y1, M1, e1, h⟩ := cb_b2 h
  refine cj_pick [2, 1, 0] rfl ?_
  refine l_X6_digest_L6 hC  cb_fuel _ _ _ _ e1 (fun ze10 ze11 hz => ?_)
  obtain ⟨rfl, rfl⟩ := cb_p2 hz
  refine cj_ldc2_w (v := 31) hC wd_810 dX6_digest_31 ?_
  refine cj_ldc2_w (v := 31) hC wd_810 dX6_digest_34 ?_
  refine cj_lload_n hC dX6_digest_37 rfl 1 rfl ?_
  refine cj_lmul hC dX6_digest_38 ?_
  refine cj_aload_n hC dX6_digest_39 rfl 0 rfl ?_
  refine cj_iconst (v := 0) hC dX6_digest_40 rfl ?_
  obtain ⟨x1, e2, h⟩ := cb_b h
  refine cj_callVi (As := [.int 0]) hC cv_X6_296 cx_l0_ (cx_e0 g _) rfl (c_X6_fault l g 0 M1 e2) (by decide) rfl rfl (Nat.le_of_ble_eq_true rfl) dX6_digest_41 ?_
  refine cj_i2l hC dX6_digest_44 ?_
  refine cj_ladd hC dX6_digest_45 ?_
  refine cj_lmul hC dX6_digest_46 ?_
  refine cj_aload_n hC dX6_digest_47 rfl 0 rfl ?_
  refine cj_iconst (v := 1) hC dX6_digest_48 rfl ?_
  obtain ⟨x2, e3, h⟩ := cb_b h
  refine cj_callVi (As := [.int 1]) hC cv_X6_296 cx_l0_ (cx_e0 g _) rfl (c_X6_fault l g 1 M1 e3) (by decide) rfl rfl (Nat.le_of_ble_eq_true rfl) dX6_digest_49 ?_
  refine cj_i2l hC dX6_digest_52 ?_
  refine cj_ladd hC dX6_digest_53 ?_
  obtain ⟨y2, ey2, h⟩ := cb_l h
  refine cj_topl ey2 ?_
  refine cj_lstore_n (lv' := [(1, .long y2), (0, .ref (g.2.1 0))]) hC dX6_digest_54 rfl (by decide) rfl ?_
  refine cj_aload_n hC dX6_digest_55 rfl 1 rfl ?_
  refine cj_get (v := .ref (g.2.1 1)) hC fa_X6_16 cx_l0_ (cx_e0 g _) rfl dX6_digest_56 ?_
  refine cj_iconst (v := 0) hC dX6_digest_59 rfl ?_
  refine cj_aald (t0 := 1) (a := g.2.1 30) hC cx_l1_ (cx_e1 g _) rfl rfl (cb_in_iff.mp (by decide)) rfl dX6_digest_60 ?_
  refine cj_get (v := .int (M1 30 6)) hC fa_X6_280 (by decide) (cx_text (show 0 < 2 by decide) g _) rfl dX6_digest_61 ?_
  obtain ⟨x3, ex3, h⟩ := cb_l h
  refine cj_topi ex3 ?_
  refine cj_istore_n (lv' := [(3, .int x3), (1, .long y2), (0, .ref (g.2.1 0))]) hC dX6_digest_64 rfl (by decide) rfl ?_
  refine cj_iconst (v := 0) hC dX6_digest_65 rfl ?_
  refine cj_istore (lv' := [(4, .int 0), (3, .int x3), (1, .long y2), (0, .ref (g.2.1 0))]) hC dX6_digest_66 (by decide) rfl ?_
  obtain ⟨y3, M2, e4, h⟩ := cb_b2 h
  refine cj_pick [3, 2, 1, 0] rfl ?_
  refine l_X6_digest_L68 hC x3 cb_fuel _ _ _ _ e4 (fun ze40 ze41 hz => ?_)
  obtain ⟨rfl, rfl⟩ := cb_p2 hz
  refine cj_aload_n hC dX6_digest_88 rfl 0 rfl ?_
  refine cj_get (v := .ref (g.2.1 1)) hC fa_X6_16 cx_l0_ (cx_e0 g _) rfl dX6_digest_89 ?_
  refine cj_iconst (v := 1) hC dX6_digest_92 rfl ?_
  refine cj_aald (t0 := 1) (a := g.2.1 31) hC cx_l1_ (cx_e1 g _) rfl rfl (cb_in_iff.mp (by decide)) rfl dX6_digest_93 ?_
  refine cj_get (v := .int (M2 31 6)) hC fa_X6_280 (by decide) (cx_text (show 1 < 2 by decide) g _) rfl dX6_digest_94 ?_
  obtain ⟨x4, ex4, h⟩ := cb_l h
  refine cj_topi ex4 ?_
  refine cj_istore (lv' := [(4, .int x4), (0, .ref (g.2.1 0)), (1, .long y3)]) hC dX6_digest_97 (by decide) rfl ?_
  refine cj_iconst (v := 0) hC dX6_digest_99 rfl ?_
  refine cj_istore (lv' := [(5, .int 0), (4, .int x4), (0, .ref (g.2.1 0)), (1, .long y3)]) hC dX6_digest_100 (by decide) rfl ?_
  obtain ⟨y4, M3, e5, h⟩ := cb_b2 h
  refine cj_pick [2, 3, 1, 0] rfl ?_
  refine l_X6_digest_L102 hC x4 cb_fuel _ _ _ _ e5 (fun ze50 ze51 hz => ?_)
  obtain ⟨rfl, rfl⟩ := cb_p2 hz
  refine cj_ldc2_w (v := 31) hC wd_810 dX6_digest_123 ?_
  refine cj_ldc2_w (v := 31) hC wd_810 dX6_digest_126 ?_
  refine cj_lload_n hC dX6_digest_129 rfl 1 rfl ?_
  refine cj_lmul hC dX6_digest_130 ?_
  refine cj_aload_n hC dX6_digest_131 rfl 0 rfl ?_
  refine cj_bipush (v := 9) hC dX6_digest_132 rfl ?_
  obtain ⟨x5, M4, e6, h⟩ := cb_b2 h
  refine cj_callVi (As := [.int 9]) hC cv_X6_286 cx_l0_ (cx_e0 g _) rfl (c_X6_children l g 9 M3 e6) (by decide) rfl rfl (Nat.le_of_ble_eq_true rfl) dX6_digest_134 ?_
  refine cj_i2l hC dX6_digest_137 ?_
  refine cj_ladd hC dX6_digest_138 ?_
  refine cj_lmul hC dX6_digest_139 ?_
  refine cj_aload_n hC dX6_digest_140 rfl 0 rfl ?_
  obtain ⟨x6, M5, e7, h⟩ := cb_b2 h
  refine cj_callVi (As := []) hC cv_X6_305 cx_l0_ (cx_e0 g _) rfl (c_X6_without l g  M4 e7) (by decide) rfl rfl (Nat.le_of_ble_eq_true rfl) dX6_digest_141 ?_
  refine cj_i2l hC dX6_digest_144 ?_
  refine cj_ladd hC dX6_digest_145 ?_
  obtain ⟨y5, ey5, h⟩ := cb_l h
  refine cj_topl ey5 ?_
  refine cj_lstore_n (lv' := [(1, .long y5), (0, .ref (g.2.1 0))]) hC dX6_digest_146 rfl (by decide) rfl ?_
  refine cj_ldc2_w (v := 31) hC wd_810 dX6_digest_147 ?_
  refine cj_ldc2_w (v := 31) hC wd_810 dX6_digest_150 ?_
  refine cj_lload_n hC dX6_digest_153 rfl 0 rfl ?_
  refine cj_lmul hC dX6_digest_154 ?_
  refine cj_aload_n hC dX6_digest_155 rfl 1 rfl ?_
  refine cj_iconst (v := 0) hC dX6_digest_156 rfl ?_
  obtain ⟨x7, M6, e8, h⟩ := cb_b2 h
  refine cj_callVi (As := [.int 0]) hC cv_X6_308 cx_l0_ (cx_e0 g _) rfl (c_X6_turn l g 0 M5 e8) (by decide) rfl rfl (Nat.le_of_ble_eq_true rfl) dX6_digest_157 ?_
  refine cj_i2l hC dX6_digest_160 ?_
  refine cj_ladd hC dX6_digest_161 ?_
  refine cj_lmul hC dX6_digest_162 ?_
  refine cj_aload_n hC dX6_digest_163 rfl 1 rfl ?_
  refine cj_iconst (v := 1) hC dX6_digest_164 rfl ?_
  obtain ⟨x8, M7, e9, h⟩ := cb_b2 h
  refine cj_callVi (As := [.int 1]) hC cv_X6_308 cx_l0_ (cx_e0 g _) rfl (c_X6_turn l g 1 M6 e9) (by decide) rfl rfl (Nat.le_of_ble_eq_true rfl) dX6_digest_165 ?_
  refine cj_i2l hC dX6_digest_168 ?_
  refine cj_ladd hC dX6_digest_169 ?_
  obtain ⟨y6, ey6, h⟩ := cb_l h
  refine cj_topl ey6 ?_
  refine cj_lstore_n (lv' := [(1, .long y6), (0, .ref (g.2.1 0))]) hC dX6_digest_170 rfl (by decide) rfl ?_
  refine cj_ldc2_w (v := 31) hC wd_810 dX6_digest_171 ?_
  refine cj_ldc2_w (v := 31) hC wd_810 dX6_digest_174 ?_
  refine cj_lload_n hC dX6_digest_177 rfl 0 rfl ?_
  refine cj_lmul hC dX6_digest_178 ?_
  refine cj_aload_n hC dX6_digest_179 rfl 1 rfl ?_
  obtain ⟨x9, M8, e10, h⟩ := cb_b2 h
  refine cj_callVi (As := []) hC cv_X6_311 cx_l0_ (cx_e0 g _) rfl (c_X6_met l g  M7 e10) (by decide) rfl rfl (Nat.le_of_ble_eq_true rfl) dX6_digest_180 ?_
  refine cj_i2l hC dX6_digest_183 ?_
  refine cj_ladd hC dX6_digest_184 ?_
  refine cj_lmul hC dX6_digest_185 ?_
  refine cj_aload_n hC dX6_digest_186 rfl 1 rfl ?_
  obtain ⟨x10, M9, e11, h⟩ := cb_b2 h
  refine cj_callVi (As := []) hC cv_X6_314 cx_l0_ (cx_e0 g _) rfl (c_X6_never l g  M8 e11) (by decide) rfl rfl (Nat.le_of_ble_eq_true rfl) dX6_digest_187 ?_
  refine cj_i2l hC dX6_digest_190 ?_
  refine cj_ladd hC dX6_digest_191 ?_
  obtain ⟨y7, ey7, h⟩ := cb_l h
  refine cj_topl ey7 ?_
  refine cj_lstore_n (lv' := [(1, .long y7), (0, .ref (g.2.1 0))]) hC dX6_digest_192 rfl (by decide) rfl ?_
  refine cj_ldc2_w (v := 31) hC wd_810 dX6_digest_193 ?_
  refine cj_ldc2_w (v := 31) hC wd_810 dX6_digest_196 ?_
  refine cj_lload_n hC dX6_digest_199 rfl 0 rfl ?_
  refine cj_lmul hC dX6_digest_200 ?_
  refine cj_aload_n hC dX6_digest_201 rfl 1 rfl ?_
  refine cj_bipush (v := 7) hC dX6_digest_202 rfl ?_
  refine cj_iconst (v := 0) hC dX6_digest_204 rfl ?_
  obtain ⟨x11, M10, e12, h⟩ := cb_b2 h
  refine cj_callVi (As := [.int 7, .int 0]) hC cv_X6_317 cx_l0_ (cx_e0 g _) rfl (c_X6_year l g 7 0 M9 e12) (by decide) rfl rfl (Nat.le_of_ble_eq_true rfl) dX6_digest_205 ?_
  refine cj_i2l hC dX6_digest_208 ?_
  refine cj_ladd hC dX6_digest_209 ?_
  refine cj_lmul hC dX6_digest_210 ?_
  refine cj_aload_n hC dX6_digest_211 rfl 1 rfl ?_
  refine cj_bipush (v := 7) hC dX6_digest_212 rfl ?_
  refine cj_iconst (v := 1) hC dX6_digest_214 rfl ?_
  obtain ⟨x12, M11, e13, h⟩ := cb_b2 h
  refine cj_callVi (As := [.int 7, .int 1]) hC cv_X6_317 cx_l0_ (cx_e0 g _) rfl (c_X6_year l g 7 1 M10 e13) (by decide) rfl rfl (Nat.le_of_ble_eq_true rfl) dX6_digest_215 ?_
  refine cj_i2l hC dX6_digest_218 ?_
  refine cj_ladd hC dX6_digest_219 ?_
  obtain ⟨rfl, rfl⟩ := cb_i2 h
  exact cj_lret hC dX6_digest_220
