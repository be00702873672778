def f_X7_in (p1 : Int64) (p2 : Int64) (p3 : Int64) : Int32 :=
  if (lg_cmp p1 p2) < 0 then
  (0 : Int32)
  else
  if 0 < (lg_cmp p1 p3) then
  (0 : Int32)
  else
  (1 : Int32)
set_option maxRecDepth 100000 in
set_option maxHeartbeats 4000000 in
theorem c_X7_in (l : Launch) (g : cb_Geo) (p1 : Int64) (p2 : Int64) (p3 : Int64) (M : cb_Mem) {rr : Int32} (h : f_X7_in p1 p2 p3 = rr) : Met l yX7_in (.code yX7_in cX7_in 6 (some .boolean) :: cb_ws) (cb_rm 0) (cb_Pc cy g [.long p1, .long p2, .long p3] M) (cb_Qi cy g rr M) 0 0 (cb_A cy g) := by
  refine cb_met (by decide) wd_947 (Nat.le_of_ble_eq_true rfl) (fun γ hC => ?_)
  replace hC : cb_C cy g γ RX7 cX7_in 6 (some .boolean) 0 l (cb_Qi cy g rr M) := hC
  show cb_J cy g γ 6 M 0 [(0, .long p1), (2, .long p2), (4, .long p3)] []
  unfold f_X7_in at h
  refine cj_lload_n hC dX7_in_0 rfl 0 rfl ?_
  refine cj_lload_n hC dX7_in_1 rfl 1 rfl ?_
  refine cj_lcmp hC dX7_in_2 ?_
  refine cj_if_lt (tgt := 17) hC dX7_in_3 (by decide) (fun c1 => ?_) (fun c1 => ?_)
  · replace h := cb_T c1 h
    refine cj_iconst (v := 0) hC dX7_in_17 rfl ?_
    obtain rfl := h
    exact cj_zret hC (Or.inl rfl) dX7_in_18
  · replace h := cb_F c1 h
    refine cj_lload_n hC dX7_in_6 rfl 0 rfl ?_
    refine cj_lload hC dX7_in_7 2 rfl ?_
    refine cj_lcmp hC dX7_in_9 ?_
    refine cj_if_gt (tgt := 17) hC dX7_in_10 (by decide) (fun c2 => ?_) (fun c2 => ?_)
    · replace h := cb_T c2 h
      refine cj_iconst (v := 0) hC dX7_in_17 rfl ?_
      obtain rfl := h
      exact cj_zret hC (Or.inl rfl) dX7_in_18
    · replace h := cb_F c2 h
      refine cj_iconst (v := 1) hC dX7_in_13 rfl ?_
      refine cj_goto (tgt := 18) hC dX7_in_14 (by decide) ?_
      obtain rfl := h
      exact cj_zret hC (Or.inr rfl) dX7_in_18
def f_X7_no (p1 : Int32) : Int64 :=
  (((-9223372036854775808) : Int64) - p1.toInt64)
set_option maxRecDepth 100000 in
set_option maxHeartbeats 4000000 in
theorem c_X7_no (l : Launch) (g : cb_Geo) (p1 : Int32) (M : cb_Mem) {rr : Int64} (h : f_X7_no p1 = rr) : Met l yX7_no (.code yX7_no cX7_no 1 (some .long) :: cb_ws) (cb_rm 0) (cb_Pc cy g [.int p1] M) (cb_Ql cy g rr M) 0 0 (cb_A cy g) := by
  refine cb_met (by decide) wd_1242 (Nat.le_of_ble_eq_true rfl) (fun γ hC => ?_)
  replace hC : cb_C cy g γ RX7 cX7_no 1 (some .long) 0 l (cb_Ql cy g rr M) := hC
  show cb_J cy g γ 1 M 0 [(0, .int p1)] []
  unfold f_X7_no at h
  refine cj_ldc2_w (v := (-9223372036854775808)) hC wd_1243 dX7_no_0 ?_
  refine cj_iload_n hC dX7_no_3 rfl 0 rfl ?_
  refine cj_i2l hC dX7_no_4 ?_
  refine cj_lsub hC dX7_no_5 ?_
  obtain rfl := h
  exact cj_lret hC dX7_no_6
def f_X7_isTwo (p1 : Int32) : Int32 :=
  cb_let (f_X7_in p1.toInt64 0 1) fun x1 =>
  (x1 &&& 1)
set_option maxRecDepth 100000 in
set_option maxHeartbeats 4000000 in
theorem c_X7_isTwo (l : Launch) (g : cb_Geo) (p1 : Int32) (M : cb_Mem) {rr : Int32} (h : f_X7_isTwo p1 = rr) : Met l yX7_isTwo (.code yX7_isTwo cX7_isTwo 1 (some .boolean) :: cb_ws) (cb_rm 1) (cb_Pc cy g [.int p1] M) (cb_Qi cy g rr M) 0 0 (cb_A cy g) := by
  refine cb_met (by decide) wd_983 (Nat.le_of_ble_eq_true rfl) (fun γ hC => ?_)
  replace hC : cb_C cy g γ RX7 cX7_isTwo 1 (some .boolean) 1 l (cb_Qi cy g rr M) := hC
  show cb_J cy g γ 1 M 0 [(0, .int p1)] []
  unfold f_X7_isTwo at h
  refine cj_iload_n hC dX7_isTwo_0 rfl 0 rfl ?_
  refine cj_i2l hC dX7_isTwo_1 ?_
  refine cj_lconst (v := 0) hC dX7_isTwo_2 rfl ?_
  refine cj_lconst (v := 1) hC dX7_isTwo_3 rfl ?_
  obtain ⟨x1, e1, h⟩ := cb_l h
  refine cj_callSi (As := [.long p1.toInt64, .long 0, .long 1]) hC cs_X7_79 (c_X7_in l g p1.toInt64 0 1 M e1.symm) (by decide) rfl rfl (Nat.le_of_ble_eq_true rfl) dX7_isTwo_4 ?_
  obtain rfl := h
  exact cj_zret2 hC dX7_isTwo_7
def f_X7_isIn (p1 : Int32) (p2 : Int32) : Int32 :=
  if ((p1 >>> (p2 &&& 31)) &&& 1) = 1 then
  (1 : Int32)
  else
  (0 : Int32)
set_option maxRecDepth 100000 in
set_option maxHeartbeats 4000000 in
theorem c_X7_isIn (l : Launch) (g : cb_Geo) (p1 : Int32) (p2 : Int32) (M : cb_Mem) {rr : Int32} (h : f_X7_isIn p1 p2 = rr) : Met l yX7_isIn (.code yX7_isIn cX7_isIn 2 (some .boolean) :: cb_ws) (cb_rm 0) (cb_Pc cy g [.int p1, .int p2] M) (cb_Qi cy g rr M) 0 0 (cb_A cy g) := by
  refine cb_met (by decide) wd_1075 (Nat.le_of_ble_eq_true rfl) (fun γ hC => ?_)
  replace hC : cb_C cy g γ RX7 cX7_isIn 2 (some .boolean) 0 l (cb_Qi cy g rr M) := hC
  show cb_J cy g γ 2 M 0 [(0, .int p1), (1, .int p2)] []
  unfold f_X7_isIn at h
  refine cj_iload_n hC dX7_isIn_0 rfl 0 rfl ?_
  refine cj_iload_n hC dX7_isIn_1 rfl 1 rfl ?_
  refine cj_ishr hC dX7_isIn_2 ?_
  refine cj_iconst (v := 1) hC dX7_isIn_3 rfl ?_
  refine cj_iand hC dX7_isIn_4 ?_
  refine cj_iconst (v := 1) hC dX7_isIn_5 rfl ?_
  refine cj_icmp_ne (tgt := 13) hC dX7_isIn_6 (by decide) (fun c1 => ?_) (fun c1 => ?_)
  · replace h := cb_F c1 h
    refine cj_iconst (v := 0) hC dX7_isIn_13 rfl ?_
    obtain rfl := h
    exact cj_zret hC (Or.inl rfl) dX7_isIn_14
  · replace h := cb_T c1 h
    refine cj_iconst (v := 1) hC dX7_isIn_9 rfl ?_
    refine cj_goto (tgt := 14) hC dX7_isIn_10 (by decide) ?_
    obtain rfl := h
    exact cj_zret hC (Or.inr rfl) dX7_isIn_14
def f_X7_ones_L4 : Nat → Int32 → Int32 → Option (Int32)
    | 0, _, _ => none
    | n + 1, v1, v2 =>
      if v2 = 0 then
      some v1
      else
      cb_let ((v2 &&& (v2 - 1))) fun x1 =>
      f_X7_ones_L4 n (v1 + 1) x1
def f_X7_ones (p1 : Int32) : Option (Int32) :=
  (f_X7_ones_L4 cb_fuel 0 p1).bind fun x1 =>
  some x1
set_option maxRecDepth 100000 in
set_option maxHeartbeats 4000000 in
theorem l_X7_ones_L4 {l : Launch} {g : cb_Geo} {γ : cb_Gam} {rr : Int32} {M : cb_Mem} (hC : cb_C cy g γ RX7 cX7_ones 3 (some .int) 0 l (cb_Qi cy g rr M))  : ∀ (n : Nat) (v1 : Int32) (v2 : Int32) (o : (Int32)), f_X7_ones_L4 n v1 v2 = some o → (∀ (v1' : Int32), o = v1' → cb_J cy g γ 3 M 20 [(1, .int v1')] []) → cb_J cy g γ 3 M 4 [(1, .int v1), (2, .int v2)] [] := by
  intro n
  induction n with
  | zero =>
    intro v1 v2 o h
    cases h
  | succ n ih =>
    intro v1 v2 o h hexit
    unfold f_X7_ones_L4 at h
    refine cj_iload_n hC dX7_ones_4 rfl 1 rfl ?_
    refine cj_if_eq (tgt := 20) hC dX7_ones_5 (by decide) (fun c1 => ?_) (fun c1 => ?_)
    · replace h := cb_T c1 h
      obtain rfl := Option.some.inj h
      exact cj_pick [0] rfl (hexit _ rfl)
    · replace h := cb_F c1 h
      refine cj_iinc (lv' := [(1, .int (v1 + 1)), (2, .int v2)]) hC dX7_ones_8 (q := 0) rfl rfl (by decide) rfl ?_
      refine cj_iload_n hC dX7_ones_11 rfl 1 rfl ?_
      refine cj_iload_n hC dX7_ones_12 rfl 1 rfl ?_
      refine cj_iconst (v := 1) hC dX7_ones_13 rfl ?_
      refine cj_isub hC dX7_ones_14 ?_
      refine cj_iand hC dX7_ones_15 ?_
      obtain ⟨x1, ex1, h⟩ := cb_l h
      refine cj_topi ex1 ?_
      refine cj_istore_n (lv' := [(2, .int x1), (1, .int (v1 + 1))]) hC dX7_ones_16 rfl (by decide) rfl ?_
      refine cj_goto (tgt := 4) hC dX7_ones_17 (by decide) ?_
      exact cj_pick [1, 0] rfl (ih _ _ _ h hexit)
set_option maxRecDepth 100000 in
set_option maxHeartbeats 4000000 in
theorem c_X7_ones (l : Launch) (g : cb_Geo) (p1 : Int32) (M : cb_Mem) {rr : Int32} (h : f_X7_ones p1 = some rr) : Met l yX7_ones (.code yX7_ones cX7_ones 3 (some .int) :: cb_ws) (cb_rm 0) (cb_Pc cy g [.int p1] M) (cb_Qi cy g rr M) 0 0 (cb_A cy g) := by
  refine cb_met (by decide) wd_1181 (Nat.le_of_ble_eq_true rfl) (fun γ hC => ?_)
  replace hC : cb_C cy g γ RX7 cX7_ones 3 (some .int) 0 l (cb_Qi cy g rr M) := hC
  show cb_J cy g γ 3 M 0 [(0, .int p1)] []
  unfold f_X7_ones at h
  refine cj_iconst (v := 0) hC dX7_ones_0 rfl ?_
  refine cj_istore_n (lv' := [(1, .int 0), (0, .int p1)]) hC dX7_ones_1 rfl (by decide) rfl ?_
  refine cj_iload_n hC dX7_ones_2 rfl 1 rfl ?_
  refine cj_istore_n (lv' := [(2, .int p1), (1, .int 0), (0, .int p1)]) hC dX7_ones_3 rfl (by decide) rfl ?_
  obtain ⟨x1, e1, h⟩ := cb_b h
  refine cj_pick [1, 0] rfl ?_
  refine l_X7_ones_L4 hC  cb_fuel _ _ _ e1 (fun ze1 hz => ?_)
  obtain rfl := hz
  refine cj_iload_n hC dX7_ones_20 rfl 0 rfl ?_
  obtain rfl := Option.some.inj h
  exact cj_iret hC dX7_ones_21
def f_X7_lesser (p1 : Int32) (p2 : Int32) : Int32 :=
  if p2 ≤ p1 then
  p2
  else
  p1
set_option maxRecDepth 100000 in
set_option maxHeartbeats 4000000 in
theorem c_X7_lesser (l : Launch) (g : cb_Geo) (p1 : Int32) (p2 : Int32) (M : cb_Mem) {rr : Int32} (h : f_X7_lesser p1 p2 = rr) : Met l yX7_lesser (.code yX7_lesser cX7_lesser 2 (some .int) :: cb_ws) (cb_rm 0) (cb_Pc cy g [.int p1, .int p2] M) (cb_Qi cy g rr M) 0 0 (cb_A cy g) := by
  refine cb_met (by decide) wd_1263 (Nat.le_of_ble_eq_true rfl) (fun γ hC => ?_)
  replace hC : cb_C cy g γ RX7 cX7_lesser 2 (some .int) 0 l (cb_Qi cy g rr M) := hC
  show cb_J cy g γ 2 M 0 [(0, .int p1), (1, .int p2)] []
  unfold f_X7_lesser at h
  refine cj_iload_n hC dX7_lesser_0 rfl 0 rfl ?_
  refine cj_iload_n hC dX7_lesser_1 rfl 1 rfl ?_
  refine cj_icmp_ge (tgt := 9) hC dX7_lesser_2 (by decide) (fun c1 => ?_) (fun c1 => ?_)
  · replace h := cb_T c1 h
    refine cj_iload_n hC dX7_lesser_9 rfl 1 rfl ?_
    obtain rfl := h
    exact cj_iret hC dX7_lesser_10
  · replace h := cb_F c1 h
    refine cj_iload_n hC dX7_lesser_5 rfl 0 rfl ?_
    refine cj_goto (tgt := 10) hC dX7_lesser_6 (by decide) ?_
    obtain rfl := h
    exact cj_iret hC dX7_lesser_10
def f_X7_greater (p1 : Int32) (p2 : Int32) : Int32 :=
  if p1 ≤ p2 then
  p2
  else
  p1
set_option maxRecDepth 100000 in
set_option maxHeartbeats 4000000 in
theorem c_X7_greater (l : Launch) (g : cb_Geo) (p1 : Int32) (p2 : Int32) (M : cb_Mem) {rr : Int32} (h : f_X7_greater p1 p2 = rr) : Met l yX7_greater (.code yX7_greater cX7_greater 2 (some .int) :: cb_ws) (cb_rm 0) (cb_Pc cy g [.int p1, .int p2] M) (cb_Qi cy g rr M) 0 0 (cb_A cy g) := by
  refine cb_met (by decide) wd_1157 (Nat.le_of_ble_eq_true rfl) (fun γ hC => ?_)
  replace hC : cb_C cy g γ RX7 cX7_greater 2 (some .int) 0 l (cb_Qi cy g rr M) := hC
  show cb_J cy g γ 2 M 0 [(0, .int p1), (1, .int p2)] []
  unfold f_X7_greater at h
  refine cj_iload_n hC dX7_greater_0 rfl 0 rfl ?_
  refine cj_iload_n hC dX7_greater_1 rfl 1 rfl ?_
  refine cj_icmp_le (tgt := 9) hC dX7_greater_2 (by decide) (fun c1 => ?_) (fun c1 => ?_)
  · replace h := cb_T c1 h
    refine cj_iload_n hC dX7_greater_9 rfl 1 rfl ?_
    obtain rfl := h
    exact cj_iret hC dX7_greater_10
  · replace h := cb_F c1 h
    refine cj_iload_n hC dX7_greater_5 rfl 0 rfl ?_
    refine cj_goto (tgt := 10) hC dX7_greater_6 (by decide) ?_
    obtain rfl := h
    exact cj_iret hC dX7_greater_10
def f_X7_part_L6 : Nat → Int64 → Int64 → Int32 → Int64 → Int64 → Option (Int64)
    | 0, _, _, _, _, _ => none
    | n + 1, v0, v2, v4, v5, v7 =>
      if (lg_cmp v7 0) = 0 then
      some v5
      else
      if v7 = 0 then none else
      cb_let ((v5 - v5 / v7 * v7)) fun y1 =>
      f_X7_part_L6 n v0 v2 v4 v7 y1
def f_X7_part (p1 : Int64) (p2 : Int64) (p3 : Int32) : Option (Int64) :=
  (f_X7_part_L6 cb_fuel p1 p2 p3 p1 p2).bind fun y1 =>
  cb_let (if p3 = 0 then
  p1
  else
  p2) fun y2 =>
  if y1 = 0 then none else
  some (y2 / y1)
set_option maxRecDepth 100000 in
set_option maxHeartbeats 4000000 in
theorem l_X7_part_L6 {l : Launch} {g : cb_Geo} {γ : cb_Gam} {rr : Int64} {M : cb_Mem} (hC : cb_C cy g γ RX7 cX7_part 11 (some .long) 0 l (cb_Ql cy g rr M)) (v0 : Int64) (v2 : Int64) (v4 : Int32) : ∀ (n : Nat) (v5 : Int64) (v7 : Int64) (o : (Int64)), f_X7_part_L6 n v0 v2 v4 v5 v7 = some o → (∀ (v5' : Int64), o = v5' → cb_J cy g γ 11 M 31 [(0, .long v0), (2, .long v2), (4, .int v4), (5, .long v5')] []) → cb_J cy g γ 11 M 6 [(0, .long v0), (2, .long v2), (4, .int v4), (5, .long v5), (7, .long v7)] [] := by
  intro n
  induction n with
  | zero =>
    intro v5 v7 o h
    cases h
  | succ n ih =>
    intro v5 v7 o h hexit
    unfold f_X7_part_L6 at h
    refine cj_lload hC dX7_part_6 4 rfl ?_
    refine cj_lconst (v := 0) hC dX7_part_8 rfl ?_
    refine cj_lcmp hC dX7_part_9 ?_
    refine cj_if_eq (tgt := 31) hC dX7_part_10 (by decide) (fun c1 => ?_) (fun c1 => ?_)
    · replace h := cb_T c1 h
      obtain rfl := Option.some.inj h
      exact cj_pick [0, 1, 2, 3] rfl (hexit _ rfl)
    · replace h := cb_F c1 h
      refine cj_lload hC dX7_part_13 3 rfl ?_
      refine cj_lload hC dX7_part_15 4 rfl ?_
      obtain ⟨z1, h⟩ := cb_gn h
      refine cj_lrem hC dX7_part_17 z1 ?_
      obtain ⟨y1, ey1, h⟩ := cb_l h
      refine cj_topl ey1 ?_
      refine cj_lstore (lv' := [(9, .long y1), (0, .long v0), (2, .long v2), (4, .int v4), (5, .long v5), (7, .long v7)]) hC dX7_part_18 (by decide) rfl ?_
      refine cj_lload hC dX7_part_20 5 rfl ?_
      refine cj_lstore (lv' := [(5, .long v7), (9, .long y1), (0, .long v0), (2, .long v2), (4, .int v4), (7, .long v7)]) hC dX7_part_22 (by decide) rfl ?_
      refine cj_lload hC dX7_part_24 1 rfl ?_
      refine cj_lstore (lv' := [(7, .long y1), (5, .long v7), (9, .long y1), (0, .long v0), (2, .long v2), (4, .int v4)]) hC dX7_part_26 (by decide) rfl ?_
      refine cj_goto (tgt := 6) hC dX7_part_28 (by decide) ?_
      exact cj_pick [3, 4, 5, 1, 0] rfl (ih _ _ _ h hexit)
set_option maxRecDepth 100000 in
set_option maxHeartbeats 4000000 in
theorem c_X7_part (l : Launch) (g : cb_Geo) (p1 : Int64) (p2 : Int64) (p3 : Int32) (M : cb_Mem) {rr : Int64} (h : f_X7_part p1 p2 p3 = some rr) : Met l yX7_part (.code yX7_part cX7_part 11 (some .long) :: cb_ws) (cb_rm 0) (cb_Pc cy g [.long p1, .long p2, .int p3] M) (cb_Ql cy g rr M) 0 0 (cb_A cy g) := by
  refine cb_met (by decide) wd_1239 (Nat.le_of_ble_eq_true rfl) (fun γ hC => ?_)
  replace hC : cb_C cy g γ RX7 cX7_part 11 (some .long) 0 l (cb_Ql cy g rr M) := hC
  show cb_J cy g γ 11 M 0 [(0, .long p1), (2, .long p2), (4, .int p3)] []
  unfold f_X7_part at h
  refine cj_lload_n hC dX7_part_0 rfl 0 rfl ?_
  refine cj_lstore (lv' := [(5, .long p1), (0, .long p1), (2, .long p2), (4, .int p3)]) hC dX7_part_1 (by decide) rfl ?_
  refine cj_lload_n hC dX7_part_3 rfl 2 rfl ?_
  refine cj_lstore (lv' := [(7, .long p2), (5, .long p1), (0, .long p1), (2, .long p2), (4, .int p3)]) hC dX7_part_4 (by decide) rfl ?_
  obtain ⟨y1, e1, h⟩ := cb_b h
  refine cj_pick [2, 3, 4, 1, 0] rfl ?_
  refine l_X7_part_L6 hC p1 p2 p3 cb_fuel _ _ _ e1 (fun ze1 hz => ?_)
  obtain rfl := hz
  refine cj_iload hC dX7_part_31 2 rfl ?_
  obtain ⟨y2, hx1, h⟩ := cb_l h
  replace hx1 := hx1.symm
  have hj1 : cb_J cy g γ 11 M 41 [(5, .long y1)] [.long y2] := by
    refine cj_lload hC dX7_part_41 0 rfl ?_
    obtain ⟨z1, h⟩ := cb_gn h
    refine cj_ldiv hC dX7_part_43 z1 ?_
    obtain rfl := Option.some.inj h
    exact cj_lret hC dX7_part_44
  refine cj_if_ne (tgt := 40) hC dX7_part_33 (by decide) (fun c1 => ?_) (fun c1 => ?_)
  · replace hx1 := cb_F c1 hx1
    refine cj_lload_n hC dX7_part_40 rfl 1 rfl ?_
    obtain rfl := hx1
    exact cj_pick [3] rfl hj1
  · replace hx1 := cb_T c1 hx1
    refine cj_lload_n hC dX7_part_36 rfl 0 rfl ?_
    refine cj_goto (tgt := 41) hC dX7_part_37 (by decide) ?_
    obtain rfl := hx1
    exact cj_pick [3] rfl hj1
def f_X7_finds (p1 : Int32) (M : cb_Mem) : Int32 × cb_Mem :=
  cb_let (cb_up M 0 4 p1) fun M1 =>
  (((-10) - p1), M1)
set_option maxRecDepth 100000 in
set_option maxHeartbeats 4000000 in
theorem c_X7_finds (l : Launch) (g : cb_Geo) (p1 : Int32) (M : cb_Mem) {rr : Int32} {Mr : cb_Mem} (h : f_X7_finds p1 M = (rr, Mr)) : Met l yX7_finds (.code yX7_finds cX7_finds 2 (some .int) :: cb_ws) (cb_rm 0) (cb_Pc cy g [.ref (g.2.1 0), .int p1] M) (cb_Qi cy g rr Mr) 0 0 (cb_A cy g) := by
  refine cb_met (by decide) wd_952 (Nat.le_of_ble_eq_true rfl) (fun γ hC => ?_)
  replace hC : cb_C cy g γ RX7 cX7_finds 2 (some .int) 0 l (cb_Qi cy g rr Mr) := hC
  show cb_J cy g γ 2 M 0 [(0, .ref (g.2.1 0)), (1, .int p1)] []
  unfold f_X7_finds at h
  refine cj_aload_n hC dX7_finds_0 rfl 0 rfl ?_
  refine cj_iload_n hC dX7_finds_1 rfl 1 rfl ?_
  obtain ⟨M1, eM1, h⟩ := cb_l h
  refine cj_put hC fp_X7_83 cy_l0_ (cy_e0 g _) rfl (Nat.le_of_ble_eq_true rfl) eM1 dX7_finds_2 ?_
  refine cj_bipush (v := (-10)) hC dX7_finds_5 rfl ?_
  refine cj_iload_n hC dX7_finds_7 rfl 1 rfl ?_
  refine cj_isub hC dX7_finds_8 ?_
  obtain ⟨rfl, rfl⟩ := cb_p2 h
  exact cj_iret hC dX7_finds_9
def f_X7_isSheet (p1 : Int32) : Int32 :=
  cb_let (f_X7_in p1.toInt64 0 3) fun x1 =>
  (x1 &&& 1)
set_option maxRecDepth 100000 in
set_option maxHeartbeats 4000000 in
theorem c_X7_isSheet (l : Launch) (g : cb_Geo) (p1 : Int32) (M : cb_Mem) {rr : Int32} (h : f_X7_isSheet p1 = rr) : Met l yX7_isSheet (.code yX7_isSheet cX7_isSheet 1 (some .boolean) :: cb_ws) (cb_rm 1) (cb_Pc cy g [.int p1] M) (cb_Qi cy g rr M) 0 0 (cb_A cy g) := by
  refine cb_met (by decide) wd_943 (Nat.le_of_ble_eq_true rfl) (fun γ hC => ?_)
  replace hC : cb_C cy g γ RX7 cX7_isSheet 1 (some .boolean) 1 l (cb_Qi cy g rr M) := hC
  show cb_J cy g γ 1 M 0 [(0, .int p1)] []
  unfold f_X7_isSheet at h
  refine cj_iload_n hC dX7_isSheet_0 rfl 0 rfl ?_
  refine cj_i2l hC dX7_isSheet_1 ?_
  refine cj_lconst (v := 0) hC dX7_isSheet_2 rfl ?_
  refine cj_ldc2_w (v := 3) hC wd_944 dX7_isSheet_3 ?_
  obtain ⟨x1, e1, h⟩ := cb_l h
  refine cj_callSi (As := [.long p1.toInt64, .long 0, .long 3]) hC cs_X7_79 (c_X7_in l g p1.toInt64 0 3 M e1.symm) (by decide) rfl rfl (Nat.le_of_ble_eq_true rfl) dX7_isSheet_6 ?_
  obtain rfl := h
  exact cj_zret2 hC dX7_isSheet_9
def f_X7_sheet_L55 : Nat → Int32 → Int32 → Int32 → cb_Mem → Option (cb_Mem)
    | 0, _, _, _, _ => none
    | n + 1, v1, v3, v4, M =>
      if v3 ≤ v4 then
      some M
      else
      if cb_in ((60 * v1) + v4) 240 = true then
      cb_let (cb_up M 3 ((60 * v1) + v4).toNatClampNeg 0) fun M1 =>
      f_X7_sheet_L55 n v1 v3 (v4 + 1) M1
      else none
def f_X7_sheet (p1 : Int32) (p2 : Int32) (p3 : Int32) (M : cb_Mem) : Option (Int32 × cb_Mem) :=
  cb_let (f_X7_isSheet p1) fun x1 =>
  if x1 = 0 then
  some (((-2) : Int32), M)
  else
  cb_let (f_X7_in p2.toInt64 0 2) fun x2 =>
  if x2 = 0 then
  some (((-2) : Int32), M)
  else
  if p3 ≤ 60 then
  if 0 ≤ p3 then
  if cb_in p1 4 = true then
  cb_let (cb_up M 1 p1.toNatClampNeg p2) fun M1 =>
  if cb_in p1 4 = true then
  cb_let (cb_up M1 2 p1.toNatClampNeg p3) fun M2 =>
  (f_X7_sheet_L55 cb_fuel p1 p3 0 M2).bind fun M3 =>
  some (p3, M3)
  else none
  else none
  else
  cb_let2 (f_X7_finds 5 M) fun x3 M4 =>
  some (x3, M4)
  else
  some (((-2) : Int32), M)
set_option maxRecDepth 100000 in
set_option maxHeartbeats 4000000 in
theorem l_X7_sheet_L55 {l : Launch} {g : cb_Geo} {γ : cb_Gam} {rr : Int32} {Mr : cb_Mem} (hC : cb_C cy g γ RX7 cX7_sheet 5 (some .int) 2 l (cb_Qi cy g rr Mr)) (v1 : Int32) (v3 : Int32) : ∀ (n : Nat) (v4 : Int32) (M : cb_Mem) (o : (cb_Mem)), f_X7_sheet_L55 n v1 v3 v4 M = some o → (∀ (M' : cb_Mem), o = M' → cb_J cy g γ 5 M' 80 [(3, .int v3)] []) → cb_J cy g γ 5 M 55 [(0, .ref (g.2.1 0)), (1, .int v1), (3, .int v3), (4, .int v4)] [] := by
  intro n
  induction n with
  | zero =>
    intro v4 M o h
    cases h
  | succ n ih =>
    intro v4 M o h hexit
    unfold f_X7_sheet_L55 at h
    refine cj_iload hC dX7_sheet_55 3 rfl ?_
    refine cj_iload_n hC dX7_sheet_57 rfl 2 rfl ?_
    refine cj_icmp_ge (tgt := 80) hC dX7_sheet_58 (by decide) (fun c1 => ?_) (fun c1 => ?_)
    · replace h := cb_T c1 h
      obtain rfl := Option.some.inj h
      exact cj_pick [2] rfl (hexit _ rfl)
    · replace h := cb_F c1 h
      refine cj_aload_n hC dX7_sheet_61 rfl 0 rfl ?_
      refine cj_get (v := .ref (g.2.1 3)) hC fa_X7_16 cy_l0_ (cy_e0 g _) rfl dX7_sheet_62 ?_
      refine cj_bipush (v := 60) hC dX7_sheet_65 rfl ?_
      refine cj_iload_n hC dX7_sheet_67 rfl 1 rfl ?_
      refine cj_imul hC dX7_sheet_68 ?_
      refine cj_iload hC dX7_sheet_69 3 rfl ?_
      refine cj_iadd hC dX7_sheet_71 ?_
      refine cj_iconst (v := 0) hC dX7_sheet_72 rfl ?_
      obtain ⟨i1, h⟩ := cb_g h
      obtain ⟨M1, eM1, h⟩ := cb_l h
      refine cj_iast hC cy_l3_ (cy_e3 g) (cy_t0 g) i1 eM1 dX7_sheet_73 ?_
      refine cj_iinc (lv' := [(4, .int (v4 + 1)), (0, .ref (g.2.1 0)), (1, .int v1), (3, .int v3)]) hC dX7_sheet_74 (q := 3) rfl rfl (by decide) rfl ?_
      refine cj_goto (tgt := 55) hC dX7_sheet_77 (by decide) ?_
      exact cj_pick [1, 2, 3, 0] rfl (ih _ _ _ h hexit)
set_option maxRecDepth 100000 in
set_option maxHeartbeats 4000000 in
theorem c_X7_sheet (l : Launch) (g : cb_Geo) (p1 : Int32) (p2 : Int32) (p3 : Int32) (M : cb_Mem) {rr : Int32} {Mr : cb_Mem} (h : f_X7_sheet p1 p2 p3 M = some (rr, Mr)) : Met l yX7_sheet (.code yX7_sheet cX7_sheet 5 (some .int) :: cb_ws) (cb_rm 2) (cb_Pc cy g [.ref (g.2.1 0), .int p1, .int p2, .int p3] M) (cb_Qi cy g rr Mr) 0 0 (cb_A cy g) := by
  refine cb_met (by decide) wd_940 (Nat.le_of_ble_eq_true rfl) (fun γ hC => ?_)
  replace hC : cb_C cy g γ RX7 cX7_sheet 5 (some .int) 2 l (cb_Qi cy g rr Mr) := hC
  show cb_J cy g γ 5 M 0 [(0, .ref (g.2.1 0)), (1, .int p1), (2, .int p2), (3, .int p3)] []
  unfold f_X7_sheet at h
  refine cj_iload_n hC dX7_sheet_0 rfl 1 rfl ?_
  obtain ⟨x1, e1, h⟩ := cb_l h
  refine cj_callSi (As := [.int p1]) hC cs_X7_88 (c_X7_isSheet l g p1 M e1.symm) (by decide) rfl rfl (Nat.le_of_ble_eq_true rfl) dX7_sheet_1 ?_
  refine cj_if_eq (tgt := 25) hC dX7_sheet_4 (by decide) (fun c1 => ?_) (fun c1 => ?_)
  · replace h := cb_T c1 h
    refine cj_bipush (v := (-2)) hC dX7_sheet_25 rfl ?_
    obtain ⟨rfl, rfl⟩ := cb_i2 h
    exact cj_iret hC dX7_sheet_27
  · replace h := cb_F c1 h
    refine cj_iload_n hC dX7_sheet_7 rfl 2 rfl ?_
    refine cj_i2l hC dX7_sheet_8 ?_
    refine cj_lconst (v := 0) hC dX7_sheet_9 rfl ?_
    refine cj_ldc2_w (v := 2) hC wd_948 dX7_sheet_10 ?_
    obtain ⟨x2, e2, h⟩ := cb_l h
    refine cj_callSi (As := [.long p2.toInt64, .long 0, .long 2]) hC cs_X7_79 (c_X7_in l g p2.toInt64 0 2 M e2.symm) (by decide) rfl rfl (Nat.le_of_ble_eq_true rfl) dX7_sheet_13 ?_
    refine cj_if_eq (tgt := 25) hC dX7_sheet_16 (by decide) (fun c2 => ?_) (fun c2 => ?_)
    · replace h := cb_T c2 h
      refine cj_bipush (v := (-2)) hC dX7_sheet_25 rfl ?_
      obtain ⟨rfl, rfl⟩ := cb_i2 h
      exact cj_iret hC dX7_sheet_27
    · replace h := cb_F c2 h
      refine cj_iload_n hC dX7_sheet_19 rfl 3 rfl ?_
      refine cj_bipush (v := 60) hC dX7_sheet_20 rfl ?_
      refine cj_icmp_le (tgt := 28) hC dX7_sheet_22 (by decide) (fun c3 => ?_) (fun c3 => ?_)
      · replace h := cb_T c3 h
        refine cj_iload_n hC dX7_sheet_28 rfl 3 rfl ?_
        refine cj_if_ge (tgt := 38) hC dX7_sheet_29 (by decide) (fun c4 => ?_) (fun c4 => ?_)
        · replace h := cb_T c4 h
          refine cj_aload_n hC dX7_sheet_38 rfl 0 rfl ?_
          refine cj_get (v := .ref (g.2.1 1)) hC fa_X7_7 cy_l0_ (cy_e0 g _) rfl dX7_sheet_39 ?_
          refine cj_iload_n hC dX7_sheet_42 rfl 1 rfl ?_
          refine cj_iload_n hC dX7_sheet_43 rfl 2 rfl ?_
          obtain ⟨i1, h⟩ := cb_g h
          obtain ⟨M1, eM1, h⟩ := cb_l h
          refine cj_iast hC cy_l1_ (cy_e1 g) (cy_t0 g) i1 eM1 dX7_sheet_44 ?_
          refine cj_aload_n hC dX7_sheet_45 rfl 0 rfl ?_
          refine cj_get (v := .ref (g.2.1 2)) hC fa_X7_13 cy_l0_ (cy_e0 g _) rfl dX7_sheet_46 ?_
          refine cj_iload_n hC dX7_sheet_49 rfl 1 rfl ?_
          refine cj_iload_n hC dX7_sheet_50 rfl 3 rfl ?_
          obtain ⟨i2, h⟩ := cb_g h
          obtain ⟨M2, eM2, h⟩ := cb_l h
          refine cj_iast hC cy_l2_ (cy_e2 g) (cy_t0 g) i2 eM2 dX7_sheet_51 ?_
          refine cj_iconst (v := 0) hC dX7_sheet_52 rfl ?_
          refine cj_istore (lv' := [(4, .int 0), (0, .ref (g.2.1 0)), (1, .int p1), (2, .int p2), (3, .int p3)]) hC dX7_sheet_53 (by decide) rfl ?_
          obtain ⟨M3, e3, h⟩ := cb_b h
          refine cj_pick [1, 2, 4, 0] rfl ?_
          refine l_X7_sheet_L55 hC p1 p3 cb_fuel _ _ _ e3 (fun ze3 hz => ?_)
          obtain rfl := hz
          refine cj_iload_n hC dX7_sheet_80 rfl 0 rfl ?_
          obtain ⟨rfl, rfl⟩ := cb_i2 h
          exact cj_iret hC dX7_sheet_81
        · replace h := cb_F c4 h
          refine cj_aload_n hC dX7_sheet_32 rfl 0 rfl ?_
          refine cj_iconst (v := 5) hC dX7_sheet_33 rfl ?_
          obtain ⟨x3, M4, e4, h⟩ := cb_l2 h
          refine cj_callVi (As := [.int 5]) hC cv_X7_94 cy_l0_ (cy_e0 g _) rfl (c_X7_finds l g 5 M e4.symm) (by decide) rfl rfl (Nat.le_of_ble_eq_true rfl) dX7_sheet_34 ?_
          obtain ⟨rfl, rfl⟩ := cb_i2 h
          exact cj_iret hC dX7_sheet_37
      · replace h := cb_F c3 h
        refine cj_bipush (v := (-2)) hC dX7_sheet_25 rfl ?_
        obtain ⟨rfl, rfl⟩ := cb_i2 h
        exact cj_iret hC dX7_sheet_27
def f_X7_lose (p1 : Int32) (M : cb_Mem) : Option (Int32 × cb_Mem) :=
  cb_let (f_X7_isSheet p1) fun x1 =>
  if x1 = 0 then
  some (((-2) : Int32), M)
  else
  if cb_in p1 4 = true then
  if 0 ≤ (M 1 p1.toNatClampNeg) then
  if cb_in p1 4 = true then
  cb_let (cb_up M 1 p1.toNatClampNeg (-1)) fun M1 =>
  if cb_in p1 4 = true then
  some ((M1 2 p1.toNatClampNeg), M1)
  else none
  else none
  else
  cb_let2 (f_X7_finds 1 M) fun x2 M2 =>
  some (x2, M2)
  else none
set_option maxRecDepth 100000 in
set_option maxHeartbeats 4000000 in
theorem c_X7_lose (l : Launch) (g : cb_Geo) (p1 : Int32) (M : cb_Mem) {rr : Int32} {Mr : cb_Mem} (h : f_X7_lose p1 M = some (rr, Mr)) : Met l yX7_lose (.code yX7_lose cX7_lose 2 (some .int) :: cb_ws) (cb_rm 2) (cb_Pc cy g [.ref (g.2.1 0), .int p1] M) (cb_Qi cy g rr Mr) 0 0 (cb_A cy g) := by
  refine cb_met (by decide) wd_956 (Nat.le_of_ble_eq_true rfl) (fun γ hC => ?_)
  replace hC : cb_C cy g γ RX7 cX7_lose 2 (some .int) 2 l (cb_Qi cy g rr Mr) := hC
  show cb_J cy g γ 2 M 0 [(0, .ref (g.2.1 0)), (1, .int p1)] []
  unfold f_X7_lose at h
  refine cj_iload_n hC dX7_lose_0 rfl 1 rfl ?_
  obtain ⟨x1, e1, h⟩ := cb_l h
  refine cj_callSi (As := [.int p1]) hC cs_X7_88 (c_X7_isSheet l g p1 M e1.symm) (by decide) rfl rfl (Nat.le_of_ble_eq_true rfl) dX7_lose_1 ?_
  refine cj_if_ne (tgt := 10) hC dX7_lose_4 (by decide) (fun c1 => ?_) (fun c1 => ?_)
  · replace h := cb_F c1 h
    refine cj_aload_n hC dX7_lose_10 rfl 0 rfl ?_
    refine cj_get (v := .ref (g.2.1 1)) hC fa_X7_7 cy_l0_ (cy_e0 g _) rfl dX7_lose_11 ?_
    refine cj_iload_n hC dX7_lose_14 rfl 1 rfl ?_
    obtain ⟨i1, h⟩ := cb_g h
    refine cj_iald hC cy_l1_ (cy_e1 g _) (cy_t0 g) i1 dX7_lose_15 ?_
    refine cj_if_ge (tgt := 25) hC dX7_lose_16 (by decide) (fun c2 => ?_) (fun c2 => ?_)
    · replace h := cb_T c2 h
      refine cj_aload_n hC dX7_lose_25 rfl 0 rfl ?_
      refine cj_get (v := .ref (g.2.1 1)) hC fa_X7_7 cy_l0_ (cy_e0 g _) rfl dX7_lose_26 ?_
      refine cj_iload_n hC dX7_lose_29 rfl 1 rfl ?_
      refine cj_iconst (v := (-1)) hC dX7_lose_30 rfl ?_
      obtain ⟨i2, h⟩ := cb_g h
      obtain ⟨M1, eM1, h⟩ := cb_l h
      refine cj_iast hC cy_l1_ (cy_e1 g) (cy_t0 g) i2 eM1 dX7_lose_31 ?_
      refine cj_aload_n hC dX7_lose_32 rfl 0 rfl ?_
      refine cj_get (v := .ref (g.2.1 2)) hC fa_X7_13 cy_l0_ (cy_e0 g _) rfl dX7_lose_33 ?_
      refine cj_iload_n hC dX7_lose_36 rfl 1 rfl ?_
      obtain ⟨i3, h⟩ := cb_g h
      refine cj_iald hC cy_l2_ (cy_e2 g _) (cy_t0 g) i3 dX7_lose_37 ?_
      obtain ⟨rfl, rfl⟩ := cb_i2 h
      exact cj_iret hC dX7_lose_38
    · replace h := cb_F c2 h
      refine cj_aload_n hC dX7_lose_19 rfl 0 rfl ?_
      refine cj_iconst (v := 1) hC dX7_lose_20 rfl ?_
      obtain ⟨x2, M2, e2, h⟩ := cb_l2 h
      refine cj_callVi (As := [.int 1]) hC cv_X7_94 cy_l0_ (cy_e0 g _) rfl (c_X7_finds l g 1 M e2.symm) (by decide) rfl rfl (Nat.le_of_ble_eq_true rfl) dX7_lose_21 ?_
      obtain ⟨rfl, rfl⟩ := cb_i2 h
      exact cj_iret hC dX7_lose_24
  · replace h := cb_T c1 h
    refine cj_bipush (v := (-2)) hC dX7_lose_7 rfl ?_
    obtain ⟨rfl, rfl⟩ := cb_i2 h
    exact cj_iret hC dX7_lose_9
def f_X7_lacks (p1 : Int32) (p2 : Int32) (p3 : Int32) (M : cb_Mem) : Option (Int32 × cb_Mem) :=
  if cb_in p1 4 = true then
  if 0 ≤ (M 1 p1.toNatClampNeg) then
  if cb_in p1 4 = true then
  if (M 1 p1.toNatClampNeg) = p2 then
  if cb_in p1 4 = true then
  cb_let (f_X7_in p3.toInt64 0 (((M 2 p1.toNatClampNeg) - 1).toInt64)) fun x1 =>
  if x1 = 0 then
  cb_let2 (f_X7_finds 2 M) fun x2 M1 =>
  some (x2, M1)
  else
  some ((0 : Int32), M)
  else none
  else
  cb_let2 (f_X7_finds 3 M) fun x3 M2 =>
  some (x3, M2)
  else none
  else
  cb_let2 (f_X7_finds 1 M) fun x4 M3 =>
  some (x4, M3)
  else none
set_option maxRecDepth 100000 in
set_option maxHeartbeats 4000000 in
theorem c_X7_lacks (l : Launch) (g : cb_Geo) (p1 : Int32) (p2 : Int32) (p3 : Int32) (M : cb_Mem) {rr : Int32} {Mr : cb_Mem} (h : f_X7_lacks p1 p2 p3 M = some (rr, Mr)) : Met l yX7_lacks (.code yX7_lacks cX7_lacks 4 (some .int) :: cb_ws) (cb_rm 1) (cb_Pc cy g [.ref (g.2.1 0), .int p1, .int p2, .int p3] M) (cb_Qi cy g rr Mr) 0 0 (cb_A cy g) := by
  refine cb_met (by decide) wd_964 (Nat.le_of_ble_eq_true rfl) (fun γ hC => ?_)
  replace hC : cb_C cy g γ RX7 cX7_lacks 4 (some .int) 1 l (cb_Qi cy g rr Mr) := hC
  show cb_J cy g γ 4 M 0 [(0, .ref (g.2.1 0)), (1, .int p1), (2, .int p2), (3, .int p3)] []
  unfold f_X7_lacks at h
  refine cj_aload_n hC dX7_lacks_0 rfl 0 rfl ?_
  refine cj_get (v := .ref (g.2.1 1)) hC fa_X7_7 cy_l0_ (cy_e0 g _) rfl dX7_lacks_1 ?_
  refine cj_iload_n hC dX7_lacks_4 rfl 1 rfl ?_
  obtain ⟨i1, h⟩ := cb_g h
  refine cj_iald hC cy_l1_ (cy_e1 g _) (cy_t0 g) i1 dX7_lacks_5 ?_
  refine cj_if_ge (tgt := 15) hC dX7_lacks_6 (by decide) (fun c1 => ?_) (fun c1 => ?_)
  · replace h := cb_T c1 h
    refine cj_aload_n hC dX7_lacks_15 rfl 0 rfl ?_
    refine cj_get (v := .ref (g.2.1 1)) hC fa_X7_7 cy_l0_ (cy_e0 g _) rfl dX7_lacks_16 ?_
    refine cj_iload_n hC dX7_lacks_19 rfl 1 rfl ?_
    obtain ⟨i2, h⟩ := cb_g h
    refine cj_iald hC cy_l1_ (cy_e1 g _) (cy_t0 g) i2 dX7_lacks_20 ?_
    refine cj_iload_n hC dX7_lacks_21 rfl 2 rfl ?_
    refine cj_icmp_eq (tgt := 31) hC dX7_lacks_22 (by decide) (fun c2 => ?_) (fun c2 => ?_)
    · replace h := cb_T c2 h
      refine cj_iload_n hC dX7_lacks_31 rfl 3 rfl ?_
      refine cj_i2l hC dX7_lacks_32 ?_
      refine cj_lconst (v := 0) hC dX7_lacks_33 rfl ?_
      refine cj_aload_n hC dX7_lacks_34 rfl 0 rfl ?_
      refine cj_get (v := .ref (g.2.1 2)) hC fa_X7_13 cy_l0_ (cy_e0 g _) rfl dX7_lacks_35 ?_
      refine cj_iload_n hC dX7_lacks_38 rfl 1 rfl ?_
      obtain ⟨i3, h⟩ := cb_g h
      refine cj_iald hC cy_l2_ (cy_e2 g _) (cy_t0 g) i3 dX7_lacks_39 ?_
      refine cj_iconst (v := 1) hC dX7_lacks_40 rfl ?_
      refine cj_isub hC dX7_lacks_41 ?_
      refine cj_i2l hC dX7_lacks_42 ?_
      obtain ⟨x1, e1, h⟩ := cb_l h
      refine cj_callSi (As := [.long p3.toInt64, .long 0, .long (((M 2 p1.toNatClampNeg) - 1).toInt64)]) hC cs_X7_79 (c_X7_in l g p3.toInt64 0 (((M 2 p1.toNatClampNeg) - 1).toInt64) M e1.symm) (by decide) rfl rfl (Nat.le_of_ble_eq_true rfl) dX7_lacks_43 ?_
      refine cj_if_eq (tgt := 53) hC dX7_lacks_46 (by decide) (fun c3 => ?_) (fun c3 => ?_)
      · replace h := cb_T c3 h
        refine cj_aload_n hC dX7_lacks_53 rfl 0 rfl ?_
        refine cj_iconst (v := 2) hC dX7_lacks_54 rfl ?_
        obtain ⟨x2, M1, e2, h⟩ := cb_l2 h
        refine cj_callVi (As := [.int 2]) hC cv_X7_94 cy_l0_ (cy_e0 g _) rfl (c_X7_finds l g 2 M e2.symm) (by decide) rfl rfl (Nat.le_of_ble_eq_true rfl) dX7_lacks_55 ?_
        obtain ⟨rfl, rfl⟩ := cb_i2 h
        exact cj_iret hC dX7_lacks_58
      · replace h := cb_F c3 h
        refine cj_iconst (v := 0) hC dX7_lacks_49 rfl ?_
        refine cj_goto (tgt := 58) hC dX7_lacks_50 (by decide) ?_
        obtain ⟨rfl, rfl⟩ := cb_i2 h
        exact cj_iret hC dX7_lacks_58
    · replace h := cb_F c2 h
      refine cj_aload_n hC dX7_lacks_25 rfl 0 rfl ?_
      refine cj_iconst (v := 3) hC dX7_lacks_26 rfl ?_
      obtain ⟨x3, M2, e3, h⟩ := cb_l2 h
      refine cj_callVi (As := [.int 3]) hC cv_X7_94 cy_l0_ (cy_e0 g _) rfl (c_X7_finds l g 3 M e3.symm) (by decide) rfl rfl (Nat.le_of_ble_eq_true rfl) dX7_lacks_27 ?_
      obtain ⟨rfl, rfl⟩ := cb_i2 h
      exact cj_iret hC dX7_lacks_30
  · replace h := cb_F c1 h
    refine cj_aload_n hC dX7_lacks_9 rfl 0 rfl ?_
    refine cj_iconst (v := 1) hC dX7_lacks_10 rfl ?_
    obtain ⟨x4, M3, e4, h⟩ := cb_l2 h
    refine cj_callVi (As := [.int 1]) hC cv_X7_94 cy_l0_ (cy_e0 g _) rfl (c_X7_finds l g 1 M e4.symm) (by decide) rfl rfl (Nat.le_of_ble_eq_true rfl) dX7_lacks_11 ?_
    obtain ⟨rfl, rfl⟩ := cb_i2 h
    exact cj_iret hC dX7_lacks_14
def f_X7_cut (p1 : Int32) (p2 : Int32) : Int32 :=
  if p1 = 0 then
  p2.toInt8.toInt32
  else
  if p1 = 1 then
  p2.toInt16.toInt32
  else
  p2
set_option maxRecDepth 100000 in
set_option maxHeartbeats 4000000 in
theorem c_X7_cut (l : Launch) (g : cb_Geo) (p1 : Int32) (p2 : Int32) (M : cb_Mem) {rr : Int32} (h : f_X7_cut p1 p2 = rr) : Met l yX7_cut (.code yX7_cut cX7_cut 2 (some .int) :: cb_ws) (cb_rm 0) (cb_Pc cy g [.int p1, .int p2] M) (cb_Qi cy g rr M) 0 0 (cb_A cy g) := by
  refine cb_met (by decide) wd_967 (Nat.le_of_ble_eq_true rfl) (fun γ hC => ?_)
  replace hC : cb_C cy g γ RX7 cX7_cut 2 (some .int) 0 l (cb_Qi cy g rr M) := hC
  show cb_J cy g γ 2 M 0 [(0, .int p1), (1, .int p2)] []
  unfold f_X7_cut at h
  refine cj_iload_n hC dX7_cut_0 rfl 0 rfl ?_
  refine cj_if_ne (tgt := 9) hC dX7_cut_1 (by decide) (fun c1 => ?_) (fun c1 => ?_)
  · replace h := cb_F c1 h
    refine cj_iload_n hC dX7_cut_9 rfl 0 rfl ?_
    refine cj_iconst (v := 1) hC dX7_cut_10 rfl ?_
    refine cj_icmp_ne (tgt := 19) hC dX7_cut_11 (by decide) (fun c2 => ?_) (fun c2 => ?_)
    · replace h := cb_F c2 h
      refine cj_iload_n hC dX7_cut_19 rfl 1 rfl ?_
      obtain rfl := h
      exact cj_iret hC dX7_cut_20
    · replace h := cb_T c2 h
      refine cj_iload_n hC dX7_cut_14 rfl 1 rfl ?_
      refine cj_i2s hC dX7_cut_15 ?_
      refine cj_goto (tgt := 20) hC dX7_cut_16 (by decide) ?_
      obtain rfl := h
      exact cj_iret hC dX7_cut_20
  · replace h := cb_T c1 h
    refine cj_iload_n hC dX7_cut_4 rfl 1 rfl ?_
    refine cj_i2b hC dX7_cut_5 ?_
    refine cj_goto (tgt := 20) hC dX7_cut_6 (by decide) ?_
    obtain rfl := h
    exact cj_iret hC dX7_cut_20
def f_X7_lay (p1 : Int32) (p2 : Int32) (p3 : Int32) (p4 : Int32) (M : cb_Mem) : Option (Int32 × cb_Mem) :=
  cb_let (f_X7_isSheet p1) fun x1 =>
  if x1 = 0 then
  some (((-2) : Int32), M)
  else
  cb_let (f_X7_in p2.toInt64 0 2) fun x2 =>
  if x2 = 0 then
  some (((-2) : Int32), M)
  else
  cb_bind2 (f_X7_lacks p1 p2 p3 M) fun x3 M1 =>
  if x3 = 0 then
  cb_let (f_X7_cut p2 p4) fun x4 =>
  if cb_in ((60 * p1) + p3) 240 = true then
  cb_let (cb_up M1 3 ((60 * p1) + p3).toNatClampNeg x4) fun M2 =>
  some ((1 : Int32), M2)
  else none
  else
  some (x3, M1)
set_option maxRecDepth 100000 in
set_option maxHeartbeats 4000000 in
theorem c_X7_lay (l : Launch) (g : cb_Geo) (p1 : Int32) (p2 : Int32) (p3 : Int32) (p4 : Int32) (M : cb_Mem) {rr : Int32} {Mr : cb_Mem} (h : f_X7_lay p1 p2 p3 p4 M = some (rr, Mr)) : Met l yX7_lay (.code yX7_lay cX7_lay 6 (some .int) :: cb_ws) (cb_rm 2) (cb_Pc cy g [.ref (g.2.1 0), .int p1, .int p2, .int p3, .int p4] M) (cb_Qi cy g rr Mr) 0 0 (cb_A cy g) := by
  refine cb_met (by decide) wd_960 (Nat.le_of_ble_eq_true rfl) (fun γ hC => ?_)
  replace hC : cb_C cy g γ RX7 cX7_lay 6 (some .int) 2 l (cb_Qi cy g rr Mr) := hC
  show cb_J cy g γ 6 M 0 [(0, .ref (g.2.1 0)), (1, .int p1), (2, .int p2), (3, .int p3), (4, .int p4)] []
  unfold f_X7_lay at h
  refine cj_iload_n hC dX7_lay_0 rfl 1 rfl ?_
  obtain ⟨x1, e1, h⟩ := cb_l h
  refine cj_callSi (As := [.int p1]) hC cs_X7_88 (c_X7_isSheet l g p1 M e1.symm) (by decide) rfl rfl (Nat.le_of_ble_eq_true rfl) dX7_lay_1 ?_
  refine cj_if_eq (tgt := 19) hC dX7_lay_4 (by decide) (fun c1 => ?_) (fun c1 => ?_)
  · replace h := cb_T c1 h
    refine cj_bipush (v := (-2)) hC dX7_lay_19 rfl ?_
    obtain ⟨rfl, rfl⟩ := cb_i2 h
    exact cj_iret hC dX7_lay_21
  · replace h := cb_F c1 h
    refine cj_iload_n hC dX7_lay_7 rfl 2 rfl ?_
    refine cj_i2l hC dX7_lay_8 ?_
    refine cj_lconst (v := 0) hC dX7_lay_9 rfl ?_
    refine cj_ldc2_w (v := 2) hC wd_948 dX7_lay_10 ?_
    obtain ⟨x2, e2, h⟩ := cb_l h
    refine cj_callSi (As := [.long p2.toInt64, .long 0, .long 2]) hC cs_X7_79 (c_X7_in l g p2.toInt64 0 2 M e2.symm) (by decide) rfl rfl (Nat.le_of_ble_eq_true rfl) dX7_lay_13 ?_
    refine cj_if_ne (tgt := 22) hC dX7_lay_16 (by decide) (fun c2 => ?_) (fun c2 => ?_)
    · replace h := cb_F c2 h
      refine cj_aload_n hC dX7_lay_22 rfl 0 rfl ?_
      refine cj_iload_n hC dX7_lay_23 rfl 1 rfl ?_
      refine cj_iload_n hC dX7_lay_24 rfl 2 rfl ?_
      refine cj_iload_n hC dX7_lay_25 rfl 3 rfl ?_
      obtain ⟨x3, M1, e3, h⟩ := cb_b2 h
      refine cj_callVi (As := [.int p1, .int p2, .int p3]) hC cv_X7_98 cy_l0_ (cy_e0 g _) rfl (c_X7_lacks l g p1 p2 p3 M e3) (by decide) rfl rfl (Nat.le_of_ble_eq_true rfl) dX7_lay_26 ?_
      refine cj_istore (lv' := [(5, .int x3), (0, .ref (g.2.1 0)), (1, .int p1), (2, .int p2), (3, .int p3), (4, .int p4)]) hC dX7_lay_29 (by decide) rfl ?_
      refine cj_iload hC dX7_lay_31 0 rfl ?_
      refine cj_if_eq (tgt := 39) hC dX7_lay_33 (by decide) (fun c3 => ?_) (fun c3 => ?_)
      · replace h := cb_T c3 h
        refine cj_aload_n hC dX7_lay_39 rfl 1 rfl ?_
        refine cj_get (v := .ref (g.2.1 3)) hC fa_X7_16 cy_l0_ (cy_e0 g _) rfl dX7_lay_40 ?_
        refine cj_bipush (v := 60) hC dX7_lay_43 rfl ?_
        refine cj_iload_n hC dX7_lay_45 rfl 2 rfl ?_
        refine cj_imul hC dX7_lay_46 ?_
        refine cj_iload_n hC dX7_lay_47 rfl 4 rfl ?_
        refine cj_iadd hC dX7_lay_48 ?_
        refine cj_iload_n hC dX7_lay_49 rfl 3 rfl ?_
        refine cj_iload hC dX7_lay_50 5 rfl ?_
        obtain ⟨x4, e4, h⟩ := cb_l h
        refine cj_callSi (As := [.int p2, .int p4]) hC cs_X7_102 (c_X7_cut l g p2 p4 M1 e4.symm) (by decide) rfl rfl (Nat.le_of_ble_eq_true rfl) dX7_lay_52 ?_
        obtain ⟨i1, h⟩ := cb_g h
        obtain ⟨M2, eM2, h⟩ := cb_l h
        refine cj_iast hC cy_l3_ (cy_e3 g) (cy_t0 g) i1 eM2 dX7_lay_55 ?_
        refine cj_iconst (v := 1) hC dX7_lay_56 rfl ?_
        obtain ⟨rfl, rfl⟩ := cb_i2 h
        exact cj_iret hC dX7_lay_57
      · replace h := cb_F c3 h
        refine cj_iload hC dX7_lay_36 0 rfl ?_
        obtain ⟨rfl, rfl⟩ := cb_i2 h
        exact cj_iret hC dX7_lay_38
    · replace h := cb_T c2 h
      refine cj_bipush (v := (-2)) hC dX7_lay_19 rfl ?_
      obtain ⟨rfl, rfl⟩ := cb_i2 h
      exact cj_iret hC dX7_lay_21
def f_X7_get (p1 : Int32) (p2 : Int32) (p3 : Int32) (M : cb_Mem) : Option (Int32 × cb_Mem) :=
  cb_let (f_X7_isSheet p1) fun x1 =>
  if x1 = 0 then
  some (((-2147483648) : Int32), M)
  else
  cb_let (f_X7_in p2.toInt64 0 2) fun x2 =>
  if x2 = 0 then
  some (((-2147483648) : Int32), M)
  else
  cb_bind2 (f_X7_lacks p1 p2 p3 M) fun x3 M1 =>
  if x3 = 0 then
  if cb_in ((60 * p1) + p3) 240 = true then
  some ((M1 3 ((60 * p1) + p3).toNatClampNeg), M1)
  else none
  else
  some (((-2147483648) : Int32), M1)
set_option maxRecDepth 100000 in
set_option maxHeartbeats 4000000 in
theorem c_X7_get (l : Launch) (g : cb_Geo) (p1 : Int32) (p2 : Int32) (p3 : Int32) (M : cb_Mem) {rr : Int32} {Mr : cb_Mem} (h : f_X7_get p1 p2 p3 M = some (rr, Mr)) : Met l yX7_get (.code yX7_get cX7_get 4 (some .int) :: cb_ws) (cb_rm 2) (cb_Pc cy g [.ref (g.2.1 0), .int p1, .int p2, .int p3] M) (cb_Qi cy g rr Mr) 0 0 (cb_A cy g) := by
  refine cb_met (by decide) wd_971 (Nat.le_of_ble_eq_true rfl) (fun γ hC => ?_)
  replace hC : cb_C cy g γ RX7 cX7_get 4 (some .int) 2 l (cb_Qi cy g rr Mr) := hC
  show cb_J cy g γ 4 M 0 [(0, .ref (g.2.1 0)), (1, .int p1), (2, .int p2), (3, .int p3)] []
  unfold f_X7_get at h
  refine cj_iload_n hC dX7_get_0 rfl 1 rfl ?_
  obtain ⟨x1, e1, h⟩ := cb_l h
  refine cj_callSi (As := [.int p1]) hC cs_X7_88 (c_X7_isSheet l g p1 M e1.symm) (by decide) rfl rfl (Nat.le_of_ble_eq_true rfl) dX7_get_1 ?_
  refine cj_if_eq (tgt := 29) hC dX7_get_4 (by decide) (fun c1 => ?_) (fun c1 => ?_)
  · replace h := cb_T c1 h
    refine cj_ldc (v := (-2147483648)) hC wd_972 dX7_get_29 ?_
    obtain ⟨rfl, rfl⟩ := cb_i2 h
    exact cj_iret hC dX7_get_31
  · replace h := cb_F c1 h
    refine cj_iload_n hC dX7_get_7 rfl 2 rfl ?_
    refine cj_i2l hC dX7_get_8 ?_
    refine cj_lconst (v := 0) hC dX7_get_9 rfl ?_
    refine cj_ldc2_w (v := 2) hC wd_948 dX7_get_10 ?_
    obtain ⟨x2, e2, h⟩ := cb_l h
    refine cj_callSi (As := [.long p2.toInt64, .long 0, .long 2]) hC cs_X7_79 (c_X7_in l g p2.toInt64 0 2 M e2.symm) (by decide) rfl rfl (Nat.le_of_ble_eq_true rfl) dX7_get_13 ?_
    refine cj_if_eq (tgt := 29) hC dX7_get_16 (by decide) (fun c2 => ?_) (fun c2 => ?_)
    · replace h := cb_T c2 h
      refine cj_ldc (v := (-2147483648)) hC wd_972 dX7_get_29 ?_
      obtain ⟨rfl, rfl⟩ := cb_i2 h
      exact cj_iret hC dX7_get_31
    · replace h := cb_F c2 h
      refine cj_aload_n hC dX7_get_19 rfl 0 rfl ?_
      refine cj_iload_n hC dX7_get_20 rfl 1 rfl ?_
      refine cj_iload_n hC dX7_get_21 rfl 2 rfl ?_
      refine cj_iload_n hC dX7_get_22 rfl 3 rfl ?_
      obtain ⟨x3, M1, e3, h⟩ := cb_b2 h
      refine cj_callVi (As := [.int p1, .int p2, .int p3]) hC cv_X7_98 cy_l0_ (cy_e0 g _) rfl (c_X7_lacks l g p1 p2 p3 M e3) (by decide) rfl rfl (Nat.le_of_ble_eq_true rfl) dX7_get_23 ?_
      refine cj_if_eq (tgt := 32) hC dX7_get_26 (by decide) (fun c3 => ?_) (fun c3 => ?_)
      · replace h := cb_T c3 h
        refine cj_aload_n hC dX7_get_32 rfl 0 rfl ?_
        refine cj_get (v := .ref (g.2.1 3)) hC fa_X7_16 cy_l0_ (cy_e0 g _) rfl dX7_get_33 ?_
        refine cj_bipush (v := 60) hC dX7_get_36 rfl ?_
        refine cj_iload_n hC dX7_get_38 rfl 1 rfl ?_
        refine cj_imul hC dX7_get_39 ?_
        refine cj_iload_n hC dX7_get_40 rfl 3 rfl ?_
        refine cj_iadd hC dX7_get_41 ?_
        obtain ⟨i1, h⟩ := cb_g h
        refine cj_iald hC cy_l3_ (cy_e3 g _) (cy_t0 g) i1 dX7_get_42 ?_
        obtain ⟨rfl, rfl⟩ := cb_i2 h
        exact cj_iret hC dX7_get_43
      · replace h := cb_F c3 h
        refine cj_ldc (v := (-2147483648)) hC wd_972 dX7_get_29 ?_
        obtain ⟨rfl, rfl⟩ := cb_i2 h
        exact cj_iret hC dX7_get_31
def f_X7_copy_L120 : Nat → Int32 → Int32 → Int32 → Int32 → Int32 → Int32 → cb_Mem → Option (cb_Mem)
    | 0, _, _, _, _, _, _, _ => none
    | n + 1, v1, v2, v3, v4, v5, v6, M =>
      if v5 ≤ v6 then
      some M
      else
      if cb_in (((60 * v1) + v2) + v6) 240 = true then
      if cb_in v6 60 = true then
      cb_let (cb_up M 4 v6.toNatClampNeg (M 3 (((60 * v1) + v2) + v6).toNatClampNeg)) fun M1 =>
      f_X7_copy_L120 n v1 v2 v3 v4 v5 (v6 + 1) M1
      else none
      else none
def f_X7_copy_L157 : Nat → Int32 → Int32 → Int32 → Int32 → cb_Mem → Option (cb_Mem)
    | 0, _, _, _, _, _ => none
    | n + 1, v3, v4, v5, v6, M =>
      if v5 ≤ v6 then
      some M
      else
      if cb_in v6 60 = true then
      if cb_in (((60 * v3) + v4) + v6) 240 = true then
      cb_let (cb_up M 3 (((60 * v3) + v4) + v6).toNatClampNeg (M 4 v6.toNatClampNeg)) fun M1 =>
      f_X7_copy_L157 n v3 v4 v5 (v6 + 1) M1
      else none
      else none
def f_X7_copy (p1 : Int32) (p2 : Int32) (p3 : Int32) (p4 : Int32) (p5 : Int32) (M : cb_Mem) : Option (Int32 × cb_Mem) :=
  cb_let (f_X7_isSheet p1) fun x1 =>
  if x1 = 0 then
  some (((-2) : Int32), M)
  else
  cb_let (f_X7_isSheet p3) fun x2 =>
  if x2 = 0 then
  some (((-2) : Int32), M)
  else
  if cb_in p1 4 = true then
  cb_let (fun (_ : Unit) =>
  cb_let2 (f_X7_finds 1 M) fun x3 M1 =>
  some (x3, M1)) fun k1 =>
  if (M 1 p1.toNatClampNeg) < 0 then
  k1 ()
  else
  if cb_in p3 4 = true then
  if 0 ≤ (M 1 p3.toNatClampNeg) then
  if cb_in p1 4 = true then
  if cb_in p3 4 = true then
  if (M 1 p1.toNatClampNeg) = (M 1 p3.toNatClampNeg) then
  cb_let (fun (_ : Unit) =>
  cb_let2 (f_X7_finds 2 M) fun x4 M2 =>
  some (x4, M2)) fun k2 =>
  if p2 < 0 then
  k2 ()
  else
  if p4 < 0 then
  k2 ()
  else
  if p5 < 0 then
  k2 ()
  else
  if cb_in p1 4 = true then
  if 0 < (lg_cmp (p2.toInt64 + p5.toInt64) ((M 2 p1.toNatClampNeg).toInt64)) then
  k2 ()
  else
  if cb_in p3 4 = true then
  if (lg_cmp (p4.toInt64 + p5.toInt64) ((M 2 p3.toNatClampNeg).toInt64)) ≤ 0 then
  (f_X7_copy_L120 cb_fuel p1 p2 p3 p4 p5 0 M).bind fun M3 =>
  (f_X7_copy_L157 cb_fuel p3 p4 p5 0 M3).bind fun M4 =>
  some ((1 : Int32), M4)
  else
  k2 ()
  else none
  else none
  else
  cb_let2 (f_X7_finds 4 M) fun x5 M5 =>
  some (x5, M5)
  else none
  else none
  else
  k1 ()
  else none
  else none
set_option maxRecDepth 100000 in
set_option maxHeartbeats 4000000 in
theorem l_X7_copy_L120 {l : Launch} {g : cb_Geo} {γ : cb_Gam} {rr : Int32} {Mr : cb_Mem} (hC : cb_C cy g γ RX7 cX7_copy 7 (some .int) 2 l (cb_Qi cy g rr Mr)) (v1 : Int32) (v2 : Int32) (v3 : Int32) (v4 : Int32) (v5 : Int32) : ∀ (n : Nat) (v6 : Int32) (M : cb_Mem) (o : (cb_Mem)), f_X7_copy_L120 n v1 v2 v3 v4 v5 v6 M = some o → (∀ (M' : cb_Mem), o = M' → cb_J cy g γ 7 M' 154 [(0, .ref (g.2.1 0)), (3, .int v3), (4, .int v4), (5, .int v5)] []) → cb_J cy g γ 7 M 120 [(0, .ref (g.2.1 0)), (1, .int v1), (2, .int v2), (3, .int v3), (4, .int v4), (5, .int v5), (6, .int v6)] [] := by
  intro n
  induction n with
  | zero =>
    intro v6 M o h
    cases h
  | succ n ih =>
    intro v6 M o h hexit
    unfold f_X7_copy_L120 at h
    refine cj_iload hC dX7_copy_120 6 rfl ?_
    refine cj_iload hC dX7_copy_122 5 rfl ?_
    refine cj_icmp_ge (tgt := 154) hC dX7_copy_124 (by decide) (fun c1 => ?_) (fun c1 => ?_)
    · replace h := cb_T c1 h
      obtain rfl := Option.some.inj h
      exact cj_pick [0, 3, 4, 5] rfl (hexit _ rfl)
    · replace h := cb_F c1 h
      refine cj_aload_n hC dX7_copy_127 rfl 0 rfl ?_
      refine cj_get (v := .ref (g.2.1 4)) hC fa_X7_19 cy_l0_ (cy_e0 g _) rfl dX7_copy_128 ?_
      refine cj_iload hC dX7_copy_131 6 rfl ?_
      refine cj_aload_n hC dX7_copy_133 rfl 0 rfl ?_
      refine cj_get (v := .ref (g.2.1 3)) hC fa_X7_16 cy_l0_ (cy_e0 g _) rfl dX7_copy_134 ?_
      refine cj_bipush (v := 60) hC dX7_copy_137 rfl ?_
      refine cj_iload_n hC dX7_copy_139 rfl 1 rfl ?_
      refine cj_imul hC dX7_copy_140 ?_
      refine cj_iload_n hC dX7_copy_141 rfl 2 rfl ?_
      refine cj_iadd hC dX7_copy_142 ?_
      refine cj_iload hC dX7_copy_143 6 rfl ?_
      refine cj_iadd hC dX7_copy_145 ?_
      obtain ⟨i1, h⟩ := cb_g h
      refine cj_iald hC cy_l3_ (cy_e3 g _) (cy_t0 g) i1 dX7_copy_146 ?_
      obtain ⟨i2, h⟩ := cb_g h
      obtain ⟨M1, eM1, h⟩ := cb_l h
      refine cj_iast hC cy_l4_ (cy_e4 g) (cy_t0 g) i2 eM1 dX7_copy_147 ?_
      refine cj_iinc (lv' := [(6, .int (v6 + 1)), (0, .ref (g.2.1 0)), (1, .int v1), (2, .int v2), (3, .int v3), (4, .int v4), (5, .int v5)]) hC dX7_copy_148 (q := 6) rfl rfl (by decide) rfl ?_
      refine cj_goto (tgt := 120) hC dX7_copy_151 (by decide) ?_
      exact cj_pick [1, 2, 3, 4, 5, 6, 0] rfl (ih _ _ _ h hexit)
set_option maxRecDepth 100000 in
set_option maxHeartbeats 4000000 in
theorem l_X7_copy_L157 {l : Launch} {g : cb_Geo} {γ : cb_Gam} {rr : Int32} {Mr : cb_Mem} (hC : cb_C cy g γ RX7 cX7_copy 7 (some .int) 2 l (cb_Qi cy g rr Mr)) (v3 : Int32) (v4 : Int32) (v5 : Int32) : ∀ (n : Nat) (v6 : Int32) (M : cb_Mem) (o : (cb_Mem)), f_X7_copy_L157 n v3 v4 v5 v6 M = some o → (∀ (M' : cb_Mem), o = M' → cb_J cy g γ 7 M' 192 [] []) → cb_J cy g γ 7 M 157 [(0, .ref (g.2.1 0)), (3, .int v3), (4, .int v4), (5, .int v5), (6, .int v6)] [] := by
  intro n
  induction n with
  | zero =>
    intro v6 M o h
    cases h
  | succ n ih =>
    intro v6 M o h hexit
    unfold f_X7_copy_L157 at h
    refine cj_iload hC dX7_copy_157 4 rfl ?_
    refine cj_iload hC dX7_copy_159 3 rfl ?_
    refine cj_icmp_ge (tgt := 192) hC dX7_copy_161 (by decide) (fun c1 => ?_) (fun c1 => ?_)
    · replace h := cb_T c1 h
      obtain rfl := Option.some.inj h
      exact cj_pick [] rfl (hexit _ rfl)
    · replace h := cb_F c1 h
      refine cj_aload_n hC dX7_copy_164 rfl 0 rfl ?_
      refine cj_get (v := .ref (g.2.1 3)) hC fa_X7_16 cy_l0_ (cy_e0 g _) rfl dX7_copy_165 ?_
      refine cj_bipush (v := 60) hC dX7_copy_168 rfl ?_
      refine cj_iload_n hC dX7_copy_170 rfl 1 rfl ?_
      refine cj_imul hC dX7_copy_171 ?_
      refine cj_iload hC dX7_copy_172 2 rfl ?_
      refine cj_iadd hC dX7_copy_174 ?_
      refine cj_iload hC dX7_copy_175 4 rfl ?_
      refine cj_iadd hC dX7_copy_177 ?_
      refine cj_aload_n hC dX7_copy_178 rfl 0 rfl ?_
      refine cj_get (v := .ref (g.2.1 4)) hC fa_X7_19 cy_l0_ (cy_e0 g _) rfl dX7_copy_179 ?_
      refine cj_iload hC dX7_copy_182 4 rfl ?_
      obtain ⟨i1, h⟩ := cb_g h
      refine cj_iald hC cy_l4_ (cy_e4 g _) (cy_t0 g) i1 dX7_copy_184 ?_
      obtain ⟨i2, h⟩ := cb_g h
      obtain ⟨M1, eM1, h⟩ := cb_l h
      refine cj_iast hC cy_l3_ (cy_e3 g) (cy_t0 g) i2 eM1 dX7_copy_185 ?_
      refine cj_iinc (lv' := [(6, .int (v6 + 1)), (0, .ref (g.2.1 0)), (3, .int v3), (4, .int v4), (5, .int v5)]) hC dX7_copy_186 (q := 4) rfl rfl (by decide) rfl ?_
      refine cj_goto (tgt := 157) hC dX7_copy_189 (by decide) ?_
      exact cj_pick [1, 2, 3, 4, 0] rfl (ih _ _ _ h hexit)
set_option maxRecDepth 100000 in
set_option maxHeartbeats 4000000 in
theorem c_X7_copy (l : Launch) (g : cb_Geo) (p1 : Int32) (p2 : Int32) (p3 : Int32) (p4 : Int32) (p5 : Int32) (M : cb_Mem) {rr : Int32} {Mr : cb_Mem} (h : f_X7_copy p1 p2 p3 p4 p5 M = some (rr, Mr)) : Met l yX7_copy (.code yX7_copy cX7_copy 7 (some .int) :: cb_ws) (cb_rm 2) (cb_Pc cy g [.ref (g.2.1 0), .int p1, .int p2, .int p3, .int p4, .int p5] M) (cb_Qi cy g rr Mr) 0 0 (cb_A cy g) := by
  refine cb_met (by decide) wd_976 (Nat.le_of_ble_eq_true rfl) (fun γ hC => ?_)
  replace hC : cb_C cy g γ RX7 cX7_copy 7 (some .int) 2 l (cb_Qi cy g rr Mr) := hC
  show cb_J cy g γ 7 M 0 [(0, .ref (g.2.1 0)), (1, .int p1), (2, .int p2), (3, .int p3), (4, .int p4), (5, .int p5)] []
  unfold f_X7_copy at h
  refine cj_iload_n hC dX7_copy_0 rfl 1 rfl ?_
  obtain ⟨x1, e1, h⟩ := cb_l h
  refine cj_callSi (As := [.int p1]) hC cs_X7_88 (c_X7_isSheet l g p1 M e1.symm) (by decide) rfl rfl (Nat.le_of_ble_eq_true rfl) dX7_copy_1 ?_
  refine cj_if_eq (tgt := 14) hC dX7_copy_4 (by decide) (fun c1 => ?_) (fun c1 => ?_)
  · replace h := cb_T c1 h
    refine cj_bipush (v := (-2)) hC dX7_copy_14 rfl ?_
    obtain ⟨rfl, rfl⟩ := cb_i2 h
    exact cj_iret hC dX7_copy_16
  · replace h := cb_F c1 h
    refine cj_iload_n hC dX7_copy_7 rfl 3 rfl ?_
    obtain ⟨x2, e2, h⟩ := cb_l h
    refine cj_callSi (As := [.int p3]) hC cs_X7_88 (c_X7_isSheet l g p3 M e2.symm) (by decide) rfl rfl (Nat.le_of_ble_eq_true rfl) dX7_copy_8 ?_
    refine cj_if_ne (tgt := 17) hC dX7_copy_11 (by decide) (fun c2 => ?_) (fun c2 => ?_)
    · replace h := cb_F c2 h
      refine cj_aload_n hC dX7_copy_17 rfl 0 rfl ?_
      refine cj_get (v := .ref (g.2.1 1)) hC fa_X7_7 cy_l0_ (cy_e0 g _) rfl dX7_copy_18 ?_
      refine cj_iload_n hC dX7_copy_21 rfl 1 rfl ?_
      obtain ⟨i1, h⟩ := cb_g h
      refine cj_iald hC cy_l1_ (cy_e1 g _) (cy_t0 g) i1 dX7_copy_22 ?_
      obtain ⟨k1, ek1, h⟩ := cb_l h
      have hk1 : ∀ (u9 : Unit), k1 u9 = some (rr, Mr) → cb_J cy g γ 7 M 35 [(0, .ref (g.2.1 0))] [] := by
        intro u9 h
        replace h := cb_k1 ek1 h
        refine cj_aload_n hC dX7_copy_35 rfl 0 rfl ?_
        refine cj_iconst (v := 1) hC dX7_copy_36 rfl ?_
        obtain ⟨x3, M1, e3, h⟩ := cb_l2 h
        refine cj_callVi (As := [.int 1]) hC cv_X7_94 cy_l0_ (cy_e0 g _) rfl (c_X7_finds l g 1 M e3.symm) (by decide) rfl rfl (Nat.le_of_ble_eq_true rfl) dX7_copy_37 ?_
        obtain ⟨rfl, rfl⟩ := cb_i2 h
        exact cj_iret hC dX7_copy_40
      refine cj_if_lt (tgt := 35) hC dX7_copy_23 (by decide) (fun c3 => ?_) (fun c3 => ?_)
      · replace h := cb_T c3 h
        exact cj_pick [0] rfl (hk1 _ h)
      · replace h := cb_F c3 h
        refine cj_aload_n hC dX7_copy_26 rfl 0 rfl ?_
        refine cj_get (v := .ref (g.2.1 1)) hC fa_X7_7 cy_l0_ (cy_e0 g _) rfl dX7_copy_27 ?_
        refine cj_iload_n hC dX7_copy_30 rfl 3 rfl ?_
        obtain ⟨i2, h⟩ := cb_g h
        refine cj_iald hC cy_l1_ (cy_e1 g _) (cy_t0 g) i2 dX7_copy_31 ?_
        refine cj_if_ge (tgt := 41) hC dX7_copy_32 (by decide) (fun c4 => ?_) (fun c4 => ?_)
        · replace h := cb_T c4 h
          refine cj_aload_n hC dX7_copy_41 rfl 0 rfl ?_
          refine cj_get (v := .ref (g.2.1 1)) hC fa_X7_7 cy_l0_ (cy_e0 g _) rfl dX7_copy_42 ?_
          refine cj_iload_n hC dX7_copy_45 rfl 1 rfl ?_
          obtain ⟨i3, h⟩ := cb_g h
          refine cj_iald hC cy_l1_ (cy_e1 g _) (cy_t0 g) i3 dX7_copy_46 ?_
          refine cj_aload_n hC dX7_copy_47 rfl 0 rfl ?_
          refine cj_get (v := .ref (g.2.1 1)) hC fa_X7_7 cy_l0_ (cy_e0 g _) rfl dX7_copy_48 ?_
          refine cj_iload_n hC dX7_copy_51 rfl 3 rfl ?_
          obtain ⟨i4, h⟩ := cb_g h
          refine cj_iald hC cy_l1_ (cy_e1 g _) (cy_t0 g) i4 dX7_copy_52 ?_
          refine cj_icmp_eq (tgt := 62) hC dX7_copy_53 (by decide) (fun c5 => ?_) (fun c5 => ?_)
          · replace h := cb_T c5 h
            refine cj_iload_n hC dX7_copy_62 rfl 2 rfl ?_
            obtain ⟨k2, ek2, h⟩ := cb_l h
            have hk2 : ∀ (u9 : Unit), k2 u9 = some (rr, Mr) → cb_J cy g γ 7 M 111 [(0, .ref (g.2.1 0))] [] := by
              intro u9 h
              replace h := cb_k1 ek2 h
              refine cj_aload_n hC dX7_copy_111 rfl 0 rfl ?_
              refine cj_iconst (v := 2) hC dX7_copy_112 rfl ?_
              obtain ⟨x4, M2, e4, h⟩ := cb_l2 h
              refine cj_callVi (As := [.int 2]) hC cv_X7_94 cy_l0_ (cy_e0 g _) rfl (c_X7_finds l g 2 M e4.symm) (by decide) rfl rfl (Nat.le_of_ble_eq_true rfl) dX7_copy_113 ?_
              obtain ⟨rfl, rfl⟩ := cb_i2 h
              exact cj_iret hC dX7_copy_116
            refine cj_if_lt (tgt := 111) hC dX7_copy_63 (by decide) (fun c6 => ?_) (fun c6 => ?_)
            · replace h := cb_T c6 h
              exact cj_pick [0] rfl (hk2 _ h)
            · replace h := cb_F c6 h
              refine cj_iload hC dX7_copy_66 4 rfl ?_
              refine cj_if_lt (tgt := 111) hC dX7_copy_68 (by decide) (fun c7 => ?_) (fun c7 => ?_)
              · replace h := cb_T c7 h
                exact cj_pick [0] rfl (hk2 _ h)
              · replace h := cb_F c7 h
                refine cj_iload hC dX7_copy_71 5 rfl ?_
                refine cj_if_lt (tgt := 111) hC dX7_copy_73 (by decide) (fun c8 => ?_) (fun c8 => ?_)
                · replace h := cb_T c8 h
                  exact cj_pick [0] rfl (hk2 _ h)
                · replace h := cb_F c8 h
                  refine cj_iload_n hC dX7_copy_76 rfl 2 rfl ?_
                  refine cj_i2l hC dX7_copy_77 ?_
                  refine cj_iload hC dX7_copy_78 5 rfl ?_
                  refine cj_i2l hC dX7_copy_80 ?_
                  refine cj_ladd hC dX7_copy_81 ?_
                  refine cj_aload_n hC dX7_copy_82 rfl 0 rfl ?_
                  refine cj_get (v := .ref (g.2.1 2)) hC fa_X7_13 cy_l0_ (cy_e0 g _) rfl dX7_copy_83 ?_
                  refine cj_iload_n hC dX7_copy_86 rfl 1 rfl ?_
                  obtain ⟨i5, h⟩ := cb_g h
                  refine cj_iald hC cy_l2_ (cy_e2 g _) (cy_t0 g) i5 dX7_copy_87 ?_
                  refine cj_i2l hC dX7_copy_88 ?_
                  refine cj_lcmp hC dX7_copy_89 ?_
                  refine cj_if_gt (tgt := 111) hC dX7_copy_90 (by decide) (fun c9 => ?_) (fun c9 => ?_)
                  · replace h := cb_T c9 h
                    exact cj_pick [0] rfl (hk2 _ h)
                  · replace h := cb_F c9 h
                    refine cj_iload hC dX7_copy_93 4 rfl ?_
                    refine cj_i2l hC dX7_copy_95 ?_
                    refine cj_iload hC dX7_copy_96 5 rfl ?_
                    refine cj_i2l hC dX7_copy_98 ?_
                    refine cj_ladd hC dX7_copy_99 ?_
                    refine cj_aload_n hC dX7_copy_100 rfl 0 rfl ?_
                    refine cj_get (v := .ref (g.2.1 2)) hC fa_X7_13 cy_l0_ (cy_e0 g _) rfl dX7_copy_101 ?_
                    refine cj_iload_n hC dX7_copy_104 rfl 3 rfl ?_
                    obtain ⟨i6, h⟩ := cb_g h
                    refine cj_iald hC cy_l2_ (cy_e2 g _) (cy_t0 g) i6 dX7_copy_105 ?_
                    refine cj_i2l hC dX7_copy_106 ?_
                    refine cj_lcmp hC dX7_copy_107 ?_
                    refine cj_if_le (tgt := 117) hC dX7_copy_108 (by decide) (fun c10 => ?_) (fun c10 => ?_)
                    · replace h := cb_T c10 h
                      refine cj_iconst (v := 0) hC dX7_copy_117 rfl ?_
                      refine cj_istore (lv' := [(6, .int 0), (0, .ref (g.2.1 0)), (1, .int p1), (2, .int p2), (3, .int p3), (4, .int p4), (5, .int p5)]) hC dX7_copy_118 (by decide) rfl ?_
                      obtain ⟨M3, e5, h⟩ := cb_b h
                      refine cj_pick [1, 2, 3, 4, 5, 6, 0] rfl ?_
                      refine l_X7_copy_L120 hC p1 p2 p3 p4 p5 cb_fuel _ _ _ e5 (fun ze5 hz => ?_)
                      obtain rfl := hz
                      refine cj_iconst (v := 0) hC dX7_copy_154 rfl ?_
                      refine cj_istore (lv' := [(6, .int 0), (0, .ref (g.2.1 0)), (3, .int p3), (4, .int p4), (5, .int p5)]) hC dX7_copy_155 (by decide) rfl ?_
                      obtain ⟨M4, e6, h⟩ := cb_b h
                      refine cj_pick [1, 2, 3, 4, 0] rfl ?_
                      refine l_X7_copy_L157 hC p3 p4 p5 cb_fuel _ _ _ e6 (fun ze6 hz => ?_)
                      obtain rfl := hz
                      refine cj_iconst (v := 1) hC dX7_copy_192 rfl ?_
                      obtain ⟨rfl, rfl⟩ := cb_i2 h
                      exact cj_iret hC dX7_copy_193
                    · replace h := cb_F c10 h
                      exact cj_pick [0] rfl (hk2 _ h)
          · replace h := cb_F c5 h
            refine cj_aload_n hC dX7_copy_56 rfl 0 rfl ?_
            refine cj_iconst (v := 4) hC dX7_copy_57 rfl ?_
            obtain ⟨x5, M5, e7, h⟩ := cb_l2 h
            refine cj_callVi (As := [.int 4]) hC cv_X7_94 cy_l0_ (cy_e0 g _) rfl (c_X7_finds l g 4 M e7.symm) (by decide) rfl rfl (Nat.le_of_ble_eq_true rfl) dX7_copy_58 ?_
            obtain ⟨rfl, rfl⟩ := cb_i2 h
            exact cj_iret hC dX7_copy_61
        · replace h := cb_F c4 h
          exact cj_pick [0] rfl (hk1 _ h)
    · replace h := cb_T c2 h
      refine cj_bipush (v := (-2)) hC dX7_copy_14 rfl ?_
      obtain ⟨rfl, rfl⟩ := cb_i2 h
      exact cj_iret hC dX7_copy_16
def f_X7_type (p1 : Int32) (p2 : Int32) (M : cb_Mem) : Option (Int32 × cb_Mem) :=
  cb_let (f_X7_isTwo p1) fun x1 =>
  if x1 = 0 then
  some (((-2) : Int32), M)
  else
  cb_let (f_X7_in p2.toInt64 0 255) fun x2 =>
  if x2 = 0 then
  some (((-2) : Int32), M)
  else
  if cb_in p1 2 = true then
  cb_let (if p1 = 0 then
  (31 : Int32)
  else
  (39 : Int32)) fun x3 =>
  if (M 6 p1.toNatClampNeg) = x3 then
  some (((-4) : Int32), M)
  else
  if cb_in p1 2 = true then
  if cb_in ((40 * p1) + (M 6 p1.toNatClampNeg)) 80 = true then
  cb_let (cb_up M 5 ((40 * p1) + (M 6 p1.toNatClampNeg)).toNatClampNeg p2) fun M1 =>
  if cb_in p1 2 = true then
  if cb_in p1 2 = true then
  cb_let (cb_up M1 6 p1.toNatClampNeg ((M1 6 p1.toNatClampNeg) + 1)) fun M2 =>
  if cb_in p1 2 = true then
  some ((M2 6 p1.toNatClampNeg), M2)
  else none
  else none
  else none
  else none
  else none
  else none
set_option maxRecDepth 100000 in
set_option maxHeartbeats 4000000 in
theorem c_X7_type (l : Launch) (g : cb_Geo) (p1 : Int32) (p2 : Int32) (M : cb_Mem) {rr : Int32} {Mr : cb_Mem} (h : f_X7_type p1 p2 M = some (rr, Mr)) : Met l yX7_type (.code yX7_type cX7_type 3 (some .int) :: cb_ws) (cb_rm 2) (cb_Pc cy g [.ref (g.2.1 0), .int p1, .int p2] M) (cb_Qi cy g rr Mr) 0 0 (cb_A cy g) := by
  refine cb_met (by decide) wd_980 (Nat.le_of_ble_eq_true rfl) (fun γ hC => ?_)
  replace hC : cb_C cy g γ RX7 cX7_type 3 (some .int) 2 l (cb_Qi cy g rr Mr) := hC
  show cb_J cy g γ 3 M 0 [(0, .ref (g.2.1 0)), (1, .int p1), (2, .int p2)] []
  unfold f_X7_type at h
  refine cj_iload_n hC dX7_type_0 rfl 1 rfl ?_
  obtain ⟨x1, e1, h⟩ := cb_l h
  refine cj_callSi (As := [.int p1]) hC cs_X7_107 (c_X7_isTwo l g p1 M e1.symm) (by decide) rfl rfl (Nat.le_of_ble_eq_true rfl) dX7_type_1 ?_
  refine cj_if_eq (tgt := 19) hC dX7_type_4 (by decide) (fun c1 => ?_) (fun c1 => ?_)
  · replace h := cb_T c1 h
    refine cj_bipush (v := (-2)) hC dX7_type_19 rfl ?_
    obtain ⟨rfl, rfl⟩ := cb_i2 h
    exact cj_iret hC dX7_type_21
  · replace h := cb_F c1 h
    refine cj_iload_n hC dX7_type_7 rfl 2 rfl ?_
    refine cj_i2l hC dX7_type_8 ?_
    refine cj_lconst (v := 0) hC dX7_type_9 rfl ?_
    refine cj_ldc2_w (v := 255) hC wd_984 dX7_type_10 ?_
    obtain ⟨x2, e2, h⟩ := cb_l h
    refine cj_callSi (As := [.long p2.toInt64, .long 0, .long 255]) hC cs_X7_79 (c_X7_in l g p2.toInt64 0 255 M e2.symm) (by decide) rfl rfl (Nat.le_of_ble_eq_true rfl) dX7_type_13 ?_
    refine cj_if_ne (tgt := 22) hC dX7_type_16 (by decide) (fun c2 => ?_) (fun c2 => ?_)
    · replace h := cb_F c2 h
      refine cj_aload_n hC dX7_type_22 rfl 0 rfl ?_
      refine cj_get (v := .ref (g.2.1 6)) hC fa_X7_25 cy_l0_ (cy_e0 g _) rfl dX7_type_23 ?_
      refine cj_iload_n hC dX7_type_26 rfl 1 rfl ?_
      obtain ⟨i1, h⟩ := cb_g h
      refine cj_iald hC cy_l6_ (cy_e6 g _) (cy_t0 g) i1 dX7_type_27 ?_
      refine cj_iload_n hC dX7_type_28 rfl 1 rfl ?_
      obtain ⟨x3, hx1, h⟩ := cb_l h
      replace hx1 := hx1.symm
      have hj1 : cb_J cy g γ 3 M 39 [(0, .ref (g.2.1 0)), (1, .int p1), (2, .int p2)] [.int x3, .int (M 6 p1.toNatClampNeg)] := by
        refine cj_icmp_ne (tgt := 45) hC dX7_type_39 (by decide) (fun c4 => ?_) (fun c4 => ?_)
        · replace h := cb_F c4 h
          refine cj_aload_n hC dX7_type_45 rfl 0 rfl ?_
          refine cj_get (v := .ref (g.2.1 5)) hC fa_X7_22 cy_l0_ (cy_e0 g _) rfl dX7_type_46 ?_
          refine cj_bipush (v := 40) hC dX7_type_49 rfl ?_
          refine cj_iload_n hC dX7_type_51 rfl 1 rfl ?_
          refine cj_imul hC dX7_type_52 ?_
          refine cj_aload_n hC dX7_type_53 rfl 0 rfl ?_
          refine cj_get (v := .ref (g.2.1 6)) hC fa_X7_25 cy_l0_ (cy_e0 g _) rfl dX7_type_54 ?_
          refine cj_iload_n hC dX7_type_57 rfl 1 rfl ?_
          obtain ⟨i2, h⟩ := cb_g h
          refine cj_iald hC cy_l6_ (cy_e6 g _) (cy_t0 g) i2 dX7_type_58 ?_
          refine cj_iadd hC dX7_type_59 ?_
          refine cj_iload_n hC dX7_type_60 rfl 2 rfl ?_
          obtain ⟨i3, h⟩ := cb_g h
          obtain ⟨M1, eM1, h⟩ := cb_l h
          refine cj_iast hC cy_l5_ (cy_e5 g) (cy_t0 g) i3 eM1 dX7_type_61 ?_
          refine cj_aload_n hC dX7_type_62 rfl 0 rfl ?_
          refine cj_get (v := .ref (g.2.1 6)) hC fa_X7_25 cy_l0_ (cy_e0 g _) rfl dX7_type_63 ?_
          refine cj_iload_n hC dX7_type_66 rfl 1 rfl ?_
          refine cj_dup2 hC dX7_type_67 rfl rfl ?_
          obtain ⟨i4, h⟩ := cb_g h
          refine cj_iald hC cy_l6_ (cy_e6 g _) (cy_t0 g) i4 dX7_type_68 ?_
          refine cj_iconst (v := 1) hC dX7_type_69 rfl ?_
          refine cj_iadd hC dX7_type_70 ?_
          obtain ⟨i5, h⟩ := cb_g h
          obtain ⟨M2, eM2, h⟩ := cb_l h
          refine cj_iast hC cy_l6_ (cy_e6 g) (cy_t0 g) i5 eM2 dX7_type_71 ?_
          refine cj_aload_n hC dX7_type_72 rfl 0 rfl ?_
          refine cj_get (v := .ref (g.2.1 6)) hC fa_X7_25 cy_l0_ (cy_e0 g _) rfl dX7_type_73 ?_
          refine cj_iload_n hC dX7_type_76 rfl 1 rfl ?_
          obtain ⟨i6, h⟩ := cb_g h
          refine cj_iald hC cy_l6_ (cy_e6 g _) (cy_t0 g) i6 dX7_type_77 ?_
          obtain ⟨rfl, rfl⟩ := cb_i2 h
          exact cj_iret hC dX7_type_78
        · replace h := cb_T c4 h
          refine cj_bipush (v := (-4)) hC dX7_type_42 rfl ?_
          obtain ⟨rfl, rfl⟩ := cb_i2 h
          exact cj_iret hC dX7_type_44
      refine cj_if_ne (tgt := 37) hC dX7_type_29 (by decide) (fun c3 => ?_) (fun c3 => ?_)
      · replace hx1 := cb_F c3 hx1
        refine cj_bipush (v := 39) hC dX7_type_37 rfl ?_
        obtain rfl := hx1
        exact cj_pick [0, 1, 2] rfl hj1
      · replace hx1 := cb_T c3 hx1
        refine cj_bipush (v := 31) hC dX7_type_32 rfl ?_
        refine cj_goto (tgt := 39) hC dX7_type_34 (by decide) ?_
        obtain rfl := hx1
        exact cj_pick [0, 1, 2] rfl hj1
    · replace h := cb_T c2 h
      refine cj_bipush (v := (-2)) hC dX7_type_19 rfl ?_
      obtain ⟨rfl, rfl⟩ := cb_i2 h
      exact cj_iret hC dX7_type_21
def f_X7_wipe (p1 : Int32) (M : cb_Mem) : Option (Int32 × cb_Mem) :=
  cb_let (f_X7_isTwo p1) fun x1 =>
  if x1 = 0 then
  some (((-2) : Int32), M)
  else
  if cb_in p1 2 = true then
  cb_let ((M 6 p1.toNatClampNeg)) fun x2 =>
  if cb_in p1 2 = true then
  cb_let (cb_up M 6 p1.toNatClampNeg 0) fun M1 =>
  some (x2, M1)
  else none
  else none
set_option maxRecDepth 100000 in
set_option maxHeartbeats 4000000 in
theorem c_X7_wipe (l : Launch) (g : cb_Geo) (p1 : Int32) (M : cb_Mem) {rr : Int32} {Mr : cb_Mem} (h : f_X7_wipe p1 M = some (rr, Mr)) : Met l yX7_wipe (.code yX7_wipe cX7_wipe 3 (some .int) :: cb_ws) (cb_rm 2) (cb_Pc cy g [.ref (g.2.1 0), .int p1] M) (cb_Qi cy g rr Mr) 0 0 (cb_A cy g) := by
  refine cb_met (by decide) wd_988 (Nat.le_of_ble_eq_true rfl) (fun γ hC => ?_)
  replace hC : cb_C cy g γ RX7 cX7_wipe 3 (some .int) 2 l (cb_Qi cy g rr Mr) := hC
  show cb_J cy g γ 3 M 0 [(0, .ref (g.2.1 0)), (1, .int p1)] []
  unfold f_X7_wipe at h
  refine cj_iload_n hC dX7_wipe_0 rfl 1 rfl ?_
  obtain ⟨x1, e1, h⟩ := cb_l h
  refine cj_callSi (As := [.int p1]) hC cs_X7_107 (c_X7_isTwo l g p1 M e1.symm) (by decide) rfl rfl (Nat.le_of_ble_eq_true rfl) dX7_wipe_1 ?_
  refine cj_if_ne (tgt := 10) hC dX7_wipe_4 (by decide) (fun c1 => ?_) (fun c1 => ?_)
  · replace h := cb_F c1 h
    refine cj_aload_n hC dX7_wipe_10 rfl 0 rfl ?_
    refine cj_get (v := .ref (g.2.1 6)) hC fa_X7_25 cy_l0_ (cy_e0 g _) rfl dX7_wipe_11 ?_
    refine cj_iload_n hC dX7_wipe_14 rfl 1 rfl ?_
    obtain ⟨i1, h⟩ := cb_g h
    refine cj_iald hC cy_l6_ (cy_e6 g _) (cy_t0 g) i1 dX7_wipe_15 ?_
    obtain ⟨x2, ex2, h⟩ := cb_l h
    refine cj_topi ex2 ?_
    refine cj_istore_n (lv' := [(2, .int x2), (0, .ref (g.2.1 0)), (1, .int p1)]) hC dX7_wipe_16 rfl (by decide) rfl ?_
    refine cj_aload_n hC dX7_wipe_17 rfl 1 rfl ?_
    refine cj_get (v := .ref (g.2.1 6)) hC fa_X7_25 cy_l0_ (cy_e0 g _) rfl dX7_wipe_18 ?_
    refine cj_iload_n hC dX7_wipe_21 rfl 2 rfl ?_
    refine cj_iconst (v := 0) hC dX7_wipe_22 rfl ?_
    obtain ⟨i2, h⟩ := cb_g h
    obtain ⟨M1, eM1, h⟩ := cb_l h
    refine cj_iast hC cy_l6_ (cy_e6 g) (cy_t0 g) i2 eM1 dX7_wipe_23 ?_
    refine cj_iload_n hC dX7_wipe_24 rfl 0 rfl ?_
    obtain ⟨rfl, rfl⟩ := cb_i2 h
    exact cj_iret hC dX7_wipe_25
  · replace h := cb_T c1 h
    refine cj_bipush (v := (-2)) hC dX7_wipe_7 rfl ?_
    obtain ⟨rfl, rfl⟩ := cb_i2 h
    exact cj_iret hC dX7_wipe_9
def f_X7_undo (p1 : Int32) (M : cb_Mem) : Option (Int32 × cb_Mem) :=
  cb_let (f_X7_isTwo p1) fun x1 =>
  if x1 = 0 then
  some (((-2) : Int32), M)
  else
  if cb_in p1 2 = true then
  if (M 6 p1.toNatClampNeg) = 0 then
  some (((-3) : Int32), M)
  else
  if cb_in p1 2 = true then
  if cb_in p1 2 = true then
  cb_let (cb_up M 6 p1.toNatClampNeg ((M 6 p1.toNatClampNeg) - 1)) fun M1 =>
  if cb_in p1 2 = true then
  some ((M1 6 p1.toNatClampNeg), M1)
  else none
  else none
  else none
  else none
set_option maxRecDepth 100000 in
set_option maxHeartbeats 4000000 in
theorem c_X7_undo (l : Launch) (g : cb_Geo) (p1 : Int32) (M : cb_Mem) {rr : Int32} {Mr : cb_Mem} (h : f_X7_undo p1 M = some (rr, Mr)) : Met l yX7_undo (.code yX7_undo cX7_undo 2 (some .int) :: cb_ws) (cb_rm 2) (cb_Pc cy g [.ref (g.2.1 0), .int p1] M) (cb_Qi cy g rr Mr) 0 0 (cb_A cy g) := by
  refine cb_met (by decide) wd_992 (Nat.le_of_ble_eq_true rfl) (fun γ hC => ?_)
  replace hC : cb_C cy g γ RX7 cX7_undo 2 (some .int) 2 l (cb_Qi cy g rr Mr) := hC
  show cb_J cy g γ 2 M 0 [(0, .ref (g.2.1 0)), (1, .int p1)] []
  unfold f_X7_undo at h
  refine cj_iload_n hC dX7_undo_0 rfl 1 rfl ?_
  obtain ⟨x1, e1, h⟩ := cb_l h
  refine cj_callSi (As := [.int p1]) hC cs_X7_107 (c_X7_isTwo l g p1 M e1.symm) (by decide) rfl rfl (Nat.le_of_ble_eq_true rfl) dX7_undo_1 ?_
  refine cj_if_ne (tgt := 10) hC dX7_undo_4 (by decide) (fun c1 => ?_) (fun c1 => ?_)
  · replace h := cb_F c1 h
    refine cj_aload_n hC dX7_undo_10 rfl 0 rfl ?_
    refine cj_get (v := .ref (g.2.1 6)) hC fa_X7_25 cy_l0_ (cy_e0 g _) rfl dX7_undo_11 ?_
    refine cj_iload_n hC dX7_undo_14 rfl 1 rfl ?_
    obtain ⟨i1, h⟩ := cb_g h
    refine cj_iald hC cy_l6_ (cy_e6 g _) (cy_t0 g) i1 dX7_undo_15 ?_
    refine cj_if_ne (tgt := 22) hC dX7_undo_16 (by decide) (fun c2 => ?_) (fun c2 => ?_)
    · replace h := cb_F c2 h
      refine cj_aload_n hC dX7_undo_22 rfl 0 rfl ?_
      refine cj_get (v := .ref (g.2.1 6)) hC fa_X7_25 cy_l0_ (cy_e0 g _) rfl dX7_undo_23 ?_
      refine cj_iload_n hC dX7_undo_26 rfl 1 rfl ?_
      refine cj_dup2 hC dX7_undo_27 rfl rfl ?_
      obtain ⟨i2, h⟩ := cb_g h
      refine cj_iald hC cy_l6_ (cy_e6 g _) (cy_t0 g) i2 dX7_undo_28 ?_
      refine cj_iconst (v := 1) hC dX7_undo_29 rfl ?_
      refine cj_isub hC dX7_undo_30 ?_
      obtain ⟨i3, h⟩ := cb_g h
      obtain ⟨M1, eM1, h⟩ := cb_l h
      refine cj_iast hC cy_l6_ (cy_e6 g) (cy_t0 g) i3 eM1 dX7_undo_31 ?_
      refine cj_aload_n hC dX7_undo_32 rfl 0 rfl ?_
      refine cj_get (v := .ref (g.2.1 6)) hC fa_X7_25 cy_l0_ (cy_e0 g _) rfl dX7_undo_33 ?_
      refine cj_iload_n hC dX7_undo_36 rfl 1 rfl ?_
      obtain ⟨i4, h⟩ := cb_g h
      refine cj_iald hC cy_l6_ (cy_e6 g _) (cy_t0 g) i4 dX7_undo_37 ?_
      obtain ⟨rfl, rfl⟩ := cb_i2 h
      exact cj_iret hC dX7_undo_38
    · replace h := cb_T c2 h
      refine cj_bipush (v := (-3)) hC dX7_undo_19 rfl ?_
      obtain ⟨rfl, rfl⟩ := cb_i2 h
      exact cj_iret hC dX7_undo_21
  · replace h := cb_T c1 h
    refine cj_bipush (v := (-2)) hC dX7_undo_7 rfl ?_
    obtain ⟨rfl, rfl⟩ := cb_i2 h
    exact cj_iret hC dX7_undo_9
def f_X7_sortOf (p1 : Int32) : Int32 :=
  if p1 = 115 then
  (0 : Int32)
  else
  if p1 = 114 then
  (1 : Int32)
  else
  if p1 = 112 then
  (2 : Int32)
  else
  ((-9) : Int32)
set_option maxRecDepth 100000 in
set_option maxHeartbeats 4000000 in
theorem c_X7_sortOf (l : Launch) (g : cb_Geo) (p1 : Int32) (M : cb_Mem) {rr : Int32} (h : f_X7_sortOf p1 = rr) : Met l yX7_sortOf (.code yX7_sortOf cX7_sortOf 1 (some .int) :: cb_ws) (cb_rm 0) (cb_Pc cy g [.int p1] M) (cb_Qi cy g rr M) 0 0 (cb_A cy g) := by
  refine cb_met (by decide) wd_1006 (Nat.le_of_ble_eq_true rfl) (fun γ hC => ?_)
  replace hC : cb_C cy g γ RX7 cX7_sortOf 1 (some .int) 0 l (cb_Qi cy g rr M) := hC
  show cb_J cy g γ 1 M 0 [(0, .int p1)] []
  unfold f_X7_sortOf at h
  refine cj_iload_n hC dX7_sortOf_0 rfl 0 rfl ?_
  refine cj_bipush (v := 115) hC dX7_sortOf_1 rfl ?_
  refine cj_icmp_ne (tgt := 10) hC dX7_sortOf_3 (by decide) (fun c1 => ?_) (fun c1 => ?_)
  · replace h := cb_F c1 h
    refine cj_iload_n hC dX7_sortOf_10 rfl 0 rfl ?_
    refine cj_bipush (v := 114) hC dX7_sortOf_11 rfl ?_
    refine cj_icmp_ne (tgt := 20) hC dX7_sortOf_13 (by decide) (fun c2 => ?_) (fun c2 => ?_)
    · replace h := cb_F c2 h
      refine cj_iload_n hC dX7_sortOf_20 rfl 0 rfl ?_
      refine cj_bipush (v := 112) hC dX7_sortOf_21 rfl ?_
      refine cj_icmp_ne (tgt := 30) hC dX7_sortOf_23 (by decide) (fun c3 => ?_) (fun c3 => ?_)
      · replace h := cb_F c3 h
        refine cj_bipush (v := (-9)) hC dX7_sortOf_30 rfl ?_
        obtain rfl := h
        exact cj_iret hC dX7_sortOf_32
      · replace h := cb_T c3 h
        refine cj_iconst (v := 2) hC dX7_sortOf_26 rfl ?_
        refine cj_goto (tgt := 32) hC dX7_sortOf_27 (by decide) ?_
        obtain rfl := h
        exact cj_iret hC dX7_sortOf_32
    · replace h := cb_T c2 h
      refine cj_iconst (v := 1) hC dX7_sortOf_16 rfl ?_
      refine cj_goto (tgt := 32) hC dX7_sortOf_17 (by decide) ?_
      obtain rfl := h
      exact cj_iret hC dX7_sortOf_32
  · replace h := cb_T c1 h
    refine cj_iconst (v := 0) hC dX7_sortOf_6 rfl ?_
    refine cj_goto (tgt := 32) hC dX7_sortOf_7 (by decide) ?_
    obtain rfl := h
    exact cj_iret hC dX7_sortOf_32
def f_X7_figureOf (p1 : Int32) (p2 : Int32) (p3 : Int32) : Int32 :=
  cb_let (f_X7_in p1.toInt64 ((48 + p2).toInt64) ((48 + p3).toInt64)) fun x1 =>
  if x1 = 0 then
  ((-9) : Int32)
  else
  (p1 - 48)
set_option maxRecDepth 100000 in
set_option maxHeartbeats 4000000 in
theorem c_X7_figureOf (l : Launch) (g : cb_Geo) (p1 : Int32) (p2 : Int32) (p3 : Int32) (M : cb_Mem) {rr : Int32} (h : f_X7_figureOf p1 p2 p3 = rr) : Met l yX7_figureOf (.code yX7_figureOf cX7_figureOf 3 (some .int) :: cb_ws) (cb_rm 1) (cb_Pc cy g [.int p1, .int p2, .int p3] M) (cb_Qi cy g rr M) 0 0 (cb_A cy g) := by
  refine cb_met (by decide) wd_1009 (Nat.le_of_ble_eq_true rfl) (fun γ hC => ?_)
  replace hC : cb_C cy g γ RX7 cX7_figureOf 3 (some .int) 1 l (cb_Qi cy g rr M) := hC
  show cb_J cy g γ 3 M 0 [(0, .int p1), (1, .int p2), (2, .int p3)] []
  unfold f_X7_figureOf at h
  refine cj_iload_n hC dX7_figureOf_0 rfl 0 rfl ?_
  refine cj_i2l hC dX7_figureOf_1 ?_
  refine cj_bipush (v := 48) hC dX7_figureOf_2 rfl ?_
  refine cj_iload_n hC dX7_figureOf_4 rfl 1 rfl ?_
  refine cj_iadd hC dX7_figureOf_5 ?_
  refine cj_i2l hC dX7_figureOf_6 ?_
  refine cj_bipush (v := 48) hC dX7_figureOf_7 rfl ?_
  refine cj_iload_n hC dX7_figureOf_9 rfl 2 rfl ?_
  refine cj_iadd hC dX7_figureOf_10 ?_
  refine cj_i2l hC dX7_figureOf_11 ?_
  obtain ⟨x1, e1, h⟩ := cb_l h
  refine cj_callSi (As := [.long p1.toInt64, .long ((48 + p2).toInt64), .long ((48 + p3).toInt64)]) hC cs_X7_79 (c_X7_in l g p1.toInt64 ((48 + p2).toInt64) ((48 + p3).toInt64) M e1.symm) (by decide) rfl rfl (Nat.le_of_ble_eq_true rfl) dX7_figureOf_12 ?_
  refine cj_if_eq (tgt := 25) hC dX7_figureOf_15 (by decide) (fun c1 => ?_) (fun c1 => ?_)
  · replace h := cb_T c1 h
    refine cj_bipush (v := (-9)) hC dX7_figureOf_25 rfl ?_
    obtain rfl := h
    exact cj_iret hC dX7_figureOf_27
  · replace h := cb_F c1 h
    refine cj_iload_n hC dX7_figureOf_18 rfl 0 rfl ?_
    refine cj_bipush (v := 48) hC dX7_figureOf_19 rfl ?_
    refine cj_isub hC dX7_figureOf_21 ?_
    refine cj_goto (tgt := 27) hC dX7_figureOf_22 (by decide) ?_
    obtain rfl := h
    exact cj_iret hC dX7_figureOf_27
def f_X7_tellsOf (p1 : Int32) (p2 : Int32) (p3 : Int32) : Int32 :=
  if p2 = 0 then
  cb_let (fun (_ : Unit) =>
  cb_let (f_X7_sortOf p3) fun x4 =>
  x4) fun k1 =>
  if p1 = 1 then
  if p3 = 97 then
  (3 : Int32)
  else
  k1 ()
  else
  k1 ()
  else
  if p2 = (3 + p1) then
  if p3 = 59 then
  (0 : Int32)
  else
  ((-9) : Int32)
  else
  if p2 = 1 then
  cb_let (f_X7_figureOf p3 0 2) fun x3 =>
  x3
  else
  if p2 = 2 then
  cb_let (f_X7_figureOf p3 0 9) fun x2 =>
  x2
  else
  cb_let (f_X7_figureOf p3 1 9) fun x1 =>
  x1
set_option maxRecDepth 100000 in
set_option maxHeartbeats 4000000 in
theorem c_X7_tellsOf (l : Launch) (g : cb_Geo) (p1 : Int32) (p2 : Int32) (p3 : Int32) (M : cb_Mem) {rr : Int32} (h : f_X7_tellsOf p1 p2 p3 = rr) : Met l yX7_tellsOf (.code yX7_tellsOf cX7_tellsOf 3 (some .int) :: cb_ws) (cb_rm 2) (cb_Pc cy g [.int p1, .int p2, .int p3] M) (cb_Qi cy g rr M) 0 0 (cb_A cy g) := by
  refine cb_met (by decide) wd_1003 (Nat.le_of_ble_eq_true rfl) (fun γ hC => ?_)
  replace hC : cb_C cy g γ RX7 cX7_tellsOf 3 (some .int) 2 l (cb_Qi cy g rr M) := hC
  show cb_J cy g γ 3 M 0 [(0, .int p1), (1, .int p2), (2, .int p3)] []
  unfold f_X7_tellsOf at h
  refine cj_iload_n hC dX7_tellsOf_0 rfl 1 rfl ?_
  refine cj_if_ne (tgt := 24) hC dX7_tellsOf_1 (by decide) (fun c1 => ?_) (fun c1 => ?_)
  · replace h := cb_F c1 h
    refine cj_iload_n hC dX7_tellsOf_24 rfl 1 rfl ?_
    refine cj_iconst (v := 3) hC dX7_tellsOf_25 rfl ?_
    refine cj_iload_n hC dX7_tellsOf_26 rfl 0 rfl ?_
    refine cj_iadd hC dX7_tellsOf_27 ?_
    refine cj_icmp_ne (tgt := 44) hC dX7_tellsOf_28 (by decide) (fun c2 => ?_) (fun c2 => ?_)
    · replace h := cb_F c2 h
      refine cj_iload_n hC dX7_tellsOf_44 rfl 1 rfl ?_
      refine cj_iconst (v := 1) hC dX7_tellsOf_45 rfl ?_
      refine cj_icmp_ne (tgt := 58) hC dX7_tellsOf_46 (by decide) (fun c3 => ?_) (fun c3 => ?_)
      · replace h := cb_F c3 h
        refine cj_iload_n hC dX7_tellsOf_58 rfl 1 rfl ?_
        refine cj_iconst (v := 2) hC dX7_tellsOf_59 rfl ?_
        refine cj_icmp_ne (tgt := 73) hC dX7_tellsOf_60 (by decide) (fun c4 => ?_) (fun c4 => ?_)
        · replace h := cb_F c4 h
          refine cj_iload_n hC dX7_tellsOf_73 rfl 2 rfl ?_
          refine cj_iconst (v := 1) hC dX7_tellsOf_74 rfl ?_
          refine cj_bipush (v := 9) hC dX7_tellsOf_75 rfl ?_
          obtain ⟨x1, e1, h⟩ := cb_l h
          refine cj_callSi (As := [.int p3, .int 1, .int 9]) hC cs_X7_115 (c_X7_figureOf l g p3 1 9 M e1.symm) (by decide) rfl rfl (Nat.le_of_ble_eq_true rfl) dX7_tellsOf_77 ?_
          obtain rfl := h
          exact cj_iret hC dX7_tellsOf_80
        · replace h := cb_T c4 h
          refine cj_iload_n hC dX7_tellsOf_63 rfl 2 rfl ?_
          refine cj_iconst (v := 0) hC dX7_tellsOf_64 rfl ?_
          refine cj_bipush (v := 9) hC dX7_tellsOf_65 rfl ?_
          obtain ⟨x2, e2, h⟩ := cb_l h
          refine cj_callSi (As := [.int p3, .int 0, .int 9]) hC cs_X7_115 (c_X7_figureOf l g p3 0 9 M e2.symm) (by decide) rfl rfl (Nat.le_of_ble_eq_true rfl) dX7_tellsOf_67 ?_
          refine cj_goto (tgt := 80) hC dX7_tellsOf_70 (by decide) ?_
          obtain rfl := h
          exact cj_iret hC dX7_tellsOf_80
      · replace h := cb_T c3 h
        refine cj_iload_n hC dX7_tellsOf_49 rfl 2 rfl ?_
        refine cj_iconst (v := 0) hC dX7_tellsOf_50 rfl ?_
        refine cj_iconst (v := 2) hC dX7_tellsOf_51 rfl ?_
        obtain ⟨x3, e3, h⟩ := cb_l h
        refine cj_callSi (As := [.int p3, .int 0, .int 2]) hC cs_X7_115 (c_X7_figureOf l g p3 0 2 M e3.symm) (by decide) rfl rfl (Nat.le_of_ble_eq_true rfl) dX7_tellsOf_52 ?_
        refine cj_goto (tgt := 80) hC dX7_tellsOf_55 (by decide) ?_
        obtain rfl := h
        exact cj_iret hC dX7_tellsOf_80
    · replace h := cb_T c2 h
      refine cj_iload_n hC dX7_tellsOf_31 rfl 2 rfl ?_
      refine cj_bipush (v := 59) hC dX7_tellsOf_32 rfl ?_
      refine cj_icmp_ne (tgt := 41) hC dX7_tellsOf_34 (by decide) (fun c5 => ?_) (fun c5 => ?_)
      · replace h := cb_F c5 h
        refine cj_bipush (v := (-9)) hC dX7_tellsOf_41 rfl ?_
        obtain rfl := h
        exact cj_iret hC dX7_tellsOf_43
      · replace h := cb_T c5 h
        refine cj_iconst (v := 0) hC dX7_tellsOf_37 rfl ?_
        refine cj_goto (tgt := 43) hC dX7_tellsOf_38 (by decide) ?_
        obtain rfl := h
        exact cj_iret hC dX7_tellsOf_43
  · replace h := cb_T c1 h
    refine cj_iload_n hC dX7_tellsOf_4 rfl 0 rfl ?_
    refine cj_iconst (v := 1) hC dX7_tellsOf_5 rfl ?_
    obtain ⟨k1, ek1, h⟩ := cb_l h
    have hk1 : ∀ (u9 : Unit), k1 u9 = rr → cb_J cy g γ 3 M 19 [(2, .int p3)] [] := by
      intro u9 h
      replace h := cb_k1 ek1 h
      refine cj_iload_n hC dX7_tellsOf_19 rfl 0 rfl ?_
      obtain ⟨x4, e4, h⟩ := cb_l h
      refine cj_callSi (As := [.int p3]) hC cs_X7_112 (c_X7_sortOf l g p3 M e4.symm) (by decide) rfl rfl (Nat.le_of_ble_eq_true rfl) dX7_tellsOf_20 ?_
      obtain rfl := h
      exact cj_iret hC dX7_tellsOf_23
    refine cj_icmp_ne (tgt := 19) hC dX7_tellsOf_6 (by decide) (fun c6 => ?_) (fun c6 => ?_)
    · replace h := cb_F c6 h
      exact cj_pick [2] rfl (hk1 _ h)
    · replace h := cb_T c6 h
      refine cj_iload_n hC dX7_tellsOf_9 rfl 2 rfl ?_
      refine cj_bipush (v := 97) hC dX7_tellsOf_10 rfl ?_
      refine cj_icmp_ne (tgt := 19) hC dX7_tellsOf_12 (by decide) (fun c7 => ?_) (fun c7 => ?_)
      · replace h := cb_F c7 h
        exact cj_pick [2] rfl (hk1 _ h)
      · replace h := cb_T c7 h
        refine cj_iconst (v := 3) hC dX7_tellsOf_15 rfl ?_
        refine cj_goto (tgt := 23) hC dX7_tellsOf_16 (by decide) ?_
        obtain rfl := h
        exact cj_iret hC dX7_tellsOf_23
def f_X7_readsHeads_L14 : Nat → Int32 → Int32 → cb_Mem → Option ((Int32 × cb_Mem) ⊕ (cb_Mem))
    | 0, _, _, _ => none
    | n + 1, v1, v2, M =>
      if v1 ≤ v2 then
      some (Sum.inr M)
      else
      cb_let ((v2 - v2 / 4 * 4)) fun x1 =>
      if cb_in v2 80 = true then
      cb_let (f_X7_tellsOf 0 x1 (M 5 v2.toNatClampNeg)) fun x2 =>
      if x2 = (-9) then
      cb_let (cb_up M 0 7 0) fun M6 =>
      some (Sum.inl (v2, M6))
      else
      cb_let ((2 * (v2 / 4))) fun x3 =>
      Option.bind (if x1 = 0 then
      if cb_in x3 16 = true then
      cb_let (cb_up M 7 x3.toNatClampNeg x2) fun M5 =>
      some M5
      else none
      else
      if x1 = 1 then
      if cb_in (x3 + 1) 16 = true then
      cb_let (cb_up M 7 (x3 + 1).toNatClampNeg (10 * x2)) fun M4 =>
      some M4
      else none
      else
      if x1 = 2 then
      if cb_in (x3 + 1) 16 = true then
      if cb_in (x3 + 1) 16 = true then
      cb_let (cb_up M 7 (x3 + 1).toNatClampNeg ((M 7 (x3 + 1).toNatClampNeg) + x2)) fun M2 =>
      cb_let (cb_up M2 0 7 ((M2 0 7) + 1)) fun M3 =>
      some M3
      else none
      else none
      else
      some M) fun M1 =>
      f_X7_readsHeads_L14 n v1 (v2 + 1) M1
      else none
def f_X7_readsHeads  (M : cb_Mem) : Option (Int32 × cb_Mem) :=
  cb_let (cb_up M 0 7 0) fun M1 =>
  cb_let ((M1 6 (0 : Int32).toNatClampNeg)) fun x1 =>
  cb_bs (f_X7_readsHeads_L14 cb_fuel x1 0 M1) (fun r => some r) fun M2 =>
  if x1 ≤ 0 then
  some (((-1) : Int32), M2)
  else
  if (x1 - x1 / 4 * 4) = 3 then
  some (((-1) : Int32), M2)
  else
  cb_let (cb_up M2 0 7 0) fun M3 =>
  some (x1, M3)
set_option maxRecDepth 100000 in
set_option maxHeartbeats 4000000 in
theorem l_X7_readsHeads_L14 {l : Launch} {g : cb_Geo} {γ : cb_Gam} {rr : Int32} {Mr : cb_Mem} (hC : cb_C cy g γ RX7 cX7_readsHeads 6 (some .int) 3 l (cb_Qi cy g rr Mr)) (v1 : Int32) : ∀ (n : Nat) (v2 : Int32) (M : cb_Mem) (o : ((Int32 × cb_Mem) ⊕ (cb_Mem))), f_X7_readsHeads_L14 n v1 v2 M = some o → (∀ (u : Int32) (U : cb_Mem), o = Sum.inl (u, U) → u = rr ∧ U = Mr) → (∀ (M' : cb_Mem), o = Sum.inr M' → cb_J cy g γ 6 M' 130 [(0, .ref (g.2.1 0)), (1, .int v1)] []) → cb_J cy g γ 6 M 14 [(0, .ref (g.2.1 0)), (1, .int v1), (2, .int v2)] [] := by
  intro n
  induction n with
  | zero =>
    intro v2 M o h
    cases h
  | succ n ih =>
    intro v2 M o h hret hexit
    unfold f_X7_readsHeads_L14 at h
    refine cj_iload_n hC dX7_readsHeads_14 rfl 2 rfl ?_
    refine cj_iload_n hC dX7_readsHeads_15 rfl 1 rfl ?_
    refine cj_icmp_ge (tgt := 130) hC dX7_readsHeads_16 (by decide) (fun c1 => ?_) (fun c1 => ?_)
    · replace h := cb_T c1 h
      obtain rfl := Option.some.inj h
      exact cj_pick [0, 1] rfl (hexit _ rfl)
    · replace h := cb_F c1 h
      refine cj_iload_n hC dX7_readsHeads_19 rfl 2 rfl ?_
      refine cj_iconst (v := 4) hC dX7_readsHeads_20 rfl ?_
      refine cj_irem hC dX7_readsHeads_21 (by decide) ?_
      obtain ⟨x1, ex1, h⟩ := cb_l h
      refine cj_topi ex1 ?_
      refine cj_istore_n (lv' := [(3, .int x1), (0, .ref (g.2.1 0)), (1, .int v1), (2, .int v2)]) hC dX7_readsHeads_22 rfl (by decide) rfl ?_
      refine cj_iconst (v := 0) hC dX7_readsHeads_23 rfl ?_
      refine cj_iload_n hC dX7_readsHeads_24 rfl 0 rfl ?_
      refine cj_aload_n hC dX7_readsHeads_25 rfl 1 rfl ?_
      refine cj_get (v := .ref (g.2.1 5)) hC fa_X7_22 cy_l0_ (cy_e0 g _) rfl dX7_readsHeads_26 ?_
      refine cj_iload_n hC dX7_readsHeads_29 rfl 3 rfl ?_
      obtain ⟨i1, h⟩ := cb_g h
      refine cj_iald hC cy_l5_ (cy_e5 g _) (cy_t0 g) i1 dX7_readsHeads_30 ?_
      obtain ⟨x2, e1, h⟩ := cb_l h
      refine cj_callSi (As := [.int 0, .int x1, .int (M 5 v2.toNatClampNeg)]) hC cs_X7_121 (c_X7_tellsOf l g 0 x1 (M 5 v2.toNatClampNeg) M e1.symm) (by decide) rfl rfl (Nat.le_of_ble_eq_true rfl) dX7_readsHeads_31 ?_
      refine cj_istore (lv' := [(4, .int x2), (3, .int x1), (0, .ref (g.2.1 0)), (1, .int v1), (2, .int v2)]) hC dX7_readsHeads_34 (by decide) rfl ?_
      refine cj_iload hC dX7_readsHeads_36 0 rfl ?_
      refine cj_bipush (v := (-9)) hC dX7_readsHeads_38 rfl ?_
      refine cj_icmp_ne (tgt := 50) hC dX7_readsHeads_40 (by decide) (fun c2 => ?_) (fun c2 => ?_)
      · replace h := cb_F c2 h
        refine cj_iconst (v := 2) hC dX7_readsHeads_50 rfl ?_
        refine cj_iload_n hC dX7_readsHeads_51 rfl 4 rfl ?_
        refine cj_iconst (v := 4) hC dX7_readsHeads_52 rfl ?_
        refine cj_idiv hC dX7_readsHeads_53 (by decide) ?_
        refine cj_imul hC dX7_readsHeads_54 ?_
        obtain ⟨x3, ex3, h⟩ := cb_l h
        refine cj_topi ex3 ?_
        refine cj_istore (lv' := [(5, .int x3), (4, .int x2), (3, .int x1), (0, .ref (g.2.1 0)), (1, .int v1), (2, .int v2)]) hC dX7_readsHeads_55 (by decide) rfl ?_
        refine cj_iload_n hC dX7_readsHeads_57 rfl 2 rfl ?_
        obtain ⟨M1, hx1, h⟩ := cb_b h
        have hj1 : cb_J cy g γ 6 M1 124 [(0, .ref (g.2.1 0)), (1, .int v1), (2, .int v2)] [] := by
          refine cj_iinc (lv' := [(2, .int (v2 + 1)), (0, .ref (g.2.1 0)), (1, .int v1)]) hC dX7_readsHeads_124 (q := 2) rfl rfl (by decide) rfl ?_
          refine cj_goto (tgt := 14) hC dX7_readsHeads_127 (by decide) ?_
          exact cj_pick [1, 2, 0] rfl (ih _ _ _ h hret hexit)
        refine cj_if_ne (tgt := 73) hC dX7_readsHeads_58 (by decide) (fun c3 => ?_) (fun c3 => ?_)
        · replace hx1 := cb_F c3 hx1
          refine cj_iload_n hC dX7_readsHeads_73 rfl 2 rfl ?_
          refine cj_iconst (v := 1) hC dX7_readsHeads_74 rfl ?_
          refine cj_icmp_ne (tgt := 95) hC dX7_readsHeads_75 (by decide) (fun c4 => ?_) (fun c4 => ?_)
          · replace hx1 := cb_F c4 hx1
            refine cj_iload_n hC dX7_readsHeads_95 rfl 2 rfl ?_
            refine cj_iconst (v := 2) hC dX7_readsHeads_96 rfl ?_
            refine cj_icmp_ne (tgt := 124) hC dX7_readsHeads_97 (by decide) (fun c5 => ?_) (fun c5 => ?_)
            · replace hx1 := cb_F c5 hx1
              obtain rfl := Option.some.inj hx1
              exact cj_pick [3, 4, 5] rfl hj1
            · replace hx1 := cb_T c5 hx1
              refine cj_aload_n hC dX7_readsHeads_100 rfl 3 rfl ?_
              refine cj_get (v := .ref (g.2.1 7)) hC fa_X7_28 cy_l0_ (cy_e0 g _) rfl dX7_readsHeads_101 ?_
              refine cj_iload hC dX7_readsHeads_104 0 rfl ?_
              refine cj_iconst (v := 1) hC dX7_readsHeads_106 rfl ?_
              refine cj_iadd hC dX7_readsHeads_107 ?_
              refine cj_dup2 hC dX7_readsHeads_108 rfl rfl ?_
              obtain ⟨i2, hx1⟩ := cb_g hx1
              refine cj_iald hC cy_l7_ (cy_e7 g _) (cy_t0 g) i2 dX7_readsHeads_109 ?_
              refine cj_iload hC dX7_readsHeads_110 1 rfl ?_
              refine cj_iadd hC dX7_readsHeads_112 ?_
              obtain ⟨i3, hx1⟩ := cb_g hx1
              obtain ⟨M2, eM2, hx1⟩ := cb_l hx1
              refine cj_iast hC cy_l7_ (cy_e7 g) (cy_t0 g) i3 eM2 dX7_readsHeads_113 ?_
              refine cj_aload_n hC dX7_readsHeads_114 rfl 3 rfl ?_
              refine cj_dup hC dX7_readsHeads_115 rfl ?_
              refine cj_get (v := .int (M2 0 7)) hC fa_X7_118 cy_l0_ (cy_e0 g _) rfl dX7_readsHeads_116 ?_
              refine cj_iconst (v := 1) hC dX7_readsHeads_119 rfl ?_
              refine cj_iadd hC dX7_readsHeads_120 ?_
              obtain ⟨M3, eM3, hx1⟩ := cb_l hx1
              refine cj_put hC fp_X7_118 cy_l0_ (cy_e0 g _) rfl (Nat.le_of_ble_eq_true rfl) eM3 dX7_readsHeads_121 ?_
              obtain rfl := Option.some.inj hx1
              exact cj_pick [3, 4, 5] rfl hj1
          · replace hx1 := cb_T c4 hx1
            refine cj_aload_n hC dX7_readsHeads_78 rfl 3 rfl ?_
            refine cj_get (v := .ref (g.2.1 7)) hC fa_X7_28 cy_l0_ (cy_e0 g _) rfl dX7_readsHeads_79 ?_
            refine cj_iload hC dX7_readsHeads_82 0 rfl ?_
            refine cj_iconst (v := 1) hC dX7_readsHeads_84 rfl ?_
            refine cj_iadd hC dX7_readsHeads_85 ?_
            refine cj_bipush (v := 10) hC dX7_readsHeads_86 rfl ?_
            refine cj_iload hC dX7_readsHeads_88 1 rfl ?_
            refine cj_imul hC dX7_readsHeads_90 ?_
            obtain ⟨i4, hx1⟩ := cb_g hx1
            obtain ⟨M4, eM4, hx1⟩ := cb_l hx1
            refine cj_iast hC cy_l7_ (cy_e7 g) (cy_t0 g) i4 eM4 dX7_readsHeads_91 ?_
            refine cj_goto (tgt := 124) hC dX7_readsHeads_92 (by decide) ?_
            obtain rfl := Option.some.inj hx1
            exact cj_pick [3, 4, 5] rfl hj1
        · replace hx1 := cb_T c3 hx1
          refine cj_aload_n hC dX7_readsHeads_61 rfl 3 rfl ?_
          refine cj_get (v := .ref (g.2.1 7)) hC fa_X7_28 cy_l0_ (cy_e0 g _) rfl dX7_readsHeads_62 ?_
          refine cj_iload hC dX7_readsHeads_65 0 rfl ?_
          refine cj_iload hC dX7_readsHeads_67 1 rfl ?_
          obtain ⟨i5, hx1⟩ := cb_g hx1
          obtain ⟨M5, eM5, hx1⟩ := cb_l hx1
          refine cj_iast hC cy_l7_ (cy_e7 g) (cy_t0 g) i5 eM5 dX7_readsHeads_69 ?_
          refine cj_goto (tgt := 124) hC dX7_readsHeads_70 (by decide) ?_
          obtain rfl := Option.some.inj hx1
          exact cj_pick [3, 4, 5] rfl hj1
      · replace h := cb_T c2 h
        refine cj_aload_n hC dX7_readsHeads_43 rfl 2 rfl ?_
        refine cj_iconst (v := 0) hC dX7_readsHeads_44 rfl ?_
        obtain ⟨M6, eM6, h⟩ := cb_l h
        refine cj_put hC fp_X7_118 cy_l0_ (cy_e0 g _) rfl (Nat.le_of_ble_eq_true rfl) eM6 dX7_readsHeads_45 ?_
        refine cj_iload_n hC dX7_readsHeads_48 rfl 4 rfl ?_
        obtain rfl := Option.some.inj h
        obtain ⟨rfl, rfl⟩ := hret _ _ rfl
        exact cj_iret hC dX7_readsHeads_49
set_option maxRecDepth 100000 in
set_option maxHeartbeats 4000000 in
theorem c_X7_readsHeads (l : Launch) (g : cb_Geo)  (M : cb_Mem) {rr : Int32} {Mr : cb_Mem} (h : f_X7_readsHeads  M = some (rr, Mr)) : Met l yX7_readsHeads (.code yX7_readsHeads cX7_readsHeads 6 (some .int) :: cb_ws) (cb_rm 3) (cb_Pc cy g [.ref (g.2.1 0)] M) (cb_Qi cy g rr Mr) 0 0 (cb_A cy g) := by
  refine cb_met (by decide) wd_1000 (Nat.le_of_ble_eq_true rfl) (fun γ hC => ?_)
  replace hC : cb_C cy g γ RX7 cX7_readsHeads 6 (some .int) 3 l (cb_Qi cy g rr Mr) := hC
  show cb_J cy g γ 6 M 0 [(0, .ref (g.2.1 0))] []
  unfold f_X7_readsHeads at h
  refine cj_aload_n hC dX7_readsHeads_0 rfl 0 rfl ?_
  refine cj_iconst (v := 0) hC dX7_readsHeads_1 rfl ?_
  obtain ⟨M1, eM1, h⟩ := cb_l h
  refine cj_put hC fp_X7_118 cy_l0_ (cy_e0 g _) rfl (Nat.le_of_ble_eq_true rfl) eM1 dX7_readsHeads_2 ?_
  refine cj_aload_n hC dX7_readsHeads_5 rfl 0 rfl ?_
  refine cj_get (v := .ref (g.2.1 6)) hC fa_X7_25 cy_l0_ (cy_e0 g _) rfl dX7_readsHeads_6 ?_
  refine cj_iconst (v := 0) hC dX7_readsHeads_9 rfl ?_
  refine cj_iald hC cy_l6_ (cy_e6 g _) (cy_t0 g) (cb_in_iff.mp (by decide)) dX7_readsHeads_10 ?_
  obtain ⟨x1, ex1, h⟩ := cb_l h
  refine cj_topi ex1 ?_
  refine cj_istore_n (lv' := [(1, .int x1), (0, .ref (g.2.1 0))]) hC dX7_readsHeads_11 rfl (by decide) rfl ?_
  refine cj_iconst (v := 0) hC dX7_readsHeads_12 rfl ?_
  refine cj_istore_n (lv' := [(2, .int 0), (1, .int x1), (0, .ref (g.2.1 0))]) hC dX7_readsHeads_13 rfl (by decide) rfl ?_
  obtain ⟨z1, e1, hr1, hk1⟩ := cb_s h
  refine cj_pick [2, 1, 0] rfl ?_
  refine l_X7_readsHeads_L14 hC x1 cb_fuel _ _ _ e1 (fun u U hz => Prod.mk.inj (Option.some.inj (hr1 _ hz))) (fun M2 hz => ?_)
  replace h := hk1 M2 hz
  refine cj_iload_n hC dX7_readsHeads_130 rfl 1 rfl ?_
  refine cj_if_le (tgt := 148) hC dX7_readsHeads_131 (by decide) (fun c1 => ?_) (fun c1 => ?_)
  · replace h := cb_T c1 h
    refine cj_iconst (v := (-1)) hC dX7_readsHeads_148 rfl ?_
    obtain ⟨rfl, rfl⟩ := cb_i2 h
    exact cj_iret hC dX7_readsHeads_149
  · replace h := cb_F c1 h
    refine cj_iload_n hC dX7_readsHeads_134 rfl 1 rfl ?_
    refine cj_iconst (v := 4) hC dX7_readsHeads_135 rfl ?_
    refine cj_irem hC dX7_readsHeads_136 (by decide) ?_
    refine cj_iconst (v := 3) hC dX7_readsHeads_137 rfl ?_
    refine cj_icmp_eq (tgt := 148) hC dX7_readsHeads_138 (by decide) (fun c2 => ?_) (fun c2 => ?_)
    · replace h := cb_T c2 h
      refine cj_iconst (v := (-1)) hC dX7_readsHeads_148 rfl ?_
      obtain ⟨rfl, rfl⟩ := cb_i2 h
      exact cj_iret hC dX7_readsHeads_149
    · replace h := cb_F c2 h
      refine cj_aload_n hC dX7_readsHeads_141 rfl 0 rfl ?_
      refine cj_iconst (v := 0) hC dX7_readsHeads_142 rfl ?_
      obtain ⟨M3, eM3, h⟩ := cb_l h
      refine cj_put hC fp_X7_118 cy_l0_ (cy_e0 g _) rfl (Nat.le_of_ble_eq_true rfl) eM3 dX7_readsHeads_143 ?_
      refine cj_iload_n hC dX7_readsHeads_146 rfl 1 rfl ?_
      obtain ⟨rfl, rfl⟩ := cb_i2 h
      exact cj_iret hC dX7_readsHeads_147
def f_X7_readsCouples_L14 : Nat → Int32 → Int32 → cb_Mem → Option ((Int32 × cb_Mem) ⊕ (cb_Mem))
    | 0, _, _, _ => none
    | n + 1, v1, v2, M =>
      if v1 ≤ v2 then
      some (Sum.inr M)
      else
      cb_let ((v2 - v2 / 5 * 5)) fun x1 =>
      if cb_in (40 + v2) 80 = true then
      cb_let (f_X7_tellsOf 1 x1 (M 5 (40 + v2).toNatClampNeg)) fun x2 =>
      if x2 = (-9) then
      cb_let (cb_up M 0 9 0) fun M7 =>
      some (Sum.inl (v2, M7))
      else
      cb_let ((3 * (v2 / 5))) fun x3 =>
      Option.bind (if x1 = 0 then
      if cb_in x3 24 = true then
      cb_let (cb_up M 8 x3.toNatClampNeg x2) fun M6 =>
      some M6
      else none
      else
      if x1 = 1 then
      if cb_in (x3 + 1) 24 = true then
      cb_let (cb_up M 8 (x3 + 1).toNatClampNeg (10 * x2)) fun M5 =>
      some M5
      else none
      else
      if x1 = 2 then
      if cb_in (x3 + 1) 24 = true then
      if cb_in (x3 + 1) 24 = true then
      cb_let (cb_up M 8 (x3 + 1).toNatClampNeg ((M 8 (x3 + 1).toNatClampNeg) + x2)) fun M4 =>
      some M4
      else none
      else none
      else
      if x1 = 3 then
      if cb_in (x3 + 2) 24 = true then
      cb_let (cb_up M 8 (x3 + 2).toNatClampNeg x2) fun M2 =>
      cb_let (cb_up M2 0 9 ((M2 0 9) + 1)) fun M3 =>
      some M3
      else none
      else
      some M) fun M1 =>
      f_X7_readsCouples_L14 n v1 (v2 + 1) M1
      else none
def f_X7_readsCouples  (M : cb_Mem) : Option (Int32 × cb_Mem) :=
  cb_let (cb_up M 0 9 0) fun M1 =>
  cb_let ((M1 6 (1 : Int32).toNatClampNeg)) fun x1 =>
  cb_bs (f_X7_readsCouples_L14 cb_fuel x1 0 M1) (fun r => some r) fun M2 =>
  if x1 ≤ 0 then
  some (((-1) : Int32), M2)
  else
  if (x1 - x1 / 5 * 5) = 4 then
  some (((-1) : Int32), M2)
  else
  cb_let (cb_up M2 0 9 0) fun M3 =>
  some (x1, M3)
set_option maxRecDepth 100000 in
set_option maxHeartbeats 4000000 in
theorem l_X7_readsCouples_L14 {l : Launch} {g : cb_Geo} {γ : cb_Gam} {rr : Int32} {Mr : cb_Mem} (hC : cb_C cy g γ RX7 cX7_readsCouples 6 (some .int) 3 l (cb_Qi cy g rr Mr)) (v1 : Int32) : ∀ (n : Nat) (v2 : Int32) (M : cb_Mem) (o : ((Int32 × cb_Mem) ⊕ (cb_Mem))), f_X7_readsCouples_L14 n v1 v2 M = some o → (∀ (u : Int32) (U : cb_Mem), o = Sum.inl (u, U) → u = rr ∧ U = Mr) → (∀ (M' : cb_Mem), o = Sum.inr M' → cb_J cy g γ 6 M' 152 [(0, .ref (g.2.1 0)), (1, .int v1)] []) → cb_J cy g γ 6 M 14 [(0, .ref (g.2.1 0)), (1, .int v1), (2, .int v2)] [] := by
  intro n
  induction n with
  | zero =>
    intro v2 M o h
    cases h
  | succ n ih =>
    intro v2 M o h hret hexit
    unfold f_X7_readsCouples_L14 at h
    refine cj_iload_n hC dX7_readsCouples_14 rfl 2 rfl ?_
    refine cj_iload_n hC dX7_readsCouples_15 rfl 1 rfl ?_
    refine cj_icmp_ge (tgt := 152) hC dX7_readsCouples_16 (by decide) (fun c1 => ?_) (fun c1 => ?_)
    · replace h := cb_T c1 h
      obtain rfl := Option.some.inj h
      exact cj_pick [0, 1] rfl (hexit _ rfl)
    · replace h := cb_F c1 h
      refine cj_iload_n hC dX7_readsCouples_19 rfl 2 rfl ?_
      refine cj_iconst (v := 5) hC dX7_readsCouples_20 rfl ?_
      refine cj_irem hC dX7_readsCouples_21 (by decide) ?_
      obtain ⟨x1, ex1, h⟩ := cb_l h
      refine cj_topi ex1 ?_
      refine cj_istore_n (lv' := [(3, .int x1), (0, .ref (g.2.1 0)), (1, .int v1), (2, .int v2)]) hC dX7_readsCouples_22 rfl (by decide) rfl ?_
      refine cj_iconst (v := 1) hC dX7_readsCouples_23 rfl ?_
      refine cj_iload_n hC dX7_readsCouples_24 rfl 0 rfl ?_
      refine cj_aload_n hC dX7_readsCouples_25 rfl 1 rfl ?_
      refine cj_get (v := .ref (g.2.1 5)) hC fa_X7_22 cy_l0_ (cy_e0 g _) rfl dX7_readsCouples_26 ?_
      refine cj_bipush (v := 40) hC dX7_readsCouples_29 rfl ?_
      refine cj_iload_n hC dX7_readsCouples_31 rfl 3 rfl ?_
      refine cj_iadd hC dX7_readsCouples_32 ?_
      obtain ⟨i1, h⟩ := cb_g h
      refine cj_iald hC cy_l5_ (cy_e5 g _) (cy_t0 g) i1 dX7_readsCouples_33 ?_
      obtain ⟨x2, e1, h⟩ := cb_l h
      refine cj_callSi (As := [.int 1, .int x1, .int (M 5 (40 + v2).toNatClampNeg)]) hC cs_X7_121 (c_X7_tellsOf l g 1 x1 (M 5 (40 + v2).toNatClampNeg) M e1.symm) (by decide) rfl rfl (Nat.le_of_ble_eq_true rfl) dX7_readsCouples_34 ?_
      refine cj_istore (lv' := [(4, .int x2), (3, .int x1), (0, .ref (g.2.1 0)), (1, .int v1), (2, .int v2)]) hC dX7_readsCouples_37 (by decide) rfl ?_
      refine cj_iload hC dX7_readsCouples_39 0 rfl ?_
      refine cj_bipush (v := (-9)) hC dX7_readsCouples_41 rfl ?_
      refine cj_icmp_ne (tgt := 53) hC dX7_readsCouples_43 (by decide) (fun c2 => ?_) (fun c2 => ?_)
      · replace h := cb_F c2 h
        refine cj_iconst (v := 3) hC dX7_readsCouples_53 rfl ?_
        refine cj_iload_n hC dX7_readsCouples_54 rfl 4 rfl ?_
        refine cj_iconst (v := 5) hC dX7_readsCouples_55 rfl ?_
        refine cj_idiv hC dX7_readsCouples_56 (by decide) ?_
        refine cj_imul hC dX7_readsCouples_57 ?_
        obtain ⟨x3, ex3, h⟩ := cb_l h
        refine cj_topi ex3 ?_
        refine cj_istore (lv' := [(5, .int x3), (4, .int x2), (3, .int x1), (0, .ref (g.2.1 0)), (1, .int v1), (2, .int v2)]) hC dX7_readsCouples_58 (by decide) rfl ?_
        refine cj_iload_n hC dX7_readsCouples_60 rfl 2 rfl ?_
        obtain ⟨M1, hx1, h⟩ := cb_b h
        have hj1 : cb_J cy g γ 6 M1 146 [(0, .ref (g.2.1 0)), (1, .int v1), (2, .int v2)] [] := by
          refine cj_iinc (lv' := [(2, .int (v2 + 1)), (0, .ref (g.2.1 0)), (1, .int v1)]) hC dX7_readsCouples_146 (q := 2) rfl rfl (by decide) rfl ?_
          refine cj_goto (tgt := 14) hC dX7_readsCouples_149 (by decide) ?_
          exact cj_pick [1, 2, 0] rfl (ih _ _ _ h hret hexit)
        refine cj_if_ne (tgt := 76) hC dX7_readsCouples_61 (by decide) (fun c3 => ?_) (fun c3 => ?_)
        · replace hx1 := cb_F c3 hx1
          refine cj_iload_n hC dX7_readsCouples_76 rfl 2 rfl ?_
          refine cj_iconst (v := 1) hC dX7_readsCouples_77 rfl ?_
          refine cj_icmp_ne (tgt := 98) hC dX7_readsCouples_78 (by decide) (fun c4 => ?_) (fun c4 => ?_)
          · replace hx1 := cb_F c4 hx1
            refine cj_iload_n hC dX7_readsCouples_98 rfl 2 rfl ?_
            refine cj_iconst (v := 2) hC dX7_readsCouples_99 rfl ?_
            refine cj_icmp_ne (tgt := 120) hC dX7_readsCouples_100 (by decide) (fun c5 => ?_) (fun c5 => ?_)
            · replace hx1 := cb_F c5 hx1
              refine cj_iload_n hC dX7_readsCouples_120 rfl 2 rfl ?_
              refine cj_iconst (v := 3) hC dX7_readsCouples_121 rfl ?_
              refine cj_icmp_ne (tgt := 146) hC dX7_readsCouples_122 (by decide) (fun c6 => ?_) (fun c6 => ?_)
              · replace hx1 := cb_F c6 hx1
                obtain rfl := Option.some.inj hx1
                exact cj_pick [3, 4, 5] rfl hj1
              · replace hx1 := cb_T c6 hx1
                refine cj_aload_n hC dX7_readsCouples_125 rfl 3 rfl ?_
                refine cj_get (v := .ref (g.2.1 8)) hC fa_X7_31 cy_l0_ (cy_e0 g _) rfl dX7_readsCouples_126 ?_
                refine cj_iload hC dX7_readsCouples_129 0 rfl ?_
                refine cj_iconst (v := 2) hC dX7_readsCouples_131 rfl ?_
                refine cj_iadd hC dX7_readsCouples_132 ?_
                refine cj_iload hC dX7_readsCouples_133 1 rfl ?_
                obtain ⟨i2, hx1⟩ := cb_g hx1
                obtain ⟨M2, eM2, hx1⟩ := cb_l hx1
                refine cj_iast hC cy_l8_ (cy_e8 g) (cy_t0 g) i2 eM2 dX7_readsCouples_135 ?_
                refine cj_aload_n hC dX7_readsCouples_136 rfl 3 rfl ?_
                refine cj_dup hC dX7_readsCouples_137 rfl ?_
                refine cj_get (v := .int (M2 0 9)) hC fa_X7_124 cy_l0_ (cy_e0 g _) rfl dX7_readsCouples_138 ?_
                refine cj_iconst (v := 1) hC dX7_readsCouples_141 rfl ?_
                refine cj_iadd hC dX7_readsCouples_142 ?_
                obtain ⟨M3, eM3, hx1⟩ := cb_l hx1
                refine cj_put hC fp_X7_124 cy_l0_ (cy_e0 g _) rfl (Nat.le_of_ble_eq_true rfl) eM3 dX7_readsCouples_143 ?_
                obtain rfl := Option.some.inj hx1
                exact cj_pick [3, 4, 5] rfl hj1
            · replace hx1 := cb_T c5 hx1
              refine cj_aload_n hC dX7_readsCouples_103 rfl 3 rfl ?_
              refine cj_get (v := .ref (g.2.1 8)) hC fa_X7_31 cy_l0_ (cy_e0 g _) rfl dX7_readsCouples_104 ?_
              refine cj_iload hC dX7_readsCouples_107 0 rfl ?_
              refine cj_iconst (v := 1) hC dX7_readsCouples_109 rfl ?_
              refine cj_iadd hC dX7_readsCouples_110 ?_
              refine cj_dup2 hC dX7_readsCouples_111 rfl rfl ?_
              obtain ⟨i3, hx1⟩ := cb_g hx1
              refine cj_iald hC cy_l8_ (cy_e8 g _) (cy_t0 g) i3 dX7_readsCouples_112 ?_
              refine cj_iload hC dX7_readsCouples_113 1 rfl ?_
              refine cj_iadd hC dX7_readsCouples_115 ?_
              obtain ⟨i4, hx1⟩ := cb_g hx1
              obtain ⟨M4, eM4, hx1⟩ := cb_l hx1
              refine cj_iast hC cy_l8_ (cy_e8 g) (cy_t0 g) i4 eM4 dX7_readsCouples_116 ?_
              refine cj_goto (tgt := 146) hC dX7_readsCouples_117 (by decide) ?_
              obtain rfl := Option.some.inj hx1
              exact cj_pick [3, 4, 5] rfl hj1
          · replace hx1 := cb_T c4 hx1
            refine cj_aload_n hC dX7_readsCouples_81 rfl 3 rfl ?_
            refine cj_get (v := .ref (g.2.1 8)) hC fa_X7_31 cy_l0_ (cy_e0 g _) rfl dX7_readsCouples_82 ?_
            refine cj_iload hC dX7_readsCouples_85 0 rfl ?_
            refine cj_iconst (v := 1) hC dX7_readsCouples_87 rfl ?_
            refine cj_iadd hC dX7_readsCouples_88 ?_
            refine cj_bipush (v := 10) hC dX7_readsCouples_89 rfl ?_
            refine cj_iload hC dX7_readsCouples_91 1 rfl ?_
            refine cj_imul hC dX7_readsCouples_93 ?_
            obtain ⟨i5, hx1⟩ := cb_g hx1
            obtain ⟨M5, eM5, hx1⟩ := cb_l hx1
            refine cj_iast hC cy_l8_ (cy_e8 g) (cy_t0 g) i5 eM5 dX7_readsCouples_94 ?_
            refine cj_goto (tgt := 146) hC dX7_readsCouples_95 (by decide) ?_
            obtain rfl := Option.some.inj hx1
            exact cj_pick [3, 4, 5] rfl hj1
        · replace hx1 := cb_T c3 hx1
          refine cj_aload_n hC dX7_readsCouples_64 rfl 3 rfl ?_
          refine cj_get (v := .ref (g.2.1 8)) hC fa_X7_31 cy_l0_ (cy_e0 g _) rfl dX7_readsCouples_65 ?_
          refine cj_iload hC dX7_readsCouples_68 0 rfl ?_
          refine cj_iload hC dX7_readsCouples_70 1 rfl ?_
          obtain ⟨i6, hx1⟩ := cb_g hx1
          obtain ⟨M6, eM6, hx1⟩ := cb_l hx1
          refine cj_iast hC cy_l8_ (cy_e8 g) (cy_t0 g) i6 eM6 dX7_readsCouples_72 ?_
          refine cj_goto (tgt := 146) hC dX7_readsCouples_73 (by decide) ?_
          obtain rfl := Option.some.inj hx1
          exact cj_pick [3, 4, 5] rfl hj1
      · replace h := cb_T c2 h
        refine cj_aload_n hC dX7_readsCouples_46 rfl 2 rfl ?_
        refine cj_iconst (v := 0) hC dX7_readsCouples_47 rfl ?_
        obtain ⟨M7, eM7, h⟩ := cb_l h
        refine cj_put hC fp_X7_124 cy_l0_ (cy_e0 g _) rfl (Nat.le_of_ble_eq_true rfl) eM7 dX7_readsCouples_48 ?_
        refine cj_iload_n hC dX7_readsCouples_51 rfl 4 rfl ?_
        obtain rfl := Option.some.inj h
        obtain ⟨rfl, rfl⟩ := hret _ _ rfl
        exact cj_iret hC dX7_readsCouples_52
set_option maxRecDepth 100000 in
set_option maxHeartbeats 4000000 in
theorem c_X7_readsCouples (l : Launch) (g : cb_Geo)  (M : cb_Mem) {rr : Int32} {Mr : cb_Mem} (h : f_X7_readsCouples  M = some (rr, Mr)) : Met l yX7_readsCouples (.code yX7_readsCouples cX7_readsCouples 6 (some .int) :: cb_ws) (cb_rm 3) (cb_Pc cy g [.ref (g.2.1 0)] M) (cb_Qi cy g rr Mr) 0 0 (cb_A cy g) := by
  refine cb_met (by decide) wd_1013 (Nat.le_of_ble_eq_true rfl) (fun γ hC => ?_)
  replace hC : cb_C cy g γ RX7 cX7_readsCouples 6 (some .int) 3 l (cb_Qi cy g rr Mr) := hC
  show cb_J cy g γ 6 M 0 [(0, .ref (g.2.1 0))] []
  unfold f_X7_readsCouples at h
  refine cj_aload_n hC dX7_readsCouples_0 rfl 0 rfl ?_
  refine cj_iconst (v := 0) hC dX7_readsCouples_1 rfl ?_
  obtain ⟨M1, eM1, h⟩ := cb_l h
  refine cj_put hC fp_X7_124 cy_l0_ (cy_e0 g _) rfl (Nat.le_of_ble_eq_true rfl) eM1 dX7_readsCouples_2 ?_
  refine cj_aload_n hC dX7_readsCouples_5 rfl 0 rfl ?_
  refine cj_get (v := .ref (g.2.1 6)) hC fa_X7_25 cy_l0_ (cy_e0 g _) rfl dX7_readsCouples_6 ?_
  refine cj_iconst (v := 1) hC dX7_readsCouples_9 rfl ?_
  refine cj_iald hC cy_l6_ (cy_e6 g _) (cy_t0 g) (cb_in_iff.mp (by decide)) dX7_readsCouples_10 ?_
  obtain ⟨x1, ex1, h⟩ := cb_l h
  refine cj_topi ex1 ?_
  refine cj_istore_n (lv' := [(1, .int x1), (0, .ref (g.2.1 0))]) hC dX7_readsCouples_11 rfl (by decide) rfl ?_
  refine cj_iconst (v := 0) hC dX7_readsCouples_12 rfl ?_
  refine cj_istore_n (lv' := [(2, .int 0), (1, .int x1), (0, .ref (g.2.1 0))]) hC dX7_readsCouples_13 rfl (by decide) rfl ?_
  obtain ⟨z1, e1, hr1, hk1⟩ := cb_s h
  refine cj_pick [2, 1, 0] rfl ?_
  refine l_X7_readsCouples_L14 hC x1 cb_fuel _ _ _ e1 (fun u U hz => Prod.mk.inj (Option.some.inj (hr1 _ hz))) (fun M2 hz => ?_)
  replace h := hk1 M2 hz
  refine cj_iload_n hC dX7_readsCouples_152 rfl 1 rfl ?_
  refine cj_if_le (tgt := 170) hC dX7_readsCouples_153 (by decide) (fun c1 => ?_) (fun c1 => ?_)
  · replace h := cb_T c1 h
    refine cj_iconst (v := (-1)) hC dX7_readsCouples_170 rfl ?_
    obtain ⟨rfl, rfl⟩ := cb_i2 h
    exact cj_iret hC dX7_readsCouples_171
  · replace h := cb_F c1 h
    refine cj_iload_n hC dX7_readsCouples_156 rfl 1 rfl ?_
    refine cj_iconst (v := 5) hC dX7_readsCouples_157 rfl ?_
    refine cj_irem hC dX7_readsCouples_158 (by decide) ?_
    refine cj_iconst (v := 4) hC dX7_readsCouples_159 rfl ?_
    refine cj_icmp_eq (tgt := 170) hC dX7_readsCouples_160 (by decide) (fun c2 => ?_) (fun c2 => ?_)
    · replace h := cb_T c2 h
      refine cj_iconst (v := (-1)) hC dX7_readsCouples_170 rfl ?_
      obtain ⟨rfl, rfl⟩ := cb_i2 h
      exact cj_iret hC dX7_readsCouples_171
    · replace h := cb_F c2 h
      refine cj_aload_n hC dX7_readsCouples_163 rfl 0 rfl ?_
      refine cj_iconst (v := 0) hC dX7_readsCouples_164 rfl ?_
      obtain ⟨M3, eM3, h⟩ := cb_l h
      refine cj_put hC fp_X7_124 cy_l0_ (cy_e0 g _) rfl (Nat.le_of_ble_eq_true rfl) eM3 dX7_readsCouples_165 ?_
      refine cj_iload_n hC dX7_readsCouples_168 rfl 1 rfl ?_
      obtain ⟨rfl, rfl⟩ := cb_i2 h
      exact cj_iret hC dX7_readsCouples_169
def f_X7_fault (p1 : Int32) (M : cb_Mem) : Option (Int32 × cb_Mem) :=
  cb_let (f_X7_isTwo p1) fun x1 =>
  if x1 = 0 then
  some (((-2) : Int32), M)
  else
  if p1 = 0 then
  cb_bind2 (f_X7_readsHeads  M) fun x3 M2 =>
  some (x3, M2)
  else
  cb_bind2 (f_X7_readsCouples  M) fun x2 M1 =>
  some (x2, M1)
set_option maxRecDepth 100000 in
set_option maxHeartbeats 4000000 in
theorem c_X7_fault (l : Launch) (g : cb_Geo) (p1 : Int32) (M : cb_Mem) {rr : Int32} {Mr : cb_Mem} (h : f_X7_fault p1 M = some (rr, Mr)) : Met l yX7_fault (.code yX7_fault cX7_fault 2 (some .int) :: cb_ws) (cb_rm 4) (cb_Pc cy g [.ref (g.2.1 0), .int p1] M) (cb_Qi cy g rr Mr) 0 0 (cb_A cy g) := by
  refine cb_met (by decide) wd_996 (Nat.le_of_ble_eq_true rfl) (fun γ hC => ?_)
  replace hC : cb_C cy g γ RX7 cX7_fault 2 (some .int) 4 l (cb_Qi cy g rr Mr) := hC
  show cb_J cy g γ 2 M 0 [(0, .ref (g.2.1 0)), (1, .int p1)] []
  unfold f_X7_fault at h
  refine cj_iload_n hC dX7_fault_0 rfl 1 rfl ?_
  obtain ⟨x1, e1, h⟩ := cb_l h
  refine cj_callSi (As := [.int p1]) hC cs_X7_107 (c_X7_isTwo l g p1 M e1.symm) (by decide) rfl rfl (Nat.le_of_ble_eq_true rfl) dX7_fault_1 ?_
  refine cj_if_ne (tgt := 12) hC dX7_fault_4 (by decide) (fun c1 => ?_) (fun c1 => ?_)
  · replace h := cb_F c1 h
    refine cj_iload_n hC dX7_fault_12 rfl 1 rfl ?_
    refine cj_if_ne (tgt := 23) hC dX7_fault_13 (by decide) (fun c2 => ?_) (fun c2 => ?_)
    · replace h := cb_F c2 h
      refine cj_aload_n hC dX7_fault_23 rfl 0 rfl ?_
      obtain ⟨x2, M1, e2, h⟩ := cb_b2 h
      refine cj_callVi (As := []) hC cv_X7_131 cy_l0_ (cy_e0 g _) rfl (c_X7_readsCouples l g  M e2) (by decide) rfl rfl (Nat.le_of_ble_eq_true rfl) dX7_fault_24 ?_
      obtain ⟨rfl, rfl⟩ := cb_i2 h
      exact cj_iret hC dX7_fault_27
    · replace h := cb_T c2 h
      refine cj_aload_n hC dX7_fault_16 rfl 0 rfl ?_
      obtain ⟨x3, M2, e3, h⟩ := cb_b2 h
      refine cj_callVi (As := []) hC cv_X7_127 cy_l0_ (cy_e0 g _) rfl (c_X7_readsHeads l g  M e3) (by decide) rfl rfl (Nat.le_of_ble_eq_true rfl) dX7_fault_17 ?_
      refine cj_goto (tgt := 27) hC dX7_fault_20 (by decide) ?_
      obtain ⟨rfl, rfl⟩ := cb_i2 h
      exact cj_iret hC dX7_fault_27
  · replace h := cb_T c1 h
    refine cj_bipush (v := (-2)) hC dX7_fault_7 rfl ?_
    refine cj_goto (tgt := 27) hC dX7_fault_9 (by decide) ?_
    obtain ⟨rfl, rfl⟩ := cb_i2 h
    exact cj_iret hC dX7_fault_27
def f_X7_isHead (p1 : Int32) (M : cb_Mem) : Int32 :=
  cb_let (f_X7_in p1.toInt64 0 (((M 0 7) - 1).toInt64)) fun x1 =>
  (x1 &&& 1)
set_option maxRecDepth 100000 in
set_option maxHeartbeats 4000000 in
theorem c_X7_isHead (l : Launch) (g : cb_Geo) (p1 : Int32) (M : cb_Mem) {rr : Int32} (h : f_X7_isHead p1 M = rr) : Met l yX7_isHead (.code yX7_isHead cX7_isHead 2 (some .boolean) :: cb_ws) (cb_rm 1) (cb_Pc cy g [.ref (g.2.1 0), .int p1] M) (cb_Qi cy g rr M) 0 0 (cb_A cy g) := by
  refine cb_met (by decide) wd_1021 (Nat.le_of_ble_eq_true rfl) (fun γ hC => ?_)
  replace hC : cb_C cy g γ RX7 cX7_isHead 2 (some .boolean) 1 l (cb_Qi cy g rr M) := hC
  show cb_J cy g γ 2 M 0 [(0, .ref (g.2.1 0)), (1, .int p1)] []
  unfold f_X7_isHead at h
  refine cj_iload_n hC dX7_isHead_0 rfl 1 rfl ?_
  refine cj_i2l hC dX7_isHead_1 ?_
  refine cj_lconst (v := 0) hC dX7_isHead_2 rfl ?_
  refine cj_aload_n hC dX7_isHead_3 rfl 0 rfl ?_
  refine cj_get (v := .int (M 0 7)) hC fa_X7_118 cy_l0_ (cy_e0 g _) rfl dX7_isHead_4 ?_
  refine cj_iconst (v := 1) hC dX7_isHead_7 rfl ?_
  refine cj_isub hC dX7_isHead_8 ?_
  refine cj_i2l hC dX7_isHead_9 ?_
  obtain ⟨x1, e1, h⟩ := cb_l h
  refine cj_callSi (As := [.long p1.toInt64, .long 0, .long (((M 0 7) - 1).toInt64)]) hC cs_X7_79 (c_X7_in l g p1.toInt64 0 (((M 0 7) - 1).toInt64) M e1.symm) (by decide) rfl rfl (Nat.le_of_ble_eq_true rfl) dX7_isHead_10 ?_
  obtain rfl := h
  exact cj_zret2 hC dX7_isHead_13
def f_X7_isCouple (p1 : Int32) (M : cb_Mem) : Int32 :=
  cb_let (f_X7_in p1.toInt64 0 (((M 0 9) - 1).toInt64)) fun x1 =>
  (x1 &&& 1)
set_option maxRecDepth 100000 in
set_option maxHeartbeats 4000000 in
theorem c_X7_isCouple (l : Launch) (g : cb_Geo) (p1 : Int32) (M : cb_Mem) {rr : Int32} (h : f_X7_isCouple p1 M = rr) : Met l yX7_isCouple (.code yX7_isCouple cX7_isCouple 2 (some .boolean) :: cb_ws) (cb_rm 1) (cb_Pc cy g [.ref (g.2.1 0), .int p1] M) (cb_Qi cy g rr M) 0 0 (cb_A cy g) := by
  refine cb_met (by decide) wd_1029 (Nat.le_of_ble_eq_true rfl) (fun γ hC => ?_)
  replace hC : cb_C cy g γ RX7 cX7_isCouple 2 (some .boolean) 1 l (cb_Qi cy g rr M) := hC
  show cb_J cy g γ 2 M 0 [(0, .ref (g.2.1 0)), (1, .int p1)] []
  unfold f_X7_isCouple at h
  refine cj_iload_n hC dX7_isCouple_0 rfl 1 rfl ?_
  refine cj_i2l hC dX7_isCouple_1 ?_
  refine cj_lconst (v := 0) hC dX7_isCouple_2 rfl ?_
  refine cj_aload_n hC dX7_isCouple_3 rfl 0 rfl ?_
  refine cj_get (v := .int (M 0 9)) hC fa_X7_124 cy_l0_ (cy_e0 g _) rfl dX7_isCouple_4 ?_
  refine cj_iconst (v := 1) hC dX7_isCouple_7 rfl ?_
  refine cj_isub hC dX7_isCouple_8 ?_
  refine cj_i2l hC dX7_isCouple_9 ?_
  obtain ⟨x1, e1, h⟩ := cb_l h
  refine cj_callSi (As := [.long p1.toInt64, .long 0, .long (((M 0 9) - 1).toInt64)]) hC cs_X7_79 (c_X7_in l g p1.toInt64 0 (((M 0 9) - 1).toInt64) M e1.symm) (by decide) rfl rfl (Nat.le_of_ble_eq_true rfl) dX7_isCouple_10 ?_
  obtain rfl := h
  exact cj_zret2 hC dX7_isCouple_13
def f_X7_isDay (p1 : Int32) : Int32 :=
  cb_let (f_X7_in p1.toInt64 0 39) fun x1 =>
  (x1 &&& 1)
set_option maxRecDepth 100000 in
set_option maxHeartbeats 4000000 in
theorem c_X7_isDay (l : Launch) (g : cb_Geo) (p1 : Int32) (M : cb_Mem) {rr : Int32} (h : f_X7_isDay p1 = rr) : Met l yX7_isDay (.code yX7_isDay cX7_isDay 1 (some .boolean) :: cb_ws) (cb_rm 1) (cb_Pc cy g [.int p1] M) (cb_Qi cy g rr M) 0 0 (cb_A cy g) := by
  refine cb_met (by decide) wd_1042 (Nat.le_of_ble_eq_true rfl) (fun γ hC => ?_)
  replace hC : cb_C cy g γ RX7 cX7_isDay 1 (some .boolean) 1 l (cb_Qi cy g rr M) := hC
  show cb_J cy g γ 1 M 0 [(0, .int p1)] []
  unfold f_X7_isDay at h
  refine cj_iload_n hC dX7_isDay_0 rfl 0 rfl ?_
  refine cj_i2l hC dX7_isDay_1 ?_
  refine cj_lconst (v := 0) hC dX7_isDay_2 rfl ?_
  refine cj_ldc2_w (v := 39) hC wd_1035 dX7_isDay_3 ?_
  obtain ⟨x1, e1, h⟩ := cb_l h
  refine cj_callSi (As := [.long p1.toInt64, .long 0, .long 39]) hC cs_X7_79 (c_X7_in l g p1.toInt64 0 39 M e1.symm) (by decide) rfl rfl (Nat.le_of_ble_eq_true rfl) dX7_isDay_6 ?_
  obtain rfl := h
  exact cj_zret2 hC dX7_isDay_9
