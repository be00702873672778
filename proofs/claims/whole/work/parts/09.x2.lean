def f_J0_isLatin1_aae02 (i : Nat) : Int32 :=
  if (1 : Int32) = 0 then
  (0 : Int32)
  else
  if (0 : Int32) = 0 then
  (1 : Int32)
  else
  (0 : Int32)
set_option maxRecDepth 100000 in
set_option maxHeartbeats 4000000 in
theorem c_J0_isLatin1_aae02 (l : Launch) (g : cb_Geo) (i : Nat) (hi : i < 2) (M : cb_Mem) {rr : Int32} (h : f_J0_isLatin1_aae02 i = rr) : Met l yJ0_isLatin1_aae02 (.code yJ0_isLatin1_aae02 cJ0_isLatin1_aae02 1 (some .boolean) :: cb_ws) (cb_rm 0) (cb_Pc cx g [.ref (g.2.2.2 (2 * i))] M) (cb_Qi cx g rr M) 0 0 (cb_A cx g) := by
  refine cb_met (by decide) wd_363 (Nat.le_of_ble_eq_true rfl) (fun γ hC => ?_)
  replace hC : cb_C cx g γ RJ0 cJ0_isLatin1_aae02 1 (some .boolean) 0 l (cb_Qi cx g rr M) := hC
  show cb_J cx g γ 1 M 0 [(0, .ref (g.2.2.2 (2 * i)))] []
  unfold f_J0_isLatin1_aae02 at h
  refine cj_gets_compact hC wd_364 dJ0_isLatin1_aae02_0 ?_
  refine cj_if_eq (tgt := 17) hC dJ0_isLatin1_aae02_3 (by decide) (fun c1 => ?_) (fun c1 => ?_)
  · replace h := cb_T c1 h
    refine cj_iconst (v := 0) hC dJ0_isLatin1_aae02_17 rfl ?_
    obtain rfl := h
    exact cj_zret hC (Or.inl rfl) dJ0_isLatin1_aae02_18
  · replace h := cb_F c1 h
    refine cj_aload_n hC dJ0_isLatin1_aae02_6 rfl 0 rfl ?_
    refine cj_getS_coder hC hi wd_1283 dJ0_isLatin1_aae02_7 ?_
    refine cj_if_ne (tgt := 17) hC dJ0_isLatin1_aae02_10 (by decide) (fun c2 => ?_) (fun c2 => ?_)
    · replace h := cb_F c2 h
      refine cj_iconst (v := 0) hC dJ0_isLatin1_aae02_17 rfl ?_
      obtain rfl := h
      exact cj_zret hC (Or.inl rfl) dJ0_isLatin1_aae02_18
    · replace h := cb_T c2 h
      refine cj_iconst (v := 1) hC dJ0_isLatin1_aae02_13 rfl ?_
      refine cj_goto (tgt := 18) hC dJ0_isLatin1_aae02_14 (by decide) ?_
      obtain rfl := h
      exact cj_zret hC (Or.inr rfl) dJ0_isLatin1_aae02_18
def f_J0_coder_7d493 (i : Nat) : Int32 :=
  if (1 : Int32) = 0 then
  (1 : Int32)
  else
  (0 : Int32)
set_option maxRecDepth 100000 in
set_option maxHeartbeats 4000000 in
theorem c_J0_coder_7d493 (l : Launch) (g : cb_Geo) (i : Nat) (hi : i < 2) (M : cb_Mem) {rr : Int32} (h : f_J0_coder_7d493 i = rr) : Met l yJ0_coder_7d493 (.code yJ0_coder_7d493 cJ0_coder_7d493 1 (some .byte) :: cb_ws) (cb_rm 0) (cb_Pc cx g [.ref (g.2.2.2 (2 * i))] M) (cb_Qi cx g rr M) 0 0 (cb_A cx g) := by
  refine cb_met (by decide) wd_373 (Nat.le_of_ble_eq_true rfl) (fun γ hC => ?_)
  replace hC : cb_C cx g γ RJ0 cJ0_coder_7d493 1 (some .byte) 0 l (cb_Qi cx g rr M) := hC
  show cb_J cx g γ 1 M 0 [(0, .ref (g.2.2.2 (2 * i)))] []
  unfold f_J0_coder_7d493 at h
  refine cj_gets_compact hC wd_364 dJ0_coder_7d493_0 ?_
  refine cj_if_eq (tgt := 13) hC dJ0_coder_7d493_3 (by decide) (fun c1 => ?_) (fun c1 => ?_)
  · replace h := cb_T c1 h
    refine cj_iconst (v := 1) hC dJ0_coder_7d493_13 rfl ?_
    obtain rfl := h
    exact cj_bret hC (Or.inr rfl) dJ0_coder_7d493_14
  · replace h := cb_F c1 h
    refine cj_aload_n hC dJ0_coder_7d493_6 rfl 0 rfl ?_
    refine cj_getS_coder hC hi wd_1283 dJ0_coder_7d493_7 ?_
    refine cj_goto (tgt := 14) hC dJ0_coder_7d493_10 (by decide) ?_
    obtain rfl := h
    exact cj_bret hC (Or.inl rfl) dJ0_coder_7d493_14
def f_J0_length_8abf5 (i : Nat) : Int32 :=
  cb_let (f_J0_coder_7d493 i) fun x1 =>
  ((Int32.ofNat (cb_slen i)) >>> (x1 &&& 31))
set_option maxRecDepth 100000 in
set_option maxHeartbeats 4000000 in
theorem c_J0_length_8abf5 (l : Launch) (g : cb_Geo) (i : Nat) (hi : i < 2) (M : cb_Mem) {rr : Int32} (h : f_J0_length_8abf5 i = rr) : Met l yJ0_length_8abf5 (.code yJ0_length_8abf5 cJ0_length_8abf5 1 (some .int) :: cb_ws) (cb_rm 1) (cb_Pc cx g [.ref (g.2.2.2 (2 * i))] M) (cb_Qi cx g rr M) 0 0 (cb_A cx g) := by
  refine cb_met (by decide) wd_369 (Nat.le_of_ble_eq_true rfl) (fun γ hC => ?_)
  replace hC : cb_C cx g γ RJ0 cJ0_length_8abf5 1 (some .int) 1 l (cb_Qi cx g rr M) := hC
  show cb_J cx g γ 1 M 0 [(0, .ref (g.2.2.2 (2 * i)))] []
  unfold f_J0_length_8abf5 at h
  refine cj_aload_n hC dJ0_length_8abf5_0 rfl 0 rfl ?_
  refine cj_getS_value hC hi wd_1284 dJ0_length_8abf5_1 ?_
  refine cj_alenB hC hi dJ0_length_8abf5_4 ?_
  refine cj_aload_n hC dJ0_length_8abf5_5 rfl 0 rfl ?_
  obtain ⟨x1, e1, h⟩ := cb_l h
  refine cj_callTi (As := []) hC cv_J0_335 hi rfl (c_J0_coder_7d493 l g i hi M e1.symm) (by decide) rfl rfl (Nat.le_of_ble_eq_true rfl) dJ0_length_8abf5_6 ?_
  refine cj_ishr hC dJ0_length_8abf5_9 ?_
  obtain rfl := h
  exact cj_iret hC dJ0_length_8abf5_10
def f_J1_canEncode_9a6ad (p1 : Int32) : Int32 :=
  if p1 < 0 then
  (0 : Int32)
  else
  if 255 < p1 then
  (0 : Int32)
  else
  (1 : Int32)
set_option maxRecDepth 100000 in
set_option maxHeartbeats 4000000 in
theorem c_J1_canEncode_9a6ad (l : Launch) (g : cb_Geo) (p1 : Int32) (M : cb_Mem) {rr : Int32} (h : f_J1_canEncode_9a6ad p1 = rr) : Met l yJ1_canEncode_9a6ad (.code yJ1_canEncode_9a6ad cJ1_canEncode_9a6ad 1 (some .boolean) :: cb_ws) (cb_rm 0) (cb_Pc cx g [.int p1] M) (cb_Qi cx g rr M) 0 0 (cb_A cx g) := by
  refine cb_met (by decide) wd_379 (Nat.le_of_ble_eq_true rfl) (fun γ hC => ?_)
  replace hC : cb_C cx g γ RJ1 cJ1_canEncode_9a6ad 1 (some .boolean) 0 l (cb_Qi cx g rr M) := hC
  show cb_J cx g γ 1 M 0 [(0, .int p1)] []
  unfold f_J1_canEncode_9a6ad at h
  refine cj_iload_n hC dJ1_canEncode_9a6ad_0 rfl 0 rfl ?_
  refine cj_if_lt (tgt := 15) hC dJ1_canEncode_9a6ad_1 (by decide) (fun c1 => ?_) (fun c1 => ?_)
  · replace h := cb_T c1 h
    refine cj_iconst (v := 0) hC dJ1_canEncode_9a6ad_15 rfl ?_
    obtain rfl := h
    exact cj_zret hC (Or.inl rfl) dJ1_canEncode_9a6ad_16
  · replace h := cb_F c1 h
    refine cj_iload_n hC dJ1_canEncode_9a6ad_4 rfl 0 rfl ?_
    refine cj_sipush (v := 255) hC dJ1_canEncode_9a6ad_5 rfl ?_
    refine cj_icmp_gt (tgt := 15) hC dJ1_canEncode_9a6ad_8 (by decide) (fun c2 => ?_) (fun c2 => ?_)
    · replace h := cb_T c2 h
      refine cj_iconst (v := 0) hC dJ1_canEncode_9a6ad_15 rfl ?_
      obtain rfl := h
      exact cj_zret hC (Or.inl rfl) dJ1_canEncode_9a6ad_16
    · replace h := cb_F c2 h
      refine cj_iconst (v := 1) hC dJ1_canEncode_9a6ad_11 rfl ?_
      refine cj_goto (tgt := 16) hC dJ1_canEncode_9a6ad_12 (by decide) ?_
      obtain rfl := h
      exact cj_zret hC (Or.inr rfl) dJ1_canEncode_9a6ad_16
def f_J1_indexOfChar_4cfef_L7 : Nat → Nat → Int32 → Int32 → Int32 → Option ((Int32) ⊕ (Unit))
    | 0, _, _, _, _ => none
    | n + 1, i, v3, v4, v5 =>
      if v3 ≤ v5 then
      some (Sum.inr ())
      else
      if cb_in v5 (cb_slen i) = true then
      if (cb_sbyt i v5.toNatClampNeg) = v4 then
      some (Sum.inl v5)
      else
      f_J1_indexOfChar_4cfef_L7 n i v3 v4 (v5 + 1)
      else none
def f_J1_indexOfChar_4cfef (i : Nat) (p1 : Int32) (p2 : Int32) (p3 : Int32) : Option (Int32) :=
  cb_let (p1.toInt8.toInt32) fun x1 =>
  cb_bs (f_J1_indexOfChar_4cfef_L7 cb_fuel i p3 x1 p2) (fun r => some r) fun _ =>
  some ((-1) : Int32)
set_option maxRecDepth 100000 in
set_option maxHeartbeats 4000000 in
theorem l_J1_indexOfChar_4cfef_L7 {l : Launch} {g : cb_Geo} {γ : cb_Gam} {rr : Int32} {M : cb_Mem} (hC : cb_C cx g γ RJ1 cJ1_indexOfChar_4cfef 6 (some .int) 0 l (cb_Qi cx g rr M)) (i : Nat) (hi : i < 2) (v3 : Int32) (v4 : Int32) : ∀ (n : Nat) (v5 : Int32) (o : ((Int32) ⊕ (Unit))), f_J1_indexOfChar_4cfef_L7 n i v3 v4 v5 = some o → (∀ (u : Int32), o = Sum.inl u → u = rr) → (o = Sum.inr () → cb_J cx g γ 6 M 31 [] []) → cb_J cx g γ 6 M 7 [(0, .ref (g.2.2.2 (2 * i + 1))), (3, .int v3), (4, .int v4), (5, .int v5)] [] := by
  intro n
  induction n with
  | zero =>
    intro v5 o h
    cases h
  | succ n ih =>
    intro v5 o h hret hexit
    unfold f_J1_indexOfChar_4cfef_L7 at h
    refine cj_iload hC dJ1_indexOfChar_4cfef_7 3 rfl ?_
    refine cj_iload_n hC dJ1_indexOfChar_4cfef_9 rfl 1 rfl ?_
    refine cj_icmp_ge (tgt := 31) hC dJ1_indexOfChar_4cfef_10 (by decide) (fun c1 => ?_) (fun c1 => ?_)
    · replace h := cb_T c1 h
      obtain rfl := Option.some.inj h
      exact cj_pick [] rfl (hexit  rfl)
    · replace h := cb_F c1 h
      refine cj_aload_n hC dJ1_indexOfChar_4cfef_13 rfl 0 rfl ?_
      refine cj_iload hC dJ1_indexOfChar_4cfef_14 3 rfl ?_
      obtain ⟨i1, h⟩ := cb_g h
      refine cj_bald hC hi i1 dJ1_indexOfChar_4cfef_16 ?_
      refine cj_iload hC dJ1_indexOfChar_4cfef_17 2 rfl ?_
      refine cj_icmp_ne (tgt := 25) hC dJ1_indexOfChar_4cfef_19 (by decide) (fun c2 => ?_) (fun c2 => ?_)
      · replace h := cb_F c2 h
        refine cj_iinc (lv' := [(5, .int (v5 + 1)), (0, .ref (g.2.2.2 (2 * i + 1))), (3, .int v3), (4, .int v4)]) hC dJ1_indexOfChar_4cfef_25 (q := 3) rfl rfl (by decide) rfl ?_
        refine cj_goto (tgt := 7) hC dJ1_indexOfChar_4cfef_28 (by decide) ?_
        exact cj_pick [1, 2, 3, 0] rfl (ih _ _ h hret hexit)
      · replace h := cb_T c2 h
        refine cj_iload hC dJ1_indexOfChar_4cfef_22 3 rfl ?_
        obtain rfl := Option.some.inj h
        obtain rfl := hret _ rfl
        exact cj_iret hC dJ1_indexOfChar_4cfef_24
set_option maxRecDepth 100000 in
set_option maxHeartbeats 4000000 in
theorem c_J1_indexOfChar_4cfef (l : Launch) (g : cb_Geo) (i : Nat) (hi : i < 2) (p1 : Int32) (p2 : Int32) (p3 : Int32) (M : cb_Mem) {rr : Int32} (h : f_J1_indexOfChar_4cfef i p1 p2 p3 = some rr) : Met l yJ1_indexOfChar_4cfef (.code yJ1_indexOfChar_4cfef cJ1_indexOfChar_4cfef 6 (some .int) :: cb_ws) (cb_rm 0) (cb_Pc cx g [.ref (g.2.2.2 (2 * i + 1)), .int p1, .int p2, .int p3] M) (cb_Qi cx g rr M) 0 0 (cb_A cx g) := by
  refine cb_met (by decide) wd_386 (Nat.le_of_ble_eq_true rfl) (fun γ hC => ?_)
  replace hC : cb_C cx g γ RJ1 cJ1_indexOfChar_4cfef 6 (some .int) 0 l (cb_Qi cx g rr M) := hC
  show cb_J cx g γ 6 M 0 [(0, .ref (g.2.2.2 (2 * i + 1))), (1, .int p1), (2, .int p2), (3, .int p3)] []
  unfold f_J1_indexOfChar_4cfef at h
  refine cj_iload_n hC dJ1_indexOfChar_4cfef_0 rfl 1 rfl ?_
  refine cj_i2b hC dJ1_indexOfChar_4cfef_1 ?_
  obtain ⟨x1, ex1, h⟩ := cb_l h
  refine cj_topi ex1 ?_
  refine cj_istore (lv' := [(4, .int x1), (0, .ref (g.2.2.2 (2 * i + 1))), (1, .int p1), (2, .int p2), (3, .int p3)]) hC dJ1_indexOfChar_4cfef_2 (by decide) rfl ?_
  refine cj_iload_n hC dJ1_indexOfChar_4cfef_4 rfl 3 rfl ?_
  refine cj_istore (lv' := [(5, .int p2), (4, .int x1), (0, .ref (g.2.2.2 (2 * i + 1))), (1, .int p1), (2, .int p2), (3, .int p3)]) hC dJ1_indexOfChar_4cfef_5 (by decide) rfl ?_
  obtain ⟨z1, e1, hr1, hk1⟩ := cb_s h
  refine cj_pick [2, 5, 1, 0] rfl ?_
  refine l_J1_indexOfChar_4cfef_L7 hC i hi p3 x1 cb_fuel _ _ e1 (fun u hz => Option.some.inj (hr1 _ hz)) (fun hz => ?_)
  replace h := hk1 () hz
  refine cj_iconst (v := (-1)) hC dJ1_indexOfChar_4cfef_31 rfl ?_
  obtain rfl := Option.some.inj h
  exact cj_iret hC dJ1_indexOfChar_4cfef_32
def f_J1_indexOf_4cfef (i : Nat) (p1 : Int32) (p2 : Int32) (p3 : Int32) : Option (Int32) :=
  cb_let (f_J1_canEncode_9a6ad p1) fun x1 =>
  if x1 = 0 then
  some ((-1) : Int32)
  else
  cb_let ((cb_max p2 0)) fun x2 =>
  cb_let ((cb_min p3 (Int32.ofNat (cb_slen i)))) fun x3 =>
  if x2 < x3 then
  (f_J1_indexOfChar_4cfef i p1 x2 x3).bind fun x4 =>
  some x4
  else
  some ((-1) : Int32)
set_option maxRecDepth 100000 in
set_option maxHeartbeats 4000000 in
theorem c_J1_indexOf_4cfef (l : Launch) (g : cb_Geo) (i : Nat) (hi : i < 2) (p1 : Int32) (p2 : Int32) (p3 : Int32) (M : cb_Mem) {rr : Int32} (h : f_J1_indexOf_4cfef i p1 p2 p3 = some rr) : Met l yJ1_indexOf_4cfef (.code yJ1_indexOf_4cfef cJ1_indexOf_4cfef 4 (some .int) :: cb_ws) (cb_rm 1) (cb_Pc cx g [.ref (g.2.2.2 (2 * i + 1)), .int p1, .int p2, .int p3] M) (cb_Qi cx g rr M) 0 0 (cb_A cx g) := by
  refine cb_met (by decide) wd_376 (Nat.le_of_ble_eq_true rfl) (fun γ hC => ?_)
  replace hC : cb_C cx g γ RJ1 cJ1_indexOf_4cfef 4 (some .int) 1 l (cb_Qi cx g rr M) := hC
  show cb_J cx g γ 4 M 0 [(0, .ref (g.2.2.2 (2 * i + 1))), (1, .int p1), (2, .int p2), (3, .int p3)] []
  unfold f_J1_indexOf_4cfef at h
  refine cj_iload_n hC dJ1_indexOf_4cfef_0 rfl 1 rfl ?_
  obtain ⟨x1, e1, h⟩ := cb_l h
  refine cj_callSi (As := [.int p1]) hC cs_J1_88 (c_J1_canEncode_9a6ad l g p1 M e1.symm) (by decide) rfl rfl (Nat.le_of_ble_eq_true rfl) dJ1_indexOf_4cfef_1 ?_
  refine cj_if_ne (tgt := 9) hC dJ1_indexOf_4cfef_4 (by decide) (fun c1 => ?_) (fun c1 => ?_)
  · replace h := cb_F c1 h
    refine cj_iload_n hC dJ1_indexOf_4cfef_9 rfl 2 rfl ?_
    refine cj_iconst (v := 0) hC dJ1_indexOf_4cfef_10 rfl ?_
    refine cj_max hC wd_380 wd_105 wd_68 wd_106 (by decide) (Nat.le_of_ble_eq_true rfl) dJ1_indexOf_4cfef_11 ?_
    obtain ⟨x2, ex2, h⟩ := cb_l h
    refine cj_topi ex2 ?_
    refine cj_istore_n (lv' := [(2, .int x2), (0, .ref (g.2.2.2 (2 * i + 1))), (1, .int p1), (3, .int p3)]) hC dJ1_indexOf_4cfef_14 rfl (by decide) rfl ?_
    refine cj_iload_n hC dJ1_indexOf_4cfef_15 rfl 3 rfl ?_
    refine cj_aload_n hC dJ1_indexOf_4cfef_16 rfl 1 rfl ?_
    refine cj_alenB hC hi dJ1_indexOf_4cfef_17 ?_
    refine cj_min hC wd_381 wd_382 wd_68 wd_383 (by decide) (Nat.le_of_ble_eq_true rfl) dJ1_indexOf_4cfef_18 ?_
    obtain ⟨x3, ex3, h⟩ := cb_l h
    refine cj_topi ex3 ?_
    refine cj_istore_n (lv' := [(3, .int x3), (2, .int x2), (0, .ref (g.2.2.2 (2 * i + 1))), (1, .int p1)]) hC dJ1_indexOf_4cfef_21 rfl (by decide) rfl ?_
    refine cj_iload_n hC dJ1_indexOf_4cfef_22 rfl 1 rfl ?_
    refine cj_iload_n hC dJ1_indexOf_4cfef_23 rfl 0 rfl ?_
    refine cj_icmp_lt (tgt := 29) hC dJ1_indexOf_4cfef_24 (by decide) (fun c2 => ?_) (fun c2 => ?_)
    · replace h := cb_T c2 h
      refine cj_aload_n hC dJ1_indexOf_4cfef_29 rfl 2 rfl ?_
      refine cj_iload_n hC dJ1_indexOf_4cfef_30 rfl 3 rfl ?_
      refine cj_iload_n hC dJ1_indexOf_4cfef_31 rfl 1 rfl ?_
      refine cj_iload_n hC dJ1_indexOf_4cfef_32 rfl 0 rfl ?_
      obtain ⟨x4, e2, h⟩ := cb_b h
      refine cj_callSi (As := [.ref (g.2.2.2 (2 * i + 1)), .int p1, .int x2, .int x3]) hC cs_J1_95 (c_J1_indexOfChar_4cfef l g i hi p1 x2 x3 M e2) (by decide) rfl rfl (Nat.le_of_ble_eq_true rfl) dJ1_indexOf_4cfef_33 ?_
      obtain rfl := Option.some.inj h
      exact cj_iret hC dJ1_indexOf_4cfef_36
    · replace h := cb_F c2 h
      refine cj_iconst (v := (-1)) hC dJ1_indexOf_4cfef_27 rfl ?_
      obtain rfl := Option.some.inj h
      exact cj_iret hC dJ1_indexOf_4cfef_28
  · replace h := cb_T c1 h
    refine cj_iconst (v := (-1)) hC dJ1_indexOf_4cfef_7 rfl ?_
    obtain rfl := Option.some.inj h
    exact cj_iret hC dJ1_indexOf_4cfef_8
def f_J0_indexOf_7cf53 (i : Nat) (p1 : Int32) (p2 : Int32) : Option (Int32) :=
  cb_let (f_J0_isLatin1_aae02 i) fun x1 =>
  if x1 = 0 then
  none
  else
  cb_let (f_J0_length_8abf5 i) fun x2 =>
  (f_J1_indexOf_4cfef i p1 p2 x2).bind fun x3 =>
  some x3
set_option maxRecDepth 100000 in
set_option maxHeartbeats 4000000 in
theorem c_J0_indexOf_7cf53 (l : Launch) (g : cb_Geo) (i : Nat) (hi : i < 2) (p1 : Int32) (p2 : Int32) (M : cb_Mem) {rr : Int32} (h : f_J0_indexOf_7cf53 i p1 p2 = some rr) : Met l yJ0_indexOf_7cf53 (.code yJ0_indexOf_7cf53 cJ0_indexOf_7cf53 3 (some .int) :: cb_ws) (cb_rm 2) (cb_Pc cx g [.ref (g.2.2.2 (2 * i)), .int p1, .int p2] M) (cb_Qi cx g rr M) 0 0 (cb_A cx g) := by
  refine cb_met (by decide) wd_359 (Nat.le_of_ble_eq_true rfl) (fun γ hC => ?_)
  replace hC : cb_C cx g γ RJ0 cJ0_indexOf_7cf53 3 (some .int) 2 l (cb_Qi cx g rr M) := hC
  show cb_J cx g γ 3 M 0 [(0, .ref (g.2.2.2 (2 * i))), (1, .int p1), (2, .int p2)] []
  unfold f_J0_indexOf_7cf53 at h
  refine cj_aload_n hC dJ0_indexOf_7cf53_0 rfl 0 rfl ?_
  obtain ⟨x1, e1, h⟩ := cb_l h
  refine cj_callTi (As := []) hC cv_J0_492 hi rfl (c_J0_isLatin1_aae02 l g i hi M e1.symm) (by decide) rfl rfl (Nat.le_of_ble_eq_true rfl) dJ0_indexOf_7cf53_1 ?_
  refine cj_if_eq (tgt := 23) hC dJ0_indexOf_7cf53_4 (by decide) (fun c1 => ?_) (fun c1 => ?_)
  · replace h := cb_T c1 h
    cases h
  · replace h := cb_F c1 h
    refine cj_aload_n hC dJ0_indexOf_7cf53_7 rfl 0 rfl ?_
    refine cj_getS_value hC hi wd_1284 dJ0_indexOf_7cf53_8 ?_
    refine cj_iload_n hC dJ0_indexOf_7cf53_11 rfl 1 rfl ?_
    refine cj_iload_n hC dJ0_indexOf_7cf53_12 rfl 2 rfl ?_
    refine cj_aload_n hC dJ0_indexOf_7cf53_13 rfl 0 rfl ?_
    obtain ⟨x2, e2, h⟩ := cb_l h
    refine cj_callTi (As := []) hC cv_J0_505 hi rfl (c_J0_length_8abf5 l g i hi M e2.symm) (by decide) rfl rfl (Nat.le_of_ble_eq_true rfl) dJ0_indexOf_7cf53_14 ?_
    obtain ⟨x3, e3, h⟩ := cb_b h
    refine cj_callSi (As := [.ref (g.2.2.2 (2 * i + 1)), .int p1, .int p2, .int x2]) hC cs_J0_637 (c_J1_indexOf_4cfef l g i hi p1 p2 x2 M e3) (by decide) rfl rfl (Nat.le_of_ble_eq_true rfl) dJ0_indexOf_7cf53_17 ?_
    refine cj_goto (tgt := 36) hC dJ0_indexOf_7cf53_20 (by decide) ?_
    obtain rfl := Option.some.inj h
    exact cj_iret hC dJ0_indexOf_7cf53_36
def f_J0_indexOf_0f7a4 (i : Nat) (p1 : Int32) : Option (Int32) :=
  (f_J0_indexOf_7cf53 i p1 0).bind fun x1 =>
  some x1
set_option maxRecDepth 100000 in
set_option maxHeartbeats 4000000 in
theorem c_J0_indexOf_0f7a4 (l : Launch) (g : cb_Geo) (i : Nat) (hi : i < 2) (p1 : Int32) (M : cb_Mem) {rr : Int32} (h : f_J0_indexOf_0f7a4 i p1 = some rr) : Met l yJ0_indexOf_0f7a4 (.code yJ0_indexOf_0f7a4 cJ0_indexOf_0f7a4 2 (some .int) :: cb_ws) (cb_rm 3) (cb_Pc cx g [.ref (g.2.2.2 (2 * i)), .int p1] M) (cb_Qi cx g rr M) 0 0 (cb_A cx g) := by
  refine cb_met (by decide) wd_355 (Nat.le_of_ble_eq_true rfl) (fun γ hC => ?_)
  replace hC : cb_C cx g γ RJ0 cJ0_indexOf_0f7a4 2 (some .int) 3 l (cb_Qi cx g rr M) := hC
  show cb_J cx g γ 2 M 0 [(0, .ref (g.2.2.2 (2 * i))), (1, .int p1)] []
  unfold f_J0_indexOf_0f7a4 at h
  refine cj_aload_n hC dJ0_indexOf_0f7a4_0 rfl 0 rfl ?_
  refine cj_iload_n hC dJ0_indexOf_0f7a4_1 rfl 1 rfl ?_
  refine cj_iconst (v := 0) hC dJ0_indexOf_0f7a4_2 rfl ?_
  obtain ⟨x1, e1, h⟩ := cb_b h
  refine cj_callTi (As := [.int p1, .int 0]) hC cv_J0_633 hi rfl (c_J0_indexOf_7cf53 l g i hi p1 0 M e1) (by decide) rfl rfl (Nat.le_of_ble_eq_true rfl) dJ0_indexOf_0f7a4_3 ?_
  obtain rfl := Option.some.inj h
  exact cj_iret hC dJ0_indexOf_0f7a4_6
def f_X4_fits (i : Nat) (p1 : Int32) (p2 : Int32) (M : cb_Mem) : Option (Int32) :=
  if p1 = 0 then
  (f_J0_indexOf_0f7a4 i ((p2.toUInt32 % 65536).toInt32)).bind fun x2 =>
  if x2 < 0 then
  some (0 : Int32)
  else
  some (1 : Int32)
  else
  if p1 ≤ (M (30 + i) 2) then
  if p1 = 1 then
  if p2 < 48 then
  some (0 : Int32)
  else
  if 50 < p2 then
  some (0 : Int32)
  else
  some (1 : Int32)
  else
  cb_let (if p1 = 2 then
  (48 : Int32)
  else
  (49 : Int32)) fun x1 =>
  if p2 < x1 then
  some (0 : Int32)
  else
  if 57 < p2 then
  some (0 : Int32)
  else
  some (1 : Int32)
  else
  if p2 = 59 then
  some (1 : Int32)
  else
  some (0 : Int32)
set_option maxRecDepth 100000 in
set_option maxHeartbeats 4000000 in
theorem c_X4_fits (l : Launch) (g : cb_Geo) (i : Nat) (hi : i < 2) (p1 : Int32) (p2 : Int32) (M : cb_Mem) {rr : Int32} (h : f_X4_fits i p1 p2 M = some rr) : Met l yX4_fits (.code yX4_fits cX4_fits 3 (some .boolean) :: cb_ws) (cb_rm 4) (cb_Pc cx g [.ref (g.2.1 (30 + i)), .int p1, .int p2] M) (cb_Qi cx g rr M) 0 0 (cb_A cx g) := by
  refine cb_met (by decide) wd_351 (Nat.le_of_ble_eq_true rfl) (fun γ hC => ?_)
  replace hC : cb_C cx g γ RX4 cX4_fits 3 (some .boolean) 4 l (cb_Qi cx g rr M) := hC
  show cb_J cx g γ 3 M 0 [(0, .ref (g.2.1 (30 + i))), (1, .int p1), (2, .int p2)] []
  unfold f_X4_fits at h
  refine cj_iload_n hC dX4_fits_0 rfl 1 rfl ?_
  refine cj_if_ne (tgt := 22) hC dX4_fits_1 (by decide) (fun c1 => ?_) (fun c1 => ?_)
  · replace h := cb_F c1 h
    refine cj_iload_n hC dX4_fits_22 rfl 1 rfl ?_
    refine cj_aload_n hC dX4_fits_23 rfl 0 rfl ?_
    refine cj_get (v := .int (M (30 + i) 2)) hC fa_X4_32 (cx_l2 hi (by decide)) (cx_text hi g _) rfl dX4_fits_24 ?_
    refine cj_icmp_le (tgt := 42) hC dX4_fits_27 (by decide) (fun c2 => ?_) (fun c2 => ?_)
    · replace h := cb_T c2 h
      refine cj_iload_n hC dX4_fits_42 rfl 1 rfl ?_
      refine cj_iconst (v := 1) hC dX4_fits_43 rfl ?_
      refine cj_icmp_ne (tgt := 65) hC dX4_fits_44 (by decide) (fun c3 => ?_) (fun c3 => ?_)
      · replace h := cb_F c3 h
        refine cj_iload_n hC dX4_fits_65 rfl 2 rfl ?_
        refine cj_iload_n hC dX4_fits_66 rfl 1 rfl ?_
        refine cj_iconst (v := 2) hC dX4_fits_67 rfl ?_
        obtain ⟨x1, hx1, h⟩ := cb_l h
        replace hx1 := hx1.symm
        have hj1 : cb_J cx g γ 3 M 78 [(2, .int p2)] [.int x1, .int p2] := by
          refine cj_icmp_lt (tgt := 91) hC dX4_fits_78 (by decide) (fun c5 => ?_) (fun c5 => ?_)
          · replace h := cb_T c5 h
            refine cj_iconst (v := 0) hC dX4_fits_91 rfl ?_
            obtain rfl := Option.some.inj h
            exact cj_zret hC (Or.inl rfl) dX4_fits_92
          · replace h := cb_F c5 h
            refine cj_iload_n hC dX4_fits_81 rfl 0 rfl ?_
            refine cj_bipush (v := 57) hC dX4_fits_82 rfl ?_
            refine cj_icmp_gt (tgt := 91) hC dX4_fits_84 (by decide) (fun c6 => ?_) (fun c6 => ?_)
            · replace h := cb_T c6 h
              refine cj_iconst (v := 0) hC dX4_fits_91 rfl ?_
              obtain rfl := Option.some.inj h
              exact cj_zret hC (Or.inl rfl) dX4_fits_92
            · replace h := cb_F c6 h
              refine cj_iconst (v := 1) hC dX4_fits_87 rfl ?_
              refine cj_goto (tgt := 92) hC dX4_fits_88 (by decide) ?_
              obtain rfl := Option.some.inj h
              exact cj_zret hC (Or.inr rfl) dX4_fits_92
        refine cj_icmp_ne (tgt := 76) hC dX4_fits_68 (by decide) (fun c4 => ?_) (fun c4 => ?_)
        · replace hx1 := cb_F c4 hx1
          refine cj_bipush (v := 49) hC dX4_fits_76 rfl ?_
          obtain rfl := hx1
          exact cj_pick [2] rfl hj1
        · replace hx1 := cb_T c4 hx1
          refine cj_bipush (v := 48) hC dX4_fits_71 rfl ?_
          refine cj_goto (tgt := 78) hC dX4_fits_73 (by decide) ?_
          obtain rfl := hx1
          exact cj_pick [2] rfl hj1
      · replace h := cb_T c3 h
        refine cj_iload_n hC dX4_fits_47 rfl 2 rfl ?_
        refine cj_bipush (v := 48) hC dX4_fits_48 rfl ?_
        refine cj_icmp_lt (tgt := 63) hC dX4_fits_50 (by decide) (fun c7 => ?_) (fun c7 => ?_)
        · replace h := cb_T c7 h
          refine cj_iconst (v := 0) hC dX4_fits_63 rfl ?_
          obtain rfl := Option.some.inj h
          exact cj_zret hC (Or.inl rfl) dX4_fits_64
        · replace h := cb_F c7 h
          refine cj_iload_n hC dX4_fits_53 rfl 2 rfl ?_
          refine cj_bipush (v := 50) hC dX4_fits_54 rfl ?_
          refine cj_icmp_gt (tgt := 63) hC dX4_fits_56 (by decide) (fun c8 => ?_) (fun c8 => ?_)
          · replace h := cb_T c8 h
            refine cj_iconst (v := 0) hC dX4_fits_63 rfl ?_
            obtain rfl := Option.some.inj h
            exact cj_zret hC (Or.inl rfl) dX4_fits_64
          · replace h := cb_F c8 h
            refine cj_iconst (v := 1) hC dX4_fits_59 rfl ?_
            refine cj_goto (tgt := 64) hC dX4_fits_60 (by decide) ?_
            obtain rfl := Option.some.inj h
            exact cj_zret hC (Or.inr rfl) dX4_fits_64
    · replace h := cb_F c2 h
      refine cj_iload_n hC dX4_fits_30 rfl 2 rfl ?_
      refine cj_bipush (v := 59) hC dX4_fits_31 rfl ?_
      refine cj_icmp_ne (tgt := 40) hC dX4_fits_33 (by decide) (fun c9 => ?_) (fun c9 => ?_)
      · replace h := cb_F c9 h
        refine cj_iconst (v := 0) hC dX4_fits_40 rfl ?_
        obtain rfl := Option.some.inj h
        exact cj_zret hC (Or.inl rfl) dX4_fits_41
      · replace h := cb_T c9 h
        refine cj_iconst (v := 1) hC dX4_fits_36 rfl ?_
        refine cj_goto (tgt := 41) hC dX4_fits_37 (by decide) ?_
        obtain rfl := Option.some.inj h
        exact cj_zret hC (Or.inr rfl) dX4_fits_41
  · replace h := cb_T c1 h
    refine cj_aload_n hC dX4_fits_4 rfl 0 rfl ?_
    refine cj_get (v := .ref (g.2.2.2 (2 * i))) hC fa_X4_28 (cx_l2 hi (by decide)) (cx_text hi g _) rfl dX4_fits_5 ?_
    refine cj_iload_n hC dX4_fits_8 rfl 2 rfl ?_
    refine cj_i2c hC dX4_fits_9 ?_
    obtain ⟨x2, e1, h⟩ := cb_b h
    refine cj_callTi (As := [.int ((p2.toUInt32 % 65536).toInt32)]) hC cv_X4_67 hi rfl (c_J0_indexOf_0f7a4 l g i hi ((p2.toUInt32 % 65536).toInt32) M e1) (by decide) rfl rfl (Nat.le_of_ble_eq_true rfl) dX4_fits_10 ?_
    refine cj_if_lt (tgt := 20) hC dX4_fits_13 (by decide) (fun c10 => ?_) (fun c10 => ?_)
    · replace h := cb_T c10 h
      refine cj_iconst (v := 0) hC dX4_fits_20 rfl ?_
      obtain rfl := Option.some.inj h
      exact cj_zret hC (Or.inl rfl) dX4_fits_21
    · replace h := cb_F c10 h
      refine cj_iconst (v := 1) hC dX4_fits_16 rfl ?_
      refine cj_goto (tgt := 21) hC dX4_fits_17 (by decide) ?_
      obtain rfl := Option.some.inj h
      exact cj_zret hC (Or.inr rfl) dX4_fits_21
def f_X4_figureAt (i : Nat) (p1 : Int32) (M : cb_Mem) : Option (Int32) :=
  (f_X2_at (32 + i) (34 + i) (cx_cap i) p1 M).bind fun x1 =>
  some (x1 - 48)
set_option maxRecDepth 100000 in
set_option maxHeartbeats 4000000 in
theorem c_X4_figureAt (l : Launch) (g : cb_Geo) (i : Nat) (hi : i < 2) (p1 : Int32) (M : cb_Mem) {rr : Int32} (h : f_X4_figureAt i p1 M = some rr) : Met l yX4_figureAt (.code yX4_figureAt cX4_figureAt 2 (some .int) :: cb_ws) (cb_rm 1) (cb_Pc cx g [.ref (g.2.1 (30 + i)), .int p1] M) (cb_Qi cx g rr M) 0 0 (cb_A cx g) := by
  refine cb_met (by decide) wd_439 (Nat.le_of_ble_eq_true rfl) (fun γ hC => ?_)
  replace hC : cb_C cx g γ RX4 cX4_figureAt 2 (some .int) 1 l (cb_Qi cx g rr M) := hC
  show cb_J cx g γ 2 M 0 [(0, .ref (g.2.1 (30 + i))), (1, .int p1)] []
  unfold f_X4_figureAt at h
  refine cj_aload_n hC dX4_figureAt_0 rfl 0 rfl ?_
  refine cj_get (v := .ref (g.2.1 (32 + i))) hC fa_X4_40 (cx_l2 hi (by decide)) (cx_text hi g _) rfl dX4_figureAt_1 ?_
  refine cj_iload_n hC dX4_figureAt_4 rfl 1 rfl ?_
  obtain ⟨x1, e1, h⟩ := cb_b h
  refine cj_callVi (As := [.int p1]) hC cv_X4_64 (cx_lt (cx_trow hi).1) ((cx_trow hi).2.2.1 g _) rfl (c_X2_at l g (32 + i) (34 + i) (cx_cap i) (cx_trow hi) p1 M e1) (by decide) rfl rfl (Nat.le_of_ble_eq_true rfl) dX4_figureAt_5 ?_
  refine cj_bipush (v := 48) hC dX4_figureAt_8 rfl ?_
  refine cj_isub hC dX4_figureAt_10 ?_
  obtain rfl := Option.some.inj h
  exact cj_iret hC dX4_figureAt_11
def f_X4_firstFault_L4 : Nat → Nat → Int32 → Int32 → cb_Mem → Option ((Int32) ⊕ (Int32))
    | 0, _, _, _, _ => none
    | n + 1, i, v1, v2, M =>
      if (M (32 + i) 1) ≤ v2 then
      some (Sum.inr v1)
      else
      (f_X2_at (32 + i) (34 + i) (cx_cap i) v2 M).bind fun x1 =>
      (f_X4_fits i v1 x1 M).bind fun x2 =>
      if x2 = 0 then
      some (Sum.inl v2)
      else
      cb_let (if v1 ≤ (M (30 + i) 2) then
      (v1 + 1)
      else
      (0 : Int32)) fun x3 =>
      f_X4_firstFault_L4 n i x3 (v2 + 1) M
def f_X4_firstFault (i : Nat) (M : cb_Mem) : Option (Int32) :=
  cb_bs (f_X4_firstFault_L4 cb_fuel i 0 0 M) (fun r => some r) fun x1 =>
  cb_let (fun (_ : Unit) =>
  some ((-1) : Int32)) fun k1 =>
  if (M (32 + i) 1) = 0 then
  k1 ()
  else
  if x1 ≤ (M (30 + i) 2) then
  some (M (32 + i) 1)
  else
  k1 ()
set_option maxRecDepth 100000 in
set_option maxHeartbeats 4000000 in
theorem l_X4_firstFault_L4 {l : Launch} {g : cb_Geo} {γ : cb_Gam} {rr : Int32} {M : cb_Mem} (hC : cb_C cx g γ RX4 cX4_firstFault 3 (some .int) 5 l (cb_Qi cx g rr M)) (i : Nat) (hi : i < 2) : ∀ (n : Nat) (v1 : Int32) (v2 : Int32) (o : ((Int32) ⊕ (Int32))), f_X4_firstFault_L4 n i v1 v2 M = some o → (∀ (u : Int32), o = Sum.inl u → u = rr) → (∀ (v1' : Int32), o = Sum.inr v1' → cb_J cx g γ 3 M 55 [(0, .ref (g.2.1 (30 + i))), (1, .int v1')] []) → cb_J cx g γ 3 M 4 [(0, .ref (g.2.1 (30 + i))), (1, .int v1), (2, .int v2)] [] := by
  intro n
  induction n with
  | zero =>
    intro v1 v2 o h
    cases h
  | succ n ih =>
    intro v1 v2 o h hret hexit
    unfold f_X4_firstFault_L4 at h
    refine cj_iload_n hC dX4_firstFault_4 rfl 2 rfl ?_
    refine cj_aload_n hC dX4_firstFault_5 rfl 0 rfl ?_
    refine cj_get (v := .ref (g.2.1 (32 + i))) hC fa_X4_40 (cx_l2 hi (by decide)) (cx_text hi g _) rfl dX4_firstFault_6 ?_
    refine cj_get (v := .int (M (32 + i) 1)) hC fa_X4_61 (cx_lt (cx_trow hi).1) ((cx_trow hi).2.2.1 g _) rfl dX4_firstFault_9 ?_
    refine cj_icmp_ge (tgt := 55) hC dX4_firstFault_12 (by decide) (fun c1 => ?_) (fun c1 => ?_)
    · replace h := cb_T c1 h
      obtain rfl := Option.some.inj h
      exact cj_pick [0, 1] rfl (hexit _ rfl)
    · replace h := cb_F c1 h
      refine cj_aload_n hC dX4_firstFault_15 rfl 0 rfl ?_
      refine cj_iload_n hC dX4_firstFault_16 rfl 1 rfl ?_
      refine cj_aload_n hC dX4_firstFault_17 rfl 0 rfl ?_
      refine cj_get (v := .ref (g.2.1 (32 + i))) hC fa_X4_40 (cx_l2 hi (by decide)) (cx_text hi g _) rfl dX4_firstFault_18 ?_
      refine cj_iload_n hC dX4_firstFault_21 rfl 2 rfl ?_
      obtain ⟨x1, e1, h⟩ := cb_b h
      refine cj_callVi (As := [.int v2]) hC cv_X4_64 (cx_lt (cx_trow hi).1) ((cx_trow hi).2.2.1 g _) rfl (c_X2_at l g (32 + i) (34 + i) (cx_cap i) (cx_trow hi) v2 M e1) (by decide) rfl rfl (Nat.le_of_ble_eq_true rfl) dX4_firstFault_22 ?_
      obtain ⟨x2, e2, h⟩ := cb_b h
      refine cj_callVi (As := [.int v1, .int x1]) hC cv_X4_75 (cx_l2 hi (by decide)) (cx_text hi g _) rfl (c_X4_fits l g i hi v1 x1 M e2) (by decide) rfl rfl (Nat.le_of_ble_eq_true rfl) dX4_firstFault_25 ?_
      refine cj_if_ne (tgt := 33) hC dX4_firstFault_28 (by decide) (fun c2 => ?_) (fun c2 => ?_)
      · replace h := cb_F c2 h
        refine cj_iload_n hC dX4_firstFault_33 rfl 1 rfl ?_
        refine cj_aload_n hC dX4_firstFault_34 rfl 0 rfl ?_
        refine cj_get (v := .int (M (30 + i) 2)) hC fa_X4_32 (cx_l2 hi (by decide)) (cx_text hi g _) rfl dX4_firstFault_35 ?_
        obtain ⟨x3, hx1, h⟩ := cb_l h
        replace hx1 := hx1.symm
        have hj1 : cb_J cx g γ 3 M 48 [(0, .ref (g.2.1 (30 + i))), (2, .int v2)] [.int x3] := by
          refine cj_istore_n (lv' := [(1, .int x3), (0, .ref (g.2.1 (30 + i))), (2, .int v2)]) hC dX4_firstFault_48 rfl (by decide) rfl ?_
          refine cj_iinc (lv' := [(2, .int (v2 + 1)), (1, .int x3), (0, .ref (g.2.1 (30 + i)))]) hC dX4_firstFault_49 (q := 2) rfl rfl (by decide) rfl ?_
          refine cj_goto (tgt := 4) hC dX4_firstFault_52 (by decide) ?_
          exact cj_pick [2, 1, 0] rfl (ih _ _ _ h hret hexit)
        refine cj_icmp_le (tgt := 45) hC dX4_firstFault_38 (by decide) (fun c3 => ?_) (fun c3 => ?_)
        · replace hx1 := cb_T c3 hx1
          refine cj_iload_n hC dX4_firstFault_45 rfl 1 rfl ?_
          refine cj_iconst (v := 1) hC dX4_firstFault_46 rfl ?_
          refine cj_iadd hC dX4_firstFault_47 ?_
          obtain rfl := hx1
          exact cj_pick [0, 2] rfl hj1
        · replace hx1 := cb_F c3 hx1
          refine cj_iconst (v := 0) hC dX4_firstFault_41 rfl ?_
          refine cj_goto (tgt := 48) hC dX4_firstFault_42 (by decide) ?_
          obtain rfl := hx1
          exact cj_pick [0, 2] rfl hj1
      · replace h := cb_T c2 h
        refine cj_iload_n hC dX4_firstFault_31 rfl 2 rfl ?_
        obtain rfl := Option.some.inj h
        obtain rfl := hret _ rfl
        exact cj_iret hC dX4_firstFault_32
set_option maxRecDepth 100000 in
set_option maxHeartbeats 4000000 in
theorem c_X4_firstFault (l : Launch) (g : cb_Geo) (i : Nat) (hi : i < 2) (M : cb_Mem) {rr : Int32} (h : f_X4_firstFault i M = some rr) : Met l yX4_firstFault (.code yX4_firstFault cX4_firstFault 3 (some .int) :: cb_ws) (cb_rm 5) (cb_Pc cx g [.ref (g.2.1 (30 + i))] M) (cb_Qi cx g rr M) 0 0 (cb_A cx g) := by
  refine cb_met (by decide) wd_343 (Nat.le_of_ble_eq_true rfl) (fun γ hC => ?_)
  replace hC : cb_C cx g γ RX4 cX4_firstFault 3 (some .int) 5 l (cb_Qi cx g rr M) := hC
  show cb_J cx g γ 3 M 0 [(0, .ref (g.2.1 (30 + i)))] []
  unfold f_X4_firstFault at h
  refine cj_iconst (v := 0) hC dX4_firstFault_0 rfl ?_
  refine cj_istore_n (lv' := [(1, .int 0), (0, .ref (g.2.1 (30 + i)))]) hC dX4_firstFault_1 rfl (by decide) rfl ?_
  refine cj_iconst (v := 0) hC dX4_firstFault_2 rfl ?_
  refine cj_istore_n (lv' := [(2, .int 0), (1, .int 0), (0, .ref (g.2.1 (30 + i)))]) hC dX4_firstFault_3 rfl (by decide) rfl ?_
  obtain ⟨z1, e1, hr1, hk1⟩ := cb_s h
  refine cj_pick [2, 1, 0] rfl ?_
  refine l_X4_firstFault_L4 hC i hi cb_fuel _ _ _ e1 (fun u hz => Option.some.inj (hr1 _ hz)) (fun x1 hz => ?_)
  replace h := hk1 x1 hz
  refine cj_aload_n hC dX4_firstFault_55 rfl 0 rfl ?_
  refine cj_get (v := .ref (g.2.1 (32 + i))) hC fa_X4_40 (cx_l2 hi (by decide)) (cx_text hi g _) rfl dX4_firstFault_56 ?_
  refine cj_get (v := .int (M (32 + i) 1)) hC fa_X4_61 (cx_lt (cx_trow hi).1) ((cx_trow hi).2.2.1 g _) rfl dX4_firstFault_59 ?_
  obtain ⟨k1, ek1, h⟩ := cb_l h
  have hk1 : ∀ (u9 : Unit), k1 u9 = some rr → cb_J cx g γ 3 M 73 [] [] := by
    intro u9 h
    replace h := cb_k1 ek1 h
    refine cj_iconst (v := (-1)) hC dX4_firstFault_73 rfl ?_
    refine cj_goto (tgt := 84) hC dX4_firstFault_74 (by decide) ?_
    obtain rfl := Option.some.inj h
    exact cj_iret hC dX4_firstFault_84
  refine cj_if_eq (tgt := 73) hC dX4_firstFault_62 (by decide) (fun c1 => ?_) (fun c1 => ?_)
  · replace h := cb_T c1 h
    exact cj_pick [] rfl (hk1 _ h)
  · replace h := cb_F c1 h
    refine cj_iload_n hC dX4_firstFault_65 rfl 1 rfl ?_
    refine cj_aload_n hC dX4_firstFault_66 rfl 0 rfl ?_
    refine cj_get (v := .int (M (30 + i) 2)) hC fa_X4_32 (cx_l2 hi (by decide)) (cx_text hi g _) rfl dX4_firstFault_67 ?_
    refine cj_icmp_le (tgt := 77) hC dX4_firstFault_70 (by decide) (fun c2 => ?_) (fun c2 => ?_)
    · replace h := cb_T c2 h
      refine cj_aload_n hC dX4_firstFault_77 rfl 0 rfl ?_
      refine cj_get (v := .ref (g.2.1 (32 + i))) hC fa_X4_40 (cx_l2 hi (by decide)) (cx_text hi g _) rfl dX4_firstFault_78 ?_
      refine cj_get (v := .int (M (32 + i) 1)) hC fa_X4_61 (cx_lt (cx_trow hi).1) ((cx_trow hi).2.2.1 g _) rfl dX4_firstFault_81 ?_
      obtain rfl := Option.some.inj h
      exact cj_iret hC dX4_firstFault_84
    · replace h := cb_F c2 h
      exact cj_pick [] rfl (hk1 _ h)
def f_X4_parse_L35 : Nat → Nat → Int32 → Int32 → cb_Mem → Option (cb_Mem)
    | 0, _, _, _, _ => none
    | n + 1, i, v1, v2, M =>
      if v1 ≤ v2 then
      some M
      else
      if 8 ≤ (M (30 + i) 6) then
      some M
      else
      (f_X2_at (32 + i) (34 + i) (cx_cap i) v2 M).bind fun x1 =>
      (f_J0_indexOf_0f7a4 i ((x1.toUInt32 % 65536).toInt32)).bind fun x2 =>
      if cb_in (M (30 + i) 6) 8 = true then
      cb_let (cb_up M (36 + i) (M (30 + i) 6).toNatClampNeg x2) fun M1 =>
      (f_X4_figureAt i (v2 + 1) M1).bind fun x3 =>
      (f_X4_figureAt i (v2 + 2) M1).bind fun x4 =>
      if cb_in (M1 (30 + i) 6) 8 = true then
      cb_let (cb_up M1 (38 + i) (M1 (30 + i) 6).toNatClampNeg ((10 * x3) + x4)) fun M2 =>
      Option.bind (if (M2 (30 + i) 2) ≤ 2 then
      some (0 : Int32)
      else
      (f_X4_figureAt i (v2 + 3) M2).bind fun x6 =>
      some x6) fun x5 =>
      if cb_in (M2 (30 + i) 6) 8 = true then
      cb_let (cb_up M2 (40 + i) (M2 (30 + i) 6).toNatClampNeg x5) fun M3 =>
      cb_let (cb_up M3 (30 + i) 6 ((M3 (30 + i) 6) + 1)) fun M4 =>
      cb_let ((v2 + ((M4 (30 + i) 2) + 2))) fun x7 =>
      f_X4_parse_L35 n i v1 x7 M4
      else none
      else none
      else none
def f_X4_parse (i : Nat) (M : cb_Mem) : Option (cb_Mem) :=
  (f_X4_firstFault i M).bind fun x1 =>
  cb_let (cb_up M (30 + i) 7 x1) fun M1 =>
  cb_let (cb_up M1 (30 + i) 6 0) fun M2 =>
  cb_let (if (M2 (30 + i) 7) = (-1) then
  (M2 (32 + i) 1)
  else
  (0 : Int32)) fun x2 =>
  (f_X4_parse_L35 cb_fuel i x2 0 M2).bind fun M3 =>
  some M3
set_option maxRecDepth 100000 in
set_option maxHeartbeats 4000000 in
theorem l_X4_parse_L35 {l : Launch} {g : cb_Geo} {γ : cb_Gam} {Mr : cb_Mem} (hC : cb_C cx g γ RX4 cX4_parse 3 none 6 l (cb_Qv cx g Mr)) (i : Nat) (hi : i < 2) (v1 : Int32) : ∀ (n : Nat) (v2 : Int32) (M : cb_Mem) (o : (cb_Mem)), f_X4_parse_L35 n i v1 v2 M = some o → (∀ (M' : cb_Mem), o = M' → cb_J cx g γ 3 M' 151 [] []) → cb_J cx g γ 3 M 35 [(0, .ref (g.2.1 (30 + i))), (1, .int v1), (2, .int v2)] [] := by
  intro n
  induction n with
  | zero =>
    intro v2 M o h
    cases h
  | succ n ih =>
    intro v2 M o h hexit
    unfold f_X4_parse_L35 at h
    refine cj_iload_n hC dX4_parse_35 rfl 2 rfl ?_
    refine cj_iload_n hC dX4_parse_36 rfl 1 rfl ?_
    refine cj_icmp_ge (tgt := 151) hC dX4_parse_37 (by decide) (fun c1 => ?_) (fun c1 => ?_)
    · replace h := cb_T c1 h
      obtain rfl := Option.some.inj h
      exact cj_pick [] rfl (hexit _ rfl)
    · replace h := cb_F c1 h
      refine cj_aload_n hC dX4_parse_40 rfl 0 rfl ?_
      refine cj_get (v := .int (M (30 + i) 6)) hC fa_X4_21 (cx_l2 hi (by decide)) (cx_text hi g _) rfl dX4_parse_41 ?_
      refine cj_bipush (v := 8) hC dX4_parse_44 rfl ?_
      refine cj_icmp_ge (tgt := 151) hC dX4_parse_46 (by decide) (fun c2 => ?_) (fun c2 => ?_)
      · replace h := cb_T c2 h
        obtain rfl := Option.some.inj h
        exact cj_pick [] rfl (hexit _ rfl)
      · replace h := cb_F c2 h
        refine cj_aload_n hC dX4_parse_49 rfl 0 rfl ?_
        refine cj_get (v := .ref (g.2.1 (36 + i))) hC fa_X4_9 (cx_l2 hi (by decide)) (cx_text hi g _) rfl dX4_parse_50 ?_
        refine cj_aload_n hC dX4_parse_53 rfl 0 rfl ?_
        refine cj_get (v := .int (M (30 + i) 6)) hC fa_X4_21 (cx_l2 hi (by decide)) (cx_text hi g _) rfl dX4_parse_54 ?_
        refine cj_aload_n hC dX4_parse_57 rfl 0 rfl ?_
        refine cj_get (v := .ref (g.2.2.2 (2 * i))) hC fa_X4_28 (cx_l2 hi (by decide)) (cx_text hi g _) rfl dX4_parse_58 ?_
        refine cj_aload_n hC dX4_parse_61 rfl 0 rfl ?_
        refine cj_get (v := .ref (g.2.1 (32 + i))) hC fa_X4_40 (cx_l2 hi (by decide)) (cx_text hi g _) rfl dX4_parse_62 ?_
        refine cj_iload_n hC dX4_parse_65 rfl 2 rfl ?_
        obtain ⟨x1, e1, h⟩ := cb_b h
        refine cj_callVi (As := [.int v2]) hC cv_X4_64 (cx_lt (cx_trow hi).1) ((cx_trow hi).2.2.1 g _) rfl (c_X2_at l g (32 + i) (34 + i) (cx_cap i) (cx_trow hi) v2 M e1) (by decide) rfl rfl (Nat.le_of_ble_eq_true rfl) dX4_parse_66 ?_
        refine cj_i2c hC dX4_parse_69 ?_
        obtain ⟨x2, e2, h⟩ := cb_b h
        refine cj_callTi (As := [.int ((x1.toUInt32 % 65536).toInt32)]) hC cv_X4_67 hi rfl (c_J0_indexOf_0f7a4 l g i hi ((x1.toUInt32 % 65536).toInt32) M e2) (by decide) rfl rfl (Nat.le_of_ble_eq_true rfl) dX4_parse_70 ?_
        obtain ⟨i1, h⟩ := cb_g h
        obtain ⟨M1, eM1, h⟩ := cb_l h
        refine cj_iast hC (cx_l2 hi (by decide)) (cx_tkinds hi g) (cx_t0 g) i1 eM1 dX4_parse_73 ?_
        refine cj_aload_n hC dX4_parse_74 rfl 0 rfl ?_
        refine cj_get (v := .ref (g.2.1 (38 + i))) hC fa_X4_15 (cx_l2 hi (by decide)) (cx_text hi g _) rfl dX4_parse_75 ?_
        refine cj_aload_n hC dX4_parse_78 rfl 0 rfl ?_
        refine cj_get (v := .int (M1 (30 + i) 6)) hC fa_X4_21 (cx_l2 hi (by decide)) (cx_text hi g _) rfl dX4_parse_79 ?_
        refine cj_bipush (v := 10) hC dX4_parse_82 rfl ?_
        refine cj_aload_n hC dX4_parse_84 rfl 0 rfl ?_
        refine cj_iload_n hC dX4_parse_85 rfl 2 rfl ?_
        refine cj_iconst (v := 1) hC dX4_parse_86 rfl ?_
        refine cj_iadd hC dX4_parse_87 ?_
        obtain ⟨x3, e3, h⟩ := cb_b h
        refine cj_callVi (As := [.int (v2 + 1)]) hC cv_X4_72 (cx_l2 hi (by decide)) (cx_text hi g _) rfl (c_X4_figureAt l g i hi (v2 + 1) M1 e3) (by decide) rfl rfl (Nat.le_of_ble_eq_true rfl) dX4_parse_88 ?_
        refine cj_imul hC dX4_parse_91 ?_
        refine cj_aload_n hC dX4_parse_92 rfl 0 rfl ?_
        refine cj_iload_n hC dX4_parse_93 rfl 2 rfl ?_
        refine cj_iconst (v := 2) hC dX4_parse_94 rfl ?_
        refine cj_iadd hC dX4_parse_95 ?_
        obtain ⟨x4, e4, h⟩ := cb_b h
        refine cj_callVi (As := [.int (v2 + 2)]) hC cv_X4_72 (cx_l2 hi (by decide)) (cx_text hi g _) rfl (c_X4_figureAt l g i hi (v2 + 2) M1 e4) (by decide) rfl rfl (Nat.le_of_ble_eq_true rfl) dX4_parse_96 ?_
        refine cj_iadd hC dX4_parse_99 ?_
        obtain ⟨i2, h⟩ := cb_g h
        obtain ⟨M2, eM2, h⟩ := cb_l h
        refine cj_iast hC (cx_l2 hi (by decide)) (cx_tdays hi g) (cx_t0 g) i2 eM2 dX4_parse_100 ?_
        refine cj_aload_n hC dX4_parse_101 rfl 0 rfl ?_
        refine cj_get (v := .ref (g.2.1 (40 + i))) hC fa_X4_18 (cx_l2 hi (by decide)) (cx_text hi g _) rfl dX4_parse_102 ?_
        refine cj_aload_n hC dX4_parse_105 rfl 0 rfl ?_
        refine cj_get (v := .int (M2 (30 + i) 6)) hC fa_X4_21 (cx_l2 hi (by decide)) (cx_text hi g _) rfl dX4_parse_106 ?_
        refine cj_aload_n hC dX4_parse_109 rfl 0 rfl ?_
        refine cj_get (v := .int (M2 (30 + i) 2)) hC fa_X4_32 (cx_l2 hi (by decide)) (cx_text hi g _) rfl dX4_parse_110 ?_
        refine cj_iconst (v := 2) hC dX4_parse_113 rfl ?_
        obtain ⟨x5, hx1, h⟩ := cb_b h
        have hj1 : cb_J cx g γ 3 M2 128 [(0, .ref (g.2.1 (30 + i))), (1, .int v1), (2, .int v2)] [.int x5, .int (M2 (30 + i) 6), .ref (g.2.1 (40 + i))] := by
          obtain ⟨i3, h⟩ := cb_g h
          obtain ⟨M3, eM3, h⟩ := cb_l h
          refine cj_iast hC (cx_l2 hi (by decide)) (cx_tlens hi g) (cx_t0 g) i3 eM3 dX4_parse_128 ?_
          refine cj_aload_n hC dX4_parse_129 rfl 0 rfl ?_
          refine cj_dup hC dX4_parse_130 rfl ?_
          refine cj_get (v := .int (M3 (30 + i) 6)) hC fa_X4_21 (cx_l2 hi (by decide)) (cx_text hi g _) rfl dX4_parse_131 ?_
          refine cj_iconst (v := 1) hC dX4_parse_134 rfl ?_
          refine cj_iadd hC dX4_parse_135 ?_
          obtain ⟨M4, eM4, h⟩ := cb_l h
          refine cj_put hC fp_X4_21 (cx_l2 hi (by decide)) (cx_text hi g _) ((cx_text hi g _).trans rfl) (Nat.le_of_ble_eq_true rfl) eM4 dX4_parse_136 ?_
          refine cj_iload_n hC dX4_parse_139 rfl 2 rfl ?_
          refine cj_aload_n hC dX4_parse_140 rfl 0 rfl ?_
          refine cj_get (v := .int (M4 (30 + i) 2)) hC fa_X4_32 (cx_l2 hi (by decide)) (cx_text hi g _) rfl dX4_parse_141 ?_
          refine cj_iconst (v := 2) hC dX4_parse_144 rfl ?_
          refine cj_iadd hC dX4_parse_145 ?_
          refine cj_iadd hC dX4_parse_146 ?_
          obtain ⟨x7, ex7, h⟩ := cb_l h
          refine cj_topi ex7 ?_
          refine cj_istore_n (lv' := [(2, .int x7), (0, .ref (g.2.1 (30 + i))), (1, .int v1)]) hC dX4_parse_147 rfl (by decide) rfl ?_
          refine cj_goto (tgt := 35) hC dX4_parse_148 (by decide) ?_
          exact cj_pick [1, 2, 0] rfl (ih _ _ _ h hexit)
        refine cj_icmp_le (tgt := 127) hC dX4_parse_114 (by decide) (fun c3 => ?_) (fun c3 => ?_)
        · replace hx1 := cb_T c3 hx1
          refine cj_iconst (v := 0) hC dX4_parse_127 rfl ?_
          obtain rfl := Option.some.inj hx1
          exact cj_pick [0, 1, 2] rfl hj1
        · replace hx1 := cb_F c3 hx1
          refine cj_aload_n hC dX4_parse_117 rfl 0 rfl ?_
          refine cj_iload_n hC dX4_parse_118 rfl 2 rfl ?_
          refine cj_iconst (v := 3) hC dX4_parse_119 rfl ?_
          refine cj_iadd hC dX4_parse_120 ?_
          obtain ⟨x6, e5, hx1⟩ := cb_b hx1
          refine cj_callVi (As := [.int (v2 + 3)]) hC cv_X4_72 (cx_l2 hi (by decide)) (cx_text hi g _) rfl (c_X4_figureAt l g i hi (v2 + 3) M2 e5) (by decide) rfl rfl (Nat.le_of_ble_eq_true rfl) dX4_parse_121 ?_
          refine cj_goto (tgt := 128) hC dX4_parse_124 (by decide) ?_
          obtain rfl := Option.some.inj hx1
          exact cj_pick [0, 1, 2] rfl hj1
set_option maxRecDepth 100000 in
set_option maxHeartbeats 4000000 in
theorem c_X4_parse (l : Launch) (g : cb_Geo) (i : Nat) (hi : i < 2) (M : cb_Mem) {Mr : cb_Mem} (h : f_X4_parse i M = some Mr) : Met l yX4_parse (.code yX4_parse cX4_parse 3 none :: cb_ws) (cb_rm 6) (cb_Pc cx g [.ref (g.2.1 (30 + i))] M) (cb_Qv cx g Mr) 0 0 (cb_A cx g) := by
  refine cb_met (by decide) wd_339 (Nat.le_of_ble_eq_true rfl) (fun γ hC => ?_)
  replace hC : cb_C cx g γ RX4 cX4_parse 3 none 6 l (cb_Qv cx g Mr) := hC
  show cb_J cx g γ 3 M 0 [(0, .ref (g.2.1 (30 + i)))] []
  unfold f_X4_parse at h
  refine cj_aload_n hC dX4_parse_0 rfl 0 rfl ?_
  refine cj_aload_n hC dX4_parse_1 rfl 0 rfl ?_
  obtain ⟨x1, e1, h⟩ := cb_b h
  refine cj_callVi (As := []) hC cv_X4_58 (cx_l2 hi (by decide)) (cx_text hi g _) rfl (c_X4_firstFault l g i hi M e1) (by decide) rfl rfl (Nat.le_of_ble_eq_true rfl) dX4_parse_2 ?_
  obtain ⟨M1, eM1, h⟩ := cb_l h
  refine cj_put hC fp_X4_25 (cx_l2 hi (by decide)) (cx_text hi g _) ((cx_text hi g _).trans rfl) (Nat.le_of_ble_eq_true rfl) eM1 dX4_parse_5 ?_
  refine cj_aload_n hC dX4_parse_8 rfl 0 rfl ?_
  refine cj_iconst (v := 0) hC dX4_parse_9 rfl ?_
  obtain ⟨M2, eM2, h⟩ := cb_l h
  refine cj_put hC fp_X4_21 (cx_l2 hi (by decide)) (cx_text hi g _) ((cx_text hi g _).trans rfl) (Nat.le_of_ble_eq_true rfl) eM2 dX4_parse_10 ?_
  refine cj_aload_n hC dX4_parse_13 rfl 0 rfl ?_
  refine cj_get (v := .int (M2 (30 + i) 7)) hC fa_X4_25 (cx_l2 hi (by decide)) (cx_text hi g _) rfl dX4_parse_14 ?_
  refine cj_iconst (v := (-1)) hC dX4_parse_17 rfl ?_
  obtain ⟨x2, hx1, h⟩ := cb_l h
  replace hx1 := hx1.symm
  have hj1 : cb_J cx g γ 3 M2 32 [(0, .ref (g.2.1 (30 + i)))] [.int x2] := by
    refine cj_istore_n (lv' := [(1, .int x2), (0, .ref (g.2.1 (30 + i)))]) hC dX4_parse_32 rfl (by decide) rfl ?_
    refine cj_iconst (v := 0) hC dX4_parse_33 rfl ?_
    refine cj_istore_n (lv' := [(2, .int 0), (1, .int x2), (0, .ref (g.2.1 (30 + i)))]) hC dX4_parse_34 rfl (by decide) rfl ?_
    obtain ⟨M3, e2, h⟩ := cb_b h
    refine cj_pick [2, 1, 0] rfl ?_
    refine l_X4_parse_L35 hC i hi x2 cb_fuel _ _ _ e2 (fun ze2 hz => ?_)
    obtain rfl := hz
    obtain rfl := Option.some.inj h
    exact cj_vret hC dX4_parse_151
  refine cj_icmp_ne (tgt := 31) hC dX4_parse_18 (by decide) (fun c1 => ?_) (fun c1 => ?_)
  · replace hx1 := cb_F c1 hx1
    refine cj_iconst (v := 0) hC dX4_parse_31 rfl ?_
    obtain rfl := hx1
    exact cj_pick [0] rfl hj1
  · replace hx1 := cb_T c1 hx1
    refine cj_aload_n hC dX4_parse_21 rfl 0 rfl ?_
    refine cj_get (v := .ref (g.2.1 (32 + i))) hC fa_X4_40 (cx_l2 hi (by decide)) (cx_text hi g _) rfl dX4_parse_22 ?_
    refine cj_get (v := .int (M2 (32 + i) 1)) hC fa_X4_61 (cx_lt (cx_trow hi).1) ((cx_trow hi).2.2.1 g _) rfl dX4_parse_25 ?_
    refine cj_goto (tgt := 32) hC dX4_parse_28 (by decide) ?_
    obtain rfl := hx1
    exact cj_pick [0] rfl hj1
def f_X4_append (i : Nat) (p1 : Int32) (M : cb_Mem) : Option (Int32 × cb_Mem) :=
  cb_bind2 (f_X2_add (32 + i) (34 + i) (cx_cap i) p1 M) fun x1 M1 =>
  (f_X4_parse i M1).bind fun M2 =>
  some (x1, M2)
set_option maxRecDepth 100000 in
set_option maxHeartbeats 4000000 in
theorem c_X4_append (l : Launch) (g : cb_Geo) (i : Nat) (hi : i < 2) (p1 : Int32) (M : cb_Mem) {rr : Int32} {Mr : cb_Mem} (h : f_X4_append i p1 M = some (rr, Mr)) : Met l yX4_append (.code yX4_append cX4_append 3 (some .int) :: cb_ws) (cb_rm 7) (cb_Pc cx g [.ref (g.2.1 (30 + i)), .int p1] M) (cb_Qi cx g rr Mr) 0 0 (cb_A cx g) := by
  refine cb_met (by decide) wd_331 (Nat.le_of_ble_eq_true rfl) (fun γ hC => ?_)
  replace hC : cb_C cx g γ RX4 cX4_append 3 (some .int) 7 l (cb_Qi cx g rr Mr) := hC
  show cb_J cx g γ 3 M 0 [(0, .ref (g.2.1 (30 + i))), (1, .int p1)] []
  unfold f_X4_append at h
  refine cj_aload_n hC dX4_append_0 rfl 0 rfl ?_
  refine cj_get (v := .ref (g.2.1 (32 + i))) hC fa_X4_40 (cx_l2 hi (by decide)) (cx_text hi g _) rfl dX4_append_1 ?_
  refine cj_iload_n hC dX4_append_4 rfl 1 rfl ?_
  obtain ⟨x1, M1, e1, h⟩ := cb_b2 h
  refine cj_callVi (As := [.int p1]) hC cv_X4_44 (cx_lt (cx_trow hi).1) ((cx_trow hi).2.2.1 g _) rfl (c_X2_add l g (32 + i) (34 + i) (cx_cap i) (cx_trow hi) p1 M e1) (by decide) rfl rfl (Nat.le_of_ble_eq_true rfl) dX4_append_5 ?_
  refine cj_istore_n (lv' := [(2, .int x1), (0, .ref (g.2.1 (30 + i))), (1, .int p1)]) hC dX4_append_8 rfl (by decide) rfl ?_
  refine cj_aload_n hC dX4_append_9 rfl 1 rfl ?_
  obtain ⟨M2, e2, h⟩ := cb_b h
  refine cj_callVv (As := []) hC cv_X4_48 (cx_l2 hi (by decide)) (cx_text hi g _) rfl (c_X4_parse l g i hi M1 e2) (by decide) rfl rfl (Nat.le_of_ble_eq_true rfl) dX4_append_10 ?_
  refine cj_iload_n hC dX4_append_13 rfl 0 rfl ?_
  obtain ⟨rfl, rfl⟩ := cb_i2 h
  exact cj_iret hC dX4_append_14
def f_X4_dropLast (i : Nat) (M : cb_Mem) : Option (Int32 × cb_Mem) :=
  cb_let2 (f_X2_dropLast (32 + i) (34 + i) (cx_cap i) M) fun x1 M1 =>
  (f_X4_parse i M1).bind fun M2 =>
  some (x1, M2)
set_option maxRecDepth 100000 in
set_option maxHeartbeats 4000000 in
theorem c_X4_dropLast (l : Launch) (g : cb_Geo) (i : Nat) (hi : i < 2) (M : cb_Mem) {rr : Int32} {Mr : cb_Mem} (h : f_X4_dropLast i M = some (rr, Mr)) : Met l yX4_dropLast (.code yX4_dropLast cX4_dropLast 2 (some .int) :: cb_ws) (cb_rm 7) (cb_Pc cx g [.ref (g.2.1 (30 + i))] M) (cb_Qi cx g rr Mr) 0 0 (cb_A cx g) := by
  refine cb_met (by decide) wd_459 (Nat.le_of_ble_eq_true rfl) (fun γ hC => ?_)
  replace hC : cb_C cx g γ RX4 cX4_dropLast 2 (some .int) 7 l (cb_Qi cx g rr Mr) := hC
  show cb_J cx g γ 2 M 0 [(0, .ref (g.2.1 (30 + i)))] []
  unfold f_X4_dropLast at h
  refine cj_aload_n hC dX4_dropLast_0 rfl 0 rfl ?_
  refine cj_get (v := .ref (g.2.1 (32 + i))) hC fa_X4_40 (cx_l2 hi (by decide)) (cx_text hi g _) rfl dX4_dropLast_1 ?_
  obtain ⟨x1, M1, e1, h⟩ := cb_l2 h
  refine cj_callVi (As := []) hC cv_X4_51 (cx_lt (cx_trow hi).1) ((cx_trow hi).2.2.1 g _) rfl (c_X2_dropLast l g (32 + i) (34 + i) (cx_cap i) (cx_trow hi) M e1.symm) (by decide) rfl rfl (Nat.le_of_ble_eq_true rfl) dX4_dropLast_4 ?_
  refine cj_istore_n (lv' := [(1, .int x1), (0, .ref (g.2.1 (30 + i)))]) hC dX4_dropLast_7 rfl (by decide) rfl ?_
  refine cj_aload_n hC dX4_dropLast_8 rfl 1 rfl ?_
  obtain ⟨M2, e2, h⟩ := cb_b h
  refine cj_callVv (As := []) hC cv_X4_48 (cx_l2 hi (by decide)) (cx_text hi g _) rfl (c_X4_parse l g i hi M1 e2) (by decide) rfl rfl (Nat.le_of_ble_eq_true rfl) dX4_dropLast_9 ?_
  refine cj_iload_n hC dX4_dropLast_12 rfl 0 rfl ?_
  obtain ⟨rfl, rfl⟩ := cb_i2 h
  exact cj_iret hC dX4_dropLast_13
def f_X4_empty (i : Nat) (M : cb_Mem) : Option (Int32 × cb_Mem) :=
  cb_let2 (f_X2_clear (32 + i) (34 + i) (cx_cap i) M) fun x1 M1 =>
  (f_X4_parse i M1).bind fun M2 =>
  some (x1, M2)
set_option maxRecDepth 100000 in
set_option maxHeartbeats 4000000 in
theorem c_X4_empty (l : Launch) (g : cb_Geo) (i : Nat) (hi : i < 2) (M : cb_Mem) {rr : Int32} {Mr : cb_Mem} (h : f_X4_empty i M = some (rr, Mr)) : Met l yX4_empty (.code yX4_empty cX4_empty 2 (some .int) :: cb_ws) (cb_rm 7) (cb_Pc cx g [.ref (g.2.1 (30 + i))] M) (cb_Qi cx g rr Mr) 0 0 (cb_A cx g) := by
  refine cb_met (by decide) wd_447 (Nat.le_of_ble_eq_true rfl) (fun γ hC => ?_)
  replace hC : cb_C cx g γ RX4 cX4_empty 2 (some .int) 7 l (cb_Qi cx g rr Mr) := hC
  show cb_J cx g γ 2 M 0 [(0, .ref (g.2.1 (30 + i)))] []
  unfold f_X4_empty at h
  refine cj_aload_n hC dX4_empty_0 rfl 0 rfl ?_
  refine cj_get (v := .ref (g.2.1 (32 + i))) hC fa_X4_40 (cx_l2 hi (by decide)) (cx_text hi g _) rfl dX4_empty_1 ?_
  obtain ⟨x1, M1, e1, h⟩ := cb_l2 h
  refine cj_callVi (As := []) hC cv_X4_55 (cx_lt (cx_trow hi).1) ((cx_trow hi).2.2.1 g _) rfl (c_X2_clear l g (32 + i) (34 + i) (cx_cap i) (cx_trow hi) M e1.symm) (by decide) rfl rfl (Nat.le_of_ble_eq_true rfl) dX4_empty_4 ?_
  refine cj_istore_n (lv' := [(1, .int x1), (0, .ref (g.2.1 (30 + i)))]) hC dX4_empty_7 rfl (by decide) rfl ?_
  refine cj_aload_n hC dX4_empty_8 rfl 1 rfl ?_
  obtain ⟨M2, e2, h⟩ := cb_b h
  refine cj_callVv (As := []) hC cv_X4_48 (cx_l2 hi (by decide)) (cx_text hi g _) rfl (c_X4_parse l g i hi M1 e2) (by decide) rfl rfl (Nat.le_of_ble_eq_true rfl) dX4_empty_9 ?_
  refine cj_iload_n hC dX4_empty_12 rfl 0 rfl ?_
  obtain ⟨rfl, rfl⟩ := cb_i2 h
  exact cj_iret hC dX4_empty_13
