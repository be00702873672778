def f_X6_isOff (p1 : Int32) (p2 : Int32) : Int32 :=
  cb_let (fun (_ : Unit) =>
  (1 : Int32)) fun k1 =>
  if p1 < 0 then
  k1 ()
  else
  if p1 < p2 then
  (0 : Int32)
  else
  k1 ()
set_option maxRecDepth 100000 in
set_option maxHeartbeats 4000000 in
theorem c_X6_isOff (l : Launch) (g : cb_Geo) (p1 : Int32) (p2 : Int32) (M : cb_Mem) {rr : Int32} (h : f_X6_isOff p1 p2 = rr) : Met l yX6_isOff (.code yX6_isOff cX6_isOff 2 (some .boolean) :: cb_ws) (cb_rm 0) (cb_Pc cx g [.int p1, .int p2] M) (cb_Qi cx g rr M) 0 0 (cb_A cx g) := by
  refine cb_met (by decide) wd_323 (Nat.le_of_ble_eq_true rfl) (fun γ hC => ?_)
  replace hC : cb_C cx g γ RX6 cX6_isOff 2 (some .boolean) 0 l (cb_Qi cx g rr M) := hC
  show cb_J cx g γ 2 M 0 [(0, .int p1), (1, .int p2)] []
  unfold f_X6_isOff at h
  refine cj_iload_n hC dX6_isOff_0 rfl 0 rfl ?_
  obtain ⟨k1, ek1, h⟩ := cb_l h
  have hk1 : ∀ (u9 : Unit), k1 u9 = rr → cb_J cx g γ 2 M 9 [] [] := by
    intro u9 h
    replace h := cb_k1 ek1 h
    refine cj_iconst (v := 1) hC dX6_isOff_9 rfl ?_
    refine cj_goto (tgt := 14) hC dX6_isOff_10 (by decide) ?_
    obtain rfl := h
    exact cj_zret hC (Or.inr rfl) dX6_isOff_14
  refine cj_if_lt (tgt := 9) hC dX6_isOff_1 (by decide) (fun c1 => ?_) (fun c1 => ?_)
  · replace h := cb_T c1 h
    exact cj_pick [] rfl (hk1 _ h)
  · replace h := cb_F c1 h
    refine cj_iload_n hC dX6_isOff_4 rfl 0 rfl ?_
    refine cj_iload_n hC dX6_isOff_5 rfl 1 rfl ?_
    refine cj_icmp_lt (tgt := 13) hC dX6_isOff_6 (by decide) (fun c2 => ?_) (fun c2 => ?_)
    · replace h := cb_T c2 h
      refine cj_iconst (v := 0) hC dX6_isOff_13 rfl ?_
      obtain rfl := h
      exact cj_zret hC (Or.inl rfl) dX6_isOff_14
    · replace h := cb_F c2 h
      exact cj_pick [] rfl (hk1 _ h)
def f_X2_at (k it cap : Nat) (p1 : Int32) (M : cb_Mem) : Option (Int32) :=
  cb_let (fun (_ : Unit) =>
  some ((-1) : Int32)) fun k1 =>
  if p1 < 0 then
  k1 ()
  else
  if p1 < (M k 1) then
  if cb_in p1 cap = true then
  some (M it p1.toNatClampNeg)
  else none
  else
  k1 ()
set_option maxRecDepth 100000 in
set_option maxHeartbeats 4000000 in
theorem c_X2_at (l : Launch) (g : cb_Geo) (k it cap : Nat) (hR : cx_Row k it cap) (p1 : Int32) (M : cb_Mem) {rr : Int32} (h : f_X2_at k it cap p1 M = some rr) : Met l yX2_at (.code yX2_at cX2_at 2 (some .int) :: cb_ws) (cb_rm 0) (cb_Pc cx g [.ref (g.2.1 k), .int p1] M) (cb_Qi cx g rr M) 0 0 (cb_A cx g) := by
  refine cb_met (by decide) wd_347 (Nat.le_of_ble_eq_true rfl) (fun γ hC => ?_)
  replace hC : cb_C cx g γ RX2 cX2_at 2 (some .int) 0 l (cb_Qi cx g rr M) := hC
  show cb_J cx g γ 2 M 0 [(0, .ref (g.2.1 k)), (1, .int p1)] []
  unfold f_X2_at at h
  refine cj_iload_n hC dX2_at_0 rfl 1 rfl ?_
  obtain ⟨k1, ek1, h⟩ := cb_l h
  have hk1 : ∀ (u9 : Unit), k1 u9 = some rr → cb_J cx g γ 2 M 12 [] [] := by
    intro u9 h
    replace h := cb_k1 ek1 h
    refine cj_iconst (v := (-1)) hC dX2_at_12 rfl ?_
    refine cj_goto (tgt := 22) hC dX2_at_13 (by decide) ?_
    obtain rfl := Option.some.inj h
    exact cj_iret hC dX2_at_22
  refine cj_if_lt (tgt := 12) hC dX2_at_1 (by decide) (fun c1 => ?_) (fun c1 => ?_)
  · replace h := cb_T c1 h
    exact cj_pick [] rfl (hk1 _ h)
  · replace h := cb_F c1 h
    refine cj_iload_n hC dX2_at_4 rfl 1 rfl ?_
    refine cj_aload_n hC dX2_at_5 rfl 0 rfl ?_
    refine cj_get (v := .int (M k 1)) hC fa_X2_21 (cx_lt hR.1) (hR.2.2.1 g _) rfl dX2_at_6 ?_
    refine cj_icmp_lt (tgt := 16) hC dX2_at_9 (by decide) (fun c2 => ?_) (fun c2 => ?_)
    · replace h := cb_T c2 h
      refine cj_aload_n hC dX2_at_16 rfl 0 rfl ?_
      refine cj_get (v := .ref (g.2.1 it)) hC fa_X2_15 (cx_lt hR.1) (hR.2.2.1 g _) rfl dX2_at_17 ?_
      refine cj_iload_n hC dX2_at_20 rfl 1 rfl ?_
      obtain ⟨i1, h⟩ := cb_g h
      refine cj_iald hC (cx_lt hR.2.1) (hR.2.2.2 g _) (cx_t0 g) i1 dX2_at_21 ?_
      obtain rfl := Option.some.inj h
      exact cj_iret hC dX2_at_22
    · replace h := cb_F c2 h
      exact cj_pick [] rfl (hk1 _ h)
def f_X2_add (k it cap : Nat) (p1 : Int32) (M : cb_Mem) : Option (Int32 × cb_Mem) :=
  if (M k 1) < (Int32.ofNat cap) then
  if cb_in (M k 1) cap = true then
  cb_let (cb_up M it (M k 1).toNatClampNeg p1) fun M1 =>
  cb_let (cb_up M1 k 1 ((M1 k 1) + 1)) fun M2 =>
  some ((M2 k 1), M2)
  else none
  else
  some (((-4) : Int32), M)
set_option maxRecDepth 100000 in
set_option maxHeartbeats 4000000 in
theorem c_X2_add (l : Launch) (g : cb_Geo) (k it cap : Nat) (hR : cx_Row k it cap) (p1 : Int32) (M : cb_Mem) {rr : Int32} {Mr : cb_Mem} (h : f_X2_add k it cap p1 M = some (rr, Mr)) : Met l yX2_add (.code yX2_add cX2_add 2 (some .int) :: cb_ws) (cb_rm 0) (cb_Pc cx g [.ref (g.2.1 k), .int p1] M) (cb_Qi cx g rr Mr) 0 0 (cb_A cx g) := by
  refine cb_met (by decide) wd_335 (Nat.le_of_ble_eq_true rfl) (fun γ hC => ?_)
  replace hC : cb_C cx g γ RX2 cX2_add 2 (some .int) 0 l (cb_Qi cx g rr Mr) := hC
  show cb_J cx g γ 2 M 0 [(0, .ref (g.2.1 k)), (1, .int p1)] []
  unfold f_X2_add at h
  refine cj_aload_n hC dX2_add_0 rfl 0 rfl ?_
  refine cj_get (v := .int (M k 1)) hC fa_X2_21 (cx_lt hR.1) (hR.2.2.1 g _) rfl dX2_add_1 ?_
  refine cj_aload_n hC dX2_add_4 rfl 0 rfl ?_
  refine cj_get (v := .ref (g.2.1 it)) hC fa_X2_15 (cx_lt hR.1) (hR.2.2.1 g _) rfl dX2_add_5 ?_
  refine cj_alen hC (cx_lt hR.2.1) (hR.2.2.2 g _) (cx_t0 g) rfl dX2_add_8 ?_
  refine cj_icmp_lt (tgt := 15) hC dX2_add_9 (by decide) (fun c1 => ?_) (fun c1 => ?_)
  · replace h := cb_T c1 h
    refine cj_aload_n hC dX2_add_15 rfl 0 rfl ?_
    refine cj_get (v := .ref (g.2.1 it)) hC fa_X2_15 (cx_lt hR.1) (hR.2.2.1 g _) rfl dX2_add_16 ?_
    refine cj_aload_n hC dX2_add_19 rfl 0 rfl ?_
    refine cj_get (v := .int (M k 1)) hC fa_X2_21 (cx_lt hR.1) (hR.2.2.1 g _) rfl dX2_add_20 ?_
    refine cj_iload_n hC dX2_add_23 rfl 1 rfl ?_
    obtain ⟨i1, h⟩ := cb_g h
    obtain ⟨M1, eM1, h⟩ := cb_l h
    refine cj_iast hC (cx_lt hR.2.1) (hR.2.2.2 g) (cx_t0 g) i1 eM1 dX2_add_24 ?_
    refine cj_aload_n hC dX2_add_25 rfl 0 rfl ?_
    refine cj_dup hC dX2_add_26 rfl ?_
    refine cj_get (v := .int (M1 k 1)) hC fa_X2_21 (cx_lt hR.1) (hR.2.2.1 g _) rfl dX2_add_27 ?_
    refine cj_iconst (v := 1) hC dX2_add_30 rfl ?_
    refine cj_iadd hC dX2_add_31 ?_
    obtain ⟨M2, eM2, h⟩ := cb_l h
    refine cj_put hC fp_X2_21 (cx_lt hR.1) (hR.2.2.1 g _) ((hR.2.2.1 g _).trans rfl) (Nat.le_of_ble_eq_true rfl) eM2 dX2_add_32 ?_
    refine cj_aload_n hC dX2_add_35 rfl 0 rfl ?_
    refine cj_get (v := .int (M2 k 1)) hC fa_X2_21 (cx_lt hR.1) (hR.2.2.1 g _) rfl dX2_add_36 ?_
    obtain ⟨rfl, rfl⟩ := cb_i2 h
    exact cj_iret hC dX2_add_39
  · replace h := cb_F c1 h
    refine cj_bipush (v := (-4)) hC dX2_add_12 rfl ?_
    obtain ⟨rfl, rfl⟩ := cb_i2 h
    exact cj_iret hC dX2_add_14
def f_X2_dropLast (k it cap : Nat) (M : cb_Mem) : Int32 × cb_Mem :=
  if (M k 1) = 0 then
  (((-3) : Int32), M)
  else
  cb_let (cb_up M k 1 ((M k 1) - 1)) fun M1 =>
  ((M1 k 1), M1)
set_option maxRecDepth 100000 in
set_option maxHeartbeats 4000000 in
theorem c_X2_dropLast (l : Launch) (g : cb_Geo) (k it cap : Nat) (hR : cx_Row k it cap) (M : cb_Mem) {rr : Int32} {Mr : cb_Mem} (h : f_X2_dropLast k it cap M = (rr, Mr)) : Met l yX2_dropLast (.code yX2_dropLast cX2_dropLast 1 (some .int) :: cb_ws) (cb_rm 0) (cb_Pc cx g [.ref (g.2.1 k)] M) (cb_Qi cx g rr Mr) 0 0 (cb_A cx g) := by
  refine cb_met (by decide) wd_463 (Nat.le_of_ble_eq_true rfl) (fun γ hC => ?_)
  replace hC : cb_C cx g γ RX2 cX2_dropLast 1 (some .int) 0 l (cb_Qi cx g rr Mr) := hC
  show cb_J cx g γ 1 M 0 [(0, .ref (g.2.1 k))] []
  unfold f_X2_dropLast at h
  refine cj_aload_n hC dX2_dropLast_0 rfl 0 rfl ?_
  refine cj_get (v := .int (M k 1)) hC fa_X2_21 (cx_lt hR.1) (hR.2.2.1 g _) rfl dX2_dropLast_1 ?_
  refine cj_if_ne (tgt := 10) hC dX2_dropLast_4 (by decide) (fun c1 => ?_) (fun c1 => ?_)
  · replace h := cb_F c1 h
    refine cj_aload_n hC dX2_dropLast_10 rfl 0 rfl ?_
    refine cj_dup hC dX2_dropLast_11 rfl ?_
    refine cj_get (v := .int (M k 1)) hC fa_X2_21 (cx_lt hR.1) (hR.2.2.1 g _) rfl dX2_dropLast_12 ?_
    refine cj_iconst (v := 1) hC dX2_dropLast_15 rfl ?_
    refine cj_isub hC dX2_dropLast_16 ?_
    obtain ⟨M1, eM1, h⟩ := cb_l h
    refine cj_put hC fp_X2_21 (cx_lt hR.1) (hR.2.2.1 g _) ((hR.2.2.1 g _).trans rfl) (Nat.le_of_ble_eq_true rfl) eM1 dX2_dropLast_17 ?_
    refine cj_aload_n hC dX2_dropLast_20 rfl 0 rfl ?_
    refine cj_get (v := .int (M1 k 1)) hC fa_X2_21 (cx_lt hR.1) (hR.2.2.1 g _) rfl dX2_dropLast_21 ?_
    obtain ⟨rfl, rfl⟩ := cb_p2 h
    exact cj_iret hC dX2_dropLast_24
  · replace h := cb_T c1 h
    refine cj_bipush (v := (-3)) hC dX2_dropLast_7 rfl ?_
    obtain ⟨rfl, rfl⟩ := cb_p2 h
    exact cj_iret hC dX2_dropLast_9
def f_X2_clear (k it cap : Nat) (M : cb_Mem) : Int32 × cb_Mem :=
  cb_let ((M k 1)) fun x1 =>
  cb_let (cb_up M k 1 0) fun M1 =>
  (x1, M1)
set_option maxRecDepth 100000 in
set_option maxHeartbeats 4000000 in
theorem c_X2_clear (l : Launch) (g : cb_Geo) (k it cap : Nat) (hR : cx_Row k it cap) (M : cb_Mem) {rr : Int32} {Mr : cb_Mem} (h : f_X2_clear k it cap M = (rr, Mr)) : Met l yX2_clear (.code yX2_clear cX2_clear 2 (some .int) :: cb_ws) (cb_rm 0) (cb_Pc cx g [.ref (g.2.1 k)] M) (cb_Qi cx g rr Mr) 0 0 (cb_A cx g) := by
  refine cb_met (by decide) wd_451 (Nat.le_of_ble_eq_true rfl) (fun γ hC => ?_)
  replace hC : cb_C cx g γ RX2 cX2_clear 2 (some .int) 0 l (cb_Qi cx g rr Mr) := hC
  show cb_J cx g γ 2 M 0 [(0, .ref (g.2.1 k))] []
  unfold f_X2_clear at h
  refine cj_aload_n hC dX2_clear_0 rfl 0 rfl ?_
  refine cj_get (v := .int (M k 1)) hC fa_X2_21 (cx_lt hR.1) (hR.2.2.1 g _) rfl dX2_clear_1 ?_
  obtain ⟨x1, ex1, h⟩ := cb_l h
  refine cj_topi ex1 ?_
  refine cj_istore_n (lv' := [(1, .int x1), (0, .ref (g.2.1 k))]) hC dX2_clear_4 rfl (by decide) rfl ?_
  refine cj_aload_n hC dX2_clear_5 rfl 1 rfl ?_
  refine cj_iconst (v := 0) hC dX2_clear_6 rfl ?_
  obtain ⟨M1, eM1, h⟩ := cb_l h
  refine cj_put hC fp_X2_21 (cx_lt hR.1) (hR.2.2.1 g _) ((hR.2.2.1 g _).trans rfl) (Nat.le_of_ble_eq_true rfl) eM1 dX2_clear_7 ?_
  refine cj_iload_n hC dX2_clear_10 rfl 0 rfl ?_
  obtain ⟨rfl, rfl⟩ := cb_p2 h
  exact cj_iret hC dX2_clear_11
def f_X6_leastBit_L2 : Nat → Int32 → Int32 → Option ((Int32) ⊕ (Unit))
    | 0, _, _ => none
    | n + 1, v0, v1 =>
      if 8 ≤ v1 then
      some (Sum.inr ())
      else
      if ((v0 >>> (v1 &&& 31)) &&& 1) = 0 then
      f_X6_leastBit_L2 n v0 (v1 + 1)
      else
      some (Sum.inl v1)
def f_X6_leastBit (p1 : Int32) : Option (Int32) :=
  cb_bs (f_X6_leastBit_L2 cb_fuel p1 0) (fun r => some r) fun _ =>
  some ((-1) : Int32)
set_option maxRecDepth 100000 in
set_option maxHeartbeats 4000000 in
theorem l_X6_leastBit_L2 {l : Launch} {g : cb_Geo} {γ : cb_Gam} {rr : Int32} {M : cb_Mem} (hC : cb_C cx g γ RX6 cX6_leastBit 2 (some .int) 0 l (cb_Qi cx g rr M)) (v0 : Int32) : ∀ (n : Nat) (v1 : Int32) (o : ((Int32) ⊕ (Unit))), f_X6_leastBit_L2 n v0 v1 = some o → (∀ (u : Int32), o = Sum.inl u → u = rr) → (o = Sum.inr () → cb_J cx g γ 2 M 24 [] []) → cb_J cx g γ 2 M 2 [(0, .int v0), (1, .int v1)] [] := by
  intro n
  induction n with
  | zero =>
    intro v1 o h
    cases h
  | succ n ih =>
    intro v1 o h hret hexit
    unfold f_X6_leastBit_L2 at h
    refine cj_iload_n hC dX6_leastBit_2 rfl 1 rfl ?_
    refine cj_bipush (v := 8) hC dX6_leastBit_3 rfl ?_
    refine cj_icmp_ge (tgt := 24) hC dX6_leastBit_5 (by decide) (fun c1 => ?_) (fun c1 => ?_)
    · replace h := cb_T c1 h
      obtain rfl := Option.some.inj h
      exact cj_pick [] rfl (hexit  rfl)
    · replace h := cb_F c1 h
      refine cj_iload_n hC dX6_leastBit_8 rfl 0 rfl ?_
      refine cj_iload_n hC dX6_leastBit_9 rfl 1 rfl ?_
      refine cj_ishr hC dX6_leastBit_10 ?_
      refine cj_iconst (v := 1) hC dX6_leastBit_11 rfl ?_
      refine cj_iand hC dX6_leastBit_12 ?_
      refine cj_if_eq (tgt := 18) hC dX6_leastBit_13 (by decide) (fun c2 => ?_) (fun c2 => ?_)
      · replace h := cb_T c2 h
        refine cj_iinc (lv' := [(1, .int (v1 + 1)), (0, .int v0)]) hC dX6_leastBit_18 (q := 1) rfl rfl (by decide) rfl ?_
        refine cj_goto (tgt := 2) hC dX6_leastBit_21 (by decide) ?_
        exact cj_pick [1, 0] rfl (ih _ _ h hret hexit)
      · replace h := cb_F c2 h
        refine cj_iload_n hC dX6_leastBit_16 rfl 1 rfl ?_
        obtain rfl := Option.some.inj h
        obtain rfl := hret _ rfl
        exact cj_iret hC dX6_leastBit_17
set_option maxRecDepth 100000 in
set_option maxHeartbeats 4000000 in
theorem c_X6_leastBit (l : Launch) (g : cb_Geo) (p1 : Int32) (M : cb_Mem) {rr : Int32} (h : f_X6_leastBit p1 = some rr) : Met l yX6_leastBit (.code yX6_leastBit cX6_leastBit 2 (some .int) :: cb_ws) (cb_rm 0) (cb_Pc cx g [.int p1] M) (cb_Qi cx g rr M) 0 0 (cb_A cx g) := by
  refine cb_met (by decide) wd_584 (Nat.le_of_ble_eq_true rfl) (fun γ hC => ?_)
  replace hC : cb_C cx g γ RX6 cX6_leastBit 2 (some .int) 0 l (cb_Qi cx g rr M) := hC
  show cb_J cx g γ 2 M 0 [(0, .int p1)] []
  unfold f_X6_leastBit at h
  refine cj_iconst (v := 0) hC dX6_leastBit_0 rfl ?_
  refine cj_istore_n (lv' := [(1, .int 0), (0, .int p1)]) hC dX6_leastBit_1 rfl (by decide) rfl ?_
  obtain ⟨z1, e1, hr1, hk1⟩ := cb_s h
  refine cj_pick [1, 0] rfl ?_
  refine l_X6_leastBit_L2 hC p1 cb_fuel _ _ e1 (fun u hz => Option.some.inj (hr1 _ hz)) (fun hz => ?_)
  replace h := hk1 () hz
  refine cj_iconst (v := (-1)) hC dX6_leastBit_24 rfl ?_
  obtain rfl := Option.some.inj h
  exact cj_iret hC dX6_leastBit_25
def f_J6_bitCount_0f7a4 (p1 : Int32) : Int32 :=
  cb_let ((p1 - ((p1.toUInt32 >>> ((1 : Int32).toUInt32 &&& Int32.toUInt32 31)).toInt32 &&& 1431655765))) fun x1 =>
  cb_let (((x1 &&& 858993459) + ((x1.toUInt32 >>> ((2 : Int32).toUInt32 &&& Int32.toUInt32 31)).toInt32 &&& 858993459))) fun x2 =>
  cb_let (((x2 + (x2.toUInt32 >>> ((4 : Int32).toUInt32 &&& Int32.toUInt32 31)).toInt32) &&& 252645135)) fun x3 =>
  cb_let ((x3 + (x3.toUInt32 >>> ((8 : Int32).toUInt32 &&& Int32.toUInt32 31)).toInt32)) fun x4 =>
  cb_let ((x4 + (x4.toUInt32 >>> ((16 : Int32).toUInt32 &&& Int32.toUInt32 31)).toInt32)) fun x5 =>
  (x5 &&& 63)
set_option maxRecDepth 100000 in
set_option maxHeartbeats 4000000 in
theorem c_J6_bitCount_0f7a4 (l : Launch) (g : cb_Geo) (p1 : Int32) (M : cb_Mem) {rr : Int32} (h : f_J6_bitCount_0f7a4 p1 = rr) : Met l yJ6_bitCount_0f7a4 (.code yJ6_bitCount_0f7a4 cJ6_bitCount_0f7a4 1 (some .int) :: cb_ws) (cb_rm 0) (cb_Pc cx g [.int p1] M) (cb_Qi cx g rr M) 0 0 (cb_A cx g) := by
  refine cb_met (by decide) wd_653 (Nat.le_of_ble_eq_true rfl) (fun γ hC => ?_)
  replace hC : cb_C cx g γ RJ6 cJ6_bitCount_0f7a4 1 (some .int) 0 l (cb_Qi cx g rr M) := hC
  show cb_J cx g γ 1 M 0 [(0, .int p1)] []
  unfold f_J6_bitCount_0f7a4 at h
  refine cj_iload_n hC dJ6_bitCount_0f7a4_0 rfl 0 rfl ?_
  refine cj_iload_n hC dJ6_bitCount_0f7a4_1 rfl 0 rfl ?_
  refine cj_iconst (v := 1) hC dJ6_bitCount_0f7a4_2 rfl ?_
  refine cj_iushr hC dJ6_bitCount_0f7a4_3 ?_
  refine cj_ldc_w (v := 1431655765) hC wd_654 dJ6_bitCount_0f7a4_4 ?_
  refine cj_iand hC dJ6_bitCount_0f7a4_7 ?_
  refine cj_isub hC dJ6_bitCount_0f7a4_8 ?_
  obtain ⟨x1, ex1, h⟩ := cb_l h
  refine cj_topi ex1 ?_
  refine cj_istore_n (lv' := [(0, .int x1)]) hC dJ6_bitCount_0f7a4_9 rfl (by decide) rfl ?_
  refine cj_iload_n hC dJ6_bitCount_0f7a4_10 rfl 0 rfl ?_
  refine cj_ldc_w (v := 858993459) hC wd_655 dJ6_bitCount_0f7a4_11 ?_
  refine cj_iand hC dJ6_bitCount_0f7a4_14 ?_
  refine cj_iload_n hC dJ6_bitCount_0f7a4_15 rfl 0 rfl ?_
  refine cj_iconst (v := 2) hC dJ6_bitCount_0f7a4_16 rfl ?_
  refine cj_iushr hC dJ6_bitCount_0f7a4_17 ?_
  refine cj_ldc_w (v := 858993459) hC wd_655 dJ6_bitCount_0f7a4_18 ?_
  refine cj_iand hC dJ6_bitCount_0f7a4_21 ?_
  refine cj_iadd hC dJ6_bitCount_0f7a4_22 ?_
  obtain ⟨x2, ex2, h⟩ := cb_l h
  refine cj_topi ex2 ?_
  refine cj_istore_n (lv' := [(0, .int x2)]) hC dJ6_bitCount_0f7a4_23 rfl (by decide) rfl ?_
  refine cj_iload_n hC dJ6_bitCount_0f7a4_24 rfl 0 rfl ?_
  refine cj_iload_n hC dJ6_bitCount_0f7a4_25 rfl 0 rfl ?_
  refine cj_iconst (v := 4) hC dJ6_bitCount_0f7a4_26 rfl ?_
  refine cj_iushr hC dJ6_bitCount_0f7a4_27 ?_
  refine cj_iadd hC dJ6_bitCount_0f7a4_28 ?_
  refine cj_ldc_w (v := 252645135) hC wd_656 dJ6_bitCount_0f7a4_29 ?_
  refine cj_iand hC dJ6_bitCount_0f7a4_32 ?_
  obtain ⟨x3, ex3, h⟩ := cb_l h
  refine cj_topi ex3 ?_
  refine cj_istore_n (lv' := [(0, .int x3)]) hC dJ6_bitCount_0f7a4_33 rfl (by decide) rfl ?_
  refine cj_iload_n hC dJ6_bitCount_0f7a4_34 rfl 0 rfl ?_
  refine cj_iload_n hC dJ6_bitCount_0f7a4_35 rfl 0 rfl ?_
  refine cj_bipush (v := 8) hC dJ6_bitCount_0f7a4_36 rfl ?_
  refine cj_iushr hC dJ6_bitCount_0f7a4_38 ?_
  refine cj_iadd hC dJ6_bitCount_0f7a4_39 ?_
  obtain ⟨x4, ex4, h⟩ := cb_l h
  refine cj_topi ex4 ?_
  refine cj_istore_n (lv' := [(0, .int x4)]) hC dJ6_bitCount_0f7a4_40 rfl (by decide) rfl ?_
  refine cj_iload_n hC dJ6_bitCount_0f7a4_41 rfl 0 rfl ?_
  refine cj_iload_n hC dJ6_bitCount_0f7a4_42 rfl 0 rfl ?_
  refine cj_bipush (v := 16) hC dJ6_bitCount_0f7a4_43 rfl ?_
  refine cj_iushr hC dJ6_bitCount_0f7a4_45 ?_
  refine cj_iadd hC dJ6_bitCount_0f7a4_46 ?_
  obtain ⟨x5, ex5, h⟩ := cb_l h
  refine cj_topi ex5 ?_
  refine cj_istore_n (lv' := [(0, .int x5)]) hC dJ6_bitCount_0f7a4_47 rfl (by decide) rfl ?_
  refine cj_iload_n hC dJ6_bitCount_0f7a4_48 rfl 0 rfl ?_
  refine cj_bipush (v := 63) hC dJ6_bitCount_0f7a4_49 rfl ?_
  refine cj_iand hC dJ6_bitCount_0f7a4_51 ?_
  obtain rfl := h
  exact cj_iret hC dJ6_bitCount_0f7a4_52
def f_J7_fill_53178_L5 : Nat → Nat → Nat → Int32 → Int32 → Int32 → cb_Mem → Option (cb_Mem)
    | 0, _, _, _, _, _, _ => none
    | n + 1, q, z, v1, v3, v2, M =>
      if v3 ≤ v2 then
      some M
      else
      if cb_in v2 z = true then
      cb_let (cb_up M q v2.toNatClampNeg v1) fun M1 =>
      f_J7_fill_53178_L5 n q z v1 v3 (v2 + 1) M1
      else none
def f_J7_fill_53178 (q z : Nat) (p1 : Int32) (M : cb_Mem) : Option (cb_Mem) :=
  cb_let ((Int32.ofNat z)) fun x1 =>
  (f_J7_fill_53178_L5 cb_fuel q z p1 x1 0 M).bind fun M1 =>
  some M1
set_option maxRecDepth 100000 in
set_option maxHeartbeats 4000000 in
theorem l_J7_fill_53178_L5 {l : Launch} {g : cb_Geo} {γ : cb_Gam} {Mr : cb_Mem} (hC : cb_C cx g γ RJ7 cJ7_fill_53178 4 none 0 l (cb_Qv cx g Mr)) (q : Nat) (hq : q < cx.1) (z : Nat) (hE : ∀ r, cx.2.1 g q r = .inl (g.2.2.1 0, z, .inl r)) (v1 : Int32) (v3 : Int32) : ∀ (n : Nat) (v2 : Int32) (M : cb_Mem) (o : (cb_Mem)), f_J7_fill_53178_L5 n q z v1 v3 v2 M = some o → (∀ (M' : cb_Mem), o = M' → cb_J cx g γ 4 M' 20 [] []) → cb_J cx g γ 4 M 5 [(0, .ref (g.2.1 q)), (1, .int v1), (2, .int v2), (3, .int v3)] [] := by
  intro n
  induction n with
  | zero =>
    intro v2 M o h
    cases h
  | succ n ih =>
    intro v2 M o h hexit
    unfold f_J7_fill_53178_L5 at h
    refine cj_iload_n hC dJ7_fill_53178_5 rfl 2 rfl ?_
    refine cj_iload_n hC dJ7_fill_53178_6 rfl 3 rfl ?_
    refine cj_icmp_ge (tgt := 20) hC dJ7_fill_53178_7 (by decide) (fun c1 => ?_) (fun c1 => ?_)
    · replace h := cb_T c1 h
      obtain rfl := Option.some.inj h
      exact cj_pick [] rfl (hexit _ rfl)
    · replace h := cb_F c1 h
      refine cj_aload_n hC dJ7_fill_53178_10 rfl 0 rfl ?_
      refine cj_iload_n hC dJ7_fill_53178_11 rfl 2 rfl ?_
      refine cj_iload_n hC dJ7_fill_53178_12 rfl 1 rfl ?_
      obtain ⟨i1, h⟩ := cb_g h
      obtain ⟨M1, eM1, h⟩ := cb_l h
      refine cj_iast hC hq (hE) (cx_t0 g) i1 eM1 dJ7_fill_53178_13 ?_
      refine cj_iinc (lv' := [(2, .int (v2 + 1)), (0, .ref (g.2.1 q)), (1, .int v1), (3, .int v3)]) hC dJ7_fill_53178_14 (q := 2) rfl rfl (by decide) rfl ?_
      refine cj_goto (tgt := 5) hC dJ7_fill_53178_17 (by decide) ?_
      exact cj_pick [1, 2, 0, 3] rfl (ih _ _ _ h hexit)
set_option maxRecDepth 100000 in
set_option maxHeartbeats 4000000 in
theorem c_J7_fill_53178 (l : Launch) (g : cb_Geo) (q z : Nat) (hq : q < cx.1) (hE : ∀ r, cx.2.1 g q r = .inl (g.2.2.1 0, z, .inl r)) (p1 : Int32) (M : cb_Mem) {Mr : cb_Mem} (h : f_J7_fill_53178 q z p1 M = some Mr) : Met l yJ7_fill_53178 (.code yJ7_fill_53178 cJ7_fill_53178 4 none :: cb_ws) (cb_rm 0) (cb_Pc cx g [.ref (g.2.1 q), .int p1] M) (cb_Qv cx g Mr) 0 0 (cb_A cx g) := by
  refine cb_met (by decide) wd_550 (Nat.le_of_ble_eq_true rfl) (fun γ hC => ?_)
  replace hC : cb_C cx g γ RJ7 cJ7_fill_53178 4 none 0 l (cb_Qv cx g Mr) := hC
  show cb_J cx g γ 4 M 0 [(0, .ref (g.2.1 q)), (1, .int p1)] []
  unfold f_J7_fill_53178 at h
  refine cj_iconst (v := 0) hC dJ7_fill_53178_0 rfl ?_
  refine cj_istore_n (lv' := [(2, .int 0), (0, .ref (g.2.1 q)), (1, .int p1)]) hC dJ7_fill_53178_1 rfl (by decide) rfl ?_
  refine cj_aload_n hC dJ7_fill_53178_2 rfl 1 rfl ?_
  refine cj_alen hC hq (hE _) (cx_t0 g) rfl dJ7_fill_53178_3 ?_
  obtain ⟨x1, ex1, h⟩ := cb_l h
  refine cj_topi ex1 ?_
  refine cj_istore_n (lv' := [(3, .int x1), (2, .int 0), (0, .ref (g.2.1 q)), (1, .int p1)]) hC dJ7_fill_53178_4 rfl (by decide) rfl ?_
  obtain ⟨M1, e1, h⟩ := cb_b h
  refine cj_pick [2, 3, 1, 0] rfl ?_
  refine l_J7_fill_53178_L5 hC q hq z hE p1 x1 cb_fuel _ _ _ e1 (fun ze1 hz => ?_)
  obtain rfl := hz
  obtain rfl := Option.some.inj h
  exact cj_vret hC dJ7_fill_53178_20
