def f_X7_mightMeet_L5 : Nat → Int32 → Int32 → Int32 → Int32 → cb_Mem → Option (Int32)
    | 0, _, _, _, _, _ => none
    | n + 1, v1, v2, v3, v4, M =>
      if 40 ≤ v4 then
      some v3
      else
      (f_X7_wants v1 v2 M).bind fun x1 =>
      if x1 = 0 then
      some v3
      else
      Option.bind (if v3 = 0 then
      (f_X7_comes v1 v4 M).bind fun x3 =>
      if x3 = 0 then
      some (0 : Int32)
      else
      (f_X7_isRipe v2 v4 M).bind fun x4 =>
      if x4 = 0 then
      some (0 : Int32)
      else
      some (1 : Int32)
      else
      some (1 : Int32)) fun x2 =>
      f_X7_mightMeet_L5 n v1 v2 x2 (v4 + 1) M
def f_X7_mightMeet (p1 : Int32) (p2 : Int32) (M : cb_Mem) : Option (Int32) :=
  (f_X7_mightMeet_L5 cb_fuel p1 p2 0 0 M).bind fun x1 =>
  some (x1 &&& 1)
set_option maxRecDepth 100000 in
set_option maxHeartbeats 4000000 in
theorem l_X7_mightMeet_L5 {l : Launch} {g : cb_Geo} {γ : cb_Gam} {rr : Int32} {M : cb_Mem} (hC : cb_C cy g γ RX7 cX7_mightMeet 5 (some .boolean) 2 l (cb_Qi cy g rr M)) (v1 : Int32) (v2 : Int32) : ∀ (n : Nat) (v3 : Int32) (v4 : Int32) (o : (Int32)), f_X7_mightMeet_L5 n v1 v2 v3 v4 M = some o → (∀ (v3' : Int32), o = v3' → cb_J cy g γ 5 M 57 [(3, .int v3')] []) → cb_J cy g γ 5 M 5 [(0, .ref (g.2.1 0)), (1, .int v1), (2, .int v2), (3, .int v3), (4, .int v4)] [] := by
  intro n
  induction n with
  | zero =>
    intro v3 v4 o h
    cases h
  | succ n ih =>
    intro v3 v4 o h hexit
    unfold f_X7_mightMeet_L5 at h
    refine cj_iload hC dX7_mightMeet_5 4 rfl ?_
    refine cj_bipush (v := 40) hC dX7_mightMeet_7 rfl ?_
    refine cj_icmp_ge (tgt := 57) hC dX7_mightMeet_9 (by decide) (fun c1 => ?_) (fun c1 => ?_)
    · replace h := cb_T c1 h
      obtain rfl := Option.some.inj h
      exact cj_pick [3] rfl (hexit _ rfl)
    · replace h := cb_F c1 h
      refine cj_aload_n hC dX7_mightMeet_12 rfl 0 rfl ?_
      refine cj_iload_n hC dX7_mightMeet_13 rfl 1 rfl ?_
      refine cj_iload_n hC dX7_mightMeet_14 rfl 2 rfl ?_
      obtain ⟨x1, e1, h⟩ := cb_b h
      refine cj_callVi (As := [.int v1, .int v2]) hC cv_X7_170 cy_l0_ (cy_e0 g _) rfl (c_X7_wants l g v1 v2 M e1) (by decide) rfl rfl (Nat.le_of_ble_eq_true rfl) dX7_mightMeet_15 ?_
      refine cj_if_eq (tgt := 57) hC dX7_mightMeet_18 (by decide) (fun c2 => ?_) (fun c2 => ?_)
      · replace h := cb_T c2 h
        obtain rfl := Option.some.inj h
        exact cj_pick [3] rfl (hexit _ rfl)
      · replace h := cb_F c2 h
        refine cj_iload_n hC dX7_mightMeet_21 rfl 3 rfl ?_
        obtain ⟨x2, hx1, h⟩ := cb_b h
        have hj1 : cb_J cy g γ 5 M 50 [(0, .ref (g.2.1 0)), (1, .int v1), (2, .int v2), (4, .int v4)] [.int x2] := by
          refine cj_istore_n (lv' := [(3, .int x2), (0, .ref (g.2.1 0)), (1, .int v1), (2, .int v2), (4, .int v4)]) hC dX7_mightMeet_50 rfl (by decide) rfl ?_
          refine cj_iinc (lv' := [(4, .int (v4 + 1)), (3, .int x2), (0, .ref (g.2.1 0)), (1, .int v1), (2, .int v2)]) hC dX7_mightMeet_51 (q := 4) rfl rfl (by decide) rfl ?_
          refine cj_goto (tgt := 5) hC dX7_mightMeet_54 (by decide) ?_
          exact cj_pick [2, 3, 4, 1, 0] rfl (ih _ _ _ h hexit)
        refine cj_if_ne (tgt := 45) hC dX7_mightMeet_22 (by decide) (fun c3 => ?_) (fun c3 => ?_)
        · replace hx1 := cb_F c3 hx1
          refine cj_iconst (v := 1) hC dX7_mightMeet_45 rfl ?_
          refine cj_goto (tgt := 50) hC dX7_mightMeet_46 (by decide) ?_
          obtain rfl := Option.some.inj hx1
          exact cj_pick [0, 1, 2, 4] rfl hj1
        · replace hx1 := cb_T c3 hx1
          refine cj_aload_n hC dX7_mightMeet_25 rfl 0 rfl ?_
          refine cj_iload_n hC dX7_mightMeet_26 rfl 1 rfl ?_
          refine cj_iload hC dX7_mightMeet_27 4 rfl ?_
          obtain ⟨x3, e2, hx1⟩ := cb_b hx1
          refine cj_callVi (As := [.int v1, .int v4]) hC cv_X7_173 cy_l0_ (cy_e0 g _) rfl (c_X7_comes l g v1 v4 M e2) (by decide) rfl rfl (Nat.le_of_ble_eq_true rfl) dX7_mightMeet_29 ?_
          refine cj_if_eq (tgt := 49) hC dX7_mightMeet_32 (by decide) (fun c4 => ?_) (fun c4 => ?_)
          · replace hx1 := cb_T c4 hx1
            refine cj_iconst (v := 0) hC dX7_mightMeet_49 rfl ?_
            obtain rfl := Option.some.inj hx1
            exact cj_pick [0, 1, 2, 4] rfl hj1
          · replace hx1 := cb_F c4 hx1
            refine cj_aload_n hC dX7_mightMeet_35 rfl 0 rfl ?_
            refine cj_iload_n hC dX7_mightMeet_36 rfl 2 rfl ?_
            refine cj_iload hC dX7_mightMeet_37 4 rfl ?_
            obtain ⟨x4, e3, hx1⟩ := cb_b hx1
            refine cj_callVi (As := [.int v2, .int v4]) hC cv_X7_179 cy_l0_ (cy_e0 g _) rfl (c_X7_isRipe l g v2 v4 M e3) (by decide) rfl rfl (Nat.le_of_ble_eq_true rfl) dX7_mightMeet_39 ?_
            refine cj_if_eq (tgt := 49) hC dX7_mightMeet_42 (by decide) (fun c5 => ?_) (fun c5 => ?_)
            · replace hx1 := cb_T c5 hx1
              refine cj_iconst (v := 0) hC dX7_mightMeet_49 rfl ?_
              obtain rfl := Option.some.inj hx1
              exact cj_pick [0, 1, 2, 4] rfl hj1
            · replace hx1 := cb_F c5 hx1
              refine cj_iconst (v := 1) hC dX7_mightMeet_45 rfl ?_
              refine cj_goto (tgt := 50) hC dX7_mightMeet_46 (by decide) ?_
              obtain rfl := Option.some.inj hx1
              exact cj_pick [0, 1, 2, 4] rfl hj1
set_option maxRecDepth 100000 in
set_option maxHeartbeats 4000000 in
theorem c_X7_mightMeet (l : Launch) (g : cb_Geo) (p1 : Int32) (p2 : Int32) (M : cb_Mem) {rr : Int32} (h : f_X7_mightMeet p1 p2 M = some rr) : Met l yX7_mightMeet (.code yX7_mightMeet cX7_mightMeet 5 (some .boolean) :: cb_ws) (cb_rm 2) (cb_Pc cy g [.ref (g.2.1 0), .int p1, .int p2] M) (cb_Qi cy g rr M) 0 0 (cb_A cy g) := by
  refine cb_met (by decide) wd_1154 (Nat.le_of_ble_eq_true rfl) (fun γ hC => ?_)
  replace hC : cb_C cy g γ RX7 cX7_mightMeet 5 (some .boolean) 2 l (cb_Qi cy g rr M) := hC
  show cb_J cy g γ 5 M 0 [(0, .ref (g.2.1 0)), (1, .int p1), (2, .int p2)] []
  unfold f_X7_mightMeet at h
  refine cj_iconst (v := 0) hC dX7_mightMeet_0 rfl ?_
  refine cj_istore_n (lv' := [(3, .int 0), (0, .ref (g.2.1 0)), (1, .int p1), (2, .int p2)]) hC dX7_mightMeet_1 rfl (by decide) rfl ?_
  refine cj_iconst (v := 0) hC dX7_mightMeet_2 rfl ?_
  refine cj_istore (lv' := [(4, .int 0), (3, .int 0), (0, .ref (g.2.1 0)), (1, .int p1), (2, .int p2)]) hC dX7_mightMeet_3 (by decide) rfl ?_
  obtain ⟨x1, e1, h⟩ := cb_b h
  refine cj_pick [2, 3, 4, 1, 0] rfl ?_
  refine l_X7_mightMeet_L5 hC p1 p2 cb_fuel _ _ _ e1 (fun ze1 hz => ?_)
  obtain rfl := hz
  refine cj_iload_n hC dX7_mightMeet_57 rfl 0 rfl ?_
  obtain rfl := Option.some.inj h
  exact cj_zret2 hC dX7_mightMeet_58
def f_X7_metNow_L9 : Nat → Int32 → Int32 → cb_Mem → Option (cb_Mem)
    | 0, _, _, _ => none
    | n + 1, v1, v2, M =>
      if v1 ≤ v2 then
      some M
      else
      if cb_in v2 256 = true then
      cb_let (cb_up M 19 v2.toNatClampNeg 0) fun M1 =>
      f_X7_metNow_L9 n v1 (v2 + 1) M1
      else none
def f_X7_metNow_L42 : Nat → Int32 → Int32 → Int32 → Int32 → cb_Mem → Option (Int32)
    | 0, _, _, _, _, _ => none
    | n + 1, v1, v2, v3, v4, M =>
      if (M 0 7) ≤ v4 then
      some v3
      else
      (f_X7_mightMeet v2 v4 M).bind fun x1 =>
      cb_let (if x1 = 0 then
      (0 : Int32)
      else
      ((1 : Int32) <<< (v4 &&& 31))) fun x2 =>
      cb_let ((v3 ||| x2)) fun x3 =>
      f_X7_metNow_L42 n v1 v2 x3 (v4 + 1) M
def f_X7_metNow_L91 : Nat → Int32 → Int32 → Int32 → Int32 → Int32 → cb_Mem → Option (cb_Mem)
    | 0, _, _, _, _, _, _ => none
    | n + 1, v1, v2, v3, v4, v5, M =>
      if (M 0 7) ≤ v5 then
      some M
      else
      cb_let (f_X7_isIn (v4 &&& v3) v5) fun x1 =>
      Option.bind (if x1 = 0 then
      if cb_in v4 256 = true then
      some (M 19 v4.toNatClampNeg)
      else none
      else
      if cb_in (v4 ^^^ ((1 : Int32) <<< (v5 &&& 31))) 256 = true then
      if cb_in v4 256 = true then
      cb_let (f_X7_greater ((M 19 (v4 ^^^ ((1 : Int32) <<< (v5 &&& 31))).toNatClampNeg) + 1) (M 19 v4.toNatClampNeg)) fun x3 =>
      some x3
      else none
      else none) fun x2 =>
      if cb_in v4 256 = true then
      cb_let (cb_up M 19 v4.toNatClampNeg x2) fun M1 =>
      f_X7_metNow_L91 n v1 v2 v3 v4 (v5 + 1) M1
      else none
def f_X7_metNow_L83 : Nat → Int32 → Int32 → Int32 → Int32 → cb_Mem → Option (cb_Mem)
    | 0, _, _, _, _, _ => none
    | n + 1, v1, v2, v3, v4, M =>
      if v4 ≤ 0 then
      some M
      else
      (f_X7_metNow_L91 cb_fuel v1 v2 v3 v4 0 M).bind fun M1 =>
      f_X7_metNow_L83 n v1 v2 v3 (v4 + (-1)) M1
def f_X7_metNow_L29 : Nat → Int32 → Int32 → cb_Mem → Option (cb_Mem)
    | 0, _, _, _ => none
    | n + 1, v1, v2, M =>
      if (M 0 9) ≤ v2 then
      some M
      else
      (f_X7_metNow_L42 cb_fuel v1 v2 0 0 M).bind fun x1 =>
      cb_let ((v1 - 1)) fun x2 =>
      (f_X7_metNow_L83 cb_fuel v1 v2 x1 x2 M).bind fun M1 =>
      f_X7_metNow_L29 n v1 (v2 + 1) M1
def f_X7_metNow  (M : cb_Mem) : Option (Int32 × cb_Mem) :=
  cb_let (((1 : Int32) <<< ((M 0 7) &&& 31))) fun x1 =>
  (f_X7_metNow_L9 cb_fuel x1 0 M).bind fun M1 =>
  (f_X7_metNow_L29 cb_fuel x1 0 M1).bind fun M2 =>
  if cb_in (x1 - 1) 256 = true then
  some ((M2 19 (x1 - 1).toNatClampNeg), M2)
  else none
set_option maxRecDepth 100000 in
set_option maxHeartbeats 4000000 in
theorem l_X7_metNow_L9 {l : Launch} {g : cb_Geo} {γ : cb_Gam} {rr : Int32} {Mr : cb_Mem} (hC : cb_C cy g γ RX7 cX7_metNow 7 (some .int) 3 l (cb_Qi cy g rr Mr)) (v1 : Int32) : ∀ (n : Nat) (v2 : Int32) (M : cb_Mem) (o : (cb_Mem)), f_X7_metNow_L9 n v1 v2 M = some o → (∀ (M' : cb_Mem), o = M' → cb_J cy g γ 7 M' 27 [(0, .ref (g.2.1 0)), (1, .int v1)] []) → cb_J cy g γ 7 M 9 [(0, .ref (g.2.1 0)), (1, .int v1), (2, .int v2)] [] := by
  intro n
  induction n with
  | zero =>
    intro v2 M o h
    cases h
  | succ n ih =>
    intro v2 M o h hexit
    unfold f_X7_metNow_L9 at h
    refine cj_iload_n hC dX7_metNow_9 rfl 2 rfl ?_
    refine cj_iload_n hC dX7_metNow_10 rfl 1 rfl ?_
    refine cj_icmp_ge (tgt := 27) hC dX7_metNow_11 (by decide) (fun c1 => ?_) (fun c1 => ?_)
    · replace h := cb_T c1 h
      obtain rfl := Option.some.inj h
      exact cj_pick [0, 1] rfl (hexit _ rfl)
    · replace h := cb_F c1 h
      refine cj_aload_n hC dX7_metNow_14 rfl 0 rfl ?_
      refine cj_get (v := .ref (g.2.1 19)) hC fa_X7_64 cy_l0_ (cy_e0 g _) rfl dX7_metNow_15 ?_
      refine cj_iload_n hC dX7_metNow_18 rfl 2 rfl ?_
      refine cj_iconst (v := 0) hC dX7_metNow_19 rfl ?_
      obtain ⟨i1, h⟩ := cb_g h
      obtain ⟨M1, eM1, h⟩ := cb_l h
      refine cj_iast hC cy_l19_ (cy_e19 g) (cy_t0 g) i1 eM1 dX7_metNow_20 ?_
      refine cj_iinc (lv' := [(2, .int (v2 + 1)), (0, .ref (g.2.1 0)), (1, .int v1)]) hC dX7_metNow_21 (q := 2) rfl rfl (by decide) rfl ?_
      refine cj_goto (tgt := 9) hC dX7_metNow_24 (by decide) ?_
      exact cj_pick [1, 2, 0] rfl (ih _ _ _ h hexit)
set_option maxRecDepth 100000 in
set_option maxHeartbeats 4000000 in
theorem l_X7_metNow_L42 {l : Launch} {g : cb_Geo} {γ : cb_Gam} {rr : Int32} {Mr : cb_Mem} (hC : cb_C cy g γ RX7 cX7_metNow 7 (some .int) 3 l (cb_Qi cy g rr Mr)) (v1 : Int32) (v2 : Int32) (M : cb_Mem) : ∀ (n : Nat) (v3 : Int32) (v4 : Int32) (o : (Int32)), f_X7_metNow_L42 n v1 v2 v3 v4 M = some o → (∀ (v3' : Int32), o = v3' → cb_J cy g γ 7 M 78 [(0, .ref (g.2.1 0)), (1, .int v1), (2, .int v2), (3, .int v3')] []) → cb_J cy g γ 7 M 42 [(0, .ref (g.2.1 0)), (1, .int v1), (2, .int v2), (3, .int v3), (4, .int v4)] [] := by
  intro n
  induction n with
  | zero =>
    intro v3 v4 o h
    cases h
  | succ n ih =>
    intro v3 v4 o h hexit
    unfold f_X7_metNow_L42 at h
    refine cj_iload hC dX7_metNow_42 4 rfl ?_
    refine cj_aload_n hC dX7_metNow_44 rfl 0 rfl ?_
    refine cj_get (v := .int (M 0 7)) hC fa_X7_118 cy_l0_ (cy_e0 g _) rfl dX7_metNow_45 ?_
    refine cj_icmp_ge (tgt := 78) hC dX7_metNow_48 (by decide) (fun c1 => ?_) (fun c1 => ?_)
    · replace h := cb_T c1 h
      obtain rfl := Option.some.inj h
      exact cj_pick [0, 1, 2, 3] rfl (hexit _ rfl)
    · replace h := cb_F c1 h
      refine cj_iload_n hC dX7_metNow_51 rfl 3 rfl ?_
      refine cj_aload_n hC dX7_metNow_52 rfl 0 rfl ?_
      refine cj_iload_n hC dX7_metNow_53 rfl 2 rfl ?_
      refine cj_iload hC dX7_metNow_54 4 rfl ?_
      obtain ⟨x1, e1, h⟩ := cb_b h
      refine cj_callVi (As := [.int v2, .int v4]) hC cv_X7_218 cy_l0_ (cy_e0 g _) rfl (c_X7_mightMeet l g v2 v4 M e1) (by decide) rfl rfl (Nat.le_of_ble_eq_true rfl) dX7_metNow_56 ?_
      obtain ⟨x2, hx1, h⟩ := cb_l h
      replace hx1 := hx1.symm
      have hj1 : cb_J cy g γ 7 M 70 [(0, .ref (g.2.1 0)), (1, .int v1), (2, .int v2), (4, .int v4)] [.int x2, .int v3] := by
        refine cj_ior hC dX7_metNow_70 ?_
        obtain ⟨x3, ex3, h⟩ := cb_l h
        refine cj_topi ex3 ?_
        refine cj_istore_n (lv' := [(3, .int x3), (0, .ref (g.2.1 0)), (1, .int v1), (2, .int v2), (4, .int v4)]) hC dX7_metNow_71 rfl (by decide) rfl ?_
        refine cj_iinc (lv' := [(4, .int (v4 + 1)), (3, .int x3), (0, .ref (g.2.1 0)), (1, .int v1), (2, .int v2)]) hC dX7_metNow_72 (q := 4) rfl rfl (by decide) rfl ?_
        refine cj_goto (tgt := 42) hC dX7_metNow_75 (by decide) ?_
        exact cj_pick [2, 3, 4, 1, 0] rfl (ih _ _ _ h hexit)
      refine cj_if_eq (tgt := 69) hC dX7_metNow_59 (by decide) (fun c2 => ?_) (fun c2 => ?_)
      · replace hx1 := cb_T c2 hx1
        refine cj_iconst (v := 0) hC dX7_metNow_69 rfl ?_
        obtain rfl := hx1
        exact cj_pick [0, 1, 2, 4] rfl hj1
      · replace hx1 := cb_F c2 hx1
        refine cj_iconst (v := 1) hC dX7_metNow_62 rfl ?_
        refine cj_iload hC dX7_metNow_63 4 rfl ?_
        refine cj_ishl hC dX7_metNow_65 ?_
        refine cj_goto (tgt := 70) hC dX7_metNow_66 (by decide) ?_
        obtain rfl := hx1
        exact cj_pick [0, 1, 2, 4] rfl hj1
set_option maxRecDepth 100000 in
set_option maxHeartbeats 4000000 in
theorem l_X7_metNow_L91 {l : Launch} {g : cb_Geo} {γ : cb_Gam} {rr : Int32} {Mr : cb_Mem} (hC : cb_C cy g γ RX7 cX7_metNow 7 (some .int) 3 l (cb_Qi cy g rr Mr)) (v1 : Int32) (v2 : Int32) (v3 : Int32) (v4 : Int32) : ∀ (n : Nat) (v5 : Int32) (M : cb_Mem) (o : (cb_Mem)), f_X7_metNow_L91 n v1 v2 v3 v4 v5 M = some o → (∀ (M' : cb_Mem), o = M' → cb_J cy g γ 7 M' 163 [(0, .ref (g.2.1 0)), (1, .int v1), (2, .int v2), (3, .int v3), (4, .int v4)] []) → cb_J cy g γ 7 M 91 [(0, .ref (g.2.1 0)), (1, .int v1), (2, .int v2), (3, .int v3), (4, .int v4), (5, .int v5)] [] := by
  intro n
  induction n with
  | zero =>
    intro v5 M o h
    cases h
  | succ n ih =>
    intro v5 M o h hexit
    unfold f_X7_metNow_L91 at h
    refine cj_iload hC dX7_metNow_91 5 rfl ?_
    refine cj_aload_n hC dX7_metNow_93 rfl 0 rfl ?_
    refine cj_get (v := .int (M 0 7)) hC fa_X7_118 cy_l0_ (cy_e0 g _) rfl dX7_metNow_94 ?_
    refine cj_icmp_ge (tgt := 163) hC dX7_metNow_97 (by decide) (fun c1 => ?_) (fun c1 => ?_)
    · replace h := cb_T c1 h
      obtain rfl := Option.some.inj h
      exact cj_pick [0, 1, 2, 3, 4] rfl (hexit _ rfl)
    · replace h := cb_F c1 h
      refine cj_iload hC dX7_metNow_100 4 rfl ?_
      refine cj_iload_n hC dX7_metNow_102 rfl 3 rfl ?_
      refine cj_iand hC dX7_metNow_103 ?_
      refine cj_iload hC dX7_metNow_104 5 rfl ?_
      obtain ⟨x1, e1, h⟩ := cb_l h
      refine cj_callSi (As := [.int (v4 &&& v3), .int v5]) hC cs_X7_154 (c_X7_isIn l g (v4 &&& v3) v5 M e1.symm) (by decide) rfl rfl (Nat.le_of_ble_eq_true rfl) dX7_metNow_106 ?_
      refine cj_istore (lv' := [(6, .int x1), (0, .ref (g.2.1 0)), (1, .int v1), (2, .int v2), (3, .int v3), (4, .int v4), (5, .int v5)]) hC dX7_metNow_109 (by decide) rfl ?_
      refine cj_aload_n hC dX7_metNow_111 rfl 1 rfl ?_
      refine cj_get (v := .ref (g.2.1 19)) hC fa_X7_64 cy_l0_ (cy_e0 g _) rfl dX7_metNow_112 ?_
      refine cj_iload hC dX7_metNow_115 5 rfl ?_
      refine cj_iload hC dX7_metNow_117 0 rfl ?_
      obtain ⟨x2, hx1, h⟩ := cb_b h
      have hj1 : cb_J cy g γ 7 M 156 [(0, .ref (g.2.1 0)), (1, .int v1), (2, .int v2), (3, .int v3), (4, .int v4), (5, .int v5)] [.int x2, .int v4, .ref (g.2.1 19)] := by
        obtain ⟨i4, h⟩ := cb_g h
        obtain ⟨M1, eM1, h⟩ := cb_l h
        refine cj_iast hC cy_l19_ (cy_e19 g) (cy_t0 g) i4 eM1 dX7_metNow_156 ?_
        refine cj_iinc (lv' := [(5, .int (v5 + 1)), (0, .ref (g.2.1 0)), (1, .int v1), (2, .int v2), (3, .int v3), (4, .int v4)]) hC dX7_metNow_157 (q := 5) rfl rfl (by decide) rfl ?_
        refine cj_goto (tgt := 91) hC dX7_metNow_160 (by decide) ?_
        exact cj_pick [1, 2, 3, 4, 5, 0] rfl (ih _ _ _ h hexit)
      refine cj_if_eq (tgt := 149) hC dX7_metNow_119 (by decide) (fun c2 => ?_) (fun c2 => ?_)
      · replace hx1 := cb_T c2 hx1
        refine cj_aload_n hC dX7_metNow_149 rfl 1 rfl ?_
        refine cj_get (v := .ref (g.2.1 19)) hC fa_X7_64 cy_l0_ (cy_e0 g _) rfl dX7_metNow_150 ?_
        refine cj_iload hC dX7_metNow_153 5 rfl ?_
        obtain ⟨i1, hx1⟩ := cb_g hx1
        refine cj_iald hC cy_l19_ (cy_e19 g _) (cy_t0 g) i1 dX7_metNow_155 ?_
        obtain rfl := Option.some.inj hx1
        exact cj_pick [1, 2, 3, 4, 5, 6] rfl hj1
      · replace hx1 := cb_F c2 hx1
        refine cj_aload_n hC dX7_metNow_122 rfl 1 rfl ?_
        refine cj_get (v := .ref (g.2.1 19)) hC fa_X7_64 cy_l0_ (cy_e0 g _) rfl dX7_metNow_123 ?_
        refine cj_iload hC dX7_metNow_126 5 rfl ?_
        refine cj_iconst (v := 1) hC dX7_metNow_128 rfl ?_
        refine cj_iload hC dX7_metNow_129 6 rfl ?_
        refine cj_ishl hC dX7_metNow_131 ?_
        refine cj_ixor hC dX7_metNow_132 ?_
        obtain ⟨i2, hx1⟩ := cb_g hx1
        refine cj_iald hC cy_l19_ (cy_e19 g _) (cy_t0 g) i2 dX7_metNow_133 ?_
        refine cj_iconst (v := 1) hC dX7_metNow_134 rfl ?_
        refine cj_iadd hC dX7_metNow_135 ?_
        refine cj_aload_n hC dX7_metNow_136 rfl 1 rfl ?_
        refine cj_get (v := .ref (g.2.1 19)) hC fa_X7_64 cy_l0_ (cy_e0 g _) rfl dX7_metNow_137 ?_
        refine cj_iload hC dX7_metNow_140 5 rfl ?_
        obtain ⟨i3, hx1⟩ := cb_g hx1
        refine cj_iald hC cy_l19_ (cy_e19 g _) (cy_t0 g) i3 dX7_metNow_142 ?_
        obtain ⟨x3, e2, hx1⟩ := cb_l hx1
        refine cj_callSi (As := [.int ((M 19 (v4 ^^^ ((1 : Int32) <<< (v5 &&& 31))).toNatClampNeg) + 1), .int (M 19 v4.toNatClampNeg)]) hC cs_X7_221 (c_X7_greater l g ((M 19 (v4 ^^^ ((1 : Int32) <<< (v5 &&& 31))).toNatClampNeg) + 1) (M 19 v4.toNatClampNeg) M e2.symm) (by decide) rfl rfl (Nat.le_of_ble_eq_true rfl) dX7_metNow_143 ?_
        refine cj_goto (tgt := 156) hC dX7_metNow_146 (by decide) ?_
        obtain rfl := Option.some.inj hx1
        exact cj_pick [1, 2, 3, 4, 5, 6] rfl hj1
set_option maxRecDepth 100000 in
set_option maxHeartbeats 4000000 in
theorem l_X7_metNow_L83 {l : Launch} {g : cb_Geo} {γ : cb_Gam} {rr : Int32} {Mr : cb_Mem} (hC : cb_C cy g γ RX7 cX7_metNow 7 (some .int) 3 l (cb_Qi cy g rr Mr)) (v1 : Int32) (v2 : Int32) (v3 : Int32) : ∀ (n : Nat) (v4 : Int32) (M : cb_Mem) (o : (cb_Mem)), f_X7_metNow_L83 n v1 v2 v3 v4 M = some o → (∀ (M' : cb_Mem), o = M' → cb_J cy g γ 7 M' 169 [(0, .ref (g.2.1 0)), (1, .int v1), (2, .int v2)] []) → cb_J cy g γ 7 M 83 [(0, .ref (g.2.1 0)), (1, .int v1), (2, .int v2), (3, .int v3), (4, .int v4)] [] := by
  intro n
  induction n with
  | zero =>
    intro v4 M o h
    cases h
  | succ n ih =>
    intro v4 M o h hexit
    unfold f_X7_metNow_L83 at h
    refine cj_iload hC dX7_metNow_83 4 rfl ?_
    refine cj_if_le (tgt := 169) hC dX7_metNow_85 (by decide) (fun c1 => ?_) (fun c1 => ?_)
    · replace h := cb_T c1 h
      obtain rfl := Option.some.inj h
      exact cj_pick [0, 1, 2] rfl (hexit _ rfl)
    · replace h := cb_F c1 h
      refine cj_iconst (v := 0) hC dX7_metNow_88 rfl ?_
      refine cj_istore (lv' := [(5, .int 0), (0, .ref (g.2.1 0)), (1, .int v1), (2, .int v2), (3, .int v3), (4, .int v4)]) hC dX7_metNow_89 (by decide) rfl ?_
      obtain ⟨M1, e1, h⟩ := cb_b h
      refine cj_pick [1, 2, 3, 4, 5, 0] rfl ?_
      refine l_X7_metNow_L91 hC v1 v2 v3 v4 cb_fuel _ _ _ e1 (fun ze1 hz => ?_)
      obtain rfl := hz
      refine cj_iinc (lv' := [(4, .int (v4 + (-1))), (0, .ref (g.2.1 0)), (1, .int v1), (2, .int v2), (3, .int v3)]) hC dX7_metNow_163 (q := 4) rfl rfl (by decide) rfl ?_
      refine cj_goto (tgt := 83) hC dX7_metNow_166 (by decide) ?_
      exact cj_pick [1, 2, 3, 4, 0] rfl (ih _ _ _ h hexit)
set_option maxRecDepth 100000 in
set_option maxHeartbeats 4000000 in
theorem l_X7_metNow_L29 {l : Launch} {g : cb_Geo} {γ : cb_Gam} {rr : Int32} {Mr : cb_Mem} (hC : cb_C cy g γ RX7 cX7_metNow 7 (some .int) 3 l (cb_Qi cy g rr Mr)) (v1 : Int32) : ∀ (n : Nat) (v2 : Int32) (M : cb_Mem) (o : (cb_Mem)), f_X7_metNow_L29 n v1 v2 M = some o → (∀ (M' : cb_Mem), o = M' → cb_J cy g γ 7 M' 175 [(0, .ref (g.2.1 0)), (1, .int v1)] []) → cb_J cy g γ 7 M 29 [(0, .ref (g.2.1 0)), (1, .int v1), (2, .int v2)] [] := by
  intro n
  induction n with
  | zero =>
    intro v2 M o h
    cases h
  | succ n ih =>
    intro v2 M o h hexit
    unfold f_X7_metNow_L29 at h
    refine cj_iload_n hC dX7_metNow_29 rfl 2 rfl ?_
    refine cj_aload_n hC dX7_metNow_30 rfl 0 rfl ?_
    refine cj_get (v := .int (M 0 9)) hC fa_X7_124 cy_l0_ (cy_e0 g _) rfl dX7_metNow_31 ?_
    refine cj_icmp_ge (tgt := 175) hC dX7_metNow_34 (by decide) (fun c1 => ?_) (fun c1 => ?_)
    · replace h := cb_T c1 h
      obtain rfl := Option.some.inj h
      exact cj_pick [0, 1] rfl (hexit _ rfl)
    · replace h := cb_F c1 h
      refine cj_iconst (v := 0) hC dX7_metNow_37 rfl ?_
      refine cj_istore_n (lv' := [(3, .int 0), (0, .ref (g.2.1 0)), (1, .int v1), (2, .int v2)]) hC dX7_metNow_38 rfl (by decide) rfl ?_
      refine cj_iconst (v := 0) hC dX7_metNow_39 rfl ?_
      refine cj_istore (lv' := [(4, .int 0), (3, .int 0), (0, .ref (g.2.1 0)), (1, .int v1), (2, .int v2)]) hC dX7_metNow_40 (by decide) rfl ?_
      obtain ⟨x1, e1, h⟩ := cb_b h
      refine cj_pick [2, 3, 4, 1, 0] rfl ?_
      refine l_X7_metNow_L42 hC v1 v2 M cb_fuel _ _ _ e1 (fun ze1 hz => ?_)
      obtain rfl := hz
      refine cj_iload_n hC dX7_metNow_78 rfl 1 rfl ?_
      refine cj_iconst (v := 1) hC dX7_metNow_79 rfl ?_
      refine cj_isub hC dX7_metNow_80 ?_
      obtain ⟨x2, ex2, h⟩ := cb_l h
      refine cj_topi ex2 ?_
      refine cj_istore (lv' := [(4, .int x2), (0, .ref (g.2.1 0)), (1, .int v1), (2, .int v2), (3, .int x1)]) hC dX7_metNow_81 (by decide) rfl ?_
      obtain ⟨M1, e2, h⟩ := cb_b h
      refine cj_pick [1, 2, 3, 4, 0] rfl ?_
      refine l_X7_metNow_L83 hC v1 v2 x1 cb_fuel _ _ _ e2 (fun ze2 hz => ?_)
      obtain rfl := hz
      refine cj_iinc (lv' := [(2, .int (v2 + 1)), (0, .ref (g.2.1 0)), (1, .int v1)]) hC dX7_metNow_169 (q := 2) rfl rfl (by decide) rfl ?_
      refine cj_goto (tgt := 29) hC dX7_metNow_172 (by decide) ?_
      exact cj_pick [1, 2, 0] rfl (ih _ _ _ h hexit)
set_option maxRecDepth 100000 in
set_option maxHeartbeats 4000000 in
theorem c_X7_metNow (l : Launch) (g : cb_Geo)  (M : cb_Mem) {rr : Int32} {Mr : cb_Mem} (h : f_X7_metNow  M = some (rr, Mr)) : Met l yX7_metNow (.code yX7_metNow cX7_metNow 7 (some .int) :: cb_ws) (cb_rm 3) (cb_Pc cy g [.ref (g.2.1 0)] M) (cb_Qi cy g rr Mr) 0 0 (cb_A cy g) := by
  refine cb_met (by decide) wd_1150 (Nat.le_of_ble_eq_true rfl) (fun γ hC => ?_)
  replace hC : cb_C cy g γ RX7 cX7_metNow 7 (some .int) 3 l (cb_Qi cy g rr Mr) := hC
  show cb_J cy g γ 7 M 0 [(0, .ref (g.2.1 0))] []
  unfold f_X7_metNow at h
  refine cj_iconst (v := 1) hC dX7_metNow_0 rfl ?_
  refine cj_aload_n hC dX7_metNow_1 rfl 0 rfl ?_
  refine cj_get (v := .int (M 0 7)) hC fa_X7_118 cy_l0_ (cy_e0 g _) rfl dX7_metNow_2 ?_
  refine cj_ishl hC dX7_metNow_5 ?_
  obtain ⟨x1, ex1, h⟩ := cb_l h
  refine cj_topi ex1 ?_
  refine cj_istore_n (lv' := [(1, .int x1), (0, .ref (g.2.1 0))]) hC dX7_metNow_6 rfl (by decide) rfl ?_
  refine cj_iconst (v := 0) hC dX7_metNow_7 rfl ?_
  refine cj_istore_n (lv' := [(2, .int 0), (1, .int x1), (0, .ref (g.2.1 0))]) hC dX7_metNow_8 rfl (by decide) rfl ?_
  obtain ⟨M1, e1, h⟩ := cb_b h
  refine cj_pick [2, 1, 0] rfl ?_
  refine l_X7_metNow_L9 hC x1 cb_fuel _ _ _ e1 (fun ze1 hz => ?_)
  obtain rfl := hz
  refine cj_iconst (v := 0) hC dX7_metNow_27 rfl ?_
  refine cj_istore_n (lv' := [(2, .int 0), (0, .ref (g.2.1 0)), (1, .int x1)]) hC dX7_metNow_28 rfl (by decide) rfl ?_
  obtain ⟨M2, e2, h⟩ := cb_b h
  refine cj_pick [1, 2, 0] rfl ?_
  refine l_X7_metNow_L29 hC x1 cb_fuel _ _ _ e2 (fun ze2 hz => ?_)
  obtain rfl := hz
  refine cj_aload_n hC dX7_metNow_175 rfl 0 rfl ?_
  refine cj_get (v := .ref (g.2.1 19)) hC fa_X7_64 cy_l0_ (cy_e0 g _) rfl dX7_metNow_176 ?_
  refine cj_iload_n hC dX7_metNow_179 rfl 1 rfl ?_
  refine cj_iconst (v := 1) hC dX7_metNow_180 rfl ?_
  refine cj_isub hC dX7_metNow_181 ?_
  obtain ⟨i1, h⟩ := cb_g h
  refine cj_iald hC cy_l19_ (cy_e19 g _) (cy_t0 g) i1 dX7_metNow_182 ?_
  obtain ⟨rfl, rfl⟩ := cb_i2 h
  exact cj_iret hC dX7_metNow_183
def f_X7_met  (M : cb_Mem) : Option (Int32 × cb_Mem) :=
  (f_X7_find  M).bind fun M1 =>
  cb_bind2 (f_X7_metNow  M1) fun x1 M2 =>
  some (x1, M2)
set_option maxRecDepth 100000 in
set_option maxHeartbeats 4000000 in
theorem c_X7_met (l : Launch) (g : cb_Geo)  (M : cb_Mem) {rr : Int32} {Mr : cb_Mem} (h : f_X7_met  M = some (rr, Mr)) : Met l yX7_met (.code yX7_met cX7_met 1 (some .int) :: cb_ws) (cb_rm 6) (cb_Pc cy g [.ref (g.2.1 0)] M) (cb_Qi cy g rr Mr) 0 0 (cb_A cy g) := by
  refine cb_met (by decide) wd_1146 (Nat.le_of_ble_eq_true rfl) (fun γ hC => ?_)
  replace hC : cb_C cy g γ RX7 cX7_met 1 (some .int) 6 l (cb_Qi cy g rr Mr) := hC
  show cb_J cy g γ 1 M 0 [(0, .ref (g.2.1 0))] []
  unfold f_X7_met at h
  refine cj_aload_n hC dX7_met_0 rfl 0 rfl ?_
  obtain ⟨M1, e1, h⟩ := cb_b h
  refine cj_callVv (As := []) hC cv_X7_200 cy_l0_ (cy_e0 g _) rfl (c_X7_find l g  M e1) (by decide) rfl rfl (Nat.le_of_ble_eq_true rfl) dX7_met_1 ?_
  refine cj_aload_n hC dX7_met_4 rfl 0 rfl ?_
  obtain ⟨x1, M2, e2, h⟩ := cb_b2 h
  refine cj_callVi (As := []) hC cv_X7_224 cy_l0_ (cy_e0 g _) rfl (c_X7_metNow l g  M1 e2) (by decide) rfl rfl (Nat.le_of_ble_eq_true rfl) dX7_met_5 ?_
  obtain ⟨rfl, rfl⟩ := cb_i2 h
  exact cj_iret hC dX7_met_8
def f_X7_isMet (p1 : Int32) (p2 : Int32) (M : cb_Mem) : Option (Int32 × cb_Mem) :=
  cb_let (cb_up M 0 15 p2) fun M1 =>
  (f_X7_lives  M1).bind fun M2 =>
  cb_let (cb_up M2 0 15 0) fun M3 =>
  if cb_in p1 8 = true then
  if (M3 16 p1.toNatClampNeg) = (-1) then
  some ((0 : Int32), M3)
  else
  some ((1 : Int32), M3)
  else none
set_option maxRecDepth 100000 in
set_option maxHeartbeats 4000000 in
theorem c_X7_isMet (l : Launch) (g : cb_Geo) (p1 : Int32) (p2 : Int32) (M : cb_Mem) {rr : Int32} {Mr : cb_Mem} (h : f_X7_isMet p1 p2 M = some (rr, Mr)) : Met l yX7_isMet (.code yX7_isMet cX7_isMet 3 (some .boolean) :: cb_ws) (cb_rm 5) (cb_Pc cy g [.ref (g.2.1 0), .int p1, .int p2] M) (cb_Qi cy g rr Mr) 0 0 (cb_A cy g) := by
  refine cb_met (by decide) wd_1170 (Nat.le_of_ble_eq_true rfl) (fun γ hC => ?_)
  replace hC : cb_C cy g γ RX7 cX7_isMet 3 (some .boolean) 5 l (cb_Qi cy g rr Mr) := hC
  show cb_J cy g γ 3 M 0 [(0, .ref (g.2.1 0)), (1, .int p1), (2, .int p2)] []
  unfold f_X7_isMet at h
  refine cj_aload_n hC dX7_isMet_0 rfl 0 rfl ?_
  refine cj_iload_n hC dX7_isMet_1 rfl 2 rfl ?_
  obtain ⟨M1, eM1, h⟩ := cb_l h
  refine cj_put hC fp_X7_161 cy_l0_ (cy_e0 g _) rfl (Nat.le_of_ble_eq_true rfl) eM1 dX7_isMet_2 ?_
  refine cj_aload_n hC dX7_isMet_5 rfl 0 rfl ?_
  obtain ⟨M2, e1, h⟩ := cb_b h
  refine cj_callVv (As := []) hC cv_X7_194 cy_l0_ (cy_e0 g _) rfl (c_X7_lives l g  M1 e1) (by decide) rfl rfl (Nat.le_of_ble_eq_true rfl) dX7_isMet_6 ?_
  refine cj_aload_n hC dX7_isMet_9 rfl 0 rfl ?_
  refine cj_iconst (v := 0) hC dX7_isMet_10 rfl ?_
  obtain ⟨M3, eM3, h⟩ := cb_l h
  refine cj_put hC fp_X7_161 cy_l0_ (cy_e0 g _) rfl (Nat.le_of_ble_eq_true rfl) eM3 dX7_isMet_11 ?_
  refine cj_aload_n hC dX7_isMet_14 rfl 0 rfl ?_
  refine cj_get (v := .ref (g.2.1 16)) hC fa_X7_55 cy_l0_ (cy_e0 g _) rfl dX7_isMet_15 ?_
  refine cj_iload_n hC dX7_isMet_18 rfl 1 rfl ?_
  obtain ⟨i1, h⟩ := cb_g h
  refine cj_iald hC cy_l16_ (cy_e16 g _) (cy_t0 g) i1 dX7_isMet_19 ?_
  refine cj_iconst (v := (-1)) hC dX7_isMet_20 rfl ?_
  refine cj_icmp_eq (tgt := 28) hC dX7_isMet_21 (by decide) (fun c1 => ?_) (fun c1 => ?_)
  · replace h := cb_T c1 h
    refine cj_iconst (v := 0) hC dX7_isMet_28 rfl ?_
    obtain ⟨rfl, rfl⟩ := cb_i2 h
    exact cj_zret hC (Or.inl rfl) dX7_isMet_29
  · replace h := cb_F c1 h
    refine cj_iconst (v := 1) hC dX7_isMet_24 rfl ?_
    refine cj_goto (tgt := 29) hC dX7_isMet_25 (by decide) ?_
    obtain ⟨rfl, rfl⟩ := cb_i2 h
    exact cj_zret hC (Or.inr rfl) dX7_isMet_29
def f_X7_keepOf_L22 : Nat → Int32 → Int32 → Int32 → cb_Mem → Option ((Int32 × cb_Mem) ⊕ (cb_Mem))
    | 0, _, _, _, _ => none
    | n + 1, v1, v2, v3, M =>
      if (M 0 13) ≤ v3 then
      some (Sum.inr M)
      else
      cb_bind2 (f_X7_isMet v1 ((1 : Int32) <<< (v3 &&& 31)) M) fun x1 M1 =>
      if x1 = 0 then
      f_X7_keepOf_L22 n v1 v2 (v3 + 1) M1
      else
      if v2 = (-1) then
      some (Sum.inl ((1 : Int32), M1))
      else
      if v2 = 0 then
      some (Sum.inl (v3, M1))
      else
      some (Sum.inl (((-1) : Int32), M1))
def f_X7_keepOf_L81 : Nat → Int32 → Int32 → Int32 → Int32 → cb_Mem → Option ((Int32 × cb_Mem) ⊕ (cb_Mem))
    | 0, _, _, _, _, _ => none
    | n + 1, v1, v2, v3, v4, M =>
      if (M 0 13) ≤ v4 then
      some (Sum.inr M)
      else
      cb_bind2 (f_X7_isMet v1 (((1 : Int32) <<< (v3 &&& 31)) ||| ((1 : Int32) <<< (v4 &&& 31))) M) fun x1 M1 =>
      if x1 = 0 then
      f_X7_keepOf_L81 n v1 v2 v3 (v4 + 1) M1
      else
      if v2 = (-1) then
      some (Sum.inl ((2 : Int32), M1))
      else
      if v2 = 0 then
      some (Sum.inl (v3, M1))
      else
      some (Sum.inl (v4, M1))
def f_X7_keepOf_L68 : Nat → Int32 → Int32 → Int32 → cb_Mem → Option ((Int32 × cb_Mem) ⊕ (cb_Mem))
    | 0, _, _, _, _ => none
    | n + 1, v1, v2, v3, M =>
      if (M 0 13) ≤ v3 then
      some (Sum.inr M)
      else
      cb_let ((v3 + 1)) fun x1 =>
      cb_bs (f_X7_keepOf_L81 cb_fuel v1 v2 v3 x1 M) (fun r => some (Sum.inl r)) fun M1 =>
      f_X7_keepOf_L68 n v1 v2 (v3 + 1) M1
def f_X7_keepOf (p1 : Int32) (p2 : Int32) (M : cb_Mem) : Option (Int32 × cb_Mem) :=
  cb_bind2 (f_X7_isMet p1 0 M) fun x1 M1 =>
  if x1 = 0 then
  cb_bs (f_X7_keepOf_L22 cb_fuel p1 p2 0 M1) (fun r => some r) fun M2 =>
  cb_bs (f_X7_keepOf_L68 cb_fuel p1 p2 0 M2) (fun r => some r) fun M3 =>
  some (((-1) : Int32), M3)
  else
  if p2 = (-1) then
  some ((0 : Int32), M1)
  else
  some (((-1) : Int32), M1)
set_option maxRecDepth 100000 in
set_option maxHeartbeats 4000000 in
theorem l_X7_keepOf_L22 {l : Launch} {g : cb_Geo} {γ : cb_Gam} {rr : Int32} {Mr : cb_Mem} (hC : cb_C cy g γ RX7 cX7_keepOf 5 (some .int) 6 l (cb_Qi cy g rr Mr)) (v1 : Int32) (v2 : Int32) : ∀ (n : Nat) (v3 : Int32) (M : cb_Mem) (o : ((Int32 × cb_Mem) ⊕ (cb_Mem))), f_X7_keepOf_L22 n v1 v2 v3 M = some o → (∀ (u : Int32) (U : cb_Mem), o = Sum.inl (u, U) → u = rr ∧ U = Mr) → (∀ (M' : cb_Mem), o = Sum.inr M' → cb_J cy g γ 5 M' 66 [(0, .ref (g.2.1 0)), (1, .int v1), (2, .int v2)] []) → cb_J cy g γ 5 M 22 [(0, .ref (g.2.1 0)), (1, .int v1), (2, .int v2), (3, .int v3)] [] := by
  intro n
  induction n with
  | zero =>
    intro v3 M o h
    cases h
  | succ n ih =>
    intro v3 M o h hret hexit
    unfold f_X7_keepOf_L22 at h
    refine cj_iload_n hC dX7_keepOf_22 rfl 3 rfl ?_
    refine cj_aload_n hC dX7_keepOf_23 rfl 0 rfl ?_
    refine cj_get (v := .int (M 0 13)) hC fa_X7_149 cy_l0_ (cy_e0 g _) rfl dX7_keepOf_24 ?_
    refine cj_icmp_ge (tgt := 66) hC dX7_keepOf_27 (by decide) (fun c1 => ?_) (fun c1 => ?_)
    · replace h := cb_T c1 h
      obtain rfl := Option.some.inj h
      exact cj_pick [0, 1, 2] rfl (hexit _ rfl)
    · replace h := cb_F c1 h
      refine cj_aload_n hC dX7_keepOf_30 rfl 0 rfl ?_
      refine cj_iload_n hC dX7_keepOf_31 rfl 1 rfl ?_
      refine cj_iconst (v := 1) hC dX7_keepOf_32 rfl ?_
      refine cj_iload_n hC dX7_keepOf_33 rfl 3 rfl ?_
      refine cj_ishl hC dX7_keepOf_34 ?_
      obtain ⟨x1, M1, e1, h⟩ := cb_b2 h
      refine cj_callVi (As := [.int v1, .int ((1 : Int32) <<< (v3 &&& 31))]) hC cv_X7_227 cy_l0_ (cy_e0 g _) rfl (c_X7_isMet l g v1 ((1 : Int32) <<< (v3 &&& 31)) M e1) (by decide) rfl rfl (Nat.le_of_ble_eq_true rfl) dX7_keepOf_35 ?_
      refine cj_if_eq (tgt := 60) hC dX7_keepOf_38 (by decide) (fun c2 => ?_) (fun c2 => ?_)
      · replace h := cb_T c2 h
        refine cj_iinc (lv' := [(3, .int (v3 + 1)), (0, .ref (g.2.1 0)), (1, .int v1), (2, .int v2)]) hC dX7_keepOf_60 (q := 3) rfl rfl (by decide) rfl ?_
        refine cj_goto (tgt := 22) hC dX7_keepOf_63 (by decide) ?_
        exact cj_pick [1, 2, 3, 0] rfl (ih _ _ _ h hret hexit)
      · replace h := cb_F c2 h
        refine cj_iload_n hC dX7_keepOf_41 rfl 2 rfl ?_
        refine cj_iconst (v := (-1)) hC dX7_keepOf_42 rfl ?_
        refine cj_icmp_ne (tgt := 50) hC dX7_keepOf_43 (by decide) (fun c3 => ?_) (fun c3 => ?_)
        · replace h := cb_F c3 h
          refine cj_iload_n hC dX7_keepOf_50 rfl 2 rfl ?_
          refine cj_if_ne (tgt := 58) hC dX7_keepOf_51 (by decide) (fun c4 => ?_) (fun c4 => ?_)
          · replace h := cb_F c4 h
            refine cj_iconst (v := (-1)) hC dX7_keepOf_58 rfl ?_
            obtain rfl := Option.some.inj h
            obtain ⟨rfl, rfl⟩ := hret _ _ rfl
            exact cj_iret hC dX7_keepOf_59
          · replace h := cb_T c4 h
            refine cj_iload_n hC dX7_keepOf_54 rfl 3 rfl ?_
            refine cj_goto (tgt := 59) hC dX7_keepOf_55 (by decide) ?_
            obtain rfl := Option.some.inj h
            obtain ⟨rfl, rfl⟩ := hret _ _ rfl
            exact cj_iret hC dX7_keepOf_59
        · replace h := cb_T c3 h
          refine cj_iconst (v := 1) hC dX7_keepOf_46 rfl ?_
          refine cj_goto (tgt := 59) hC dX7_keepOf_47 (by decide) ?_
          obtain rfl := Option.some.inj h
          obtain ⟨rfl, rfl⟩ := hret _ _ rfl
          exact cj_iret hC dX7_keepOf_59
set_option maxRecDepth 100000 in
set_option maxHeartbeats 4000000 in
theorem l_X7_keepOf_L81 {l : Launch} {g : cb_Geo} {γ : cb_Gam} {rr : Int32} {Mr : cb_Mem} (hC : cb_C cy g γ RX7 cX7_keepOf 5 (some .int) 6 l (cb_Qi cy g rr Mr)) (v1 : Int32) (v2 : Int32) (v3 : Int32) : ∀ (n : Nat) (v4 : Int32) (M : cb_Mem) (o : ((Int32 × cb_Mem) ⊕ (cb_Mem))), f_X7_keepOf_L81 n v1 v2 v3 v4 M = some o → (∀ (u : Int32) (U : cb_Mem), o = Sum.inl (u, U) → u = rr ∧ U = Mr) → (∀ (M' : cb_Mem), o = Sum.inr M' → cb_J cy g γ 5 M' 132 [(0, .ref (g.2.1 0)), (1, .int v1), (2, .int v2), (3, .int v3)] []) → cb_J cy g γ 5 M 81 [(0, .ref (g.2.1 0)), (1, .int v1), (2, .int v2), (3, .int v3), (4, .int v4)] [] := by
  intro n
  induction n with
  | zero =>
    intro v4 M o h
    cases h
  | succ n ih =>
    intro v4 M o h hret hexit
    unfold f_X7_keepOf_L81 at h
    refine cj_iload hC dX7_keepOf_81 4 rfl ?_
    refine cj_aload_n hC dX7_keepOf_83 rfl 0 rfl ?_
    refine cj_get (v := .int (M 0 13)) hC fa_X7_149 cy_l0_ (cy_e0 g _) rfl dX7_keepOf_84 ?_
    refine cj_icmp_ge (tgt := 132) hC dX7_keepOf_87 (by decide) (fun c1 => ?_) (fun c1 => ?_)
    · replace h := cb_T c1 h
      obtain rfl := Option.some.inj h
      exact cj_pick [0, 1, 2, 3] rfl (hexit _ rfl)
    · replace h := cb_F c1 h
      refine cj_aload_n hC dX7_keepOf_90 rfl 0 rfl ?_
      refine cj_iload_n hC dX7_keepOf_91 rfl 1 rfl ?_
      refine cj_iconst (v := 1) hC dX7_keepOf_92 rfl ?_
      refine cj_iload_n hC dX7_keepOf_93 rfl 3 rfl ?_
      refine cj_ishl hC dX7_keepOf_94 ?_
      refine cj_iconst (v := 1) hC dX7_keepOf_95 rfl ?_
      refine cj_iload hC dX7_keepOf_96 4 rfl ?_
      refine cj_ishl hC dX7_keepOf_98 ?_
      refine cj_ior hC dX7_keepOf_99 ?_
      obtain ⟨x1, M1, e1, h⟩ := cb_b2 h
      refine cj_callVi (As := [.int v1, .int (((1 : Int32) <<< (v3 &&& 31)) ||| ((1 : Int32) <<< (v4 &&& 31)))]) hC cv_X7_227 cy_l0_ (cy_e0 g _) rfl (c_X7_isMet l g v1 (((1 : Int32) <<< (v3 &&& 31)) ||| ((1 : Int32) <<< (v4 &&& 31))) M e1) (by decide) rfl rfl (Nat.le_of_ble_eq_true rfl) dX7_keepOf_100 ?_
      refine cj_if_eq (tgt := 126) hC dX7_keepOf_103 (by decide) (fun c2 => ?_) (fun c2 => ?_)
      · replace h := cb_T c2 h
        refine cj_iinc (lv' := [(4, .int (v4 + 1)), (0, .ref (g.2.1 0)), (1, .int v1), (2, .int v2), (3, .int v3)]) hC dX7_keepOf_126 (q := 4) rfl rfl (by decide) rfl ?_
        refine cj_goto (tgt := 81) hC dX7_keepOf_129 (by decide) ?_
        exact cj_pick [1, 2, 3, 4, 0] rfl (ih _ _ _ h hret hexit)
      · replace h := cb_F c2 h
        refine cj_iload_n hC dX7_keepOf_106 rfl 2 rfl ?_
        refine cj_iconst (v := (-1)) hC dX7_keepOf_107 rfl ?_
        refine cj_icmp_ne (tgt := 115) hC dX7_keepOf_108 (by decide) (fun c3 => ?_) (fun c3 => ?_)
        · replace h := cb_F c3 h
          refine cj_iload_n hC dX7_keepOf_115 rfl 2 rfl ?_
          refine cj_if_ne (tgt := 123) hC dX7_keepOf_116 (by decide) (fun c4 => ?_) (fun c4 => ?_)
          · replace h := cb_F c4 h
            refine cj_iload hC dX7_keepOf_123 4 rfl ?_
            obtain rfl := Option.some.inj h
            obtain ⟨rfl, rfl⟩ := hret _ _ rfl
            exact cj_iret hC dX7_keepOf_125
          · replace h := cb_T c4 h
            refine cj_iload_n hC dX7_keepOf_119 rfl 3 rfl ?_
            refine cj_goto (tgt := 125) hC dX7_keepOf_120 (by decide) ?_
            obtain rfl := Option.some.inj h
            obtain ⟨rfl, rfl⟩ := hret _ _ rfl
            exact cj_iret hC dX7_keepOf_125
        · replace h := cb_T c3 h
          refine cj_iconst (v := 2) hC dX7_keepOf_111 rfl ?_
          refine cj_goto (tgt := 125) hC dX7_keepOf_112 (by decide) ?_
          obtain rfl := Option.some.inj h
          obtain ⟨rfl, rfl⟩ := hret _ _ rfl
          exact cj_iret hC dX7_keepOf_125
set_option maxRecDepth 100000 in
set_option maxHeartbeats 4000000 in
theorem l_X7_keepOf_L68 {l : Launch} {g : cb_Geo} {γ : cb_Gam} {rr : Int32} {Mr : cb_Mem} (hC : cb_C cy g γ RX7 cX7_keepOf 5 (some .int) 6 l (cb_Qi cy g rr Mr)) (v1 : Int32) (v2 : Int32) : ∀ (n : Nat) (v3 : Int32) (M : cb_Mem) (o : ((Int32 × cb_Mem) ⊕ (cb_Mem))), f_X7_keepOf_L68 n v1 v2 v3 M = some o → (∀ (u : Int32) (U : cb_Mem), o = Sum.inl (u, U) → u = rr ∧ U = Mr) → (∀ (M' : cb_Mem), o = Sum.inr M' → cb_J cy g γ 5 M' 138 [] []) → cb_J cy g γ 5 M 68 [(0, .ref (g.2.1 0)), (1, .int v1), (2, .int v2), (3, .int v3)] [] := by
  intro n
  induction n with
  | zero =>
    intro v3 M o h
    cases h
  | succ n ih =>
    intro v3 M o h hret hexit
    unfold f_X7_keepOf_L68 at h
    refine cj_iload_n hC dX7_keepOf_68 rfl 3 rfl ?_
    refine cj_aload_n hC dX7_keepOf_69 rfl 0 rfl ?_
    refine cj_get (v := .int (M 0 13)) hC fa_X7_149 cy_l0_ (cy_e0 g _) rfl dX7_keepOf_70 ?_
    refine cj_icmp_ge (tgt := 138) hC dX7_keepOf_73 (by decide) (fun c1 => ?_) (fun c1 => ?_)
    · replace h := cb_T c1 h
      obtain rfl := Option.some.inj h
      exact cj_pick [] rfl (hexit _ rfl)
    · replace h := cb_F c1 h
      refine cj_iload_n hC dX7_keepOf_76 rfl 3 rfl ?_
      refine cj_iconst (v := 1) hC dX7_keepOf_77 rfl ?_
      refine cj_iadd hC dX7_keepOf_78 ?_
      obtain ⟨x1, ex1, h⟩ := cb_l h
      refine cj_topi ex1 ?_
      refine cj_istore (lv' := [(4, .int x1), (0, .ref (g.2.1 0)), (1, .int v1), (2, .int v2), (3, .int v3)]) hC dX7_keepOf_79 (by decide) rfl ?_
      obtain ⟨z1, e1, hr1, hk1⟩ := cb_s h
      refine cj_pick [1, 2, 3, 4, 0] rfl ?_
      refine l_X7_keepOf_L81 hC v1 v2 v3 cb_fuel _ _ _ e1 (fun u U hz => hret u U (Option.some.inj (hr1 _ hz)).symm) (fun M1 hz => ?_)
      replace h := hk1 M1 hz
      refine cj_iinc (lv' := [(3, .int (v3 + 1)), (0, .ref (g.2.1 0)), (1, .int v1), (2, .int v2)]) hC dX7_keepOf_132 (q := 3) rfl rfl (by decide) rfl ?_
      refine cj_goto (tgt := 68) hC dX7_keepOf_135 (by decide) ?_
      exact cj_pick [1, 2, 3, 0] rfl (ih _ _ _ h hret hexit)
set_option maxRecDepth 100000 in
set_option maxHeartbeats 4000000 in
theorem c_X7_keepOf (l : Launch) (g : cb_Geo) (p1 : Int32) (p2 : Int32) (M : cb_Mem) {rr : Int32} {Mr : cb_Mem} (h : f_X7_keepOf p1 p2 M = some (rr, Mr)) : Met l yX7_keepOf (.code yX7_keepOf cX7_keepOf 5 (some .int) :: cb_ws) (cb_rm 6) (cb_Pc cy g [.ref (g.2.1 0), .int p1, .int p2] M) (cb_Qi cy g rr Mr) 0 0 (cb_A cy g) := by
  refine cb_met (by decide) wd_1166 (Nat.le_of_ble_eq_true rfl) (fun γ hC => ?_)
  replace hC : cb_C cy g γ RX7 cX7_keepOf 5 (some .int) 6 l (cb_Qi cy g rr Mr) := hC
  show cb_J cy g γ 5 M 0 [(0, .ref (g.2.1 0)), (1, .int p1), (2, .int p2)] []
  unfold f_X7_keepOf at h
  refine cj_aload_n hC dX7_keepOf_0 rfl 0 rfl ?_
  refine cj_iload_n hC dX7_keepOf_1 rfl 1 rfl ?_
  refine cj_iconst (v := 0) hC dX7_keepOf_2 rfl ?_
  obtain ⟨x1, M1, e1, h⟩ := cb_b2 h
  refine cj_callVi (As := [.int p1, .int 0]) hC cv_X7_227 cy_l0_ (cy_e0 g _) rfl (c_X7_isMet l g p1 0 M e1) (by decide) rfl rfl (Nat.le_of_ble_eq_true rfl) dX7_keepOf_3 ?_
  refine cj_if_eq (tgt := 20) hC dX7_keepOf_6 (by decide) (fun c1 => ?_) (fun c1 => ?_)
  · replace h := cb_T c1 h
    refine cj_iconst (v := 0) hC dX7_keepOf_20 rfl ?_
    refine cj_istore_n (lv' := [(3, .int 0), (0, .ref (g.2.1 0)), (1, .int p1), (2, .int p2)]) hC dX7_keepOf_21 rfl (by decide) rfl ?_
    obtain ⟨z2, e2, hr2, hk2⟩ := cb_s h
    refine cj_pick [1, 2, 3, 0] rfl ?_
    refine l_X7_keepOf_L22 hC p1 p2 cb_fuel _ _ _ e2 (fun u U hz => Prod.mk.inj (Option.some.inj (hr2 _ hz))) (fun M2 hz => ?_)
    replace h := hk2 M2 hz
    refine cj_iconst (v := 0) hC dX7_keepOf_66 rfl ?_
    refine cj_istore_n (lv' := [(3, .int 0), (0, .ref (g.2.1 0)), (1, .int p1), (2, .int p2)]) hC dX7_keepOf_67 rfl (by decide) rfl ?_
    obtain ⟨z1, e3, hr1, hk1⟩ := cb_s h
    refine cj_pick [1, 2, 3, 0] rfl ?_
    refine l_X7_keepOf_L68 hC p1 p2 cb_fuel _ _ _ e3 (fun u U hz => Prod.mk.inj (Option.some.inj (hr1 _ hz))) (fun M3 hz => ?_)
    replace h := hk1 M3 hz
    refine cj_iconst (v := (-1)) hC dX7_keepOf_138 rfl ?_
    obtain ⟨rfl, rfl⟩ := cb_i2 h
    exact cj_iret hC dX7_keepOf_139
  · replace h := cb_F c1 h
    refine cj_iload_n hC dX7_keepOf_9 rfl 2 rfl ?_
    refine cj_iconst (v := (-1)) hC dX7_keepOf_10 rfl ?_
    refine cj_icmp_ne (tgt := 18) hC dX7_keepOf_11 (by decide) (fun c2 => ?_) (fun c2 => ?_)
    · replace h := cb_F c2 h
      refine cj_iconst (v := (-1)) hC dX7_keepOf_18 rfl ?_
      obtain ⟨rfl, rfl⟩ := cb_i2 h
      exact cj_iret hC dX7_keepOf_19
    · replace h := cb_T c2 h
      refine cj_iconst (v := 0) hC dX7_keepOf_14 rfl ?_
      refine cj_goto (tgt := 19) hC dX7_keepOf_15 (by decide) ?_
      obtain ⟨rfl, rfl⟩ := cb_i2 h
      exact cj_iret hC dX7_keepOf_19
def f_X7_keep (p1 : Int32) (p2 : Int32) (M : cb_Mem) : Option (Int32 × cb_Mem) :=
  (f_X7_find  M).bind fun M1 =>
  cb_let (f_X7_isCouple p1 M1) fun x1 =>
  if x1 = 0 then
  some (((-2) : Int32), M1)
  else
  cb_let (f_X7_in p2.toInt64 (-1) 1) fun x2 =>
  if x2 = 0 then
  some (((-2) : Int32), M1)
  else
  cb_bind2 (f_X7_keepOf p1 p2 M1) fun x3 M2 =>
  some (x3, M2)
set_option maxRecDepth 100000 in
set_option maxHeartbeats 4000000 in
theorem c_X7_keep (l : Launch) (g : cb_Geo) (p1 : Int32) (p2 : Int32) (M : cb_Mem) {rr : Int32} {Mr : cb_Mem} (h : f_X7_keep p1 p2 M = some (rr, Mr)) : Met l yX7_keep (.code yX7_keep cX7_keep 3 (some .int) :: cb_ws) (cb_rm 7) (cb_Pc cy g [.ref (g.2.1 0), .int p1, .int p2] M) (cb_Qi cy g rr Mr) 0 0 (cb_A cy g) := by
  refine cb_met (by decide) wd_1161 (Nat.le_of_ble_eq_true rfl) (fun γ hC => ?_)
  replace hC : cb_C cy g γ RX7 cX7_keep 3 (some .int) 7 l (cb_Qi cy g rr Mr) := hC
  show cb_J cy g γ 3 M 0 [(0, .ref (g.2.1 0)), (1, .int p1), (2, .int p2)] []
  unfold f_X7_keep at h
  refine cj_aload_n hC dX7_keep_0 rfl 0 rfl ?_
  obtain ⟨M1, e1, h⟩ := cb_b h
  refine cj_callVv (As := []) hC cv_X7_200 cy_l0_ (cy_e0 g _) rfl (c_X7_find l g  M e1) (by decide) rfl rfl (Nat.le_of_ble_eq_true rfl) dX7_keep_1 ?_
  refine cj_aload_n hC dX7_keep_4 rfl 0 rfl ?_
  refine cj_iload_n hC dX7_keep_5 rfl 1 rfl ?_
  obtain ⟨x1, e2, h⟩ := cb_l h
  refine cj_callVi (As := [.int p1]) hC cv_X7_139 cy_l0_ (cy_e0 g _) rfl (c_X7_isCouple l g p1 M1 e2.symm) (by decide) rfl rfl (Nat.le_of_ble_eq_true rfl) dX7_keep_6 ?_
  refine cj_if_eq (tgt := 33) hC dX7_keep_9 (by decide) (fun c1 => ?_) (fun c1 => ?_)
  · replace h := cb_T c1 h
    refine cj_bipush (v := (-2)) hC dX7_keep_33 rfl ?_
    obtain ⟨rfl, rfl⟩ := cb_i2 h
    exact cj_iret hC dX7_keep_35
  · replace h := cb_F c1 h
    refine cj_iload_n hC dX7_keep_12 rfl 2 rfl ?_
    refine cj_i2l hC dX7_keep_13 ?_
    refine cj_ldc2_w (v := (-1)) hC wd_1162 dX7_keep_14 ?_
    refine cj_lconst (v := 1) hC dX7_keep_17 rfl ?_
    obtain ⟨x2, e3, h⟩ := cb_l h
    refine cj_callSi (As := [.long p2.toInt64, .long (-1), .long 1]) hC cs_X7_79 (c_X7_in l g p2.toInt64 (-1) 1 M1 e3.symm) (by decide) rfl rfl (Nat.le_of_ble_eq_true rfl) dX7_keep_18 ?_
    refine cj_if_eq (tgt := 33) hC dX7_keep_21 (by decide) (fun c2 => ?_) (fun c2 => ?_)
    · replace h := cb_T c2 h
      refine cj_bipush (v := (-2)) hC dX7_keep_33 rfl ?_
      obtain ⟨rfl, rfl⟩ := cb_i2 h
      exact cj_iret hC dX7_keep_35
    · replace h := cb_F c2 h
      refine cj_aload_n hC dX7_keep_24 rfl 0 rfl ?_
      refine cj_iload_n hC dX7_keep_25 rfl 1 rfl ?_
      refine cj_iload_n hC dX7_keep_26 rfl 2 rfl ?_
      obtain ⟨x3, M2, e4, h⟩ := cb_b2 h
      refine cj_callVi (As := [.int p1, .int p2]) hC cv_X7_232 cy_l0_ (cy_e0 g _) rfl (c_X7_keepOf l g p1 p2 M1 e4) (by decide) rfl rfl (Nat.le_of_ble_eq_true rfl) dX7_keep_27 ?_
      refine cj_goto (tgt := 35) hC dX7_keep_30 (by decide) ?_
      obtain ⟨rfl, rfl⟩ := cb_i2 h
      exact cj_iret hC dX7_keep_35
def f_X7_sowOf_L20 : Nat → Int32 → Int32 → Int32 → Int32 → Int32 → Int32 → cb_Mem → Option (Int32 × Int32 × cb_Mem)
    | 0, _, _, _, _, _, _, _ => none
    | n + 1, v1, v2, v3, v4, v5, v6, M =>
      if 30 ≤ v6 then
      some (v4, v5, M)
      else
      if cb_in ((2 * v1) + 1) 16 = true then
      cb_let (cb_up M 7 ((2 * v1) + 1).toNatClampNeg v6) fun M1 =>
      (f_X7_lives  M1).bind fun M2 =>
      (f_X7_withoutNow  M2).bind fun x1 =>
      (f_X7_ones x1).bind fun x2 =>
      cb_let (if v4 = (-1) then
      (1 : Int32)
      else
      if v5 ≤ x2 then
      (0 : Int32)
      else
      (1 : Int32)) fun x3 =>
      cb_let (if x3 = 0 then
      v4
      else
      v6) fun x4 =>
      cb_let (if x3 = 0 then
      v5
      else
      x2) fun x5 =>
      f_X7_sowOf_L20 n v1 v2 v3 x4 x5 (v6 + 1) M2
      else none
def f_X7_sowOf (p1 : Int32) (p2 : Int32) (M : cb_Mem) : Option (Int32 × cb_Mem) :=
  if cb_in ((2 * p1) + 1) 16 = true then
  cb_let ((M 7 ((2 * p1) + 1).toNatClampNeg)) fun x1 =>
  cb_bind3 (f_X7_sowOf_L20 cb_fuel p1 p2 x1 (-1) 0 0 M) fun x2 x3 M1 =>
  if cb_in ((2 * p1) + 1) 16 = true then
  cb_let (cb_up M1 7 ((2 * p1) + 1).toNatClampNeg x1) fun M2 =>
  if p2 = 0 then
  some (x2, M2)
  else
  some (x3, M2)
  else none
  else none
set_option maxRecDepth 100000 in
set_option maxHeartbeats 4000000 in
theorem l_X7_sowOf_L20 {l : Launch} {g : cb_Geo} {γ : cb_Gam} {rr : Int32} {Mr : cb_Mem} (hC : cb_C cy g γ RX7 cX7_sowOf 9 (some .int) 5 l (cb_Qi cy g rr Mr)) (v1 : Int32) (v2 : Int32) (v3 : Int32) : ∀ (n : Nat) (v4 : Int32) (v5 : Int32) (v6 : Int32) (M : cb_Mem) (o : (Int32 × Int32 × cb_Mem)), f_X7_sowOf_L20 n v1 v2 v3 v4 v5 v6 M = some o → (∀ (v4' : Int32) (v5' : Int32) (M' : cb_Mem), o = (v4', v5', M') → cb_J cy g γ 9 M' 106 [(0, .ref (g.2.1 0)), (1, .int v1), (2, .int v2), (3, .int v3), (4, .int v4'), (5, .int v5')] []) → cb_J cy g γ 9 M 20 [(0, .ref (g.2.1 0)), (1, .int v1), (2, .int v2), (3, .int v3), (4, .int v4), (5, .int v5), (6, .int v6)] [] := by
  intro n
  induction n with
  | zero =>
    intro v4 v5 v6 M o h
    cases h
  | succ n ih =>
    intro v4 v5 v6 M o h hexit
    unfold f_X7_sowOf_L20 at h
    refine cj_iload hC dX7_sowOf_20 6 rfl ?_
    refine cj_bipush (v := 30) hC dX7_sowOf_22 rfl ?_
    refine cj_icmp_ge (tgt := 106) hC dX7_sowOf_24 (by decide) (fun c1 => ?_) (fun c1 => ?_)
    · replace h := cb_T c1 h
      obtain rfl := Option.some.inj h
      exact cj_pick [0, 1, 2, 3, 4, 5] rfl (hexit _ _ _ rfl)
    · replace h := cb_F c1 h
      refine cj_aload_n hC dX7_sowOf_27 rfl 0 rfl ?_
      refine cj_get (v := .ref (g.2.1 7)) hC fa_X7_28 cy_l0_ (cy_e0 g _) rfl dX7_sowOf_28 ?_
      refine cj_iconst (v := 2) hC dX7_sowOf_31 rfl ?_
      refine cj_iload_n hC dX7_sowOf_32 rfl 1 rfl ?_
      refine cj_imul hC dX7_sowOf_33 ?_
      refine cj_iconst (v := 1) hC dX7_sowOf_34 rfl ?_
      refine cj_iadd hC dX7_sowOf_35 ?_
      refine cj_iload hC dX7_sowOf_36 6 rfl ?_
      obtain ⟨i1, h⟩ := cb_g h
      obtain ⟨M1, eM1, h⟩ := cb_l h
      refine cj_iast hC cy_l7_ (cy_e7 g) (cy_t0 g) i1 eM1 dX7_sowOf_38 ?_
      refine cj_aload_n hC dX7_sowOf_39 rfl 0 rfl ?_
      obtain ⟨M2, e1, h⟩ := cb_b h
      refine cj_callVv (As := []) hC cv_X7_194 cy_l0_ (cy_e0 g _) rfl (c_X7_lives l g  M1 e1) (by decide) rfl rfl (Nat.le_of_ble_eq_true rfl) dX7_sowOf_40 ?_
      refine cj_aload_n hC dX7_sowOf_43 rfl 0 rfl ?_
      obtain ⟨x1, e2, h⟩ := cb_b h
      refine cj_callVi (As := []) hC cv_X7_215 cy_l0_ (cy_e0 g _) rfl (c_X7_withoutNow l g  M2 e2) (by decide) rfl rfl (Nat.le_of_ble_eq_true rfl) dX7_sowOf_44 ?_
      obtain ⟨x2, e3, h⟩ := cb_b h
      refine cj_callSi (As := [.int x1]) hC cs_X7_235 (c_X7_ones l g x1 M2 e3) (by decide) rfl rfl (Nat.le_of_ble_eq_true rfl) dX7_sowOf_47 ?_
      refine cj_istore (lv' := [(7, .int x2), (0, .ref (g.2.1 0)), (1, .int v1), (2, .int v2), (3, .int v3), (4, .int v4), (5, .int v5), (6, .int v6)]) hC dX7_sowOf_50 (by decide) rfl ?_
      refine cj_iload hC dX7_sowOf_52 5 rfl ?_
      refine cj_iconst (v := (-1)) hC dX7_sowOf_54 rfl ?_
      obtain ⟨x3, hx1, h⟩ := cb_l h
      replace hx1 := hx1.symm
      have hj1 : cb_J cy g γ 9 M2 70 [(0, .ref (g.2.1 0)), (1, .int v1), (2, .int v2), (3, .int v3), (4, .int v4), (5, .int v5), (6, .int v6), (7, .int x2)] [.int x3] := by
        refine cj_istore (lv' := [(8, .int x3), (0, .ref (g.2.1 0)), (1, .int v1), (2, .int v2), (3, .int v3), (4, .int v4), (5, .int v5), (6, .int v6), (7, .int x2)]) hC dX7_sowOf_70 (by decide) rfl ?_
        refine cj_iload hC dX7_sowOf_72 0 rfl ?_
        obtain ⟨x4, hx2, h⟩ := cb_l h
        replace hx2 := hx2.symm
        have hj2 : cb_J cy g γ 9 M2 84 [(0, .ref (g.2.1 0)), (1, .int v1), (2, .int v2), (3, .int v3), (5, .int v5), (6, .int v6), (7, .int x2), (8, .int x3)] [.int x4] := by
          refine cj_istore (lv' := [(4, .int x4), (0, .ref (g.2.1 0)), (1, .int v1), (2, .int v2), (3, .int v3), (5, .int v5), (6, .int v6), (7, .int x2), (8, .int x3)]) hC dX7_sowOf_84 (by decide) rfl ?_
          refine cj_iload hC dX7_sowOf_86 8 rfl ?_
          obtain ⟨x5, hx3, h⟩ := cb_l h
          replace hx3 := hx3.symm
          have hj3 : cb_J cy g γ 9 M2 98 [(0, .ref (g.2.1 0)), (1, .int v1), (2, .int v2), (3, .int v3), (4, .int x4), (6, .int v6)] [.int x5] := by
            refine cj_istore (lv' := [(5, .int x5), (0, .ref (g.2.1 0)), (1, .int v1), (2, .int v2), (3, .int v3), (4, .int x4), (6, .int v6)]) hC dX7_sowOf_98 (by decide) rfl ?_
            refine cj_iinc (lv' := [(6, .int (v6 + 1)), (5, .int x5), (0, .ref (g.2.1 0)), (1, .int v1), (2, .int v2), (3, .int v3), (4, .int x4)]) hC dX7_sowOf_100 (q := 6) rfl rfl (by decide) rfl ?_
            refine cj_goto (tgt := 20) hC dX7_sowOf_103 (by decide) ?_
            exact cj_pick [2, 3, 4, 5, 6, 1, 0] rfl (ih _ _ _ _ _ h hexit)
          refine cj_if_eq (tgt := 96) hC dX7_sowOf_88 (by decide) (fun c5 => ?_) (fun c5 => ?_)
          · replace hx3 := cb_T c5 hx3
            refine cj_iload hC dX7_sowOf_96 5 rfl ?_
            obtain rfl := hx3
            exact cj_pick [1, 2, 3, 4, 0, 6] rfl hj3
          · replace hx3 := cb_F c5 hx3
            refine cj_iload hC dX7_sowOf_91 7 rfl ?_
            refine cj_goto (tgt := 98) hC dX7_sowOf_93 (by decide) ?_
            obtain rfl := hx3
            exact cj_pick [1, 2, 3, 4, 0, 6] rfl hj3
        refine cj_if_eq (tgt := 82) hC dX7_sowOf_74 (by decide) (fun c4 => ?_) (fun c4 => ?_)
        · replace hx2 := cb_T c4 hx2
          refine cj_iload hC dX7_sowOf_82 5 rfl ?_
          obtain rfl := hx2
          exact cj_pick [1, 2, 3, 4, 6, 7, 8, 0] rfl hj2
        · replace hx2 := cb_F c4 hx2
          refine cj_iload hC dX7_sowOf_77 7 rfl ?_
          refine cj_goto (tgt := 84) hC dX7_sowOf_79 (by decide) ?_
          obtain rfl := hx2
          exact cj_pick [1, 2, 3, 4, 6, 7, 8, 0] rfl hj2
      refine cj_icmp_eq (tgt := 65) hC dX7_sowOf_55 (by decide) (fun c2 => ?_) (fun c2 => ?_)
      · replace hx1 := cb_T c2 hx1
        refine cj_iconst (v := 1) hC dX7_sowOf_65 rfl ?_
        refine cj_goto (tgt := 70) hC dX7_sowOf_66 (by decide) ?_
        obtain rfl := hx1
        exact cj_pick [1, 2, 3, 4, 5, 6, 7, 0] rfl hj1
      · replace hx1 := cb_F c2 hx1
        refine cj_iload hC dX7_sowOf_58 0 rfl ?_
        refine cj_iload hC dX7_sowOf_60 6 rfl ?_
        refine cj_icmp_ge (tgt := 69) hC dX7_sowOf_62 (by decide) (fun c3 => ?_) (fun c3 => ?_)
        · replace hx1 := cb_T c3 hx1
          refine cj_iconst (v := 0) hC dX7_sowOf_69 rfl ?_
          obtain rfl := hx1
          exact cj_pick [1, 2, 3, 4, 5, 6, 7, 0] rfl hj1
        · replace hx1 := cb_F c3 hx1
          refine cj_iconst (v := 1) hC dX7_sowOf_65 rfl ?_
          refine cj_goto (tgt := 70) hC dX7_sowOf_66 (by decide) ?_
          obtain rfl := hx1
          exact cj_pick [1, 2, 3, 4, 5, 6, 7, 0] rfl hj1
set_option maxRecDepth 100000 in
set_option maxHeartbeats 4000000 in
theorem c_X7_sowOf (l : Launch) (g : cb_Geo) (p1 : Int32) (p2 : Int32) (M : cb_Mem) {rr : Int32} {Mr : cb_Mem} (h : f_X7_sowOf p1 p2 M = some (rr, Mr)) : Met l yX7_sowOf (.code yX7_sowOf cX7_sowOf 9 (some .int) :: cb_ws) (cb_rm 5) (cb_Pc cy g [.ref (g.2.1 0), .int p1, .int p2] M) (cb_Qi cy g rr Mr) 0 0 (cb_A cy g) := by
  refine cb_met (by decide) wd_1178 (Nat.le_of_ble_eq_true rfl) (fun γ hC => ?_)
  replace hC : cb_C cy g γ RX7 cX7_sowOf 9 (some .int) 5 l (cb_Qi cy g rr Mr) := hC
  show cb_J cy g γ 9 M 0 [(0, .ref (g.2.1 0)), (1, .int p1), (2, .int p2)] []
  unfold f_X7_sowOf at h
  refine cj_aload_n hC dX7_sowOf_0 rfl 0 rfl ?_
  refine cj_get (v := .ref (g.2.1 7)) hC fa_X7_28 cy_l0_ (cy_e0 g _) rfl dX7_sowOf_1 ?_
  refine cj_iconst (v := 2) hC dX7_sowOf_4 rfl ?_
  refine cj_iload_n hC dX7_sowOf_5 rfl 1 rfl ?_
  refine cj_imul hC dX7_sowOf_6 ?_
  refine cj_iconst (v := 1) hC dX7_sowOf_7 rfl ?_
  refine cj_iadd hC dX7_sowOf_8 ?_
  obtain ⟨i1, h⟩ := cb_g h
  refine cj_iald hC cy_l7_ (cy_e7 g _) (cy_t0 g) i1 dX7_sowOf_9 ?_
  obtain ⟨x1, ex1, h⟩ := cb_l h
  refine cj_topi ex1 ?_
  refine cj_istore_n (lv' := [(3, .int x1), (0, .ref (g.2.1 0)), (1, .int p1), (2, .int p2)]) hC dX7_sowOf_10 rfl (by decide) rfl ?_
  refine cj_iconst (v := (-1)) hC dX7_sowOf_11 rfl ?_
  refine cj_istore (lv' := [(4, .int (-1)), (3, .int x1), (0, .ref (g.2.1 0)), (1, .int p1), (2, .int p2)]) hC dX7_sowOf_12 (by decide) rfl ?_
  refine cj_iconst (v := 0) hC dX7_sowOf_14 rfl ?_
  refine cj_istore (lv' := [(5, .int 0), (4, .int (-1)), (3, .int x1), (0, .ref (g.2.1 0)), (1, .int p1), (2, .int p2)]) hC dX7_sowOf_15 (by decide) rfl ?_
  refine cj_iconst (v := 0) hC dX7_sowOf_17 rfl ?_
  refine cj_istore (lv' := [(6, .int 0), (5, .int 0), (4, .int (-1)), (3, .int x1), (0, .ref (g.2.1 0)), (1, .int p1), (2, .int p2)]) hC dX7_sowOf_18 (by decide) rfl ?_
  obtain ⟨x2, x3, M1, e1, h⟩ := cb_b3 h
  refine cj_pick [4, 5, 6, 3, 2, 1, 0] rfl ?_
  refine l_X7_sowOf_L20 hC p1 p2 x1 cb_fuel _ _ _ _ _ e1 (fun ze10 ze11 ze12 hz => ?_)
  obtain ⟨rfl, rfl, rfl⟩ := cb_p3 hz
  refine cj_aload_n hC dX7_sowOf_106 rfl 0 rfl ?_
  refine cj_get (v := .ref (g.2.1 7)) hC fa_X7_28 cy_l0_ (cy_e0 g _) rfl dX7_sowOf_107 ?_
  refine cj_iconst (v := 2) hC dX7_sowOf_110 rfl ?_
  refine cj_iload_n hC dX7_sowOf_111 rfl 1 rfl ?_
  refine cj_imul hC dX7_sowOf_112 ?_
  refine cj_iconst (v := 1) hC dX7_sowOf_113 rfl ?_
  refine cj_iadd hC dX7_sowOf_114 ?_
  refine cj_iload_n hC dX7_sowOf_115 rfl 3 rfl ?_
  obtain ⟨i2, h⟩ := cb_g h
  obtain ⟨M2, eM2, h⟩ := cb_l h
  refine cj_iast hC cy_l7_ (cy_e7 g) (cy_t0 g) i2 eM2 dX7_sowOf_116 ?_
  refine cj_iload_n hC dX7_sowOf_117 rfl 2 rfl ?_
  refine cj_if_ne (tgt := 126) hC dX7_sowOf_118 (by decide) (fun c1 => ?_) (fun c1 => ?_)
  · replace h := cb_F c1 h
    refine cj_iload hC dX7_sowOf_126 5 rfl ?_
    obtain ⟨rfl, rfl⟩ := cb_i2 h
    exact cj_iret hC dX7_sowOf_128
  · replace h := cb_T c1 h
    refine cj_iload hC dX7_sowOf_121 4 rfl ?_
    refine cj_goto (tgt := 128) hC dX7_sowOf_123 (by decide) ?_
    obtain ⟨rfl, rfl⟩ := cb_i2 h
    exact cj_iret hC dX7_sowOf_128
def f_X7_sow (p1 : Int32) (p2 : Int32) (M : cb_Mem) : Option (Int32 × cb_Mem) :=
  (f_X7_find  M).bind fun M1 =>
  cb_let (f_X7_isHead p1 M1) fun x1 =>
  if x1 = 0 then
  some (((-2) : Int32), M1)
  else
  cb_let (f_X7_isTwo p2) fun x2 =>
  if x2 = 0 then
  some (((-2) : Int32), M1)
  else
  cb_bind2 (f_X7_sowOf p1 p2 M1) fun x3 M2 =>
  some (x3, M2)
set_option maxRecDepth 100000 in
set_option maxHeartbeats 4000000 in
theorem c_X7_sow (l : Launch) (g : cb_Geo) (p1 : Int32) (p2 : Int32) (M : cb_Mem) {rr : Int32} {Mr : cb_Mem} (h : f_X7_sow p1 p2 M = some (rr, Mr)) : Met l yX7_sow (.code yX7_sow cX7_sow 3 (some .int) :: cb_ws) (cb_rm 6) (cb_Pc cy g [.ref (g.2.1 0), .int p1, .int p2] M) (cb_Qi cy g rr Mr) 0 0 (cb_A cy g) := by
  refine cb_met (by decide) wd_1174 (Nat.le_of_ble_eq_true rfl) (fun γ hC => ?_)
  replace hC : cb_C cy g γ RX7 cX7_sow 3 (some .int) 6 l (cb_Qi cy g rr Mr) := hC
  show cb_J cy g γ 3 M 0 [(0, .ref (g.2.1 0)), (1, .int p1), (2, .int p2)] []
  unfold f_X7_sow at h
  refine cj_aload_n hC dX7_sow_0 rfl 0 rfl ?_
  obtain ⟨M1, e1, h⟩ := cb_b h
  refine cj_callVv (As := []) hC cv_X7_200 cy_l0_ (cy_e0 g _) rfl (c_X7_find l g  M e1) (by decide) rfl rfl (Nat.le_of_ble_eq_true rfl) dX7_sow_1 ?_
  refine cj_aload_n hC dX7_sow_4 rfl 0 rfl ?_
  refine cj_iload_n hC dX7_sow_5 rfl 1 rfl ?_
  obtain ⟨x1, e2, h⟩ := cb_l h
  refine cj_callVi (As := [.int p1]) hC cv_X7_136 cy_l0_ (cy_e0 g _) rfl (c_X7_isHead l g p1 M1 e2.symm) (by decide) rfl rfl (Nat.le_of_ble_eq_true rfl) dX7_sow_6 ?_
  refine cj_if_eq (tgt := 28) hC dX7_sow_9 (by decide) (fun c1 => ?_) (fun c1 => ?_)
  · replace h := cb_T c1 h
    refine cj_bipush (v := (-2)) hC dX7_sow_28 rfl ?_
    obtain ⟨rfl, rfl⟩ := cb_i2 h
    exact cj_iret hC dX7_sow_30
  · replace h := cb_F c1 h
    refine cj_iload_n hC dX7_sow_12 rfl 2 rfl ?_
    obtain ⟨x2, e3, h⟩ := cb_l h
    refine cj_callSi (As := [.int p2]) hC cs_X7_107 (c_X7_isTwo l g p2 M1 e3.symm) (by decide) rfl rfl (Nat.le_of_ble_eq_true rfl) dX7_sow_13 ?_
    refine cj_if_eq (tgt := 28) hC dX7_sow_16 (by decide) (fun c2 => ?_) (fun c2 => ?_)
    · replace h := cb_T c2 h
      refine cj_bipush (v := (-2)) hC dX7_sow_28 rfl ?_
      obtain ⟨rfl, rfl⟩ := cb_i2 h
      exact cj_iret hC dX7_sow_30
    · replace h := cb_F c2 h
      refine cj_aload_n hC dX7_sow_19 rfl 0 rfl ?_
      refine cj_iload_n hC dX7_sow_20 rfl 1 rfl ?_
      refine cj_iload_n hC dX7_sow_21 rfl 2 rfl ?_
      obtain ⟨x3, M2, e4, h⟩ := cb_b2 h
      refine cj_callVi (As := [.int p1, .int p2]) hC cv_X7_238 cy_l0_ (cy_e0 g _) rfl (c_X7_sowOf l g p1 p2 M1 e4) (by decide) rfl rfl (Nat.le_of_ble_eq_true rfl) dX7_sow_22 ?_
      refine cj_goto (tgt := 30) hC dX7_sow_25 (by decide) ?_
      obtain ⟨rfl, rfl⟩ := cb_i2 h
      exact cj_iret hC dX7_sow_30
def f_X7_comeOf_L20 : Nat → Int32 → Int32 → Int32 → Int32 → Int32 → Int32 → cb_Mem → Option (Int32 × Int32 × cb_Mem)
    | 0, _, _, _, _, _, _, _ => none
    | n + 1, v1, v2, v3, v4, v5, v6, M =>
      if 30 ≤ v6 then
      some (v4, v5, M)
      else
      if cb_in ((3 * v1) + 1) 24 = true then
      cb_let (cb_up M 8 ((3 * v1) + 1).toNatClampNeg v6) fun M1 =>
      (f_X7_lives  M1).bind fun M2 =>
      if cb_in v1 8 = true then
      Option.bind (if (M2 16 v1.toNatClampNeg) = (-1) then
      some (0 : Int32)
      else
      if v4 = (-1) then
      some (1 : Int32)
      else
      if cb_in v1 8 = true then
      if v5 ≤ (M2 17 v1.toNatClampNeg) then
      some (0 : Int32)
      else
      some (1 : Int32)
      else none) fun x1 =>
      cb_let (if x1 = 0 then
      v4
      else
      v6) fun x2 =>
      Option.bind (if x1 = 0 then
      some v5
      else
      if cb_in v1 8 = true then
      some (M2 17 v1.toNatClampNeg)
      else none) fun x3 =>
      f_X7_comeOf_L20 n v1 v2 v3 x2 x3 (v6 + 1) M2
      else none
      else none
def f_X7_comeOf (p1 : Int32) (p2 : Int32) (M : cb_Mem) : Option (Int32 × cb_Mem) :=
  if cb_in ((3 * p1) + 1) 24 = true then
  cb_let ((M 8 ((3 * p1) + 1).toNatClampNeg)) fun x1 =>
  cb_bind3 (f_X7_comeOf_L20 cb_fuel p1 p2 x1 (-1) (-1) 0 M) fun x2 x3 M1 =>
  if cb_in ((3 * p1) + 1) 24 = true then
  cb_let (cb_up M1 8 ((3 * p1) + 1).toNatClampNeg x1) fun M2 =>
  if p2 = 0 then
  some (x2, M2)
  else
  some (x3, M2)
  else none
  else none
set_option maxRecDepth 100000 in
set_option maxHeartbeats 4000000 in
theorem l_X7_comeOf_L20 {l : Launch} {g : cb_Geo} {γ : cb_Gam} {rr : Int32} {Mr : cb_Mem} (hC : cb_C cy g γ RX7 cX7_comeOf 8 (some .int) 5 l (cb_Qi cy g rr Mr)) (v1 : Int32) (v2 : Int32) (v3 : Int32) : ∀ (n : Nat) (v4 : Int32) (v5 : Int32) (v6 : Int32) (M : cb_Mem) (o : (Int32 × Int32 × cb_Mem)), f_X7_comeOf_L20 n v1 v2 v3 v4 v5 v6 M = some o → (∀ (v4' : Int32) (v5' : Int32) (M' : cb_Mem), o = (v4', v5', M') → cb_J cy g γ 8 M' 115 [(0, .ref (g.2.1 0)), (1, .int v1), (2, .int v2), (3, .int v3), (4, .int v4'), (5, .int v5')] []) → cb_J cy g γ 8 M 20 [(0, .ref (g.2.1 0)), (1, .int v1), (2, .int v2), (3, .int v3), (4, .int v4), (5, .int v5), (6, .int v6)] [] := by
  intro n
  induction n with
  | zero =>
    intro v4 v5 v6 M o h
    cases h
  | succ n ih =>
    intro v4 v5 v6 M o h hexit
    unfold f_X7_comeOf_L20 at h
    refine cj_iload hC dX7_comeOf_20 6 rfl ?_
    refine cj_bipush (v := 30) hC dX7_comeOf_22 rfl ?_
    refine cj_icmp_ge (tgt := 115) hC dX7_comeOf_24 (by decide) (fun c1 => ?_) (fun c1 => ?_)
    · replace h := cb_T c1 h
      obtain rfl := Option.some.inj h
      exact cj_pick [0, 1, 2, 3, 4, 5] rfl (hexit _ _ _ rfl)
    · replace h := cb_F c1 h
      refine cj_aload_n hC dX7_comeOf_27 rfl 0 rfl ?_
      refine cj_get (v := .ref (g.2.1 8)) hC fa_X7_31 cy_l0_ (cy_e0 g _) rfl dX7_comeOf_28 ?_
      refine cj_iconst (v := 3) hC dX7_comeOf_31 rfl ?_
      refine cj_iload_n hC dX7_comeOf_32 rfl 1 rfl ?_
      refine cj_imul hC dX7_comeOf_33 ?_
      refine cj_iconst (v := 1) hC dX7_comeOf_34 rfl ?_
      refine cj_iadd hC dX7_comeOf_35 ?_
      refine cj_iload hC dX7_comeOf_36 6 rfl ?_
      obtain ⟨i1, h⟩ := cb_g h
      obtain ⟨M1, eM1, h⟩ := cb_l h
      refine cj_iast hC cy_l8_ (cy_e8 g) (cy_t0 g) i1 eM1 dX7_comeOf_38 ?_
      refine cj_aload_n hC dX7_comeOf_39 rfl 0 rfl ?_
      obtain ⟨M2, e1, h⟩ := cb_b h
      refine cj_callVv (As := []) hC cv_X7_194 cy_l0_ (cy_e0 g _) rfl (c_X7_lives l g  M1 e1) (by decide) rfl rfl (Nat.le_of_ble_eq_true rfl) dX7_comeOf_40 ?_
      refine cj_aload_n hC dX7_comeOf_43 rfl 0 rfl ?_
      refine cj_get (v := .ref (g.2.1 16)) hC fa_X7_55 cy_l0_ (cy_e0 g _) rfl dX7_comeOf_44 ?_
      refine cj_iload_n hC dX7_comeOf_47 rfl 1 rfl ?_
      obtain ⟨i2, h⟩ := cb_g h
      refine cj_iald hC cy_l16_ (cy_e16 g _) (cy_t0 g) i2 dX7_comeOf_48 ?_
      refine cj_iconst (v := (-1)) hC dX7_comeOf_49 rfl ?_
      obtain ⟨x1, hx1, h⟩ := cb_b h
      have hj1 : cb_J cy g γ 8 M2 75 [(0, .ref (g.2.1 0)), (1, .int v1), (2, .int v2), (3, .int v3), (4, .int v4), (5, .int v5), (6, .int v6)] [.int x1] := by
        refine cj_istore (lv' := [(7, .int x1), (0, .ref (g.2.1 0)), (1, .int v1), (2, .int v2), (3, .int v3), (4, .int v4), (5, .int v5), (6, .int v6)]) hC dX7_comeOf_75 (by decide) rfl ?_
        refine cj_iload hC dX7_comeOf_77 0 rfl ?_
        obtain ⟨x2, hx2, h⟩ := cb_l h
        replace hx2 := hx2.symm
        have hj2 : cb_J cy g γ 8 M2 89 [(0, .ref (g.2.1 0)), (1, .int v1), (2, .int v2), (3, .int v3), (5, .int v5), (6, .int v6), (7, .int x1)] [.int x2] := by
          refine cj_istore (lv' := [(4, .int x2), (0, .ref (g.2.1 0)), (1, .int v1), (2, .int v2), (3, .int v3), (5, .int v5), (6, .int v6), (7, .int x1)]) hC dX7_comeOf_89 (by decide) rfl ?_
          refine cj_iload hC dX7_comeOf_91 7 rfl ?_
          obtain ⟨x3, hx3, h⟩ := cb_b h
          have hj3 : cb_J cy g γ 8 M2 107 [(0, .ref (g.2.1 0)), (1, .int v1), (2, .int v2), (3, .int v3), (4, .int x2), (6, .int v6)] [.int x3] := by
            refine cj_istore (lv' := [(5, .int x3), (0, .ref (g.2.1 0)), (1, .int v1), (2, .int v2), (3, .int v3), (4, .int x2), (6, .int v6)]) hC dX7_comeOf_107 (by decide) rfl ?_
            refine cj_iinc (lv' := [(6, .int (v6 + 1)), (5, .int x3), (0, .ref (g.2.1 0)), (1, .int v1), (2, .int v2), (3, .int v3), (4, .int x2)]) hC dX7_comeOf_109 (q := 6) rfl rfl (by decide) rfl ?_
            refine cj_goto (tgt := 20) hC dX7_comeOf_112 (by decide) ?_
            exact cj_pick [2, 3, 4, 5, 6, 1, 0] rfl (ih _ _ _ _ _ h hexit)
          refine cj_if_eq (tgt := 105) hC dX7_comeOf_93 (by decide) (fun c6 => ?_) (fun c6 => ?_)
          · replace hx3 := cb_T c6 hx3
            refine cj_iload hC dX7_comeOf_105 5 rfl ?_
            obtain rfl := Option.some.inj hx3
            exact cj_pick [1, 2, 3, 4, 0, 6] rfl hj3
          · replace hx3 := cb_F c6 hx3
            refine cj_aload_n hC dX7_comeOf_96 rfl 1 rfl ?_
            refine cj_get (v := .ref (g.2.1 17)) hC fa_X7_58 cy_l0_ (cy_e0 g _) rfl dX7_comeOf_97 ?_
            refine cj_iload_n hC dX7_comeOf_100 rfl 2 rfl ?_
            obtain ⟨i4, hx3⟩ := cb_g hx3
            refine cj_iald hC cy_l17_ (cy_e17 g _) (cy_t0 g) i4 dX7_comeOf_101 ?_
            refine cj_goto (tgt := 107) hC dX7_comeOf_102 (by decide) ?_
            obtain rfl := Option.some.inj hx3
            exact cj_pick [1, 2, 3, 4, 0, 6] rfl hj3
        refine cj_if_eq (tgt := 87) hC dX7_comeOf_79 (by decide) (fun c5 => ?_) (fun c5 => ?_)
        · replace hx2 := cb_T c5 hx2
          refine cj_iload hC dX7_comeOf_87 5 rfl ?_
          obtain rfl := hx2
          exact cj_pick [1, 2, 3, 4, 6, 7, 0] rfl hj2
        · replace hx2 := cb_F c5 hx2
          refine cj_iload hC dX7_comeOf_82 7 rfl ?_
          refine cj_goto (tgt := 89) hC dX7_comeOf_84 (by decide) ?_
          obtain rfl := hx2
          exact cj_pick [1, 2, 3, 4, 6, 7, 0] rfl hj2
      refine cj_icmp_eq (tgt := 74) hC dX7_comeOf_50 (by decide) (fun c2 => ?_) (fun c2 => ?_)
      · replace hx1 := cb_T c2 hx1
        refine cj_iconst (v := 0) hC dX7_comeOf_74 rfl ?_
        obtain rfl := Option.some.inj hx1
        exact cj_pick [0, 1, 2, 3, 4, 5, 6] rfl hj1
      · replace hx1 := cb_F c2 hx1
        refine cj_iload hC dX7_comeOf_53 4 rfl ?_
        refine cj_iconst (v := (-1)) hC dX7_comeOf_55 rfl ?_
        refine cj_icmp_eq (tgt := 70) hC dX7_comeOf_56 (by decide) (fun c3 => ?_) (fun c3 => ?_)
        · replace hx1 := cb_T c3 hx1
          refine cj_iconst (v := 1) hC dX7_comeOf_70 rfl ?_
          refine cj_goto (tgt := 75) hC dX7_comeOf_71 (by decide) ?_
          obtain rfl := Option.some.inj hx1
          exact cj_pick [0, 1, 2, 3, 4, 5, 6] rfl hj1
        · replace hx1 := cb_F c3 hx1
          refine cj_aload_n hC dX7_comeOf_59 rfl 0 rfl ?_
          refine cj_get (v := .ref (g.2.1 17)) hC fa_X7_58 cy_l0_ (cy_e0 g _) rfl dX7_comeOf_60 ?_
          refine cj_iload_n hC dX7_comeOf_63 rfl 1 rfl ?_
          obtain ⟨i3, hx1⟩ := cb_g hx1
          refine cj_iald hC cy_l17_ (cy_e17 g _) (cy_t0 g) i3 dX7_comeOf_64 ?_
          refine cj_iload hC dX7_comeOf_65 5 rfl ?_
          refine cj_icmp_ge (tgt := 74) hC dX7_comeOf_67 (by decide) (fun c4 => ?_) (fun c4 => ?_)
          · replace hx1 := cb_T c4 hx1
            refine cj_iconst (v := 0) hC dX7_comeOf_74 rfl ?_
            obtain rfl := Option.some.inj hx1
            exact cj_pick [0, 1, 2, 3, 4, 5, 6] rfl hj1
          · replace hx1 := cb_F c4 hx1
            refine cj_iconst (v := 1) hC dX7_comeOf_70 rfl ?_
            refine cj_goto (tgt := 75) hC dX7_comeOf_71 (by decide) ?_
            obtain rfl := Option.some.inj hx1
            exact cj_pick [0, 1, 2, 3, 4, 5, 6] rfl hj1
set_option maxRecDepth 100000 in
set_option maxHeartbeats 4000000 in
theorem c_X7_comeOf (l : Launch) (g : cb_Geo) (p1 : Int32) (p2 : Int32) (M : cb_Mem) {rr : Int32} {Mr : cb_Mem} (h : f_X7_comeOf p1 p2 M = some (rr, Mr)) : Met l yX7_comeOf (.code yX7_comeOf cX7_comeOf 8 (some .int) :: cb_ws) (cb_rm 5) (cb_Pc cy g [.ref (g.2.1 0), .int p1, .int p2] M) (cb_Qi cy g rr Mr) 0 0 (cb_A cy g) := by
  refine cb_met (by decide) wd_1189 (Nat.le_of_ble_eq_true rfl) (fun γ hC => ?_)
  replace hC : cb_C cy g γ RX7 cX7_comeOf 8 (some .int) 5 l (cb_Qi cy g rr Mr) := hC
  show cb_J cy g γ 8 M 0 [(0, .ref (g.2.1 0)), (1, .int p1), (2, .int p2)] []
  unfold f_X7_comeOf at h
  refine cj_aload_n hC dX7_comeOf_0 rfl 0 rfl ?_
  refine cj_get (v := .ref (g.2.1 8)) hC fa_X7_31 cy_l0_ (cy_e0 g _) rfl dX7_comeOf_1 ?_
  refine cj_iconst (v := 3) hC dX7_comeOf_4 rfl ?_
  refine cj_iload_n hC dX7_comeOf_5 rfl 1 rfl ?_
  refine cj_imul hC dX7_comeOf_6 ?_
  refine cj_iconst (v := 1) hC dX7_comeOf_7 rfl ?_
  refine cj_iadd hC dX7_comeOf_8 ?_
  obtain ⟨i1, h⟩ := cb_g h
  refine cj_iald hC cy_l8_ (cy_e8 g _) (cy_t0 g) i1 dX7_comeOf_9 ?_
  obtain ⟨x1, ex1, h⟩ := cb_l h
  refine cj_topi ex1 ?_
  refine cj_istore_n (lv' := [(3, .int x1), (0, .ref (g.2.1 0)), (1, .int p1), (2, .int p2)]) hC dX7_comeOf_10 rfl (by decide) rfl ?_
  refine cj_iconst (v := (-1)) hC dX7_comeOf_11 rfl ?_
  refine cj_istore (lv' := [(4, .int (-1)), (3, .int x1), (0, .ref (g.2.1 0)), (1, .int p1), (2, .int p2)]) hC dX7_comeOf_12 (by decide) rfl ?_
  refine cj_iconst (v := (-1)) hC dX7_comeOf_14 rfl ?_
  refine cj_istore (lv' := [(5, .int (-1)), (4, .int (-1)), (3, .int x1), (0, .ref (g.2.1 0)), (1, .int p1), (2, .int p2)]) hC dX7_comeOf_15 (by decide) rfl ?_
  refine cj_iconst (v := 0) hC dX7_comeOf_17 rfl ?_
  refine cj_istore (lv' := [(6, .int 0), (5, .int (-1)), (4, .int (-1)), (3, .int x1), (0, .ref (g.2.1 0)), (1, .int p1), (2, .int p2)]) hC dX7_comeOf_18 (by decide) rfl ?_
  obtain ⟨x2, x3, M1, e1, h⟩ := cb_b3 h
  refine cj_pick [4, 5, 6, 3, 2, 1, 0] rfl ?_
  refine l_X7_comeOf_L20 hC p1 p2 x1 cb_fuel _ _ _ _ _ e1 (fun ze10 ze11 ze12 hz => ?_)
  obtain ⟨rfl, rfl, rfl⟩ := cb_p3 hz
  refine cj_aload_n hC dX7_comeOf_115 rfl 0 rfl ?_
  refine cj_get (v := .ref (g.2.1 8)) hC fa_X7_31 cy_l0_ (cy_e0 g _) rfl dX7_comeOf_116 ?_
  refine cj_iconst (v := 3) hC dX7_comeOf_119 rfl ?_
  refine cj_iload_n hC dX7_comeOf_120 rfl 1 rfl ?_
  refine cj_imul hC dX7_comeOf_121 ?_
  refine cj_iconst (v := 1) hC dX7_comeOf_122 rfl ?_
  refine cj_iadd hC dX7_comeOf_123 ?_
  refine cj_iload_n hC dX7_comeOf_124 rfl 3 rfl ?_
  obtain ⟨i2, h⟩ := cb_g h
  obtain ⟨M2, eM2, h⟩ := cb_l h
  refine cj_iast hC cy_l8_ (cy_e8 g) (cy_t0 g) i2 eM2 dX7_comeOf_125 ?_
  refine cj_iload_n hC dX7_comeOf_126 rfl 2 rfl ?_
  refine cj_if_ne (tgt := 135) hC dX7_comeOf_127 (by decide) (fun c1 => ?_) (fun c1 => ?_)
  · replace h := cb_F c1 h
    refine cj_iload hC dX7_comeOf_135 5 rfl ?_
    obtain ⟨rfl, rfl⟩ := cb_i2 h
    exact cj_iret hC dX7_comeOf_137
  · replace h := cb_T c1 h
    refine cj_iload hC dX7_comeOf_130 4 rfl ?_
    refine cj_goto (tgt := 137) hC dX7_comeOf_132 (by decide) ?_
    obtain ⟨rfl, rfl⟩ := cb_i2 h
    exact cj_iret hC dX7_comeOf_137
def f_X7_come (p1 : Int32) (p2 : Int32) (M : cb_Mem) : Option (Int32 × cb_Mem) :=
  (f_X7_find  M).bind fun M1 =>
  cb_let (f_X7_isCouple p1 M1) fun x1 =>
  if x1 = 0 then
  some (((-2) : Int32), M1)
  else
  cb_let (f_X7_isTwo p2) fun x2 =>
  if x2 = 0 then
  some (((-2) : Int32), M1)
  else
  cb_bind2 (f_X7_comeOf p1 p2 M1) fun x3 M2 =>
  some (x3, M2)
set_option maxRecDepth 100000 in
set_option maxHeartbeats 4000000 in
theorem c_X7_come (l : Launch) (g : cb_Geo) (p1 : Int32) (p2 : Int32) (M : cb_Mem) {rr : Int32} {Mr : cb_Mem} (h : f_X7_come p1 p2 M = some (rr, Mr)) : Met l yX7_come (.code yX7_come cX7_come 3 (some .int) :: cb_ws) (cb_rm 6) (cb_Pc cy g [.ref (g.2.1 0), .int p1, .int p2] M) (cb_Qi cy g rr Mr) 0 0 (cb_A cy g) := by
  refine cb_met (by decide) wd_1185 (Nat.le_of_ble_eq_true rfl) (fun γ hC => ?_)
  replace hC : cb_C cy g γ RX7 cX7_come 3 (some .int) 6 l (cb_Qi cy g rr Mr) := hC
  show cb_J cy g γ 3 M 0 [(0, .ref (g.2.1 0)), (1, .int p1), (2, .int p2)] []
  unfold f_X7_come at h
  refine cj_aload_n hC dX7_come_0 rfl 0 rfl ?_
  obtain ⟨M1, e1, h⟩ := cb_b h
  refine cj_callVv (As := []) hC cv_X7_200 cy_l0_ (cy_e0 g _) rfl (c_X7_find l g  M e1) (by decide) rfl rfl (Nat.le_of_ble_eq_true rfl) dX7_come_1 ?_
  refine cj_aload_n hC dX7_come_4 rfl 0 rfl ?_
  refine cj_iload_n hC dX7_come_5 rfl 1 rfl ?_
  obtain ⟨x1, e2, h⟩ := cb_l h
  refine cj_callVi (As := [.int p1]) hC cv_X7_139 cy_l0_ (cy_e0 g _) rfl (c_X7_isCouple l g p1 M1 e2.symm) (by decide) rfl rfl (Nat.le_of_ble_eq_true rfl) dX7_come_6 ?_
  refine cj_if_eq (tgt := 28) hC dX7_come_9 (by decide) (fun c1 => ?_) (fun c1 => ?_)
  · replace h := cb_T c1 h
    refine cj_bipush (v := (-2)) hC dX7_come_28 rfl ?_
    obtain ⟨rfl, rfl⟩ := cb_i2 h
    exact cj_iret hC dX7_come_30
  · replace h := cb_F c1 h
    refine cj_iload_n hC dX7_come_12 rfl 2 rfl ?_
    obtain ⟨x2, e3, h⟩ := cb_l h
    refine cj_callSi (As := [.int p2]) hC cs_X7_107 (c_X7_isTwo l g p2 M1 e3.symm) (by decide) rfl rfl (Nat.le_of_ble_eq_true rfl) dX7_come_13 ?_
    refine cj_if_eq (tgt := 28) hC dX7_come_16 (by decide) (fun c2 => ?_) (fun c2 => ?_)
    · replace h := cb_T c2 h
      refine cj_bipush (v := (-2)) hC dX7_come_28 rfl ?_
      obtain ⟨rfl, rfl⟩ := cb_i2 h
      exact cj_iret hC dX7_come_30
    · replace h := cb_F c2 h
      refine cj_aload_n hC dX7_come_19 rfl 0 rfl ?_
      refine cj_iload_n hC dX7_come_20 rfl 1 rfl ?_
      refine cj_iload_n hC dX7_come_21 rfl 2 rfl ?_
      obtain ⟨x3, M2, e4, h⟩ := cb_b2 h
      refine cj_callVi (As := [.int p1, .int p2]) hC cv_X7_241 cy_l0_ (cy_e0 g _) rfl (c_X7_comeOf l g p1 p2 M1 e4) (by decide) rfl rfl (Nat.le_of_ble_eq_true rfl) dX7_come_22 ?_
      refine cj_goto (tgt := 30) hC dX7_come_25 (by decide) ?_
      obtain ⟨rfl, rfl⟩ := cb_i2 h
      exact cj_iret hC dX7_come_30
def f_X7_seen (p1 : Int32) (p2 : Int32) (M : cb_Mem) : Option (Int32 × cb_Mem) :=
  cb_let (f_X7_in p1.toInt64 0 7) fun x1 =>
  if x1 = 0 then
  some (((-2) : Int32), M)
  else
  cb_let (f_X7_in p2.toInt64 0 8) fun x2 =>
  if x2 = 0 then
  some (((-2) : Int32), M)
  else
  if (M 0 27) = 8 then
  some (((-4) : Int32), M)
  else
  if cb_in (2 * (M 0 27)) 16 = true then
  cb_let (cb_up M 20 (2 * (M 0 27)).toNatClampNeg p1) fun M1 =>
  if cb_in ((2 * (M1 0 27)) + 1) 16 = true then
  cb_let (cb_up M1 20 ((2 * (M1 0 27)) + 1).toNatClampNeg p2) fun M2 =>
  cb_let (cb_up M2 0 27 ((M2 0 27) + 1)) fun M3 =>
  some ((M3 0 27), M3)
  else none
  else none
set_option maxRecDepth 100000 in
set_option maxHeartbeats 4000000 in
theorem c_X7_seen (l : Launch) (g : cb_Geo) (p1 : Int32) (p2 : Int32) (M : cb_Mem) {rr : Int32} {Mr : cb_Mem} (h : f_X7_seen p1 p2 M = some (rr, Mr)) : Met l yX7_seen (.code yX7_seen cX7_seen 3 (some .int) :: cb_ws) (cb_rm 1) (cb_Pc cy g [.ref (g.2.1 0), .int p1, .int p2] M) (cb_Qi cy g rr Mr) 0 0 (cb_A cy g) := by
  refine cb_met (by decide) wd_1193 (Nat.le_of_ble_eq_true rfl) (fun γ hC => ?_)
  replace hC : cb_C cy g γ RX7 cX7_seen 3 (some .int) 1 l (cb_Qi cy g rr Mr) := hC
  show cb_J cy g γ 3 M 0 [(0, .ref (g.2.1 0)), (1, .int p1), (2, .int p2)] []
  unfold f_X7_seen at h
  refine cj_iload_n hC dX7_seen_0 rfl 1 rfl ?_
  refine cj_i2l hC dX7_seen_1 ?_
  refine cj_lconst (v := 0) hC dX7_seen_2 rfl ?_
  refine cj_ldc2_w (v := 7) hC wd_1043 dX7_seen_3 ?_
  obtain ⟨x1, e1, h⟩ := cb_l h
  refine cj_callSi (As := [.long p1.toInt64, .long 0, .long 7]) hC cs_X7_79 (c_X7_in l g p1.toInt64 0 7 M e1.symm) (by decide) rfl rfl (Nat.le_of_ble_eq_true rfl) dX7_seen_6 ?_
  refine cj_if_eq (tgt := 24) hC dX7_seen_9 (by decide) (fun c1 => ?_) (fun c1 => ?_)
  · replace h := cb_T c1 h
    refine cj_bipush (v := (-2)) hC dX7_seen_24 rfl ?_
    obtain ⟨rfl, rfl⟩ := cb_i2 h
    exact cj_iret hC dX7_seen_26
  · replace h := cb_F c1 h
    refine cj_iload_n hC dX7_seen_12 rfl 2 rfl ?_
    refine cj_i2l hC dX7_seen_13 ?_
    refine cj_lconst (v := 0) hC dX7_seen_14 rfl ?_
    refine cj_ldc2_w (v := 8) hC wd_1194 dX7_seen_15 ?_
    obtain ⟨x2, e2, h⟩ := cb_l h
    refine cj_callSi (As := [.long p2.toInt64, .long 0, .long 8]) hC cs_X7_79 (c_X7_in l g p2.toInt64 0 8 M e2.symm) (by decide) rfl rfl (Nat.le_of_ble_eq_true rfl) dX7_seen_18 ?_
    refine cj_if_ne (tgt := 27) hC dX7_seen_21 (by decide) (fun c2 => ?_) (fun c2 => ?_)
    · replace h := cb_F c2 h
      refine cj_aload_n hC dX7_seen_27 rfl 0 rfl ?_
      refine cj_get (v := .int (M 0 27)) hC fa_X7_246 cy_l0_ (cy_e0 g _) rfl dX7_seen_28 ?_
      refine cj_bipush (v := 8) hC dX7_seen_31 rfl ?_
      refine cj_icmp_ne (tgt := 39) hC dX7_seen_33 (by decide) (fun c3 => ?_) (fun c3 => ?_)
      · replace h := cb_F c3 h
        refine cj_aload_n hC dX7_seen_39 rfl 0 rfl ?_
        refine cj_get (v := .ref (g.2.1 20)) hC fa_X7_67 cy_l0_ (cy_e0 g _) rfl dX7_seen_40 ?_
        refine cj_iconst (v := 2) hC dX7_seen_43 rfl ?_
        refine cj_aload_n hC dX7_seen_44 rfl 0 rfl ?_
        refine cj_get (v := .int (M 0 27)) hC fa_X7_246 cy_l0_ (cy_e0 g _) rfl dX7_seen_45 ?_
        refine cj_imul hC dX7_seen_48 ?_
        refine cj_iload_n hC dX7_seen_49 rfl 1 rfl ?_
        obtain ⟨i1, h⟩ := cb_g h
        obtain ⟨M1, eM1, h⟩ := cb_l h
        refine cj_iast hC cy_l20_ (cy_e20 g) (cy_t0 g) i1 eM1 dX7_seen_50 ?_
        refine cj_aload_n hC dX7_seen_51 rfl 0 rfl ?_
        refine cj_get (v := .ref (g.2.1 20)) hC fa_X7_67 cy_l0_ (cy_e0 g _) rfl dX7_seen_52 ?_
        refine cj_iconst (v := 2) hC dX7_seen_55 rfl ?_
        refine cj_aload_n hC dX7_seen_56 rfl 0 rfl ?_
        refine cj_get (v := .int (M1 0 27)) hC fa_X7_246 cy_l0_ (cy_e0 g _) rfl dX7_seen_57 ?_
        refine cj_imul hC dX7_seen_60 ?_
        refine cj_iconst (v := 1) hC dX7_seen_61 rfl ?_
        refine cj_iadd hC dX7_seen_62 ?_
        refine cj_iload_n hC dX7_seen_63 rfl 2 rfl ?_
        obtain ⟨i2, h⟩ := cb_g h
        obtain ⟨M2, eM2, h⟩ := cb_l h
        refine cj_iast hC cy_l20_ (cy_e20 g) (cy_t0 g) i2 eM2 dX7_seen_64 ?_
        refine cj_aload_n hC dX7_seen_65 rfl 0 rfl ?_
        refine cj_dup hC dX7_seen_66 rfl ?_
        refine cj_get (v := .int (M2 0 27)) hC fa_X7_246 cy_l0_ (cy_e0 g _) rfl dX7_seen_67 ?_
        refine cj_iconst (v := 1) hC dX7_seen_70 rfl ?_
        refine cj_iadd hC dX7_seen_71 ?_
        obtain ⟨M3, eM3, h⟩ := cb_l h
        refine cj_put hC fp_X7_246 cy_l0_ (cy_e0 g _) rfl (Nat.le_of_ble_eq_true rfl) eM3 dX7_seen_72 ?_
        refine cj_aload_n hC dX7_seen_75 rfl 0 rfl ?_
        refine cj_get (v := .int (M3 0 27)) hC fa_X7_246 cy_l0_ (cy_e0 g _) rfl dX7_seen_76 ?_
        obtain ⟨rfl, rfl⟩ := cb_i2 h
        exact cj_iret hC dX7_seen_79
      · replace h := cb_T c3 h
        refine cj_bipush (v := (-4)) hC dX7_seen_36 rfl ?_
        obtain ⟨rfl, rfl⟩ := cb_i2 h
        exact cj_iret hC dX7_seen_38
    · replace h := cb_T c2 h
      refine cj_bipush (v := (-2)) hC dX7_seen_24 rfl ?_
      obtain ⟨rfl, rfl⟩ := cb_i2 h
      exact cj_iret hC dX7_seen_26
def f_X7_forget  (M : cb_Mem) : Int32 × cb_Mem :=
  cb_let ((M 0 27)) fun x1 =>
  cb_let (cb_up M 0 27 0) fun M1 =>
  (x1, M1)
set_option maxRecDepth 100000 in
set_option maxHeartbeats 4000000 in
theorem c_X7_forget (l : Launch) (g : cb_Geo)  (M : cb_Mem) {rr : Int32} {Mr : cb_Mem} (h : f_X7_forget  M = (rr, Mr)) : Met l yX7_forget (.code yX7_forget cX7_forget 2 (some .int) :: cb_ws) (cb_rm 0) (cb_Pc cy g [.ref (g.2.1 0)] M) (cb_Qi cy g rr Mr) 0 0 (cb_A cy g) := by
  refine cb_met (by decide) wd_1198 (Nat.le_of_ble_eq_true rfl) (fun γ hC => ?_)
  replace hC : cb_C cy g γ RX7 cX7_forget 2 (some .int) 0 l (cb_Qi cy g rr Mr) := hC
  show cb_J cy g γ 2 M 0 [(0, .ref (g.2.1 0))] []
  unfold f_X7_forget at h
  refine cj_aload_n hC dX7_forget_0 rfl 0 rfl ?_
  refine cj_get (v := .int (M 0 27)) hC fa_X7_246 cy_l0_ (cy_e0 g _) rfl dX7_forget_1 ?_
  obtain ⟨x1, ex1, h⟩ := cb_l h
  refine cj_topi ex1 ?_
  refine cj_istore_n (lv' := [(1, .int x1), (0, .ref (g.2.1 0))]) hC dX7_forget_4 rfl (by decide) rfl ?_
  refine cj_aload_n hC dX7_forget_5 rfl 1 rfl ?_
  refine cj_iconst (v := 0) hC dX7_forget_6 rfl ?_
  obtain ⟨M1, eM1, h⟩ := cb_l h
  refine cj_put hC fp_X7_246 cy_l0_ (cy_e0 g _) rfl (Nat.le_of_ble_eq_true rfl) eM1 dX7_forget_7 ?_
  refine cj_iload_n hC dX7_forget_10 rfl 0 rfl ?_
  obtain ⟨rfl, rfl⟩ := cb_p2 h
  exact cj_iret hC dX7_forget_11
def f_X7_isSeen_L8 : Nat → Int32 → Int32 → cb_Mem → Option (Int32)
    | 0, _, _, _ => none
    | n + 1, v1, v2, M =>
      if (M 0 27) ≤ v2 then
      some v1
      else
      if v1 = 0 then
      some v1
      else
      if cb_in (2 * v2) 16 = true then
      cb_let ((M 20 (2 * v2).toNatClampNeg)) fun x1 =>
      cb_let (f_X7_isCouple x1 M) fun x2 =>
      Option.bind (if x2 = 0 then
      some (0 : Int32)
      else
      if cb_in x1 8 = true then
      if cb_in ((2 * v2) + 1) 16 = true then
      Option.bind (if (M 20 ((2 * v2) + 1).toNatClampNeg) = 8 then
      some ((-1) : Int32)
      else
      if cb_in ((2 * v2) + 1) 16 = true then
      some (M 20 ((2 * v2) + 1).toNatClampNeg)
      else none) fun x4 =>
      if (M 16 x1.toNatClampNeg) = x4 then
      some (1 : Int32)
      else
      some (0 : Int32)
      else none
      else none) fun x3 =>
      f_X7_isSeen_L8 n x3 (v2 + 1) M
      else none
def f_X7_isSeen  (M : cb_Mem) : Option (Int32 × cb_Mem) :=
  (f_X7_lives  M).bind fun M1 =>
  (f_X7_isSeen_L8 cb_fuel 1 0 M1).bind fun x1 =>
  some ((x1 &&& 1), M1)
set_option maxRecDepth 100000 in
set_option maxHeartbeats 4000000 in
theorem l_X7_isSeen_L8 {l : Launch} {g : cb_Geo} {γ : cb_Gam} {rr : Int32} {Mr : cb_Mem} (hC : cb_C cy g γ RX7 cX7_isSeen 4 (some .boolean) 5 l (cb_Qi cy g rr Mr)) (M : cb_Mem) : ∀ (n : Nat) (v1 : Int32) (v2 : Int32) (o : (Int32)), f_X7_isSeen_L8 n v1 v2 M = some o → (∀ (v1' : Int32), o = v1' → cb_J cy g γ 4 M 87 [(1, .int v1')] []) → cb_J cy g γ 4 M 8 [(0, .ref (g.2.1 0)), (1, .int v1), (2, .int v2)] [] := by
  intro n
  induction n with
  | zero =>
    intro v1 v2 o h
    cases h
  | succ n ih =>
    intro v1 v2 o h hexit
    unfold f_X7_isSeen_L8 at h
    refine cj_iload_n hC dX7_isSeen_8 rfl 2 rfl ?_
    refine cj_aload_n hC dX7_isSeen_9 rfl 0 rfl ?_
    refine cj_get (v := .int (M 0 27)) hC fa_X7_246 cy_l0_ (cy_e0 g _) rfl dX7_isSeen_10 ?_
    refine cj_icmp_ge (tgt := 87) hC dX7_isSeen_13 (by decide) (fun c1 => ?_) (fun c1 => ?_)
    · replace h := cb_T c1 h
      obtain rfl := Option.some.inj h
      exact cj_pick [1] rfl (hexit _ rfl)
    · replace h := cb_F c1 h
      refine cj_iload_n hC dX7_isSeen_16 rfl 1 rfl ?_
      refine cj_if_eq (tgt := 87) hC dX7_isSeen_17 (by decide) (fun c2 => ?_) (fun c2 => ?_)
      · replace h := cb_T c2 h
        obtain rfl := Option.some.inj h
        exact cj_pick [1] rfl (hexit _ rfl)
      · replace h := cb_F c2 h
        refine cj_aload_n hC dX7_isSeen_20 rfl 0 rfl ?_
        refine cj_get (v := .ref (g.2.1 20)) hC fa_X7_67 cy_l0_ (cy_e0 g _) rfl dX7_isSeen_21 ?_
        refine cj_iconst (v := 2) hC dX7_isSeen_24 rfl ?_
        refine cj_iload_n hC dX7_isSeen_25 rfl 2 rfl ?_
        refine cj_imul hC dX7_isSeen_26 ?_
        obtain ⟨i1, h⟩ := cb_g h
        refine cj_iald hC cy_l20_ (cy_e20 g _) (cy_t0 g) i1 dX7_isSeen_27 ?_
        obtain ⟨x1, ex1, h⟩ := cb_l h
        refine cj_topi ex1 ?_
        refine cj_istore_n (lv' := [(3, .int x1), (0, .ref (g.2.1 0)), (1, .int v1), (2, .int v2)]) hC dX7_isSeen_28 rfl (by decide) rfl ?_
        refine cj_aload_n hC dX7_isSeen_29 rfl 1 rfl ?_
        refine cj_iload_n hC dX7_isSeen_30 rfl 0 rfl ?_
        obtain ⟨x2, e1, h⟩ := cb_l h
        refine cj_callVi (As := [.int x1]) hC cv_X7_139 cy_l0_ (cy_e0 g _) rfl (c_X7_isCouple l g x1 M e1.symm) (by decide) rfl rfl (Nat.le_of_ble_eq_true rfl) dX7_isSeen_31 ?_
        obtain ⟨x3, hx1, h⟩ := cb_b h
        have hj1 : cb_J cy g γ 4 M 80 [(0, .ref (g.2.1 0)), (2, .int v2)] [.int x3] := by
          refine cj_istore_n (lv' := [(1, .int x3), (0, .ref (g.2.1 0)), (2, .int v2)]) hC dX7_isSeen_80 rfl (by decide) rfl ?_
          refine cj_iinc (lv' := [(2, .int (v2 + 1)), (1, .int x3), (0, .ref (g.2.1 0))]) hC dX7_isSeen_81 (q := 2) rfl rfl (by decide) rfl ?_
          refine cj_goto (tgt := 8) hC dX7_isSeen_84 (by decide) ?_
          exact cj_pick [2, 1, 0] rfl (ih _ _ _ h hexit)
        refine cj_if_eq (tgt := 79) hC dX7_isSeen_34 (by decide) (fun c3 => ?_) (fun c3 => ?_)
        · replace hx1 := cb_T c3 hx1
          refine cj_iconst (v := 0) hC dX7_isSeen_79 rfl ?_
          obtain rfl := Option.some.inj hx1
          exact cj_pick [1, 3] rfl hj1
        · replace hx1 := cb_F c3 hx1
          refine cj_aload_n hC dX7_isSeen_37 rfl 1 rfl ?_
          refine cj_get (v := .ref (g.2.1 16)) hC fa_X7_55 cy_l0_ (cy_e0 g _) rfl dX7_isSeen_38 ?_
          refine cj_iload_n hC dX7_isSeen_41 rfl 0 rfl ?_
          obtain ⟨i2, hx1⟩ := cb_g hx1
          refine cj_iald hC cy_l16_ (cy_e16 g _) (cy_t0 g) i2 dX7_isSeen_42 ?_
          refine cj_aload_n hC dX7_isSeen_43 rfl 1 rfl ?_
          refine cj_get (v := .ref (g.2.1 20)) hC fa_X7_67 cy_l0_ (cy_e0 g _) rfl dX7_isSeen_44 ?_
          refine cj_iconst (v := 2) hC dX7_isSeen_47 rfl ?_
          refine cj_iload_n hC dX7_isSeen_48 rfl 3 rfl ?_
          refine cj_imul hC dX7_isSeen_49 ?_
          refine cj_iconst (v := 1) hC dX7_isSeen_50 rfl ?_
          refine cj_iadd hC dX7_isSeen_51 ?_
          obtain ⟨i3, hx1⟩ := cb_g hx1
          refine cj_iald hC cy_l20_ (cy_e20 g _) (cy_t0 g) i3 dX7_isSeen_52 ?_
          refine cj_bipush (v := 8) hC dX7_isSeen_53 rfl ?_
          obtain ⟨x4, hx2, hx1⟩ := cb_b hx1
          have hj2 : cb_J cy g γ 4 M 72 [(0, .ref (g.2.1 0)), (2, .int v2)] [.int x4, .int (M 16 x1.toNatClampNeg)] := by
            refine cj_icmp_ne (tgt := 79) hC dX7_isSeen_72 (by decide) (fun c5 => ?_) (fun c5 => ?_)
            · replace hx1 := cb_F c5 hx1
              refine cj_iconst (v := 0) hC dX7_isSeen_79 rfl ?_
              obtain rfl := Option.some.inj hx1
              exact cj_pick [0, 1] rfl hj1
            · replace hx1 := cb_T c5 hx1
              refine cj_iconst (v := 1) hC dX7_isSeen_75 rfl ?_
              refine cj_goto (tgt := 80) hC dX7_isSeen_76 (by decide) ?_
              obtain rfl := Option.some.inj hx1
              exact cj_pick [0, 1] rfl hj1
          refine cj_icmp_ne (tgt := 62) hC dX7_isSeen_55 (by decide) (fun c4 => ?_) (fun c4 => ?_)
          · replace hx2 := cb_F c4 hx2
            refine cj_aload_n hC dX7_isSeen_62 rfl 1 rfl ?_
            refine cj_get (v := .ref (g.2.1 20)) hC fa_X7_67 cy_l0_ (cy_e0 g _) rfl dX7_isSeen_63 ?_
            refine cj_iconst (v := 2) hC dX7_isSeen_66 rfl ?_
            refine cj_iload_n hC dX7_isSeen_67 rfl 3 rfl ?_
            refine cj_imul hC dX7_isSeen_68 ?_
            refine cj_iconst (v := 1) hC dX7_isSeen_69 rfl ?_
            refine cj_iadd hC dX7_isSeen_70 ?_
            obtain ⟨i4, hx2⟩ := cb_g hx2
            refine cj_iald hC cy_l20_ (cy_e20 g _) (cy_t0 g) i4 dX7_isSeen_71 ?_
            obtain rfl := Option.some.inj hx2
            exact cj_pick [1, 3] rfl hj2
          · replace hx2 := cb_T c4 hx2
            refine cj_iconst (v := (-1)) hC dX7_isSeen_58 rfl ?_
            refine cj_goto (tgt := 72) hC dX7_isSeen_59 (by decide) ?_
            obtain rfl := Option.some.inj hx2
            exact cj_pick [1, 3] rfl hj2
set_option maxRecDepth 100000 in
set_option maxHeartbeats 4000000 in
theorem c_X7_isSeen (l : Launch) (g : cb_Geo)  (M : cb_Mem) {rr : Int32} {Mr : cb_Mem} (h : f_X7_isSeen  M = some (rr, Mr)) : Met l yX7_isSeen (.code yX7_isSeen cX7_isSeen 4 (some .boolean) :: cb_ws) (cb_rm 5) (cb_Pc cy g [.ref (g.2.1 0)] M) (cb_Qi cy g rr Mr) 0 0 (cb_A cy g) := by
  refine cb_met (by decide) wd_1210 (Nat.le_of_ble_eq_true rfl) (fun γ hC => ?_)
  replace hC : cb_C cy g γ RX7 cX7_isSeen 4 (some .boolean) 5 l (cb_Qi cy g rr Mr) := hC
  show cb_J cy g γ 4 M 0 [(0, .ref (g.2.1 0))] []
  unfold f_X7_isSeen at h
  refine cj_aload_n hC dX7_isSeen_0 rfl 0 rfl ?_
  obtain ⟨M1, e1, h⟩ := cb_b h
  refine cj_callVv (As := []) hC cv_X7_194 cy_l0_ (cy_e0 g _) rfl (c_X7_lives l g  M e1) (by decide) rfl rfl (Nat.le_of_ble_eq_true rfl) dX7_isSeen_1 ?_
  refine cj_iconst (v := 1) hC dX7_isSeen_4 rfl ?_
  refine cj_istore_n (lv' := [(1, .int 1), (0, .ref (g.2.1 0))]) hC dX7_isSeen_5 rfl (by decide) rfl ?_
  refine cj_iconst (v := 0) hC dX7_isSeen_6 rfl ?_
  refine cj_istore_n (lv' := [(2, .int 0), (1, .int 1), (0, .ref (g.2.1 0))]) hC dX7_isSeen_7 rfl (by decide) rfl ?_
  obtain ⟨x1, e2, h⟩ := cb_b h
  refine cj_pick [2, 1, 0] rfl ?_
  refine l_X7_isSeen_L8 hC M1 cb_fuel _ _ _ e2 (fun ze2 hz => ?_)
  obtain rfl := hz
  refine cj_iload_n hC dX7_isSeen_87 rfl 0 rfl ?_
  obtain ⟨rfl, rfl⟩ := cb_i2 h
  exact cj_zret2 hC dX7_isSeen_88
def f_X7_neverNow_L4 : Nat → Int32 → Int32 → cb_Mem → Option (Int32 × cb_Mem)
    | 0, _, _, _ => none
    | n + 1, v1, v2, M =>
      if (M 0 13) ≤ v2 then
      some (v1, M)
      else
      cb_let (cb_up M 0 15 ((1 : Int32) <<< (v2 &&& 31))) fun M1 =>
      cb_bind2 (f_X7_isSeen  M1) fun x1 M2 =>
      cb_let (if x1 = 0 then
      (0 : Int32)
      else
      ((1 : Int32) <<< (v2 &&& 31))) fun x2 =>
      cb_let ((v1 ||| x2)) fun x3 =>
      f_X7_neverNow_L4 n x3 (v2 + 1) M2
def f_X7_neverNow  (M : cb_Mem) : Option (Int32 × cb_Mem) :=
  cb_bind2 (f_X7_neverNow_L4 cb_fuel 0 0 M) fun x1 M1 =>
  cb_let (cb_up M1 0 15 0) fun M2 =>
  some (x1, M2)
set_option maxRecDepth 100000 in
set_option maxHeartbeats 4000000 in
theorem l_X7_neverNow_L4 {l : Launch} {g : cb_Geo} {γ : cb_Gam} {rr : Int32} {Mr : cb_Mem} (hC : cb_C cy g γ RX7 cX7_neverNow 3 (some .int) 6 l (cb_Qi cy g rr Mr))  : ∀ (n : Nat) (v1 : Int32) (v2 : Int32) (M : cb_Mem) (o : (Int32 × cb_Mem)), f_X7_neverNow_L4 n v1 v2 M = some o → (∀ (v1' : Int32) (M' : cb_Mem), o = (v1', M') → cb_J cy g γ 3 M' 42 [(0, .ref (g.2.1 0)), (1, .int v1')] []) → cb_J cy g γ 3 M 4 [(0, .ref (g.2.1 0)), (1, .int v1), (2, .int v2)] [] := by
  intro n
  induction n with
  | zero =>
    intro v1 v2 M o h
    cases h
  | succ n ih =>
    intro v1 v2 M o h hexit
    unfold f_X7_neverNow_L4 at h
    refine cj_iload_n hC dX7_neverNow_4 rfl 2 rfl ?_
    refine cj_aload_n hC dX7_neverNow_5 rfl 0 rfl ?_
    refine cj_get (v := .int (M 0 13)) hC fa_X7_149 cy_l0_ (cy_e0 g _) rfl dX7_neverNow_6 ?_
    refine cj_icmp_ge (tgt := 42) hC dX7_neverNow_9 (by decide) (fun c1 => ?_) (fun c1 => ?_)
    · replace h := cb_T c1 h
      obtain rfl := Option.some.inj h
      exact cj_pick [0, 1] rfl (hexit _ _ rfl)
    · replace h := cb_F c1 h
      refine cj_aload_n hC dX7_neverNow_12 rfl 0 rfl ?_
      refine cj_iconst (v := 1) hC dX7_neverNow_13 rfl ?_
      refine cj_iload_n hC dX7_neverNow_14 rfl 2 rfl ?_
      refine cj_ishl hC dX7_neverNow_15 ?_
      obtain ⟨M1, eM1, h⟩ := cb_l h
      refine cj_put hC fp_X7_161 cy_l0_ (cy_e0 g _) rfl (Nat.le_of_ble_eq_true rfl) eM1 dX7_neverNow_16 ?_
      refine cj_iload_n hC dX7_neverNow_19 rfl 1 rfl ?_
      refine cj_aload_n hC dX7_neverNow_20 rfl 0 rfl ?_
      obtain ⟨x1, M2, e1, h⟩ := cb_b2 h
      refine cj_callVi (As := []) hC cv_X7_249 cy_l0_ (cy_e0 g _) rfl (c_X7_isSeen l g  M1 e1) (by decide) rfl rfl (Nat.le_of_ble_eq_true rfl) dX7_neverNow_21 ?_
      obtain ⟨x2, hx1, h⟩ := cb_l h
      replace hx1 := hx1.symm
      have hj1 : cb_J cy g γ 3 M2 34 [(0, .ref (g.2.1 0)), (2, .int v2)] [.int x2, .int v1] := by
        refine cj_ior hC dX7_neverNow_34 ?_
        obtain ⟨x3, ex3, h⟩ := cb_l h
        refine cj_topi ex3 ?_
        refine cj_istore_n (lv' := [(1, .int x3), (0, .ref (g.2.1 0)), (2, .int v2)]) hC dX7_neverNow_35 rfl (by decide) rfl ?_
        refine cj_iinc (lv' := [(2, .int (v2 + 1)), (1, .int x3), (0, .ref (g.2.1 0))]) hC dX7_neverNow_36 (q := 2) rfl rfl (by decide) rfl ?_
        refine cj_goto (tgt := 4) hC dX7_neverNow_39 (by decide) ?_
        exact cj_pick [2, 1, 0] rfl (ih _ _ _ _ h hexit)
      refine cj_if_eq (tgt := 33) hC dX7_neverNow_24 (by decide) (fun c2 => ?_) (fun c2 => ?_)
      · replace hx1 := cb_T c2 hx1
        refine cj_iconst (v := 0) hC dX7_neverNow_33 rfl ?_
        obtain rfl := hx1
        exact cj_pick [0, 2] rfl hj1
      · replace hx1 := cb_F c2 hx1
        refine cj_iconst (v := 1) hC dX7_neverNow_27 rfl ?_
        refine cj_iload_n hC dX7_neverNow_28 rfl 2 rfl ?_
        refine cj_ishl hC dX7_neverNow_29 ?_
        refine cj_goto (tgt := 34) hC dX7_neverNow_30 (by decide) ?_
        obtain rfl := hx1
        exact cj_pick [0, 2] rfl hj1
set_option maxRecDepth 100000 in
set_option maxHeartbeats 4000000 in
theorem c_X7_neverNow (l : Launch) (g : cb_Geo)  (M : cb_Mem) {rr : Int32} {Mr : cb_Mem} (h : f_X7_neverNow  M = some (rr, Mr)) : Met l yX7_neverNow (.code yX7_neverNow cX7_neverNow 3 (some .int) :: cb_ws) (cb_rm 6) (cb_Pc cy g [.ref (g.2.1 0)] M) (cb_Qi cy g rr Mr) 0 0 (cb_A cy g) := by
  refine cb_met (by decide) wd_1206 (Nat.le_of_ble_eq_true rfl) (fun γ hC => ?_)
  replace hC : cb_C cy g γ RX7 cX7_neverNow 3 (some .int) 6 l (cb_Qi cy g rr Mr) := hC
  show cb_J cy g γ 3 M 0 [(0, .ref (g.2.1 0))] []
  unfold f_X7_neverNow at h
  refine cj_iconst (v := 0) hC dX7_neverNow_0 rfl ?_
  refine cj_istore_n (lv' := [(1, .int 0), (0, .ref (g.2.1 0))]) hC dX7_neverNow_1 rfl (by decide) rfl ?_
  refine cj_iconst (v := 0) hC dX7_neverNow_2 rfl ?_
  refine cj_istore_n (lv' := [(2, .int 0), (1, .int 0), (0, .ref (g.2.1 0))]) hC dX7_neverNow_3 rfl (by decide) rfl ?_
  obtain ⟨x1, M1, e1, h⟩ := cb_b2 h
  refine cj_pick [2, 1, 0] rfl ?_
  refine l_X7_neverNow_L4 hC  cb_fuel _ _ _ _ e1 (fun ze10 ze11 hz => ?_)
  obtain ⟨rfl, rfl⟩ := cb_p2 hz
  refine cj_aload_n hC dX7_neverNow_42 rfl 0 rfl ?_
  refine cj_iconst (v := 0) hC dX7_neverNow_43 rfl ?_
  obtain ⟨M2, eM2, h⟩ := cb_l h
  refine cj_put hC fp_X7_161 cy_l0_ (cy_e0 g _) rfl (Nat.le_of_ble_eq_true rfl) eM2 dX7_neverNow_44 ?_
  refine cj_iload_n hC dX7_neverNow_47 rfl 1 rfl ?_
  obtain ⟨rfl, rfl⟩ := cb_i2 h
  exact cj_iret hC dX7_neverNow_48
def f_X7_never  (M : cb_Mem) : Option (Int32 × cb_Mem) :=
  (f_X7_find  M).bind fun M1 =>
  cb_bind2 (f_X7_neverNow  M1) fun x1 M2 =>
  some (x1, M2)
set_option maxRecDepth 100000 in
set_option maxHeartbeats 4000000 in
theorem c_X7_never (l : Launch) (g : cb_Geo)  (M : cb_Mem) {rr : Int32} {Mr : cb_Mem} (h : f_X7_never  M = some (rr, Mr)) : Met l yX7_never (.code yX7_never cX7_never 1 (some .int) :: cb_ws) (cb_rm 7) (cb_Pc cy g [.ref (g.2.1 0)] M) (cb_Qi cy g rr Mr) 0 0 (cb_A cy g) := by
  refine cb_met (by decide) wd_1202 (Nat.le_of_ble_eq_true rfl) (fun γ hC => ?_)
  replace hC : cb_C cy g γ RX7 cX7_never 1 (some .int) 7 l (cb_Qi cy g rr Mr) := hC
  show cb_J cy g γ 1 M 0 [(0, .ref (g.2.1 0))] []
  unfold f_X7_never at h
  refine cj_aload_n hC dX7_never_0 rfl 0 rfl ?_
  obtain ⟨M1, e1, h⟩ := cb_b h
  refine cj_callVv (As := []) hC cv_X7_200 cy_l0_ (cy_e0 g _) rfl (c_X7_find l g  M e1) (by decide) rfl rfl (Nat.le_of_ble_eq_true rfl) dX7_never_1 ?_
  refine cj_aload_n hC dX7_never_4 rfl 0 rfl ?_
  obtain ⟨x1, M2, e2, h⟩ := cb_b2 h
  refine cj_callVi (As := []) hC cv_X7_253 cy_l0_ (cy_e0 g _) rfl (c_X7_neverNow l g  M1 e2) (by decide) rfl rfl (Nat.le_of_ble_eq_true rfl) dX7_never_5 ?_
  obtain ⟨rfl, rfl⟩ := cb_i2 h
  exact cj_iret hC dX7_never_8
def f_X7_wasOf_L17 : Nat → Int32 → Int32 → Int32 → Int32 → Int32 → cb_Mem → Option (Int32 × cb_Mem)
    | 0, _, _, _, _, _, _ => none
    | n + 1, v1, v2, v3, v4, v5, M =>
      cb_let (if v2 = 0 then
      (3 : Int32)
      else
      (30 : Int32)) fun x1 =>
      if x1 ≤ v5 then
      some (v4, M)
      else
      if cb_in ((2 * v1) + v2) 16 = true then
      cb_let (cb_up M 7 ((2 * v1) + v2).toNatClampNeg v5) fun M1 =>
      cb_bind2 (f_X7_isSeen  M1) fun x2 M2 =>
      cb_let (if x2 = 0 then
      (0 : Int32)
      else
      ((1 : Int32) <<< (v5 &&& 31))) fun x3 =>
      cb_let ((v4 ||| x3)) fun x4 =>
      f_X7_wasOf_L17 n v1 v2 v3 x4 (v5 + 1) M2
      else none
def f_X7_wasOf (p1 : Int32) (p2 : Int32) (M : cb_Mem) : Option (Int32 × cb_Mem) :=
  if cb_in ((2 * p1) + p2) 16 = true then
  cb_let ((M 7 ((2 * p1) + p2).toNatClampNeg)) fun x1 =>
  cb_bind2 (f_X7_wasOf_L17 cb_fuel p1 p2 x1 0 0 M) fun x2 M1 =>
  if cb_in ((2 * p1) + p2) 16 = true then
  cb_let (cb_up M1 7 ((2 * p1) + p2).toNatClampNeg x1) fun M2 =>
  some (x2, M2)
  else none
  else none
set_option maxRecDepth 100000 in
set_option maxHeartbeats 4000000 in
theorem l_X7_wasOf_L17 {l : Launch} {g : cb_Geo} {γ : cb_Gam} {rr : Int32} {Mr : cb_Mem} (hC : cb_C cy g γ RX7 cX7_wasOf 6 (some .int) 6 l (cb_Qi cy g rr Mr)) (v1 : Int32) (v2 : Int32) (v3 : Int32) : ∀ (n : Nat) (v4 : Int32) (v5 : Int32) (M : cb_Mem) (o : (Int32 × cb_Mem)), f_X7_wasOf_L17 n v1 v2 v3 v4 v5 M = some o → (∀ (v4' : Int32) (M' : cb_Mem), o = (v4', M') → cb_J cy g γ 6 M' 70 [(0, .ref (g.2.1 0)), (1, .int v1), (2, .int v2), (3, .int v3), (4, .int v4')] []) → cb_J cy g γ 6 M 17 [(0, .ref (g.2.1 0)), (1, .int v1), (2, .int v2), (3, .int v3), (4, .int v4), (5, .int v5)] [] := by
  intro n
  induction n with
  | zero =>
    intro v4 v5 M o h
    cases h
  | succ n ih =>
    intro v4 v5 M o h hexit
    unfold f_X7_wasOf_L17 at h
    refine cj_iload hC dX7_wasOf_17 5 rfl ?_
    refine cj_iload_n hC dX7_wasOf_19 rfl 2 rfl ?_
    obtain ⟨x1, hx1, h⟩ := cb_l h
    replace hx1 := hx1.symm
    have hj1 : cb_J cy g γ 6 M 29 [(0, .ref (g.2.1 0)), (1, .int v1), (2, .int v2), (3, .int v3), (4, .int v4), (5, .int v5)] [.int x1, .int v5] := by
      refine cj_icmp_ge (tgt := 70) hC dX7_wasOf_29 (by decide) (fun c2 => ?_) (fun c2 => ?_)
      · replace h := cb_T c2 h
        obtain rfl := Option.some.inj h
        exact cj_pick [0, 1, 2, 3, 4] rfl (hexit _ _ rfl)
      · replace h := cb_F c2 h
        refine cj_aload_n hC dX7_wasOf_32 rfl 0 rfl ?_
        refine cj_get (v := .ref (g.2.1 7)) hC fa_X7_28 cy_l0_ (cy_e0 g _) rfl dX7_wasOf_33 ?_
        refine cj_iconst (v := 2) hC dX7_wasOf_36 rfl ?_
        refine cj_iload_n hC dX7_wasOf_37 rfl 1 rfl ?_
        refine cj_imul hC dX7_wasOf_38 ?_
        refine cj_iload_n hC dX7_wasOf_39 rfl 2 rfl ?_
        refine cj_iadd hC dX7_wasOf_40 ?_
        refine cj_iload hC dX7_wasOf_41 5 rfl ?_
        obtain ⟨i1, h⟩ := cb_g h
        obtain ⟨M1, eM1, h⟩ := cb_l h
        refine cj_iast hC cy_l7_ (cy_e7 g) (cy_t0 g) i1 eM1 dX7_wasOf_43 ?_
        refine cj_iload hC dX7_wasOf_44 4 rfl ?_
        refine cj_aload_n hC dX7_wasOf_46 rfl 0 rfl ?_
        obtain ⟨x2, M2, e1, h⟩ := cb_b2 h
        refine cj_callVi (As := []) hC cv_X7_249 cy_l0_ (cy_e0 g _) rfl (c_X7_isSeen l g  M1 e1) (by decide) rfl rfl (Nat.le_of_ble_eq_true rfl) dX7_wasOf_47 ?_
        obtain ⟨x3, hx2, h⟩ := cb_l h
        replace hx2 := hx2.symm
        have hj2 : cb_J cy g γ 6 M2 61 [(0, .ref (g.2.1 0)), (1, .int v1), (2, .int v2), (3, .int v3), (5, .int v5)] [.int x3, .int v4] := by
          refine cj_ior hC dX7_wasOf_61 ?_
          obtain ⟨x4, ex4, h⟩ := cb_l h
          refine cj_topi ex4 ?_
          refine cj_istore (lv' := [(4, .int x4), (0, .ref (g.2.1 0)), (1, .int v1), (2, .int v2), (3, .int v3), (5, .int v5)]) hC dX7_wasOf_62 (by decide) rfl ?_
          refine cj_iinc (lv' := [(5, .int (v5 + 1)), (4, .int x4), (0, .ref (g.2.1 0)), (1, .int v1), (2, .int v2), (3, .int v3)]) hC dX7_wasOf_64 (q := 5) rfl rfl (by decide) rfl ?_
          refine cj_goto (tgt := 17) hC dX7_wasOf_67 (by decide) ?_
          exact cj_pick [2, 3, 4, 5, 1, 0] rfl (ih _ _ _ _ h hexit)
        refine cj_if_eq (tgt := 60) hC dX7_wasOf_50 (by decide) (fun c3 => ?_) (fun c3 => ?_)
        · replace hx2 := cb_T c3 hx2
          refine cj_iconst (v := 0) hC dX7_wasOf_60 rfl ?_
          obtain rfl := hx2
          exact cj_pick [0, 1, 2, 3, 5] rfl hj2
        · replace hx2 := cb_F c3 hx2
          refine cj_iconst (v := 1) hC dX7_wasOf_53 rfl ?_
          refine cj_iload hC dX7_wasOf_54 5 rfl ?_
          refine cj_ishl hC dX7_wasOf_56 ?_
          refine cj_goto (tgt := 61) hC dX7_wasOf_57 (by decide) ?_
          obtain rfl := hx2
          exact cj_pick [0, 1, 2, 3, 5] rfl hj2
    refine cj_if_ne (tgt := 27) hC dX7_wasOf_20 (by decide) (fun c1 => ?_) (fun c1 => ?_)
    · replace hx1 := cb_F c1 hx1
      refine cj_bipush (v := 30) hC dX7_wasOf_27 rfl ?_
      obtain rfl := hx1
      exact cj_pick [0, 1, 2, 3, 4, 5] rfl hj1
    · replace hx1 := cb_T c1 hx1
      refine cj_iconst (v := 3) hC dX7_wasOf_23 rfl ?_
      refine cj_goto (tgt := 29) hC dX7_wasOf_24 (by decide) ?_
      obtain rfl := hx1
      exact cj_pick [0, 1, 2, 3, 4, 5] rfl hj1
set_option maxRecDepth 100000 in
set_option maxHeartbeats 4000000 in
theorem c_X7_wasOf (l : Launch) (g : cb_Geo) (p1 : Int32) (p2 : Int32) (M : cb_Mem) {rr : Int32} {Mr : cb_Mem} (h : f_X7_wasOf p1 p2 M = some (rr, Mr)) : Met l yX7_wasOf (.code yX7_wasOf cX7_wasOf 6 (some .int) :: cb_ws) (cb_rm 6) (cb_Pc cy g [.ref (g.2.1 0), .int p1, .int p2] M) (cb_Qi cy g rr Mr) 0 0 (cb_A cy g) := by
  refine cb_met (by decide) wd_1218 (Nat.le_of_ble_eq_true rfl) (fun γ hC => ?_)
  replace hC : cb_C cy g γ RX7 cX7_wasOf 6 (some .int) 6 l (cb_Qi cy g rr Mr) := hC
  show cb_J cy g γ 6 M 0 [(0, .ref (g.2.1 0)), (1, .int p1), (2, .int p2)] []
  unfold f_X7_wasOf at h
  refine cj_aload_n hC dX7_wasOf_0 rfl 0 rfl ?_
  refine cj_get (v := .ref (g.2.1 7)) hC fa_X7_28 cy_l0_ (cy_e0 g _) rfl dX7_wasOf_1 ?_
  refine cj_iconst (v := 2) hC dX7_wasOf_4 rfl ?_
  refine cj_iload_n hC dX7_wasOf_5 rfl 1 rfl ?_
  refine cj_imul hC dX7_wasOf_6 ?_
  refine cj_iload_n hC dX7_wasOf_7 rfl 2 rfl ?_
  refine cj_iadd hC dX7_wasOf_8 ?_
  obtain ⟨i1, h⟩ := cb_g h
  refine cj_iald hC cy_l7_ (cy_e7 g _) (cy_t0 g) i1 dX7_wasOf_9 ?_
  obtain ⟨x1, ex1, h⟩ := cb_l h
  refine cj_topi ex1 ?_
  refine cj_istore_n (lv' := [(3, .int x1), (0, .ref (g.2.1 0)), (1, .int p1), (2, .int p2)]) hC dX7_wasOf_10 rfl (by decide) rfl ?_
  refine cj_iconst (v := 0) hC dX7_wasOf_11 rfl ?_
  refine cj_istore (lv' := [(4, .int 0), (3, .int x1), (0, .ref (g.2.1 0)), (1, .int p1), (2, .int p2)]) hC dX7_wasOf_12 (by decide) rfl ?_
  refine cj_iconst (v := 0) hC dX7_wasOf_14 rfl ?_
  refine cj_istore (lv' := [(5, .int 0), (4, .int 0), (3, .int x1), (0, .ref (g.2.1 0)), (1, .int p1), (2, .int p2)]) hC dX7_wasOf_15 (by decide) rfl ?_
  obtain ⟨x2, M1, e1, h⟩ := cb_b2 h
  refine cj_pick [3, 4, 5, 2, 1, 0] rfl ?_
  refine l_X7_wasOf_L17 hC p1 p2 x1 cb_fuel _ _ _ _ e1 (fun ze10 ze11 hz => ?_)
  obtain ⟨rfl, rfl⟩ := cb_p2 hz
  refine cj_aload_n hC dX7_wasOf_70 rfl 0 rfl ?_
  refine cj_get (v := .ref (g.2.1 7)) hC fa_X7_28 cy_l0_ (cy_e0 g _) rfl dX7_wasOf_71 ?_
  refine cj_iconst (v := 2) hC dX7_wasOf_74 rfl ?_
  refine cj_iload_n hC dX7_wasOf_75 rfl 1 rfl ?_
  refine cj_imul hC dX7_wasOf_76 ?_
  refine cj_iload_n hC dX7_wasOf_77 rfl 2 rfl ?_
  refine cj_iadd hC dX7_wasOf_78 ?_
  refine cj_iload_n hC dX7_wasOf_79 rfl 3 rfl ?_
  obtain ⟨i2, h⟩ := cb_g h
  obtain ⟨M2, eM2, h⟩ := cb_l h
  refine cj_iast hC cy_l7_ (cy_e7 g) (cy_t0 g) i2 eM2 dX7_wasOf_80 ?_
  refine cj_iload hC dX7_wasOf_81 4 rfl ?_
  obtain ⟨rfl, rfl⟩ := cb_i2 h
  exact cj_iret hC dX7_wasOf_83
def f_X7_was (p1 : Int32) (p2 : Int32) (M : cb_Mem) : Option (Int32 × cb_Mem) :=
  (f_X7_find  M).bind fun M1 =>
  cb_let (f_X7_isHead p1 M1) fun x1 =>
  if x1 = 0 then
  some (((-2) : Int32), M1)
  else
  cb_let (f_X7_isTwo p2) fun x2 =>
  if x2 = 0 then
  some (((-2) : Int32), M1)
  else
  cb_bind2 (f_X7_wasOf p1 p2 M1) fun x3 M2 =>
  some (x3, M2)
set_option maxRecDepth 100000 in
set_option maxHeartbeats 4000000 in
theorem c_X7_was (l : Launch) (g : cb_Geo) (p1 : Int32) (p2 : Int32) (M : cb_Mem) {rr : Int32} {Mr : cb_Mem} (h : f_X7_was p1 p2 M = some (rr, Mr)) : Met l yX7_was (.code yX7_was cX7_was 3 (some .int) :: cb_ws) (cb_rm 7) (cb_Pc cy g [.ref (g.2.1 0), .int p1, .int p2] M) (cb_Qi cy g rr Mr) 0 0 (cb_A cy g) := by
  refine cb_met (by decide) wd_1214 (Nat.le_of_ble_eq_true rfl) (fun γ hC => ?_)
  replace hC : cb_C cy g γ RX7 cX7_was 3 (some .int) 7 l (cb_Qi cy g rr Mr) := hC
  show cb_J cy g γ 3 M 0 [(0, .ref (g.2.1 0)), (1, .int p1), (2, .int p2)] []
  unfold f_X7_was at h
  refine cj_aload_n hC dX7_was_0 rfl 0 rfl ?_
  obtain ⟨M1, e1, h⟩ := cb_b h
  refine cj_callVv (As := []) hC cv_X7_200 cy_l0_ (cy_e0 g _) rfl (c_X7_find l g  M e1) (by decide) rfl rfl (Nat.le_of_ble_eq_true rfl) dX7_was_1 ?_
  refine cj_aload_n hC dX7_was_4 rfl 0 rfl ?_
  refine cj_iload_n hC dX7_was_5 rfl 1 rfl ?_
  obtain ⟨x1, e2, h⟩ := cb_l h
  refine cj_callVi (As := [.int p1]) hC cv_X7_136 cy_l0_ (cy_e0 g _) rfl (c_X7_isHead l g p1 M1 e2.symm) (by decide) rfl rfl (Nat.le_of_ble_eq_true rfl) dX7_was_6 ?_
  refine cj_if_eq (tgt := 28) hC dX7_was_9 (by decide) (fun c1 => ?_) (fun c1 => ?_)
  · replace h := cb_T c1 h
    refine cj_bipush (v := (-2)) hC dX7_was_28 rfl ?_
    obtain ⟨rfl, rfl⟩ := cb_i2 h
    exact cj_iret hC dX7_was_30
  · replace h := cb_F c1 h
    refine cj_iload_n hC dX7_was_12 rfl 2 rfl ?_
    obtain ⟨x2, e3, h⟩ := cb_l h
    refine cj_callSi (As := [.int p2]) hC cs_X7_107 (c_X7_isTwo l g p2 M1 e3.symm) (by decide) rfl rfl (Nat.le_of_ble_eq_true rfl) dX7_was_13 ?_
    refine cj_if_eq (tgt := 28) hC dX7_was_16 (by decide) (fun c2 => ?_) (fun c2 => ?_)
    · replace h := cb_T c2 h
      refine cj_bipush (v := (-2)) hC dX7_was_28 rfl ?_
      obtain ⟨rfl, rfl⟩ := cb_i2 h
      exact cj_iret hC dX7_was_30
    · replace h := cb_F c2 h
      refine cj_aload_n hC dX7_was_19 rfl 0 rfl ?_
      refine cj_iload_n hC dX7_was_20 rfl 1 rfl ?_
      refine cj_iload_n hC dX7_was_21 rfl 2 rfl ?_
      obtain ⟨x3, M2, e4, h⟩ := cb_b2 h
      refine cj_callVi (As := [.int p1, .int p2]) hC cv_X7_256 cy_l0_ (cy_e0 g _) rfl (c_X7_wasOf l g p1 p2 M1 e4) (by decide) rfl rfl (Nat.le_of_ble_eq_true rfl) dX7_was_22 ?_
      refine cj_goto (tgt := 30) hC dX7_was_25 (by decide) ?_
      obtain ⟨rfl, rfl⟩ := cb_i2 h
      exact cj_iret hC dX7_was_30
def f_X7_askOf_L21 : Nat → Int32 → Int32 → Int32 → Int32 → cb_Mem → Option (cb_Mem)
    | 0, _, _, _, _, _ => none
    | n + 1, v1, v2, v3, v4, M =>
      if 72 ≤ v4 then
      some M
      else
      if cb_in v4 72 = true then
      cb_let (cb_up M 21 v4.toNatClampNeg 0) fun M1 =>
      f_X7_askOf_L21 n v1 v2 v3 (v4 + 1) M1
      else none
def f_X7_askOf_L80 : Nat → Int32 → Int32 → Int32 → Int32 → Int32 → cb_Mem → Option (cb_Mem)
    | 0, _, _, _, _, _, _ => none
    | n + 1, v1, v2, v3, v4, v5, M =>
      if (M 0 9) ≤ v5 then
      some M
      else
      if cb_in v5 8 = true then
      if cb_in (((9 * v5) + (M 16 v5.toNatClampNeg)) + 1) 72 = true then
      if cb_in (((9 * v5) + (M 16 v5.toNatClampNeg)) + 1) 72 = true then
      cb_let (cb_up M 21 (((9 * v5) + (M 16 v5.toNatClampNeg)) + 1).toNatClampNeg ((M 21 (((9 * v5) + (M 16 v5.toNatClampNeg)) + 1).toNatClampNeg) + 1)) fun M1 =>
      f_X7_askOf_L80 n v1 v2 v3 v4 (v5 + 1) M1
      else none
      else none
      else none
def f_X7_askOf_L45 : Nat → Int32 → Int32 → Int32 → Int32 → cb_Mem → Option (cb_Mem)
    | 0, _, _, _, _, _ => none
    | n + 1, v1, v2, v3, v4, M =>
      if 30 ≤ v4 then
      some M
      else
      cb_let (f_X7_isIn v2 v4) fun x1 =>
      Option.bind (if x1 = 0 then
      some M
      else
      if cb_in ((2 * v1) + 1) 16 = true then
      cb_let (cb_up M 7 ((2 * v1) + 1).toNatClampNeg v4) fun M2 =>
      (f_X7_lives  M2).bind fun M3 =>
      (f_X7_askOf_L80 cb_fuel v1 v2 v3 v4 0 M3).bind fun M4 =>
      some M4
      else none) fun M1 =>
      f_X7_askOf_L45 n v1 v2 v3 (v4 + 1) M1
def f_X7_askOf_L160 : Nat → Int32 → Int32 → Int32 → Int32 → Int32 → cb_Mem → Option (Int32)
    | 0, _, _, _, _, _, _ => none
    | n + 1, v4, v5, v6, v7, v8, M =>
      if 9 ≤ v8 then
      some v7
      else
      if cb_in ((9 * v6) + v8) 72 = true then
      cb_let (f_X7_greater (M 21 ((9 * v6) + v8).toNatClampNeg) v7) fun x1 =>
      f_X7_askOf_L160 n v4 v5 v6 x1 (v8 + 1) M
      else none
def f_X7_askOf_L145 : Nat → Int32 → Int32 → Int32 → cb_Mem → Option (Int32)
    | 0, _, _, _, _ => none
    | n + 1, v4, v5, v6, M =>
      if (M 0 9) ≤ v6 then
      some v4
      else
      (f_X7_askOf_L160 cb_fuel v4 v5 v6 0 0 M).bind fun x1 =>
      cb_let (if v4 = (-1) then
      (1 : Int32)
      else
      if v5 ≤ x1 then
      (0 : Int32)
      else
      (1 : Int32)) fun x2 =>
      cb_let (if x2 = 0 then
      v4
      else
      v6) fun x3 =>
      cb_let (if x2 = 0 then
      v5
      else
      x1) fun x4 =>
      f_X7_askOf_L145 n x3 x4 (v6 + 1) M
def f_X7_askOf (p1 : Int32) (M : cb_Mem) : Option (Int32 × cb_Mem) :=
  cb_bind2 (f_X7_wasOf p1 1 M) fun x1 M1 =>
  if cb_in ((2 * p1) + 1) 16 = true then
  cb_let ((M1 7 ((2 * p1) + 1).toNatClampNeg)) fun x2 =>
  (f_X7_askOf_L21 cb_fuel p1 x1 x2 0 M1).bind fun M2 =>
  (f_X7_askOf_L45 cb_fuel p1 x1 x2 0 M2).bind fun M3 =>
  if cb_in ((2 * p1) + 1) 16 = true then
  cb_let (cb_up M3 7 ((2 * p1) + 1).toNatClampNeg x2) fun M4 =>
  (f_X7_askOf_L145 cb_fuel (-1) 0 0 M4).bind fun x3 =>
  some (x3, M4)
  else none
  else none
set_option maxRecDepth 100000 in
set_option maxHeartbeats 4000000 in
theorem l_X7_askOf_L21 {l : Launch} {g : cb_Geo} {γ : cb_Gam} {rr : Int32} {Mr : cb_Mem} (hC : cb_C cy g γ RX7 cX7_askOf 9 (some .int) 7 l (cb_Qi cy g rr Mr)) (v1 : Int32) (v2 : Int32) (v3 : Int32) : ∀ (n : Nat) (v4 : Int32) (M : cb_Mem) (o : (cb_Mem)), f_X7_askOf_L21 n v1 v2 v3 v4 M = some o → (∀ (M' : cb_Mem), o = M' → cb_J cy g γ 9 M' 42 [(0, .ref (g.2.1 0)), (1, .int v1), (2, .int v2), (3, .int v3)] []) → cb_J cy g γ 9 M 21 [(0, .ref (g.2.1 0)), (1, .int v1), (2, .int v2), (3, .int v3), (4, .int v4)] [] := by
  intro n
  induction n with
  | zero =>
    intro v4 M o h
    cases h
  | succ n ih =>
    intro v4 M o h hexit
    unfold f_X7_askOf_L21 at h
    refine cj_iload hC dX7_askOf_21 4 rfl ?_
    refine cj_bipush (v := 72) hC dX7_askOf_23 rfl ?_
    refine cj_icmp_ge (tgt := 42) hC dX7_askOf_25 (by decide) (fun c1 => ?_) (fun c1 => ?_)
    · replace h := cb_T c1 h
      obtain rfl := Option.some.inj h
      exact cj_pick [0, 1, 2, 3] rfl (hexit _ rfl)
    · replace h := cb_F c1 h
      refine cj_aload_n hC dX7_askOf_28 rfl 0 rfl ?_
      refine cj_get (v := .ref (g.2.1 21)) hC fa_X7_70 cy_l0_ (cy_e0 g _) rfl dX7_askOf_29 ?_
      refine cj_iload hC dX7_askOf_32 4 rfl ?_
      refine cj_iconst (v := 0) hC dX7_askOf_34 rfl ?_
      obtain ⟨i1, h⟩ := cb_g h
      obtain ⟨M1, eM1, h⟩ := cb_l h
      refine cj_iast hC cy_l21_ (cy_e21 g) (cy_t0 g) i1 eM1 dX7_askOf_35 ?_
      refine cj_iinc (lv' := [(4, .int (v4 + 1)), (0, .ref (g.2.1 0)), (1, .int v1), (2, .int v2), (3, .int v3)]) hC dX7_askOf_36 (q := 4) rfl rfl (by decide) rfl ?_
      refine cj_goto (tgt := 21) hC dX7_askOf_39 (by decide) ?_
      exact cj_pick [1, 2, 3, 4, 0] rfl (ih _ _ _ h hexit)
set_option maxRecDepth 100000 in
set_option maxHeartbeats 4000000 in
theorem l_X7_askOf_L80 {l : Launch} {g : cb_Geo} {γ : cb_Gam} {rr : Int32} {Mr : cb_Mem} (hC : cb_C cy g γ RX7 cX7_askOf 9 (some .int) 7 l (cb_Qi cy g rr Mr)) (v1 : Int32) (v2 : Int32) (v3 : Int32) (v4 : Int32) : ∀ (n : Nat) (v5 : Int32) (M : cb_Mem) (o : (cb_Mem)), f_X7_askOf_L80 n v1 v2 v3 v4 v5 M = some o → (∀ (M' : cb_Mem), o = M' → cb_J cy g γ 9 M' 119 [(0, .ref (g.2.1 0)), (1, .int v1), (2, .int v2), (3, .int v3), (4, .int v4)] []) → cb_J cy g γ 9 M 80 [(0, .ref (g.2.1 0)), (1, .int v1), (2, .int v2), (3, .int v3), (4, .int v4), (5, .int v5)] [] := by
  intro n
  induction n with
  | zero =>
    intro v5 M o h
    cases h
  | succ n ih =>
    intro v5 M o h hexit
    unfold f_X7_askOf_L80 at h
    refine cj_iload hC dX7_askOf_80 5 rfl ?_
    refine cj_aload_n hC dX7_askOf_82 rfl 0 rfl ?_
    refine cj_get (v := .int (M 0 9)) hC fa_X7_124 cy_l0_ (cy_e0 g _) rfl dX7_askOf_83 ?_
    refine cj_icmp_ge (tgt := 119) hC dX7_askOf_86 (by decide) (fun c1 => ?_) (fun c1 => ?_)
    · replace h := cb_T c1 h
      obtain rfl := Option.some.inj h
      exact cj_pick [0, 1, 2, 3, 4] rfl (hexit _ rfl)
    · replace h := cb_F c1 h
      refine cj_aload_n hC dX7_askOf_89 rfl 0 rfl ?_
      refine cj_get (v := .ref (g.2.1 21)) hC fa_X7_70 cy_l0_ (cy_e0 g _) rfl dX7_askOf_90 ?_
      refine cj_bipush (v := 9) hC dX7_askOf_93 rfl ?_
      refine cj_iload hC dX7_askOf_95 5 rfl ?_
      refine cj_imul hC dX7_askOf_97 ?_
      refine cj_aload_n hC dX7_askOf_98 rfl 0 rfl ?_
      refine cj_get (v := .ref (g.2.1 16)) hC fa_X7_55 cy_l0_ (cy_e0 g _) rfl dX7_askOf_99 ?_
      refine cj_iload hC dX7_askOf_102 5 rfl ?_
      obtain ⟨i1, h⟩ := cb_g h
      refine cj_iald hC cy_l16_ (cy_e16 g _) (cy_t0 g) i1 dX7_askOf_104 ?_
      refine cj_iadd hC dX7_askOf_105 ?_
      refine cj_iconst (v := 1) hC dX7_askOf_106 rfl ?_
      refine cj_iadd hC dX7_askOf_107 ?_
      refine cj_dup2 hC dX7_askOf_108 rfl rfl ?_
      obtain ⟨i2, h⟩ := cb_g h
      refine cj_iald hC cy_l21_ (cy_e21 g _) (cy_t0 g) i2 dX7_askOf_109 ?_
      refine cj_iconst (v := 1) hC dX7_askOf_110 rfl ?_
      refine cj_iadd hC dX7_askOf_111 ?_
      obtain ⟨i3, h⟩ := cb_g h
      obtain ⟨M1, eM1, h⟩ := cb_l h
      refine cj_iast hC cy_l21_ (cy_e21 g) (cy_t0 g) i3 eM1 dX7_askOf_112 ?_
      refine cj_iinc (lv' := [(5, .int (v5 + 1)), (0, .ref (g.2.1 0)), (1, .int v1), (2, .int v2), (3, .int v3), (4, .int v4)]) hC dX7_askOf_113 (q := 5) rfl rfl (by decide) rfl ?_
      refine cj_goto (tgt := 80) hC dX7_askOf_116 (by decide) ?_
      exact cj_pick [1, 2, 3, 4, 5, 0] rfl (ih _ _ _ h hexit)
set_option maxRecDepth 100000 in
set_option maxHeartbeats 4000000 in
theorem l_X7_askOf_L45 {l : Launch} {g : cb_Geo} {γ : cb_Gam} {rr : Int32} {Mr : cb_Mem} (hC : cb_C cy g γ RX7 cX7_askOf 9 (some .int) 7 l (cb_Qi cy g rr Mr)) (v1 : Int32) (v2 : Int32) (v3 : Int32) : ∀ (n : Nat) (v4 : Int32) (M : cb_Mem) (o : (cb_Mem)), f_X7_askOf_L45 n v1 v2 v3 v4 M = some o → (∀ (M' : cb_Mem), o = M' → cb_J cy g γ 9 M' 125 [(0, .ref (g.2.1 0)), (1, .int v1), (3, .int v3)] []) → cb_J cy g γ 9 M 45 [(0, .ref (g.2.1 0)), (1, .int v1), (2, .int v2), (3, .int v3), (4, .int v4)] [] := by
  intro n
  induction n with
  | zero =>
    intro v4 M o h
    cases h
  | succ n ih =>
    intro v4 M o h hexit
    unfold f_X7_askOf_L45 at h
    refine cj_iload hC dX7_askOf_45 4 rfl ?_
    refine cj_bipush (v := 30) hC dX7_askOf_47 rfl ?_
    refine cj_icmp_ge (tgt := 125) hC dX7_askOf_49 (by decide) (fun c1 => ?_) (fun c1 => ?_)
    · replace h := cb_T c1 h
      obtain rfl := Option.some.inj h
      exact cj_pick [0, 1, 3] rfl (hexit _ rfl)
    · replace h := cb_F c1 h
      refine cj_iload_n hC dX7_askOf_52 rfl 2 rfl ?_
      refine cj_iload hC dX7_askOf_53 4 rfl ?_
      obtain ⟨x1, e1, h⟩ := cb_l h
      refine cj_callSi (As := [.int v2, .int v4]) hC cs_X7_154 (c_X7_isIn l g v2 v4 M e1.symm) (by decide) rfl rfl (Nat.le_of_ble_eq_true rfl) dX7_askOf_55 ?_
      obtain ⟨M1, hx1, h⟩ := cb_b h
      have hj1 : cb_J cy g γ 9 M1 119 [(0, .ref (g.2.1 0)), (1, .int v1), (2, .int v2), (3, .int v3), (4, .int v4)] [] := by
        refine cj_iinc (lv' := [(4, .int (v4 + 1)), (0, .ref (g.2.1 0)), (1, .int v1), (2, .int v2), (3, .int v3)]) hC dX7_askOf_119 (q := 4) rfl rfl (by decide) rfl ?_
        refine cj_goto (tgt := 45) hC dX7_askOf_122 (by decide) ?_
        exact cj_pick [1, 2, 3, 4, 0] rfl (ih _ _ _ h hexit)
      refine cj_if_eq (tgt := 119) hC dX7_askOf_58 (by decide) (fun c2 => ?_) (fun c2 => ?_)
      · replace hx1 := cb_T c2 hx1
        obtain rfl := Option.some.inj hx1
        exact cj_pick [0, 1, 2, 3, 4] rfl hj1
      · replace hx1 := cb_F c2 hx1
        refine cj_aload_n hC dX7_askOf_61 rfl 0 rfl ?_
        refine cj_get (v := .ref (g.2.1 7)) hC fa_X7_28 cy_l0_ (cy_e0 g _) rfl dX7_askOf_62 ?_
        refine cj_iconst (v := 2) hC dX7_askOf_65 rfl ?_
        refine cj_iload_n hC dX7_askOf_66 rfl 1 rfl ?_
        refine cj_imul hC dX7_askOf_67 ?_
        refine cj_iconst (v := 1) hC dX7_askOf_68 rfl ?_
        refine cj_iadd hC dX7_askOf_69 ?_
        refine cj_iload hC dX7_askOf_70 4 rfl ?_
        obtain ⟨i1, hx1⟩ := cb_g hx1
        obtain ⟨M2, eM2, hx1⟩ := cb_l hx1
        refine cj_iast hC cy_l7_ (cy_e7 g) (cy_t0 g) i1 eM2 dX7_askOf_72 ?_
        refine cj_aload_n hC dX7_askOf_73 rfl 0 rfl ?_
        obtain ⟨M3, e2, hx1⟩ := cb_b hx1
        refine cj_callVv (As := []) hC cv_X7_194 cy_l0_ (cy_e0 g _) rfl (c_X7_lives l g  M2 e2) (by decide) rfl rfl (Nat.le_of_ble_eq_true rfl) dX7_askOf_74 ?_
        refine cj_iconst (v := 0) hC dX7_askOf_77 rfl ?_
        refine cj_istore (lv' := [(5, .int 0), (0, .ref (g.2.1 0)), (1, .int v1), (2, .int v2), (3, .int v3), (4, .int v4)]) hC dX7_askOf_78 (by decide) rfl ?_
        obtain ⟨M4, e3, hx1⟩ := cb_b hx1
        refine cj_pick [1, 2, 3, 4, 5, 0] rfl ?_
        refine l_X7_askOf_L80 hC v1 v2 v3 v4 cb_fuel _ _ _ e3 (fun ze3 hz => ?_)
        obtain rfl := hz
        obtain rfl := Option.some.inj hx1
        exact cj_pick [0, 1, 2, 3, 4] rfl hj1
set_option maxRecDepth 100000 in
set_option maxHeartbeats 4000000 in
theorem l_X7_askOf_L160 {l : Launch} {g : cb_Geo} {γ : cb_Gam} {rr : Int32} {Mr : cb_Mem} (hC : cb_C cy g γ RX7 cX7_askOf 9 (some .int) 7 l (cb_Qi cy g rr Mr)) (v4 : Int32) (v5 : Int32) (v6 : Int32) (M : cb_Mem) : ∀ (n : Nat) (v7 : Int32) (v8 : Int32) (o : (Int32)), f_X7_askOf_L160 n v4 v5 v6 v7 v8 M = some o → (∀ (v7' : Int32), o = v7' → cb_J cy g γ 9 M 193 [(0, .ref (g.2.1 0)), (4, .int v4), (5, .int v5), (6, .int v6), (7, .int v7')] []) → cb_J cy g γ 9 M 160 [(0, .ref (g.2.1 0)), (4, .int v4), (5, .int v5), (6, .int v6), (7, .int v7), (8, .int v8)] [] := by
  intro n
  induction n with
  | zero =>
    intro v7 v8 o h
    cases h
  | succ n ih =>
    intro v7 v8 o h hexit
    unfold f_X7_askOf_L160 at h
    refine cj_iload hC dX7_askOf_160 5 rfl ?_
    refine cj_bipush (v := 9) hC dX7_askOf_162 rfl ?_
    refine cj_icmp_ge (tgt := 193) hC dX7_askOf_164 (by decide) (fun c1 => ?_) (fun c1 => ?_)
    · replace h := cb_T c1 h
      obtain rfl := Option.some.inj h
      exact cj_pick [0, 1, 2, 3, 4] rfl (hexit _ rfl)
    · replace h := cb_F c1 h
      refine cj_aload_n hC dX7_askOf_167 rfl 0 rfl ?_
      refine cj_get (v := .ref (g.2.1 21)) hC fa_X7_70 cy_l0_ (cy_e0 g _) rfl dX7_askOf_168 ?_
      refine cj_bipush (v := 9) hC dX7_askOf_171 rfl ?_
      refine cj_iload hC dX7_askOf_173 3 rfl ?_
      refine cj_imul hC dX7_askOf_175 ?_
      refine cj_iload hC dX7_askOf_176 5 rfl ?_
      refine cj_iadd hC dX7_askOf_178 ?_
      obtain ⟨i1, h⟩ := cb_g h
      refine cj_iald hC cy_l21_ (cy_e21 g _) (cy_t0 g) i1 dX7_askOf_179 ?_
      refine cj_iload hC dX7_askOf_180 4 rfl ?_
      obtain ⟨x1, e1, h⟩ := cb_l h
      refine cj_callSi (As := [.int (M 21 ((9 * v6) + v8).toNatClampNeg), .int v7]) hC cs_X7_221 (c_X7_greater l g (M 21 ((9 * v6) + v8).toNatClampNeg) v7 M e1.symm) (by decide) rfl rfl (Nat.le_of_ble_eq_true rfl) dX7_askOf_182 ?_
      refine cj_istore (lv' := [(7, .int x1), (0, .ref (g.2.1 0)), (4, .int v4), (5, .int v5), (6, .int v6), (8, .int v8)]) hC dX7_askOf_185 (by decide) rfl ?_
      refine cj_iinc (lv' := [(8, .int (v8 + 1)), (7, .int x1), (0, .ref (g.2.1 0)), (4, .int v4), (5, .int v5), (6, .int v6)]) hC dX7_askOf_187 (q := 5) rfl rfl (by decide) rfl ?_
      refine cj_goto (tgt := 160) hC dX7_askOf_190 (by decide) ?_
      exact cj_pick [2, 3, 4, 5, 1, 0] rfl (ih _ _ _ h hexit)
set_option maxRecDepth 100000 in
set_option maxHeartbeats 4000000 in
theorem l_X7_askOf_L145 {l : Launch} {g : cb_Geo} {γ : cb_Gam} {rr : Int32} {Mr : cb_Mem} (hC : cb_C cy g γ RX7 cX7_askOf 9 (some .int) 7 l (cb_Qi cy g rr Mr)) (M : cb_Mem) : ∀ (n : Nat) (v4 : Int32) (v5 : Int32) (v6 : Int32) (o : (Int32)), f_X7_askOf_L145 n v4 v5 v6 M = some o → (∀ (v4' : Int32), o = v4' → cb_J cy g γ 9 M 247 [(4, .int v4')] []) → cb_J cy g γ 9 M 145 [(0, .ref (g.2.1 0)), (4, .int v4), (5, .int v5), (6, .int v6)] [] := by
  intro n
  induction n with
  | zero =>
    intro v4 v5 v6 o h
    cases h
  | succ n ih =>
    intro v4 v5 v6 o h hexit
    unfold f_X7_askOf_L145 at h
    refine cj_iload hC dX7_askOf_145 3 rfl ?_
    refine cj_aload_n hC dX7_askOf_147 rfl 0 rfl ?_
    refine cj_get (v := .int (M 0 9)) hC fa_X7_124 cy_l0_ (cy_e0 g _) rfl dX7_askOf_148 ?_
    refine cj_icmp_ge (tgt := 247) hC dX7_askOf_151 (by decide) (fun c1 => ?_) (fun c1 => ?_)
    · replace h := cb_T c1 h
      obtain rfl := Option.some.inj h
      exact cj_pick [1] rfl (hexit _ rfl)
    · replace h := cb_F c1 h
      refine cj_iconst (v := 0) hC dX7_askOf_154 rfl ?_
      refine cj_istore (lv' := [(7, .int 0), (0, .ref (g.2.1 0)), (4, .int v4), (5, .int v5), (6, .int v6)]) hC dX7_askOf_155 (by decide) rfl ?_
      refine cj_iconst (v := 0) hC dX7_askOf_157 rfl ?_
      refine cj_istore (lv' := [(8, .int 0), (7, .int 0), (0, .ref (g.2.1 0)), (4, .int v4), (5, .int v5), (6, .int v6)]) hC dX7_askOf_158 (by decide) rfl ?_
      obtain ⟨x1, e1, h⟩ := cb_b h
      refine cj_pick [2, 3, 4, 5, 1, 0] rfl ?_
      refine l_X7_askOf_L160 hC v4 v5 v6 M cb_fuel _ _ _ e1 (fun ze1 hz => ?_)
      obtain rfl := hz
      refine cj_iload hC dX7_askOf_193 1 rfl ?_
      refine cj_iconst (v := (-1)) hC dX7_askOf_195 rfl ?_
      obtain ⟨x2, hx1, h⟩ := cb_l h
      replace hx1 := hx1.symm
      have hj1 : cb_J cy g γ 9 M 211 [(0, .ref (g.2.1 0)), (4, .int v4), (5, .int v5), (6, .int v6), (7, .int x1)] [.int x2] := by
        refine cj_istore (lv' := [(8, .int x2), (0, .ref (g.2.1 0)), (4, .int v4), (5, .int v5), (6, .int v6), (7, .int x1)]) hC dX7_askOf_211 (by decide) rfl ?_
        refine cj_iload hC dX7_askOf_213 0 rfl ?_
        obtain ⟨x3, hx2, h⟩ := cb_l h
        replace hx2 := hx2.symm
        have hj2 : cb_J cy g γ 9 M 225 [(0, .ref (g.2.1 0)), (5, .int v5), (6, .int v6), (7, .int x1), (8, .int x2)] [.int x3] := by
          refine cj_istore (lv' := [(4, .int x3), (0, .ref (g.2.1 0)), (5, .int v5), (6, .int v6), (7, .int x1), (8, .int x2)]) hC dX7_askOf_225 (by decide) rfl ?_
          refine cj_iload hC dX7_askOf_227 5 rfl ?_
          obtain ⟨x4, hx3, h⟩ := cb_l h
          replace hx3 := hx3.symm
          have hj3 : cb_J cy g γ 9 M 239 [(0, .ref (g.2.1 0)), (4, .int x3), (6, .int v6)] [.int x4] := by
            refine cj_istore (lv' := [(5, .int x4), (0, .ref (g.2.1 0)), (4, .int x3), (6, .int v6)]) hC dX7_askOf_239 (by decide) rfl ?_
            refine cj_iinc (lv' := [(6, .int (v6 + 1)), (5, .int x4), (0, .ref (g.2.1 0)), (4, .int x3)]) hC dX7_askOf_241 (q := 3) rfl rfl (by decide) rfl ?_
            refine cj_goto (tgt := 145) hC dX7_askOf_244 (by decide) ?_
            exact cj_pick [2, 3, 1, 0] rfl (ih _ _ _ _ h hexit)
          refine cj_if_eq (tgt := 237) hC dX7_askOf_229 (by decide) (fun c5 => ?_) (fun c5 => ?_)
          · replace hx3 := cb_T c5 hx3
            refine cj_iload hC dX7_askOf_237 2 rfl ?_
            obtain rfl := hx3
            exact cj_pick [1, 0, 3] rfl hj3
          · replace hx3 := cb_F c5 hx3
            refine cj_iload hC dX7_askOf_232 4 rfl ?_
            refine cj_goto (tgt := 239) hC dX7_askOf_234 (by decide) ?_
            obtain rfl := hx3
            exact cj_pick [1, 0, 3] rfl hj3
        refine cj_if_eq (tgt := 223) hC dX7_askOf_215 (by decide) (fun c4 => ?_) (fun c4 => ?_)
        · replace hx2 := cb_T c4 hx2
          refine cj_iload hC dX7_askOf_223 2 rfl ?_
          obtain rfl := hx2
          exact cj_pick [1, 3, 4, 5, 0] rfl hj2
        · replace hx2 := cb_F c4 hx2
          refine cj_iload hC dX7_askOf_218 4 rfl ?_
          refine cj_goto (tgt := 225) hC dX7_askOf_220 (by decide) ?_
          obtain rfl := hx2
          exact cj_pick [1, 3, 4, 5, 0] rfl hj2
      refine cj_icmp_eq (tgt := 206) hC dX7_askOf_196 (by decide) (fun c2 => ?_) (fun c2 => ?_)
      · replace hx1 := cb_T c2 hx1
        refine cj_iconst (v := 1) hC dX7_askOf_206 rfl ?_
        refine cj_goto (tgt := 211) hC dX7_askOf_207 (by decide) ?_
        obtain rfl := hx1
        exact cj_pick [0, 1, 2, 3, 4] rfl hj1
      · replace hx1 := cb_F c2 hx1
        refine cj_iload hC dX7_askOf_199 4 rfl ?_
        refine cj_iload hC dX7_askOf_201 2 rfl ?_
        refine cj_icmp_ge (tgt := 210) hC dX7_askOf_203 (by decide) (fun c3 => ?_) (fun c3 => ?_)
        · replace hx1 := cb_T c3 hx1
          refine cj_iconst (v := 0) hC dX7_askOf_210 rfl ?_
          obtain rfl := hx1
          exact cj_pick [0, 1, 2, 3, 4] rfl hj1
        · replace hx1 := cb_F c3 hx1
          refine cj_iconst (v := 1) hC dX7_askOf_206 rfl ?_
          refine cj_goto (tgt := 211) hC dX7_askOf_207 (by decide) ?_
          obtain rfl := hx1
          exact cj_pick [0, 1, 2, 3, 4] rfl hj1
set_option maxRecDepth 100000 in
set_option maxHeartbeats 4000000 in
theorem c_X7_askOf (l : Launch) (g : cb_Geo) (p1 : Int32) (M : cb_Mem) {rr : Int32} {Mr : cb_Mem} (h : f_X7_askOf p1 M = some (rr, Mr)) : Met l yX7_askOf (.code yX7_askOf cX7_askOf 9 (some .int) :: cb_ws) (cb_rm 7) (cb_Pc cy g [.ref (g.2.1 0), .int p1] M) (cb_Qi cy g rr Mr) 0 0 (cb_A cy g) := by
  refine cb_met (by decide) wd_1226 (Nat.le_of_ble_eq_true rfl) (fun γ hC => ?_)
  replace hC : cb_C cy g γ RX7 cX7_askOf 9 (some .int) 7 l (cb_Qi cy g rr Mr) := hC
  show cb_J cy g γ 9 M 0 [(0, .ref (g.2.1 0)), (1, .int p1)] []
  unfold f_X7_askOf at h
  refine cj_aload_n hC dX7_askOf_0 rfl 0 rfl ?_
  refine cj_iload_n hC dX7_askOf_1 rfl 1 rfl ?_
  refine cj_iconst (v := 1) hC dX7_askOf_2 rfl ?_
  obtain ⟨x1, M1, e1, h⟩ := cb_b2 h
  refine cj_callVi (As := [.int p1, .int 1]) hC cv_X7_256 cy_l0_ (cy_e0 g _) rfl (c_X7_wasOf l g p1 1 M e1) (by decide) rfl rfl (Nat.le_of_ble_eq_true rfl) dX7_askOf_3 ?_
  refine cj_istore_n (lv' := [(2, .int x1), (0, .ref (g.2.1 0)), (1, .int p1)]) hC dX7_askOf_6 rfl (by decide) rfl ?_
  refine cj_aload_n hC dX7_askOf_7 rfl 1 rfl ?_
  refine cj_get (v := .ref (g.2.1 7)) hC fa_X7_28 cy_l0_ (cy_e0 g _) rfl dX7_askOf_8 ?_
  refine cj_iconst (v := 2) hC dX7_askOf_11 rfl ?_
  refine cj_iload_n hC dX7_askOf_12 rfl 2 rfl ?_
  refine cj_imul hC dX7_askOf_13 ?_
  refine cj_iconst (v := 1) hC dX7_askOf_14 rfl ?_
  refine cj_iadd hC dX7_askOf_15 ?_
  obtain ⟨i1, h⟩ := cb_g h
  refine cj_iald hC cy_l7_ (cy_e7 g _) (cy_t0 g) i1 dX7_askOf_16 ?_
  obtain ⟨x2, ex2, h⟩ := cb_l h
  refine cj_topi ex2 ?_
  refine cj_istore_n (lv' := [(3, .int x2), (2, .int x1), (0, .ref (g.2.1 0)), (1, .int p1)]) hC dX7_askOf_17 rfl (by decide) rfl ?_
  refine cj_iconst (v := 0) hC dX7_askOf_18 rfl ?_
  refine cj_istore (lv' := [(4, .int 0), (3, .int x2), (2, .int x1), (0, .ref (g.2.1 0)), (1, .int p1)]) hC dX7_askOf_19 (by decide) rfl ?_
  obtain ⟨M2, e2, h⟩ := cb_b h
  refine cj_pick [3, 4, 2, 1, 0] rfl ?_
  refine l_X7_askOf_L21 hC p1 x1 x2 cb_fuel _ _ _ e2 (fun ze2 hz => ?_)
  obtain rfl := hz
  refine cj_iconst (v := 0) hC dX7_askOf_42 rfl ?_
  refine cj_istore (lv' := [(4, .int 0), (0, .ref (g.2.1 0)), (1, .int p1), (2, .int x1), (3, .int x2)]) hC dX7_askOf_43 (by decide) rfl ?_
  obtain ⟨M3, e3, h⟩ := cb_b h
  refine cj_pick [1, 2, 3, 4, 0] rfl ?_
  refine l_X7_askOf_L45 hC p1 x1 x2 cb_fuel _ _ _ e3 (fun ze3 hz => ?_)
  obtain rfl := hz
  refine cj_aload_n hC dX7_askOf_125 rfl 0 rfl ?_
  refine cj_get (v := .ref (g.2.1 7)) hC fa_X7_28 cy_l0_ (cy_e0 g _) rfl dX7_askOf_126 ?_
  refine cj_iconst (v := 2) hC dX7_askOf_129 rfl ?_
  refine cj_iload_n hC dX7_askOf_130 rfl 1 rfl ?_
  refine cj_imul hC dX7_askOf_131 ?_
  refine cj_iconst (v := 1) hC dX7_askOf_132 rfl ?_
  refine cj_iadd hC dX7_askOf_133 ?_
  refine cj_iload_n hC dX7_askOf_134 rfl 2 rfl ?_
  obtain ⟨i2, h⟩ := cb_g h
  obtain ⟨M4, eM4, h⟩ := cb_l h
  refine cj_iast hC cy_l7_ (cy_e7 g) (cy_t0 g) i2 eM4 dX7_askOf_135 ?_
  refine cj_iconst (v := (-1)) hC dX7_askOf_136 rfl ?_
  refine cj_istore (lv' := [(4, .int (-1)), (0, .ref (g.2.1 0)), (1, .int p1), (3, .int x2)]) hC dX7_askOf_137 (by decide) rfl ?_
  refine cj_iconst (v := 0) hC dX7_askOf_139 rfl ?_
  refine cj_istore (lv' := [(5, .int 0), (4, .int (-1)), (0, .ref (g.2.1 0)), (1, .int p1), (3, .int x2)]) hC dX7_askOf_140 (by decide) rfl ?_
  refine cj_iconst (v := 0) hC dX7_askOf_142 rfl ?_
  refine cj_istore (lv' := [(6, .int 0), (5, .int 0), (4, .int (-1)), (0, .ref (g.2.1 0)), (1, .int p1), (3, .int x2)]) hC dX7_askOf_143 (by decide) rfl ?_
  obtain ⟨x3, e4, h⟩ := cb_b h
  refine cj_pick [3, 2, 1, 0] rfl ?_
  refine l_X7_askOf_L145 hC M4 cb_fuel _ _ _ _ e4 (fun ze4 hz => ?_)
  obtain rfl := hz
  refine cj_iload hC dX7_askOf_247 0 rfl ?_
  obtain ⟨rfl, rfl⟩ := cb_i2 h
  exact cj_iret hC dX7_askOf_249
def f_X7_ask (p1 : Int32) (M : cb_Mem) : Option (Int32 × cb_Mem) :=
  (f_X7_find  M).bind fun M1 =>
  cb_let (f_X7_isHead p1 M1) fun x1 =>
  if x1 = 0 then
  some (((-2) : Int32), M1)
  else
  cb_bind2 (f_X7_askOf p1 M1) fun x2 M2 =>
  some (x2, M2)
set_option maxRecDepth 100000 in
set_option maxHeartbeats 4000000 in
theorem c_X7_ask (l : Launch) (g : cb_Geo) (p1 : Int32) (M : cb_Mem) {rr : Int32} {Mr : cb_Mem} (h : f_X7_ask p1 M = some (rr, Mr)) : Met l yX7_ask (.code yX7_ask cX7_ask 2 (some .int) :: cb_ws) (cb_rm 8) (cb_Pc cy g [.ref (g.2.1 0), .int p1] M) (cb_Qi cy g rr Mr) 0 0 (cb_A cy g) := by
  refine cb_met (by decide) wd_1222 (Nat.le_of_ble_eq_true rfl) (fun γ hC => ?_)
  replace hC : cb_C cy g γ RX7 cX7_ask 2 (some .int) 8 l (cb_Qi cy g rr Mr) := hC
  show cb_J cy g γ 2 M 0 [(0, .ref (g.2.1 0)), (1, .int p1)] []
  unfold f_X7_ask at h
  refine cj_aload_n hC dX7_ask_0 rfl 0 rfl ?_
  obtain ⟨M1, e1, h⟩ := cb_b h
  refine cj_callVv (As := []) hC cv_X7_200 cy_l0_ (cy_e0 g _) rfl (c_X7_find l g  M e1) (by decide) rfl rfl (Nat.le_of_ble_eq_true rfl) dX7_ask_1 ?_
  refine cj_aload_n hC dX7_ask_4 rfl 0 rfl ?_
  refine cj_iload_n hC dX7_ask_5 rfl 1 rfl ?_
  obtain ⟨x1, e2, h⟩ := cb_l h
  refine cj_callVi (As := [.int p1]) hC cv_X7_136 cy_l0_ (cy_e0 g _) rfl (c_X7_isHead l g p1 M1 e2.symm) (by decide) rfl rfl (Nat.le_of_ble_eq_true rfl) dX7_ask_6 ?_
  refine cj_if_eq (tgt := 20) hC dX7_ask_9 (by decide) (fun c1 => ?_) (fun c1 => ?_)
  · replace h := cb_T c1 h
    refine cj_bipush (v := (-2)) hC dX7_ask_20 rfl ?_
    obtain ⟨rfl, rfl⟩ := cb_i2 h
    exact cj_iret hC dX7_ask_22
  · replace h := cb_F c1 h
    refine cj_aload_n hC dX7_ask_12 rfl 0 rfl ?_
    refine cj_iload_n hC dX7_ask_13 rfl 1 rfl ?_
    obtain ⟨x2, M2, e3, h⟩ := cb_b2 h
    refine cj_callVi (As := [.int p1]) hC cv_X7_259 cy_l0_ (cy_e0 g _) rfl (c_X7_askOf l g p1 M1 e3) (by decide) rfl rfl (Nat.le_of_ble_eq_true rfl) dX7_ask_14 ?_
    refine cj_goto (tgt := 22) hC dX7_ask_17 (by decide) ?_
    obtain ⟨rfl, rfl⟩ := cb_i2 h
    exact cj_iret hC dX7_ask_22
def f_X7_chillOf_L40 : Nat → Int32 → Int32 → Int32 → Int32 → Int64 → Int32 → Int64 → Int32 → Option (Int64)
    | 0, _, _, _, _, _, _, _, _ => none
    | n + 1, v1, v2, v3, v4, v5, v7, v8, v10 =>
      if v2 < v10 then
      some v8
      else
      cb_let (f_X7_isIn v7 v10) fun x1 =>
      cb_let (if x1 = 0 then
      (16 - v1).toInt64
      else
      v1.toInt64) fun y1 =>
      cb_let ((v8 * y1)) fun y2 =>
      f_X7_chillOf_L40 n v1 v2 v3 v4 v5 v7 y2 (v10 + 1)
def f_X7_chillOf_L6 : Nat → Int32 → Int32 → Int32 → Int32 → Int64 → Int32 → cb_Mem → Option (Int64 × cb_Mem)
    | 0, _, _, _, _, _, _, _ => none
    | n + 1, v1, v2, v3, v4, v5, v7, M =>
      if ((2 : Int32) <<< (v2 &&& 31)) ≤ v7 then
      some (v5, M)
      else
      cb_let (cb_up M 0 16 v7) fun M1 =>
      (f_X7_lives  M1).bind fun M2 =>
      if cb_in v3 8 = true then
      Option.bind (if (M2 16 v3.toNatClampNeg) = (-1) then
      some v5
      else
      (f_X7_chillOf_L40 cb_fuel v1 v2 v3 v4 v5 v7 1 0).bind fun y2 =>
      cb_let ((v5 + y2)) fun y3 =>
      some y3) fun y1 =>
      f_X7_chillOf_L6 n v1 v2 v3 v4 y1 (v7 + 1) M2
      else none
def f_X7_chillOf (p1 : Int32) (p2 : Int32) (p3 : Int32) (p4 : Int32) (M : cb_Mem) : Option (Int64 × cb_Mem) :=
  cb_bind2 (f_X7_chillOf_L6 cb_fuel p1 p2 p3 p4 0 0 M) fun y1 M1 =>
  cb_let (cb_up M1 0 16 (-1)) fun M2 =>
  (f_X7_part y1 ((1 : Int64) <<< ((4 * (p2 + 1)).toInt64 &&& 63)) p4).bind fun y2 =>
  some (y2, M2)
set_option maxRecDepth 100000 in
set_option maxHeartbeats 4000000 in
theorem l_X7_chillOf_L40 {l : Launch} {g : cb_Geo} {γ : cb_Gam} {rr : Int64} {Mr : cb_Mem} (hC : cb_C cy g γ RX7 cX7_chillOf 11 (some .long) 5 l (cb_Ql cy g rr Mr)) (v1 : Int32) (v2 : Int32) (v3 : Int32) (v4 : Int32) (v5 : Int64) (v7 : Int32) (M : cb_Mem) : ∀ (n : Nat) (v8 : Int64) (v10 : Int32) (o : (Int64)), f_X7_chillOf_L40 n v1 v2 v3 v4 v5 v7 v8 v10 = some o → (∀ (v8' : Int64), o = v8' → cb_J cy g γ 11 M 77 [(0, .ref (g.2.1 0)), (1, .int v1), (2, .int v2), (3, .int v3), (4, .int v4), (5, .long v5), (7, .int v7), (8, .long v8')] []) → cb_J cy g γ 11 M 40 [(0, .ref (g.2.1 0)), (1, .int v1), (2, .int v2), (3, .int v3), (4, .int v4), (5, .long v5), (7, .int v7), (8, .long v8), (10, .int v10)] [] := by
  intro n
  induction n with
  | zero =>
    intro v8 v10 o h
    cases h
  | succ n ih =>
    intro v8 v10 o h hexit
    unfold f_X7_chillOf_L40 at h
    refine cj_iload hC dX7_chillOf_40 8 rfl ?_
    refine cj_iload_n hC dX7_chillOf_42 rfl 2 rfl ?_
    refine cj_icmp_gt (tgt := 77) hC dX7_chillOf_43 (by decide) (fun c1 => ?_) (fun c1 => ?_)
    · replace h := cb_T c1 h
      obtain rfl := Option.some.inj h
      exact cj_pick [0, 1, 2, 3, 4, 5, 6, 7] rfl (hexit _ rfl)
    · replace h := cb_F c1 h
      refine cj_lload hC dX7_chillOf_46 7 rfl ?_
      refine cj_iload hC dX7_chillOf_48 6 rfl ?_
      refine cj_iload hC dX7_chillOf_50 8 rfl ?_
      obtain ⟨x1, e1, h⟩ := cb_l h
      refine cj_callSi (As := [.int v7, .int v10]) hC cs_X7_154 (c_X7_isIn l g v7 v10 M e1.symm) (by decide) rfl rfl (Nat.le_of_ble_eq_true rfl) dX7_chillOf_52 ?_
      obtain ⟨y1, hx1, h⟩ := cb_l h
      replace hx1 := hx1.symm
      have hj1 : cb_J cy g γ 11 M 68 [(0, .ref (g.2.1 0)), (1, .int v1), (2, .int v2), (3, .int v3), (4, .int v4), (5, .long v5), (7, .int v7), (10, .int v10)] [.long y1, .long v8] := by
        refine cj_lmul hC dX7_chillOf_68 ?_
        obtain ⟨y2, ey2, h⟩ := cb_l h
        refine cj_topl ey2 ?_
        refine cj_lstore (lv' := [(8, .long y2), (0, .ref (g.2.1 0)), (1, .int v1), (2, .int v2), (3, .int v3), (4, .int v4), (5, .long v5), (7, .int v7), (10, .int v10)]) hC dX7_chillOf_69 (by decide) rfl ?_
        refine cj_iinc (lv' := [(10, .int (v10 + 1)), (8, .long y2), (0, .ref (g.2.1 0)), (1, .int v1), (2, .int v2), (3, .int v3), (4, .int v4), (5, .long v5), (7, .int v7)]) hC dX7_chillOf_71 (q := 8) rfl rfl (by decide) rfl ?_
        refine cj_goto (tgt := 40) hC dX7_chillOf_74 (by decide) ?_
        exact cj_pick [2, 3, 4, 5, 6, 7, 8, 1, 0] rfl (ih _ _ _ h hexit)
      refine cj_if_eq (tgt := 63) hC dX7_chillOf_55 (by decide) (fun c2 => ?_) (fun c2 => ?_)
      · replace hx1 := cb_T c2 hx1
        refine cj_bipush (v := 16) hC dX7_chillOf_63 rfl ?_
        refine cj_iload_n hC dX7_chillOf_65 rfl 1 rfl ?_
        refine cj_isub hC dX7_chillOf_66 ?_
        refine cj_i2l hC dX7_chillOf_67 ?_
        obtain rfl := hx1
        exact cj_pick [0, 1, 2, 3, 4, 5, 6, 8] rfl hj1
      · replace hx1 := cb_F c2 hx1
        refine cj_iload_n hC dX7_chillOf_58 rfl 1 rfl ?_
        refine cj_i2l hC dX7_chillOf_59 ?_
        refine cj_goto (tgt := 68) hC dX7_chillOf_60 (by decide) ?_
        obtain rfl := hx1
        exact cj_pick [0, 1, 2, 3, 4, 5, 6, 8] rfl hj1
set_option maxRecDepth 100000 in
set_option maxHeartbeats 4000000 in
theorem l_X7_chillOf_L6 {l : Launch} {g : cb_Geo} {γ : cb_Gam} {rr : Int64} {Mr : cb_Mem} (hC : cb_C cy g γ RX7 cX7_chillOf 11 (some .long) 5 l (cb_Ql cy g rr Mr)) (v1 : Int32) (v2 : Int32) (v3 : Int32) (v4 : Int32) : ∀ (n : Nat) (v5 : Int64) (v7 : Int32) (M : cb_Mem) (o : (Int64 × cb_Mem)), f_X7_chillOf_L6 n v1 v2 v3 v4 v5 v7 M = some o → (∀ (v5' : Int64) (M' : cb_Mem), o = (v5', M') → cb_J cy g γ 11 M' 90 [(0, .ref (g.2.1 0)), (2, .int v2), (4, .int v4), (5, .long v5')] []) → cb_J cy g γ 11 M 6 [(0, .ref (g.2.1 0)), (1, .int v1), (2, .int v2), (3, .int v3), (4, .int v4), (5, .long v5), (7, .int v7)] [] := by
  intro n
  induction n with
  | zero =>
    intro v5 v7 M o h
    cases h
  | succ n ih =>
    intro v5 v7 M o h hexit
    unfold f_X7_chillOf_L6 at h
    refine cj_iload hC dX7_chillOf_6 6 rfl ?_
    refine cj_iconst (v := 2) hC dX7_chillOf_8 rfl ?_
    refine cj_iload_n hC dX7_chillOf_9 rfl 2 rfl ?_
    refine cj_ishl hC dX7_chillOf_10 ?_
    refine cj_icmp_ge (tgt := 90) hC dX7_chillOf_11 (by decide) (fun c1 => ?_) (fun c1 => ?_)
    · replace h := cb_T c1 h
      obtain rfl := Option.some.inj h
      exact cj_pick [0, 2, 4, 5] rfl (hexit _ _ rfl)
    · replace h := cb_F c1 h
      refine cj_aload_n hC dX7_chillOf_14 rfl 0 rfl ?_
      refine cj_iload hC dX7_chillOf_15 6 rfl ?_
      obtain ⟨M1, eM1, h⟩ := cb_l h
      refine cj_put hC fp_X7_73 cy_l0_ (cy_e0 g _) rfl (Nat.le_of_ble_eq_true rfl) eM1 dX7_chillOf_17 ?_
      refine cj_aload_n hC dX7_chillOf_20 rfl 0 rfl ?_
      obtain ⟨M2, e1, h⟩ := cb_b h
      refine cj_callVv (As := []) hC cv_X7_194 cy_l0_ (cy_e0 g _) rfl (c_X7_lives l g  M1 e1) (by decide) rfl rfl (Nat.le_of_ble_eq_true rfl) dX7_chillOf_21 ?_
      refine cj_aload_n hC dX7_chillOf_24 rfl 0 rfl ?_
      refine cj_get (v := .ref (g.2.1 16)) hC fa_X7_55 cy_l0_ (cy_e0 g _) rfl dX7_chillOf_25 ?_
      refine cj_iload_n hC dX7_chillOf_28 rfl 3 rfl ?_
      obtain ⟨i1, h⟩ := cb_g h
      refine cj_iald hC cy_l16_ (cy_e16 g _) (cy_t0 g) i1 dX7_chillOf_29 ?_
      refine cj_iconst (v := (-1)) hC dX7_chillOf_30 rfl ?_
      obtain ⟨y1, hx1, h⟩ := cb_b h
      have hj1 : cb_J cy g γ 11 M2 84 [(0, .ref (g.2.1 0)), (1, .int v1), (2, .int v2), (3, .int v3), (4, .int v4), (5, .long y1), (7, .int v7)] [] := by
        refine cj_iinc (lv' := [(7, .int (v7 + 1)), (0, .ref (g.2.1 0)), (1, .int v1), (2, .int v2), (3, .int v3), (4, .int v4), (5, .long y1)]) hC dX7_chillOf_84 (q := 6) rfl rfl (by decide) rfl ?_
        refine cj_goto (tgt := 6) hC dX7_chillOf_87 (by decide) ?_
        exact cj_pick [1, 2, 3, 4, 5, 6, 0] rfl (ih _ _ _ _ h hexit)
      refine cj_icmp_eq (tgt := 84) hC dX7_chillOf_31 (by decide) (fun c2 => ?_) (fun c2 => ?_)
      · replace hx1 := cb_T c2 hx1
        obtain rfl := Option.some.inj hx1
        exact cj_pick [0, 1, 2, 3, 4, 5, 6] rfl hj1
      · replace hx1 := cb_F c2 hx1
        refine cj_lconst (v := 1) hC dX7_chillOf_34 rfl ?_
        refine cj_lstore (lv' := [(8, .long 1), (0, .ref (g.2.1 0)), (1, .int v1), (2, .int v2), (3, .int v3), (4, .int v4), (5, .long v5), (7, .int v7)]) hC dX7_chillOf_35 (by decide) rfl ?_
        refine cj_iconst (v := 0) hC dX7_chillOf_37 rfl ?_
        refine cj_istore (lv' := [(10, .int 0), (8, .long 1), (0, .ref (g.2.1 0)), (1, .int v1), (2, .int v2), (3, .int v3), (4, .int v4), (5, .long v5), (7, .int v7)]) hC dX7_chillOf_38 (by decide) rfl ?_
        obtain ⟨y2, e2, hx1⟩ := cb_b hx1
        refine cj_pick [2, 3, 4, 5, 6, 7, 8, 1, 0] rfl ?_
        refine l_X7_chillOf_L40 hC v1 v2 v3 v4 v5 v7 M2 cb_fuel _ _ _ e2 (fun ze2 hz => ?_)
        obtain rfl := hz
        refine cj_lload hC dX7_chillOf_77 5 rfl ?_
        refine cj_lload hC dX7_chillOf_79 7 rfl ?_
        refine cj_ladd hC dX7_chillOf_81 ?_
        obtain ⟨y3, ey3, hx1⟩ := cb_l hx1
        refine cj_topl ey3 ?_
        refine cj_lstore (lv' := [(5, .long y3), (0, .ref (g.2.1 0)), (1, .int v1), (2, .int v2), (3, .int v3), (4, .int v4), (7, .int v7), (8, .long y2)]) hC dX7_chillOf_82 (by decide) rfl ?_
        obtain rfl := Option.some.inj hx1
        exact cj_pick [1, 2, 3, 4, 5, 0, 6] rfl hj1
set_option maxRecDepth 100000 in
set_option maxHeartbeats 4000000 in
theorem c_X7_chillOf (l : Launch) (g : cb_Geo) (p1 : Int32) (p2 : Int32) (p3 : Int32) (p4 : Int32) (M : cb_Mem) {rr : Int64} {Mr : cb_Mem} (h : f_X7_chillOf p1 p2 p3 p4 M = some (rr, Mr)) : Met l yX7_chillOf (.code yX7_chillOf cX7_chillOf 11 (some .long) :: cb_ws) (cb_rm 5) (cb_Pc cy g [.ref (g.2.1 0), .int p1, .int p2, .int p3, .int p4] M) (cb_Ql cy g rr Mr) 0 0 (cb_A cy g) := by
  refine cb_met (by decide) wd_1236 (Nat.le_of_ble_eq_true rfl) (fun γ hC => ?_)
  replace hC : cb_C cy g γ RX7 cX7_chillOf 11 (some .long) 5 l (cb_Ql cy g rr Mr) := hC
  show cb_J cy g γ 11 M 0 [(0, .ref (g.2.1 0)), (1, .int p1), (2, .int p2), (3, .int p3), (4, .int p4)] []
  unfold f_X7_chillOf at h
  refine cj_lconst (v := 0) hC dX7_chillOf_0 rfl ?_
  refine cj_lstore (lv' := [(5, .long 0), (0, .ref (g.2.1 0)), (1, .int p1), (2, .int p2), (3, .int p3), (4, .int p4)]) hC dX7_chillOf_1 (by decide) rfl ?_
  refine cj_iconst (v := 0) hC dX7_chillOf_3 rfl ?_
  refine cj_istore (lv' := [(7, .int 0), (5, .long 0), (0, .ref (g.2.1 0)), (1, .int p1), (2, .int p2), (3, .int p3), (4, .int p4)]) hC dX7_chillOf_4 (by decide) rfl ?_
  obtain ⟨y1, M1, e1, h⟩ := cb_b2 h
  refine cj_pick [2, 3, 4, 5, 6, 1, 0] rfl ?_
  refine l_X7_chillOf_L6 hC p1 p2 p3 p4 cb_fuel _ _ _ _ e1 (fun ze10 ze11 hz => ?_)
  obtain ⟨rfl, rfl⟩ := cb_p2 hz
  refine cj_aload_n hC dX7_chillOf_90 rfl 0 rfl ?_
  refine cj_iconst (v := (-1)) hC dX7_chillOf_91 rfl ?_
  obtain ⟨M2, eM2, h⟩ := cb_l h
  refine cj_put hC fp_X7_73 cy_l0_ (cy_e0 g _) rfl (Nat.le_of_ble_eq_true rfl) eM2 dX7_chillOf_92 ?_
  refine cj_lload hC dX7_chillOf_95 3 rfl ?_
  refine cj_lconst (v := 1) hC dX7_chillOf_97 rfl ?_
  refine cj_iconst (v := 4) hC dX7_chillOf_98 rfl ?_
  refine cj_iload_n hC dX7_chillOf_99 rfl 1 rfl ?_
  refine cj_iconst (v := 1) hC dX7_chillOf_100 rfl ?_
  refine cj_iadd hC dX7_chillOf_101 ?_
  refine cj_imul hC dX7_chillOf_102 ?_
  refine cj_lshl hC dX7_chillOf_103 ?_
  refine cj_iload hC dX7_chillOf_104 2 rfl ?_
  obtain ⟨y2, e2, h⟩ := cb_b h
  refine cj_callSl (As := [.long y1, .long ((1 : Int64) <<< ((4 * (p2 + 1)).toInt64 &&& 63)), .int p4]) hC cs_X7_262 (c_X7_part l g y1 ((1 : Int64) <<< ((4 * (p2 + 1)).toInt64 &&& 63)) p4 M2 e2) (by decide) rfl rfl (Nat.le_of_ble_eq_true rfl) dX7_chillOf_106 ?_
  obtain ⟨rfl, rfl⟩ := cb_i2 h
  exact cj_lret hC dX7_chillOf_109
def f_X7_chill (p1 : Int32) (p2 : Int32) (p3 : Int32) (p4 : Int32) (M : cb_Mem) : Option (Int64 × cb_Mem) :=
  (f_X7_find  M).bind fun M1 =>
  cb_let (f_X7_in p1.toInt64 0 16) fun x1 =>
  cb_let (fun (_ : Unit) =>
  cb_let (f_X7_no (-2)) fun y1 =>
  some (y1, M1)) fun k1 =>
  if x1 = 0 then
  k1 ()
  else
  cb_let (f_X7_in p2.toInt64 0 9) fun x2 =>
  if x2 = 0 then
  k1 ()
  else
  cb_let (f_X7_isCouple p3 M1) fun x3 =>
  if x3 = 0 then
  k1 ()
  else
  cb_let (f_X7_isTwo p4) fun x4 =>
  if x4 = 0 then
  k1 ()
  else
  cb_bind2 (f_X7_chillOf p1 p2 p3 p4 M1) fun y2 M2 =>
  some (y2, M2)
set_option maxRecDepth 100000 in
set_option maxHeartbeats 4000000 in
theorem c_X7_chill (l : Launch) (g : cb_Geo) (p1 : Int32) (p2 : Int32) (p3 : Int32) (p4 : Int32) (M : cb_Mem) {rr : Int64} {Mr : cb_Mem} (h : f_X7_chill p1 p2 p3 p4 M = some (rr, Mr)) : Met l yX7_chill (.code yX7_chill cX7_chill 5 (some .long) :: cb_ws) (cb_rm 6) (cb_Pc cy g [.ref (g.2.1 0), .int p1, .int p2, .int p3, .int p4] M) (cb_Ql cy g rr Mr) 0 0 (cb_A cy g) := by
  refine cb_met (by decide) wd_1230 (Nat.le_of_ble_eq_true rfl) (fun γ hC => ?_)
  replace hC : cb_C cy g γ RX7 cX7_chill 5 (some .long) 6 l (cb_Ql cy g rr Mr) := hC
  show cb_J cy g γ 5 M 0 [(0, .ref (g.2.1 0)), (1, .int p1), (2, .int p2), (3, .int p3), (4, .int p4)] []
  unfold f_X7_chill at h
  refine cj_aload_n hC dX7_chill_0 rfl 0 rfl ?_
  obtain ⟨M1, e1, h⟩ := cb_b h
  refine cj_callVv (As := []) hC cv_X7_200 cy_l0_ (cy_e0 g _) rfl (c_X7_find l g  M e1) (by decide) rfl rfl (Nat.le_of_ble_eq_true rfl) dX7_chill_1 ?_
  refine cj_iload_n hC dX7_chill_4 rfl 1 rfl ?_
  refine cj_i2l hC dX7_chill_5 ?_
  refine cj_lconst (v := 0) hC dX7_chill_6 rfl ?_
  refine cj_ldc2_w (v := 16) hC wd_1231 dX7_chill_7 ?_
  obtain ⟨x1, e2, h⟩ := cb_l h
  refine cj_callSi (As := [.long p1.toInt64, .long 0, .long 16]) hC cs_X7_79 (c_X7_in l g p1.toInt64 0 16 M1 e2.symm) (by decide) rfl rfl (Nat.le_of_ble_eq_true rfl) dX7_chill_10 ?_
  obtain ⟨k1, ek1, h⟩ := cb_l h
  have hk1 : ∀ (u9 : Unit), k1 u9 = some (rr, Mr) → cb_J cy g γ 5 M1 56 [] [] := by
    intro u9 h
    replace h := cb_k1 ek1 h
    refine cj_bipush (v := (-2)) hC dX7_chill_56 rfl ?_
    obtain ⟨y1, e3, h⟩ := cb_l h
    refine cj_callSl (As := [.int (-2)]) hC cs_X7_274 (c_X7_no l g (-2) M1 e3.symm) (by decide) rfl rfl (Nat.le_of_ble_eq_true rfl) dX7_chill_58 ?_
    obtain ⟨rfl, rfl⟩ := cb_i2 h
    exact cj_lret hC dX7_chill_61
  refine cj_if_eq (tgt := 56) hC dX7_chill_13 (by decide) (fun c1 => ?_) (fun c1 => ?_)
  · replace h := cb_T c1 h
    exact cj_pick [] rfl (hk1 _ h)
  · replace h := cb_F c1 h
    refine cj_iload_n hC dX7_chill_16 rfl 2 rfl ?_
    refine cj_i2l hC dX7_chill_17 ?_
    refine cj_lconst (v := 0) hC dX7_chill_18 rfl ?_
    refine cj_ldc2_w (v := 9) hC wd_1232 dX7_chill_19 ?_
    obtain ⟨x2, e4, h⟩ := cb_l h
    refine cj_callSi (As := [.long p2.toInt64, .long 0, .long 9]) hC cs_X7_79 (c_X7_in l g p2.toInt64 0 9 M1 e4.symm) (by decide) rfl rfl (Nat.le_of_ble_eq_true rfl) dX7_chill_22 ?_
    refine cj_if_eq (tgt := 56) hC dX7_chill_25 (by decide) (fun c2 => ?_) (fun c2 => ?_)
    · replace h := cb_T c2 h
      exact cj_pick [] rfl (hk1 _ h)
    · replace h := cb_F c2 h
      refine cj_aload_n hC dX7_chill_28 rfl 0 rfl ?_
      refine cj_iload_n hC dX7_chill_29 rfl 3 rfl ?_
      obtain ⟨x3, e5, h⟩ := cb_l h
      refine cj_callVi (As := [.int p3]) hC cv_X7_139 cy_l0_ (cy_e0 g _) rfl (c_X7_isCouple l g p3 M1 e5.symm) (by decide) rfl rfl (Nat.le_of_ble_eq_true rfl) dX7_chill_30 ?_
      refine cj_if_eq (tgt := 56) hC dX7_chill_33 (by decide) (fun c3 => ?_) (fun c3 => ?_)
      · replace h := cb_T c3 h
        exact cj_pick [] rfl (hk1 _ h)
      · replace h := cb_F c3 h
        refine cj_iload hC dX7_chill_36 4 rfl ?_
        obtain ⟨x4, e6, h⟩ := cb_l h
        refine cj_callSi (As := [.int p4]) hC cs_X7_107 (c_X7_isTwo l g p4 M1 e6.symm) (by decide) rfl rfl (Nat.le_of_ble_eq_true rfl) dX7_chill_38 ?_
        refine cj_if_eq (tgt := 56) hC dX7_chill_41 (by decide) (fun c4 => ?_) (fun c4 => ?_)
        · replace h := cb_T c4 h
          exact cj_pick [] rfl (hk1 _ h)
        · replace h := cb_F c4 h
          refine cj_aload_n hC dX7_chill_44 rfl 0 rfl ?_
          refine cj_iload_n hC dX7_chill_45 rfl 1 rfl ?_
          refine cj_iload_n hC dX7_chill_46 rfl 2 rfl ?_
          refine cj_iload_n hC dX7_chill_47 rfl 3 rfl ?_
          refine cj_iload hC dX7_chill_48 4 rfl ?_
          obtain ⟨y2, M2, e7, h⟩ := cb_b2 h
          refine cj_callVl (As := [.int p1, .int p2, .int p3, .int p4]) hC cv_X7_270 cy_l0_ (cy_e0 g _) rfl (c_X7_chillOf l g p1 p2 p3 p4 M1 e7) (by decide) rfl rfl (Nat.le_of_ble_eq_true rfl) dX7_chill_50 ?_
          refine cj_goto (tgt := 61) hC dX7_chill_53 (by decide) ?_
          obtain ⟨rfl, rfl⟩ := cb_i2 h
          exact cj_lret hC dX7_chill_61
def f_X7_lot (p1 : Int32) (M : cb_Mem) : Option (Int32 × cb_Mem) :=
  cb_let (cb_up M 0 30 ((1103515245 * (M 0 30)) + 12345)) fun M1 =>
  if p1 = 0 then none else
  some ((((M1 0 30).toUInt32 >>> ((16 : Int32).toUInt32 &&& Int32.toUInt32 31)).toInt32 - ((M1 0 30).toUInt32 >>> ((16 : Int32).toUInt32 &&& Int32.toUInt32 31)).toInt32 / p1 * p1), M1)
set_option maxRecDepth 100000 in
set_option maxHeartbeats 4000000 in
theorem c_X7_lot (l : Launch) (g : cb_Geo) (p1 : Int32) (M : cb_Mem) {rr : Int32} {Mr : cb_Mem} (h : f_X7_lot p1 M = some (rr, Mr)) : Met l yX7_lot (.code yX7_lot cX7_lot 2 (some .int) :: cb_ws) (cb_rm 0) (cb_Pc cy g [.ref (g.2.1 0), .int p1] M) (cb_Qi cy g rr Mr) 0 0 (cb_A cy g) := by
  refine cb_met (by decide) wd_1255 (Nat.le_of_ble_eq_true rfl) (fun γ hC => ?_)
  replace hC : cb_C cy g γ RX7 cX7_lot 2 (some .int) 0 l (cb_Qi cy g rr Mr) := hC
  show cb_J cy g γ 2 M 0 [(0, .ref (g.2.1 0)), (1, .int p1)] []
  unfold f_X7_lot at h
  refine cj_aload_n hC dX7_lot_0 rfl 0 rfl ?_
  refine cj_ldc_w (v := 1103515245) hC wd_1256 dX7_lot_1 ?_
  refine cj_aload_n hC dX7_lot_4 rfl 0 rfl ?_
  refine cj_get (v := .int (M 0 30)) hC fa_X7_279 cy_l0_ (cy_e0 g _) rfl dX7_lot_5 ?_
  refine cj_imul hC dX7_lot_8 ?_
  refine cj_sipush (v := 12345) hC dX7_lot_9 rfl ?_
  refine cj_iadd hC dX7_lot_12 ?_
  obtain ⟨M1, eM1, h⟩ := cb_l h
  refine cj_put hC fp_X7_279 cy_l0_ (cy_e0 g _) rfl (Nat.le_of_ble_eq_true rfl) eM1 dX7_lot_13 ?_
  refine cj_aload_n hC dX7_lot_16 rfl 0 rfl ?_
  refine cj_get (v := .int (M1 0 30)) hC fa_X7_279 cy_l0_ (cy_e0 g _) rfl dX7_lot_17 ?_
  refine cj_bipush (v := 16) hC dX7_lot_20 rfl ?_
  refine cj_iushr hC dX7_lot_22 ?_
  refine cj_iload_n hC dX7_lot_23 rfl 1 rfl ?_
  obtain ⟨z1, h⟩ := cb_gn h
  refine cj_irem hC dX7_lot_24 z1 ?_
  obtain ⟨rfl, rfl⟩ := cb_i2 h
  exact cj_iret hC dX7_lot_25
def f_X7_yearOf_L7 : Nat → Int32 → Int32 → cb_Mem → Option (cb_Mem)
    | 0, _, _, _ => none
    | n + 1, v2, v3, M =>
      if (M 0 7) ≤ v3 then
      some M
      else
      cb_bind2 (f_X7_lot 30 M) fun x1 M1 =>
      if cb_in ((2 * v3) + 1) 16 = true then
      cb_let (cb_up M1 7 ((2 * v3) + 1).toNatClampNeg x1) fun M2 =>
      f_X7_yearOf_L7 n v2 (v3 + 1) M2
      else none
def f_X7_yearOf (p1 : Int32) (p2 : Int32) (M : cb_Mem) : Option (Int32 × cb_Mem) :=
  cb_let (cb_up M 0 30 p1) fun M1 =>
  (f_X7_yearOf_L7 cb_fuel p2 0 M1).bind fun M2 =>
  (f_X7_lives  M2).bind fun M3 =>
  cb_bind2 (f_X7_readsHeads  M3) fun x1 M4 =>
  if p2 = 0 then
  (f_X7_childrenBy 39 M4).bind fun x4 =>
  some (x4, M4)
  else
  (f_X7_withoutNow  M4).bind fun x2 =>
  (f_X7_ones x2).bind fun x3 =>
  some (x3, M4)
set_option maxRecDepth 100000 in
set_option maxHeartbeats 4000000 in
theorem l_X7_yearOf_L7 {l : Launch} {g : cb_Geo} {γ : cb_Gam} {rr : Int32} {Mr : cb_Mem} (hC : cb_C cy g γ RX7 cX7_yearOf 4 (some .int) 5 l (cb_Qi cy g rr Mr)) (v2 : Int32) : ∀ (n : Nat) (v3 : Int32) (M : cb_Mem) (o : (cb_Mem)), f_X7_yearOf_L7 n v2 v3 M = some o → (∀ (M' : cb_Mem), o = M' → cb_J cy g γ 4 M' 37 [(0, .ref (g.2.1 0)), (2, .int v2)] []) → cb_J cy g γ 4 M 7 [(0, .ref (g.2.1 0)), (2, .int v2), (3, .int v3)] [] := by
  intro n
  induction n with
  | zero =>
    intro v3 M o h
    cases h
  | succ n ih =>
    intro v3 M o h hexit
    unfold f_X7_yearOf_L7 at h
    refine cj_iload_n hC dX7_yearOf_7 rfl 2 rfl ?_
    refine cj_aload_n hC dX7_yearOf_8 rfl 0 rfl ?_
    refine cj_get (v := .int (M 0 7)) hC fa_X7_118 cy_l0_ (cy_e0 g _) rfl dX7_yearOf_9 ?_
    refine cj_icmp_ge (tgt := 37) hC dX7_yearOf_12 (by decide) (fun c1 => ?_) (fun c1 => ?_)
    · replace h := cb_T c1 h
      obtain rfl := Option.some.inj h
      exact cj_pick [0, 1] rfl (hexit _ rfl)
    · replace h := cb_F c1 h
      refine cj_aload_n hC dX7_yearOf_15 rfl 0 rfl ?_
      refine cj_get (v := .ref (g.2.1 7)) hC fa_X7_28 cy_l0_ (cy_e0 g _) rfl dX7_yearOf_16 ?_
      refine cj_iconst (v := 2) hC dX7_yearOf_19 rfl ?_
      refine cj_iload_n hC dX7_yearOf_20 rfl 2 rfl ?_
      refine cj_imul hC dX7_yearOf_21 ?_
      refine cj_iconst (v := 1) hC dX7_yearOf_22 rfl ?_
      refine cj_iadd hC dX7_yearOf_23 ?_
      refine cj_aload_n hC dX7_yearOf_24 rfl 0 rfl ?_
      refine cj_bipush (v := 30) hC dX7_yearOf_25 rfl ?_
      obtain ⟨x1, M1, e1, h⟩ := cb_b2 h
      refine cj_callVi (As := [.int 30]) hC cv_X7_282 cy_l0_ (cy_e0 g _) rfl (c_X7_lot l g 30 M e1) (by decide) rfl rfl (Nat.le_of_ble_eq_true rfl) dX7_yearOf_27 ?_
      obtain ⟨i1, h⟩ := cb_g h
      obtain ⟨M2, eM2, h⟩ := cb_l h
      refine cj_iast hC cy_l7_ (cy_e7 g) (cy_t0 g) i1 eM2 dX7_yearOf_30 ?_
      refine cj_iinc (lv' := [(3, .int (v3 + 1)), (0, .ref (g.2.1 0)), (2, .int v2)]) hC dX7_yearOf_31 (q := 2) rfl rfl (by decide) rfl ?_
      refine cj_goto (tgt := 7) hC dX7_yearOf_34 (by decide) ?_
      exact cj_pick [1, 2, 0] rfl (ih _ _ _ h hexit)
set_option maxRecDepth 100000 in
set_option maxHeartbeats 4000000 in
theorem c_X7_yearOf (l : Launch) (g : cb_Geo) (p1 : Int32) (p2 : Int32) (M : cb_Mem) {rr : Int32} {Mr : cb_Mem} (h : f_X7_yearOf p1 p2 M = some (rr, Mr)) : Met l yX7_yearOf (.code yX7_yearOf cX7_yearOf 4 (some .int) :: cb_ws) (cb_rm 5) (cb_Pc cy g [.ref (g.2.1 0), .int p1, .int p2] M) (cb_Qi cy g rr Mr) 0 0 (cb_A cy g) := by
  refine cb_met (by decide) wd_1251 (Nat.le_of_ble_eq_true rfl) (fun γ hC => ?_)
  replace hC : cb_C cy g γ RX7 cX7_yearOf 4 (some .int) 5 l (cb_Qi cy g rr Mr) := hC
  show cb_J cy g γ 4 M 0 [(0, .ref (g.2.1 0)), (1, .int p1), (2, .int p2)] []
  unfold f_X7_yearOf at h
  refine cj_aload_n hC dX7_yearOf_0 rfl 0 rfl ?_
  refine cj_iload_n hC dX7_yearOf_1 rfl 1 rfl ?_
  obtain ⟨M1, eM1, h⟩ := cb_l h
  refine cj_put hC fp_X7_279 cy_l0_ (cy_e0 g _) rfl (Nat.le_of_ble_eq_true rfl) eM1 dX7_yearOf_2 ?_
  refine cj_iconst (v := 0) hC dX7_yearOf_5 rfl ?_
  refine cj_istore_n (lv' := [(3, .int 0), (0, .ref (g.2.1 0)), (1, .int p1), (2, .int p2)]) hC dX7_yearOf_6 rfl (by decide) rfl ?_
  obtain ⟨M2, e1, h⟩ := cb_b h
  refine cj_pick [1, 3, 0] rfl ?_
  refine l_X7_yearOf_L7 hC p2 cb_fuel _ _ _ e1 (fun ze1 hz => ?_)
  obtain rfl := hz
  refine cj_aload_n hC dX7_yearOf_37 rfl 0 rfl ?_
  obtain ⟨M3, e2, h⟩ := cb_b h
  refine cj_callVv (As := []) hC cv_X7_194 cy_l0_ (cy_e0 g _) rfl (c_X7_lives l g  M2 e2) (by decide) rfl rfl (Nat.le_of_ble_eq_true rfl) dX7_yearOf_38 ?_
  refine cj_aload_n hC dX7_yearOf_41 rfl 0 rfl ?_
  obtain ⟨x1, M4, e3, h⟩ := cb_b2 h
  refine cj_callVi (As := []) hC cv_X7_127 cy_l0_ (cy_e0 g _) rfl (c_X7_readsHeads l g  M3 e3) (by decide) rfl rfl (Nat.le_of_ble_eq_true rfl) dX7_yearOf_42 ?_
  refine cj_pop hC dX7_yearOf_45 rfl ?_
  refine cj_iload_n hC dX7_yearOf_46 rfl 1 rfl ?_
  refine cj_if_ne (tgt := 59) hC dX7_yearOf_47 (by decide) (fun c1 => ?_) (fun c1 => ?_)
  · replace h := cb_F c1 h
    refine cj_aload_n hC dX7_yearOf_59 rfl 0 rfl ?_
    obtain ⟨x2, e4, h⟩ := cb_b h
    refine cj_callVi (As := []) hC cv_X7_215 cy_l0_ (cy_e0 g _) rfl (c_X7_withoutNow l g  M4 e4) (by decide) rfl rfl (Nat.le_of_ble_eq_true rfl) dX7_yearOf_60 ?_
    obtain ⟨x3, e5, h⟩ := cb_b h
    refine cj_callSi (As := [.int x2]) hC cs_X7_235 (c_X7_ones l g x2 M4 e5) (by decide) rfl rfl (Nat.le_of_ble_eq_true rfl) dX7_yearOf_63 ?_
    obtain ⟨rfl, rfl⟩ := cb_i2 h
    exact cj_iret hC dX7_yearOf_66
  · replace h := cb_T c1 h
    refine cj_aload_n hC dX7_yearOf_50 rfl 0 rfl ?_
    refine cj_bipush (v := 39) hC dX7_yearOf_51 rfl ?_
    obtain ⟨x4, e6, h⟩ := cb_b h
    refine cj_callVi (As := [.int 39]) hC cv_X7_212 cy_l0_ (cy_e0 g _) rfl (c_X7_childrenBy l g 39 M4 e6) (by decide) rfl rfl (Nat.le_of_ble_eq_true rfl) dX7_yearOf_53 ?_
    refine cj_goto (tgt := 66) hC dX7_yearOf_56 (by decide) ?_
    obtain ⟨rfl, rfl⟩ := cb_i2 h
    exact cj_iret hC dX7_yearOf_66
def f_X7_year (p1 : Int32) (p2 : Int32) (M : cb_Mem) : Option (Int32 × cb_Mem) :=
  (f_X7_find  M).bind fun M1 =>
  cb_let (f_X7_isTwo p2) fun x1 =>
  if x1 = 0 then
  some (((-2) : Int32), M1)
  else
  cb_bind2 (f_X7_yearOf p1 p2 M1) fun x2 M2 =>
  some (x2, M2)
set_option maxRecDepth 100000 in
set_option maxHeartbeats 4000000 in
theorem c_X7_year (l : Launch) (g : cb_Geo) (p1 : Int32) (p2 : Int32) (M : cb_Mem) {rr : Int32} {Mr : cb_Mem} (h : f_X7_year p1 p2 M = some (rr, Mr)) : Met l yX7_year (.code yX7_year cX7_year 3 (some .int) :: cb_ws) (cb_rm 6) (cb_Pc cy g [.ref (g.2.1 0), .int p1, .int p2] M) (cb_Qi cy g rr Mr) 0 0 (cb_A cy g) := by
  refine cb_met (by decide) wd_1247 (Nat.le_of_ble_eq_true rfl) (fun γ hC => ?_)
  replace hC : cb_C cy g γ RX7 cX7_year 3 (some .int) 6 l (cb_Qi cy g rr Mr) := hC
  show cb_J cy g γ 3 M 0 [(0, .ref (g.2.1 0)), (1, .int p1), (2, .int p2)] []
  unfold f_X7_year at h
  refine cj_aload_n hC dX7_year_0 rfl 0 rfl ?_
  obtain ⟨M1, e1, h⟩ := cb_b h
  refine cj_callVv (As := []) hC cv_X7_200 cy_l0_ (cy_e0 g _) rfl (c_X7_find l g  M e1) (by decide) rfl rfl (Nat.le_of_ble_eq_true rfl) dX7_year_1 ?_
  refine cj_iload_n hC dX7_year_4 rfl 2 rfl ?_
  obtain ⟨x1, e2, h⟩ := cb_l h
  refine cj_callSi (As := [.int p2]) hC cs_X7_107 (c_X7_isTwo l g p2 M1 e2.symm) (by decide) rfl rfl (Nat.le_of_ble_eq_true rfl) dX7_year_5 ?_
  refine cj_if_eq (tgt := 20) hC dX7_year_8 (by decide) (fun c1 => ?_) (fun c1 => ?_)
  · replace h := cb_T c1 h
    refine cj_bipush (v := (-2)) hC dX7_year_20 rfl ?_
    obtain ⟨rfl, rfl⟩ := cb_i2 h
    exact cj_iret hC dX7_year_22
  · replace h := cb_F c1 h
    refine cj_aload_n hC dX7_year_11 rfl 0 rfl ?_
    refine cj_iload_n hC dX7_year_12 rfl 1 rfl ?_
    refine cj_iload_n hC dX7_year_13 rfl 2 rfl ?_
    obtain ⟨x2, M2, e3, h⟩ := cb_b2 h
    refine cj_callVi (As := [.int p1, .int p2]) hC cv_X7_285 cy_l0_ (cy_e0 g _) rfl (c_X7_yearOf l g p1 p2 M1 e3) (by decide) rfl rfl (Nat.le_of_ble_eq_true rfl) dX7_year_14 ?_
    refine cj_goto (tgt := 22) hC dX7_year_17 (by decide) ?_
    obtain ⟨rfl, rfl⟩ := cb_i2 h
    exact cj_iret hC dX7_year_22
def f_X7_write_L53 : Nat → Int32 → Int32 → Int32 → Int32 → cb_Mem → Option (cb_Mem)
    | 0, _, _, _, _, _ => none
    | n + 1, v1, v2, v3, v4, M =>
      if v3 ≤ v4 then
      some M
      else
      if cb_in v2 4 = true then
      (f_X7_stateOf v1 v4 M).bind fun x1 =>
      cb_let (f_X7_cut (M 1 v2.toNatClampNeg) x1) fun x2 =>
      if cb_in ((60 * v2) + v4) 240 = true then
      cb_let (cb_up M 3 ((60 * v2) + v4).toNatClampNeg x2) fun M1 =>
      f_X7_write_L53 n v1 v2 v3 (v4 + 1) M1
      else none
      else none
def f_X7_write (p1 : Int32) (p2 : Int32) (M : cb_Mem) : Option (Int32 × cb_Mem) :=
  cb_let (f_X7_isDay p1) fun x1 =>
  if x1 = 0 then
  some (((-2) : Int32), M)
  else
  cb_let (f_X7_isSheet p2) fun x2 =>
  if x2 = 0 then
  some (((-2) : Int32), M)
  else
  if cb_in p2 4 = true then
  if 0 ≤ (M 1 p2.toNatClampNeg) then
  (f_X7_find  M).bind fun M1 =>
  if cb_in p2 4 = true then
  cb_let (f_X7_lesser (M1 2 p2.toNatClampNeg) (M1 0 7)) fun x3 =>
  (f_X7_write_L53 cb_fuel p1 p2 x3 0 M1).bind fun M2 =>
  some (x3, M2)
  else none
  else
  cb_let2 (f_X7_finds 1 M) fun x4 M3 =>
  some (x4, M3)
  else none
set_option maxRecDepth 100000 in
set_option maxHeartbeats 4000000 in
theorem l_X7_write_L53 {l : Launch} {g : cb_Geo} {γ : cb_Gam} {rr : Int32} {Mr : cb_Mem} (hC : cb_C cy g γ RX7 cX7_write 5 (some .int) 6 l (cb_Qi cy g rr Mr)) (v1 : Int32) (v2 : Int32) (v3 : Int32) : ∀ (n : Nat) (v4 : Int32) (M : cb_Mem) (o : (cb_Mem)), f_X7_write_L53 n v1 v2 v3 v4 M = some o → (∀ (M' : cb_Mem), o = M' → cb_J cy g γ 5 M' 93 [(3, .int v3)] []) → cb_J cy g γ 5 M 53 [(0, .ref (g.2.1 0)), (1, .int v1), (2, .int v2), (3, .int v3), (4, .int v4)] [] := by
  intro n
  induction n with
  | zero =>
    intro v4 M o h
    cases h
  | succ n ih =>
    intro v4 M o h hexit
    unfold f_X7_write_L53 at h
    refine cj_iload hC dX7_write_53 4 rfl ?_
    refine cj_iload_n hC dX7_write_55 rfl 3 rfl ?_
    refine cj_icmp_ge (tgt := 93) hC dX7_write_56 (by decide) (fun c1 => ?_) (fun c1 => ?_)
    · replace h := cb_T c1 h
      obtain rfl := Option.some.inj h
      exact cj_pick [3] rfl (hexit _ rfl)
    · replace h := cb_F c1 h
      refine cj_aload_n hC dX7_write_59 rfl 0 rfl ?_
      refine cj_get (v := .ref (g.2.1 3)) hC fa_X7_16 cy_l0_ (cy_e0 g _) rfl dX7_write_60 ?_
      refine cj_bipush (v := 60) hC dX7_write_63 rfl ?_
      refine cj_iload_n hC dX7_write_65 rfl 2 rfl ?_
      refine cj_imul hC dX7_write_66 ?_
      refine cj_iload hC dX7_write_67 4 rfl ?_
      refine cj_iadd hC dX7_write_69 ?_
      refine cj_aload_n hC dX7_write_70 rfl 0 rfl ?_
      refine cj_get (v := .ref (g.2.1 1)) hC fa_X7_7 cy_l0_ (cy_e0 g _) rfl dX7_write_71 ?_
      refine cj_iload_n hC dX7_write_74 rfl 2 rfl ?_
      obtain ⟨i1, h⟩ := cb_g h
      refine cj_iald hC cy_l1_ (cy_e1 g _) (cy_t0 g) i1 dX7_write_75 ?_
      refine cj_aload_n hC dX7_write_76 rfl 0 rfl ?_
      refine cj_iload_n hC dX7_write_77 rfl 1 rfl ?_
      refine cj_iload hC dX7_write_78 4 rfl ?_
      obtain ⟨x1, e1, h⟩ := cb_b h
      refine cj_callVi (As := [.int v1, .int v4]) hC cv_X7_203 cy_l0_ (cy_e0 g _) rfl (c_X7_stateOf l g v1 v4 M e1) (by decide) rfl rfl (Nat.le_of_ble_eq_true rfl) dX7_write_80 ?_
      obtain ⟨x2, e2, h⟩ := cb_l h
      refine cj_callSi (As := [.int (M 1 v2.toNatClampNeg), .int x1]) hC cs_X7_102 (c_X7_cut l g (M 1 v2.toNatClampNeg) x1 M e2.symm) (by decide) rfl rfl (Nat.le_of_ble_eq_true rfl) dX7_write_83 ?_
      obtain ⟨i2, h⟩ := cb_g h
      obtain ⟨M1, eM1, h⟩ := cb_l h
      refine cj_iast hC cy_l3_ (cy_e3 g) (cy_t0 g) i2 eM1 dX7_write_86 ?_
      refine cj_iinc (lv' := [(4, .int (v4 + 1)), (0, .ref (g.2.1 0)), (1, .int v1), (2, .int v2), (3, .int v3)]) hC dX7_write_87 (q := 4) rfl rfl (by decide) rfl ?_
      refine cj_goto (tgt := 53) hC dX7_write_90 (by decide) ?_
      exact cj_pick [1, 2, 3, 4, 0] rfl (ih _ _ _ h hexit)
set_option maxRecDepth 100000 in
set_option maxHeartbeats 4000000 in
theorem c_X7_write (l : Launch) (g : cb_Geo) (p1 : Int32) (p2 : Int32) (M : cb_Mem) {rr : Int32} {Mr : cb_Mem} (h : f_X7_write p1 p2 M = some (rr, Mr)) : Met l yX7_write (.code yX7_write cX7_write 5 (some .int) :: cb_ws) (cb_rm 6) (cb_Pc cy g [.ref (g.2.1 0), .int p1, .int p2] M) (cb_Qi cy g rr Mr) 0 0 (cb_A cy g) := by
  refine cb_met (by decide) wd_1260 (Nat.le_of_ble_eq_true rfl) (fun γ hC => ?_)
  replace hC : cb_C cy g γ RX7 cX7_write 5 (some .int) 6 l (cb_Qi cy g rr Mr) := hC
  show cb_J cy g γ 5 M 0 [(0, .ref (g.2.1 0)), (1, .int p1), (2, .int p2)] []
  unfold f_X7_write at h
  refine cj_iload_n hC dX7_write_0 rfl 1 rfl ?_
  obtain ⟨x1, e1, h⟩ := cb_l h
  refine cj_callSi (As := [.int p1]) hC cs_X7_144 (c_X7_isDay l g p1 M e1.symm) (by decide) rfl rfl (Nat.le_of_ble_eq_true rfl) dX7_write_1 ?_
  refine cj_if_eq (tgt := 14) hC dX7_write_4 (by decide) (fun c1 => ?_) (fun c1 => ?_)
  · replace h := cb_T c1 h
    refine cj_bipush (v := (-2)) hC dX7_write_14 rfl ?_
    obtain ⟨rfl, rfl⟩ := cb_i2 h
    exact cj_iret hC dX7_write_16
  · replace h := cb_F c1 h
    refine cj_iload_n hC dX7_write_7 rfl 2 rfl ?_
    obtain ⟨x2, e2, h⟩ := cb_l h
    refine cj_callSi (As := [.int p2]) hC cs_X7_88 (c_X7_isSheet l g p2 M e2.symm) (by decide) rfl rfl (Nat.le_of_ble_eq_true rfl) dX7_write_8 ?_
    refine cj_if_ne (tgt := 17) hC dX7_write_11 (by decide) (fun c2 => ?_) (fun c2 => ?_)
    · replace h := cb_F c2 h
      refine cj_aload_n hC dX7_write_17 rfl 0 rfl ?_
      refine cj_get (v := .ref (g.2.1 1)) hC fa_X7_7 cy_l0_ (cy_e0 g _) rfl dX7_write_18 ?_
      refine cj_iload_n hC dX7_write_21 rfl 2 rfl ?_
      obtain ⟨i1, h⟩ := cb_g h
      refine cj_iald hC cy_l1_ (cy_e1 g _) (cy_t0 g) i1 dX7_write_22 ?_
      refine cj_if_ge (tgt := 32) hC dX7_write_23 (by decide) (fun c3 => ?_) (fun c3 => ?_)
      · replace h := cb_T c3 h
        refine cj_aload_n hC dX7_write_32 rfl 0 rfl ?_
        obtain ⟨M1, e3, h⟩ := cb_b h
        refine cj_callVv (As := []) hC cv_X7_200 cy_l0_ (cy_e0 g _) rfl (c_X7_find l g  M e3) (by decide) rfl rfl (Nat.le_of_ble_eq_true rfl) dX7_write_33 ?_
        refine cj_aload_n hC dX7_write_36 rfl 0 rfl ?_
        refine cj_get (v := .ref (g.2.1 2)) hC fa_X7_13 cy_l0_ (cy_e0 g _) rfl dX7_write_37 ?_
        refine cj_iload_n hC dX7_write_40 rfl 2 rfl ?_
        obtain ⟨i2, h⟩ := cb_g h
        refine cj_iald hC cy_l2_ (cy_e2 g _) (cy_t0 g) i2 dX7_write_41 ?_
        refine cj_aload_n hC dX7_write_42 rfl 0 rfl ?_
        refine cj_get (v := .int (M1 0 7)) hC fa_X7_118 cy_l0_ (cy_e0 g _) rfl dX7_write_43 ?_
        obtain ⟨x3, e4, h⟩ := cb_l h
        refine cj_callSi (As := [.int (M1 2 p2.toNatClampNeg), .int (M1 0 7)]) hC cs_X7_288 (c_X7_lesser l g (M1 2 p2.toNatClampNeg) (M1 0 7) M1 e4.symm) (by decide) rfl rfl (Nat.le_of_ble_eq_true rfl) dX7_write_46 ?_
        refine cj_istore_n (lv' := [(3, .int x3), (0, .ref (g.2.1 0)), (1, .int p1), (2, .int p2)]) hC dX7_write_49 rfl (by decide) rfl ?_
        refine cj_iconst (v := 0) hC dX7_write_50 rfl ?_
        refine cj_istore (lv' := [(4, .int 0), (3, .int x3), (0, .ref (g.2.1 0)), (1, .int p1), (2, .int p2)]) hC dX7_write_51 (by decide) rfl ?_
        obtain ⟨M2, e5, h⟩ := cb_b h
        refine cj_pick [2, 3, 4, 1, 0] rfl ?_
        refine l_X7_write_L53 hC p1 p2 x3 cb_fuel _ _ _ e5 (fun ze5 hz => ?_)
        obtain rfl := hz
        refine cj_iload_n hC dX7_write_93 rfl 0 rfl ?_
        obtain ⟨rfl, rfl⟩ := cb_i2 h
        exact cj_iret hC dX7_write_94
      · replace h := cb_F c3 h
        refine cj_aload_n hC dX7_write_26 rfl 0 rfl ?_
        refine cj_iconst (v := 1) hC dX7_write_27 rfl ?_
        obtain ⟨x4, M3, e6, h⟩ := cb_l2 h
        refine cj_callVi (As := [.int 1]) hC cv_X7_94 cy_l0_ (cy_e0 g _) rfl (c_X7_finds l g 1 M e6.symm) (by decide) rfl rfl (Nat.le_of_ble_eq_true rfl) dX7_write_28 ?_
        obtain ⟨rfl, rfl⟩ := cb_i2 h
        exact cj_iret hC dX7_write_31
    · replace h := cb_T c2 h
      refine cj_bipush (v := (-2)) hC dX7_write_14 rfl ?_
      obtain ⟨rfl, rfl⟩ := cb_i2 h
      exact cj_iret hC dX7_write_16
