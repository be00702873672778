set_option maxRecDepth 100000 in
set_option maxHeartbeats 8000000 in
theorem whole_open {p : Program} {e : Env} {s : State} {m : MethodId} {below : List Frame} {meth : Method} {c : Code} (l : Launch) {b L : Nat} {xs : Nat → Int32} {Rel : cb_Mem → cb_Mem → Prop} (SA : cs_all Rel) (R0 : Rel cx_M0 cy_M0) (hL : L ≤ 3072) (C0 : lw_At p s m meth c b L xs) : W p l e room_1 s m #[Value.ref b] below meth c s.heap [] 0 0 (lw_Z below #[Value.ref b] s) (entryFrame m ([Value.ref b] : List Value).toArray 4) := by
  obtain ⟨hx, hb, hr, hml, hown, hts, hX, hbl, hlocks, hgv⟩ := id C0
  have htw : ∀ x ∈ cb_ws, x.before #[Value.ref b] s = true := fun x h => hts x (List.mem_filter.mp h).1
  have hA : ∀ q : Nat, s.heap.size ≤ q → cl_A s q := fun _ h => h
  have hA0 : ∀ a : Nat, a < s.heap.size → ¬ cl_A s a := fun a h1 h2 => absurd h2 (Nat.not_le.mpr h1)
  have hN : ∀ x ∈ cb_nest, va_Nw x s := fun x hx => by
    have h := hts x (List.mem_filter.mp hx).1
    rcases cb_nest_kind hx with ⟨_, _, _, _, rfl⟩ | ⟨_, _, _, _, _, _, rfl⟩
    · exact va_Nw.of rfl h
    · exact va_Nw.of rfl h
  obtain ⟨c0, i0, k0⟩ := u_known (C := RX0) (T := TX0) (N := 2) (n := 2) htw wi_X0 (htw _ wd_267)
  obtain ⟨c1, i1, k1⟩ := u_known (C := RX1) (T := TX1) (N := 9) (n := 9) htw wi_X1 (htw _ wd_178)
  obtain ⟨c2, i2, k2⟩ := u_known (C := RX2) (T := TX2) (N := 2) (n := 2) htw wi_X2 (htw _ wd_99)
  obtain ⟨c3, i3, k3⟩ := u_known (C := RX3) (T := TX3) (N := 3) (n := 3) htw wi_X3 (htw _ wd_159)
  obtain ⟨c4, i4, k4⟩ := u_known (C := RX4) (T := TX4) (N := 8) (n := 8) htw wi_X4 (htw _ wd_92)
  obtain ⟨c5, i5, k5⟩ := u_known (C := RX5) (T := TX5) (N := 10) (n := 10) htw wi_X5 (htw _ wd_225)
  obtain ⟨c6, i6, k6⟩ := u_known (C := RX6) (T := TX6) (N := 11) (n := 11) htw wi_X6 (htw _ wd_83)
  obtain ⟨c7, i7, k7⟩ := u_known (C := RX7) (T := TX7) (N := 31) (n := 31) htw wi_X7 (htw _ wd_838)
  obtain ⟨dC, dI, hKc⟩ : ∃ (dC : Nat → ClassId) (dI : Nat → Nat → Nat), ∀ (k : Nat) (q : vw_C), vwCl[k]? = some q → u_Kn s q.1 q.2.1 q.2.2 (dC k) (dI k) := by
    refine ⟨fun k => [c0, c1, c2, c3, c4, c5, c6, c7].getD k 0, fun k => [i0, i1, i2, i3, i4, i5, i6, i7].getD k (fun _ => 0), ?_⟩
    intro k q hq
    match k, hq with
    | 0, hq => cases hq; exact k0
    | 1, hq => cases hq; exact k1
    | 2, hq => cases hq; exact k2
    | 3, hq => cases hq; exact k3
    | 4, hq => cases hq; exact k4
    | 5, hq => cases hq; exact k5
    | 6, hq => cases hq; exact k6
    | 7, hq => cases hq; exact k7
    | k + 8, hq => simp [vwCl] at hq
  obtain ⟨cI, kI, mI, fI, gI, qI⟩ := Cond.arrayClass_spec (htw _ wd_118)
  have hO1 : va_AO "CabbageCradles$Text" s := va_AO.of (hts _ (cb_t1 _ (List.mem_of_getElem? (i := 27) rfl)))
  have hO2 : va_AO "CabbageCradles$Sheet" s := va_AO.of (hts _ (cb_t1 _ (List.mem_of_getElem? (i := 94) rfl)))
  have hO3 : va_AOA .int s := va_AOA.of (hts _ (cb_t1 _ (List.mem_of_getElem? (i := 209) rfl)))
  obtain ⟨mT, cT, kT, fT, -, gT, qT, nT⟩ := Cond.arrayOver_spec hO1
  obtain ⟨mS, cS, kS, fS, -, gS, qS, nS⟩ := Cond.arrayOver_spec hO2
  obtain ⟨mII, cII, kII, -, -, gII, qII, nII⟩ := cb_over.mp hO3
  have hK : va_K (dC, dI) vwCl [(cI, .int), (cT, .object "CabbageCradles$Text"), (cS, .object "CabbageCradles$Sheet"), (cII, .array .int)] s := by
    refine ⟨hKc, fun k q h => ?_⟩
    match k, h with
    | 0, h => cases h; exact ⟨fun n z => ⟨fun k h => (by cases h), kI, gI, mI, qI⟩, fI⟩
    | 1, h => cases h; exact ⟨fun n z => ⟨fun k h => (by cases h), kT, gT, mT, qT⟩, kT, mT, gT, qT, fT, nT⟩
    | 2, h => cases h; exact ⟨fun n z => ⟨fun k h => (by cases h), kS, gS, mS, qS⟩, kS, mS, gS, qS, fS, nS⟩
    | 3, h => cases h; exact ⟨fun n z => ⟨fun k h => (by cases h), kII, gII, mII, qII⟩, nII⟩
    | k + 4, h => simp at h
  have hs := flat_of_before _ hgv
  obtain ⟨adK, adV, hVS, hVE⟩ := vk_Sof (args := #[Value.ref b]) (s := s) (N := 2) (tm := fun i => .string "CabbageCradles" ([9, 14].getD i 0)) (len := [3, 4]) (byt := cb_byt) (A := cl_A s) (by decide) (fun i hi => cx_two (P := fun i => (Cond.exactly (.string "CabbageCradles" ([9, 14].getD i 0)) "java/lang/String").before #[Value.ref b] s = true) hi (hs _ (by decide +kernel)) (hs _ (by decide +kernel))) (fun i hi => cx_two (P := fun i => (Cond.eq (.field (.string "CabbageCradles" ([9, 14].getD i 0)) "java/lang/String" "coder" "B") (.int 0)).before #[Value.ref b] s = true) hi (hs _ (by decide +kernel)) (hs _ (by decide +kernel))) (fun i hi => cx_two (P := fun i => (Cond.arrayOf (.field (.string "CabbageCradles" ([9, 14].getD i 0)) "java/lang/String" "value" "[B") .byte).before #[Value.ref b] s = true) hi (hs _ (by decide +kernel)) (hs _ (by decide +kernel))) (fun i hi => cx_two (P := fun i => (Cond.eq (.length (.field (.string "CabbageCradles" ([9, 14].getD i 0)) "java/lang/String" "value" "[B")) (.int (Int32.ofNat (([3, 4] : List Nat).getD i 0)))).before #[Value.ref b] s = true) hi (hs _ (by decide +kernel)) (hs _ (by decide +kernel))) (fun i hi => cx_two (P := fun i => ∀ j : Nat, j < ([3, 4] : List Nat).getD i 0 → (Cond.eq (.elem (.field (.string "CabbageCradles" ([9, 14].getD i 0)) "java/lang/String" "value" "[B") (.int (Int32.ofNat j))) (.int ((cb_byt.getD i []).getD j 0))).before #[Value.ref b] s = true) hi (fun j hj => hs _ ((show ∀ j, j < 3 → Cond.eq (.elem (.field (.string "CabbageCradles" 9) "java/lang/String" "value" "[B") (.int (Int32.ofNat j))) (.int ((cb_byt.getD 0 []).getD j 0)) ∈ flatC (Jvm.Cond.and given_1 narrow_1) by decide +kernel) j hj)) (fun j hj => hs _ ((show ∀ j, j < 4 → Cond.eq (.elem (.field (.string "CabbageCradles" 14) "java/lang/String" "value" "[B") (.int (Int32.ofNat j))) (.int ((cb_byt.getD 1 []).getD j 0)) ∈ flatC (Jvm.Cond.and given_1 narrow_1) by decide +kernel) j hj))) (fun i j hi hj hij => by
    rcases (show (i = 0 ∧ j = 1) ∨ (i = 1 ∧ j = 0) by omega) with ⟨rfl, rfl⟩ | ⟨rfl, rfl⟩
    · exact Or.inl (hs _ (by decide +kernel))
    · exact Or.inr (hs _ (by decide +kernel))) hA0
  obtain ⟨tK, eK, hTK⟩ := va_Tof (args := #[Value.ref b]) (s := s) (tm := .static "CabbageCradles" "KEPT_OFF" "[I") (ty := .int) (N := 37) (f := fun j => .int (cb_kept.getD j 0)) (A := cl_A s) (by decide) (hs _ (by decide +kernel)) (va_eqt (hs _ (by decide +kernel))) (fun j hj => va_eqt (hs _ ((show ∀ j, j < 37 → Cond.eq (.elem (.static "CabbageCradles" "KEPT_OFF" "[I") (.int (Int32.ofNat j))) (.int (cb_kept.getD j 0)) ∈ flatC (Jvm.Cond.and given_1 narrow_1) by decide +kernel) j hj))) hA0
  obtain ⟨tR, eR, hTR⟩ := va_Tof (args := #[Value.ref b]) (s := s) (tm := .static "CabbageCradles" "RIPE_DAYS" "[I") (ty := .int) (N := 3) (f := fun j => .int (cb_ripe.getD j 0)) (A := cl_A s) (by decide) (hs _ (by decide +kernel)) (va_eqt (hs _ (by decide +kernel))) (fun j hj => va_eqt (hs _ ((show ∀ j, j < 3 → Cond.eq (.elem (.static "CabbageCradles" "RIPE_DAYS" "[I") (.int (Int32.ofNat j))) (.int (cb_ripe.getD j 0)) ∈ flatC (Jvm.Cond.and given_1 narrow_1) by decide +kernel) j hj))) hA0
  have hZK := va_Zref (hts _ (cb_t3 _ (List.mem_of_getElem? (i := 127) rfl))) (htw _ wd_65) eK hA0
  have hZR := va_Zref (hts _ (cb_t3 _ (List.mem_of_getElem? (i := 28) rfl))) (htw _ wd_65) eR hA0
  have hZC := va_Zof (v := .int 1) (hts _ (cb_t2 _ (List.mem_of_getElem? (i := 61) rfl))) (htw _ wd_74) (va_eqi (hs _ (by decide +kernel))) hA0
  have hs0 : vk_R RX6 9 "srp" (adK 0) s := vk_R.of (A := #[Value.ref b]) (hts _ (cb_t1 _ (List.mem_of_getElem? (i := 29) rfl))) (hVE 0 (by decide))
  have hs1 : vk_R RX6 14 "srpa" (adK 1) s := vk_R.of (A := #[Value.ref b]) (hts _ (cb_t1 _ (List.mem_of_getElem? (i := 90) rfl))) (hVE 1 (by decide))
  have hS : va_S (cl_A s) s.heap s.heap [] := va_S.rf
  have hP : va_P (dC, dI) vwCl [] s.heap := fun k q h => by simp at h
  have hD : va_D (cl_A s) [] := ⟨fun i j p q h => by simp at h, fun k q h => by simp at h⟩
  have hl := lv_entry ([.ref b]) (n := 4) (Nat.le_of_ble_eq_true rfl)
  rw [lg_entry_eq]
  generalize (lg_sl ([.ref b]) ++ List.replicate (4 - (lg_sl ([.ref b])).length) Slot.unset).toArray = ls at hl ⊢
  replace hl : lv_has ls 4 [(0, .ref b)] := hl
  refine va_new (ci := 6) (fs := [.null, .null, .null, .null, .null, .null, .null, .null, .null, .null, .int 0]) (C := RX6) (T := TX6) (N := 11) hx hb htw wi_X6 tyX6 tyX6_ok hown (htw _ wd_82) (htw _ wd_83) (htw _ wd_65) hK hP hD hS hA rfl (fun j hj => by rcases (show j = 0 ∨ j = 1 ∨ j = 2 ∨ j = 3 ∨ j = 4 ∨ j = 5 ∨ j = 6 ∨ j = 7 ∨ j = 8 ∨ j = 9 ∨ j = 10 by omega) with rfl | rfl | rfl | rfl | rfl | rfl | rfl | rfl | rfl | rfl | rfl <;> rfl) (Nat.le_of_ble_eq_true rfl) (Nat.le_of_ble_eq_true rfl) dL_law_0 (fun hx0 H hP hD hS => ?_)
  refine W.widen (k := 1) (n := 11) (by omega) (by omega) ?_
  replace hP : va_P (dC, dI) vwCl [(hx0, .inr (6, [.null, .null, .null, .null, .null, .null, .null, .null, .null, .null, .int 0]))] H := hP
  replace hD : va_D (cl_A s) [(hx0, .inr (6, [.null, .null, .null, .null, .null, .null, .null, .null, .null, .null, .int 0]))] := hD
  refine lv_dup hx hb dL_law_3 rfl ?_
  have hPc := hP.sub (ws' := [(hx0, .inr (6, [.null, .null, .null, .null, .null, .null, .null, .null, .null, .null, .int 0]))]) [0] rfl
  have hDc := hD.sub (ws' := [(hx0, .inr (6, [.null, .null, .null, .null, .null, .null, .null, .null, .null, .null, .int 0]))]) [0] (by decide) rfl
  have hKc2 := hK.sub (tys' := [(cI, .int), (cT, .object "CabbageCradles$Text"), (cS, .object "CabbageCradles$Sheet"), (cII, .array .int)]) [0, 1, 2, 3] rfl
  have hFc := va_free (wc := [(hx0, .inr (6, [.null, .null, .null, .null, .null, .null, .null, .null, .null, .null, .int 0]))]) hD hS hA [0] rfl
  refine va_callv (va_runI (As := []) (rest := [.ref hx0]) ⟨hx, hb, hml, hown, htw⟩ (c_X6_init l dC dI cI cT cS cII (adK 0) (adK 1) hx0 H.size) (cwI 0 htw (cb_good (fun _ h => h) (cb_in_cons wd_86)) rfl rfl rfl (htw _ wd_65) (htw _ wd_84) (htw _ wd_85) rfl ⟨by decide +kernel, by decide +kernel, by decide +kernel⟩ ⟨(Nat.le_of_ble_eq_true rfl), (Nat.le_of_ble_eq_true rfl)⟩) ⟨fun a U g mk q => by obtain ⟨q0, q1, qP, ⟨qK, qs0, qs1, qO1, qO2, qO3, qN⟩, qD⟩ := q; exact ⟨q0, q1, qP, ⟨va_K.moved (u := U) (U := U.calling g mk a) (Vm.Alike.refl U.vm) qK, vk_R.same (u := U) rfl qs0, vk_R.same (u := U) rfl qs1, qO1, qO2, qO3, fun x hx => by
    have h1 := qN x hx
    rcases cb_nest_kind hx with ⟨_, _, _, _, rfl⟩ | ⟨_, _, _, _, _, _, rfl⟩
    · exact va_Nw.same rfl (u := U) rfl h1
    · exact va_Nw.same rfl (u := U) rfl h1⟩, qD⟩, fun U hU hW => ⟨rfl, by rw [hU], by rw [hU]; exact hPc, ⟨va_K.moved hW.alike hKc2, vk_R.warm hW hs0, vk_R.warm hW hs1, va_AO.moved hW.alike hO1, va_AO.moved hW.alike hO2, va_AOA.moved hW.alike hO3, fun x hx => by
    have h := hN x hx
    rcases cb_nest_kind hx with ⟨a, i, y, b, rfl⟩ | ⟨a, i, b, n, d, k, rfl⟩
    · exact va_Nw.warmM hW h
    · exact va_Nw.warmF hW h⟩, hDc.weaken (fun _ _ _ _ => trivial)⟩⟩ rfl rfl hl.1 rfl (lv_room (Nat.le_of_ble_eq_true rfl)) dL_law_4 ⟨(Nat.le_of_ble_eq_true rfl), (Nat.le_of_ble_eq_true rfl)⟩) hS (fun q _ h => hFc q h) hFc (fun ux t H1 locs ht hvm hw hB hz1 hk1 hS => ?_)
  obtain ⟨hP1, hK1, hD1⟩ := hB
  rw [ht] at hP1
  obtain ⟨hP, hD⟩ := va_join (wr := []) (w1 := cx_w cI cT cS cII (adK 0) (adK 1) hx0 ux) hP hD [0] [] rfl rfl (by decide) (by decide) hk1 hFc hP1 hD1
  rw [List.nil_append] at hP hD
  clear hPc hDc hFc hP1 hD1 hk1 hz1 hKc2 hK1
  generalize H1 = H at hP hS ⊢
  refine W.widen (k := 66) (n := 812) (by omega) (by omega) ?_
  refine lv_astore_n (lv' := [(1, .ref hx0), (0, .ref b)]) hx hb dL_law_7 rfl hl (by decide) rfl (fun ls hl => ?_)
  refine va_new (ci := 7) (fs := [.null, .null, .null, .null, .int 0, .null, .null, .int 0, .null, .int 0, .null, .null, .null, .int 0, .null, .int 0, .int 0, .null, .null, .null, .null, .null, .null, .null, .int 0, .int 0, .null, .int 0, .null, .null, .int 0]) (C := RX7) (T := TX7) (N := 31) hx hb htw wi_X7 tyX7 tyX7_ok hown (htw _ wd_837) (htw _ wd_838) (htw _ wd_73) hK hP hD hS hA rfl (fun j hj => by rcases (show j = 0 ∨ j = 1 ∨ j = 2 ∨ j = 3 ∨ j = 4 ∨ j = 5 ∨ j = 6 ∨ j = 7 ∨ j = 8 ∨ j = 9 ∨ j = 10 ∨ j = 11 ∨ j = 12 ∨ j = 13 ∨ j = 14 ∨ j = 15 ∨ j = 16 ∨ j = 17 ∨ j = 18 ∨ j = 19 ∨ j = 20 ∨ j = 21 ∨ j = 22 ∨ j = 23 ∨ j = 24 ∨ j = 25 ∨ j = 26 ∨ j = 27 ∨ j = 28 ∨ j = 29 ∨ j = 30 by omega) with rfl | rfl | rfl | rfl | rfl | rfl | rfl | rfl | rfl | rfl | rfl | rfl | rfl | rfl | rfl | rfl | rfl | rfl | rfl | rfl | rfl | rfl | rfl | rfl | rfl | rfl | rfl | rfl | rfl | rfl | rfl <;> rfl) (Nat.le_of_ble_eq_true rfl) (Nat.le_of_ble_eq_true rfl) dL_law_8 (fun hy0 H hP hD hS => ?_)
  refine W.widen (k := 67) (n := 843) (by omega) (by omega) ?_
  refine lv_dup hx hb dL_law_11 rfl ?_
  have hPX := cb_Pl hP
  have hPY := cb_Pr hP
  have hDY := cb_Dr hD
  have hFc : ∀ q, va_A [(hy0, .inr (7, [.null, .null, .null, .null, .int 0, .null, .null, .int 0, .null, .int 0, .null, .null, .null, .int 0, .null, .int 0, .int 0, .null, .null, .null, .null, .null, .null, .null, .int 0, .int 0, .null, .int 0, .null, .null, .int 0]))] H.size q → cl_A s q := by
    rintro q (⟨k, e, hk⟩ | h)
    · exact hDY.2 k (q, e) hk
    · exact Nat.le_trans hS.1 h
  have hKc2 := hK.sub (tys' := [(cI, .int)]) [0] rfl
  refine va_callv (va_runI (As := []) (rest := [.ref hy0]) ⟨hx, hb, hml, hown, htw⟩ (c_X7_init l dC dI cI hy0 H.size) (cwI 0 htw (cb_good (fun _ h => h) (cb_in_cons wd_841)) rfl rfl rfl (htw _ wd_73) (htw _ wd_839) (htw _ wd_840) rfl ⟨by decide +kernel, by decide +kernel, by decide +kernel⟩ ⟨(Nat.le_of_ble_eq_true rfl), (Nat.le_of_ble_eq_true rfl)⟩) ⟨fun a U g mk q => by obtain ⟨q0, q1, qP, qK, qD⟩ := q; exact ⟨q0, q1, qP, va_K.moved (u := U) (U := U.calling g mk a) (Vm.Alike.refl U.vm) qK, qD⟩, fun U hU hW => ⟨rfl, by rw [hU], by rw [hU]; exact hPY, va_K.moved hW.alike hKc2, hDY.weaken (fun _ _ _ _ => trivial)⟩⟩ rfl rfl hl.1 rfl (lv_room (Nat.le_of_ble_eq_true rfl)) dL_law_12 ⟨(Nat.le_of_ble_eq_true rfl), (Nat.le_of_ble_eq_true rfl)⟩) hS (fun q _ h => hFc q h) hFc (fun uy t H1 locs ht hvm hw hB hz1 hk1 hS => ?_)
  obtain ⟨hP1, hK1, hD1⟩ := hB
  rw [ht] at hP1
  have hap : ∀ (k : Nat) (q : Nat × va_E), (cx_w cI cT cS cII (adK 0) (adK 1) hx0 ux)[k]? = some q → ¬ va_A [(hy0, .inr (7, [.null, .null, .null, .null, .int 0, .null, .null, .int 0, .null, .int 0, .null, .null, .null, .int 0, .null, .int 0, .int 0, .null, .null, .null, .null, .null, .null, .null, .int 0, .int 0, .null, .int 0, .null, .null, .int 0]))] H.size q.1 := by
    rintro k q hq (⟨j, e, hj⟩ | h)
    · exact cb_Dx hD hq hj rfl
    · exact absurd (hPX k q hq).lt (Nat.not_lt.mpr h)
  have hPX1 : va_P (dC, dI) vwCl (cx_w cI cT cS cII (adK 0) (adK 1) hx0 ux) H1 := hPX.kept (fun k q hq => hk1 q.1 (hPX k q hq).lt (hap k q hq))
  have hDX := cb_Dl hD
  have hD2 : va_D (cl_A s) ((cx_w cI cT cS cII (adK 0) (adK 1) hx0 ux) ++ cy_w cI hy0 uy) := va_D.app hDX (hD1.weaken (fun _ _ _ h => hFc _ h)) (fun i j p q hp hq e => hap i p hp (by rw [e]; exact hD1.2 j q hq))
  refine W.widen (k := 600000) (n := 7302250) (by omega) (by omega) ?_
  refine lv_astore_n (lv' := [(2, .ref hy0), (1, .ref hx0), (0, .ref b)]) hx hb dL_law_15 rfl hl (by decide) rfl (fun ls hl => ?_)
  refine lv_iconst (v := 0) hx hb dL_law_16 (by decide) ?_
  refine lv_istore_n (lv' := [(3, .int 0), (2, .ref hy0), (1, .ref hx0), (0, .ref b)]) hx hb dL_law_17 rfl hl (by decide) rfl (fun ls hl => ?_)
  have jx := cb_inj (cb_Dl hD2) (cx_adr_e cI cT cS cII (adK 0) (adK 1) hx0 ux) (N := 66) rfl cx_pm_lt cx_pm_inj
  have jy := cb_inj (cb_Dr hD2) (cy_adr_e cI hy0 uy) (N := 22) rfl cy_pm_lt cy_pm_inj
  have hCX : ∀ g : cb_Geo, g.2.2.2 = (fun j => [adK 0, adV 0, adK 1, adV 1, tK, tR].getD j 0) → cb_X g (cl_A s) s s.heap := by
    intro g hg
    have hv : vk_S 2 [3, 4] cb_byt (fun i => g.2.2.2 (2 * i)) (fun i => g.2.2.2 (2 * i + 1)) (cl_A s) s s.heap := by
      refine ⟨fun i hi => ?_, fun i j hi hj e => ?_⟩
      · have h := hVS.1 i hi
        rcases (show i = 0 ∨ i = 1 by omega) with rfl | rfl
        · rw [hg]; exact h
        · rw [hg]; exact h
      · refine hVS.2 i j hi hj ?_
        rcases (show i = 0 ∨ i = 1 by omega) with rfl | rfl <;> rcases (show j = 0 ∨ j = 1 by omega) with rfl | rfl <;> first | rfl | (rw [hg] at e; exact e)
    exact ⟨by rw [hg]; exact hZK, by rw [hg]; exact hTK, by rw [hg]; exact hZR, by rw [hg]; exact hTR, hZC, hv⟩
  generalize hks : (fun j => [adK 0, adV 0, adK 1, adV 1, tK, tR].getD j 0) = ks at hCX
  have hk0 : adK 0 = ks 0 := by rw [← hks]; rfl
  have hk2 : adK 1 = ks 2 := by rw [← hks]; rfl
  have hC : cl_C ((p, l, e, room_1), (s, m, #[Value.ref b], below), meth, c, lw_Z below #[Value.ref b] s) (cx_geo dC dI hx0 ux cI cT cS cII ks) (cy_geo dC dI hy0 uy cI ks) l b L xs := by
    refine ⟨hx, hb, hml, hown, htw, hX, hbl, rfl, rfl, hK, hK.sub [0] rfl, hN, hCX _ rfl, hCX _ rfl, jx.1, jy.1, jx.2, jy.2, fun i j hi hj e => ?_⟩
    obtain ⟨x, hx1, ex⟩ := cb_place (cx_adr_e cI cT cS cII (adK 0) (adK 1) hx0 ux) (N := 66) rfl cx_pm_lt hi
    obtain ⟨y, hy1, ey⟩ := cb_place (cy_adr_e cI hy0 uy) (N := 22) rfl cy_pm_lt hj
    exact cb_Dx hD2 hx1 hy1 (by rw [ex, ey]; exact e)
  have hend : ∀ (MX MY : cb_Mem) (x3 : Int32), cl_J ((p, l, e, room_1), (s, m, #[Value.ref b], below), meth, c, lw_Z below #[Value.ref b] s) (cx_geo dC dI hx0 ux cI cT cS cII ks) (cy_geo dC dI hy0 uy cI ks) MX MY 1241 [(0, .ref b), (1, .ref ((cx_geo dC dI hx0 ux cI cT cS cII ks).2.1 0)), (2, .ref ((cy_geo dC dI hy0 uy cI ks).2.1 0)), (3, .int x3)] [] := by
    intro MX MY x3
    refine cl_iconst (v := 1) hC dL_law_1241 rfl ?_
    intro H locs ls hP hY hS hl
    exact va_forget hS.2.2 (lw_ret hx hb hr hlocks dL_law_1242)
  have K := cl_loop SA hL hC hend (L + 1) 0 0 cx_M0 cy_M0 (by omega) rfl (Nat.zero_le _) R0
  exact K H1 locs ls (cx_conv hk0 hk2 hPX1) (cy_conv hP1) hS (lv_sub hl [3, 2, 1, 0] rfl)
