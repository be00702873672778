/-! met -/
theorem cnt_not {p : Nat → Bool} : ∀ {n : Nat}, cntN p n + cntN (fun c => !(p c)) n = n
  | 0 => rfl
  | n + 1 => by
    have := cnt_not (p := p) (n := n)
    rw [cntN_succ, cntN_succ]
    cases p n
    · simp; omega
    · simp; omega
theorem cnt_stay {p : Nat → Bool} {n : Nat} (hp : ∀ j, n ≤ j → p j = false) : ∀ {m : Nat}, n ≤ m → cntN p m = cntN p n := by
  intro m h
  induction h with
  | refl => rfl
  | step hk ih =>
    rename_i m'
    have hk' : n ≤ m' := hk
    rw [cntN_succ, ih, hp m' hk', if_neg (by decide), Nat.add_zero]
theorem pg_out {F : FD} {c j : Nat} (hj : d_nh F ≤ j) : pgF F c j = false := by
  unfold pgF
  rw [anyN_false]
  intro d _
  unfold psF
  rw [decide_eq_false (by omega)]
  simp
theorem nb_out {F : FD} {n j : Nat} {S : Nat → Bool} (hj : d_nh F ≤ j) : nbB (pgF F) n S j = false := by
  unfold nbB
  rw [anyN_false]
  intro c _
  rw [pg_out hj, Bool.and_false]
theorem x_headsFor {M : cb_Mem} {F : FD} (hF : WF F) (hM : xFd M F) (hW : xWk M F) {g : Nat} (hg : g < 2147483648) : ∃ y, f_X6_headsFor (nI g) M = some y ∧ msk 8 y (nbB (pgF F) (d_nc F) g.testBit) := by
  have c8 : d_nc F ≤ 8 := hF.2.1
  suffices hL : ∃ r, f_X6_headsFor_L4 cb_fuel (nI g) (nI 0) (nI 0) M = some r ∧ msk 8 r (nbB (pgF F) (d_nc F) g.testBit) by
    obtain ⟨r, h1, h2⟩ := hL
    exact ⟨r, by simp only [f_X6_headsFor, li, h1, Option.bind_some], h2⟩
  refine cb_loop0 (fun m k (s : Int32) => f_X6_headsFor_L4 m (nI g) s (nI k) M) (fun k s => msk 8 s (nbB (pgF F) k g.testBit)) (d_nc F) _ (nI 0) (by omega) msk_0 ?_ ?_
  · intro m s hs
    exact ⟨s, by rw [f_X6_headsFor_L4, hM.2.1, if_pos (by rw [cn_le (by omega) (by omega)]; omega)], hs⟩
  · intro m k s hk hs
    right
    have hb := bi_bit (x := g) (k := k) hg (by omega)
    cases e : g.testBit k with
    | false =>
      rw [e] at hb
      refine ⟨s, hs.cong (fun h _ => by rw [nbB_succ, e, Bool.false_and, Bool.or_false]), ?_⟩
      simp (disch := first | omega | trivial) only [f_X6_headsFor_L4, li, hM.2.1, cn_le, if_neg, hb, b2i_0, if_pos, Option.bind_some, cn_add]
    | true =>
      rw [e] at hb
      refine ⟨s ||| M 26 k, (msk_or hs (hW.2.1 k hk)).cong (fun h _ => by rw [nbB_succ, e, Bool.true_and]), ?_⟩
      simp (disch := first | omega | trivial) only [f_X6_headsFor_L4, li, hM.2.1, cn_le, if_neg, hb, b2i_0, Bool.true_eq_false, if_false, cn_in, cn_cl, if_pos, cb_let_eq, Option.bind_some, cn_add]
theorem gv_X {F : FD} (hF : WF F) {g : Nat} (hg : g < 2 ^ d_nc F) : (d_nc F - cntN g.testBit 8) + cntN (nbB (pgF F) (d_nc F) g.testBit) 8 = gvN (pgF F) (d_nh F) (d_nc F) g.testBit (2 ^ d_nh F - 1) ∧ cntN g.testBit 8 ≤ d_nc F := by
  have c8 : d_nc F ≤ 8 := hF.2.1
  have h8 : d_nh F ≤ 8 := hF.1
  have e1 : cntN g.testBit 8 = cntN g.testBit (d_nc F) := cb_stay hg c8
  have e2 := cnt_not (p := g.testBit) (n := d_nc F)
  have e3 : cntN (nbB (pgF F) (d_nc F) g.testBit) 8 = cntN (nbB (pgF F) (d_nc F) g.testBit) (d_nh F) := cnt_stay (fun j hj => nb_out hj) h8
  have e4 : cntN (fun h => (2 ^ d_nh F - 1).testBit h && nbB (pgF F) (d_nc F) g.testBit h) (d_nh F) = cntN (nbB (pgF F) (d_nc F) g.testBit) (d_nh F) := cntN_congr (fun h hh => by rw [Nat.testBit_two_pow_sub_one, decide_eq_true hh, Bool.true_and])
  unfold gvN
  rw [e1, e3, e4]
  omega
def mtV (F : FD) : Nat := mtN (pgF F) (d_nh F) (d_nc F) (2 ^ d_nh F - 1)
theorem x_metL {M : cb_Mem} {F : FD} (hF : WF F) (hM : xFd M F) (hW : xWk M F) : f_X6_met_L14 cb_fuel (nI (d_nc F)) (nI 0) M = some (nI (mtV F)) := by
  have c8 : d_nc F ≤ 8 := hF.2.1
  have h8 : d_nh F ≤ 8 := hF.1
  have hN : 2 ^ d_nc F ≤ 2 ^ 8 := Nat.pow_le_pow_right (by decide) c8
  have hone : nI 1 <<< (nI (d_nc F) &&& nI 31) = nI (2 ^ d_nc F) := bi_one (by omega)
  unfold mtV
  rw [← hall]
  have hgv : ∀ g, g < 2 ^ d_nc F → (d_nc F - cntN g.testBit 8) + cntN (nbB (pgF F) (d_nc F) g.testBit) 8 = gvN (pgF F) (d_nh F) (d_nc F) g.testBit (2 ^ d_nh F - 1) ∧ cntN g.testBit 8 ≤ d_nc F := fun g hg => gv_X hF hg
  generalize hf : (fun g : Nat => gvN (pgF F) (d_nh F) (d_nc F) g.testBit (2 ^ d_nh F - 1)) = f
  have hgv' : ∀ g, g < 2 ^ d_nc F → (d_nc F - cntN g.testBit 8) + cntN (nbB (pgF F) (d_nc F) g.testBit) 8 = f g ∧ cntN g.testBit 8 ≤ d_nc F := fun g hg => by rw [← hf]; exact hgv g hg
  clear hgv hf
  generalize hK : 2 ^ d_nc F = N at hN hone hgv'
  suffices hL : ∃ r, f_X6_met_L14 cb_fuel (nI (d_nc F)) (nI 0) M = some r ∧ r = nI (minN f (d_nc F) N) by
    obtain ⟨r, h1, h2⟩ := hL
    rw [h2] at h1
    exact h1
  refine cb_loop0 (fun m k (s : Nat) => f_X6_met_L14 m (nI s) (nI k) M) (fun k s => s = minN f (d_nc F) k) N _ (d_nc F) (by omega) rfl ?_ ?_
  · rintro m s rfl
    refine ⟨_, ?_, rfl⟩
    simp (disch := first | omega | trivial) only [f_X6_met_L14, li, hM.2.1, hone, cn_le, if_pos]
  · rintro m k s hk rfl
    right
    refine ⟨_, rfl, ?_⟩
    obtain ⟨y, y1, y2⟩ := x_headsFor hF hM hW (g := k) (by omega)
    have y3 := msk_bc y2
    have x1 := bc8 k (by omega)
    obtain ⟨z1, z2⟩ := hgv' k hk
    have hm := (minN_le (f := f) (z := d_nc F) (n := k)).1
    have l8 : cntN (nbB (pgF F) (d_nc F) k.testBit) 8 ≤ 8 := cntN_le
    have hz : minN f (d_nc F) (k + 1) = min (minN f (d_nc F) k) (f k) := rfl
    rw [hz]
    generalize minN f (d_nc F) k = q at hm
    generalize cntN (nbB (pgF F) (d_nc F) k.testBit) 8 = u at y3 z1 l8
    generalize cntN k.testBit 8 = v at x1 z1 z2
    generalize f k = w at z1
    have hmin : cb_min (nI q) (nI (d_nc F - v + u)) = nI (min q w) := by rw [cn_min (by omega) (by omega), z1]
    simp (disch := first | omega | trivial) only [f_X6_met_L14, li, hM.2.1, hone, cn_le, if_neg, cb_let_eq, x1, cn_sub, y1, Option.bind_some, y3, cn_add, hmin]
theorem x_met {M : cb_Mem} {A : AS} (hA : AOK A) (hX : XS M A) : ∃ M', f_X6_met M = some (nI (mtV (FAa A)), M') ∧ XS M' A := by
  obtain ⟨M1, fx, ax, b1, b2⟩ := x_walkA hA hX
  have h1 := x_metL (WF_FA hA) b1 b2
  refine ⟨M1, ?_, ax⟩
  simp (disch := first | omega | trivial) only [f_X6_met, li, fx, Option.bind_some, cb_let_eq, b1.2.1, h1]
/-! the reference -/
theorem pg_eq {F : FD} {c h : Nat} (hh : h < d_nh F) : pgF F c h = (wtB F c h && anyN (fun d => cmB F c d && onB F h d) 40) := by
  unfold pgF
  have e : psF F (d_nh F) (d_wnt F c) h = wtB F c h := by
    unfold psF wtB
    rw [decide_eq_true hh, Bool.true_and]
    by_cases q1 : d_wnt F c = 3
    · simp [q1]
    · by_cases q2 : d_wnt F c = d_srt F h
      · simp [q2]
      · simp [q1, q2]
  have e2 : ∀ d, prF F (d_nh F) d h = onB F h d := fun d => by unfold prF; rw [decide_eq_true hh, Bool.true_and]
  cases ew : wtB F c h with
  | false =>
    rw [Bool.false_and, anyN_false]
    intro d _
    rw [e, ew]
    simp
  | true =>
    rw [Bool.true_and]
    apply anyN_congr
    intro d _
    rw [e, ew, e2, Bool.and_true]
theorem y_might {M : cb_Mem} {F : FD} (hF : WF F) (hM : mFd M F) (hD : mD M F) {c h : Nat} (hc : c < d_nc F) (hh : h < d_nh F) : f_X7_mightMeet (nI c) (nI h) M = some (b2i (pgF F c h)) := by
  have hw := m_wants hF hM hc hh
  rw [pg_eq hh]
  suffices hL : ∃ r, f_X7_mightMeet_L5 cb_fuel (nI c) (nI h) (nI 0) (nI 0) M = some r ∧ r = b2i (wtB F c h && anyN (fun d => cmB F c d && onB F h d) 40) by
    obtain ⟨r, h1, h2⟩ := hL
    rw [h2] at h1
    simp only [f_X7_mightMeet, li, h1, Option.bind_some, b2i_1]
  cases ew : wtB F c h with
  | false =>
    rw [ew] at hw
    have hz : ∀ m, f_X7_mightMeet_L5 (m + 1) (nI c) (nI h) (nI 0) (nI 0) M = some (nI 0) := by
      intro m
      simp (disch := first | omega | trivial) only [f_X7_mightMeet_L5, li, cn_le, if_neg, hw, Option.bind_some, b2i_0, if_pos]
    exact ⟨nI 0, hz 1999, by rw [Bool.false_and]; rfl⟩
  | true =>
    rw [ew] at hw
    rw [Bool.true_and]
    refine cb_loop0 (fun m k (s : Bool) => f_X7_mightMeet_L5 m (nI c) (nI h) (b2i s) (nI k) M) (fun k s => s = anyN (fun d => cmB F c d && onB F h d) k) 40 _ false (by omega) rfl ?_ ?_
    · rintro m s rfl
      exact ⟨_, by rw [f_X7_mightMeet_L5, if_pos (by decide)], rfl⟩
    · rintro m k s hk rfl
      right
      refine ⟨_, rfl, ?_⟩
      have r1 := m_comes hF hM hc (show k < 64 by omega)
      have r2 := m_isRipe hF hM hD hh hk
      have hz : anyN (fun d => cmB F c d && onB F h d) (k + 1) = (anyN (fun d => cmB F c d && onB F h d) k || (cmB F c k && onB F h k)) := rfl
      rw [hz]
      cases ea : anyN (fun d => cmB F c d && onB F h d) k with
      | true =>
        have t1 : b2i true = nI 1 := rfl
        simp (disch := first | omega | trivial) only [f_X7_mightMeet_L5, li, cn_le, if_neg, hw, Option.bind_some, t1, c_1n0, if_false, cn_add, Bool.true_or]
      | false =>
        have t0 : b2i false = nI 0 := rfl
        have t1 : b2i true = nI 1 := rfl
        rw [Bool.false_or]
        cases eb : cmB F c k with
        | false =>
          rw [eb] at r1
          simp (disch := first | omega | trivial) only [f_X7_mightMeet_L5, li, cn_le, if_neg, hw, Option.bind_some, t0, t1, c_1n0, if_false, if_pos, r1, cn_add, Bool.false_and]
        | true =>
          rw [eb] at r1
          rw [Bool.true_and]
          cases ec : onB F h k with
          | false =>
            rw [ec] at r2
            simp (disch := first | omega | trivial) only [f_X7_mightMeet_L5, li, cn_le, if_neg, hw, Option.bind_some, t0, t1, c_1n0, if_false, if_pos, r1, r2, cn_add]
          | true =>
            rw [ec] at r2
            simp (disch := first | omega | trivial) only [f_X7_mightMeet_L5, li, cn_le, if_neg, hw, Option.bind_some, t0, t1, c_1n0, if_false, if_pos, r1, r2, cn_add]
theorem y_may {M : cb_Mem} {F : FD} (hF : WF F) (hM : mFd M F) (hD : mD M F) {c : Nat} {v1 : Int32} (hc : c < d_nc F) : ∃ y, f_X7_metNow_L42 cb_fuel v1 (nI c) (nI 0) (nI 0) M = some y ∧ msk 8 y (fun j => decide (j < d_nh F) && pgF F c j) := by
  have h8 : d_nh F ≤ 8 := hF.1
  refine cb_loop0 (fun m k (s : Int32) => f_X7_metNow_L42 m v1 (nI c) s (nI k) M) (fun k s => msk 8 s (fun j => decide (j < k) && pgF F c j)) (d_nh F) _ (nI 0) (by omega) msk_s0 ?_ ?_
  · intro m s hs
    exact ⟨s, by rw [f_X7_metNow_L42, hM.1, if_pos (by rw [cn_le (by omega) (by omega)]; omega)], hs⟩
  · intro m k s hk hs
    right
    have hm := y_might hF hM hD hc hk
    cases e : pgF F c k with
    | false =>
      rw [e] at hm
      refine ⟨s ||| nI 0, msk_st2 hs e, ?_⟩
      simp (disch := first | omega | trivial) only [f_X7_metNow_L42, li, hM.1, cn_le, if_neg, hm, Option.bind_some, b2i_0, if_pos, cb_let_eq, cn_add]
    | true =>
      rw [e] at hm
      refine ⟨s ||| (nI 1 <<< (nI k &&& nI 31)), msk_st1 hs (by omega) (by omega) e, ?_⟩
      simp (disch := first | omega | trivial) only [f_X7_metNow_L42, li, hM.1, cn_le, if_neg, hm, Option.bind_some, b2i_0, Bool.true_eq_false, if_false, cb_let_eq, cn_add]
theorem xor_lt : ∀ b, b < 256 → ∀ h, h < 8 → b.testBit h = true → b ^^^ 2 ^ h < b := by decide +kernel
theorem y_in {M : cb_Mem} {adj : Nat → Nat → Bool} {H c b : Nat} {v1 v2 y : Int32} (h7 : M 0 7 = nI H) (hH : H ≤ 8) (hy : msk 8 y (fun j => decide (j < H) && adj c j)) (hb : b < 256) (hc : c < 8) (hm : ∀ j, j ≤ b → M 19 j = nI (mtN adj H c j)) : ∃ M', f_X7_metNow_L91 cb_fuel v1 v2 y (nI b) (nI 0) M = some M' ∧ (agr M M' (fun k j => k = 19 ∧ j = b) ∧ M' 19 b = nI (mtN adj H (c + 1) b)) := by
  refine cb_loop0 (fun m k (T : cb_Mem) => f_X7_metNow_L91 m v1 v2 y (nI b) (nI k) T) (fun k T => agr M T (fun k j => k = 19 ∧ j = b) ∧ T 19 b = nI (max (mtN adj H c b) (maxN (fun h => if (b.testBit h && adj c h) = true then mtN adj H c (b ^^^ 2 ^ h) + 1 else 0) k))) H _ M (by omega) ⟨agr.rf, by rw [hm b (Nat.le_refl _)]; congr 1; exact (Nat.max_eq_left (Nat.zero_le _)).symm⟩ ?_ ?_
  · rintro m T ⟨a, e⟩
    have e7 : T 0 7 = nI H := by rw [a _ _ (by omega)]; exact h7
    exact ⟨T, by rw [f_X7_metNow_L91, e7, if_pos (by rw [cn_le (by omega) (by omega)]; omega)], a, e⟩
  · rintro m k T hk ⟨a, e⟩
    right
    have e7 : T 0 7 = nI H := by rw [a _ _ (by omega)]; exact h7
    have hmb : msk 8 (nI b) b.testBit := ⟨b, hb, rfl, fun _ _ => rfl⟩
    have hin := v_isIn (msk_and hmb hy) (show k < 8 by omega) (by omega)
    rw [decide_eq_true hk, Bool.true_and] at hin
    have l1 : mtN adj H c b ≤ 8 := by have := mt_le (adj := adj) (H := H) (n := c) (b := b); omega
    have hmax : maxN (fun h => if (b.testBit h && adj c h) = true then mtN adj H c (b ^^^ 2 ^ h) + 1 else 0) k ≤ 9 := maxN_le.mpr (fun j _ => by
      have := mt_le (adj := adj) (H := H) (n := c) (b := b ^^^ 2 ^ j)
      split <;> omega)
    have hz : maxN (fun h => if (b.testBit h && adj c h) = true then mtN adj H c (b ^^^ 2 ^ h) + 1 else 0) (k + 1) = max (maxN (fun h => if (b.testBit h && adj c h) = true then mtN adj H c (b ^^^ 2 ^ h) + 1 else 0) k) (if (b.testBit k && adj c k) = true then mtN adj H c (b ^^^ 2 ^ k) + 1 else 0) := rfl
    rw [hz]
    generalize maxN (fun h => if (b.testBit h && adj c h) = true then mtN adj H c (b ^^^ 2 ^ h) + 1 else 0) k = q at e hmax
    cases et : (b.testBit k && adj c k) with
    | false =>
      rw [et] at hin
      rw [if_neg (by decide)]
      refine ⟨cb_up T 19 b (nI (max (mtN adj H c b) q)), ⟨a.up ⟨rfl, rfl⟩, by rw [cu, if_pos rfl, if_pos rfl]; congr 1; omega⟩, ?_⟩
      simp (disch := first | omega | trivial) only [f_X7_metNow_L91, li, e7, cn_le, if_neg, hin, cb_let_eq, b2i_0, if_pos, cn_in, cn_cl, e, Option.bind_some, cn_add]
    | true =>
      rw [et] at hin
      rw [if_pos rfl]
      rw [Bool.and_eq_true] at et
      have hlt := xor_lt b hb k (by omega) et.1
      have hx : nI b ^^^ nI 1 <<< (nI k &&& nI 31) = nI (b ^^^ 2 ^ k) := by rw [bi_one (by omega), bi_xor]
      have hT : T 19 (b ^^^ 2 ^ k) = nI (mtN adj H c (b ^^^ 2 ^ k)) := by rw [a _ _ (by omega)]; exact hm _ (by omega)
      have l2 : mtN adj H c (b ^^^ 2 ^ k) ≤ 8 := by have := mt_le (adj := adj) (H := H) (n := c) (b := b ^^^ 2 ^ k); omega
      generalize b ^^^ 2 ^ k = b' at hlt hx hT l2
      refine ⟨cb_up T 19 b (nI (max (mtN adj H c b) (max q (mtN adj H c b' + 1)))), ⟨a.up ⟨rfl, rfl⟩, by rw [cu, if_pos rfl, if_pos rfl]⟩, ?_⟩
      have hgr : f_X7_greater (nI (mtN adj H c b' + 1)) (nI (max (mtN adj H c b) q)) = nI (max (mtN adj H c b) (max q (mtN adj H c b' + 1))) := by
        rw [v_greater (by omega) (by omega)]; congr 1; omega
      simp (disch := first | omega | trivial) only [f_X7_metNow_L91, li, e7, cn_le, if_neg, hin, cb_let_eq, b2i_0, Bool.true_eq_false, if_false, hx, cn_in, cn_cl, if_pos, hT, e, cn_add, hgr, Option.bind_some]
theorem cn_dec {b : Nat} (hb : 1 ≤ b) : nI b + -nI 1 = nI (b - 1) := by
  obtain ⟨a, rfl⟩ : ∃ a, b = a + 1 := ⟨b - 1, by omega⟩
  rw [← cn_add, Int32.add_assoc, show (nI 1 + -nI 1 : Int32) = 0 by decide, Int32.add_zero]
  rfl
theorem mt_0 {adj : Nat → Nat → Bool} {H c : Nat} : mtN adj H (c + 1) 0 = mtN adj H c 0 := by
  rw [mtN]
  have : maxN (fun h => if ((0 : Nat).testBit h && adj c h) = true then mtN adj H c (0 ^^^ 2 ^ h) + 1 else 0) H ≤ 0 := maxN_le.mpr (fun j _ => by
    rw [if_neg (by rw [Nat.zero_testBit]; simp)]
    exact Nat.le_refl _)
  omega
theorem y_dn {M : cb_Mem} {adj : Nat → Nat → Bool} {H c N : Nat} {v1 v2 y : Int32} (h7 : M 0 7 = nI H) (hH : H ≤ 8) (hy : msk 8 y (fun j => decide (j < H) && adj c j)) (hN : N ≤ 256) (hN1 : 1 ≤ N) (hc : c < 8) (hm : ∀ j, j < N → M 19 j = nI (mtN adj H c j)) : ∃ M', f_X7_metNow_L83 cb_fuel v1 v2 y (nI (N - 1)) M = some M' ∧ (agr M M' (fun k _ => k = 19) ∧ ∀ j, j < N → M' 19 j = nI (mtN adj H (c + 1) j)) := by
  refine cb_loop0 (fun m k (T : cb_Mem) => f_X7_metNow_L83 m v1 v2 y (nI (N - 1 - k)) T) (fun k T => agr M T (fun k _ => k = 19) ∧ ∀ j, j < N → T 19 j = nI (if N - 1 - k < j then mtN adj H (c + 1) j else mtN adj H c j)) (N - 1) _ M (by omega) ⟨agr.rf, fun j hj => by rw [if_neg (by omega)]; exact hm j hj⟩ ?_ ?_
  · rintro m T ⟨a, b⟩
    refine ⟨T, by rw [f_X7_metNow_L83, Nat.sub_self, if_pos (by decide)], a, fun j hj => ?_⟩
    rw [b j hj]
    by_cases e : N - 1 - (N - 1) < j
    · rw [if_pos e]
    · rw [if_neg e, show j = 0 by omega, mt_0]
  · rintro m k T hk ⟨a, b⟩
    right
    have e7 : T 0 7 = nI H := by rw [a _ _ (by omega)]; exact h7
    obtain ⟨T1, f1, a1, d1⟩ := y_in (b := N - 1 - k) (v1 := v1) (v2 := v2) e7 hH hy (by omega) hc (fun j hj => by
      rw [b j (by omega), if_neg (by omega)])
    refine ⟨T1, ⟨a.trans (a1.mono (fun k j q => q.1)), fun j hj => ?_⟩, ?_⟩
    · by_cases e : j = N - 1 - k
      · rw [e, d1, if_pos (by omega)]
      · rw [a1 _ _ (by omega), b j hj]
        by_cases e2 : N - 1 - k < j
        · rw [if_pos e2, if_pos (by omega)]
        · rw [if_neg e2, if_neg (by omega)]
    · have hd := cn_dec (b := N - 1 - k) (by omega)
      rw [show N - 1 - k - 1 = N - 1 - (k + 1) by omega] at hd
      simp (disch := first | omega | trivial) only [f_X7_metNow_L83, li, cn_le, if_neg, f1, Option.bind_some, hd]
theorem y_cps {M : cb_Mem} {F : FD} (hF : WF F) (hM : mFd M F) (hD : mD M F) (h0 : ∀ j, j < 2 ^ d_nh F → M 19 j = nI 0) : ∃ M', f_X7_metNow_L29 cb_fuel (nI (2 ^ d_nh F)) (nI 0) M = some M' ∧ (agr M M' (fun k _ => k = 19) ∧ ∀ j, j < 2 ^ d_nh F → M' 19 j = nI (mtN (pgF F) (d_nh F) (d_nc F) j)) := by
  have c8 : d_nc F ≤ 8 := hF.2.1
  have h8 : d_nh F ≤ 8 := hF.1
  have hN : 2 ^ d_nh F ≤ 2 ^ 8 := Nat.pow_le_pow_right (by decide) h8
  have hN1 := Nat.two_pow_pos (d_nh F)
  generalize hK : 2 ^ d_nh F = N at hN hN1 h0
  refine cb_loop0 (fun m k (T : cb_Mem) => f_X7_metNow_L29 m (nI N) (nI k) T) (fun k T => agr M T (fun k _ => k = 19) ∧ ∀ j, j < N → T 19 j = nI (mtN (pgF F) (d_nh F) k j)) (d_nc F) _ M (by omega) ⟨agr.rf, h0⟩ ?_ ?_
  · rintro m T ⟨a, b⟩
    have e9 : T 0 9 = nI (d_nc F) := by rw [a _ _ (by omega)]; exact hM.2.1
    exact ⟨T, by rw [f_X7_metNow_L29, e9, if_pos (by rw [cn_le (by omega) (by omega)]; omega)], a, b⟩
  · rintro m k T hk ⟨a, b⟩
    right
    have e9 : T 0 9 = nI (d_nc F) := by rw [a _ _ (by omega)]; exact hM.2.1
    have hMT : mFd T F := hM.eq (fun k j q => a _ _ (by omega))
    have hDT : mD T F := fun h hh => by rw [a _ _ (by omega), a _ _ (by omega)]; exact hD h hh
    obtain ⟨y, y1, y2⟩ := y_may (v1 := nI N) hF hMT hDT hk
    obtain ⟨T1, f1, a1, d1⟩ := y_dn (v1 := nI N) (v2 := nI k) hMT.1 h8 y2 hN hN1 (by omega) b
    refine ⟨T1, ⟨a.trans a1, d1⟩, ?_⟩
    simp (disch := first | omega | trivial) only [f_X7_metNow_L29, li, e9, cn_le, if_neg, y1, Option.bind_some, cb_let_eq, cn_sub, f1, cn_add]
theorem y_z19 {M : cb_Mem} {N : Nat} (hN : N ≤ 256) : ∃ M', f_X7_metNow_L9 cb_fuel (nI N) (nI 0) M = some M' ∧ (agr M M' (fun k _ => k = 19) ∧ ∀ j, j < N → M' 19 j = nI 0) := by
  refine cb_loop0 (fun m k (T : cb_Mem) => f_X7_metNow_L9 m (nI N) (nI k) T) (fun k T => agr M T (fun k _ => k = 19) ∧ ∀ j, j < k → T 19 j = nI 0) N _ M (by omega) ⟨agr.rf, fun c hc => absurd hc (Nat.not_lt_zero c)⟩ ?_ ?_
  · rintro m T ⟨a, b⟩
    exact ⟨T, by rw [f_X7_metNow_L9, if_pos (by rw [cn_le (by omega) (by omega)]; omega)], a, b⟩
  · rintro m k T hk ⟨a, b⟩
    right
    refine ⟨cb_up T 19 k (nI 0), ⟨a.up rfl, fun j hj => ?_⟩, ?_⟩
    · rw [cu, if_pos rfl]
      by_cases e : j = k
      · rw [if_pos e]
      · rw [if_neg e]; exact b j (by omega)
    · simp (disch := first | omega | trivial) only [f_X7_metNow_L9, li, cn_le, if_neg, cn_in, cn_cl, if_pos, cb_let_eq, cn_add]
theorem y_metS {M M1 M2 : cb_Mem} {x1 r : Int32} (h1 : (1 : Int32) <<< ((M 0 7) &&& 31) = x1) (f1 : f_X7_metNow_L9 cb_fuel x1 0 M = some M1) (f2 : f_X7_metNow_L29 cb_fuel x1 0 M1 = some M2) (h2 : cb_in (x1 - 1) 256 = true) (h3 : M2 19 (x1 - 1).toNatClampNeg = r) : f_X7_metNow M = some (r, M2) := by
  unfold f_X7_metNow
  rw [h1, cb_let_eq, f1, Option.bind_some, f2, Option.bind_some, if_pos h2, h3]
theorem y_metNow {M : cb_Mem} {A : AS} (hY : yA M A) (hW : mWk M (FAa A) A.2.1.2) : ∃ M', f_X7_metNow M = some (nI (mtV (FAa A)), M') ∧ yA M' A := by
  have h8 : d_nh (FAa A) ≤ 8 := hY.2.1.1
  have hN : 2 ^ d_nh (FAa A) ≤ 2 ^ 8 := Nat.pow_le_pow_right (by decide) h8
  have hN1 := Nat.two_pow_pos (d_nh (FAa A))
  obtain ⟨M1, f1, a1, z1⟩ := y_z19 (M := M) hN
  obtain ⟨M2, f2, a2, z2⟩ := y_cps (M := M1) hY.2.1 (hY.2.2.1.eq (fun k j q => a1 _ _ (by omega))) (fun h hh => by rw [a1 _ _ (by omega), a1 _ _ (by omega)]; exact hW.1 h hh) z1
  have a3 := a1.trans a2
  have hone : nI 1 <<< (M 0 7 &&& nI 31) = nI (2 ^ d_nh (FAa A)) := by rw [hY.2.2.1.1]; exact bi_one (by omega)
  have hs : nI (2 ^ d_nh (FAa A)) - nI 1 = nI (2 ^ d_nh (FAa A) - 1) := cn_sub hN1
  refine ⟨M2, y_metS hone f1 f2 ?_ ?_, hY.1.sc (a3.mono (fun k j q => by simp only [PY]; omega)), hY.2.eq (fun k j q => a3 _ _ (by omega))⟩
  · show cb_in (nI (2 ^ d_nh (FAa A)) - nI 1) 256 = true
    rw [hs, cn_in (by omega)]
    omega
  · show M2 19 (nI (2 ^ d_nh (FAa A)) - nI 1).toNatClampNeg = _
    rw [hs, cn_cl (by omega), z2 _ (by omega)]
    rfl
theorem C_met : cs_met cRel := by
  rintro MX MY ⟨A, hA, hX, hY⟩
  obtain ⟨MY1, fy, ay, wy⟩ := y_findA hA hY
  obtain ⟨MX1, fx, ax⟩ := x_met hA hX
  obtain ⟨MY2, gy, ay2⟩ := y_metNow ay wy
  refine ⟨_, MX1, MY2, fx, ?_, A, hA, ax, ay2.1⟩
  simp (disch := first | omega | trivial) only [f_X7_met, li, fy, Option.bind_some, gy, cb_bind2_eq]
