/-! masks by their bits; counts -/
def mkN (p : Nat → Bool) : Nat → Nat
  | 0 => 0
  | n + 1 => mkN p n + (if p n = true then 2 ^ n else 0)
theorem mkN_eq : ∀ {n b : Nat} {p : Nat → Bool}, b < 2 ^ n → (∀ j, j < n → b.testBit j = p j) → b = mkN p n
  | 0, b, p, h, _ => by
    have : b < 1 := h
    show b = 0
    omega
  | n + 1, b, p, h, hb => by
    have h1 : b % 2 ^ n = mkN p n := mkN_eq (Nat.mod_lt _ (Nat.two_pow_pos n)) (fun j hj => by rw [Nat.testBit_mod_two_pow, decide_eq_true hj, Bool.true_and]; exact hb j (by omega))
    have h2 := hb n (by omega)
    rw [Nat.testBit_eq_decide_div_mod_eq] at h2
    have h3 : b / 2 ^ n < 2 := by
      rw [Nat.div_lt_iff_lt_mul (Nat.two_pow_pos n)]
      rw [Nat.pow_succ] at h
      omega
    have h4 := Nat.div_add_mod b (2 ^ n)
    rw [mkN, ← h1, ← h2]
    rcases (show b / 2 ^ n = 0 ∨ b / 2 ^ n = 1 by revert h3; generalize b / 2 ^ n = q; omega) with e | e
    · rw [e, Nat.mul_zero, Nat.zero_add] at h4
      rw [e, if_neg (by decide), Nat.add_zero]
      exact h4.symm
    · rw [e, Nat.mul_one] at h4
      rw [e, if_pos (by decide), Nat.add_comm]
      exact h4.symm
theorem msk_val {n : Nat} {x : Int32} {p : Nat → Bool} (h : msk n x p) : x = nI (mkN p n) := by
  obtain ⟨b, h1, rfl, h3⟩ := h
  rw [← mkN_eq h1 h3]
theorem sumN_congr {f g : Nat → Nat} : ∀ {n : Nat}, (∀ k, k < n → f k = g k) → sumN f n = sumN g n
  | 0, _ => rfl
  | n + 1, h => by rw [sumN, sumN, sumN_congr (fun k hk => h k (by omega)), h n (by omega)]
theorem sumN_add {f g : Nat → Nat} : ∀ {n : Nat}, sumN f n + sumN g n = sumN (fun k => f k + g k) n
  | 0 => rfl
  | n + 1 => by
    have := sumN_add (f := f) (g := g) (n := n)
    rw [sumN, sumN, sumN, ← this]
    omega
theorem sumN_le {f g : Nat → Nat} : ∀ {n : Nat}, (∀ k, k < n → f k ≤ g k) → sumN f n ≤ sumN g n
  | 0, _ => Nat.le_refl _
  | n + 1, h => by
    have h1 := sumN_le (f := f) (g := g) (n := n) (fun k hk => h k (by omega))
    have h2 := h n (by omega)
    rw [sumN, sumN]
    omega
def cntN (p : Nat → Bool) (n : Nat) : Nat := sumN (fun j => if p j = true then 1 else 0) n
theorem cntN_congr {p q : Nat → Bool} {n : Nat} (h : ∀ k, k < n → p k = q k) : cntN p n = cntN q n := sumN_congr (fun k hk => by rw [h k hk])
theorem cntN_lt {m : Nat} : ∀ {n : Nat}, cntN (fun j => decide (j < m)) n = min m n
  | 0 => by rw [Nat.min_zero]; rfl
  | n + 1 => by
    have := cntN_lt (m := m) (n := n)
    show cntN (fun j => decide (j < m)) n + _ = _
    rw [this]
    by_cases e : n < m
    · simp only [decide_eq_true e, if_true]; omega
    · simp only [decide_eq_false e, Bool.false_eq_true, if_false]; omega
theorem cntN_le {p : Nat → Bool} : ∀ {n : Nat}, cntN p n ≤ n
  | 0 => Nat.le_refl _
  | n + 1 => by
    have := cntN_le (p := p) (n := n)
    show cntN p n + _ ≤ _
    dsimp only
    split <;> omega
theorem bc8 : ∀ b, b < 256 → f_J6_bitCount_0f7a4 (nI b) = nI (cntN b.testBit 8) := by decide +kernel
theorem on8 : ∀ b, b < 256 → f_X7_ones (nI b) = some (nI (cntN b.testBit 8)) := by decide +kernel
theorem msk_bc {x : Int32} {p : Nat → Bool} (h : msk 8 x p) : f_J6_bitCount_0f7a4 x = nI (cntN p 8) := by
  obtain ⟨b, h1, rfl, h3⟩ := h
  rw [bc8 b h1, cntN_congr h3]
theorem msk_on {x : Int32} {p : Nat → Bool} (h : msk 8 x p) : f_X7_ones x = some (nI (cntN p 8)) := by
  obtain ⟨b, h1, rfl, h3⟩ := h
  rw [on8 b h1, cntN_congr h3]
/-! who goes without -/
def wiB (F : FD) (c : Nat) : Bool := decide (c < d_nc F) && ((wk F).1 c).isNone
def nwN (F : FD) : Nat := cntN (wiB F) 8
theorem nwN_le (F : FD) : nwN F ≤ 8 := cntN_le
theorem nwN_eq {F : FD} (hF : WF F) : cntN (fun c => ((wk F).1 c).isSome) 8 + nwN F = d_nc F := by
  have c8 : d_nc F ≤ 8 := hF.2.1
  have h : cntN (fun j => decide (j < d_nc F)) 8 = d_nc F := by rw [cntN_lt]; omega
  rw [← h]
  unfold nwN cntN
  rw [sumN_add]
  apply sumN_congr
  intro k _
  unfold wiB
  cases e : (wk F).1 k with
  | none => by_cases q : k < d_nc F <;> simp [q, e]
  | some p =>
    have := ((wk_ok F).1.1 k p e).1
    simp [this, e]
theorem x_nw {M : cb_Mem} {F : FD} (hF : WF F) (hM : xFd M F) (hW : xWk M F) : f_X6_numberWithout M = nI (nwN F) := by
  have h1 := msk_bc hW.2.2.2.1
  have h2 := nwN_eq hF
  have c8 : d_nc F ≤ 8 := hF.2.1
  simp (disch := first | omega | trivial) only [f_X6_numberWithout, h1, cb_let_eq, hM.2.1, cn_sub]
  congr 1
  omega
theorem msk_if {n k : Nat} {b : Bool} (hk : k < n) (hn : n ≤ 30) : msk n (if b = true then nI 1 <<< (nI k &&& nI 31) else nI 0) (fun j => b && decide (j = k)) := by
  cases b with
  | false => rw [if_neg (by decide)]; exact msk_0.cong (fun j _ => rfl)
  | true =>
    rw [if_pos rfl]
    refine ⟨2 ^ k, Nat.pow_lt_pow_right (by decide) hk, by rw [bi_one (by omega)], fun j _ => ?_⟩
    by_cases e : j = k
    · subst e; simp [Nat.testBit_two_pow_self]
    · simp [Nat.testBit_two_pow_of_ne (Ne.symm e), e]
theorem y_wo {M : cb_Mem} {F : FD} {w1 : List Nat} (hF : WF F) (h9 : M 0 9 = nI (d_nc F)) (hS : mS M F w1 (wk F)) : ∃ x, f_X7_withoutNow M = some x ∧ msk 8 x (wiB F) := by
  have c8 : d_nc F ≤ 8 := hF.2.1
  suffices hL : ∃ r, f_X7_withoutNow_L4 cb_fuel (nI 0) (nI 0) M = some r ∧ msk 8 r (wiB F) by
    obtain ⟨r, h1, h2⟩ := hL
    exact ⟨r, by simp only [f_X7_withoutNow, li, h1, Option.bind_some], h2⟩
  refine cb_loop0 (fun m k (s : Int32) => f_X7_withoutNow_L4 m s (nI k) M) (fun k s => msk 8 s (fun j => decide (j < k) && ((wk F).1 j).isNone)) (d_nc F) _ (nI 0) (by omega) (msk_0.cong (fun j _ => by simp)) ?_ ?_
  · intro m s hs
    exact ⟨s, by rw [f_X7_withoutNow_L4, h9, if_pos (by rw [cn_le (by omega) (by omega)]; omega)], hs⟩
  · intro m k s hk hs
    right
    have e16 := (hS.1 k hk).1
    refine ⟨s ||| (if ((wk F).1 k).isNone = true then nI 1 <<< (nI k &&& nI 31) else nI 0), ?_, ?_⟩
    · refine (msk_or hs (msk_if (show k < 8 by omega) (by omega))).cong (fun j hj => ?_)
      by_cases e : j = k
      · subst e
        simp
      · have : (j < k + 1) = (j < k) := propext (by omega)
        simp [e, this]
    · cases e : (wk F).1 k with
      | none =>
        rw [e] at e16
        have e16' : M 16 k = -nI 1 := e16
        simp (disch := first | omega | trivial) only [f_X7_withoutNow_L4, li, h9, cn_le, if_neg, cn_in, cn_cl, if_pos, e16', cb_let_eq, cn_add, Option.isNone_none]
      | some p =>
        rw [e] at e16
        have e16' : M 16 k = nI p.1 := e16
        have p8 := ((wk_ok F).1.1 k p e).2.1
        have h8 : d_nh F ≤ 8 := hF.1
        simp (disch := first | omega | trivial) only [f_X7_withoutNow_L4, li, h9, cn_le, if_neg, cn_in, cn_cl, if_pos, e16', cn_eq1, if_false, cb_let_eq, cn_add, Option.isNone_some, Bool.false_eq_true]
theorem bi_comm (a b : Int32) : a &&& b = b &&& a := bi_ext (by rw [Int32.toBitVec_and, Int32.toBitVec_and, BitVec.and_comm])
theorem msk_low {n : Nat} (hn : n ≤ 8) : msk 8 (nI (2 ^ n - 1)) (fun j => decide (j < n)) := by
  have h1 : 2 ^ n ≤ 2 ^ 8 := Nat.pow_le_pow_right (by decide) hn
  have h2 := Nat.two_pow_pos n
  exact ⟨2 ^ n - 1, by omega, rfl, fun j _ => Nat.testBit_two_pow_sub_one n j⟩
theorem x_without {M : cb_Mem} {A : AS} (hA : AOK A) (hX : XS M A) : ∃ M', f_X6_without M = some (nI (mkN (wiB (FAa A)) 8), M') ∧ XS M' A := by
  obtain ⟨M1, fx, ax, b1, b2⟩ := x_walkA hA hX
  have c8 := A_nc hA
  have h2 := Nat.two_pow_pos (d_nc (FAa A))
  refine ⟨M1, ?_, ax⟩
  have hm : msk 8 ((M1 4 9 ^^^ (-nI 1)) &&& nI (2 ^ d_nc (FAa A) - 1)) (wiB (FAa A)) := by
    rw [bi_comm]
    refine (msk_andn (msk_low c8) b2.2.2.2.1).cong (fun j _ => ?_)
    unfold wiB
    cases (wk (FAa A)).1 j <;> simp
  have hv := msk_val hm
  simp (disch := first | omega | trivial) only [f_X6_without, li, fx, Option.bind_some, b1.2.1, bi_one, cn_sub, hv]
theorem C_without : cs_without cRel := by
  rintro MX MY ⟨A, hA, hX, hY⟩
  obtain ⟨MY1, fy, ay, wy⟩ := y_findA hA hY
  obtain ⟨MX1, fx, ax⟩ := x_without hA hX
  obtain ⟨x, gy, hm⟩ := y_wo ay.2.1 ay.2.2.1.2.1 wy.2
  rw [msk_val hm] at gy
  refine ⟨_, MX1, MY1, fx, ?_, A, hA, ax, ay.1⟩
  simp (disch := first | omega | trivial) only [f_X7_without, li, fy, Option.bind_some, gy]
/-! who was first out of turn -/
theorem x_still {M : cb_Mem} {F : FD} (hW : xWk M F) {q c : Nat} (hq : q < 8) (hc : c < 8) {p : Nat × Nat} (e : (wk F).1 c = some p) : f_X5_isStillWithout (nI q) (nI c) M = some (b2i (swB (wk F) p.2 c q)) := by
  have e25 := (hW.2.2.2.2 c hc).2
  rw [e] at e25
  have e25' : M 25 c = nI p.2 := e25
  have p40 := ((wk_ok F).1.1 c p e).2.2.1
  have d25 := (hW.2.2.2.2 q hq).2
  cases eq : (wk F).1 q with
  | none =>
    rw [eq] at d25
    have d25' : M 25 q = -nI 1 := d25
    rw [swB_none eq]
    simp (disch := first | omega | trivial) only [f_X5_isStillWithout, li, cn_in, cn_cl, if_pos, d25']
    rfl
  | some r =>
    rw [eq] at d25
    have d25' : M 25 q = nI r.2 := d25
    have r40 := ((wk_ok F).1.1 q r eq).2.2.1
    rw [swB_some eq]
    by_cases q1 : r.2 ≤ p.2
    · by_cases q2 : r.2 = p.2
      · by_cases q3 : q ≤ c
        · rw [decide_eq_false (by omega)]
          simp (disch := first | omega | trivial) only [f_X5_isStillWithout, li, cn_in, cn_cl, if_pos, d25', e25', cn_eq1, if_false, cn_le, cn_eq]
          rfl
        · rw [decide_eq_true (by omega)]
          simp (disch := first | omega | trivial) only [f_X5_isStillWithout, li, cn_in, cn_cl, if_pos, if_neg, d25', e25', cn_eq1, if_false, cn_le, cn_eq]
          rfl
      · rw [decide_eq_false (by omega)]
        simp (disch := first | omega | trivial) only [f_X5_isStillWithout, li, cn_in, cn_cl, if_pos, if_neg, d25', e25', cn_eq1, if_false, cn_le, cn_eq]
        rfl
    · rw [decide_eq_true (by omega)]
      simp (disch := first | omega | trivial) only [f_X5_isStillWithout, li, cn_in, cn_cl, if_pos, if_neg, d25', e25', cn_eq1, if_false, cn_le]
      rfl
theorem x_comesOn {M : cb_Mem} {F : FD} (hF : WF F) (hM : xFd M F) {c d : Nat} (hc : c < d_nc F) (hd : d < 64) : f_X1_comesOn (nI c) (nI d) M = some (b2i (cmB F c d)) := by
  have c8 : d_nc F ≤ 8 := hF.2.1
  obtain ⟨-, g2, g3⟩ := hM.2.2.2.2.2 c hc
  have b1 := hF.2.2.2.1 c hc
  unfold cmB
  by_cases q1 : d < d_frm F c
  · rw [decide_eq_false (by omega)]
    simp (disch := first | omega | trivial) only [f_X1_comesOn, li, cn_in, cn_cl, if_pos, g2, cn_lt]
    rfl
  · by_cases q2 : d_frm F c + d_sty F c ≤ d
    · rw [decide_eq_false (by omega)]
      simp (disch := first | omega | trivial) only [f_X1_comesOn, li, cn_in, cn_cl, if_pos, if_neg, g2, g3, cn_lt, cn_add, cn_le]
      rfl
    · rw [decide_eq_true (by omega)]
      simp (disch := first | omega | trivial) only [f_X1_comesOn, li, cn_in, cn_cl, if_pos, if_neg, g2, g3, cn_lt, cn_add, cn_le]
      rfl
theorem x_wanted {M : cb_Mem} {F : FD} (hF : WF F) (hM : xFd M F) {c h : Nat} (hc : c < d_nc F) (hh : h < d_nh F) : f_X1_isWantedBy (nI c) (nI (d_srt F h)) M = some (b2i (wtB F c h)) := by
  have c8 : d_nc F ≤ 8 := hF.2.1
  obtain ⟨g1, -⟩ := hM.2.2.2.2.2 c hc
  have b1 := hF.2.2.2.1 c hc
  have b2 := hF.2.2.1 h hh
  unfold wtB
  by_cases q1 : d_wnt F c = 3
  · rw [decide_eq_true (Or.inl q1)]
    simp (disch := first | omega | trivial) only [f_X1_isWantedBy, li, cn_in, cn_cl, if_pos, cb_let_eq, g1, cn_eq]
    rfl
  · by_cases q2 : d_wnt F c = d_srt F h
    · rw [decide_eq_true (Or.inr q2)]
      simp (disch := first | omega | trivial) only [f_X1_isWantedBy, li, cn_in, cn_cl, if_pos, if_neg, cb_let_eq, g1, cn_eq]
      rfl
    · rw [decide_eq_false (fun z => z.elim q1 q2)]
      simp (disch := first | omega | trivial) only [f_X1_isWantedBy, li, cn_in, cn_cl, if_pos, if_neg, cb_let_eq, g1, cn_eq]
      rfl
theorem x_isOut {M : cb_Mem} {F : FD} (hF : WF F) (hM : xFd M F) (hW : xWk M F) {c : Nat} {p : Nat × Nat} (e : (wk F).1 c = some p) : f_X5_isOutOfTurn (nI c) M = some (b2i (outB F (wk F) c)) := by
  have c8 : d_nc F ≤ 8 := hF.2.1
  have h8 : d_nh F ≤ 8 := hF.1
  obtain ⟨hc, p8, p40, -⟩ := (wk_ok F).1.1 c p e
  obtain ⟨e24, e25⟩ := hW.2.2.2.2 c (by omega)
  rw [e] at e24 e25
  have e24' : M 24 c = nI p.1 := e24
  have e25' : M 25 c = nI p.2 := e25
  have g16 := (hM.2.2.2.1 p.1 p8).1
  have g19 := (hM.2.2.2.2.2 c hc).2.1
  have bc := hF.2.2.2.1 c hc
  rw [outB_some e]
  suffices hL : ∃ r, f_X5_isOutOfTurn_L15 cb_fuel (nI c) (nI (d_srt F p.1)) (nI 0) M = some r ∧ (if anyN (fun q => decide (d_frm F q < d_frm F c) && (cmB F q p.2 && (wtB F q p.1 && swB (wk F) p.2 c q))) (d_nc F) = true then r = Sum.inl (nI 1) else r = Sum.inr ()) by
    obtain ⟨r, h1, h2⟩ := hL
    cases ea : anyN (fun q => decide (d_frm F q < d_frm F c) && (cmB F q p.2 && (wtB F q p.1 && swB (wk F) p.2 c q))) (d_nc F) with
    | true =>
      rw [if_pos ea] at h2
      rw [h2] at h1
      simp (disch := first | omega | trivial) only [f_X5_isOutOfTurn, li, cn_in, cn_cl, if_pos, cb_let_eq, e24', g16, h1, cb_bs_r]
      rfl
    | false =>
      rw [if_neg (by rw [ea]; decide)] at h2
      rw [h2] at h1
      simp (disch := first | omega | trivial) only [f_X5_isOutOfTurn, li, cn_in, cn_cl, if_pos, cb_let_eq, e24', g16, h1, cb_bs_k]
      rfl
  refine cb_loop0 (fun m k (_ : Unit) => f_X5_isOutOfTurn_L15 m (nI c) (nI (d_srt F p.1)) (nI k) M) (fun k _ => anyN (fun q => decide (d_frm F q < d_frm F c) && (cmB F q p.2 && (wtB F q p.1 && swB (wk F) p.2 c q))) k = false) (d_nc F) _ () (by omega) rfl ?_ ?_
  · intro m s hs
    refine ⟨Sum.inr (), by rw [f_X5_isOutOfTurn_L15, hM.2.1, if_pos (by rw [cn_le (by omega) (by omega)]; omega)], ?_⟩
    rw [if_neg (by rw [hs]; decide)]
  · intro m k s hk hs
    have k19 := (hM.2.2.2.2.2 k hk).2.1
    have bk := hF.2.2.2.1 k hk
    have r1 := x_comesOn hF hM hk (show p.2 < 64 by omega)
    have r2 := x_wanted hF hM hk p8
    have r3 := x_still hW (show k < 8 by omega) (show c < 8 by omega) e
    have inv : (decide (d_frm F k < d_frm F c) && (cmB F k p.2 && (wtB F k p.1 && swB (wk F) p.2 c k))) = false → anyN (fun q => decide (d_frm F q < d_frm F c) && (cmB F q p.2 && (wtB F q p.1 && swB (wk F) p.2 c q))) (k + 1) = false := by
      intro z
      rw [anyN, hs, Bool.false_or]
      exact z
    by_cases a1 : d_frm F k < d_frm F c
    · cases a2 : cmB F k p.2 with
      | false =>
        rw [a2] at r1
        right
        refine ⟨(), inv (by rw [a2]; simp), ?_⟩
        simp (disch := first | omega | trivial) only [f_X5_isOutOfTurn_L15, li, hM.2.1, cn_le, if_neg, cn_in, cn_cl, if_pos, cb_let_eq, g19, k19, e25', r1, Option.bind_some, b2i_0, cn_add]
      | true =>
        rw [a2] at r1
        cases a3 : wtB F k p.1 with
        | false =>
          rw [a3] at r2
          right
          refine ⟨(), inv (by rw [a3]; simp), ?_⟩
          simp (disch := first | omega | trivial) only [f_X5_isOutOfTurn_L15, li, hM.2.1, cn_le, if_neg, cn_in, cn_cl, if_pos, cb_let_eq, g19, k19, e25', r1, r2, Option.bind_some, b2i_0, Bool.true_eq_false, if_false, cn_add]
        | true =>
          rw [a3] at r2
          cases a4 : swB (wk F) p.2 c k with
          | false =>
            rw [a4] at r3
            right
            refine ⟨(), inv (by rw [a4]; simp), ?_⟩
            simp (disch := first | omega | trivial) only [f_X5_isOutOfTurn_L15, li, hM.2.1, cn_le, if_neg, cn_in, cn_cl, if_pos, cb_let_eq, g19, k19, e25', r1, r2, r3, Option.bind_some, b2i_0, Bool.true_eq_false, if_false, cn_add]
          | true =>
            rw [a4] at r3
            left
            refine ⟨Sum.inl (nI 1), ?_, ?_⟩
            · simp (disch := first | omega | trivial) only [f_X5_isOutOfTurn_L15, li, hM.2.1, cn_le, if_neg, cn_in, cn_cl, if_pos, cb_let_eq, g19, k19, e25', r1, r2, r3, Option.bind_some, b2i_0, Bool.true_eq_false, if_false]
            · rw [if_pos]
              rw [anyN_iff]
              exact ⟨k, hk, by simp [a1, a2, a3, a4]⟩
    · right
      refine ⟨(), inv (by rw [decide_eq_false a1]; rfl), ?_⟩
      simp (disch := first | omega | trivial) only [f_X5_isOutOfTurn_L15, li, hM.2.1, cn_le, if_neg, cn_in, cn_cl, if_pos, cb_let_eq, g19, k19, cn_add]
def foI (F : FD) (k : Nat) (s : Option Nat) : Prop := match s with
  | none => ∀ c, c < k → outB F (wk F) c = false
  | some q => q < k ∧ outB F (wk F) q = true ∧ ∃ r, (wk F).1 q = some r ∧ ∀ c p, c < k → (wk F).1 c = some p → outB F (wk F) c = true → r.2 < p.2 ∨ (r.2 = p.2 ∧ q ≤ c)
theorem foI_stay {F : FD} {k : Nat} {s : Option Nat} (h : foI F k s) (hk : outB F (wk F) k = false) : foI F (k + 1) s := by
  cases s with
  | none =>
    intro c hc
    by_cases e : c = k
    · rw [e]; exact hk
    · exact h c (by omega)
  | some q =>
    obtain ⟨h1, h2, r, h3, h4⟩ := h
    refine ⟨by omega, h2, r, h3, fun c p hc hp ho => ?_⟩
    by_cases e : c = k
    · rw [e, hk] at ho; cases ho
    · exact h4 c p (by omega) hp ho
theorem x_first {M : cb_Mem} {F : FD} (hF : WF F) (hM : xFd M F) (hW : xWk M F) : f_X5_firstOutOfTurn M = some (eP1 (wk F).2.2) := by
  have c8 : d_nc F ≤ 8 := hF.2.1
  obtain ⟨ok, tr⟩ := wk_ok F
  suffices hL : ∃ r, f_X5_firstOutOfTurn_L4 cb_fuel (-nI 1) (nI 0) M = some r ∧ r = eP1 (wk F).2.2 by
    obtain ⟨r, h1, h2⟩ := hL
    rw [h2] at h1
    simp only [f_X5_firstOutOfTurn, li, h1, Option.bind_some]
  refine cb_loop0 (fun m k (s : Option Nat) => f_X5_firstOutOfTurn_L4 m (eO s) (nI k) M) (fun k s => foI F k s) (d_nc F) _ none (by omega) (fun c hc => absurd hc (Nat.not_lt_zero c)) ?_ ?_
  · intro m s hs
    refine ⟨eO s, by rw [f_X5_firstOutOfTurn_L4, hM.2.1, if_pos (by rw [cn_le (by omega) (by omega)]; omega)], ?_⟩
    unfold trS at tr
    cases et : (wk F).2.2 with
    | none =>
      rw [et] at tr
      dsimp only at tr
      cases s with
      | none => rfl
      | some q =>
        obtain ⟨-, h2, -⟩ := hs
        rw [tr q] at h2
        cases h2
    | some t =>
      rw [et] at tr
      dsimp only at tr
      obtain ⟨⟨th, t1⟩, t2, t3⟩ := tr
      have t4 := (ok.1 _ _ t1).1
      cases s with
      | none => rw [hs t.1 t4] at t2; cases t2
      | some q =>
        obtain ⟨h1, h2, r, h3, h4⟩ := hs
        have a := t3 q r h3 h2
        have b := h4 t.1 _ t4 t1 t2
        dsimp only at b
        have : q = t.1 := by omega
        subst this
        rfl
  · intro m k s hk hs
    right
    obtain ⟨e24, e25⟩ := hW.2.2.2.2 k (by omega)
    cases e : (wk F).1 k with
    | none =>
      rw [e] at e24
      have e24' : M 24 k = -nI 1 := e24
      refine ⟨s, foI_stay hs (outB_none e), ?_⟩
      simp (disch := first | omega | trivial) only [f_X5_firstOutOfTurn_L4, li, hM.2.1, cn_le, if_neg, cn_in, cn_cl, if_pos, e24', Option.bind_some, cn_add]
    | some p =>
      rw [e] at e24 e25
      have e24' : M 24 k = nI p.1 := e24
      have e25' : M 25 k = nI p.2 := e25
      obtain ⟨-, p8, p40, -⟩ := ok.1 k p e
      have h8 : d_nh F ≤ 8 := hF.1
      have ho := x_isOut hF hM hW e
      cases eo : outB F (wk F) k with
      | false =>
        rw [eo] at ho
        refine ⟨s, foI_stay hs eo, ?_⟩
        simp (disch := first | omega | trivial) only [f_X5_firstOutOfTurn_L4, li, hM.2.1, cn_le, if_neg, cn_in, cn_cl, if_pos, e24', cn_eq1, if_false, ho, b2i_0, Option.bind_some, cn_add]
      | true =>
        rw [eo] at ho
        cases s with
        | none =>
          refine ⟨some k, ⟨by omega, eo, p, e, fun c p' hc hp ho' => ?_⟩, ?_⟩
          · by_cases ec : c = k
            · rw [ec, e] at hp
              cases hp
              exact Or.inr ⟨rfl, by omega⟩
            · have := hs c (by omega)
              rw [ho'] at this
              cases this
          · have en : eO none = -nI 1 := rfl
            have es : eO (some k) = nI k := rfl
            simp (disch := first | omega | trivial) only [f_X5_firstOutOfTurn_L4, li, hM.2.1, cn_le, if_neg, cn_in, cn_cl, if_pos, e24', cn_eq1, if_false, ho, b2i_0, Bool.true_eq_false, Option.bind_some, cn_add, en, es, cb_let_eq]
        | some q =>
          obtain ⟨h1, h2, r, h3, h4⟩ := hs
          have d25 := (hW.2.2.2.2 q (by omega)).2
          rw [h3] at d25
          have d25' : M 25 q = nI r.2 := d25
          have r40 := (ok.1 q r h3).2.2.1
          have eq' : eO (some q) = nI q := rfl
          have es : eO (some k) = nI k := rfl
          by_cases ql : r.2 ≤ p.2
          · refine ⟨some q, ⟨by omega, h2, r, h3, fun c p' hc hp ho' => ?_⟩, ?_⟩
            · by_cases ec : c = k
              · rw [ec, e] at hp
                cases hp
                omega
              · exact h4 c p' (by omega) hp ho'
            · simp (disch := first | omega | trivial) only [f_X5_firstOutOfTurn_L4, li, hM.2.1, cn_le, if_neg, cn_in, cn_cl, if_pos, e24', cn_eq1, if_false, ho, b2i_0, Bool.true_eq_false, Option.bind_some, cn_add, eq', cb_let_eq, d25', e25']
          · refine ⟨some k, ⟨by omega, eo, p, e, fun c p' hc hp ho' => ?_⟩, ?_⟩
            · by_cases ec : c = k
              · rw [ec, e] at hp
                cases hp
                exact Or.inr ⟨rfl, by omega⟩
              · have := h4 c p' (by omega) hp ho'
                omega
            · simp (disch := first | omega | trivial) only [f_X5_firstOutOfTurn_L4, li, hM.2.1, cn_le, if_neg, cn_in, cn_cl, if_pos, e24', cn_eq1, if_false, ho, b2i_0, Bool.true_eq_false, Option.bind_some, cn_add, eq', es, cb_let_eq, d25', e25']
def trV (F : FD) (i : Nat) : Int32 := if i = 0 then eP1 (wk F).2.2 else eP2 (wk F).2.2
theorem x_turn {M : cb_Mem} {A : AS} (hA : AOK A) (hX : XS M A) {i : Nat} (hi : i < 2) : ∃ M', f_X6_turn (nI i) M = some (trV (FAa A) i, M') ∧ XS M' A := by
  obtain ⟨M1, fx, ax, b1, b2⟩ := x_walkA hA hX
  have o1 := v_isOff_in hi (by omega)
  have hf := x_first (WF_FA hA) b1 b2
  have c8 := A_nc hA
  refine ⟨M1, ?_, ax⟩
  rcases (show i = 0 ∨ i = 1 by omega) with e | e <;> subst e
  · simp (disch := first | omega | trivial) only [f_X6_turn, li, o1, cb_let_eq, if_pos, fx, Option.bind_some, hf, trV]
  · unfold trV
    cases e : (wk (FAa A)).2.2 with
    | none =>
      rw [e] at hf
      have hf' : f_X5_firstOutOfTurn M1 = some (-nI 1) := hf
      simp (disch := first | omega | trivial) only [f_X6_turn, li, o1, cb_let_eq, if_pos, fx, Option.bind_some, hf', c_1n0, if_false]
      rfl
    | some t =>
      rw [e] at hf
      have hf' : f_X5_firstOutOfTurn M1 = some (nI t.1) := hf
      obtain ⟨ok, tr⟩ := wk_ok (FAa A)
      unfold trS at tr
      rw [e] at tr
      obtain ⟨⟨th, t1⟩, -⟩ := tr
      have t4 := (ok.1 _ _ t1).1
      have e25 := (b2.2.2.2.2 t.1 (by omega)).2
      rw [t1] at e25
      have e25' : M1 25 t.1 = nI t.2 := e25
      simp (disch := first | omega | trivial) only [f_X6_turn, li, o1, cb_let_eq, if_pos, fx, Option.bind_some, hf', c_1n0, if_false, cn_eq1, cn_in, cn_cl, e25']
      rfl
theorem C_turn : cs_turn cRel := by
  rintro MX MY p1 ⟨A, hA, hX, hY⟩
  obtain ⟨MY1, fy, ay, wy⟩ := y_findA hA hY
  have hRy : cRel MX MY1 := ⟨A, hA, hX, ay.1⟩
  rcases cn_range p1 2 with ⟨i, hi, rfl⟩ | h1
  · have o3 := v_two hi
    obtain ⟨MX1, fx, ax⟩ := x_turn hA hX hi
    obtain ⟨t1, t2⟩ := wy.2.2.2
    refine ⟨_, MX1, MY1, fx, ?_, A, hA, ax, ay.1⟩
    rcases (show i = 0 ∨ i = 1 by omega) with e | e <;> subst e
    · simp (disch := first | omega | trivial) only [f_X7_turn, li, fy, Option.bind_some, o3, cb_let_eq, c_1n0, if_false, if_pos, t1, trV]
    · simp (disch := first | omega | trivial) only [f_X7_turn, li, fy, Option.bind_some, o3, cb_let_eq, c_1n0, if_false, t2, trV]
      rfl
  · have o1 := v_isOff_out h1 (by omega)
    have o3 := v_twoN h1
    refine ⟨-nI 2, MX, MY1, ?_, ?_, hRy⟩
    · simp (disch := first | omega | trivial) only [f_X6_turn, li, o1, cb_let_eq, c_1n0, if_false]
    · simp (disch := first | omega | trivial) only [f_X7_turn, li, fy, Option.bind_some, o3, cb_let_eq, if_pos]
