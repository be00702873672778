/-! keep -/
def fdL (p : Nat → Bool) : List Nat → Option Nat
  | [] => none
  | g :: l => if p g = true then some g else fdL p l
theorem fdL_filter {z : Nat} {p : Nat → Bool} : ∀ {l : List Nat}, fdL (fun g => decide (g < z) && p g) l = fdL p (l.filter (fun g => decide (g < z)))
  | [] => rfl
  | g :: l => by
    rw [fdL, List.filter_cons, fdL_filter]
    by_cases e : g < z
    · simp only [decide_eq_true e, Bool.true_and, if_true, fdL]
    · simp only [decide_eq_false e, Bool.false_and, Bool.false_eq_true, if_false]
theorem fdL_mem {p : Nat → Bool} {g : Nat} : ∀ {l : List Nat}, fdL p l = some g → g ∈ l ∧ p g = true
  | [], h => by cases h
  | x :: l, h => by
    rw [fdL] at h
    by_cases e : p x = true
    · rw [if_pos e] at h; cases h; exact ⟨List.mem_cons_self, e⟩
    · rw [if_neg e] at h
      have := fdL_mem h
      exact ⟨List.mem_cons_of_mem _ this.1, this.2⟩
theorem fdL_app {p : Nat → Bool} : ∀ {l l' : List Nat}, fdL p (l ++ l') = match fdL p l with | none => fdL p l' | some g => some g
  | [], l' => rfl
  | x :: l, l' => by
    rw [List.cons_append, fdL, fdL, fdL_app]
    by_cases e : p x = true
    · rw [if_pos e, if_pos e]
    · rw [if_neg e, if_neg e]
def KL : List Nat := [0, 1, 2, 4, 8, 16, 32, 64, 128, 3, 5, 9, 17, 33, 65, 129, 6, 10, 18, 34, 66, 130, 12, 20, 36, 68, 132, 24, 40, 72, 136, 48, 80, 144, 96, 160, 192]
theorem kl_kept : ∀ j, j < 37 → cb_kept.getD j (nI 0) = nI (KL.getD j 0) ∧ KL.getD j 0 < 256 := by decide +kernel
theorem kl_drop : ∀ j, j < 37 → KL.drop j = KL.getD j 0 :: KL.drop (j + 1) := by decide +kernel
def sg1 : Nat → Nat → List Nat
  | 0, _ => []
  | d + 1, k => 2 ^ k :: sg1 d (k + 1)
def pr1 (a : Nat) : Nat → Nat → List Nat
  | 0, _ => []
  | d + 1, b => (2 ^ a ||| 2 ^ b) :: pr1 a d (b + 1)
def pr2 (n : Nat) : Nat → Nat → List Nat
  | 0, _ => []
  | d + 1, a => pr1 a (n - (a + 1)) (a + 1) ++ pr2 n d (a + 1)
def kRL (n : Nat) : List Nat := 0 :: (sg1 n 0 ++ pr2 n n 0)
theorem kl_RL : ∀ n, n < 9 → KL.filter (fun g => decide (g < 2 ^ n)) = kRL n := by decide +kernel
def lbI (x : Int32) : Int32 := (f_X6_leastBit x).getD 0
theorem kl_lb : ∀ g, g ∈ KL → g < 256 ∧ f_X6_leastBit (nI g) = some (lbI (nI g)) ∧ f_X6_leastBit (nI g &&& (nI g - nI 1)) = some (lbI (nI g &&& (nI g - nI 1))) := by decide +kernel
def kpA (q : Int32) (o : Option Nat) : Int32 := match o with
  | none => -nI 1
  | some g => if q = -nI 1 then f_J6_bitCount_0f7a4 (nI g) else if q = nI 0 then lbI (nI g) else lbI (nI g &&& (nI g - nI 1))
theorem kp_0 : f_J6_bitCount_0f7a4 (nI 0) = nI 0 ∧ lbI (nI 0) = -nI 1 ∧ lbI (nI 0 &&& (nI 0 - nI 1)) = -nI 1 := by decide +kernel
theorem kp_1 : ∀ a, a < 8 → f_J6_bitCount_0f7a4 (nI (2 ^ a)) = nI 1 ∧ lbI (nI (2 ^ a)) = nI a ∧ lbI (nI (2 ^ a) &&& (nI (2 ^ a) - nI 1)) = -nI 1 := by decide +kernel
theorem kp_2 : ∀ b, b < 8 → ∀ a, a < b → f_J6_bitCount_0f7a4 (nI (2 ^ a ||| 2 ^ b)) = nI 2 ∧ lbI (nI (2 ^ a ||| 2 ^ b)) = nI a ∧ lbI (nI (2 ^ a ||| 2 ^ b) &&& (nI (2 ^ a ||| 2 ^ b) - nI 1)) = nI b := by decide +kernel
theorem kp_l : ∀ b, b < 8 → ∀ a, a < 8 → 2 ^ a ||| 2 ^ b < 256 := by decide +kernel
def mtB (F : FD) (rs : List (Nat × Nat)) (c g : Nat) : Bool := ((wk (srF F (rbF rs g))).1 c).isSome
def kpF (F : FD) (rs : List (Nat × Nat)) (c : Nat) : Option Nat := fdL (fun g => decide (g < 2 ^ rs.length) && mtB F rs c g) KL
theorem x_fewest {M : cb_Mem} {F : FD} {rs : List (Nat × Nat)} (hF : WF F) (hM : xFd M F) (hQ : xR M 10 14 rs.length (rE rs)) (r8 : rs.length ≤ 8) (rb : ∀ j, j < rs.length → (rs.getD j (0, 0)).1 < 40 ∧ (rs.getD j (0, 0)).2 < 8) {c : Nat} (hc : c < d_nc F) : ∃ M', f_X6_fewestKeptOff (nI c) M = some (match kpF F rs c with | none => -nI 1 | some g => nI g, M') ∧ agr M M' PX := by
  have c8 : d_nc F ≤ 8 := hF.2.1
  suffices hL : ∃ r, f_X6_fewestKeptOff_L10 cb_fuel (nI c) (nI 37) (nI 0) M = some r ∧ (match kpF F rs c with | none => ∃ T, r = Sum.inr T ∧ agr M T PX | some g => ∃ T, r = Sum.inl (nI g, T) ∧ agr M T PX) by
    obtain ⟨r, h1, h2⟩ := hL
    rw [show f_X6_fewestKeptOff (nI c) M = cb_bs (f_X6_fewestKeptOff_L10 cb_fuel (nI c) (nI 37) (nI 0) M) (fun r => some r) (fun M1 => some (-nI 1, M1)) from rfl, h1]
    cases e : kpF F rs c with
    | none =>
      rw [e] at h2
      obtain ⟨T, rfl, h4⟩ := h2
      exact ⟨T, by rw [cb_bs_k], h4⟩
    | some g =>
      rw [e] at h2
      obtain ⟨T, rfl, h4⟩ := h2
      exact ⟨T, by rw [cb_bs_r], h4⟩
  refine cb_loop0 (fun m k (T : cb_Mem) => f_X6_fewestKeptOff_L10 m (nI c) (nI 37) (nI k) T) (fun k T => kpF F rs c = fdL (fun g => decide (g < 2 ^ rs.length) && mtB F rs c g) (KL.drop k) ∧ agr M T PX ∧ ∃ g, xFd T (srF F g)) 37 _ M (by omega) ⟨rfl, agr.rf, d_rab F, hM⟩ ?_ ?_
  · rintro m T ⟨a, b, -⟩
    have a' : kpF F rs c = none := a
    refine ⟨Sum.inr T, by rw [f_X6_fewestKeptOff_L10, if_pos (by decide)], ?_⟩
    rw [a']
    exact ⟨T, rfl, b⟩
  · rintro m k T hk ⟨a, b, g0, d⟩
    rw [kl_drop k hk, fdL] at a
    obtain ⟨k1, k2⟩ := kl_kept k hk
    generalize KL.getD k 0 = g at a k1 k2
    have hQT : xR T 10 14 rs.length (rE rs) := hQ.eq (fun k j q => b _ _ (by simp only [PX]; omega))
    have e10 : T 10 1 = nI rs.length := hQT.1
    have p8 := Nat.two_pow_pos rs.length
    have hsh : (nI g >>> (nI rs.length &&& nI 31) = nI 0) = (g < 2 ^ rs.length) := by
      rw [bi_shr (by omega) (by omega), cn_eq (by have := Nat.div_le_self g (2 ^ rs.length); omega) (by omega)]
      exact propext (Nat.div_eq_zero_iff_lt p8)
    by_cases hg : g < 2 ^ rs.length
    · obtain ⟨T1, f1, a1, d1⟩ := x_rab (gm := g) hQT r8 rb k2
      have c1 := xFd_sr d a1 d1
      have hF1 : WF (srF F (rbF rs g)) := WF_sr hF (fun h => rbN_le _ _ _ _)
      obtain ⟨T2, g1, g2, g3⟩ := x_go hF1 c1
      have b2 := c1.agr g2 (by intro k j q; simp only [PG]; omega)
      have b3 := (b.trans (a1.mono (fun k j q => by simp only [PX]; omega))).trans (PG_PX g2)
      have e25 := (g3.2.2.2.2 c (by omega)).2
      rw [decide_eq_true hg, Bool.true_and] at a
      cases ew : (wk (srF F (rbF rs g))).1 c with
      | none =>
        right
        rw [ew] at e25
        have e25' : T2 25 c = -nI 1 := e25
        have hm : mtB F rs c g = false := by unfold mtB; rw [ew]; rfl
        rw [hm, if_neg (by decide)] at a
        refine ⟨T2, ⟨a, b3, _, b2⟩, ?_⟩
        simp (disch := first | omega | trivial) only [f_X6_fewestKeptOff_L10, cn_le, if_neg, cn_in, cn_cl, if_pos, k1, cb_let_eq, li, e10, hsh, f1, Option.bind_some, g1, e25', cn_add]
      | some p =>
        left
        have p40 := ((wk_ok (srF F (rbF rs g))).1.1 c p ew).2.2.1
        rw [ew] at e25
        have e25' : T2 25 c = nI p.2 := e25
        have hm : mtB F rs c g = true := by unfold mtB; rw [ew]; rfl
        rw [hm, if_pos rfl] at a
        refine ⟨Sum.inl (nI g, T2), ?_, ?_⟩
        · simp (disch := first | omega | trivial) only [f_X6_fewestKeptOff_L10, cn_le, if_neg, cn_in, cn_cl, if_pos, k1, cb_let_eq, li, e10, hsh, f1, Option.bind_some, g1, e25', cn_eq1, if_false]
        · rw [a]
          exact ⟨T2, rfl, b3⟩
    · right
      rw [decide_eq_false hg, Bool.false_and, if_neg (by decide)] at a
      refine ⟨T, ⟨a, b, _, d⟩, ?_⟩
      simp (disch := first | omega | trivial) only [f_X6_fewestKeptOff_L10, cn_le, if_neg, cn_in, cn_cl, if_pos, k1, cb_let_eq, li, e10, hsh, hg, if_false, cn_add]
def kq (q : Int32) : Prop := q = -nI 1 ∨ q = nI 0 ∨ q = nI 1
theorem cn_ltm {a : Nat} (ha : a < 2147483648) : (nI a < -nI 1) = False := cn_lt1 ha
theorem c_m0 : (nI 0 = -nI 1) = False ∧ (nI 1 = -nI 1) = False ∧ (-nI 1 < -nI 1) = False ∧ (-nI 1 ≤ nI 1) = True ∧ (nI 0 ≤ nI 1) = True ∧ (nI 1 ≤ nI 1) = True ∧ (nI 0 < -nI 1) = False ∧ (nI 1 < -nI 1) = False := by decide
theorem x_keep {M : cb_Mem} {A : AS} (hA : AOK A) (hX : XS M A) {c : Nat} {q : Int32} (hc : c < d_nc (FAa A)) (hq : kq q) : ∃ M', f_X6_keep (nI c) q M = some (kpA q (kpF (FAa A) A.2.2.1 c), M') ∧ XS M' A := by
  obtain ⟨M1, fx, ax, b1⟩ := x_lay0 hA hX
  have o1 := x_noC (A_xc hX) (A_nc hA) hc
  obtain ⟨M2, gx, c2⟩ := x_fewest (rs := A.2.2.1) (WF_FA hA) b1 ax.2.2.2.2.1 hA.2.2.2.1.1 hA.2.2.2.1.2 hc
  obtain ⟨z1, z2, z3, z4, z5, z6, z7, z8⟩ := c_m0
  refine ⟨M2, ?_, ax.sc c2⟩
  cases e : kpF (FAa A) A.2.2.1 c with
  | none =>
    rw [e] at gx
    dsimp only at gx
    rcases hq with rfl | rfl | rfl
    · simp (disch := first | omega | trivial) only [f_X6_keep, li, o1, cb_let_eq, if_pos, z3, z4, if_false, fx, Option.bind_some, gx, cb_bind2_eq, kpA]
    · simp (disch := first | omega | trivial) only [f_X6_keep, li, o1, cb_let_eq, if_pos, z5, z7, if_false, fx, Option.bind_some, gx, cb_bind2_eq, kpA]
    · simp (disch := first | omega | trivial) only [f_X6_keep, li, o1, cb_let_eq, if_pos, z6, z8, if_false, fx, Option.bind_some, gx, cb_bind2_eq, kpA]
  | some g =>
    rw [e] at gx
    dsimp only at gx
    obtain ⟨g1, g2, g3⟩ := kl_lb g (fdL_mem e).1
    have kv : kpA q (some g) = if q = -nI 1 then f_J6_bitCount_0f7a4 (nI g) else if q = nI 0 then lbI (nI g) else lbI (nI g &&& (nI g - nI 1)) := rfl
    rw [kv]
    rcases hq with rfl | rfl | rfl
    · simp (disch := first | omega | trivial) only [f_X6_keep, li, o1, cb_let_eq, if_pos, z3, z4, if_false, fx, Option.bind_some, gx, cb_bind2_eq, cn_eq1]
    · simp (disch := first | omega | trivial) only [f_X6_keep, li, o1, cb_let_eq, if_pos, z1, z5, z7, if_false, fx, Option.bind_some, gx, cb_bind2_eq, cn_eq1, g2]
    · simp (disch := first | omega | trivial) only [f_X6_keep, li, o1, cb_let_eq, if_pos, z2, z6, z8, c_1n0, if_false, fx, Option.bind_some, gx, cb_bind2_eq, cn_eq1, g3]
theorem y_isMet {M : cb_Mem} {A : AS} (hY : yA M A) {c g : Nat} (hc : c < d_nc (FAa A)) (hg : g < 256) : ∃ M', f_X7_isMet (nI c) (nI g) M = some (b2i (mtB (FAa A) A.2.2.1 c g), M') ∧ yA M' A := by
  have c8 : d_nc (FAa A) ≤ 8 := hY.2.1.2.1
  obtain ⟨h1, h2⟩ := hY
  have h15 : M 0 15 = nI 0 := h2.2.2.2.1.2.2.2.1
  have h2' : mAll M (srF (FAa A) (rbF A.2.2.1 0)) A.2.1.1 A.2.1.2 none A.2.2.1 0 := h2
  have c1 := mAll_sr h2' hg
  obtain ⟨M2, g1, g2, g3⟩ := m_lives c1
  have b1 : agr M (cb_up M 0 15 (nI g)) PN := agr.rf.up (Or.inr ⟨rfl, rfl⟩)
  have b3 : agr M M2 PN := b1.trans (g2.mono (fun k j q => Or.inl (by simp only [PL] at q; simp only [PY]; omega)))
  have e16 := (g3.2.1 c hc).1
  have e16' : cb_up M2 0 15 (nI 0) 16 c = eP1 ((wk (srF (FAa A) (rbF A.2.2.1 g))).1 c) := by rw [cu, if_neg (by omega)]; exact e16
  refine ⟨cb_up M2 0 15 (nI 0), ?_, h1.sc (agr_back b3 h15), mAll_sr (c1.agr g2) (by omega)⟩
  unfold mtB
  cases ew : (wk (srF (FAa A) (rbF A.2.2.1 g))).1 c with
  | none =>
    rw [ew] at e16'
    have e : cb_up M2 0 15 (nI 0) 16 c = -nI 1 := e16'
    simp (disch := first | omega | trivial) only [f_X7_isMet, li, cb_let_eq, g1, Option.bind_some, cn_in, cn_cl, if_pos, e]
    rfl
  | some p =>
    have p8 := ((wk_ok (srF (FAa A) (rbF A.2.2.1 g))).1.1 c p ew).2.1
    have h8 : d_nh (FAa A) ≤ 8 := h2.1.1
    have p8' : p.1 < d_nh (FAa A) := p8
    rw [ew] at e16'
    have e : cb_up M2 0 15 (nI 0) 16 c = nI p.1 := e16'
    simp (disch := first | omega | trivial) only [f_X7_isMet, li, cb_let_eq, g1, Option.bind_some, cn_in, cn_cl, if_pos, e, cn_eq1, if_false]
    rfl
theorem sg1_step {n k : Nat} (hk : k < n) : sg1 (n - k) k = 2 ^ k :: sg1 (n - (k + 1)) (k + 1) := by
  rw [show n - k = (n - (k + 1)) + 1 by omega]
  rfl
theorem pr1_step {a n k : Nat} (hk : k < n) : pr1 a (n - k) k = (2 ^ a ||| 2 ^ k) :: pr1 a (n - (k + 1)) (k + 1) := by
  rw [show n - k = (n - (k + 1)) + 1 by omega]
  rfl
theorem pr2_step {n k : Nat} (hk : k < n) : pr2 n (n - k) k = pr1 k (n - (k + 1)) (k + 1) ++ pr2 n (n - (k + 1)) (k + 1) := by
  rw [show n - k = (n - (k + 1)) + 1 by omega]
  rfl
def fdP (A : AS) (q : Int32) (o : Option Nat) (r : (Int32 × cb_Mem) ⊕ cb_Mem) : Prop := match o with
  | none => ∃ T, r = Sum.inr T ∧ yA T A
  | some g => ∃ T, r = Sum.inl (kpA q (some g), T) ∧ yA T A
theorem y_keep1 {M : cb_Mem} {A : AS} (hA : AOK A) (hY : yA M A) {c : Nat} {q : Int32} (hc : c < d_nc (FAa A)) (hq : kq q) : ∃ r, f_X7_keepOf_L22 cb_fuel (nI c) q (nI 0) M = some r ∧ fdP A q (fdL (mtB (FAa A) A.2.2.1 c) (sg1 A.2.2.1.length 0)) r := by
  have r8 := hA.2.2.2.1.1
  obtain ⟨z1, z2, z3, z4, z5, z6, z7, z8⟩ := c_m0
  refine cb_loop0 (fun m k (T : cb_Mem) => f_X7_keepOf_L22 m (nI c) q (nI k) T) (fun k T => fdL (mtB (FAa A) A.2.2.1 c) (sg1 A.2.2.1.length 0) = fdL (mtB (FAa A) A.2.2.1 c) (sg1 (A.2.2.1.length - k) k) ∧ yA T A) A.2.2.1.length _ M (by omega) ⟨rfl, hY⟩ ?_ ?_
  · rintro m T ⟨a, b⟩
    have e13 : T 0 13 = nI A.2.2.1.length := b.2.2.2.2.1.1
    refine ⟨Sum.inr T, by rw [f_X7_keepOf_L22, e13, if_pos (by rw [cn_le (by omega) (by omega)]; omega)], ?_⟩
    rw [a, Nat.sub_self]
    exact ⟨T, rfl, b⟩
  · rintro m k T hk ⟨a, b⟩
    have e13 : T 0 13 = nI A.2.2.1.length := b.2.2.2.2.1.1
    rw [sg1_step hk, fdL] at a
    have hone : nI 1 <<< (nI k &&& nI 31) = nI (2 ^ k) := bi_one (by omega)
    obtain ⟨T1, g1, g2⟩ := y_isMet b hc (p2_256 (show k < 8 by omega))
    cases em : mtB (FAa A) A.2.2.1 c (2 ^ k) with
    | false =>
      rw [em] at g1
      rw [em, if_neg (by decide)] at a
      right
      refine ⟨T1, ⟨a, g2⟩, ?_⟩
      simp (disch := first | omega | trivial) only [f_X7_keepOf_L22, li, e13, cn_le, if_neg, hone, g1, cb_bind2_eq, b2i_0, if_pos, cn_add]
    | true =>
      rw [em] at g1
      rw [em, if_pos rfl] at a
      left
      refine ⟨Sum.inl (kpA q (some (2 ^ k)), T1), ?_, by rw [a]; exact ⟨T1, rfl, g2⟩⟩
      obtain ⟨y1, y2, y3⟩ := kp_1 k (by omega)
      have kv : kpA q (some (2 ^ k)) = if q = -nI 1 then f_J6_bitCount_0f7a4 (nI (2 ^ k)) else if q = nI 0 then lbI (nI (2 ^ k)) else lbI (nI (2 ^ k) &&& (nI (2 ^ k) - nI 1)) := rfl
      rw [kv, y1, y2, y3]
      rcases hq with rfl | rfl | rfl
      · simp (disch := first | omega | trivial) only [f_X7_keepOf_L22, li, e13, cn_le, if_neg, hone, g1, cb_bind2_eq, b2i_0, Bool.true_eq_false, if_false, if_pos]
      · simp (disch := first | omega | trivial) only [f_X7_keepOf_L22, li, e13, cn_le, if_neg, hone, g1, cb_bind2_eq, b2i_0, Bool.true_eq_false, if_false, if_pos, z1]
      · simp (disch := first | omega | trivial) only [f_X7_keepOf_L22, li, e13, cn_le, if_neg, hone, g1, cb_bind2_eq, b2i_0, Bool.true_eq_false, if_false, if_pos, z2, c_1n0]
theorem y_keep2 {M : cb_Mem} {A : AS} (hA : AOK A) (hY : yA M A) {c a : Nat} {q : Int32} (hc : c < d_nc (FAa A)) (hq : kq q) (ha : a < A.2.2.1.length) : ∃ r, f_X7_keepOf_L81 cb_fuel (nI c) q (nI a) (nI (a + 1)) M = some r ∧ fdP A q (fdL (mtB (FAa A) A.2.2.1 c) (pr1 a (A.2.2.1.length - (a + 1)) (a + 1))) r := by
  have r8 := hA.2.2.2.1.1
  obtain ⟨z1, z2, z3, z4, z5, z6, z7, z8⟩ := c_m0
  refine cb_loop (fun m k (T : cb_Mem) => f_X7_keepOf_L81 m (nI c) q (nI a) (nI k) T) (fun k T => a < k ∧ fdL (mtB (FAa A) A.2.2.1 c) (pr1 a (A.2.2.1.length - (a + 1)) (a + 1)) = fdL (mtB (FAa A) A.2.2.1 c) (pr1 a (A.2.2.1.length - k) k) ∧ yA T A) A.2.2.1.length _ ?_ ?_ cb_fuel (a + 1) M (by unfold cb_fuel; omega) (by omega) ⟨by omega, rfl, hY⟩
  · rintro m T ⟨-, a, b⟩
    have e13 : T 0 13 = nI A.2.2.1.length := b.2.2.2.2.1.1
    refine ⟨Sum.inr T, by rw [f_X7_keepOf_L81, e13, if_pos (by rw [cn_le (by omega) (by omega)]; omega)], ?_⟩
    rw [a, Nat.sub_self]
    exact ⟨T, rfl, b⟩
  · rintro m k T hk ⟨ak, a', b⟩
    have e13 : T 0 13 = nI A.2.2.1.length := b.2.2.2.2.1.1
    rw [pr1_step hk, fdL] at a'
    have hone : nI 1 <<< (nI a &&& nI 31) ||| nI 1 <<< (nI k &&& nI 31) = nI (2 ^ a ||| 2 ^ k) := by rw [bi_one (by omega), bi_one (by omega), bi_or]
    obtain ⟨T1, g1, g2⟩ := y_isMet b hc (kp_l k (by omega) a (by omega))
    cases em : mtB (FAa A) A.2.2.1 c (2 ^ a ||| 2 ^ k) with
    | false =>
      rw [em] at g1
      rw [em, if_neg (by decide)] at a'
      right
      refine ⟨T1, ⟨by omega, a', g2⟩, ?_⟩
      simp (disch := first | omega | trivial) only [f_X7_keepOf_L81, li, e13, cn_le, if_neg, hone, g1, cb_bind2_eq, b2i_0, if_pos, cn_add]
    | true =>
      rw [em] at g1
      rw [em, if_pos rfl] at a'
      left
      refine ⟨Sum.inl (kpA q (some (2 ^ a ||| 2 ^ k)), T1), ?_, by rw [a']; exact ⟨T1, rfl, g2⟩⟩
      obtain ⟨y1, y2, y3⟩ := kp_2 k (by omega) a ak
      have kv : kpA q (some (2 ^ a ||| 2 ^ k)) = if q = -nI 1 then f_J6_bitCount_0f7a4 (nI (2 ^ a ||| 2 ^ k)) else if q = nI 0 then lbI (nI (2 ^ a ||| 2 ^ k)) else lbI (nI (2 ^ a ||| 2 ^ k) &&& (nI (2 ^ a ||| 2 ^ k) - nI 1)) := rfl
      rw [kv, y1, y2, y3]
      rcases hq with rfl | rfl | rfl
      · simp (disch := first | omega | trivial) only [f_X7_keepOf_L81, li, e13, cn_le, if_neg, hone, g1, cb_bind2_eq, b2i_0, Bool.true_eq_false, if_false, if_pos]
      · simp (disch := first | omega | trivial) only [f_X7_keepOf_L81, li, e13, cn_le, if_neg, hone, g1, cb_bind2_eq, b2i_0, Bool.true_eq_false, if_false, if_pos, z1]
      · simp (disch := first | omega | trivial) only [f_X7_keepOf_L81, li, e13, cn_le, if_neg, hone, g1, cb_bind2_eq, b2i_0, Bool.true_eq_false, if_false, if_pos, z2, c_1n0]
theorem y_keep3 {M : cb_Mem} {A : AS} (hA : AOK A) (hY : yA M A) {c : Nat} {q : Int32} (hc : c < d_nc (FAa A)) (hq : kq q) : ∃ r, f_X7_keepOf_L68 cb_fuel (nI c) q (nI 0) M = some r ∧ fdP A q (fdL (mtB (FAa A) A.2.2.1 c) (pr2 A.2.2.1.length A.2.2.1.length 0)) r := by
  have r8 := hA.2.2.2.1.1
  refine cb_loop0 (fun m k (T : cb_Mem) => f_X7_keepOf_L68 m (nI c) q (nI k) T) (fun k T => fdL (mtB (FAa A) A.2.2.1 c) (pr2 A.2.2.1.length A.2.2.1.length 0) = fdL (mtB (FAa A) A.2.2.1 c) (pr2 A.2.2.1.length (A.2.2.1.length - k) k) ∧ yA T A) A.2.2.1.length _ M (by omega) ⟨rfl, hY⟩ ?_ ?_
  · rintro m T ⟨a, b⟩
    have e13 : T 0 13 = nI A.2.2.1.length := b.2.2.2.2.1.1
    refine ⟨Sum.inr T, by rw [f_X7_keepOf_L68, e13, if_pos (by rw [cn_le (by omega) (by omega)]; omega)], ?_⟩
    rw [a, Nat.sub_self]
    exact ⟨T, rfl, b⟩
  · rintro m k T hk ⟨a, b⟩
    have e13 : T 0 13 = nI A.2.2.1.length := b.2.2.2.2.1.1
    rw [pr2_step hk, fdL_app] at a
    obtain ⟨r, g1, g2⟩ := y_keep2 hA b hc hq hk
    cases ef : fdL (mtB (FAa A) A.2.2.1 c) (pr1 k (A.2.2.1.length - (k + 1)) (k + 1)) with
    | none =>
      rw [ef] at a g2
      dsimp only at a
      obtain ⟨T1, rfl, g3⟩ := g2
      right
      refine ⟨T1, ⟨a, g3⟩, ?_⟩
      simp (disch := first | omega | trivial) only [f_X7_keepOf_L68, li, e13, cn_le, if_neg, cb_let_eq, cn_add, g1, cb_bs_k]
    | some g =>
      rw [ef] at a g2
      dsimp only at a
      obtain ⟨T1, rfl, g3⟩ := g2
      left
      refine ⟨Sum.inl (kpA q (some g), T1), ?_, by rw [a]; exact ⟨T1, rfl, g3⟩⟩
      simp (disch := first | omega | trivial) only [f_X7_keepOf_L68, li, e13, cn_le, if_neg, cb_let_eq, cn_add, g1, cb_bs_r]
theorem y_keepOf {M : cb_Mem} {A : AS} (hA : AOK A) (hY : yA M A) {c : Nat} {q : Int32} (hc : c < d_nc (FAa A)) (hq : kq q) : ∃ M', f_X7_keepOf (nI c) q M = some (kpA q (kpF (FAa A) A.2.2.1 c), M') ∧ yA M' A := by
  have r8 := hA.2.2.2.1.1
  obtain ⟨z1, z2, z3, z4, z5, z6, z7, z8⟩ := c_m0
  have hk : kpF (FAa A) A.2.2.1 c = fdL (mtB (FAa A) A.2.2.1 c) (kRL A.2.2.1.length) := by
    unfold kpF
    rw [fdL_filter, kl_RL _ (by omega)]
  unfold kRL at hk
  rw [fdL] at hk
  obtain ⟨M1, g1, g2⟩ := y_isMet hY hc (show 0 < 256 by omega)
  cases em : mtB (FAa A) A.2.2.1 c 0 with
  | true =>
    rw [em] at g1
    rw [em, if_pos rfl] at hk
    refine ⟨M1, ?_, g2⟩
    obtain ⟨y1, y2, y3⟩ := kp_0
    rw [hk]
    have kv : kpA q (some 0) = if q = -nI 1 then f_J6_bitCount_0f7a4 (nI 0) else if q = nI 0 then lbI (nI 0) else lbI (nI 0 &&& (nI 0 - nI 1)) := rfl
    rw [kv, y1, y2, y3]
    rcases hq with rfl | rfl | rfl
    · simp (disch := first | omega | trivial) only [f_X7_keepOf, li, g1, cb_bind2_eq, b2i_0, Bool.true_eq_false, if_false, if_pos]
    · simp (disch := first | omega | trivial) only [f_X7_keepOf, li, g1, cb_bind2_eq, b2i_0, Bool.true_eq_false, if_false, if_pos, z1]
    · simp (disch := first | omega | trivial) only [f_X7_keepOf, li, g1, cb_bind2_eq, b2i_0, Bool.true_eq_false, if_false, if_pos, z2, c_1n0]
  | false =>
    rw [em] at g1
    rw [em, if_neg (by decide), fdL_app] at hk
    obtain ⟨r, j1, j2⟩ := y_keep1 hA g2 hc hq
    cases e1 : fdL (mtB (FAa A) A.2.2.1 c) (sg1 A.2.2.1.length 0) with
    | some g =>
      rw [e1] at hk j2
      dsimp only at hk
      obtain ⟨T1, rfl, j3⟩ := j2
      refine ⟨T1, ?_, j3⟩
      rw [hk]
      simp (disch := first | omega | trivial) only [f_X7_keepOf, li, g1, cb_bind2_eq, b2i_0, if_pos, j1, cb_bs_r]
    | none =>
      rw [e1] at hk j2
      dsimp only at hk
      obtain ⟨T1, rfl, j3⟩ := j2
      obtain ⟨r', i1, i2⟩ := y_keep3 hA j3 hc hq
      rw [← hk] at i2
      cases e2 : kpF (FAa A) A.2.2.1 c with
      | some g =>
        rw [e2] at i2
        obtain ⟨T2, rfl, i3⟩ := i2
        refine ⟨T2, ?_, i3⟩
        simp (disch := first | omega | trivial) only [f_X7_keepOf, li, g1, cb_bind2_eq, b2i_0, if_pos, j1, cb_bs_k, i1, cb_bs_r]
      | none =>
        rw [e2] at i2
        obtain ⟨T2, rfl, i3⟩ := i2
        refine ⟨T2, ?_, i3⟩
        simp (disch := first | omega | trivial) only [f_X7_keepOf, li, g1, cb_bind2_eq, b2i_0, if_pos, j1, cb_bs_k, i1, kpA]
theorem v_in1 {p : Int32} : f_X7_in p.toInt64 (-lN 1) (lN 1) = if -1 ≤ p.toInt ∧ p.toInt ≤ 1 then nI 1 else nI 0 := by
  rw [v_in, Int32.toInt_toInt64, show (-lN 1).toInt = -1 by decide, show (lN 1).toInt = 1 by decide]
  rfl
theorem kq_of {p : Int32} (h : -1 ≤ p.toInt ∧ p.toInt ≤ 1) : kq p := by
  rcases (show p.toInt = -1 ∨ p.toInt = 0 ∨ p.toInt = 1 by omega) with e | e | e
  · exact Or.inl (Int32.toInt_inj.mp (by rw [e]; decide))
  · exact Or.inr (Or.inl (Int32.toInt_inj.mp (by rw [e]; decide)))
  · exact Or.inr (Or.inr (Int32.toInt_inj.mp (by rw [e]; decide)))
theorem C_keep : cs_keep cRel := by
  rintro MX MY p1 p2 ⟨A, hA, hX, hY⟩
  obtain ⟨MY1, fy, ay, wy⟩ := y_findA hA hY
  have hRy : cRel MX MY1 := ⟨A, hA, hX, ay.1⟩
  rcases cn_range p1 (d_nc (FAa A)) with ⟨h, hh, rfl⟩ | h1
  · have o1 := x_noC (A_xc hX) (A_nc hA) hh
    have o3 := v_isC ay.2.2.1.2.1 (A_nc hA) hh
    have o4 := v_in1 (p := p2)
    by_cases h2 : -1 ≤ p2.toInt ∧ p2.toInt ≤ 1
    · rw [if_pos h2] at o4
      obtain ⟨MX1, fx, ax⟩ := x_keep hA hX hh (kq_of h2)
      obtain ⟨MY2, gy, ay2⟩ := y_keepOf hA ay hh (kq_of h2)
      refine ⟨_, MX1, MY2, fx, ?_, A, hA, ax, ay2.1⟩
      simp (disch := first | omega | trivial) only [f_X7_keep, li, liL, fy, Option.bind_some, o3, o4, cb_let_eq, c_1n0, if_false, gy, cb_bind2_eq]
    · rw [if_neg h2] at o4
      refine ⟨-nI 2, MX, MY1, ?_, ?_, hRy⟩
      · by_cases h3 : p2 < -nI 1
        · simp (disch := first | omega | trivial) only [f_X6_keep, li, o1, cb_let_eq, if_pos, h3]
        · have h4 : ¬ p2 ≤ nI 1 := by
            rw [Int32.lt_iff_toInt_lt, cn_neg1] at h3
            rw [Int32.le_iff_toInt_le, cn_ti (by omega)]
            omega
          simp (disch := first | omega | trivial) only [f_X6_keep, li, o1, cb_let_eq, if_pos, h3, h4, if_false]
      · simp (disch := first | omega | trivial) only [f_X7_keep, li, liL, fy, Option.bind_some, o3, o4, cb_let_eq, c_1n0, if_false, if_pos]
  · have o1 := x_noCN (A_xc hX) (A_nc hA) h1
    have o3 := v_isCN ay.2.2.1.2.1 (A_nc hA) h1
    refine ⟨-nI 2, MX, MY1, ?_, ?_, hRy⟩
    · simp (disch := first | omega | trivial) only [f_X6_keep, li, o1, cb_let_eq, c_1n0, if_false]
    · simp (disch := first | omega | trivial) only [f_X7_keep, li, fy, Option.bind_some, o3, cb_let_eq, if_pos]
