/-! chill: the class counts cases -/
def PZ (k j : Nat) : Prop := PX k j ∨ (k = 5 ∧ j = 1) ∨ (58 ≤ k ∧ k ≤ 65)
theorem XS.cz {M M' : cb_Mem} {A : AS} (h : XS M A) (ha : agr M M' PZ) (hc : xCh M' A.1.1 A.1.2 A.2.2.1) : XS M' A := by
  obtain ⟨a1, a2, a3, a4, a5, a6, a7, a8, a9⟩ := h
  refine ⟨a1.eq fun k j q => ha _ _ (by simp only [PZ, PX]; omega), a2.eq fun k j q => ha _ _ (by simp only [PZ, PX]; omega), a3.eq fun k j q => ha _ _ (by simp only [PZ, PX]; omega), a4.eq fun k j q => ha _ _ (by simp only [PZ, PX]; omega), a5.eq fun k j q => ha _ _ (by simp only [PZ, PX]; omega), a6.eq fun k j q => ha _ _ (by simp only [PZ, PX]; omega), fun s hs => (a7 s hs).eq fun k j q => ha _ _ (by simp only [PZ, PX]; omega), by rw [ha _ _ (by simp only [PZ, PX]; omega)]; exact a8, hc⟩
def PC8 (k _j : Nat) : Prop := 58 ≤ k ∧ k ≤ 65
theorem x_start {M : cb_Mem} {d : Nat} : ∃ M', f_X0_startFor (nI d) M = some M' ∧ agr M M' (fun k j => PC8 k j ∨ (k = 5 ∧ j = 1)) ∧ M' 5 1 = nI d ∧ ∀ c, c < 8 → ∀ j, j < 11 → M' (58 + c) j = nI 0 := by
  obtain ⟨T, h1, h2, h3⟩ : ∃ r, f_X0_startFor_L2 cb_fuel (nI d) (nI 0) M = some r ∧ (agr M r PC8 ∧ ∀ c, c < 8 → ∀ j, j < 11 → r (58 + c) j = nI 0) := by
    refine cb_loop0 (fun m k (T : cb_Mem) => f_X0_startFor_L2 m (nI d) (nI k) T) (fun k T => agr M T PC8 ∧ ∀ c, c < k → ∀ j, j < 11 → T (58 + c) j = nI 0) 8 _ M (by omega) ⟨agr.rf, fun c hc => absurd hc (Nat.not_lt_zero c)⟩ ?_ ?_
    · rintro m T ⟨a, b⟩
      exact ⟨T, by rw [f_X0_startFor_L2, if_pos (by decide)], a, b⟩
    · rintro m k T hk ⟨a, b⟩
      right
      obtain ⟨T1, f1, a1, b1⟩ := x_fill (M := T) (q := 58 + k) (z := 11) (v := nI 0) (by omega)
      refine ⟨T1, ⟨a.trans (a1.mono (fun k j q => by simp only [PC8]; omega)), fun c hc j hj => ?_⟩, ?_⟩
      · by_cases e : c = k
        · subst e; exact b1 j hj
        · rw [a1 _ _ (by omega)]; exact b c (by omega) j hj
      · simp (disch := first | omega | trivial) only [f_X0_startFor_L2, li, cn_le, if_neg, cn_in, cn_cl, if_pos, f1, Option.bind_some, cn_add]
  refine ⟨cb_up T 5 1 (nI d), ?_, (h2.mono (fun k j q => Or.inl q)).up (Or.inr ⟨rfl, rfl⟩), by rw [cu, if_pos rfl, if_pos rfl], fun c hc j hj => by rw [cu, if_neg (by omega)]; exact h3 c hc j hj⟩
  simp only [f_X0_startFor, li, h1, Option.bind_some, cb_let_eq]
theorem x_addCase {M : cb_Mem} {k : Nat} {y : Int32} {s : Nat → Bool} (hk : k < 11) (hm : msk 8 y s) {t : Nat → Nat → Nat} (ht : ∀ c, c < 8 → ∀ j, j < 11 → M (58 + c) j = nI (t c j)) : ∃ M', f_X0_addCase (nI k) y M = some M' ∧ agr M M' PC8 ∧ ∀ c, c < 8 → ∀ j, j < 11 → M' (58 + c) j = nI (t c j + (if k = j ∧ s c = true then 1 else 0)) := by
  obtain ⟨T, h1, h2, h3⟩ : ∃ r, f_X0_addCase_L2 cb_fuel (nI k) y (nI 0) M = some r ∧ (agr M r PC8 ∧ ∀ c, c < 8 → ∀ j, j < 11 → r (58 + c) j = nI (t c j + (if c < 8 ∧ k = j ∧ s c = true then 1 else 0))) := by
    refine cb_loop0 (fun m q (T : cb_Mem) => f_X0_addCase_L2 m (nI k) y (nI q) T) (fun q T => agr M T PC8 ∧ ∀ c, c < 8 → ∀ j, j < 11 → T (58 + c) j = nI (t c j + (if c < q ∧ k = j ∧ s c = true then 1 else 0))) 8 _ M (by omega) ⟨agr.rf, fun c hc j hj => by rw [if_neg (fun z => by omega)]; exact ht c hc j hj⟩ ?_ ?_
    · rintro m T ⟨a, b⟩
      exact ⟨T, by rw [f_X0_addCase_L2, if_pos (by decide)], a, b⟩
    · rintro m q T hq ⟨a, b⟩
      right
      have hb := msk_bit hm hq (by omega)
      have old := b q hq k hk
      rw [if_neg (fun z => by omega), Nat.add_zero] at old
      have lt : ∀ c, c ≠ q → (c < q + 1) = (c < q) := fun c hc => propext (by omega)
      cases es : s q with
      | false =>
        rw [es] at hb
        refine ⟨T, ⟨a, fun c hc j hj => ?_⟩, ?_⟩
        · rw [b c hc j hj]
          by_cases ec : c = q
          · subst ec
            rw [if_neg (fun z => by omega), if_neg (fun z => by rw [es] at z; cases z.2.2)]
          · simp only [lt c ec]
        · simp (disch := first | omega | trivial) only [f_X0_addCase_L2, li, cn_le, if_neg, hb, b2i_0, if_pos, Option.bind_some, cn_add]
      | true =>
        rw [es] at hb
        refine ⟨cb_up T (58 + q) k (nI (t q k + 1)), ⟨a.up (by simp only [PC8]; omega), fun c hc j hj => ?_⟩, ?_⟩
        · rw [cu]
          by_cases ec : c = q
          · subst ec
            rw [if_pos rfl]
            by_cases ej : j = k
            · rw [if_pos ej, if_pos ⟨by omega, ej.symm, es⟩, ej]
            · rw [if_neg ej, b c hc j hj, if_neg (fun z => by omega), if_neg (fun z => ej z.2.1.symm)]
          · rw [if_neg (by omega), b c hc j hj]
            simp only [lt c ec]
        · simp (disch := first | omega | trivial) only [f_X0_addCase_L2, li, cn_le, if_neg, hb, b2i_0, Bool.true_eq_false, if_false, cn_in, cn_cl, if_pos, old, cb_let_eq, Option.bind_some, cn_add]
  refine ⟨T, by simp only [f_X0_addCase, li, h1, Option.bind_some], h2, fun c hc j hj => ?_⟩
  rw [h3 c hc j hj]
  simp only [hc, true_and]
theorem bc10 : ∀ b, b < 1024 → f_J6_bitCount_0f7a4 (nI b) = nI (popN b) := by decide +kernel
theorem pop_le (p : Nat) : popN p ≤ 10 := cntN_le (p := p.testBit) (n := 10)
theorem msk_fr {p : Nat} (hp : p < 1024) : msk 30 (nI p) (frO [] (some p)) := by
  refine ⟨p, by omega, rfl, fun j hj => ?_⟩
  show p.testBit j = (decide (j < 10) && p.testBit j)
  by_cases e : j < 10
  · rw [decide_eq_true e, Bool.true_and]
  · rw [decide_eq_false e, Bool.false_and]
    exact Nat.testBit_lt_two_pow (Nat.lt_of_lt_of_le hp (Nat.pow_le_pow_right (n := 2) (i := 10) (j := j) (by decide) (by omega)))
theorem fr_late {p : Nat} : ∀ d, 30 ≤ d → frO [] (some p) d = false := fun d hd => by
  show (decide (d < 10) && p.testBit d) = false
  rw [decide_eq_false (by omega), Bool.false_and]
theorem x_countL {M : cb_Mem} {t0 t1 w0 : List Nat} {rs : List (Nat × Nat)} {d : Nat} (hF : WF (FA t0 t1 w0 none rs 0)) (hM : xFd M (FA t0 t1 w0 none rs 0)) (hd : d < 10) (h0 : ∀ c, c < 8 → ∀ j, j < 11 → M (58 + c) j = nI 0) : ∃ M', f_X6_countChances_L14 cb_fuel (nI d) (nI 0) M = some M' ∧ (agr M M' (fun k j => PX k j ∨ PC8 k j) ∧ ∀ c, c < 8 → ∀ j, j < 11 → M' (58 + c) j = nI (ccN t0 t1 rs (2 ^ (d + 1)) c j)) := by
  have hN : 2 ^ (d + 1) ≤ 2 ^ 10 := Nat.pow_le_pow_right (by decide) (by omega)
  have hone : nI 1 <<< (nI (d + 1) &&& nI 31) = nI (2 ^ (d + 1)) := bi_one (by omega)
  generalize 2 ^ (d + 1) = N at hN hone
  refine cb_loop0 (fun m k (T : cb_Mem) => f_X6_countChances_L14 m (nI d) (nI k) T) (fun k T => agr M T (fun k j => PX k j ∨ PC8 k j) ∧ (∃ fr, xFd T (sxF (FA t0 t1 w0 none rs 0) fr)) ∧ ∀ c, c < 8 → ∀ j, j < 11 → T (58 + c) j = nI (ccN t0 t1 rs k c j)) N _ M (by omega) ⟨agr.rf, ⟨_, hM⟩, h0⟩ ?_ ?_
  · rintro m T ⟨a, -, c⟩
    refine ⟨T, ?_, a, c⟩
    simp (disch := first | omega | trivial) only [f_X6_countChances_L14, li, cn_add, hone, cn_le, if_pos]
  · rintro m k T hk ⟨a, ⟨fr, b⟩, c⟩
    right
    have b1 := xFd_sx b (msk_fr (p := k) (by omega))
    have hF1 : WF (sxF (FA t0 t1 w0 none rs 0) (frO [] (some k))) := WF_sx hF fr_late
    obtain ⟨T2, g1, g2, g3⟩ := x_go hF1 b1
    have b2 := b1.agr g2 (by intro k j q; simp only [PG]; omega)
    have c2 : ∀ c, c < 8 → ∀ j, j < 11 → T2 (58 + c) j = nI (ccN t0 t1 rs k c j) := fun c' hc j hj => by
      rw [g2 _ _ (by simp only [PG]; omega), cu, if_neg (by omega)]; exact c c' hc j hj
    have hbc := bc10 k (by omega)
    have hpl := pop_le k
    obtain ⟨T3, f3, a3, d3⟩ := x_addCase (k := popN k) (t := fun c j => ccN t0 t1 rs k c j) (by omega) g3.2.2.2.1 c2
    refine ⟨T3, ⟨((a.up (q := 3) (j := 8) (v := nI k) (Or.inl (by simp [PX]))).trans ((PG_PX g2).mono (fun k j q => Or.inl q))).trans (a3.mono (fun k j q => Or.inr q)), ⟨_, b2.agr a3 (by intro k j q; simp only [PC8]; omega)⟩, fun c' hc j hj => ?_⟩, ?_⟩
    · rw [d3 c' hc j hj]
      rfl
    · simp (disch := first | omega | trivial) only [f_X6_countChances_L14, li, cn_add, hone, cn_le, if_neg, cb_let_eq, g1, Option.bind_some, hbc, f3]
theorem x_count2 {M M1 M2 M3 : cb_Mem} {p : Int32} (f1 : f_X6_layOut M = some M1) (f2 : f_X0_startFor p M1 = some M2) (f3 : f_X6_countChances_L14 cb_fuel p 0 M2 = some M3) : f_X6_countChances p M = some M3 := by
  unfold f_X6_countChances
  rw [f1, Option.bind_some, f2, Option.bind_some, f3, Option.bind_some]
theorem x_cases {M : cb_Mem} {A : AS} (hA : AOK A) (hX : XS M A) {d : Nat} (hd : d < 10) : ∃ M', f_X6_countChances (nI d) M = some M' ∧ XS M' A ∧ M' 5 1 = nI d ∧ ∀ c, c < 8 → ∀ j, j < 11 → M' (58 + c) j = nI (ccN A.1.1 A.1.2 A.2.2.1 (2 ^ (d + 1)) c j) := by
  obtain ⟨M1, f1, a1, b1⟩ := x_layOut hA hX
  obtain ⟨M2, f2, a2, e2, z2⟩ := x_start (M := M1) (d := d)
  have b2 : xFd M2 (FAa A) := b1.agr a2 (by intro k j q; simp only [PC8]; omega)
  obtain ⟨M3, f3, a3, d3⟩ := x_countL (WF_FA hA) b2 hd z2
  have e3 : M3 5 1 = nI d := by rw [a3 _ _ (by simp only [PX, PC8]; omega)]; exact e2
  refine ⟨M3, x_count2 f1 f2 f3, hX.cz (((a1.mono (fun k j q => Or.inl q)).trans (a2.mono (fun k j q => q.elim (fun z => Or.inr (Or.inr z)) (fun z => Or.inr (Or.inl z))))).trans (a3.mono (fun k j q => q.elim Or.inl (fun z => Or.inr (Or.inr z))))) (Or.inr ⟨d, hd, e3, fun c hc k hk => d3 c hc k (by omega)⟩), e3, d3⟩
/-! weights -/
theorem x_w31 {M : cb_Mem} {v1 : Int32} {v3 : Int64} {x k w d : Nat} (hx : x ≤ 16) (hk : k < 100) (hd : d < 10) (h5 : M 5 1 = nI d) : f_X0_weightOf_L31 cb_fuel v1 (nI x) v3 (nI k) (lN w) (nI 0) M = some (lN (w * pwN x k (d + 1))) := by
  suffices hL : ∃ r, f_X0_weightOf_L31 cb_fuel v1 (nI x) v3 (nI k) (lN w) (nI 0) M = some r ∧ r = lN (w * pwN x k (d + 1)) by
    obtain ⟨r, h1, h2⟩ := hL
    rw [h2] at h1
    exact h1
  refine cb_loop0 (fun m n (s : Nat) => f_X0_weightOf_L31 m v1 (nI x) v3 (nI k) (lN s) (nI n) M) (fun n s => s = w * pwN x k n) (d + 1) _ w (by omega) (Nat.mul_one w).symm ?_ ?_
  · rintro m s rfl
    exact ⟨_, by rw [f_X0_weightOf_L31, h5, if_pos (by rw [cn_lt (by omega) (by omega)]; omega)], rfl⟩
  · rintro m n s hn rfl
    right
    refine ⟨_, rfl, ?_⟩
    have hz : w * pwN x k (n + 1) = w * pwN x k n * (if n < k then x else 16 - x) := by rw [pwN, Nat.mul_assoc]
    rw [hz]
    have l1 := nI_l (show x < 2 ^ 31 by omega)
    have l2 := nI_l (show 16 - x < 2 ^ 31 by omega)
    by_cases e : n < k
    · rw [if_pos e]
      simp (disch := first | omega | trivial) only [f_X0_weightOf_L31, li, h5, cn_lt, if_neg, cn_le, cb_let_eq, l1, lN_mul, cn_add]
    · rw [if_neg e]
      simp (disch := first | omega | trivial) only [f_X0_weightOf_L31, li, h5, cn_lt, if_neg, if_pos, cn_le, cb_let_eq, cn_sub, l2, lN_mul, cn_add]
theorem x_weight {M : cb_Mem} {c x d : Nat} {cs : Nat → Nat} (hc : c < 8) (hx : x ≤ 16) (hd : d < 10) (h5 : M 5 1 = nI d) (hb : ∀ j, j < 11 → cs j < 2 ^ 31) (hcs : ∀ j, j < 11 → M (58 + c) j = nI (cs j)) : f_X0_weightOf (nI c) (nI x) M = some (lN (sumN (fun k => cs k * pwN x k (d + 1)) (d + 2))) := by
  suffices hL : ∃ r, f_X0_weightOf_L5 cb_fuel (nI c) (nI x) (lN 0) (nI 0) M = some r ∧ r = lN (sumN (fun k => cs k * pwN x k (d + 1)) (d + 2)) by
    obtain ⟨r, h1, h2⟩ := hL
    rw [h2] at h1
    simp only [f_X0_weightOf, li, liL, h1, Option.bind_some]
  refine cb_loop0 (fun m n (s : Nat) => f_X0_weightOf_L5 m (nI c) (nI x) (lN s) (nI n) M) (fun n s => s = sumN (fun k => cs k * pwN x k (d + 1)) n) (d + 2) _ 0 (by omega) rfl ?_ ?_
  · rintro m s rfl
    refine ⟨_, ?_, rfl⟩
    simp (disch := first | omega | trivial) only [f_X0_weightOf_L5, li, h5, cn_add, cn_lt, if_pos]
  · rintro m n s hn rfl
    right
    refine ⟨_, rfl, ?_⟩
    have hz : sumN (fun k => cs k * pwN x k (d + 1)) (n + 1) = sumN (fun k => cs k * pwN x k (d + 1)) n + cs n * pwN x n (d + 1) := rfl
    rw [hz]
    generalize sumN (fun k => cs k * pwN x k (d + 1)) n = q
    have l1 := nI_l (hb n (by omega))
    have hw := x_w31 (v1 := nI c) (v3 := lN q) (w := cs n) hx (show n < 100 by omega) hd h5
    have hn' := hcs n (by omega)
    simp (disch := first | omega | trivial) only [f_X0_weightOf_L5, li, h5, cn_add, cn_lt, if_neg, cn_in, cn_cl, if_pos, hn', cb_let_eq, l1, hw, Option.bind_some, lN_add]
theorem sh_64 : ∀ d, d < 10 → lN 1 <<< ((nI 4 * (nI d + nI 1)).toInt64 &&& lN 63) = lN (2 ^ (4 * (d + 1))) := by decide +kernel
theorem x_chillS {M M1 : cb_Mem} {p1 p2 p3 p4 : Int32} {a y b c e : Int64} (o1 : f_X6_isOff p1 17 = 0) (o2 : f_X6_isOff p2 10 = 0) (o3 : f_X6_isNoCouple p3 M = 0) (o4 : f_X6_isOff p4 2 = 0) (h1 : (if M 5 1 = p2 then some M else (f_X6_countChances p2 M).bind fun M2 => some M2) = some M1) (h2 : f_X0_weightOf p3 p1 M1 = some y) (h3 : (1 : Int64) <<< ((4 * (p2 + 1)).toInt64 &&& 63) = b) (h4 : f_X6_chill_L86 cb_fuel p4 y b 0 = some (c, e)) (h5 : (if p4 = 0 then c else e) = a) : f_X6_chill p1 p2 p3 p4 M = some (a, M1) := by
  unfold f_X6_chill
  rw [cb_let_eq, cb_let_eq, o1, if_pos rfl, cb_let_eq, o2, if_pos rfl, cb_let_eq, cb_let_eq, o3, if_pos rfl, cb_let_eq, o4, if_pos rfl, h1, Option.bind_some, h2, Option.bind_some, h3, cb_let_eq, h4, cb_bind2_eq, ← h5]
  by_cases q : p4 = 0
  · rw [if_pos q, if_pos q]
  · rw [if_neg q, if_neg q]
theorem x_chill {M : cb_Mem} {A : AS} (hA : AOK A) (hX : XS M A) {x d c i : Nat} (hx : x < 17) (hd : d < 10) (hc : c < d_nc (FAa A)) (hi : i < 2) : ∃ M', f_X6_chill (nI x) (nI d) (nI c) (nI i) M = some (clV A.1.1 A.1.2 A.2.2.1 x d c i, M') ∧ XS M' A := by
  have c8 := A_nc hA
  obtain ⟨M1, h1, hX1, e5, rows⟩ : ∃ M1, (if M 5 1 = nI d then some M else (f_X6_countChances (nI d) M).bind fun M2 => some M2) = some M1 ∧ XS M1 A ∧ M1 5 1 = nI d ∧ ∀ c, c < 8 → ∀ j, j < 11 → M1 (58 + c) j = nI (ccN A.1.1 A.1.2 A.2.2.1 (2 ^ (d + 1)) c j) := by
    by_cases q : M 5 1 = nI d
    · refine ⟨M, by rw [if_pos q], hX, q, fun c hc j hj => ?_⟩
      rcases hX.2.2.2.2.2.2.2.2 with z | ⟨d', z1, z2, z3⟩
      · rw [z, cn_eq2 (by omega)] at q
        exact q.elim
      · rw [z2, cn_eq (by omega) (by omega)] at q
        subst q
        exact z3 c hc j (by omega)
    · obtain ⟨M1, f1, x1, e1, r1⟩ := x_cases hA hX hd
      exact ⟨M1, by rw [if_neg q, f1, Option.bind_some], x1, e1, r1⟩
  have hN : 2 ^ (d + 1) ≤ 2 ^ 10 := Nat.pow_le_pow_right (by decide) (by omega)
  have hw := x_weight (c := c) (cs := fun j => ccN A.1.1 A.1.2 A.2.2.1 (2 ^ (d + 1)) c j) (show c < 8 by omega) (show x ≤ 16 by omega) hd e5 (fun j _ => by have := cc_le (t0 := A.1.1) (t1 := A.1.2) (rs := A.2.2.1) (c := c) (k := j) (n := 2 ^ (d + 1)); omega) (fun j hj => rows c (by omega) j hj)
  have hab := ab_cc (t0 := A.1.1) (t1 := A.1.2) (rs := A.2.2.1) (x := x) (c := c) (n := d + 1) (by omega)
  rw [show d + 2 = d + 1 + 1 from rfl, hab] at hw
  have hlt := ab_lt (t0 := A.1.1) (t1 := A.1.2) (rs := A.2.2.1) (x := x) (c := c) (n := d + 1) (by omega) (by omega)
  have hh := x_halve (v4 := nI i) (4 * (d + 1)) cb_fuel (abN A.1.1 A.1.2 A.2.2.1 x c (d + 1)) 0 (by unfold cb_fuel; omega) (by omega) hlt
  refine ⟨M1, x_chillS (v_isOff_in (n := 17) hx (by decide)) (v_isOff_in (n := 10) hd (by decide)) (x_noC (A_xc hX) c8 hc) (v_isOff_in (n := 2) hi (by decide)) h1 hw (sh_64 d hd) hh ?_, hX1⟩
  unfold clV chQ
  rcases (show i = 0 ∨ i = 1 by omega) with e | e <;> subst e
  · rfl
  · rfl
/-! the reference -/
theorem y_w40 {v3 v4 : Int32} {v5 : Int64} {x p d : Nat} (hx : x ≤ 16) (hp : p < 1048576) (hd : d < 10) : f_X7_chillOf_L40 cb_fuel (nI x) (nI d) v3 v4 v5 (nI p) (lN 1) (nI 0) = some (lN (qwN x p (d + 1))) := by
  suffices hL : ∃ r, f_X7_chillOf_L40 cb_fuel (nI x) (nI d) v3 v4 v5 (nI p) (lN 1) (nI 0) = some r ∧ r = lN (qwN x p (d + 1)) by
    obtain ⟨r, h1, h2⟩ := hL
    rw [h2] at h1
    exact h1
  refine cb_loop0 (fun m n (s : Nat) => f_X7_chillOf_L40 m (nI x) (nI d) v3 v4 v5 (nI p) (lN s) (nI n)) (fun n s => s = qwN x p n) (d + 1) _ 1 (by omega) rfl ?_ ?_
  · rintro m s rfl
    exact ⟨_, by rw [f_X7_chillOf_L40, if_pos (by rw [cn_lt (by omega) (by omega)]; omega)], rfl⟩
  · rintro m n s hn rfl
    right
    refine ⟨_, rfl, ?_⟩
    have hz : qwN x p (n + 1) = qwN x p n * (if p.testBit n = true then x else 16 - x) := rfl
    rw [hz]
    have l1 := nI_l (show x < 2 ^ 31 by omega)
    have l2 := nI_l (show 16 - x < 2 ^ 31 by omega)
    have hin := m_isIn hp (show n < 31 by omega)
    cases e : p.testBit n with
    | true =>
      rw [e] at hin
      simp (disch := first | omega | trivial) only [f_X7_chillOf_L40, li, cn_lt, if_neg, hin, cb_let_eq, b2i_0, Bool.true_eq_false, if_false, if_true, l1, lN_mul, cn_add]
    | false =>
      rw [e] at hin
      simp (disch := first | omega | trivial) only [f_X7_chillOf_L40, li, cn_lt, if_neg, if_pos, hin, cb_let_eq, b2i_0, Bool.false_eq_true, if_false, cn_sub, l2, lN_mul, cn_add]
theorem sh_2 : ∀ d, d < 10 → nI 2 <<< (nI d &&& nI 31) = nI (2 ^ (d + 1)) := by decide +kernel
def PV (k j : Nat) : Prop := PY k j ∨ (k = 0 ∧ j = 16)
theorem y_chillL {M : cb_Mem} {t0 t1 w0 w1 : List Nat} {rs : List (Nat × Nat)} (hA : mAll M (FA t0 t1 w0 none rs 0) w0 w1 none rs 0) {x d c : Nat} {v4 : Int32} (hx : x ≤ 16) (hd : d < 10) (hc : c < d_nc (FA t0 t1 w0 none rs 0)) : ∃ M', f_X7_chillOf_L6 cb_fuel (nI x) (nI d) (nI c) v4 (lN 0) (nI 0) M = some (lN (abN t0 t1 rs x c (d + 1)), M') ∧ agr M M' PV ∧ ∃ ch, mAll M' (sxF (FA t0 t1 w0 none rs 0) (frO w0 ch)) w0 w1 ch rs 0 := by
  have c8 : d_nc (FA t0 t1 w0 none rs 0) ≤ 8 := hA.1.2.1
  have h8 : d_nh (FA t0 t1 w0 none rs 0) ≤ 8 := hA.1.1
  have hN : 2 ^ (d + 1) ≤ 2 ^ 10 := Nat.pow_le_pow_right (by decide) (by omega)
  have hsh := sh_2 d hd
  unfold abN
  have hw : ∀ (p : Nat) (v5 : Int64), p < 1048576 → f_X7_chillOf_L40 cb_fuel (nI x) (nI d) (nI c) v4 v5 (nI p) (lN 1) (nI 0) = some (lN (qwN x p (d + 1))) := fun p v5 hp => y_w40 hx hp hd
  generalize hK : 2 ^ (d + 1) = N at hN hsh
  suffices hL : ∃ r, f_X7_chillOf_L6 cb_fuel (nI x) (nI d) (nI c) v4 (lN (sumN (fun p => if mpB t0 t1 rs p c = true then qwN x p (d + 1) else 0) 0)) (nI 0) M = some r ∧ (r.1 = lN (sumN (fun p => if mpB t0 t1 rs p c = true then qwN x p (d + 1) else 0) N) ∧ agr M r.2 PV ∧ ∃ ch, mAll r.2 (sxF (FA t0 t1 w0 none rs 0) (frO w0 ch)) w0 w1 ch rs 0) by
    obtain ⟨⟨r1, r2⟩, h1, h2, h3⟩ := hL
    dsimp only at h2 h3
    rw [h2] at h1
    exact ⟨r2, h1, h3⟩
  refine cb_loop0 (fun m k (T : cb_Mem) => f_X7_chillOf_L6 m (nI x) (nI d) (nI c) v4 (lN (sumN (fun p => if mpB t0 t1 rs p c = true then qwN x p (d + 1) else 0) k)) (nI k) T) (fun k T => agr M T PV ∧ ∃ ch, mAll T (sxF (FA t0 t1 w0 none rs 0) (frO w0 ch)) w0 w1 ch rs 0) N _ M (by omega) ⟨agr.rf, none, hA⟩ ?_ ?_
  · rintro m T ⟨a, b⟩
    refine ⟨(lN (sumN (fun p => if mpB t0 t1 rs p c = true then qwN x p (d + 1) else 0) N), T), ?_, rfl, a, b⟩
    simp (disch := first | omega | trivial) only [f_X7_chillOf_L6, li, hsh, cn_le, if_pos]
  · rintro m k T hk ⟨a, ch, b⟩
    right
    have b1 := mAll_sx (ch' := some k) b (fun c hc => by cases hc; omega)
    obtain ⟨T2, g1, g2, g3⟩ := m_lives b1
    have b2 := b1.agr g2
    have e0 : eO (some k) = nI k := rfl
    rw [e0] at b1 g1 g2
    have e16 := (g3.2.1 c hc).1
    have eF : (wk (sxF (FA t0 t1 w0 none rs 0) (frO w0 (some k)))).1 c = (wk (FA t0 t1 [] (some k) rs 0)).1 c := rfl
    rw [eF] at e16
    have hz : sumN (fun p => if mpB t0 t1 rs p c = true then qwN x p (d + 1) else 0) (k + 1) = sumN (fun p => if mpB t0 t1 rs p c = true then qwN x p (d + 1) else 0) k + (if mpB t0 t1 rs k c = true then qwN x k (d + 1) else 0) := rfl
    rw [hz]
    generalize sumN (fun p => if mpB t0 t1 rs p c = true then qwN x p (d + 1) else 0) k = q
    have b3 : agr M T2 PV := (a.up (Or.inr ⟨rfl, rfl⟩)).trans (g2.mono (fun k j q => Or.inl (by simp only [PL] at q; simp only [PY]; omega)))
    refine ⟨T2, ⟨b3, some k, b2⟩, ?_⟩
    cases ew : (wk (FA t0 t1 [] (some k) rs 0)).1 c with
    | none =>
      rw [ew] at e16
      have e16' : T2 16 c = -nI 1 := e16
      have hm : mpB t0 t1 rs k c = false := by unfold mpB; rw [ew]; rfl
      rw [hm, if_neg (by decide), Nat.add_zero]
      simp (disch := first | omega | trivial) only [f_X7_chillOf_L6, li, hsh, cn_le, if_neg, cb_let_eq, g1, Option.bind_some, cn_in, cn_cl, if_pos, e16', cn_add, Nat.add_zero]
    | some r =>
      have r8 := ((wk_ok (FA t0 t1 [] (some k) rs 0)).1.1 c r ew).2.1
      have r8' : r.1 < d_nh (FA t0 t1 w0 none rs 0) := r8
      rw [ew] at e16
      have e16' : T2 16 c = nI r.1 := e16
      have hm : mpB t0 t1 rs k c = true := by unfold mpB; rw [ew]; rfl
      rw [hm, if_pos rfl]
      have hwk := hw k (lN q) (by omega)
      simp (disch := first | omega | trivial) only [f_X7_chillOf_L6, li, liL, hsh, cn_le, if_neg, cb_let_eq, g1, Option.bind_some, cn_in, cn_cl, if_pos, e16', cn_eq1, if_false, hwk, lN_add, cn_add]
theorem y_chillS {M M1 : cb_Mem} {p1 p2 p3 p4 : Int32} {y b a : Int64} (h1 : f_X7_chillOf_L6 cb_fuel p1 p2 p3 p4 0 0 M = some (y, M1)) (h3 : (1 : Int64) <<< ((4 * (p2 + 1)).toInt64 &&& 63) = b) (h4 : f_X7_part y b p4 = some a) : f_X7_chillOf p1 p2 p3 p4 M = some (a, cb_up M1 0 16 (-1)) := by
  unfold f_X7_chillOf
  rw [h1, cb_bind2_eq, cb_let_eq, h3, h4, Option.bind_some]
theorem y_chillOf {M : cb_Mem} {A : AS} (hY : yA M A) {x d c i : Nat} (hx : x < 17) (hd : d < 10) (hc : c < d_nc (FAa A)) (hi : i < 2) : ∃ M', f_X7_chillOf (nI x) (nI d) (nI c) (nI i) M = some (clV A.1.1 A.1.2 A.2.2.1 x d c i, M') ∧ yA M' A := by
  obtain ⟨M1, f1, a1, ch, b1⟩ := y_chillL (v4 := nI i) hY.2 (show x ≤ 16 by omega) hd hc
  have hlt := ab_lt (t0 := A.1.1) (t1 := A.1.2) (rs := A.2.2.1) (x := x) (c := c) (n := d + 1) (by omega) (by omega)
  have hp := y_part (t := 4 * (d + 1)) (i := i) hlt (by omega) hi
  have h16 : M 0 16 = -nI 1 := hY.2.2.2.1.2.2.2.2.2.2.1
  have b2 := mAll_sx (ch' := none) b1 (fun c hc => by cases hc)
  exact ⟨cb_up M1 0 16 (-nI 1), y_chillS f1 (sh_64 d hd) hp, hY.1.sc (agr_back a1 h16), b2⟩
theorem v_no : f_X7_no (-nI 2) = f_X6_asLong (-nI 2) := rfl
theorem C_chill : cs_chill cRel := by
  rintro MX MY p1 p2 p3 p4 ⟨A, hA, hX, hY⟩
  obtain ⟨MY1, fy, ay, wy⟩ := y_findA hA hY
  have hRy : cRel MX MY1 := ⟨A, hA, hX, ay.1⟩
  have c8 := A_nc hA
  rcases cn_range p1 17 with ⟨x, hx, rfl⟩ | h1
  · have o1 := v_isOff_in hx (by omega)
    have u1 := v_in_in2 (j := x) (b := 16) (by omega) (by omega)
    rcases cn_range p2 10 with ⟨d, hd, rfl⟩ | h2
    · have o2 := v_isOff_in hd (by omega)
      have u2 := v_in_in2 (j := d) (b := 9) (by omega) (by omega)
      rcases cn_range p3 (d_nc (FAa A)) with ⟨c, hc, rfl⟩ | h3
      · have o3 := x_noC (A_xc hX) c8 hc
        have u3 := v_isC ay.2.2.1.2.1 c8 hc
        rcases cn_range p4 2 with ⟨i, hi, rfl⟩ | h4
        · obtain ⟨MX1, fx, ax⟩ := x_chill hA hX hx hd hc hi
          obtain ⟨MY2, gy, ay2⟩ := y_chillOf ay hx hd hc hi
          have u4 := v_two hi
          refine ⟨_, MX1, MY2, fx, ?_, A, hA, ax, ay2.1⟩
          simp (disch := first | omega | trivial) only [f_X7_chill, li, liL, fy, Option.bind_some, u1, u2, u3, u4, cb_let_eq, c_1n0, if_false, gy, cb_bind2_eq]
        · have o4 := v_isOff_out h4 (by omega)
          have u4 := v_twoN h4
          refine ⟨f_X6_asLong (-nI 2), MX, MY1, ?_, ?_, hRy⟩
          · simp (disch := first | omega | trivial) only [f_X6_chill, li, o1, o2, o3, o4, cb_let_eq, if_pos, c_1n0, if_false]
          · simp (disch := first | omega | trivial) only [f_X7_chill, li, liL, fy, Option.bind_some, u1, u2, u3, u4, cb_let_eq, c_1n0, if_false, if_pos, v_no]
      · have o3 := x_noCN (A_xc hX) c8 h3
        have u3 := v_isCN ay.2.2.1.2.1 c8 h3
        refine ⟨f_X6_asLong (-nI 2), MX, MY1, ?_, ?_, hRy⟩
        · simp (disch := first | omega | trivial) only [f_X6_chill, li, o1, o2, o3, cb_let_eq, if_pos, c_1n0, if_false]
        · simp (disch := first | omega | trivial) only [f_X7_chill, li, liL, fy, Option.bind_some, u1, u2, u3, cb_let_eq, c_1n0, if_false, if_pos, v_no]
    · have o2 := v_isOff_out h2 (by omega)
      have u2 := v_in_out2 h2 (show 10 = 9 + 1 from rfl) (by omega)
      refine ⟨f_X6_asLong (-nI 2), MX, MY1, ?_, ?_, hRy⟩
      · simp (disch := first | omega | trivial) only [f_X6_chill, li, o1, o2, cb_let_eq, if_pos, c_1n0, if_false]
      · simp (disch := first | omega | trivial) only [f_X7_chill, li, liL, fy, Option.bind_some, u1, u2, cb_let_eq, c_1n0, if_false, if_pos, v_no]
  · have o1 := v_isOff_out h1 (by omega)
    have u1 := v_in_out2 h1 (show 17 = 16 + 1 from rfl) (by omega)
    refine ⟨f_X6_asLong (-nI 2), MX, MY1, ?_, ?_, hRy⟩
    · simp (disch := first | omega | trivial) only [f_X6_chill, li, o1, cb_let_eq, c_1n0, if_false]
    · simp (disch := first | omega | trivial) only [f_X7_chill, li, liL, fy, Option.bind_some, u1, cb_let_eq, if_pos, v_no]
