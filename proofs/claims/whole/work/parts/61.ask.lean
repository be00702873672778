/-! ask -/
def maxN (f : Nat → Nat) : Nat → Nat
  | 0 => 0
  | n + 1 => max (maxN f n) (f n)
theorem maxN_le {f : Nat → Nat} {z : Nat} : ∀ {n : Nat}, maxN f n ≤ z ↔ ∀ j, j < n → f j ≤ z
  | 0 => ⟨fun _ j h => absurd h (Nat.not_lt_zero j), fun _ => Nat.zero_le _⟩
  | n + 1 => by
    rw [maxN, Nat.max_le, maxN_le]
    constructor
    · rintro ⟨h1, h2⟩ j hj
      by_cases e : j = n
      · rw [e]; exact h2
      · exact h1 j (by omega)
    · intro h
      exact ⟨fun j hj => h j (by omega), h n (by omega)⟩
theorem le_maxN {f : Nat → Nat} {n j : Nat} (h : j < n) : f j ≤ maxN f n := maxN_le.mp (Nat.le_refl _) j h
def tlN (F : FD) (sg : List (Nat × Nat)) (h c : Nat) (o : Option Nat) (n : Nat) : Nat := sumN (fun d => if asB (sdF F h d) sg = true ∧ ((wk (sdF F h d)).1 c).map Prod.fst = o then 1 else 0) n
theorem tlN_le {F : FD} {sg : List (Nat × Nat)} {h c : Nat} {o : Option Nat} : ∀ {n : Nat}, tlN F sg h c o n ≤ n
  | 0 => Nat.le_refl _
  | n + 1 => by
    have := tlN_le (F := F) (sg := sg) (h := h) (c := c) (o := o) (n := n)
    show tlN F sg h c o n + _ ≤ _
    dsimp only
    split <;> omega
def oX (j : Nat) : Option Nat := if j = 8 then none else some j
def oY (j : Nat) : Option Nat := if j = 0 then none else some (j - 1)
theorem mx_XY {t : Option Nat → Nat} : maxN (fun j => t (oY j)) 9 = maxN (fun j => t (oX j)) 9 := by
  apply Nat.le_antisymm
  · rw [maxN_le]
    intro j hj
    by_cases e : j = 0
    · have : t (oY j) = t (oX 8) := by rw [e]; rfl
      rw [this]
      exact le_maxN (f := fun j => t (oX j)) (by omega)
    · have : t (oY j) = t (oX (j - 1)) := by
        unfold oX oY
        rw [if_neg e, if_neg (by omega)]
      rw [this]
      exact le_maxN (f := fun j => t (oX j)) (by omega)
  · rw [maxN_le]
    intro j hj
    by_cases e : j = 8
    · have : t (oX j) = t (oY 0) := by rw [e]; rfl
      rw [this]
      exact le_maxN (f := fun j => t (oY j)) (by omega)
    · have : t (oX j) = t (oY (j + 1)) := by
        unfold oX oY
        rw [if_neg e, if_neg (by omega)]
        rfl
      rw [this]
      exact le_maxN (f := fun j => t (oY j)) (by omega)
def gaF (F : FD) (sg : List (Nat × Nat)) (h c : Nat) : Nat := maxN (fun j => tlN F sg h c (oX j) 30) 9
theorem gaF_le {F : FD} {sg : List (Nat × Nat)} {h c : Nat} : gaF F sg h c ≤ 30 := maxN_le.mpr (fun j _ => tlN_le)
def akV (F : FD) (sg : List (Nat × Nat)) (h : Nat) : Int32 := eP1 (bsN (gaF F sg h) (d_nc F))
def PK (k _j : Nat) : Prop := 50 ≤ k ∧ k ≤ 57
theorem x_ask0 {M : cb_Mem} {h : Nat} : ∃ M', f_X6_ask_L17 cb_fuel (nI h) (nI 0) M = some M' ∧ (agr M M' PK ∧ ∀ c, c < 8 → ∀ j, j < 9 → M' (50 + c) j = nI 0) := by
  refine cb_loop0 (fun m k (T : cb_Mem) => f_X6_ask_L17 m (nI h) (nI k) T) (fun k T => agr M T PK ∧ ∀ c, c < k → ∀ j, j < 9 → T (50 + c) j = nI 0) 8 _ M (by omega) ⟨agr.rf, fun c hc => absurd hc (Nat.not_lt_zero c)⟩ ?_ ?_
  · rintro m T ⟨a, b⟩
    exact ⟨T, by rw [f_X6_ask_L17, if_pos (by decide)], a, b⟩
  · rintro m k T hk ⟨a, b⟩
    right
    obtain ⟨T1, f1, a1, b1⟩ := x_fill (M := T) (q := 50 + k) (z := 9) (v := nI 0) (by omega)
    refine ⟨T1, ⟨a.trans (a1.mono (fun k j q => by simp only [PK]; omega)), fun c hc j hj => ?_⟩, ?_⟩
    · by_cases e : c = k
      · subst e; exact b1 j hj
      · rw [a1 _ _ (by omega)]; exact b c (by omega) j hj
    · simp (disch := first | omega | trivial) only [f_X6_ask_L17, li, cn_le, if_neg, cn_in, cn_cl, if_pos, f1, Option.bind_some, cn_add]
def jX (o : Option (Nat × Nat)) : Nat := match o with
  | none => 8
  | some p => p.1
def jY (o : Option (Nat × Nat)) : Nat := match o with
  | none => 0
  | some p => p.1 + 1
theorem oX_J {o : Option (Nat × Nat)} {j : Nat} (hb : ∀ p, o = some p → p.1 < 8) (hj : j < 9) : (o.map Prod.fst = oX j) ↔ j = jX o := by
  unfold oX jX
  cases o with
  | none =>
    by_cases e : j = 8
    · rw [if_pos e]; exact ⟨fun _ => e, fun _ => rfl⟩
    · rw [if_neg e]; exact ⟨fun z => (by cases z), fun z => absurd z e⟩
  | some p =>
    have := hb p rfl
    by_cases e : j = 8
    · rw [if_pos e]; exact ⟨fun z => (by cases z), fun z => absurd (show j = p.1 from z) (by omega)⟩
    · rw [if_neg e]
      show some p.1 = some j ↔ j = p.1
      rw [Option.some.injEq]
      exact ⟨fun z => z.symm, fun z => z.symm⟩
theorem oY_J {o : Option (Nat × Nat)} {j : Nat} (hj : j < 9) : (o.map Prod.fst = oY j) ↔ j = jY o := by
  unfold oY jY
  cases o with
  | none =>
    by_cases e : j = 0
    · rw [if_pos e]; exact ⟨fun _ => e, fun _ => rfl⟩
    · rw [if_neg e]; exact ⟨fun z => (by cases z), fun z => absurd z e⟩
  | some p =>
    by_cases e : j = 0
    · rw [if_pos e]; exact ⟨fun z => (by cases z), fun z => absurd (show j = p.1 + 1 from z) (by omega)⟩
    · rw [if_neg e]
      show some p.1 = some (j - 1) ↔ j = p.1 + 1
      rw [Option.some.injEq]
      omega
theorem x_tally {M : cb_Mem} {F : FD} (hF : WF F) (hM : xFd M F) (hW : xWk M F) {t : Nat → Nat → Nat} (ht : ∀ c, c < d_nc F → ∀ j, j < 9 → M (50 + c) j = nI (t c j)) : ∃ M', f_X6_tallyWhoGotWhat M = some M' ∧ agr M M' PK ∧ ∀ c, c < d_nc F → ∀ j, j < 9 → M' (50 + c) j = nI (t c j + (if ((wk F).1 c).map Prod.fst = oX j then 1 else 0)) := by
  have c8 : d_nc F ≤ 8 := hF.2.1
  have h8 : d_nh F ≤ 8 := hF.1
  suffices hL : ∃ r, f_X6_tallyWhoGotWhat_L2 cb_fuel (nI 0) M = some r ∧ (agr M r PK ∧ ∀ c, c < d_nc F → ∀ j, j < 9 → r (50 + c) j = nI (t c j + (if c < d_nc F ∧ ((wk F).1 c).map Prod.fst = oX j then 1 else 0))) by
    obtain ⟨r, h1, h2, h3⟩ := hL
    refine ⟨r, by simp only [f_X6_tallyWhoGotWhat, li, h1, Option.bind_some], h2, fun c hc j hj => ?_⟩
    rw [h3 c hc j hj]
    congr 2
    simp [hc]
  refine cb_loop0 (fun m k (T : cb_Mem) => f_X6_tallyWhoGotWhat_L2 m (nI k) T) (fun k T => agr M T PK ∧ ∀ c, c < d_nc F → ∀ j, j < 9 → T (50 + c) j = nI (t c j + (if c < k ∧ ((wk F).1 c).map Prod.fst = oX j then 1 else 0))) (d_nc F) _ M (by omega) ⟨agr.rf, fun c hc j hj => by rw [if_neg (fun z => by omega)]; exact ht c hc j hj⟩ ?_ ?_
  · rintro m T ⟨a, b⟩
    have e : T 3 7 = nI (d_nc F) := by rw [a _ _ (by simp only [PK]; omega)]; exact hM.2.1
    exact ⟨T, by rw [f_X6_tallyWhoGotWhat_L2, e, if_pos (by rw [cn_le (by omega) (by omega)]; omega)], a, b⟩
  · rintro m k T hk ⟨a, b⟩
    right
    have e : T 3 7 = nI (d_nc F) := by rw [a _ _ (by simp only [PK]; omega)]; exact hM.2.1
    have e24 : T 24 k = eP1 ((wk F).1 k) := by rw [a _ _ (by simp only [PK]; omega)]; exact (hW.2.2.2.2 k (by omega)).1
    have hbd : ∀ p, (wk F).1 k = some p → p.1 < 8 := fun p hp => by have := ((wk_ok F).1.1 k p hp).2.1; omega
    obtain ⟨J, hJ, hJe, hJx⟩ : ∃ J, J < 9 ∧ (∀ j, j < 9 → (((wk F).1 k).map Prod.fst = oX j ↔ j = J)) ∧ (if eP1 ((wk F).1 k) = -nI 1 then nI 8 else eP1 ((wk F).1 k)) = nI J := by
      refine ⟨jX ((wk F).1 k), ?_, fun j hj => oX_J hbd hj, ?_⟩
      · cases ew : (wk F).1 k with
        | none => show 8 < 9; omega
        | some p => have := hbd p ew; show p.1 < 9; omega
      · cases ew : (wk F).1 k with
        | none => rfl
        | some p =>
          have := hbd p ew
          show (if nI p.1 = -nI 1 then nI 8 else nI p.1) = nI p.1
          rw [if_neg (by rw [cn_eq1 (by omega)]; exact id)]
    have old := b k hk J hJ
    rw [if_neg (fun z => by omega), Nat.add_zero] at old
    refine ⟨cb_up T (50 + k) J (nI (t k J + 1)), ⟨a.up (by simp only [PK]; omega), fun c hc j hj => ?_⟩, ?_⟩
    · rw [cu]
      by_cases ec : c = k
      · subst ec
        rw [if_pos rfl]
        by_cases ej : j = J
        · rw [if_pos ej, if_pos ⟨by omega, (hJe j hj).mpr ej⟩, ej]
        · rw [if_neg ej, b c hc j hj, if_neg (fun z => by omega), if_neg (fun z => ej ((hJe j hj).mp z.2))]
      · rw [if_neg (by omega), b c hc j hj]
        congr 2
        have : (c < k + 1) = (c < k) := propext (by omega)
        simp only [this]
    · simp (disch := first | omega | trivial) only [f_X6_tallyWhoGotWhat_L2, li, e, cn_le, if_neg, cn_in, cn_cl, if_pos, cb_let_eq, e24, hJx, old, cn_add]
theorem PK_PX {M M' : cb_Mem} (h : agr M M' PK) : agr M M' PX := h.mono (fun k j q => by simp only [PK] at q; simp only [PX]; omega)
theorem x_askL {M : cb_Mem} {F : FD} {sg : List (Nat × Nat)} (hF : WF F) (hM : xFd M F) (hR : xR M 11 15 sg.length (sE sg)) (hS : sgO sg) {h : Nat} (hh : h < d_nh F) (h0 : ∀ c, c < 8 → ∀ j, j < 9 → M (50 + c) j = nI 0) : ∃ M', f_X6_ask_L41 cb_fuel (nI h) (nI 0) M = some M' ∧ (agr M M' PX ∧ M' 3 7 = nI (d_nc F) ∧ ∀ c, c < d_nc F → ∀ j, j < 9 → M' (50 + c) j = nI (tlN F sg h c (oX j) 30)) := by
  have h8 : d_nh F ≤ 8 := hF.1
  have c8 : d_nc F ≤ 8 := hF.2.1
  refine cb_loop0 (fun m k (T : cb_Mem) => f_X6_ask_L41 m (nI h) (nI k) T) (fun k T => agr M T PX ∧ (∃ e, xFd T (sdF F h e)) ∧ ∀ c, c < d_nc F → ∀ j, j < 9 → T (50 + c) j = nI (tlN F sg h c (oX j) k)) 30 _ M (by omega) ⟨agr.rf, ⟨d_due F h, by rw [sdF_self]; exact hM⟩, fun c hc j hj => h0 c (by omega) j hj⟩ ?_ ?_
  · rintro m T ⟨a, ⟨e, b⟩, c⟩
    exact ⟨T, by rw [f_X6_ask_L41, if_pos (by decide)], a, b.2.1, c⟩
  · rintro m k T hk ⟨b, ⟨e, c⟩, d⟩
    right
    obtain ⟨T2, g1, g2, g3⟩ := x_go (WF_sd hF hk) (xFd_sd (d := k) c)
    have b2 := (xFd_sd (d := k) c).agr g2 (by intro k j q; simp only [PG]; omega)
    have b3 := (b.up (q := 17) (j := h) (v := nI k) (by simp only [PX]; omega)).trans (PG_PX g2)
    have hs := x_isAsSeen (WF_sd hF hk) (hR.eq (fun k j q => b3 _ _ (by simp only [PX]; omega))) hS.1 hS.2 b2 g3
    have d2 : ∀ c, c < d_nc F → ∀ j, j < 9 → T2 (50 + c) j = nI (tlN F sg h c (oX j) k) := fun c hc j hj => by
      rw [g2 _ _ (by simp only [PG]; omega), cu, if_neg (by omega)]; exact d c hc j hj
    have hst : ∀ c j, tlN F sg h c (oX j) (k + 1) = tlN F sg h c (oX j) k + (if asB (sdF F h k) sg = true ∧ ((wk (sdF F h k)).1 c).map Prod.fst = oX j then 1 else 0) := fun c j => rfl
    cases ea : asB (sdF F h k) sg with
    | true =>
      rw [ea] at hs
      obtain ⟨T3, f3, a3, d3⟩ := x_tally (WF_sd hF hk) b2 g3 (t := fun c j => tlN F sg h c (oX j) k) d2
      refine ⟨T3, ⟨b3.trans (PK_PX a3), ⟨k, b2.agr a3 (by intro k j q; simp only [PK]; omega)⟩, fun c hc j hj => ?_⟩, ?_⟩
      · rw [d3 c hc j hj, hst, ea]
        congr 2
        simp
      · simp (disch := first | omega | trivial) only [f_X6_ask_L41, li, cn_le, if_neg, cn_in, cn_cl, if_pos, cb_let_eq, g1, Option.bind_some, hs, b2i_0, Bool.true_eq_false, if_false, f3, cn_add]
    | false =>
      rw [ea] at hs
      refine ⟨T2, ⟨b3, ⟨k, b2⟩, fun c hc j hj => ?_⟩, ?_⟩
      · rw [d2 c hc j hj, hst, ea, if_neg (fun z => by cases z.1)]
        rfl
      · simp (disch := first | omega | trivial) only [f_X6_ask_L41, li, cn_le, if_neg, cn_in, cn_cl, if_pos, cb_let_eq, g1, Option.bind_some, hs, b2i_0, cn_add]
theorem cn_max {a b : Nat} (ha : a < 2147483648) (hb : b < 2147483648) : cb_max (nI a) (nI b) = nI (max a b) := by
  unfold cb_max
  by_cases e : a < b
  · rw [if_pos (by rw [cn_lt ha hb]; exact e)]; congr 1; omega
  · rw [if_neg (by rw [cn_lt ha hb]; exact e)]; congr 1; omega
theorem v_greater {a b : Nat} (ha : a < 2147483648) (hb : b < 2147483648) : f_X7_greater (nI a) (nI b) = nI (max b a) := by
  unfold f_X7_greater
  by_cases e : a ≤ b
  · rw [if_pos (by rw [cn_le ha hb]; exact e)]; congr 1; omega
  · rw [if_neg (by rw [cn_le ha hb]; exact e)]; congr 1; omega
theorem x_max9 {M : cb_Mem} {c : Nat} {f : Nat → Nat} {v1 v2 : Int32} (hc : c < 8) (hb : ∀ j, j < 9 → f j ≤ 30) (hf : ∀ j, j < 9 → M (50 + c) j = nI (f j)) : f_X6_leastTallied_L24 cb_fuel v1 v2 (nI c) (nI 0) (nI 0) M = some (nI (maxN f 9)) := by
  suffices hL : ∃ r, f_X6_leastTallied_L24 cb_fuel v1 v2 (nI c) (nI 0) (nI 0) M = some r ∧ r = nI (maxN f 9) by
    obtain ⟨r, h1, h2⟩ := hL
    rw [h2] at h1
    exact h1
  refine cb_loop0 (fun m k (s : Nat) => f_X6_leastTallied_L24 m v1 v2 (nI c) (nI s) (nI k) M) (fun k s => s = maxN f k) 9 _ 0 (by omega) rfl ?_ ?_
  · rintro m s rfl
    exact ⟨_, by rw [f_X6_leastTallied_L24, if_pos (by decide)], rfl⟩
  · rintro m k s hk rfl
    right
    refine ⟨_, rfl, ?_⟩
    have hm : maxN f k ≤ 30 := maxN_le.mpr (fun j hj => hb j (by omega))
    have hk2 := hb k hk
    have hz : maxN f (k + 1) = max (maxN f k) (f k) := rfl
    rw [hz]
    simp (disch := first | omega | trivial) only [f_X6_leastTallied_L24, li, cn_lt, if_neg, cn_in, cn_cl, if_pos, hf, cn_max, cb_let_eq, cn_add]
theorem x_least {M : cb_Mem} {n : Nat} {t : Nat → Nat → Nat} (hn : n ≤ 8) (h37 : M 3 7 = nI n) (hb : ∀ c, c < n → ∀ j, j < 9 → t c j ≤ 30) (ht : ∀ c, c < n → ∀ j, j < 9 → M (50 + c) j = nI (t c j)) : f_X6_leastTallied M = some (eP1 (bsN (fun c => maxN (t c) 9) n)) := by
  suffices hL : ∃ r, f_X6_leastTallied_L7 cb_fuel (eP1 (bsN (fun c => maxN (t c) 9) 0)) (nI (g9 (bsN (fun c => maxN (t c) 9) 0) 31)) (nI 0) M = some r ∧ r = eP1 (bsN (fun c => maxN (t c) 9) n) by
    obtain ⟨r, h1, h2⟩ := hL
    rw [h2] at h1
    have h1' : f_X6_leastTallied_L7 cb_fuel (-nI 1) (nI 31) (nI 0) M = some (eP1 (bsN (fun c => maxN (t c) 9) n)) := h1
    simp only [f_X6_leastTallied, li, h1', Option.bind_some]
  refine cb_loop0 (fun m k (_ : Unit) => f_X6_leastTallied_L7 m (eP1 (bsN (fun c => maxN (t c) 9) k)) (nI (g9 (bsN (fun c => maxN (t c) 9) k) 31)) (nI k) M) (fun k _ => True) n _ () (by omega) trivial ?_ ?_
  · rintro m s -
    exact ⟨_, by rw [f_X6_leastTallied_L7, h37, if_pos (by rw [cn_le (by omega) (by omega)]; omega)], rfl⟩
  · rintro m k s hk -
    right
    refine ⟨(), trivial, ?_⟩
    have hm : ∀ c, c < n → maxN (t c) 9 ≤ 30 := fun c hc => maxN_le.mpr (fun j hj => hb c hc j hj)
    have hmk := hm k hk
    have hst := bsN_step (f := fun c => maxN (t c) 9) (n := k) (z := 31) (by omega)
    have hg9 : g9 (bsN (fun c => maxN (t c) 9) k) 31 ≤ 31 := by
      cases e : bsN (fun c => maxN (t c) 9) k with
      | none => exact Nat.le_refl _
      | some q =>
        obtain ⟨q1, q2⟩ := bsN_ok e
        have := hm q.1 (by omega)
        show q.2 ≤ 31
        omega
    have h24 := x_max9 (M := M) (v1 := eP1 (bsN (fun c => maxN (t c) 9) k)) (v2 := nI (g9 (bsN (fun c => maxN (t c) 9) k) 31)) (show k < 8 by omega) (hb k hk) (ht k hk)
    by_cases q : maxN (t k) 9 < g9 (bsN (fun c => maxN (t c) 9) k) 31
    · rw [if_pos q] at hst
      rw [hst]
      have e1 : eP1 (some (k, maxN (t k) 9)) = nI k := rfl
      have e2 : g9 (some (k, maxN (t k) 9)) 31 = maxN (t k) 9 := rfl
      simp (disch := first | omega | trivial) only [f_X6_leastTallied_L7, li, h37, cn_le, if_neg, h24, Option.bind_some, cb_bind2_eq, cn_add, e1, e2]
    · rw [if_neg q] at hst
      rw [hst]
      simp (disch := first | omega | trivial) only [f_X6_leastTallied_L7, li, h37, cn_le, if_neg, if_pos, h24, Option.bind_some, cb_bind2_eq, cn_add]
theorem x_askS {M M1 M2 M3 : cb_Mem} {p x : Int32} (o1 : f_X6_isNoHead p M = 0) (fx : f_X6_layOut M = some M1) (f2 : f_X6_ask_L17 cb_fuel p 0 M1 = some M2) (f3 : f_X6_ask_L41 cb_fuel p 0 M2 = some M3) (hl : f_X6_leastTallied M3 = some x) : f_X6_ask p M = some (x, M3) := by
  unfold f_X6_ask
  rw [cb_let_eq, o1, if_pos rfl, fx, Option.bind_some, f2, Option.bind_some, f3, Option.bind_some, hl, Option.bind_some]
theorem x_ask {M : cb_Mem} {A : AS} (hA : AOK A) (hX : XS M A) {h : Nat} (hh : h < d_nh (FAa A)) : ∃ M', f_X6_ask (nI h) M = some (akV (FAa A) A.2.2.2.1 h, M') ∧ XS M' A := by
  obtain ⟨M1, fx, ax, b1⟩ := x_lay0 hA hX
  have o1 := x_noH (A_xh hX) (A_nh hA) hh
  obtain ⟨M2, f2, a2, d2⟩ := x_ask0 (M := M1) (h := h)
  have ax2 := ax.sc (PK_PX a2)
  have b2 := b1.agr a2 (by intro k j q; simp only [PK]; omega)
  obtain ⟨M3, f3, a3, n3, d3⟩ := x_askL (sg := A.2.2.2.1) (WF_FA hA) b2 ax2.2.2.2.2.2.1 (A_sg hA) hh d2
  have hl := x_least (t := fun c j => tlN (FAa A) A.2.2.2.1 h c (oX j) 30) (A_nc hA) n3 (fun c _ j _ => tlN_le) d3
  have hx : (fun c => maxN ((fun c j => tlN (FAa A) A.2.2.2.1 h c (oX j) 30) c) 9) = gaF (FAa A) A.2.2.2.1 h := by
    funext c
    unfold gaF
    rfl
  rw [hx] at hl
  refine ⟨M3, ?_, ax2.sc a3⟩
  exact x_askS o1 fx f2 f3 hl
/-! the reference's -/
theorem msk_ex (p : Nat → Bool) : ∀ n, ∃ b, b < 2 ^ n ∧ ∀ j, j < n → b.testBit j = p j
  | 0 => ⟨0, by decide, fun j hj => absurd hj (Nat.not_lt_zero j)⟩
  | n + 1 => by
    obtain ⟨b, h1, h2⟩ := msk_ex p n
    have h3 : 2 ^ n < 2 ^ (n + 1) := Nat.pow_lt_pow_right (by decide) (by omega)
    have h4 : b.testBit n = false := Nat.testBit_lt_two_pow h1
    cases e : p n with
    | false =>
      refine ⟨b, by omega, fun j hj => ?_⟩
      by_cases q : j = n
      · rw [q, h4, e]
      · exact h2 j (by omega)
    | true =>
      refine ⟨b ||| 2 ^ n, Nat.or_lt_two_pow (by omega) h3, fun j hj => ?_⟩
      rw [Nat.testBit_or]
      by_cases q : j = n
      · rw [q, e, Nat.testBit_two_pow_self, Bool.or_true]
      · rw [h2 j (by omega), Nat.testBit_two_pow_of_ne (fun z => q z.symm), Bool.or_false]
theorem msk_mk (p : Nat → Bool) (n : Nat) : msk n (nI (mkN p n)) p := by
  obtain ⟨b, h1, h2⟩ := msk_ex p n
  rw [← mkN_eq h1 h2]
  exact ⟨b, h1, rfl, h2⟩
theorem v_isIn {n k : Nat} {x : Int32} {p : Nat → Bool} (hm : msk n x p) (hk : k < n) (hn : n ≤ 30) : f_X7_isIn x (nI k) = b2i (p k) := by
  have h := msk_bit hm hk hn
  cases e : p k with
  | true =>
    rw [e] at h
    have h' : x >>> (nI k &&& nI 31) &&& nI 1 = nI 1 := h
    simp only [f_X7_isIn, li, h', if_true]
    rfl
  | false =>
    rw [e] at h
    have h' : x >>> (nI k &&& nI 31) &&& nI 1 = nI 0 := h
    simp (disch := first | omega | trivial) only [f_X7_isIn, li, h', cn_eq, if_neg]
    rfl
theorem y_ask0 {M : cb_Mem} {h : Nat} {x1 x2 : Int32} : ∃ M', f_X7_askOf_L21 cb_fuel (nI h) x1 x2 (nI 0) M = some M' ∧ (agr M M' (fun k _ => k = 21) ∧ ∀ j, j < 72 → M' 21 j = nI 0) := by
  refine cb_loop0 (fun m k (T : cb_Mem) => f_X7_askOf_L21 m (nI h) x1 x2 (nI k) T) (fun k T => agr M T (fun k _ => k = 21) ∧ ∀ j, j < k → T 21 j = nI 0) 72 _ M (by omega) ⟨agr.rf, fun c hc => absurd hc (Nat.not_lt_zero c)⟩ ?_ ?_
  · rintro m T ⟨a, b⟩
    exact ⟨T, by rw [f_X7_askOf_L21, if_pos (by decide)], a, b⟩
  · rintro m k T hk ⟨a, b⟩
    right
    refine ⟨cb_up T 21 k (nI 0), ⟨a.up rfl, fun j hj => ?_⟩, ?_⟩
    · rw [cu, if_pos rfl]
      by_cases e : j = k
      · rw [if_pos e]
      · rw [if_neg e]; exact b j (by omega)
    · simp (disch := first | omega | trivial) only [f_X7_askOf_L21, li, cn_le, if_neg, cn_in, cn_cl, if_pos, cb_let_eq, cn_add]
theorem cn_m1 (a : Int32) : a + -nI 1 + nI 1 = a := by
  rw [Int32.add_assoc, show (-nI 1 + nI 1 : Int32) = 0 by decide, Int32.add_zero]
theorem y_tally {M : cb_Mem} {F : FD} {w1 : List Nat} (hF : WF F) (h9 : M 0 9 = nI (d_nc F)) (hS : mS M F w1 (wk F)) {t : Nat → Nat → Nat} (ht : ∀ c, c < d_nc F → ∀ j, j < 9 → M 21 (9 * c + j) = nI (t c j)) (v1 v2 v3 v4 : Int32) : ∃ M', f_X7_askOf_L80 cb_fuel v1 v2 v3 v4 (nI 0) M = some M' ∧ (agr M M' (fun k _ => k = 21) ∧ ∀ c, c < d_nc F → ∀ j, j < 9 → M' 21 (9 * c + j) = nI (t c j + (if ((wk F).1 c).map Prod.fst = oY j then 1 else 0))) := by
  have c8 : d_nc F ≤ 8 := hF.2.1
  have h8 : d_nh F ≤ 8 := hF.1
  suffices hL : ∃ r, f_X7_askOf_L80 cb_fuel v1 v2 v3 v4 (nI 0) M = some r ∧ (agr M r (fun k _ => k = 21) ∧ ∀ c, c < d_nc F → ∀ j, j < 9 → r 21 (9 * c + j) = nI (t c j + (if c < d_nc F ∧ ((wk F).1 c).map Prod.fst = oY j then 1 else 0))) by
    obtain ⟨r, h1, h2, h3⟩ := hL
    refine ⟨r, h1, h2, fun c hc j hj => ?_⟩
    rw [h3 c hc j hj]
    congr 2
    simp [hc]
  refine cb_loop0 (fun m k (T : cb_Mem) => f_X7_askOf_L80 m v1 v2 v3 v4 (nI k) T) (fun k T => agr M T (fun k _ => k = 21) ∧ ∀ c, c < d_nc F → ∀ j, j < 9 → T 21 (9 * c + j) = nI (t c j + (if c < k ∧ ((wk F).1 c).map Prod.fst = oY j then 1 else 0))) (d_nc F) _ M (by omega) ⟨agr.rf, fun c hc j hj => by rw [if_neg (fun z => by omega)]; exact ht c hc j hj⟩ ?_ ?_
  · rintro m T ⟨a, b⟩
    have e : T 0 9 = nI (d_nc F) := by rw [a _ _ (by omega)]; exact h9
    exact ⟨T, by rw [f_X7_askOf_L80, e, if_pos (by rw [cn_le (by omega) (by omega)]; omega)], a, b⟩
  · rintro m k T hk ⟨a, b⟩
    right
    have e : T 0 9 = nI (d_nc F) := by rw [a _ _ (by omega)]; exact h9
    have e16 : T 16 k = eP1 ((wk F).1 k) := by rw [a _ _ (by omega)]; exact (hS.1 k hk).1
    obtain ⟨J, hJ, hJe, hJx⟩ : ∃ J, J < 9 ∧ (∀ j, j < 9 → (((wk F).1 k).map Prod.fst = oY j ↔ j = J)) ∧ nI (9 * k) + eP1 ((wk F).1 k) + nI 1 = nI (9 * k + J) := by
      refine ⟨jY ((wk F).1 k), ?_, fun j hj => oY_J hj, ?_⟩
      · cases ew : (wk F).1 k with
        | none => show 0 < 9; omega
        | some p => have := ((wk_ok F).1.1 k p ew).2.1; show p.1 + 1 < 9; omega
      · cases ew : (wk F).1 k with
        | none => exact cn_m1 _
        | some p =>
          show nI (9 * k) + nI p.1 + nI 1 = nI (9 * k + (p.1 + 1))
          rw [cn_add, cn_add]
          rfl
    have old := b k hk J hJ
    rw [if_neg (fun z => by omega), Nat.add_zero] at old
    refine ⟨cb_up T 21 (9 * k + J) (nI (t k J + 1)), ⟨a.up rfl, fun c hc j hj => ?_⟩, ?_⟩
    · rw [cu, if_pos rfl]
      by_cases ec : c = k
      · subst ec
        by_cases ej : j = J
        · rw [if_pos (by omega), if_pos ⟨by omega, (hJe j hj).mpr ej⟩, ej]
        · rw [if_neg (by omega), b c hc j hj, if_neg (fun z => by omega), if_neg (fun z => ej ((hJe j hj).mp z.2))]
      · rw [if_neg (by omega), b c hc j hj]
        congr 2
        have : (c < k + 1) = (c < k) := propext (by omega)
        simp only [this]
    · simp (disch := first | omega | trivial) only [f_X7_askOf_L80, li, e, cn_le, if_neg, cn_mul, e16, hJx, cn_in, cn_cl, if_pos, cb_let_eq, old, cn_add]
theorem y_askL {M : cb_Mem} {F : FD} {w0 w1 : List Nat} {ch : Option Nat} {rs : List (Nat × Nat)} {gm : Nat} {sg : List (Nat × Nat)} (hA : mAll M F w0 w1 ch rs gm) {h : Nat} (hh : h < d_nh F) (h0 : ∀ j, j < 72 → M 21 j = nI 0) (x2 : Int32) : ∃ M', f_X7_askOf_L45 cb_fuel (nI h) (waD F sg h) x2 (nI 0) M = some M' ∧ (agr M M' PY ∧ (∃ e, mAll M' (sdF F h e) w0 w1 ch rs gm) ∧ ∀ c, c < d_nc F → ∀ j, j < 9 → M' 21 (9 * c + j) = nI (tlN F sg h c (oY j) 30)) := by
  have hF := hA.1
  have h8 : d_nh F ≤ 8 := hF.1
  have c8 : d_nc F ≤ 8 := hF.2.1
  refine cb_loop0 (fun m k (T : cb_Mem) => f_X7_askOf_L45 m (nI h) (waD F sg h) x2 (nI k) T) (fun k T => agr M T PY ∧ (∃ e, mAll T (sdF F h e) w0 w1 ch rs gm) ∧ ∀ c, c < d_nc F → ∀ j, j < 9 → T 21 (9 * c + j) = nI (tlN F sg h c (oY j) k)) 30 _ M (by omega) ⟨agr.rf, ⟨d_due F h, by rw [sdF_self]; exact hA⟩, fun c hc j hj => h0 _ (by omega)⟩ ?_ ?_
  · rintro m T ⟨a, b, c⟩
    exact ⟨T, by rw [f_X7_askOf_L45, if_pos (by decide)], a, b, c⟩
  · rintro m k T hk ⟨b, ⟨e, c⟩, d⟩
    right
    have hin := v_isIn (msk_mk (fun v => decide (v < 30) && asB (sdF F h v) sg) 30) hk (by omega)
    rw [decide_eq_true hk, Bool.true_and] at hin
    have hin' : f_X7_isIn (waD F sg h) (nI k) = b2i (asB (sdF F h k) sg) := hin
    have hst : ∀ c j, tlN F sg h c (oY j) (k + 1) = tlN F sg h c (oY j) k + (if asB (sdF F h k) sg = true ∧ ((wk (sdF F h k)).1 c).map Prod.fst = oY j then 1 else 0) := fun c j => rfl
    cases ea : asB (sdF F h k) sg with
    | true =>
      rw [ea] at hin'
      have c1 := mAll_sd c hk hF
      obtain ⟨T2, g1, g2, g3⟩ := m_lives c1
      have c2 := c1.agr g2
      obtain ⟨T3, f3, a3, d3⟩ := y_tally (t := fun c j => tlN F sg h c (oY j) k) c2.1 c2.2.1.2.1 g3.2 (fun c hc j hj => by
        rw [g2 _ _ (by simp only [PL]; omega), cu, if_neg (by omega)]; exact d c hc j hj) (nI h) (waD F sg h) x2 (nI k)
      refine ⟨T3, ⟨((b.up (q := 7) (j := 2 * h + 1) (v := nI k) (by simp [PY])).trans (PL_PY g2)).trans (a3.mono (fun k j q => by simp only [PY]; omega)), ⟨k, c2.eq (fun k j q => a3 _ _ (by omega))⟩, fun c hc j hj => ?_⟩, ?_⟩
      · rw [d3 c hc j hj, hst, ea]
        congr 2
        simp
      · simp (disch := first | omega | trivial) only [f_X7_askOf_L45, li, cn_le, if_neg, cb_let_eq, hin', b2i_0, Bool.true_eq_false, if_false, cn_mul, cn_add, cn_in, cn_cl, if_pos, g1, Option.bind_some, f3]
    | false =>
      rw [ea] at hin'
      refine ⟨T, ⟨b, ⟨e, c⟩, fun c hc j hj => ?_⟩, ?_⟩
      · rw [d c hc j hj, hst, ea, if_neg (fun z => by cases z.1)]
        rfl
      · simp (disch := first | omega | trivial) only [f_X7_askOf_L45, li, cn_le, if_neg, cb_let_eq, hin', b2i_0, if_pos, Option.bind_some, cn_add]
theorem y_max9 {M : cb_Mem} {c : Nat} {f : Nat → Nat} {v1 v2 : Int32} (hc : c < 8) (hb : ∀ j, j < 9 → f j ≤ 30) (hf : ∀ j, j < 9 → M 21 (9 * c + j) = nI (f j)) : f_X7_askOf_L160 cb_fuel v1 v2 (nI c) (nI 0) (nI 0) M = some (nI (maxN f 9)) := by
  suffices hL : ∃ r, f_X7_askOf_L160 cb_fuel v1 v2 (nI c) (nI 0) (nI 0) M = some r ∧ r = nI (maxN f 9) by
    obtain ⟨r, h1, h2⟩ := hL
    rw [h2] at h1
    exact h1
  refine cb_loop0 (fun m k (s : Nat) => f_X7_askOf_L160 m v1 v2 (nI c) (nI s) (nI k) M) (fun k s => s = maxN f k) 9 _ 0 (by omega) rfl ?_ ?_
  · rintro m s rfl
    exact ⟨_, by rw [f_X7_askOf_L160, if_pos (by decide)], rfl⟩
  · rintro m k s hk rfl
    right
    refine ⟨_, rfl, ?_⟩
    have hm : maxN f k ≤ 30 := maxN_le.mpr (fun j hj => hb j (by omega))
    have hk2 := hb k hk
    have hz : maxN f (k + 1) = max (maxN f k) (f k) := rfl
    rw [hz]
    simp (disch := first | omega | trivial) only [f_X7_askOf_L160, li, cn_le, if_neg, cn_mul, cn_add, cn_in, cn_cl, if_pos, hf, v_greater, cb_let_eq]
theorem y_least {M : cb_Mem} {n : Nat} {t : Nat → Nat → Nat} (hn : n ≤ 8) (h9 : M 0 9 = nI n) (hb : ∀ c, c < n → ∀ j, j < 9 → t c j ≤ 30) (ht : ∀ c, c < n → ∀ j, j < 9 → M 21 (9 * c + j) = nI (t c j)) : f_X7_askOf_L145 cb_fuel (-nI 1) (nI 0) (nI 0) M = some (eP1 (bsN (fun c => maxN (t c) 9) n)) := by
  suffices hL : ∃ r, f_X7_askOf_L145 cb_fuel (eP1 (bsN (fun c => maxN (t c) 9) 0)) (nI (g9 (bsN (fun c => maxN (t c) 9) 0) 0)) (nI 0) M = some r ∧ r = eP1 (bsN (fun c => maxN (t c) 9) n) by
    obtain ⟨r, h1, h2⟩ := hL
    rw [h2] at h1
    exact h1
  refine cb_loop0 (fun m k (_ : Unit) => f_X7_askOf_L145 m (eP1 (bsN (fun c => maxN (t c) 9) k)) (nI (g9 (bsN (fun c => maxN (t c) 9) k) 0)) (nI k) M) (fun k _ => True) n _ () (by omega) trivial ?_ ?_
  · rintro m s -
    exact ⟨_, by rw [f_X7_askOf_L145, h9, if_pos (by rw [cn_le (by omega) (by omega)]; omega)], rfl⟩
  · rintro m k s hk -
    right
    refine ⟨(), trivial, ?_⟩
    have hm : ∀ c, c < n → maxN (t c) 9 ≤ 30 := fun c hc => maxN_le.mpr (fun j hj => hb c hc j hj)
    have hmk := hm k hk
    have h24 := y_max9 (M := M) (v1 := eP1 (bsN (fun c => maxN (t c) 9) k)) (v2 := nI (g9 (bsN (fun c => maxN (t c) 9) k) 0)) (show k < 8 by omega) (hb k hk) (ht k hk)
    have hst : bsN (fun c => maxN (t c) 9) (k + 1) = match bsN (fun c => maxN (t c) 9) k with
      | none => some (k, maxN (t k) 9)
      | some p => if maxN (t k) 9 < p.2 then some (k, maxN (t k) 9) else some p := rfl
    rw [hst]
    have e1 : eP1 (some (k, maxN (t k) 9)) = nI k := rfl
    have e2 : g9 (some (k, maxN (t k) 9)) 0 = maxN (t k) 9 := rfl
    cases eb : bsN (fun c => maxN (t c) 9) k with
    | none =>
      rw [eb] at h24
      have e3 : eP1 none = -nI 1 := rfl
      rw [e3] at h24
      simp (disch := first | omega | trivial) only [f_X7_askOf_L145, li, h9, cn_le, if_neg, if_pos, e3, h24, Option.bind_some, cb_let_eq, c_1n0, if_false, cn_add, e1, e2]
    | some q =>
      rw [eb] at h24
      obtain ⟨q1, q2⟩ := bsN_ok eb
      have q3 := hm q.1 (by omega)
      have e3 : eP1 (some q) = nI q.1 := rfl
      have e4 : g9 (some q) 0 = q.2 := rfl
      rw [e3, e4] at h24
      dsimp only
      by_cases ql : maxN (t k) 9 < q.2
      · rw [if_pos ql]
        simp (disch := first | omega | trivial) only [f_X7_askOf_L145, li, h9, cn_le, if_neg, if_pos, e3, e4, h24, Option.bind_some, cb_let_eq, cn_eq1, c_1n0, if_false, cn_add, e1, e2]
      · rw [if_neg ql]
        simp (disch := first | omega | trivial) only [f_X7_askOf_L145, li, h9, cn_le, if_neg, if_pos, e3, e4, h24, Option.bind_some, cb_let_eq, cn_eq1, if_false, cn_add]
theorem y_askOf {M : cb_Mem} {A : AS} (hA : AOK A) (hY : yA M A) {h : Nat} (hh : h < d_nh (FAa A)) : ∃ M', f_X7_askOf (nI h) M = some (akV (FAa A) A.2.2.2.1 h, M') ∧ yA M' A := by
  obtain ⟨M1, f1, y1⟩ := y_wasOf hA hY hh (show 1 < 2 by omega)
  have f1' : f_X7_wasOf (nI h) (nI 1) M = some (waD (FAa A) A.2.2.2.1 h, M1) := f1
  have h8 : d_nh (FAa A) ≤ 8 := y1.2.1.1
  have hd := (y1.2.1.2.2.1 h hh).2
  have m7 := (y1.2.2.1.2.2.1 h hh).2
  obtain ⟨M2, f2, a2, d2⟩ := y_ask0 (M := M1) (h := h) (x1 := waD (FAa A) A.2.2.2.1 h) (x2 := nI (d_due (FAa A) h))
  have c2 := y1.2.eq (fun k j q => a2 _ _ (by omega))
  obtain ⟨M3, f3, a3, ⟨e, c3⟩, d3⟩ := y_askL (sg := A.2.2.2.1) c2 hh d2 (nI (d_due (FAa A) h))
  have c4 := mAll_sd c3 hd y1.2.1
  rw [sdF_self] at c4
  have a4 : agr M1 (cb_up M3 7 (2 * h + 1) (nI (d_due (FAa A) h))) PY := ((a2.mono (fun k j q => by simp only [PY]; omega)).trans a3).up (by simp [PY])
  have hl := y_least (M := cb_up M3 7 (2 * h + 1) (nI (d_due (FAa A) h))) (t := fun c j => tlN (FAa A) A.2.2.2.1 h c (oY j) 30) (A_nc hA) c4.2.1.2.1 (fun c _ j _ => tlN_le) (fun c hc j hj => by rw [cu, if_neg (by omega)]; exact d3 c hc j hj)
  have hx : (fun c => maxN ((fun c j => tlN (FAa A) A.2.2.2.1 h c (oY j) 30) c) 9) = gaF (FAa A) A.2.2.2.1 h := by
    funext c
    exact mx_XY (t := fun o => tlN (FAa A) A.2.2.2.1 h c o 30)
  rw [hx] at hl
  refine ⟨_, ?_, y1.1.sc a4, c4⟩
  unfold akV
  simp (disch := first | omega | trivial) only [f_X7_askOf, li, f1', cb_bind2_eq, cn_mul, cn_add, cn_in, cn_cl, if_pos, cb_let_eq, m7, f2, Option.bind_some, f3, hl]
theorem C_ask : cs_ask cRel := by
  rintro MX MY p1 ⟨A, hA, hX, hY⟩
  obtain ⟨MY1, fy, ay, wy⟩ := y_findA hA hY
  have hRy : cRel MX MY1 := ⟨A, hA, hX, ay.1⟩
  rcases cn_range p1 (d_nh (FAa A)) with ⟨h, hh, rfl⟩ | h1
  · have o3 := v_isH ay.2.2.1.1 (A_nh hA) hh
    obtain ⟨MX1, fx, ax⟩ := x_ask hA hX hh
    obtain ⟨MY2, gy, ay2⟩ := y_askOf hA ay hh
    refine ⟨_, MX1, MY2, fx, ?_, A, hA, ax, ay2.1⟩
    simp (disch := first | omega | trivial) only [f_X7_ask, li, fy, Option.bind_some, o3, cb_let_eq, c_1n0, if_false, gy, cb_bind2_eq]
  · have o1 := x_noHN (A_xh hX) (A_nh hA) h1
    have o3 := v_isHN ay.2.2.1.1 (A_nh hA) h1
    refine ⟨-nI 2, MX, MY1, ?_, ?_, hRy⟩
    · simp (disch := first | omega | trivial) only [f_X6_ask, li, o1, cb_let_eq, c_1n0, if_false]
    · simp (disch := first | omega | trivial) only [f_X7_ask, li, fy, Option.bind_some, o3, cb_let_eq, if_pos]
