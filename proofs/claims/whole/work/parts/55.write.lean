/-! write, count -/
theorem xWk.eq {M M' : cb_Mem} {F : FD} (h : xWk M F) (e : ∀ k j, (k = 4 ∨ (22 ≤ k ∧ k ≤ 29)) → M' k j = M k j) : xWk M' F := by
  obtain ⟨a, b, c1, c2, c3⟩ := h
  exact ⟨fun h hh => by rw [e _ _ (by omega), e _ _ (by omega)]; exact a h hh, fun c hc => by rw [e _ _ (by omega)]; exact b c hc, by rw [e 4 8 (by omega)]; exact c1, by rw [e 4 9 (by omega)]; exact c2, fun c hc => by rw [e _ _ (by omega), e _ _ (by omega)]; exact c3 c hc⟩
theorem mWk.eq {M M' : cb_Mem} {F : FD} {w1 : List Nat} (h : mWk M F w1) (e : ∀ k j, ((12 ≤ k ∧ k ≤ 18) ∨ (k = 0 ∧ (j = 24 ∨ j = 25))) → M' k j = M k j) : mWk M' F w1 := by
  obtain ⟨a, b1, b2, b3, b4⟩ := h
  exact ⟨fun h hh => by rw [e _ _ (by omega), e _ _ (by omega)]; exact a h hh, fun c hc => by rw [e _ _ (by omega), e _ _ (by omega), e _ _ (by omega)]; exact b1 c hc, fun h hh => by rw [e _ _ (by omega), e _ _ (by omega)]; exact b2 h hh, by rw [e _ _ (by omega)]; exact b3, by rw [e _ _ (by omega)]; exact b4⟩
theorem mFd.eq {M M' : cb_Mem} {F : FD} (h : mFd M F) (e : ∀ k j, ((k = 0 ∧ (j = 7 ∨ j = 9)) ∨ k = 7 ∨ k = 8) → M' k j = M k j) : mFd M' F := by
  obtain ⟨a1, a2, a3, a4⟩ := h
  exact ⟨by rw [e _ _ (by omega)]; exact a1, by rw [e _ _ (by omega)]; exact a2, fun k hk => by rw [e _ _ (by omega), e _ _ (by omega)]; exact a3 k hk, fun c hc => by rw [e _ _ (by omega), e _ _ (by omega), e _ _ (by omega)]; exact a4 c hc⟩
theorem mAll.eq {M M' : cb_Mem} {F : FD} {w0 w1 : List Nat} {ch : Option Nat} {rs : List (Nat × Nat)} {gm : Nat} (h : mAll M F w0 w1 ch rs gm) (e : ∀ k j, ((k = 0 ∧ (j = 7 ∨ j = 9 ∨ j = 13 ∨ j = 15 ∨ j = 16)) ∨ (7 ≤ k ∧ k ≤ 11)) → M' k j = M k j) : mAll M' F w0 w1 ch rs gm :=
  ⟨h.1, h.2.1.eq (fun k j q => e k j (by omega)), h.2.2.1.eq (fun k j q => e k j (by omega)), h.2.2.2.1.eq (fun k j q => e k j (by omega)), h.2.2.2.2⟩
theorem x_writeL {M : cb_Mem} {F : FD} (hF : WF F) (hM : xFd M F) (hW : xWk M F) {s f n d w : Nat} (h1 : M (42 + s) 1 = nI f) (h2 : M (42 + s) 2 = nI n) (hs : s < 4) (hf : f < 3) (hn : n ≤ 60) (hw : w ≤ n) (hw2 : w ≤ d_nh F) (hd : d < 40) : ∃ M', f_X6_write_L63 cb_fuel s (nI d) (nI w) (nI 0) M = some M' ∧ (agr M M' (fun k _ => k = 46 + s) ∧ ∀ j, M' (46 + s) j = if j < w then cutI f (nI (stF F d j)) else M (46 + s) j) := by
  refine cb_loop0 (fun m k (T : cb_Mem) => f_X6_write_L63 m s (nI d) (nI w) (nI k) T) (fun k T => agr M T (fun k _ => k = 46 + s) ∧ ∀ j, T (46 + s) j = if j < k then cutI f (nI (stF F d j)) else M (46 + s) j) w _ M (by omega) ⟨agr.rf, fun j => by rw [if_neg (by omega)]⟩ ?_ ?_
  · rintro m T ⟨a, b⟩
    exact ⟨T, by rw [f_X6_write_L63, if_pos (by rw [cn_le (by omega) (by omega)]; omega)], a, b⟩
  · rintro m k T hk ⟨a, b⟩
    right
    have e1 : T (42 + s) 1 = nI f := by rw [a _ _ (by omega)]; exact h1
    have e2 : T (42 + s) 2 = nI n := by rw [a _ _ (by omega)]; exact h2
    have hst := x_stateOf hF (hM.agr a (by intro k j q; omega)) (hW.eq (fun k j q => a _ _ (by omega))) hd (show k < d_nh F by omega)
    have hput := x_put (v := nI (stF F d k)) e1 e2 hf hn (show k < n by omega)
    refine ⟨cb_up T (46 + s) k (cutI f (nI (stF F d k))), ⟨a.up rfl, fun j => ?_⟩, by simp (disch := first | omega | trivial) only [f_X6_write_L63, li, cn_le, if_neg, hst, Option.bind_some, hput, cn_add]⟩
    rw [cu, if_pos rfl]
    by_cases e : j = k
    · rw [if_pos e, if_pos (by omega), e]
    · rw [if_neg e, b j]
      by_cases e' : j < k
      · rw [if_pos e', if_pos (by omega)]
      · rw [if_neg e', if_neg (by omega)]
theorem y_writeL {M : cb_Mem} {F : FD} {w0 w1 : List Nat} {ch : Option Nat} {rs : List (Nat × Nat)} {gm : Nat} (hA : mAll M F w0 w1 ch rs gm) (hW : mWk M F w1) {s f d w : Nat} (h1 : M 1 s = nI f) (hs : s < 4) (hf : f < 3) (hw : w ≤ 60) (hw2 : w ≤ d_nh F) (hd : d < 40) : ∃ M', f_X7_write_L53 cb_fuel (nI d) (nI s) (nI w) (nI 0) M = some M' ∧ (agr M M' (fun k j => k = 3 ∧ 60 * s ≤ j ∧ j < 60 * s + 60) ∧ ∀ j, j < 60 → M' 3 (60 * s + j) = if j < w then cutI f (nI (stF F d j)) else M 3 (60 * s + j)) := by
  refine cb_loop0 (fun m k (T : cb_Mem) => f_X7_write_L53 m (nI d) (nI s) (nI w) (nI k) T) (fun k T => agr M T (fun k j => k = 3 ∧ 60 * s ≤ j ∧ j < 60 * s + 60) ∧ ∀ j, j < 60 → T 3 (60 * s + j) = if j < k then cutI f (nI (stF F d j)) else M 3 (60 * s + j)) w _ M (by omega) ⟨agr.rf, fun j _ => by rw [if_neg (by omega)]⟩ ?_ ?_
  · rintro m T ⟨a, b⟩
    exact ⟨T, by rw [f_X7_write_L53, if_pos (by rw [cn_le (by omega) (by omega)]; omega)], a, b⟩
  · rintro m k T hk ⟨a, b⟩
    right
    have e1 : T 1 s = nI f := by rw [a _ _ (by omega)]; exact h1
    have hst := y_stateOf (hA.eq (fun k j q => a _ _ (by omega))) (hW.eq (fun k j q => a _ _ (by omega))) hd (show k < d_nh F by omega)
    have hcut := v_cut hf (nI (stF F d k))
    refine ⟨cb_up T 3 (60 * s + k) (cutI f (nI (stF F d k))), ⟨a.up ⟨rfl, by omega, by omega⟩, fun j hj => ?_⟩, by simp (disch := first | omega | trivial) only [f_X7_write_L53, li, cn_le, if_neg, if_pos, cn_in, cn_cl, cn_mul, cn_add, hst, Option.bind_some, e1, hcut, cb_let_eq]⟩
    rw [cu, if_pos rfl]
    by_cases e : j = k
    · rw [if_pos (by omega), if_pos (by omega), e]
    · rw [if_neg (by omega), b j hj]
      by_cases e' : j < k
      · rw [if_pos e', if_pos (by omega)]
      · rw [if_neg e', if_neg (by omega)]
theorem v_lesser {a b : Nat} (ha : a < 2147483648) (hb : b < 2147483648) : f_X7_lesser (nI a) (nI b) = nI (min a b) := by
  unfold f_X7_lesser
  by_cases e : b ≤ a
  · rw [if_pos (by rw [cn_le hb ha]; exact e)]; congr 1; omega
  · rw [if_neg (by rw [cn_le hb ha]; exact e)]; congr 1; omega
theorem C_write : cs_write cRel := by
  rintro MX MY p1 p2 ⟨A, hA, hX, hY⟩
  have hR : cRel MX MY := ⟨A, hA, hX, hY⟩
  rcases cn_range p1 40 with ⟨d, hd, rfl⟩ | h1
  · have o1 := v_isOff_in hd (by omega)
    have o3 := v_day hd
    rcases cn_range p2 4 with ⟨s, hs, rfl⟩ | h2
    · have o2 := v_isOff_in hs (by omega)
      have o4 := v_sheet hs
      cases ho : A.2.2.2.2.1 s with
      | none =>
        have hx := hX.2.2.2.2.2.2.1 s hs
        have hy := hY.2.2.2.2.2.1 s hs
        rw [ho] at hx hy
        have hx' : MX (42 + s) 2 = -nI 1 := hx
        have hy' : MY 1 s = -nI 1 := hy
        have o5 := x_lost1 hx'
        refine ⟨-nI 10 - nI 1, _, _, ?_, ?_, R_fd (nI 1) hA hX hY⟩
        · simp (disch := first | omega | trivial) only [f_X6_write, li, o1, o2, cb_let_eq, if_pos, cn_in, cn_cl, o5, c_1n0, if_false, v_found, cb_let2_eq]
        · simp (disch := first | omega | trivial) only [f_X7_write, li, o3, o4, cb_let_eq, c_1n0, if_false, if_pos, cn_in, cn_cl, hy', cn_le1, v_finds, cb_let2_eq]
      | some q =>
        obtain ⟨f, n, it⟩ := q
        obtain ⟨hf, hn⟩ := hA.2.2.2.2.2 s hs _ ho
        have hf' : f ≤ 2 := hf
        have hn' : n ≤ 60 := hn
        obtain ⟨MX1, fx, ax, b1, b2⟩ := x_walkA hA hX
        obtain ⟨MY1, fy, ay, wy⟩ := y_findA hA hY
        have h8 := A_nh hA
        have hx0 := hX.2.2.2.2.2.2.1 s hs
        have hy0 := hY.2.2.2.2.2.1 s hs
        have hx := ax.2.2.2.2.2.2.1 s hs
        have hy := ay.1.2.2.2.2.2.1 s hs
        rw [ho] at hx hy hx0 hy0
        obtain ⟨x1, x2, x3⟩ := hx
        obtain ⟨y1, y2, y3⟩ := hy
        have x2' : MX1 (42 + s) 2 = nI n := x2
        have y2' : MY1 2 s = nI n := y2
        have o5 := x_lost0 (n := n) hx0.2.1 hn'
        have y0 : MY 1 s = nI f := hy0.1
        obtain ⟨MX2, gx, cx1, cx2⟩ := x_writeL (F := FAa A) (n := n) (f := f) (w := min n (d_nh (FAa A))) (WF_FA hA) b1 b2 x1 x2 hs (show f < 3 by omega) hn' (by omega) (by omega) hd
        obtain ⟨MY2, gy, cy1, cy2⟩ := y_writeL (F := FAa A) (f := f) (w := min n (d_nh (FAa A))) ay.2 wy y1 hs (show f < 3 by omega) (by omega) (by omega) hd
        have hmin := cn_min (show n < 2147483648 by omega) (show d_nh (FAa A) < 2147483648 by omega)
        have hles := v_lesser (show n < 2147483648 by omega) (show d_nh (FAa A) < 2147483648 by omega)
        have hnh := b1.1
        have hnh2 := ay.2.2.1.1
        refine ⟨nI (min n (d_nh (FAa A))), MX2, MY2, ?_, ?_, setS A s (some (f, n, fun j => if j < min n (d_nh (FAa A)) then cutI f (nI (stF (FAa A) d j)) else it j)), AOK_sh hA (fun q hq => by cases hq; exact ⟨hf, hn⟩), XS_sh hs ax (cx1.mono (fun k j q => Or.inr q)) ⟨?_, ?_, fun j hj => ?_⟩, YS_sh hA hs ay.1 (cy1.mono (fun k j q => Or.inr (Or.inl q))) ⟨?_, ?_, fun j hj => ?_⟩⟩
        · simp (disch := first | omega | trivial) only [f_X6_write, li, o1, o2, cb_let_eq, if_pos, cn_in, cn_cl, o5, fx, Option.bind_some, x2', hnh, hmin, gx]
        · simp (disch := first | omega | trivial) only [f_X7_write, li, o3, o4, cb_let_eq, c_1n0, if_false, if_pos, cn_in, cn_cl, y0, cn_le, fy, Option.bind_some, y2', hnh2, hles, gy]
        · rw [cx1 _ _ (by omega)]; exact x1
        · rw [cx1 _ _ (by omega)]; exact x2
        · rw [cx2 j]
          have hj' : j < n := hj
          by_cases e : j < min n (d_nh (FAa A))
          · rw [if_pos e]; exact (if_pos e).symm
          · rw [if_neg e]; exact (x3 j hj).trans (if_neg e).symm
        · rw [cy1 _ _ (by omega)]; exact y1
        · rw [cy1 _ _ (by omega)]; exact y2
        · have hj' : j < n := hj
          rw [cy2 j (by omega)]
          by_cases e : j < min n (d_nh (FAa A))
          · rw [if_pos e]; exact (if_pos e).symm
          · rw [if_neg e]; exact (y3 j hj).trans (if_neg e).symm
    · have o2 := v_isOff_out h2 (by omega)
      have o4 := v_sheetN h2
      refine ⟨-nI 2, MX, MY, ?_, ?_, hR⟩
      · simp (disch := first | omega | trivial) only [f_X6_write, li, o1, o2, cb_let_eq, if_pos, c_1n0, if_false]
      · simp (disch := first | omega | trivial) only [f_X7_write, li, o3, o4, cb_let_eq, c_1n0, if_false, if_pos]
  · have o1 := v_isOff_out h1 (by omega)
    have o3 := v_dayN h1
    refine ⟨-nI 2, MX, MY, ?_, ?_, hR⟩
    · simp (disch := first | omega | trivial) only [f_X6_write, li, o1, cb_let_eq, c_1n0, if_false]
    · simp (disch := first | omega | trivial) only [f_X7_write, li, o3, cb_let_eq, if_pos]
def ctV (A : AS) (i : Nat) : Int32 := if i = 0 then nI (d_nh (FAa A)) else if i = 1 then nI (d_nc (FAa A)) else if i = 2 then nI A.1.1.length else if i = 3 then nI A.1.2.length else if i = 4 then nI (A.2.1.1.length + A.2.1.2.length) else if i = 5 then nI A.2.2.1.length else if i = 6 then nI (chN (FAa A) A.2.1.2 39 (d_nc (FAa A))) else if i = 7 then nI A.2.2.2.1.length else A.2.2.2.2.2
theorem x_count {M : cb_Mem} {A : AS} (hA : AOK A) (hX : XS M A) {i : Nat} (hi : i < 9) : ∃ M', f_X6_count (nI i) M = some (ctV A i, M') ∧ XS M' A := by
  obtain ⟨a1, a2, a3, a4, a5, a6, a7, a8, a9⟩ := id hX
  rcases (show i = 0 ∨ i = 1 ∨ i = 2 ∨ i = 3 ∨ i = 4 ∨ i = 5 ∨ i = 6 ∨ i = 7 ∨ i = 8 by omega) with e | e | e | e | e | e | e | e | e <;> subst e
  · exact ⟨M, by simp (disch := first | omega | trivial) only [f_X6_count, li, if_pos, A_xh hX]; rfl, hX⟩
  · exact ⟨M, by simp (disch := first | omega | trivial) only [f_X6_count, li, cn_eq, if_pos, if_neg, A_xc hX]; rfl, hX⟩
  · have : M 32 1 = nI A.1.1.length := a1.1.2.1
    exact ⟨M, by simp (disch := first | omega | trivial) only [f_X6_count, li, cn_eq, if_pos, if_neg, this]; rfl, hX⟩
  · have : M 33 1 = nI A.1.2.length := a2.1.2.1
    exact ⟨M, by simp (disch := first | omega | trivial) only [f_X6_count, li, cn_eq, if_pos, if_neg, this]; rfl, hX⟩
  · exact ⟨M, by simp (disch := first | omega | trivial) only [f_X6_count, li, cn_eq, if_pos, if_neg, a3.1, a4.1, cn_add]; rfl, hX⟩
  · exact ⟨M, by simp (disch := first | omega | trivial) only [f_X6_count, li, cn_eq, if_pos, if_neg, a5.1]; rfl, hX⟩
  · obtain ⟨M1, fx, ax⟩ := x_children hA hX (show 39 < 40 by omega)
    exact ⟨M1, by simp (disch := first | omega | trivial) only [f_X6_count, li, cn_eq, if_pos, if_neg, fx, cb_bind2_eq]; rfl, ax⟩
  · exact ⟨M, by simp (disch := first | omega | trivial) only [f_X6_count, li, cn_eq, if_pos, if_neg, a6.1]; rfl, hX⟩
  · exact ⟨M, by simp (disch := first | omega | trivial) only [f_X6_count, li, cn_eq, if_pos, if_neg, a8]; rfl, hX⟩
theorem y_count {M : cb_Mem} {A : AS} (hA : AOK A) (hY : YS M A) {i : Nat} (hi : i < 9) : ∃ M', f_X7_count (nI i) M = some (ctV A i, M') ∧ YS M' A := by
  obtain ⟨M1, fy, ay, wy⟩ := y_findA hA hY
  obtain ⟨a1, a2, a3, a4, a5, a6, a7⟩ := id ay.1
  have k1 := ay.2.2.1.1
  have k2 := ay.2.2.1.2.1
  have k3 : M1 6 0 = nI A.1.1.length := a1.1
  have k4 : M1 6 1 = nI A.1.2.length := a2.1
  have k5 : M1 9 0 = nI A.2.1.1.length := a3.1
  have k6 : M1 9 1 = nI A.2.1.2.length := a3.2.2.2.1
  have e22 : nI 2 - nI 2 = nI 0 := by decide
  have e32 : nI 3 - nI 2 = nI 1 := by decide
  refine ⟨M1, ?_, ay.1⟩
  rcases (show i = 0 ∨ i = 1 ∨ i = 2 ∨ i = 3 ∨ i = 4 ∨ i = 5 ∨ i = 6 ∨ i = 7 ∨ i = 8 by omega) with e | e | e | e | e | e | e | e | e <;> subst e
  · simp (disch := first | omega | trivial) only [f_X7_count, li, fy, Option.bind_some, if_pos, k1]; rfl
  · simp (disch := first | omega | trivial) only [f_X7_count, li, fy, Option.bind_some, cn_eq, if_pos, if_neg, k2]; rfl
  · simp (disch := first | omega | trivial) only [f_X7_count, li, fy, Option.bind_some, cn_eq, if_pos, if_neg, e22, cn_in, cn_cl, k3]; rfl
  · simp (disch := first | omega | trivial) only [f_X7_count, li, fy, Option.bind_some, cn_eq, if_pos, if_neg, e32, cn_in, cn_cl, k4]; rfl
  · simp (disch := first | omega | trivial) only [f_X7_count, li, fy, Option.bind_some, cn_eq, if_pos, if_neg, cn_cl, k5, k6, cn_add]; rfl
  · simp (disch := first | omega | trivial) only [f_X7_count, li, fy, Option.bind_some, cn_eq, if_pos, if_neg, a4.1]; rfl
  · have vy := y_childrenBy ay.2.1 ay.2.2.1.2.1 wy.2 (show 39 < 40 by omega)
    simp (disch := first | omega | trivial) only [f_X7_count, li, fy, Option.bind_some, cn_eq, if_pos, if_neg, vy]; rfl
  · simp (disch := first | omega | trivial) only [f_X7_count, li, fy, Option.bind_some, cn_eq, if_pos, if_neg, a5.1]; rfl
  · simp (disch := first | omega | trivial) only [f_X7_count, li, fy, Option.bind_some, cn_eq, if_pos, if_neg, a7]; rfl
theorem C_count : cs_count cRel := by
  rintro MX MY p1 ⟨A, hA, hX, hY⟩
  rcases cn_range p1 9 with ⟨i, hi, rfl⟩ | h1
  · obtain ⟨MX1, fx, ax⟩ := x_count hA hX hi
    obtain ⟨MY1, fy, ay⟩ := y_count hA hY hi
    exact ⟨_, MX1, MY1, fx, fy, A, hA, ax, ay⟩
  · obtain ⟨MY1, fy, ay, wy⟩ := y_findA hA hY
    have hne : ∀ j, j < 9 → (p1 = nI j) = False := fun j hj => eq_false (fun e => h1 (by rw [e, cn_ti (by omega)]; omega))
    refine ⟨-nI 2, MX, MY1, ?_, ?_, A, hA, hX, ay.1⟩
    · simp (disch := first | omega | trivial) only [f_X6_count, li, hne 0, hne 1, hne 2, hne 3, hne 4, hne 5, hne 6, hne 7, hne 8, if_false]
    · simp (disch := first | omega | trivial) only [f_X7_count, li, fy, Option.bind_some, hne 0, hne 1, hne 2, hne 3, hne 4, hne 5, hne 6, hne 7, hne 8, if_false]
