/-! calls that look at a walk -/
def yA (M : cb_Mem) (A : AS) : Prop := YS M A ∧ mAll M (FAa A) A.2.1.1 A.2.1.2 none A.2.2.1 0
theorem y_findA {M : cb_Mem} {A : AS} (hA : AOK A) (hY : YS M A) : ∃ M', f_X7_find M = some M' ∧ yA M' A ∧ mWk M' (FAa A) A.2.1.2 := by
  obtain ⟨M', f, a, b, c⟩ := y_find hA hY
  exact ⟨M', f, ⟨hY.sc a, b⟩, c⟩
theorem y_livesA {M : cb_Mem} {A : AS} (h : yA M A) : ∃ M', f_X7_lives M = some M' ∧ yA M' A ∧ mWk M' (FAa A) A.2.1.2 := by
  obtain ⟨M', f, a, b⟩ := m_lives h.2
  exact ⟨M', f, ⟨h.1.sc (a.mono (fun k j q => by simp only [PL] at q; simp only [PY]; omega)), h.2.agr a⟩, b⟩
theorem x_walkA {M : cb_Mem} {A : AS} (hA : AOK A) (hX : XS M A) : ∃ M', f_X6_walkAsItIs M = some M' ∧ XS M' A ∧ xFd M' (FAa A) ∧ xWk M' (FAa A) := by
  obtain ⟨M', f, a, b, c⟩ := x_walk hA hX
  exact ⟨M', f, hX.sc a, b, c⟩
theorem A_nh {A : AS} (hA : AOK A) : d_nh (FAa A) ≤ 8 := (WF_FA hA (ch := none) (gm := 0)).1
theorem A_nc {A : AS} (hA : AOK A) : d_nc (FAa A) ≤ 8 := (WF_FA hA (ch := none) (gm := 0)).2.1
theorem A_xh {M : cb_Mem} {A : AS} (hX : XS M A) : M 30 6 = nI (d_nh (FAa A)) := hX.1.2.2.1
theorem A_xc {M : cb_Mem} {A : AS} (hX : XS M A) : M 31 6 = nI (d_nc (FAa A)) := hX.2.1.2.2.1
theorem x_state {M : cb_Mem} {A : AS} (hA : AOK A) (hX : XS M A) {d h : Nat} (hd : d < 40) (hh : h < d_nh (FAa A)) : ∃ M', f_X6_state (nI d) (nI h) M = some (nI (stF (FAa A) d h), M') ∧ XS M' A := by
  obtain ⟨M1, fx, ax, b1, b2⟩ := x_walkA hA hX
  have o1 := v_isOff_in hd (by omega)
  have o2 := x_noH (A_xh hX) (A_nh hA) hh
  have vx := x_stateOf (WF_FA hA) b1 b2 hd hh
  refine ⟨M1, ?_, ax⟩
  simp (disch := first | omega | trivial) only [f_X6_state, li, o1, o2, cb_let_eq, if_pos, fx, Option.bind_some, vx]
theorem C_state : cs_state cRel := by
  rintro MX MY p1 p2 ⟨A, hA, hX, hY⟩
  obtain ⟨MY1, fy, ay, wy⟩ := y_findA hA hY
  have hRy : cRel MX MY1 := ⟨A, hA, hX, ay.1⟩
  rcases cn_range p1 40 with ⟨d, hd, rfl⟩ | h1
  · have o1 := v_isOff_in hd (by omega)
    have o3 := v_day hd
    rcases cn_range p2 (d_nh (FAa A)) with ⟨h, hh, rfl⟩ | h2
    · obtain ⟨MX1, fx, ax⟩ := x_state hA hX hd hh
      have o4 := v_isH ay.2.2.1.1 (A_nh hA) hh
      have vy := y_stateOf ay.2 wy hd hh
      refine ⟨_, MX1, MY1, fx, ?_, A, hA, ax, ay.1⟩
      simp (disch := first | omega | trivial) only [f_X7_state, li, fy, Option.bind_some, o3, o4, cb_let_eq, c_1n0, if_false, vy]
    · have o2 := x_noHN (A_xh hX) (A_nh hA) h2
      have o4 := v_isHN ay.2.2.1.1 (A_nh hA) h2
      refine ⟨-nI 2, MX, MY1, ?_, ?_, hRy⟩
      · simp (disch := first | omega | trivial) only [f_X6_state, li, o1, o2, cb_let_eq, if_pos, c_1n0, if_false]
      · simp (disch := first | omega | trivial) only [f_X7_state, li, fy, Option.bind_some, o3, o4, cb_let_eq, c_1n0, if_false, if_pos]
  · have o1 := v_isOff_out h1 (by omega)
    have o3 := v_dayN h1
    refine ⟨-nI 2, MX, MY1, ?_, ?_, hRy⟩
    · simp (disch := first | omega | trivial) only [f_X6_state, li, o1, cb_let_eq, c_1n0, if_false]
    · simp (disch := first | omega | trivial) only [f_X7_state, li, fy, Option.bind_some, o3, cb_let_eq, if_pos]
def lfV (F : FD) (h i : Nat) : Int32 := if i = 0 then eO (rp F h) else if i = 1 then eP1 ((wk F).2.1 h) else eP2 ((wk F).2.1 h)
theorem x_lifted {M : cb_Mem} {A : AS} (hA : AOK A) (hX : XS M A) {h i : Nat} (hh : h < d_nh (FAa A)) (hi : i < 3) : ∃ M', f_X6_lifted (nI h) (nI i) M = some (lfV (FAa A) h i, M') ∧ XS M' A := by
  obtain ⟨M1, fx, ax, b1, b2⟩ := x_walkA hA hX
  have o1 := x_noH (A_xh hX) (A_nh hA) hh
  have o2 := v_isOff_in hi (by omega)
  have h8 := A_nh hA
  have c8 := A_nc hA
  have hl := x_lifter (WF_FA hA) b2 hh
  refine ⟨M1, ?_, ax⟩
  rcases (show i = 0 ∨ i = 1 ∨ i = 2 by omega) with e | e | e <;> subst e
  · have := (b2.1 h hh).1
    simp (disch := first | omega | trivial) only [f_X6_lifted, li, o1, o2, cb_let_eq, if_pos, fx, Option.bind_some, cn_in, cn_cl, this, lfV]
  · simp (disch := first | omega | trivial) only [f_X6_lifted, li, o1, o2, cb_let_eq, if_pos, fx, Option.bind_some, c_1n0, if_false, hl, lfV]
    rfl
  · unfold lfV
    cases e : (wk (FAa A)).2.1 h with
    | none =>
      rw [e] at hl
      have hl' : f_X5_lifterOf (nI h) M1 = some (-nI 1) := hl
      simp (disch := first | omega | trivial) only [f_X6_lifted, li, o1, o2, cb_let_eq, if_pos, if_neg, fx, Option.bind_some, cn_eq, hl']
      rfl
    | some p =>
      rw [e] at hl
      have hl' : f_X5_lifterOf (nI h) M1 = some (nI p.1) := hl
      obtain ⟨ok, -⟩ := wk_ok (FAa A)
      have e1 := ok.2 h p e
      obtain ⟨q1, -⟩ := ok.1 _ _ e1
      have e25 := (b2.2.2.2.2 p.1 (by omega)).2
      rw [e1] at e25
      simp (disch := first | omega | trivial) only [f_X6_lifted, li, o1, o2, cb_let_eq, if_pos, if_neg, fx, Option.bind_some, cn_eq, hl', cn_eq1, if_false, cn_in, cn_cl, e25]
      rfl
theorem y_liftedBy {M : cb_Mem} {F : FD} {w1 : List Nat} (h8 : d_nh F ≤ 8) (hW : mWk M F w1) {h i : Nat} (hh : h < d_nh F) (hi : i < 3) : f_X7_liftedBy (nI h) (nI i) M = some (lfV F h i) := by
  have e1 := (hW.1 h hh).1
  obtain ⟨e2, e3⟩ := hW.2.2.1 h hh
  rcases (show i = 0 ∨ i = 1 ∨ i = 2 by omega) with e | e | e <;> subst e
  · simp (disch := first | omega | trivial) only [f_X7_liftedBy, li, if_pos, cn_in, cn_cl, e1, lfV]
  · simp (disch := first | omega | trivial) only [f_X7_liftedBy, li, if_pos, c_1n0, if_false, cn_in, cn_cl, e2, lfV]
    rfl
  · simp (disch := first | omega | trivial) only [f_X7_liftedBy, li, if_pos, if_neg, cn_eq, cn_in, cn_cl, e3, lfV]
theorem C_lifted : cs_lifted cRel := by
  rintro MX MY p1 p2 ⟨A, hA, hX, hY⟩
  obtain ⟨MY1, fy, ay, wy⟩ := y_findA hA hY
  have hRy : cRel MX MY1 := ⟨A, hA, hX, ay.1⟩
  rcases cn_range p1 (d_nh (FAa A)) with ⟨h, hh, rfl⟩ | h1
  · have o1 := x_noH (A_xh hX) (A_nh hA) hh
    have o3 := v_isH ay.2.2.1.1 (A_nh hA) hh
    rcases cn_range p2 3 with ⟨i, hi, rfl⟩ | h2
    · obtain ⟨MX1, fx, ax⟩ := x_lifted hA hX hh hi
      have o4 := v_in_in2 (j := i) (b := 2) (by omega) (by omega)
      have vy := y_liftedBy (A_nh hA) wy hh hi
      refine ⟨_, MX1, MY1, fx, ?_, A, hA, ax, ay.1⟩
      simp (disch := first | omega | trivial) only [f_X7_lifted, li, liL, fy, Option.bind_some, o3, o4, cb_let_eq, c_1n0, if_false, vy]
    · have o2 := v_isOff_out h2 (by omega)
      have o4 := v_in_out2 h2 (show 3 = 2 + 1 from rfl) (by omega)
      refine ⟨-nI 2, MX, MY1, ?_, ?_, hRy⟩
      · simp (disch := first | omega | trivial) only [f_X6_lifted, li, o1, o2, cb_let_eq, if_pos, c_1n0, if_false]
      · simp (disch := first | omega | trivial) only [f_X7_lifted, li, liL, fy, Option.bind_some, o3, o4, cb_let_eq, c_1n0, if_false, if_pos]
  · have o1 := x_noHN (A_xh hX) (A_nh hA) h1
    have o3 := v_isHN ay.2.2.1.1 (A_nh hA) h1
    refine ⟨-nI 2, MX, MY1, ?_, ?_, hRy⟩
    · simp (disch := first | omega | trivial) only [f_X6_lifted, li, o1, cb_let_eq, c_1n0, if_false]
    · simp (disch := first | omega | trivial) only [f_X7_lifted, li, liL, fy, Option.bind_some, o3, cb_let_eq, if_pos]
/-! children -/
theorem x_wet {M : cb_Mem} {w1 : List Nat} (hR : xR M 9 13 w1.length (fun j => w1.getD j 0)) (h6 : w1.length ≤ 6) (hb : ∀ j, j < w1.length → w1.getD j 0 < 40) {d : Nat} (hd : d < 40) : cb_bs (f_X6_childrenOf_L19 cb_fuel (nI d) (nI 0) M) (fun r => some r) (fun _ => some (nI 1)) = some (if mB w1 d = true then nI 2 else nI 1) := by
  suffices hL : ∃ r, f_X6_childrenOf_L19 cb_fuel (nI d) (nI 0) M = some r ∧ (if mB w1 d = true then r = Sum.inl (nI 2) else r = Sum.inr ()) by
    obtain ⟨r, h1, h2⟩ := hL
    rw [h1]
    by_cases e : mB w1 d = true
    · rw [if_pos e] at h2 ⊢; rw [h2, cb_bs_r]
    · rw [if_neg e] at h2 ⊢; rw [h2, cb_bs_k]
  refine cb_loop0 (fun m k (_ : Unit) => f_X6_childrenOf_L19 m (nI d) (nI k) M) (fun k _ => anyN (fun j => w1.getD j 0 == d) k = false) w1.length _ () (by omega) rfl ?_ ?_
  · intro m s hs
    refine ⟨Sum.inr (), by rw [f_X6_childrenOf_L19, hR.1, if_pos (by rw [cn_le (by omega) (by omega)]; omega)], ?_⟩
    rw [if_neg (by unfold mB; rw [hs]; decide)]
  · intro m k s hk hs
    have hat := x_at (it := 13) (cap := 6) hR.1 h6 (by omega) hk
    rw [hR.2 k hk] at hat
    have hbk := hb k hk
    by_cases e : w1.getD k 0 = d
    · left
      refine ⟨Sum.inl (nI 2), ?_, ?_⟩
      · simp (disch := first | omega | trivial) only [f_X6_childrenOf_L19, li, hR.1, cn_le, if_neg, hat, Option.bind_some, cn_eq, e, if_true]
      · rw [if_pos]
        unfold mB
        rw [anyN_iff]
        exact ⟨k, hk, by simpa using e⟩
    · right
      refine ⟨(), ?_, ?_⟩
      · show anyN (fun j => w1.getD j 0 == d) (k + 1) = false
        rw [anyN, hs, Bool.false_or]
        simpa using e
      · simp (disch := first | omega | trivial) only [f_X6_childrenOf_L19, li, hR.1, cn_le, if_neg, hat, Option.bind_some, cn_eq, e, if_false, cn_add]
theorem x_childrenOf {M : cb_Mem} {F : FD} {w1 : List Nat} (hR : xR M 9 13 w1.length (fun j => w1.getD j 0)) (h6 : w1.length ≤ 6) (hb : ∀ j, j < w1.length → w1.getD j 0 < 40) (hW : xWk M F) {c : Nat} (hc : c < 8) : f_X6_childrenOf (nI c) M = some (bth w1 ((wk F).1 c)) := by
  have e25 := (hW.2.2.2.2 c hc).2
  cases e : (wk F).1 c with
  | none =>
    rw [e] at e25
    have e25' : M 25 c = -nI 1 := e25
    simp (disch := first | omega | trivial) only [f_X6_childrenOf, li, cn_in, cn_cl, if_pos, cb_let_eq, e25']
    rfl
  | some p =>
    rw [e] at e25
    have e25' : M 25 c = nI p.2 := e25
    have p40 := ((wk_ok F).1.1 c p e).2.2.1
    have hw := x_wet hR h6 hb p40
    have hz : bth w1 (some p) = if mB w1 p.2 = true then nI 2 else nI 1 := rfl
    rw [hz, ← hw]
    simp (disch := first | omega | trivial) only [f_X6_childrenOf, li, cn_in, cn_cl, if_pos, cb_let_eq, e25', cn_eq1, if_false]
def gtV (F : FD) (w1 : List Nat) (c i : Nat) : Int32 := if i = 0 then eP1 ((wk F).1 c) else if i = 1 then eP2 ((wk F).1 c) else bth w1 ((wk F).1 c)
theorem x_gets {M : cb_Mem} {A : AS} (hA : AOK A) (hX : XS M A) {c i : Nat} (hc : c < d_nc (FAa A)) (hi : i < 3) : ∃ M', f_X6_gets (nI c) (nI i) M = some (gtV (FAa A) A.2.1.2 c i, M') ∧ XS M' A := by
  obtain ⟨M1, fx, ax, b1, b2⟩ := x_walkA hA hX
  have o1 := x_noC (A_xc hX) (A_nc hA) hc
  have o2 := v_isOff_in hi (by omega)
  have c8 := A_nc hA
  obtain ⟨e1, e2⟩ := b2.2.2.2.2 c (by omega)
  refine ⟨M1, ?_, ax⟩
  rcases (show i = 0 ∨ i = 1 ∨ i = 2 by omega) with e | e | e <;> subst e
  · simp (disch := first | omega | trivial) only [f_X6_gets, li, o1, o2, cb_let_eq, if_pos, fx, Option.bind_some, cn_in, cn_cl, e1, gtV]
  · simp (disch := first | omega | trivial) only [f_X6_gets, li, o1, o2, cb_let_eq, if_pos, fx, Option.bind_some, c_1n0, if_false, cn_in, cn_cl, e2, gtV]
    rfl
  · have hch := x_childrenOf (w1 := A.2.1.2) ax.2.2.2.1 hA.2.2.1.1 hA.2.2.1.2 b2 (show c < 8 by omega)
    simp (disch := first | omega | trivial) only [f_X6_gets, li, o1, o2, cb_let_eq, if_pos, if_neg, fx, Option.bind_some, cn_eq, hch, gtV]
theorem y_getsBy {M : cb_Mem} {F : FD} {w1 : List Nat} (h8 : d_nc F ≤ 8) (hW : mWk M F w1) {c i : Nat} (hc : c < d_nc F) (hi : i < 3) : f_X7_getsBy (nI c) (nI i) M = some (gtV F w1 c i) := by
  obtain ⟨e1, e2, e3⟩ := hW.2.1 c hc
  rcases (show i = 0 ∨ i = 1 ∨ i = 2 by omega) with e | e | e <;> subst e
  · simp (disch := first | omega | trivial) only [f_X7_getsBy, li, if_pos, cn_in, cn_cl, e1, gtV]
  · simp (disch := first | omega | trivial) only [f_X7_getsBy, li, if_pos, c_1n0, if_false, cn_in, cn_cl, e2, gtV]
    rfl
  · simp (disch := first | omega | trivial) only [f_X7_getsBy, li, if_pos, if_neg, cn_eq, cn_in, cn_cl, e3, gtV]
theorem C_gets : cs_gets cRel := by
  rintro MX MY p1 p2 ⟨A, hA, hX, hY⟩
  obtain ⟨MY1, fy, ay, wy⟩ := y_findA hA hY
  have hRy : cRel MX MY1 := ⟨A, hA, hX, ay.1⟩
  rcases cn_range p1 (d_nc (FAa A)) with ⟨h, hh, rfl⟩ | h1
  · have o1 := x_noC (A_xc hX) (A_nc hA) hh
    have o3 := v_isC ay.2.2.1.2.1 (A_nc hA) hh
    rcases cn_range p2 3 with ⟨i, hi, rfl⟩ | h2
    · obtain ⟨MX1, fx, ax⟩ := x_gets hA hX hh hi
      have o4 := v_in_in2 (j := i) (b := 2) (by omega) (by omega)
      have vy := y_getsBy (A_nc hA) wy hh hi
      refine ⟨_, MX1, MY1, fx, ?_, A, hA, ax, ay.1⟩
      simp (disch := first | omega | trivial) only [f_X7_gets, li, liL, fy, Option.bind_some, o3, o4, cb_let_eq, c_1n0, if_false, vy]
    · have o2 := v_isOff_out h2 (by omega)
      have o4 := v_in_out2 h2 (show 3 = 2 + 1 from rfl) (by omega)
      refine ⟨-nI 2, MX, MY1, ?_, ?_, hRy⟩
      · simp (disch := first | omega | trivial) only [f_X6_gets, li, o1, o2, cb_let_eq, if_pos, c_1n0, if_false]
      · simp (disch := first | omega | trivial) only [f_X7_gets, li, liL, fy, Option.bind_some, o3, o4, cb_let_eq, c_1n0, if_false, if_pos]
  · have o1 := x_noCN (A_xc hX) (A_nc hA) h1
    have o3 := v_isCN ay.2.2.1.2.1 (A_nc hA) h1
    refine ⟨-nI 2, MX, MY1, ?_, ?_, hRy⟩
    · simp (disch := first | omega | trivial) only [f_X6_gets, li, o1, cb_let_eq, c_1n0, if_false]
    · simp (disch := first | omega | trivial) only [f_X7_gets, li, liL, fy, Option.bind_some, o3, cb_let_eq, if_pos]
def chC (w1 : List Nat) (d : Nat) (o : Option (Nat × Nat)) : Nat := match o with
  | none => 0
  | some p => if p.2 ≤ d then (if mB w1 p.2 = true then 2 else 1) else 0
def chN (F : FD) (w1 : List Nat) (d n : Nat) : Nat := sumN (fun c => chC w1 d ((wk F).1 c)) n
theorem chC_le (w1 : List Nat) (d : Nat) (o : Option (Nat × Nat)) : chC w1 d o ≤ 2 := by
  unfold chC
  split
  · omega
  · split
    · split <;> omega
    · omega
theorem chN_le (F : FD) (w1 : List Nat) (d : Nat) : ∀ n, chN F w1 d n ≤ 2 * n
  | 0 => Nat.le_refl _
  | n + 1 => by
    have := chN_le F w1 d n
    have h2 := chC_le w1 d ((wk F).1 n)
    show chN F w1 d n + _ ≤ _
    dsimp only
    omega
theorem bth_chC {w1 : List Nat} {d : Nat} {o : Option (Nat × Nat)} (h : ∀ p, o = some p → p.2 ≤ d) : bth w1 o = nI (chC w1 d o) := by
  cases o with
  | none => rfl
  | some p =>
    have := h p rfl
    show (if mB w1 p.2 = true then nI 2 else nI 1) = nI (if p.2 ≤ d then (if mB w1 p.2 = true then 2 else 1) else 0)
    rw [if_pos this]
    split <;> rfl
theorem x_childrenBehind {M : cb_Mem} {F : FD} {w1 : List Nat} (hF : WF F) (hR : xR M 9 13 w1.length (fun j => w1.getD j 0)) (h6 : w1.length ≤ 6) (hb : ∀ j, j < w1.length → w1.getD j 0 < 40) (hM : xFd M F) (hW : xWk M F) {d : Nat} (hd : d < 40) : f_X6_childrenBehind (nI d) M = some (nI (chN F w1 d (d_nc F))) := by
  have c8 : d_nc F ≤ 8 := hF.2.1
  suffices hL : ∃ r, f_X6_childrenBehind_L4 cb_fuel (nI d) (nI 0) (nI 0) M = some r ∧ r = nI (chN F w1 d (d_nc F)) by
    obtain ⟨r, h1, h2⟩ := hL
    rw [h2] at h1
    simp only [f_X6_childrenBehind, li, h1, Option.bind_some]
  refine cb_loop0 (fun m k (s : Nat) => f_X6_childrenBehind_L4 m (nI d) (nI s) (nI k) M) (fun k s => s = chN F w1 d k) (d_nc F) _ 0 (by omega) rfl ?_ ?_
  · rintro m s rfl
    refine ⟨_, ?_, rfl⟩
    rw [f_X6_childrenBehind_L4, hM.2.1, if_pos (by rw [cn_le (by omega) (by omega)]; omega)]
  · rintro m k s hk rfl
    right
    refine ⟨_, rfl, ?_⟩
    have hch := x_childrenOf hR h6 hb hW (show k < 8 by omega)
    have e25 := (hW.2.2.2.2 k (by omega)).2
    have hz : chN F w1 d (k + 1) = chN F w1 d k + chC w1 d ((wk F).1 k) := rfl
    rw [hz]
    generalize chN F w1 d k = q
    cases e : (wk F).1 k with
    | none =>
      rw [e] at e25 hch
      have e25' : M 25 k = -nI 1 := e25
      rw [bth_chC (d := d) (fun p h => by cases h)] at hch
      simp (disch := first | omega | trivial) only [f_X6_childrenBehind_L4, li, hM.2.1, cn_le, if_neg, cn_in, cn_cl, if_pos, e25', cn_lt1, if_false, hch, Option.bind_some, cb_let_eq, cn_add]
    | some p =>
      rw [e] at e25 hch
      have e25' : M 25 k = nI p.2 := e25
      have p40 := ((wk_ok F).1.1 k p e).2.2.1
      by_cases q1 : p.2 ≤ d
      · rw [bth_chC (d := d) (fun p' h => by cases h; exact q1)] at hch
        simp (disch := first | omega | trivial) only [f_X6_childrenBehind_L4, li, hM.2.1, cn_le, if_neg, cn_in, cn_cl, if_pos, e25', cn_lt, hch, Option.bind_some, cb_let_eq, cn_add]
      · have : chC w1 d (some p) = 0 := by show (if p.2 ≤ d then _ else 0) = 0; rw [if_neg q1]
        rw [this]
        simp (disch := first | omega | trivial) only [f_X6_childrenBehind_L4, li, hM.2.1, cn_le, if_neg, cn_in, cn_cl, if_pos, e25', cn_lt, Option.bind_some, cb_let_eq, cn_add, Nat.add_zero]
theorem y_childrenBy {M : cb_Mem} {F : FD} {w1 : List Nat} (hF : WF F) (h9 : M 0 9 = nI (d_nc F)) (hS : mS M F w1 (wk F)) {d : Nat} (hd : d < 40) : f_X7_childrenBy (nI d) M = some (nI (chN F w1 d (d_nc F))) := by
  have c8 : d_nc F ≤ 8 := hF.2.1
  suffices hL : ∃ r, f_X7_childrenBy_L4 cb_fuel (nI d) (nI 0) (nI 0) M = some r ∧ r = nI (chN F w1 d (d_nc F)) by
    obtain ⟨r, h1, h2⟩ := hL
    rw [h2] at h1
    simp only [f_X7_childrenBy, li, h1, Option.bind_some]
  refine cb_loop0 (fun m k (s : Nat) => f_X7_childrenBy_L4 m (nI d) (nI s) (nI k) M) (fun k s => s = chN F w1 d k) (d_nc F) _ 0 (by omega) rfl ?_ ?_
  · rintro m s rfl
    refine ⟨_, ?_, rfl⟩
    rw [f_X7_childrenBy_L4, h9, if_pos (by rw [cn_le (by omega) (by omega)]; omega)]
  · rintro m k s hk rfl
    right
    refine ⟨_, rfl, ?_⟩
    obtain ⟨e16, e17, e18⟩ := hS.1 k hk
    have hz : chN F w1 d (k + 1) = chN F w1 d k + chC w1 d ((wk F).1 k) := rfl
    rw [hz]
    generalize chN F w1 d k = q
    cases e : (wk F).1 k with
    | none =>
      rw [e] at e17 e18
      have e17' : M 17 k = -nI 1 := e17
      rw [bth_chC (d := d) (fun p h => by cases h)] at e18
      simp (disch := first | omega | trivial) only [f_X7_childrenBy_L4, li, h9, cn_le, if_neg, cn_in, cn_cl, if_pos, e17', cn_lt1, if_false, e18, Option.bind_some, cb_let_eq, cn_add]
    | some p =>
      rw [e] at e17 e18
      have e17' : M 17 k = nI p.2 := e17
      have p40 := ((wk_ok F).1.1 k p e).2.2.1
      by_cases q1 : p.2 ≤ d
      · rw [bth_chC (d := d) (fun p' h => by cases h; exact q1)] at e18
        simp (disch := first | omega | trivial) only [f_X7_childrenBy_L4, li, h9, cn_le, if_neg, cn_in, cn_cl, if_pos, e17', cn_lt, e18, Option.bind_some, cb_let_eq, cn_add]
      · have : chC w1 d (some p) = 0 := by show (if p.2 ≤ d then _ else 0) = 0; rw [if_neg q1]
        rw [this]
        simp (disch := first | omega | trivial) only [f_X7_childrenBy_L4, li, h9, cn_le, if_neg, cn_in, cn_cl, if_pos, e17', cn_lt, Option.bind_some, cb_let_eq, cn_add, Nat.add_zero]
theorem x_children {M : cb_Mem} {A : AS} (hA : AOK A) (hX : XS M A) {d : Nat} (hd : d < 40) : ∃ M', f_X6_children (nI d) M = some (nI (chN (FAa A) A.2.1.2 d (d_nc (FAa A))), M') ∧ XS M' A := by
  obtain ⟨M1, fx, ax, b1, b2⟩ := x_walkA hA hX
  have o1 := v_isOff_in hd (by omega)
  have hch := x_childrenBehind (w1 := A.2.1.2) (WF_FA hA) ax.2.2.2.1 hA.2.2.1.1 hA.2.2.1.2 b1 b2 hd
  refine ⟨M1, ?_, ax⟩
  simp (disch := first | omega | trivial) only [f_X6_children, li, o1, cb_let_eq, if_pos, fx, Option.bind_some, hch]
theorem C_children : cs_children cRel := by
  rintro MX MY p1 ⟨A, hA, hX, hY⟩
  obtain ⟨MY1, fy, ay, wy⟩ := y_findA hA hY
  have hRy : cRel MX MY1 := ⟨A, hA, hX, ay.1⟩
  rcases cn_range p1 40 with ⟨d, hd, rfl⟩ | h1
  · have o3 := v_day hd
    obtain ⟨MX1, fx, ax⟩ := x_children hA hX hd
    have vy := y_childrenBy ay.2.1 ay.2.2.1.2.1 wy.2 hd
    refine ⟨_, MX1, MY1, fx, ?_, A, hA, ax, ay.1⟩
    simp (disch := first | omega | trivial) only [f_X7_children, li, fy, Option.bind_some, o3, cb_let_eq, c_1n0, if_false, vy]
  · have o1 := v_isOff_out h1 (by omega)
    have o3 := v_dayN h1
    refine ⟨-nI 2, MX, MY1, ?_, ?_, hRy⟩
    · simp (disch := first | omega | trivial) only [f_X6_children, li, o1, cb_let_eq, c_1n0, if_false]
    · simp (disch := first | omega | trivial) only [f_X7_children, li, fy, Option.bind_some, o3, cb_let_eq, if_pos]
