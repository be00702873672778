/-! the reference: a head's state -/
theorem y_dueBy {M : cb_Mem} {F : FD} {w0 w1 : List Nat} {ch : Option Nat} {rs : List (Nat × Nat)} {gm : Nat} (hA : mAll M F w0 w1 ch rs gm) {h d : Nat} (hh : h < d_nh F) (hd : d < 40) : f_X7_dueBy (nI h) (nI d) M = some (nI (dqN (d_fr F) (d_srt F h) (d_due F h) (d + 1))) := by
  obtain ⟨hF, hM, hW, hR, hfr, -⟩ := hA
  have h8 : d_nh F ≤ 8 := hF.1
  obtain ⟨g1, g2⟩ := hM.2.2.1 h hh
  have b1 := hF.2.2.1 h hh
  suffices hL : ∃ r, f_X7_dueBy_L14 cb_fuel (nI h) (nI d) (nI (d_due F h)) (nI 0) M = some r ∧ r = nI (dqN (d_fr F) (d_srt F h) (d_due F h) (d + 1)) by
    obtain ⟨r, h1, h2⟩ := hL
    rw [h2] at h1
    simp (disch := first | omega | trivial) only [f_X7_dueBy, li, cn_mul, cn_add, cn_in, cn_cl, if_pos, cb_let_eq, g2, h1, Option.bind_some]
  refine cb_loop0 (fun m k (s : Nat) => f_X7_dueBy_L14 m (nI h) (nI d) (nI s) (nI k) M) (fun k s => s = dqN (d_fr F) (d_srt F h) (d_due F h) k) (d + 1) _ (d_due F h) (by omega) rfl ?_ ?_
  · rintro m s rfl
    refine ⟨_, ?_, rfl⟩
    rw [f_X7_dueBy_L14, if_pos (by rw [cn_lt (by omega) (by omega)]; omega)]
  · rintro m k s hk rfl
    have hle := dqN_le (fr := d_fr F) (srt := d_srt F h) (due := d_due F h) (k := k)
    have hso := m_isSo0 hW (d := k) (by omega)
    rw [← hfr] at hso
    by_cases e : dqN (d_fr F) (d_srt F h) (d_due F h) k ≤ k
    · left
      refine ⟨_, ?_, rfl⟩
      rw [dqN_stay (show k ≤ d + 1 by omega) e]
      simp (disch := first | omega | trivial) only [f_X7_dueBy_L14, li, cn_lt, cn_le, if_neg, if_pos]
    · right
      refine ⟨_, rfl, ?_⟩
      rw [dqN]
      generalize dqN (d_fr F) (d_srt F h) (d_due F h) k = q at e hle
      by_cases s0 : d_srt F h = 0
      · rw [s0] at g1
        cases hf : d_fr F k with
        | true =>
          rw [hf] at hso
          rw [if_pos ⟨⟨by omega, rfl⟩, s0⟩]
          simp (disch := first | omega | trivial) only [f_X7_dueBy_L14, li, cn_lt, cn_le, if_neg, if_pos, cn_mul, cn_in, cn_cl, g1, cn_eq, hso, Option.bind_some, b2i_0, Bool.true_eq_false, if_false, cb_let_eq, cn_add]
        | false =>
          rw [hf] at hso
          rw [if_neg (fun z => by simp at z)]
          simp (disch := first | omega | trivial) only [f_X7_dueBy_L14, li, cn_lt, cn_le, if_neg, if_pos, cn_mul, cn_in, cn_cl, g1, cn_eq, hso, Option.bind_some, b2i_0, cb_let_eq, cn_add, Nat.add_zero]
      · rw [if_neg (fun z => s0 z.2)]
        simp (disch := first | omega | trivial) only [f_X7_dueBy_L14, li, cn_lt, cn_le, if_neg, if_pos, cn_mul, cn_in, cn_cl, g1, cn_eq, Option.bind_some, cb_let_eq, cn_add, Nat.add_zero]
def tlF (F : FD) (d h : Nat) : Nat := if d < dqN (d_fr F) (d_srt F h) (d_due F h) (d + 1) then 0 else if d < dqN (d_fr F) (d_srt F h) (d_due F h) (d + 1) + spanN (d_srt F h) then 1 else 4
theorem tl_gn {F : FD} (hF : WF F) {d h x : Nat} (e : rp F h = some x) : tlF F d h = gnF F d h := by
  rw [gnF_some e]
  unfold tlF
  have hx := dqN_rp e
  have hf := hF.2.2.2.2.1
  by_cases q : 30 ≤ d + 1
  · rw [dqN_late hf q, ← hx]
  · by_cases q2 : dqN (d_fr F) (d_srt F h) (d_due F h) (d + 1) ≤ d + 1
    · rw [← dqN_stay (show d + 1 ≤ 30 by omega) q2, ← hx]
    · have := dqN_mono (fr := d_fr F) (srt := d_srt F h) (due := d_due F h) (show d + 1 ≤ 30 by omega)
      rw [if_pos (by omega), if_pos (by omega)]
theorem tl_no {F : FD} {d h f : Nat} (e : rp F h = none) (ef : fsN (d_fr F) 30 = some f) (hd : d < f) : tlF F d h = 0 := by
  obtain ⟨s2, j, j1, j2, j3⟩ := rpN_no e
  obtain ⟨k, k1, k2⟩ := fsN_min j3 j1
  rw [ef] at k1
  cases k1
  unfold tlF
  rw [dqN_n0 (by omega), if_pos (by omega)]
theorem y_st0 {M : cb_Mem} {F : FD} {w0 w1 : List Nat} {ch : Option Nat} {rs : List (Nat × Nat)} {gm : Nat} (hA : mAll M F w0 w1 ch rs gm) {h d w : Nat} (hh : h < d_nh F) (hd : d < 40) (e15 : M 15 h = nI w) (hw : w ≤ d) : f_X7_stateOf (nI d) (nI h) M = some (nI 2) := by
  have h8 : d_nh F ≤ 8 := hA.1.1
  simp (disch := first | omega | trivial) only [f_X7_stateOf, li, cn_in, cn_cl, if_pos, cb_let_eq, e15, cn_eq1, if_false, cn_lt, if_neg]
theorem y_st1 {M : cb_Mem} {F : FD} {w0 w1 : List Nat} {ch : Option Nat} {rs : List (Nat × Nat)} {gm : Nat} (hA : mAll M F w0 w1 ch rs gm) {h d : Nat} {wo : Option Nat} (hh : h < d_nh F) (hd : d < 40) (e15 : M 15 h = eO wo) (hw : ∀ w, wo = some w → d < w ∧ w < 100) {lo : Option Nat} (e13 : M 13 h = eO lo) (hl : ∀ l, lo = some l → d < l ∧ l < 100) : f_X7_stateOf (nI d) (nI h) M = some (nI (tlF F d h)) := by
  have h8 : d_nh F ≤ 8 := hA.1.1
  have hdue := y_dueBy hA hh hd
  have hle := dqN_le (fr := d_fr F) (srt := d_srt F h) (due := d_due F h) (k := d + 1)
  have b1 := hA.1.2.2.1 h hh
  have g1 := (hA.2.1.2.2.1 h hh).1
  have sp := v_span b1.1
  have sl := spanN_le (d_srt F h)
  unfold tlF
  generalize dqN (d_fr F) (d_srt F h) (d_due F h) (d + 1) = q at hdue hle
  generalize spanN (d_srt F h) = s at sp sl
  have tail : ((f_X7_dueBy (nI h) (nI d) M).bind fun x1 => if x1 ≤ nI d then if cb_in (2 * nI h) 16 = true then cb_let (f_X7_span (M 7 (2 * nI h).toNatClampNeg)) fun x2 => if (x1 + x2) ≤ nI d then some (4 : Int32) else some (1 : Int32) else none else some (0 : Int32)) = some (nI (if d < q then 0 else if d < q + s then 1 else 4)) := by
    by_cases q1 : d < q
    · rw [if_pos q1]
      simp (disch := first | omega | trivial) only [li, hdue, Option.bind_some, cn_le, if_neg]
    · rw [if_neg q1]
      by_cases q2 : d < q + s
      · rw [if_pos q2]
        simp (disch := first | omega | trivial) only [li, hdue, Option.bind_some, cn_le, if_neg, if_pos, cn_mul, cn_in, cn_cl, g1, sp, cb_let_eq, cn_add]
      · rw [if_neg q2]
        simp (disch := first | omega | trivial) only [li, hdue, Option.bind_some, cn_le, if_neg, if_pos, cn_mul, cn_in, cn_cl, g1, sp, cb_let_eq, cn_add]
  rw [← tail]
  have in8 : cb_in (nI h) 8 = true := by rw [cn_in (by omega)]; omega
  cases wo with
  | none =>
    have e15' : M 15 h = -nI 1 := e15
    cases lo with
    | none =>
      have e13' : M 13 h = -nI 1 := e13
      simp (disch := first | omega | trivial) only [f_X7_stateOf, li, cn_in, cn_cl, if_pos, cb_let_eq, e15', e13']
    | some l =>
      have e13' : M 13 h = nI l := e13
      have := hl l rfl
      simp (disch := first | omega | trivial) only [f_X7_stateOf, li, cn_in, cn_cl, if_pos, cb_let_eq, e15', e13', cn_eq1, if_false, cn_lt]
  | some w =>
    have e15' : M 15 h = nI w := e15
    have := hw w rfl
    cases lo with
    | none =>
      have e13' : M 13 h = -nI 1 := e13
      simp (disch := first | omega | trivial) only [f_X7_stateOf, li, cn_in, cn_cl, if_pos, cb_let_eq, e15', e13', cn_eq1, if_false, cn_lt]
    | some l =>
      have e13' : M 13 h = nI l := e13
      have := hl l rfl
      simp (disch := first | omega | trivial) only [f_X7_stateOf, li, cn_in, cn_cl, if_pos, cb_let_eq, e15', e13', cn_eq1, if_false, cn_lt]
theorem y_st2 {M : cb_Mem} {F : FD} {w0 w1 : List Nat} {ch : Option Nat} {rs : List (Nat × Nat)} {gm : Nat} (hA : mAll M F w0 w1 ch rs gm) {h d l : Nat} (hh : h < d_nh F) (hd : d < 40) (e15 : M 15 h = -nI 1) (e13 : M 13 h = nI l) (hl : l ≤ d) : f_X7_stateOf (nI d) (nI h) M = some (nI 3) := by
  have h8 : d_nh F ≤ 8 := hA.1.1
  simp (disch := first | omega | trivial) only [f_X7_stateOf, li, cn_in, cn_cl, if_pos, cb_let_eq, e15, e13, cn_eq1, if_false, cn_lt, if_neg]
theorem y_stateOf {M : cb_Mem} {F : FD} {w0 w1 : List Nat} {ch : Option Nat} {rs : List (Nat × Nat)} {gm : Nat} (hA : mAll M F w0 w1 ch rs gm) (hW : mWk M F w1) {h d : Nat} (hd : d < 40) (hh : h < d_nh F) : f_X7_stateOf (nI d) (nI h) M = some (nI (stF F d h)) := by
  have hF := hA.1
  obtain ⟨ok, -⟩ := wk_ok F
  have e13 := (hW.1 h hh).2
  have e15 := (hW.2.2.1 h hh).2
  have r40 := hF.2.2.2.2.2 h
  unfold stF lfB
  cases e : (wk F).2.1 h with
  | some p =>
    rw [e] at e15
    have e15' : M 15 h = nI p.2 := e15
    have e1 := ok.2 h p e
    obtain ⟨b1, b2, b3, b4, b5, b6⟩ := ok.1 _ _ e1
    have b3' : p.2 < 40 := b3
    dsimp only
    by_cases q : p.2 ≤ d
    · rw [if_pos (by simpa using q)]
      exact y_st0 hA hh hd e15' q
    · rw [if_neg (by simpa using q)]
      cases er : rp F h with
      | none =>
        have : onB F h p.2 = true := b5
        rw [onB_none er] at this
        cases this
      | some x =>
        have b5' : onB F h p.2 = true := b5
        rw [onB_some er] at b5'
        have b7 := of_decide_eq_true b5'
        rw [if_neg (by omega), ← tl_gn hF er]
        refine y_st1 (wo := some p.2) hA hh hd e15' (fun w hw => by cases hw; omega) e13 (fun l hl => ?_)
        unfold lsF lsO at hl
        rw [er] at hl
        dsimp only at hl
        split at hl
        · cases hl; omega
        · cases hl
  | none =>
    rw [e] at e15
    have e15' : M 15 h = -nI 1 := e15
    dsimp only
    rw [if_neg (by decide)]
    cases er : rp F h with
    | none =>
      obtain ⟨s2, j, j1, j2, j3⟩ := rpN_no er
      obtain ⟨f, f1, f2⟩ := fsN_min j3 j1
      have f3 := (fsN_lt f1).1
      unfold lsF lsO at e13
      rw [er, f1] at e13
      dsimp only at e13
      rw [gnF_none er, f1]
      dsimp only
      by_cases q1 : d_rab F h < f
      · rw [if_pos q1] at e13
        by_cases q2 : d_rab F h ≤ d
        · rw [if_pos q2]
          exact y_st2 hA hh hd e15' e13 q2
        · rw [if_neg q2, if_neg (by omega), ← tl_no er f1 (show d < f by omega)]
          exact y_st1 (wo := none) hA hh hd e15' (fun w hw => by cases hw) e13 (fun l hl => by cases hl; omega)
      · rw [if_neg q1] at e13
        by_cases q2 : f ≤ d
        · rw [if_pos q2]
          have : (if d_rab F h ≤ d then 3 else 3) = 3 := by split <;> rfl
          rw [this]
          exact y_st2 hA hh hd e15' e13 q2
        · rw [if_neg q2, if_neg (by omega), ← tl_no er f1 (show d < f by omega)]
          exact y_st1 (wo := none) hA hh hd e15' (fun w hw => by cases hw) e13 (fun l hl => by cases hl; omega)
    | some x =>
      unfold lsF lsO at e13
      rw [er] at e13
      dsimp only at e13
      by_cases q1 : d_rab F h < 40
      · rw [if_pos q1] at e13
        by_cases q2 : d_rab F h ≤ d
        · rw [if_pos q2]
          exact y_st2 hA hh hd e15' e13 q2
        · rw [if_neg q2, ← tl_gn hF er]
          exact y_st1 (wo := none) hA hh hd e15' (fun w hw => by cases hw) e13 (fun l hl => by cases hl; omega)
      · rw [if_neg q1] at e13
        rw [if_neg (by omega), ← tl_gn hF er]
        exact y_st1 (wo := none) hA hh hd e15' (fun w hw => by cases hw) e13 (fun l hl => by cases hl)
