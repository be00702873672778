/-! the reference: a walk -/
def mFd (M : cb_Mem) (F : FD) : Prop := M 0 7 = nI (d_nh F) ∧ M 0 9 = nI (d_nc F) ∧ (∀ h, h < d_nh F → M 7 (2 * h) = nI (d_srt F h) ∧ M 7 (2 * h + 1) = nI (d_due F h)) ∧ ∀ c, c < d_nc F → M 8 (3 * c) = nI (d_wnt F c) ∧ M 8 (3 * c + 1) = nI (d_frm F c) ∧ M 8 (3 * c + 2) = nI (d_sty F c)
def mAll (M : cb_Mem) (F : FD) (w0 w1 : List Nat) (ch : Option Nat) (rs : List (Nat × Nat)) (gm : Nat) : Prop := WF F ∧ mFd M F ∧ mW M w0 w1 ch ∧ mR M rs gm ∧ d_fr F = frO w0 ch ∧ ∀ h, d_rab F h = rbF rs gm h
/-- what a walk may change -/
def PL (k j : Nat) : Prop := (12 ≤ k ∧ k ≤ 18) ∨ (k = 0 ∧ (j = 24 ∨ j = 25))
theorem mFd.agr {M M' : cb_Mem} {F : FD} (h : mFd M F) {P : Nat → Nat → Prop} (ha : agr M M' P) (h7 : ∀ j, ¬ P 7 j) (h8 : ∀ j, ¬ P 8 j) (a : ¬ P 0 7) (b : ¬ P 0 9) : mFd M' F := by
  obtain ⟨a1, a2, a3, a4⟩ := h
  exact ⟨by rw [ha _ _ a]; exact a1, by rw [ha _ _ b]; exact a2, fun k hk => by rw [ha _ _ (h7 _), ha _ _ (h7 _)]; exact a3 k hk, fun c hc => by rw [ha _ _ (h8 _), ha _ _ (h8 _), ha _ _ (h8 _)]; exact a4 c hc⟩
theorem mAll.agr {M M' : cb_Mem} {F : FD} {w0 w1 : List Nat} {ch : Option Nat} {rs : List (Nat × Nat)} {gm : Nat} (h : mAll M F w0 w1 ch rs gm) (ha : agr M M' PL) : mAll M' F w0 w1 ch rs gm :=
  ⟨h.1, h.2.1.agr ha (by simp [PL]) (by simp [PL]) (by simp [PL]) (by simp [PL]), h.2.2.1.agr ha (by simp [PL]) (by simp [PL]) (by simp [PL]), h.2.2.2.1.agr ha (by simp [PL]) (by simp [PL]) (by simp [PL]), h.2.2.2.2⟩
def bth (w1 : List Nat) (o : Option (Nat × Nat)) : Int32 := match o with
  | none => nI 0
  | some p => if mB w1 p.2 = true then nI 2 else nI 1
def mS (M : cb_Mem) (F : FD) (w1 : List Nat) (S : SS) : Prop := (∀ c, c < d_nc F → M 16 c = eP1 (S.1 c) ∧ M 17 c = eP2 (S.1 c) ∧ M 18 c = bth w1 (S.1 c)) ∧ (∀ h, h < d_nh F → M 14 h = eP1 (S.2.1 h) ∧ M 15 h = eP2 (S.2.1 h)) ∧ M 0 24 = eP1 S.2.2 ∧ M 0 25 = eP2 S.2.2
def bdP (o : Option (Nat × Nat)) : Prop := ∀ p, o = some p → p.1 < 8 ∧ p.2 < 40
/-- the heads' days and losses, as the walk finds them -/
def lsF (F : FD) (h : Nat) : Option Nat := lsO (match rp F h with | none => fsN (d_fr F) 30 | some _ => none) (d_rab F h)
def mD (M : cb_Mem) (F : FD) : Prop := ∀ h, h < d_nh F → M 12 h = eO (rp F h) ∧ M 13 h = eO (lsF F h)
theorem rp_bound {F : FD} (hF : WF F) {h x : Nat} (hh : h < d_nh F) (e : rp F h = some x) : x < 60 := by
  have := rpN_bound hF.2.2.2.2.1 e
  have := (hF.2.2.1 h hh).2
  omega
theorem m_wants {M : cb_Mem} {F : FD} (hF : WF F) (hM : mFd M F) {c h : Nat} (hc : c < d_nc F) (hh : h < d_nh F) : f_X7_wants (nI c) (nI h) M = some (b2i (wtB F c h)) := by
  obtain ⟨w1, w2, w3, w4, -⟩ := hF
  have g1 := (hM.2.2.1 h hh).1
  have g2 := (hM.2.2.2 c hc).1
  have b1 := w4 c hc
  have b2 := w3 h hh
  unfold wtB
  by_cases e : d_wnt F c = 3
  · simp (disch := first | omega | trivial) only [f_X7_wants, li, cn_mul, cn_in, cn_cl, g2, cn_eq, if_pos, cb_let_eq, e, true_or, decide_true]
    rfl
  · by_cases e2 : d_wnt F c = d_srt F h
    · simp (disch := first | omega | trivial) only [f_X7_wants, li, cn_mul, cn_in, cn_cl, g1, g2, cn_eq, if_pos, if_neg, cb_let_eq, e2, or_true, decide_true]
      rfl
    · simp (disch := first | omega | trivial) only [f_X7_wants, li, cn_mul, cn_in, cn_cl, g1, g2, cn_eq, if_pos, if_neg, cb_let_eq, e, e2, or_false, decide_false, decide_eq_false]
      rfl
theorem m_comes {M : cb_Mem} {F : FD} (hF : WF F) (hM : mFd M F) {c d : Nat} (hc : c < d_nc F) (hd : d < 64) : f_X7_comes (nI c) (nI d) M = some (b2i (cmB F c d)) := by
  obtain ⟨w1, w2, w3, w4, -⟩ := hF
  obtain ⟨-, g2, g3⟩ := hM.2.2.2 c hc
  have b1 := w4 c hc
  simp (disch := first | omega | trivial) only [f_X7_comes, li, cn_mul, cn_add, cn_sub, cn_in, cn_cl, g2, g3, if_pos, cb_let_eq, v_in3, cn_ti]
  unfold cmB
  by_cases e : d_frm F c ≤ d ∧ d < d_frm F c + d_sty F c
  · rw [if_pos (by omega), decide_eq_true e]
    rfl
  · rw [if_neg (by omega), decide_eq_false e]
    rfl
theorem v_span {s : Nat} (hs : s ≤ 2) : f_X7_span (nI s) = nI (spanN s) := by
  rcases (show s = 0 ∨ s = 1 ∨ s = 2 by omega) with rfl | rfl | rfl <;> rfl
theorem spanN_le (s : Nat) : 1 ≤ spanN s ∧ spanN s ≤ 5 := by
  unfold spanN
  split
  · omega
  · split <;> omega
theorem m_isRipe {M : cb_Mem} {F : FD} (hF : WF F) (hM : mFd M F) {h d : Nat} (hD : mD M F) (hh : h < d_nh F) (hd : d < 40) : f_X7_isRipe (nI h) (nI d) M = some (b2i (onB F h d)) := by
  have hF0 := hF
  obtain ⟨w1, w2, w3, w4, w5, w6⟩ := hF
  obtain ⟨g1, g2⟩ := hD h hh
  have g3 := (hM.2.2.1 h hh).1
  have b1 := w3 h hh
  have b2 := spanN_le (d_srt F h)
  have b3 := w6 h
  unfold onB
  unfold lsF at g2
  cases hr : rp F h with
  | none =>
    rw [hr] at g1
    rw [show eO none = -nI 1 from rfl] at g1
    have h8 : h < 8 := by omega
    rw [f_X7_isRipe, if_pos (by rw [cn_in (by omega)]; exact h8), cn_cl (by omega), if_pos (g1.trans (by rw [li]))]
    rfl
  | some x =>
    have hx := rp_bound hF0 hh hr
    rw [hr] at g1 g2
    rw [show eO (some x) = nI x from rfl] at g1
    dsimp only at g2 ⊢
    unfold lsO at g2
    dsimp only at g2
    have sp := v_span b1.1
    by_cases e1 : x ≤ d ∧ d < x + spanN (d_srt F h)
    · by_cases e2 : d_rab F h < 40
      · rw [if_pos e2] at g2
        rw [show eO (some (d_rab F h)) = nI (d_rab F h) from rfl] at g2
        by_cases e3 : d < d_rab F h
        · rw [decide_eq_true (show x ≤ d ∧ d < x + spanN (d_srt F h) ∧ d < d_rab F h from ⟨e1.1, e1.2, e3⟩)]
          simp (disch := first | omega | trivial) only [f_X7_isRipe, li, cn_in, cn_cl, cn_mul, cn_add, cn_sub, g1, g2, g3, cn_eq1, if_false, if_pos, if_neg, sp, v_in3, cn_ti, cb_let_eq, cn_le, cn_eq]
          rfl
        · rw [decide_eq_false (show ¬ (x ≤ d ∧ d < x + spanN (d_srt F h) ∧ d < d_rab F h) from fun q => e3 q.2.2)]
          simp (disch := first | omega | trivial) only [f_X7_isRipe, li, cn_in, cn_cl, cn_mul, cn_add, cn_sub, g1, g2, g3, cn_eq1, if_false, if_pos, if_neg, sp, v_in3, cn_ti, cb_let_eq, cn_le, cn_eq]
          rfl
      · rw [if_neg e2] at g2
        rw [show eO none = -nI 1 from rfl] at g2
        rw [decide_eq_true (show x ≤ d ∧ d < x + spanN (d_srt F h) ∧ d < d_rab F h from ⟨e1.1, e1.2, by omega⟩)]
        simp (disch := first | omega | trivial) only [f_X7_isRipe, li, cn_in, cn_cl, cn_mul, cn_add, cn_sub, g1, g2, g3, cn_eq1, if_false, if_pos, if_neg, sp, v_in3, cn_ti, cb_let_eq, cn_le, cn_eq]
        rfl
    · rw [decide_eq_false (show ¬ (x ≤ d ∧ d < x + spanN (d_srt F h) ∧ d < d_rab F h) from fun q => e1 ⟨q.1, q.2.1⟩)]
      simp (disch := first | omega | trivial) only [f_X7_isRipe, li, cn_in, cn_cl, cn_mul, cn_add, cn_sub, g1, g3, cn_eq1, if_false, if_pos, if_neg, sp, v_in3, cn_ti, cb_let_eq, cn_eq]
      rfl
