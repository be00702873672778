theorem stC_bd {F : FD} {S : SS} {d c : Nat} (hF : WF F) (hb : bdS F S) (hc : c < d_nc F) (hd : d < 40) : bdS F (stC F d c S) := by
  have hc8 : d_nc F ≤ 8 := hF.2.1
  have hh8 : d_nh F ≤ 8 := hF.1
  unfold stC
  split
  · split
    · exact hb
    · rename_i h hh
      exact lfS_bd hb (by omega) (by have := fhN_lt hh; omega) hd
  · exact hb
theorem itC_bd {F : FD} {d : Nat} (hF : WF F) (hd : d < 40) : ∀ {n : Nat} {S : SS}, n ≤ d_nc F → bdS F S → bdS F (itN (fun c S => stC F d c S) n S)
  | 0, _, _, h => h
  | n + 1, S, hn, h => stC_bd hF (itC_bd hF hd (by omega) h) (by omega) hd
theorem stD_bd {F : FD} {S : SS} {d : Nat} (hF : WF F) (hb : bdS F S) (hd : d < 40) : bdS F (stD F d S) := itC_bd hF hd (Nat.le_refl _) hb
theorem wkN_bd {F : FD} (hF : WF F) : ∀ {n : Nat}, n ≤ 40 → bdS F (wkN F n)
  | 0, _ => ⟨fun _ _ h => (by cases h), fun _ _ h => (by cases h), fun _ h => (by cases h)⟩
  | n + 1, hn => stD_bd hF (wkN_bd hF (by omega)) (by omega)
theorem m_day {M : cb_Mem} {F : FD} {S : SS} {w0 w1 : List Nat} {ch : Option Nat} {rs : List (Nat × Nat)} {gm d : Nat} (hA : mAll M F w0 w1 ch rs gm) (hD : mD M F) (hb : bdS F S) (hS : mS M F w1 S) (hd : d < 40) :
    ∃ M', f_X7_lives_L92 cb_fuel (nI d) (nI 0) M = some M' ∧ agr M M' PW ∧ mS M' F w1 (stD F d S) := by
  have hF := hA.1
  have hc8 : d_nc F ≤ 8 := hF.2.1
  refine cb_loop0 (fun m k (s : cb_Mem) => f_X7_lives_L92 m (nI d) (nI k) s) (fun k s => agr M s PW ∧ mS s F w1 (itN (fun c S => stC F d c S) k S)) (d_nc F) _ M (by omega) ⟨agr.rf, hS⟩ ?_ ?_
  · rintro m s ⟨ha, h1⟩
    have e9 : s 0 9 = nI (d_nc F) := (ha _ _ (by simp [PW, PL])).trans hA.2.1.2.1
    refine ⟨s, ?_, ha, h1⟩
    simp (disch := first | omega | trivial) only [f_X7_lives_L92, e9, cn_le, if_pos]
  · rintro m k s hk ⟨ha, h1⟩
    right
    have hAs := hA.agr (ha.mono (fun _ _ q => q.1))
    have e9 : s 0 9 = nI (d_nc F) := hAs.2.1.2.1
    have hcm := m_comes (d := d) hF hAs.2.1 hk (by omega)
    have hb2 := itC_bd (S := S) hF hd (Nat.le_of_lt hk) hb
    cases hc1 : cmB F k d with
    | false =>
      rw [hc1] at hcm
      refine ⟨s, ⟨ha, ?_⟩, ?_⟩
      · rw [itN, stC, if_neg (by rw [hc1]; simp)]
        exact h1
      · simp (disch := first | omega | trivial) only [f_X7_lives_L92, li, e9, cn_le, if_pos, if_neg, hcm, Option.bind_some, b2i_0, cn_add]
    | true =>
      rw [hc1] at hcm
      obtain ⟨M2, f2, a2, s2⟩ := m_dawn (d := d) hAs (hD.agr ha) hb2 h1 hk hd
      refine ⟨M2, ⟨ha.trans a2, ?_⟩, ?_⟩
      · rw [itN, stC, hc1]
        generalize itN (fun c S => stC F d c S) k S = T at s2 ⊢
        by_cases e : T.1 k = none
        · rw [if_pos ⟨rfl, e⟩]
          rw [if_pos e] at s2
          exact s2
        · rw [if_neg (fun q => e q.2)]
          rw [if_neg e] at s2
          exact s2
      · simp (disch := first | omega | trivial) only [f_X7_lives_L92, li, e9, cn_le, if_pos, if_neg, hcm, Option.bind_some, b2i_0, cn_add, Bool.true_eq_false, f2]
theorem m_days {M : cb_Mem} {F : FD} {w0 w1 : List Nat} {ch : Option Nat} {rs : List (Nat × Nat)} {gm : Nat} (hA : mAll M F w0 w1 ch rs gm) (hD : mD M F) (hS : mS M F w1 S0) :
    ∃ M', f_X7_lives_L84 cb_fuel (nI 0) M = some M' ∧ agr M M' PW ∧ mS M' F w1 (wk F) := by
  have hF := hA.1
  refine cb_loop0 (fun m k (s : cb_Mem) => f_X7_lives_L84 m (nI k) s) (fun k s => agr M s PW ∧ mS s F w1 (wkN F k)) 40 _ M (by omega) ⟨agr.rf, hS⟩ ?_ ?_
  · rintro m s ⟨ha, h1⟩
    refine ⟨s, ?_, ha, h1⟩
    simp (disch := first | omega | trivial) only [f_X7_lives_L84, li, cn_le, if_pos]
  · rintro m k s hk ⟨ha, h1⟩
    right
    have hAs := hA.agr (ha.mono (fun _ _ q => q.1))
    obtain ⟨M2, f2, a2, s2⟩ := m_day (d := k) hAs (hD.agr ha) (wkN_bd hF (by omega)) h1 hk
    refine ⟨M2, ⟨ha.trans a2, s2⟩, ?_⟩
    simp (disch := first | omega | trivial) only [f_X7_lives_L84, li, cn_le, if_pos, if_neg, Option.bind_some, cn_add, f2]
/-- what stands behind a walk of the reference -/
def mWk (M : cb_Mem) (F : FD) (w1 : List Nat) : Prop := mD M F ∧ mS M F w1 (wk F)
theorem m_lives {M : cb_Mem} {F : FD} {w0 w1 : List Nat} {ch : Option Nat} {rs : List (Nat × Nat)} {gm : Nat} (hA : mAll M F w0 w1 ch rs gm) : ∃ M', f_X7_lives M = some M' ∧ agr M M' PL ∧ mWk M' F w1 := by
  have hF := hA.1
  have hc8 : d_nc F ≤ 8 := hF.2.1
  have hh8 : d_nh F ≤ 8 := hF.1
  obtain ⟨M1, f1, a1, d1, t1⟩ : ∃ M', f_X7_lives_L2 cb_fuel (nI 0) M = some M' ∧ agr M M' PL ∧ mD M' F ∧ ∀ h, h < d_nh F → M' 14 h = -nI 1 ∧ M' 15 h = -nI 1 := by
    refine cb_loop0 (fun m k (s : cb_Mem) => f_X7_lives_L2 m (nI k) s) (fun k s => agr M s PL ∧ (∀ h, h < k → s 12 h = eO (rp F h) ∧ s 13 h = eO (lsF F h)) ∧ ∀ h, h < k → s 14 h = -nI 1 ∧ s 15 h = -nI 1) (d_nh F) _ M (by omega) ⟨agr.rf, fun h q => absurd q (Nat.not_lt_zero h), fun h q => absurd q (Nat.not_lt_zero h)⟩ ?_ ?_
    · rintro m s ⟨ha, h1, h2⟩
      have e7 : s 0 7 = nI (d_nh F) := (ha _ _ (by simp [PL])).trans hA.2.1.1
      refine ⟨s, ?_, ha, h1, h2⟩
      simp (disch := first | omega | trivial) only [f_X7_lives_L2, e7, cn_le, if_pos]
    · rintro m k s hk ⟨ha, h1, h2⟩
      right
      have hAs := hA.agr ha
      have e7 : s 0 7 = nI (d_nh F) := hAs.2.1.1
      obtain ⟨g1, g2⟩ := hAs.2.1.2.2.1 k hk
      obtain ⟨b1, b2⟩ := hF.2.2.1 k hk
      obtain ⟨M2, f2, a2, c1, c2⟩ := m_ripens hAs.2.2.1 hAs.2.2.2.1 (show k < 8 by omega) g1 b1 g2 b2
      have a2' : agr s M2 PL := a2.mono (fun k j q => by unfold PL; omega)
      refine ⟨cb_up (cb_up M2 14 k (-nI 1)) 15 k (-nI 1), ⟨((ha.trans a2').up (by simp [PL])).up (by simp [PL]), fun h hh => ?_, fun h hh => ?_⟩, ?_⟩
      · have r12 : (cb_up (cb_up M2 14 k (-nI 1)) 15 k (-nI 1)) 12 h = M2 12 h := by simp [cu]
        have r13 : (cb_up (cb_up M2 14 k (-nI 1)) 15 k (-nI 1)) 13 h = M2 13 h := by simp [cu]
        rw [r12, r13]
        by_cases e : h = k
        · subst e
          refine ⟨?_, ?_⟩
          · rw [c1, ← hA.2.2.2.2.1]; rfl
          · rw [c2, ← hA.2.2.2.2.1, ← hA.2.2.2.2.2]
            rfl
        · rw [a2 _ _ (by simp [e]), a2 _ _ (by simp [e])]
          exact h1 h (by omega)
      · by_cases e : h = k
        · subst e; simp [cu]
        · have r14 : (cb_up (cb_up M2 14 k (-nI 1)) 15 k (-nI 1)) 14 h = M2 14 h := by simp [cu, e]
          have r15 : (cb_up (cb_up M2 14 k (-nI 1)) 15 k (-nI 1)) 15 h = M2 15 h := by simp [cu, e]
          rw [r14, r15, a2 _ _ (by simp), a2 _ _ (by simp)]
          exact h2 h (by omega)
      · simp (disch := first | omega | trivial) only [f_X7_lives_L2, li, e7, cn_le, if_pos, if_neg, Option.bind_some, cn_add, f2, cn_in, cn_cl, cb_let_eq]
  obtain ⟨M2, f2, a2, s2⟩ : ∃ M', f_X7_lives_L37 cb_fuel (nI 0) M1 = some M' ∧ agr M1 M' (fun k j => 16 ≤ k ∧ k ≤ 18) ∧ ∀ c, c < d_nc F → M' 16 c = -nI 1 ∧ M' 17 c = -nI 1 ∧ M' 18 c = nI 0 := by
    refine cb_loop0 (fun m k (s : cb_Mem) => f_X7_lives_L37 m (nI k) s) (fun k s => agr M1 s (fun k j => 16 ≤ k ∧ k ≤ 18) ∧ ∀ c, c < k → s 16 c = -nI 1 ∧ s 17 c = -nI 1 ∧ s 18 c = nI 0) (d_nc F) _ M1 (by omega) ⟨agr.rf, fun h q => absurd q (Nat.not_lt_zero h)⟩ ?_ ?_
    · rintro m s ⟨ha, h1⟩
      have e9 : s 0 9 = nI (d_nc F) := (ha _ _ (by simp)).trans ((a1 _ _ (by simp [PL])).trans hA.2.1.2.1)
      refine ⟨s, ?_, ha, h1⟩
      simp (disch := first | omega | trivial) only [f_X7_lives_L37, e9, cn_le, if_pos]
    · rintro m k s hk ⟨ha, h1⟩
      right
      have e9 : s 0 9 = nI (d_nc F) := (ha _ _ (by simp)).trans ((a1 _ _ (by simp [PL])).trans hA.2.1.2.1)
      refine ⟨cb_up (cb_up (cb_up s 16 k (-nI 1)) 17 k (-nI 1)) 18 k (nI 0), ⟨((ha.up (by simp)).up (by simp)).up (by simp), fun c hc => ?_⟩, ?_⟩
      · by_cases e : c = k
        · subst e; simp [cu]
        · have := h1 c (by omega)
          simp [cu, e, this]
      · simp (disch := first | omega | trivial) only [f_X7_lives_L37, li, e9, cn_le, if_pos, if_neg, cn_add, cn_in, cn_cl, cb_let_eq]
  have a2' : agr M M2 PL := a1.trans (a2.mono (fun k j q => by unfold PL; omega))
  have a3 : agr M (cb_up (cb_up M2 0 24 (-nI 1)) 0 25 (-nI 1)) PL := (a2'.up (by simp [PL])).up (by simp [PL])
  obtain ⟨M3, f3, a4, s4⟩ := m_days (hA.agr a3) (fun h hh => by
    have r12 : (cb_up (cb_up M2 0 24 (-nI 1)) 0 25 (-nI 1)) 12 h = M1 12 h := by simp [cu]; exact a2 _ _ (by simp)
    have r13 : (cb_up (cb_up M2 0 24 (-nI 1)) 0 25 (-nI 1)) 13 h = M1 13 h := by simp [cu]; exact a2 _ _ (by simp)
    rw [r12, r13]
    exact d1 h hh) ⟨fun c hc => by have := s2 c hc; simp [cu, this, S0, eP1, eP2, bth], fun h hh => by
    have r14 : M2 14 h = M1 14 h := a2 _ _ (by simp)
    have r15 : M2 15 h = M1 15 h := a2 _ _ (by simp)
    have := t1 h hh
    simp [cu, r14, r15, this, S0, eP1, eP2], by simp [cu, S0, eP1], by simp [cu, S0, eP2]⟩
  refine ⟨M3, ?_, a3.trans (a4.mono (fun _ _ q => q.1)), ?_, s4⟩
  · simp only [f_X7_lives, li, f1, f2, f3, Option.bind_some, cb_let_eq]
  · intro h hh
    have r12 : (cb_up (cb_up M2 0 24 (-nI 1)) 0 25 (-nI 1)) 12 h = M1 12 h := by simp [cu]; exact a2 _ _ (by simp)
    have r13 : (cb_up (cb_up M2 0 24 (-nI 1)) 0 25 (-nI 1)) 13 h = M1 13 h := by simp [cu]; exact a2 _ _ (by simp)
    rw [a4 _ _ (by simp [PW]), a4 _ _ (by simp [PW]), r12, r13]
    exact d1 h hh
