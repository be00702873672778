theorem onB_none {F : FD} {h d : Nat} (e : rp F h = none) : onB F h d = false := by
  unfold onB
  rw [e]
theorem onB_some {F : FD} {h d x : Nat} (e : rp F h = some x) : onB F h d = decide (x ≤ d ∧ d < x + spanN (d_srt F h) ∧ d < d_rab F h) := by
  unfold onB
  rw [e]
theorem x_bringHead {M : cb_Mem} {F : FD} (hF : WF F) (hM : xFd M F) {h : Nat} (hh : h < d_nh F) {ps pr : Nat → Nat → Bool} (hK : xK M ps pr) (hb0 : M 23 h = -nI 1) :
    ∃ M', f_X5_bringHead (nI h) M = some M' ∧ agr M M' (fun k j => k = 27 ∨ k = 29 ∨ ((k = 22 ∨ k = 23) ∧ j = h)) ∧ M' 22 h = eO (rp F h) ∧ M' 23 h = eO ((rp F h).map (fun x => x + spanN (d_srt F h))) ∧ xK M' (fun s j => ps s j || (decide (j = h) && (decide (s = 3) || decide (s = d_srt F h)))) (fun d j => pr d j || (decide (j = h) && onB F h d)) := by
  have hF0 := hF
  obtain ⟨w1, w2, w3, w4, w5, w6⟩ := hF
  obtain ⟨g1, g2⟩ := hM.2.2.2.1 h hh
  obtain ⟨b1, b2⟩ := w3 h hh
  have g3 := hM.2.2.2.2.1 h (by omega)
  have b3 := w6 h
  have sp := spanN_le (d_srt F h)
  obtain ⟨M1, hM1⟩ : ∃ X, X = cb_up M 29 (d_srt F h) (M 29 (d_srt F h) ||| (nI 1 <<< (nI h &&& nI 31))) := ⟨_, rfl⟩
  obtain ⟨M2, hM2⟩ : ∃ X, X = cb_up M1 29 3 (M1 29 3 ||| (nI 1 <<< (nI h &&& nI 31))) := ⟨_, rfl⟩
  have a2 : agr M M2 (fun k j => k = 27 ∨ k = 29 ∨ ((k = 22 ∨ k = 23) ∧ j = h)) := by
    rw [hM2, hM1]
    exact (agr.rf.up (by simp)).up (by simp)
  have hs2 : ∀ s, s < 4 → msk 8 (M2 29 s) (fun j => ps s j || (decide (j = h) && (decide (s = 3) || decide (s = d_srt F h)))) := by
    intro s hs
    rw [hM2, cu, if_pos rfl]
    by_cases e : s = 3
    · subst e
      rw [if_pos rfl]
      have e13 : M1 29 3 = M 29 3 := by
        rw [hM1, cu, if_pos rfl, if_neg (by omega)]
      rw [e13]
      refine (msk_or1 (hK.1 3 hs) (by omega) (by omega)).cong (fun j _ => ?_)
      simp
    · rw [if_neg e]
      rw [hM1, cu, if_pos rfl]
      by_cases e2 : s = d_srt F h
      · rw [if_pos e2, ← e2]
        refine (msk_or1 (hK.1 s hs) (by omega) (by omega)).cong (fun j _ => ?_)
        simp [e2]
      · rw [if_neg e2]
        refine (hK.1 s hs).cong (fun j _ => ?_)
        simp [e, e2]
  have hr2 : ∀ d, d < 40 → msk 8 (M2 27 d) (pr d) := by
    intro d hd
    have : M2 27 d = M 27 d := by rw [hM2, cu, if_neg (by decide), hM1, cu, if_neg (by decide)]
    rw [this]
    exact hK.2 d hd
  have hr := x_firstRipe (M := M2) hF0 (hM.agr a2 (by intro k j q; omega)) hh
  have hoff := v_isOff_in (j := d_srt F h) (n := 3) (by omega) (by omega)
  have hrp3 : ∀ s, s ≤ 2 → cb_ripe.getD s 0 = nI (spanN s) := by
    intro s hs
    rcases (show s = 0 ∨ s = 1 ∨ s = 2 by omega) with rfl | rfl | rfl <;> rfl
  cases hrp : rp F h with
  | none =>
    rw [hrp] at hr
    rw [show eO none = -nI 1 from rfl] at hr
    refine ⟨cb_up M2 22 h (-nI 1), ?_, a2.up (by simp), by simp [cu, eO], ?_, ?_, ?_⟩
    · have e22 : (cb_up M2 22 h (-nI 1)) 22 h = -nI 1 := by simp [cu]
      simp (disch := first | omega | trivial) only [f_X5_bringHead, li, cn_in, cn_cl, if_pos, cb_let_eq, g1, hoff, cn_eq, ← hM1, ← hM2, hr, Option.bind_some, e22]
    · have : (cb_up M2 22 h (-nI 1)) 23 h = M 23 h := by
        rw [cu, if_neg (by decide), hM2, cu, if_neg (by decide), hM1, cu, if_neg (by decide)]
      rw [this, hb0]
      rfl
    · intro s hs
      rw [cu, if_neg (by decide)]
      exact hs2 s hs
    · intro d hd
      rw [cu, if_neg (by decide)]
      refine (hr2 d hd).cong (fun j _ => ?_)
      show pr d j = (pr d j || (decide (j = h) && onB F h d))
      rw [onB_none hrp, Bool.and_false, Bool.or_false]
  | some x =>
    have hx := rp_bound hF0 hh hrp
    rw [hrp] at hr
    rw [show eO (some x) = nI x from rfl] at hr
    have hr4 : ∀ d, d < 40 → msk 8 ((cb_up (cb_up M2 22 h (nI x)) 23 h (nI (x + spanN (d_srt F h)))) 27 d) (pr d) := by
      intro d hd
      rw [cu, if_neg (by decide), cu, if_neg (by decide)]
      exact hr2 d hd
    obtain ⟨M5, f5, a5, r5⟩ := x_headL (M := cb_up (cb_up M2 22 h (nI x)) 23 h (nI (x + spanN (d_srt F h)))) (h := h) (x := x) (en := min (x + spanN (d_srt F h)) (d_rab F h)) (by omega) (by omega) (by omega) hr4
    have a4 : agr M (cb_up (cb_up M2 22 h (nI x)) 23 h (nI (x + spanN (d_srt F h)))) (fun k j => k = 27 ∨ k = 29 ∨ ((k = 22 ∨ k = 23) ∧ j = h)) := (a2.up (by simp)).up (by simp)
    refine ⟨M5, ?_, a4.trans (a5.mono (fun k j q => Or.inl q)), ?_, ?_, ?_, ?_⟩
    · have e22 : (cb_up M2 22 h (nI x)) 22 h = nI x := by simp [cu]
      have e23 : (cb_up (cb_up M2 22 h (nI x)) 23 h (nI (x + spanN (d_srt F h)))) 23 h = nI (x + spanN (d_srt F h)) := by simp [cu]
      have e22' : (cb_up (cb_up M2 22 h (nI x)) 23 h (nI (x + spanN (d_srt F h)))) 22 h = nI x := by simp [cu]
      have e21 : (cb_up (cb_up M2 22 h (nI x)) 23 h (nI (x + spanN (d_srt F h)))) 21 h = nI (d_rab F h) := (a4 _ _ (by simp)).trans g3
      have hsp := hrp3 (d_srt F h) b1
      rw [show (0 : Int32) = nI 0 from rfl] at hsp
      simp (disch := first | omega | trivial) only [f_X5_bringHead, li, cn_in, cn_cl, if_pos, cb_let_eq, g1, hoff, cn_eq, ← hM1, ← hM2, hr, Option.bind_some, if_neg, e22, cn_eq1, if_false, hsp, cn_add, e23, e21, e22', cn_min, f5]
    · rw [a5 _ _ (by simp), cu, if_neg (by decide), cu, if_pos rfl, if_pos rfl]
      rfl
    · rw [a5 _ _ (by simp), cu, if_pos rfl, if_pos rfl]
      rfl
    · intro s hs
      rw [a5 _ _ (by simp), cu, if_neg (by decide), cu, if_neg (by decide)]
      exact hs2 s hs
    · intro d hd
      refine (r5 d hd).cong (fun j _ => ?_)
      have : (x ≤ d ∧ d < min (x + spanN (d_srt F h)) (d_rab F h)) ↔ (x ≤ d ∧ d < x + spanN (d_srt F h) ∧ d < d_rab F h) := by omega
      show _ = (pr d j || (decide (j = h) && onB F h d))
      rw [onB_some hrp]
      simp only [this]
