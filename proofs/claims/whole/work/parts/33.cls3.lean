/-- all heads brought -/
def psF (F : FD) (n s j : Nat) : Bool := decide (j < n) && (decide (s = 3) || decide (s = d_srt F j))
def prF (F : FD) (n d j : Nat) : Bool := decide (j < n) && onB F j d
theorem x_heads {M : cb_Mem} {F : FD} (hF : WF F) (hM : xFd M F) (h29 : ∀ s, s < 4 → M 29 s = nI 0) (h27 : ∀ d, d < 40 → M 27 d = nI 0) (h23 : ∀ h, h < 8 → M 23 h = -nI 1) :
    ∃ M', f_X5_go_L6 cb_fuel (nI 0) M = some M' ∧ agr M M' (fun k _ => k = 22 ∨ k = 23 ∨ k = 27 ∨ k = 29) ∧ (∀ h, h < d_nh F → M' 22 h = eO (rp F h) ∧ M' 23 h = eO ((rp F h).map (fun x => x + spanN (d_srt F h)))) ∧ xK M' (psF F (d_nh F)) (prF F (d_nh F)) := by
  have hh8 : d_nh F ≤ 8 := hF.1
  refine cb_loop0 (fun m k (s : cb_Mem) => f_X5_go_L6 m (nI k) s) (fun k s => agr M s (fun k _ => k = 22 ∨ k = 23 ∨ k = 27 ∨ k = 29) ∧ (∀ h, h < k → s 22 h = eO (rp F h) ∧ s 23 h = eO ((rp F h).map (fun x => x + spanN (d_srt F h)))) ∧ (∀ h, k ≤ h → h < 8 → s 23 h = -nI 1) ∧ xK s (psF F k) (prF F k)) (d_nh F) _ M (by omega) ⟨agr.rf, fun h q => absurd q (Nat.not_lt_zero h), fun h _ h2 => h23 h h2, fun s hs => by rw [h29 s hs]; exact msk_0.cong (fun j _ => by simp [psF]), fun d hd => by rw [h27 d hd]; exact msk_0.cong (fun j _ => by simp [prF])⟩ ?_ ?_
  · rintro m s ⟨ha, h1, h2, h3⟩
    have e6 : s 3 6 = nI (d_nh F) := (ha _ _ (by simp)).trans hM.1
    refine ⟨s, ?_, ha, h1, h3⟩
    simp (disch := first | omega | trivial) only [f_X5_go_L6, e6, cn_le, if_pos]
  · rintro m k s hk ⟨ha, h1, h2, h3⟩
    right
    have hMs := hM.agr ha (by intro k j q; omega)
    have e6 : s 3 6 = nI (d_nh F) := hMs.1
    obtain ⟨M2, f2, a2, c1, c2, c3⟩ := x_bringHead hF hMs hk h3 (h2 k (Nat.le_refl _) (by omega))
    refine ⟨M2, ⟨ha.trans (a2.mono (fun k j q => by omega)), fun h hh => ?_, fun h q1 q2 => ?_, fun t ht => ?_, fun d hd => ?_⟩, ?_⟩
    · by_cases e : h = k
      · subst e; exact ⟨c1, c2⟩
      · rw [a2 _ _ (by omega), a2 _ _ (by omega)]
        exact h1 h (by omega)
    · rw [a2 _ _ (by omega)]
      exact h2 h (by omega) q2
    · refine (c3.1 t ht).cong (fun j _ => ?_)
      show (psF F k t j || (decide (j = k) && (decide (t = 3) || decide (t = d_srt F k)))) = psF F (k + 1) t j
      unfold psF
      by_cases e : j = k
      · subst e; simp
      · simp [e, show (j < k + 1) = (j < k) by apply propext; omega]
    · refine (c3.2 d hd).cong (fun j _ => ?_)
      show (prF F k d j || (decide (j = k) && onB F k d)) = prF F (k + 1) d j
      unfold prF
      by_cases e : j = k
      · subst e; simp
      · simp [e, show (j < k + 1) = (j < k) by apply propext; omega]
    · simp (disch := first | omega | trivial) only [f_X5_go_L6, li, e6, cn_le, if_pos, if_neg, f2, Option.bind_some, cn_add]
def pcF (F : FD) (n d j : Nat) : Bool := decide (j < n) && cmB F j d
def pgF (F : FD) (c j : Nat) : Bool := anyN (fun d => cmB F c d && (prF F (d_nh F) d j && psF F (d_nh F) (d_wnt F c) j)) 40
theorem x_coupleL {M : cb_Mem} {F : FD} {c : Nat} {pc : Nat → Nat → Bool} (hF : WF F) (hc : c < d_nc F) (hK : xK M (psF F (d_nh F)) (prF F (d_nh F))) (h28 : ∀ d, d < 40 → msk 8 (M 28 d) (pc d)) (h26 : M 26 c = nI 0) :
    ∃ M', f_X5_bringCouple_L53 cb_fuel (nI c) (nI (d_wnt F c)) (nI (min (d_frm F c + d_sty F c) 40)) (nI (d_frm F c)) M = some M' ∧ agr M M' (fun k j => k = 28 ∨ (k = 26 ∧ j = c)) ∧ (∀ d, d < 40 → msk 8 (M' 28 d) (fun j => pc d j || (decide (j = c) && cmB F c d))) ∧ msk 8 (M' 26 c) (pgF F c) := by
  obtain ⟨b1, b2, b3, b4⟩ := hF.2.2.2.1 c hc
  have hc8 : d_nc F ≤ 8 := hF.2.1
  generalize hen : min (d_frm F c + d_sty F c) 40 = en
  have cm : ∀ d, d < 40 → (cmB F c d = decide (d_frm F c ≤ d ∧ d < en)) := by
    intro d hd
    unfold cmB
    have : (d_frm F c ≤ d ∧ d < d_frm F c + d_sty F c) ↔ (d_frm F c ≤ d ∧ d < en) := by omega
    simp only [this]
  refine cb_loop (fun m k (s : cb_Mem) => f_X5_bringCouple_L53 m (nI c) (nI (d_wnt F c)) (nI en) (nI k) s) (fun k s => d_frm F c ≤ k ∧ agr M s (fun k j => k = 28 ∨ (k = 26 ∧ j = c)) ∧ (∀ d, d < 40 → msk 8 (s 28 d) (fun j => pc d j || (decide (j = c) && decide (d_frm F c ≤ d ∧ d < k)))) ∧ msk 8 (s 26 c) (fun j => anyN (fun d => decide (d_frm F c ≤ d) && (prF F (d_nh F) d j && psF F (d_nh F) (d_wnt F c) j)) k)) en _ ?_ ?_ cb_fuel (d_frm F c) M (by unfold cb_fuel; omega) (by omega) ⟨Nat.le_refl _, agr.rf, fun d hd => (h28 d hd).cong (fun j _ => by rw [decide_eq_false (show ¬ (d_frm F c ≤ d ∧ d < d_frm F c) by omega), Bool.and_false, Bool.or_false]), ?_⟩
  · rintro m s ⟨-, ha, h1, h2⟩
    refine ⟨s, ?_, ha, fun d hd => (h1 d hd).cong (fun j _ => by rw [cm d hd]), h2.cong (fun j _ => ?_)⟩
    · simp (disch := first | omega | trivial) only [f_X5_bringCouple_L53, li, cn_le, if_pos]
    · show anyN _ en = pgF F c j
      unfold pgF
      rw [Bool.eq_iff_iff, anyN_iff, anyN_iff]
      constructor
      · rintro ⟨d, q1, q2⟩
        refine ⟨d, by omega, ?_⟩
        rw [cm d (by omega)]
        simp only [Bool.and_eq_true, decide_eq_true_eq] at q2 ⊢
        exact ⟨⟨q2.1, q1⟩, q2.2⟩
      · rintro ⟨d, q1, q2⟩
        rw [cm d q1] at q2
        simp only [Bool.and_eq_true, decide_eq_true_eq] at q2
        exact ⟨d, q2.1.2, by simp only [Bool.and_eq_true, decide_eq_true_eq]; exact ⟨q2.1.1, q2.2⟩⟩
  · rintro m k s hk ⟨h0, ha, h1, h2⟩
    right
    have e27 : ∀ d, s 27 d = M 27 d := fun d => ha _ _ (by simp)
    have e29 : ∀ d, s 29 d = M 29 d := fun d => ha _ _ (by simp)
    refine ⟨cb_up (cb_up s 28 k (s 28 k ||| (nI 1 <<< (nI c &&& nI 31)))) 26 c (s 26 c ||| (M 27 k &&& M 29 (d_wnt F c))), ⟨by omega, (ha.up (by simp)).up (by simp), fun d hd => ?_, ?_⟩, ?_⟩
    · rw [cu, if_neg (by decide), cu, if_pos rfl]
      by_cases e2 : d = k
      · subst e2
        rw [if_pos rfl]
        refine (msk_or1 (h1 d hd) (by omega) (by omega)).cong (fun j _ => ?_)
        rw [decide_eq_false (show ¬ (d_frm F c ≤ d ∧ d < d) by omega), decide_eq_true (show d_frm F c ≤ d ∧ d < d + 1 from ⟨h0, by omega⟩), Bool.and_false, Bool.and_true, Bool.or_false]
      · rw [if_neg e2]
        refine (h1 d hd).cong (fun j _ => ?_)
        have : (d_frm F c ≤ d ∧ d < k) ↔ (d_frm F c ≤ d ∧ d < k + 1) := by omega
        simp only [this]
    · rw [cu, if_pos rfl, if_pos rfl]
      refine (msk_or h2 (msk_and (hK.2 k (by omega)) (hK.1 (d_wnt F c) (by omega)))).cong (fun j _ => ?_)
      rw [anyN, decide_eq_true h0, Bool.true_and]
    · have r26 : (cb_up s 28 k (s 28 k ||| (nI 1 <<< (nI c &&& nI 31)))) 26 c = s 26 c := by rw [cu, if_neg (by decide)]
      have r27 : (cb_up s 28 k (s 28 k ||| (nI 1 <<< (nI c &&& nI 31)))) 27 k = M 27 k := by rw [cu, if_neg (by decide)]; exact e27 k
      have r29 : (cb_up s 28 k (s 28 k ||| (nI 1 <<< (nI c &&& nI 31)))) 29 (d_wnt F c) = M 29 (d_wnt F c) := by rw [cu, if_neg (by decide)]; exact e29 _
      simp (disch := first | omega | trivial) only [f_X5_bringCouple_L53, li, cn_le, if_pos, if_neg, cn_in, cn_cl, cb_let_eq, cn_add, r26, r27, r29]
  · rw [h26]
    refine msk_0.cong (fun j _ => ?_)
    symm
    show anyN _ (d_frm F c) = false
    rw [anyN_false]
    intro d hd
    rw [decide_eq_false (by omega), Bool.false_and]
theorem x_couples {M : cb_Mem} {F : FD} (hF : WF F) (hM : xFd M F) (hK : xK M (psF F (d_nh F)) (prF F (d_nh F))) (h28 : ∀ d, d < 40 → M 28 d = nI 0) (h26 : ∀ c, c < 8 → M 26 c = nI 0) :
    ∃ M', f_X5_go_L28 cb_fuel (nI 0) M = some M' ∧ agr M M' (fun k _ => k = 26 ∨ k = 28) ∧ (∀ d, d < 40 → msk 8 (M' 28 d) (pcF F (d_nc F) d)) ∧ ∀ c, c < d_nc F → msk 8 (M' 26 c) (pgF F c) := by
  have hc8 : d_nc F ≤ 8 := hF.2.1
  refine cb_loop0 (fun m k (s : cb_Mem) => f_X5_go_L28 m (nI k) s) (fun k s => agr M s (fun k _ => k = 26 ∨ k = 28) ∧ (∀ d, d < 40 → msk 8 (s 28 d) (pcF F k d)) ∧ (∀ c, c < k → msk 8 (s 26 c) (pgF F c)) ∧ ∀ c, k ≤ c → c < 8 → s 26 c = nI 0) (d_nc F) _ M (by omega) ⟨agr.rf, fun d hd => by rw [h28 d hd]; exact msk_0.cong (fun j _ => by simp [pcF]), fun c q => absurd q (Nat.not_lt_zero c), fun c _ q => h26 c q⟩ ?_ ?_
  · rintro m s ⟨ha, h1, h2, h3⟩
    have e7 : s 3 7 = nI (d_nc F) := (ha _ _ (by simp)).trans hM.2.1
    refine ⟨s, ?_, ha, h1, h2⟩
    simp (disch := first | omega | trivial) only [f_X5_go_L28, e7, cn_le, if_pos]
  · rintro m k s hk ⟨ha, h1, h2, h3⟩
    right
    have hMs := hM.agr ha (by intro k j q; omega)
    have e7 : s 3 7 = nI (d_nc F) := hMs.2.1
    obtain ⟨g1, g2, g3⟩ := hMs.2.2.2.2.2 k hk
    obtain ⟨b1, b2, b3, b4⟩ := hF.2.2.2.1 k hk
    have hKs : xK s (psF F (d_nh F)) (prF F (d_nh F)) := ⟨fun t ht => by rw [ha _ _ (by simp)]; exact hK.1 t ht, fun d hd => by rw [ha _ _ (by simp)]; exact hK.2 d hd⟩
    obtain ⟨M2, f2, a2, c1, c2⟩ := x_coupleL hF hk hKs h1 (h3 k (Nat.le_refl _) (by omega))
    have hoff := v_isOff_in (j := d_wnt F k) (n := 4) (by omega) (by omega)
    refine ⟨M2, ⟨ha.trans (a2.mono (fun k j q => by omega)), fun d hd => ?_, fun c hc => ?_, fun c q1 q2 => ?_⟩, ?_⟩
    · refine (c1 d hd).cong (fun j _ => ?_)
      show (pcF F k d j || (decide (j = k) && cmB F k d)) = pcF F (k + 1) d j
      unfold pcF
      by_cases e : j = k
      · subst e; simp
      · simp [e, show (j < k + 1) = (j < k) by apply propext; omega]
    · by_cases e : c = k
      · subst e; exact c2
      · rw [a2 _ _ (by omega)]
        exact h2 c (by omega)
    · rw [a2 _ _ (by omega)]
      exact h3 c (by omega) q2
    · have hbc : f_X5_bringCouple (nI k) s = some M2 := by
        simp (disch := first | omega | trivial) only [f_X5_bringCouple, li, cn_in, cn_cl, if_pos, if_neg, g1, g2, g3, hoff, cn_eq, cn_le, cn_add, cn_min, cb_let_eq, f2, Option.bind_some]
      simp (disch := first | omega | trivial) only [f_X5_go_L28, li, e7, cn_le, if_pos, if_neg, hbc, Option.bind_some, cn_add]
