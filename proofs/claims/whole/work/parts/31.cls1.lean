/-! the class: a field, what ripens when -/
def xFd (M : cb_Mem) (F : FD) : Prop := M 3 6 = nI (d_nh F) ∧ M 3 7 = nI (d_nc F) ∧ msk 30 (M 3 8) (d_fr F) ∧ (∀ h, h < d_nh F → M 16 h = nI (d_srt F h) ∧ M 17 h = nI (d_due F h)) ∧ (∀ h, h < 8 → M 21 h = nI (d_rab F h)) ∧ ∀ c, c < d_nc F → M 18 c = nI (d_wnt F c) ∧ M 19 c = nI (d_frm F c) ∧ M 20 c = nI (d_sty F c)
def PG (k j : Nat) : Prop := (22 ≤ k ∧ k ≤ 29) ∨ (k = 4 ∧ (j = 8 ∨ j = 9))
theorem xFd.agr {M M' : cb_Mem} {F : FD} (h : xFd M F) {P : Nat → Nat → Prop} (ha : agr M M' P) (hp : ∀ k j, (k = 3 ∨ (16 ≤ k ∧ k ≤ 21)) → ¬ P k j) : xFd M' F := by
  obtain ⟨a1, a2, a3, a4, a5, a6⟩ := h
  have e : ∀ k j, (k = 3 ∨ (16 ≤ k ∧ k ≤ 21)) → M' k j = M k j := fun k j q => ha k j (hp k j q)
  refine ⟨by rw [e _ _ (by omega)]; exact a1, by rw [e _ _ (by omega)]; exact a2, by rw [e _ _ (by omega)]; exact a3, fun k hk => by rw [e _ _ (by omega), e _ _ (by omega)]; exact a4 k hk, fun k hk => by rw [e _ _ (by omega)]; exact a5 k hk, fun c hc => by rw [e _ _ (by omega), e _ _ (by omega), e _ _ (by omega)]; exact a6 c hc⟩
theorem rpN_quiet {fr : Nat → Bool} {srt due x k m : Nat} (hk : k ≤ m) (h : rpN fr srt due k = some x) (hq : ∀ j, k ≤ j → j < m → fr j = false) : rpN fr srt due m = some x := by
  induction hk with
  | refl => exact h
  | step hk ih =>
    rename_i m'
    have h9 : k ≤ m' := hk
    rw [rpN, ih (fun j h1 h2 => hq j h1 (by omega))]
    dsimp only
    rw [hq m' h9 (by omega), if_neg (by simp)]
theorem x_firstRipe {M : cb_Mem} {F : FD} (hF : WF F) (hM : xFd M F) {h : Nat} (hh : h < d_nh F) : f_X1_firstRipe (nI h) M = some (eO (rp F h)) := by
  obtain ⟨w1, w2, w3, w4, w5, w6⟩ := hF
  obtain ⟨g1, g2⟩ := hM.2.2.2.1 h hh
  obtain ⟨b1, b2⟩ := w3 h hh
  have hm := hM.2.2.1
  suffices hs : ∃ r, f_X1_firstRipe_L9 cb_fuel (nI h) (nI (d_due F h)) (nI 0) M = some r ∧ (match rp F h with | none => r = .inl (-nI 1) | some x => r = .inr (nI x)) by
    obtain ⟨r, h1, h2⟩ := hs
    simp (disch := first | omega | trivial) only [f_X1_firstRipe, li, cn_in, cn_cl, if_pos, cb_let_eq, g2, h1]
    cases hr : rp F h with
    | none => rw [hr] at h2; dsimp only at h2; rw [h2, cb_bs_r]; rfl
    | some k => rw [hr] at h2; dsimp only at h2; rw [h2, cb_bs_k]; rfl
  have fin : ∀ x, rpN (d_fr F) (d_srt F h) (d_due F h) 30 = some x → (match rp F h with | none => (Sum.inr (nI x) : Int32 ⊕ Int32) = Sum.inl (-nI 1) | some y => (Sum.inr (nI x) : Int32 ⊕ Int32) = Sum.inr (nI y)) := by
    intro x hx
    unfold rp
    rw [hx]
  refine cb_loop0 (fun m k (x : Nat) => f_X1_firstRipe_L9 m (nI h) (nI x) (nI k) M) (fun k x => rpN (d_fr F) (d_srt F h) (d_due F h) k = some x) 30 _ (d_due F h) (by omega) rfl ?_ ?_
  · intro m x hx
    refine ⟨.inr (nI x), ?_, fin x hx⟩
    simp (disch := first | omega | trivial) only [f_X1_firstRipe_L9, li, cn_le, if_pos]
  · intro m k x hk hx
    have hbd := rpN_bound w5 hx
    by_cases e1 : x ≤ k
    · left
      refine ⟨.inr (nI x), ?_, fin x (rpN_end w5 hx e1)⟩
      simp (disch := first | omega | trivial) only [f_X1_firstRipe_L9, li, cn_le, if_pos, if_neg]
    · have hnone := msk_none hm hk (by omega)
      by_cases e2 : ∀ j, j < 30 → k ≤ j → d_fr F j = false
      · left
        refine ⟨.inr (nI x), ?_, fin x (rpN_quiet (by omega) hx (fun j h1 h2 => e2 j h2 h1))⟩
        rw [eq_true e2] at hnone
        have hz : M 3 8 >>> (nI k &&& nI 31) = nI 0 := of_eq_true hnone
        simp (disch := first | omega | trivial) only [f_X1_firstRipe_L9, li, cn_le, if_pos, if_neg, hz]
      · rw [eq_false e2] at hnone
        have hb := msk_bit hm hk (by omega)
        cases hf : d_fr F k with
        | false =>
          rw [hf] at hb
          right
          refine ⟨x, ?_, ?_⟩
          · show rpN _ _ _ (k + 1) = some x
            rw [rpN, hx]
            dsimp only
            rw [hf, if_neg (by simp)]
          · simp (disch := first | omega | trivial) only [f_X1_firstRipe_L9, li, cn_le, if_pos, if_neg, hnone, if_false, hb, b2i_0, cb_let_eq, cn_add]
        | true =>
          rw [hf] at hb
          rcases (show d_srt F h = 2 ∨ d_srt F h = 0 ∨ d_srt F h = 1 by omega) with e | e | e
          · left
            refine ⟨.inl (-nI 1), ?_, ?_⟩
            · rw [e] at g1
              simp (disch := first | omega | trivial) only [f_X1_firstRipe_L9, li, cn_le, if_pos, if_neg, hnone, if_false, hb, b2i_0, cb_let_eq, cn_add, Bool.true_eq_false, cn_in, cn_cl, g1, cn_eq]
            · have : rp F h = none := rpN_none (n := k + 1) (by omega) (by rw [rpN, hx]; dsimp only; rw [hf, if_pos ⟨by omega, rfl⟩, if_pos e])
              rw [this]
          · right
            refine ⟨x + 1, ?_, ?_⟩
            · show rpN _ _ _ (k + 1) = some (x + 1)
              rw [rpN, hx]
              dsimp only
              rw [hf, if_pos ⟨by omega, rfl⟩, if_neg (by omega), if_pos e]
            · rw [e] at g1
              simp (disch := first | omega | trivial) only [f_X1_firstRipe_L9, li, cn_le, if_pos, if_neg, hnone, if_false, hb, b2i_0, cb_let_eq, cn_add, Bool.true_eq_false, cn_in, cn_cl, g1, cn_eq]
          · right
            refine ⟨x, ?_, ?_⟩
            · show rpN _ _ _ (k + 1) = some x
              rw [rpN, hx]
              dsimp only
              rw [hf, if_pos ⟨by omega, rfl⟩, if_neg (by omega), if_neg (by omega)]
            · rw [e] at g1
              simp (disch := first | omega | trivial) only [f_X1_firstRipe_L9, li, cn_le, if_pos, if_neg, hnone, if_false, hb, b2i_0, cb_let_eq, cn_add, Bool.true_eq_false, cn_in, cn_cl, g1, cn_eq]
/-- the masks of the days and sorts -/
def xK (M : cb_Mem) (ps pr : Nat → Nat → Bool) : Prop := (∀ s, s < 4 → msk 8 (M 29 s) (ps s)) ∧ ∀ d, d < 40 → msk 8 (M 27 d) (pr d)
theorem cn_min {a b : Nat} (ha : a < 2147483648) (hb : b < 2147483648) : cb_min (nI a) (nI b) = nI (min a b) := by
  unfold cb_min
  by_cases h : b < a
  · rw [if_pos (by rw [cn_lt hb ha]; exact h), Nat.min_eq_right (by omega)]
  · rw [if_neg (by rw [cn_lt hb ha]; exact h), Nat.min_eq_left (by omega)]
theorem x_headL {M : cb_Mem} {h x en : Nat} {pr : Nat → Nat → Bool} (hh : h < 8) (hx : x < 100) (he : en < 100) (hr : ∀ d, d < 40 → msk 8 (M 27 d) (pr d)) : ∃ M', f_X5_bringHead_L105 cb_fuel (nI h) (nI en) (nI x) M = some M' ∧ agr M M' (fun k _ => k = 27) ∧ ∀ d, d < 40 → msk 8 (M' 27 d) (fun j => pr d j || (decide (j = h) && decide (x ≤ d ∧ d < en))) := by
  refine cb_loop (fun m k (s : cb_Mem) => f_X5_bringHead_L105 m (nI h) (nI en) (nI k) s) (fun k s => x ≤ k ∧ agr M s (fun k _ => k = 27) ∧ ∀ d, d < 40 → msk 8 (s 27 d) (fun j => pr d j || (decide (j = h) && decide (x ≤ d ∧ d < k)))) (max x (min en 40)) _ ?_ ?_ cb_fuel x M (by unfold cb_fuel; omega) (by omega) ⟨Nat.le_refl _, agr.rf, fun d hd => (hr d hd).cong (fun j _ => by rw [decide_eq_false (show ¬ (x ≤ d ∧ d < x) by omega), Bool.and_false, Bool.or_false])⟩
  · rintro m s ⟨-, ha, h1⟩
    refine ⟨s, ?_, ha, fun d hd => (h1 d hd).cong (fun j _ => ?_)⟩
    · by_cases e : en ≤ max x (min en 40)
      · simp (disch := first | omega | trivial) only [f_X5_bringHead_L105, li, cn_le, if_pos]
      · simp (disch := first | omega | trivial) only [f_X5_bringHead_L105, li, cn_le, if_pos, if_neg]
    · have : (x ≤ d ∧ d < max x (min en 40)) ↔ (x ≤ d ∧ d < en) := by omega
      simp only [this]
  · rintro m k s hk ⟨e, ha, h1⟩
    · right
      refine ⟨cb_up s 27 k (s 27 k ||| (nI 1 <<< (nI h &&& nI 31))), ⟨by omega, ha.up rfl, fun d hd => ?_⟩, ?_⟩
      · rw [cu, if_pos rfl]
        by_cases e2 : d = k
        · subst e2
          rw [if_pos rfl]
          refine (msk_or1 (h1 d hd) hh (by omega)).cong (fun j _ => ?_)
          rw [decide_eq_false (show ¬ (x ≤ d ∧ d < d) by omega), decide_eq_true (show x ≤ d ∧ d < d + 1 from ⟨e, by omega⟩), Bool.and_false, Bool.and_true, Bool.or_false]
        · rw [if_neg e2]
          refine (h1 d hd).cong (fun j _ => ?_)
          have : (x ≤ d ∧ d < k) ↔ (x ≤ d ∧ d < k + 1) := by omega
          simp only [this]
      · simp (disch := first | omega | trivial) only [f_X5_bringHead_L105, li, cn_le, if_pos, if_neg, cn_in, cn_cl, cb_let_eq, cn_add]
