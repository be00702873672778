/-! a head's state, who lifts it -/
def dqN (fr : Nat → Bool) (srt due : Nat) : Nat → Nat
  | 0 => due
  | k + 1 => if (k < dqN fr srt due k ∧ fr k = true) ∧ srt = 0 then dqN fr srt due k + 1 else dqN fr srt due k
theorem dqN_rp {fr : Nat → Bool} {srt due : Nat} : ∀ {k x : Nat}, rpN fr srt due k = some x → x = dqN fr srt due k
  | 0, x, h => by cases h; rfl
  | k + 1, x, h => by
    rw [rpN] at h
    cases e : rpN fr srt due k with
    | none => rw [e] at h; cases h
    | some y =>
      rw [e] at h
      dsimp only at h
      have ih := dqN_rp e
      rw [dqN, ← ih]
      by_cases q : k < y ∧ fr k = true
      · rw [if_pos q] at h
        by_cases s2 : srt = 2
        · rw [if_pos s2] at h; cases h
        · rw [if_neg s2] at h
          by_cases s0 : srt = 0
          · rw [if_pos s0] at h; cases h; rw [if_pos ⟨q, s0⟩]
          · rw [if_neg s0] at h; cases h; rw [if_neg (fun z => s0 z.2)]
      · rw [if_neg q] at h; cases h; rw [if_neg (fun z => q z.1)]
theorem dqN_mono {fr : Nat → Bool} {srt due k m : Nat} (h : k ≤ m) : dqN fr srt due k ≤ dqN fr srt due m := by
  induction h with
  | refl => exact Nat.le_refl _
  | step _ ih =>
    rw [dqN]
    split <;> omega
theorem dqN_stay {fr : Nat → Bool} {srt due k m : Nat} (h : k ≤ m) (hx : dqN fr srt due k ≤ k) : dqN fr srt due m = dqN fr srt due k := by
  induction h with
  | refl => rfl
  | step hk ih =>
    rename_i m'
    have hk' : k ≤ m' := hk
    rw [dqN, ih, if_neg (fun z => by omega)]
theorem dqN_late {fr : Nat → Bool} {srt due k : Nat} (hf : ∀ d, 30 ≤ d → fr d = false) (h : 30 ≤ k) : dqN fr srt due k = dqN fr srt due 30 := by
  induction h with
  | refl => rfl
  | step hk ih =>
    rename_i m'
    have hk' : 30 ≤ m' := hk
    rw [dqN, ih, hf m' hk', if_neg (fun z => by simp at z)]
theorem dqN_le {fr : Nat → Bool} {srt due : Nat} : ∀ {k : Nat}, dqN fr srt due k ≤ due + k
  | 0 => Nat.le_refl _
  | k + 1 => by
    have := dqN_le (fr := fr) (srt := srt) (due := due) (k := k)
    rw [dqN]
    split <;> omega
theorem dqN_n0 {fr : Nat → Bool} {srt due : Nat} (h : srt ≠ 0) : ∀ {k : Nat}, dqN fr srt due k = due
  | 0 => rfl
  | k + 1 => by rw [dqN, if_neg (fun z => h z.2)]; exact dqN_n0 h
theorem rpN_no {fr : Nat → Bool} {srt due : Nat} : ∀ {k : Nat}, rpN fr srt due k = none → srt = 2 ∧ ∃ j, j < k ∧ j < due ∧ fr j = true
  | 0, h => by cases h
  | k + 1, h => by
    rw [rpN] at h
    cases e : rpN fr srt due k with
    | none =>
      obtain ⟨a, j, b, c⟩ := rpN_no e
      exact ⟨a, j, by omega, c⟩
    | some y =>
      rw [e] at h
      dsimp only at h
      have ih := dqN_rp e
      by_cases q : k < y ∧ fr k = true
      · rw [if_pos q] at h
        by_cases s2 : srt = 2
        · rw [dqN_n0 (by omega)] at ih
          exact ⟨s2, k, by omega, by omega, q.2⟩
        · rw [if_neg s2] at h
          by_cases s0 : srt = 0
          · rw [if_pos s0] at h; cases h
          · rw [if_neg s0] at h; cases h
      · rw [if_neg q] at h; cases h
theorem fsN_min {p : Nat → Bool} {j : Nat} (hj : p j = true) : ∀ {n : Nat}, j < n → ∃ k, fsN p n = some k ∧ k ≤ j
  | 0, h => absurd h (Nat.not_lt_zero j)
  | n + 1, h => by
    rw [fsN]
    cases e : fsN p n with
    | some k =>
      refine ⟨k, rfl, ?_⟩
      by_cases q : k ≤ j
      · exact q
      · by_cases en : j < n
        · obtain ⟨k', a, b⟩ := fsN_min hj en
          rw [e] at a; cases a; exact b
        · have : k < n := by
            have : ∀ n, fsN p n = some k → k < n := by
              intro n
              induction n with
              | zero => intro h; cases h
              | succ n ih =>
                intro h
                rw [fsN] at h
                cases h2 : fsN p n with
                | some q => rw [h2] at h ih; cases h; have := ih rfl; omega
                | none =>
                  rw [h2] at h
                  dsimp only at h
                  split at h
                  · cases h; omega
                  · cases h
            exact this n e
          omega
    | none =>
      have : j = n := by
        by_cases en : j < n
        · have := fsN_none e j en
          rw [hj] at this; cases this
        · omega
      subst this
      dsimp only
      rw [if_pos hj]
      exact ⟨j, rfl, Nat.le_refl _⟩
theorem fsN_lt {p : Nat → Bool} {k : Nat} : ∀ {n : Nat}, fsN p n = some k → k < n ∧ p k = true
  | 0, h => by cases h
  | n + 1, h => by
    rw [fsN] at h
    cases e : fsN p n with
    | some q => rw [e] at h; cases h; have := fsN_lt e; exact ⟨by omega, this.2⟩
    | none =>
      rw [e] at h
      dsimp only at h
      split at h
      · rename_i z; cases h; exact ⟨by omega, z⟩
      · cases h
def lfB (S : SS) (d h : Nat) : Bool := match S.2.1 h with
  | none => false
  | some p => decide (p.2 ≤ d)
def gnF (F : FD) (d h : Nat) : Nat := match rp F h with
  | none => (match fsN (d_fr F) 30 with
    | none => 0
    | some f => if f ≤ d then 3 else 0)
  | some x => if d < x then 0 else if d < x + spanN (d_srt F h) then 1 else 4
def stF (F : FD) (d h : Nat) : Nat := if lfB (wk F) d h = true then 2 else if d_rab F h ≤ d then 3 else gnF F d h
theorem x_lifter {M : cb_Mem} {F : FD} (hF : WF F) (hW : xWk M F) {h : Nat} (hh : h < d_nh F) : f_X5_lifterOf (nI h) M = some (eP1 ((wk F).2.1 h)) := by
  obtain ⟨ok, -⟩ := wk_ok F
  have h8 : d_nh F ≤ 8 := hF.1
  have c8 : d_nc F ≤ 8 := hF.2.1
  have hs := hW.2.2.2.2
  suffices hL : ∃ r, f_X5_lifterOf_L2 cb_fuel (nI h) (nI 0) M = some r ∧ (match (wk F).2.1 h with | none => r = Sum.inr () | some p => r = Sum.inl (nI p.1)) by
    obtain ⟨r, h1, h2⟩ := hL
    rw [show f_X5_lifterOf (nI h) M = cb_bs (f_X5_lifterOf_L2 cb_fuel (nI h) (nI 0) M) (fun r => some r) (fun _ => some (-nI 1)) from rfl, h1]
    cases e : (wk F).2.1 h with
    | none => rw [e] at h2; dsimp only at h2; rw [h2, cb_bs_k]; rfl
    | some p => rw [e] at h2; dsimp only at h2; rw [h2, cb_bs_r]; rfl
  refine cb_loop0 (fun m k (_ : Unit) => f_X5_lifterOf_L2 m (nI h) (nI k) M) (fun k _ => ∀ c, c < k → ∀ p, (wk F).1 c = some p → p.1 ≠ h) 8 _ () (by omega) (fun c hc => absurd hc (Nat.not_lt_zero c)) ?_ ?_
  · intro m s hs'
    refine ⟨Sum.inr (), by rw [f_X5_lifterOf_L2, if_pos (by decide)], ?_⟩
    cases e : (wk F).2.1 h with
    | none => rfl
    | some p =>
      have := ok.2 h p e
      obtain ⟨b1, -⟩ := ok.1 _ _ this
      exact absurd rfl (hs' p.1 (by omega) _ this)
  · intro m k s hk hs'
    have e24 := (hs k hk).1
    cases e : (wk F).1 k with
    | none =>
      right
      refine ⟨(), fun c hc p hp => ?_, ?_⟩
      · by_cases ec : c = k
        · subst ec; rw [e] at hp; cases hp
        · exact hs' c (by omega) p hp
      · rw [e] at e24
        have e24' : M 24 k = -nI 1 := e24
        simp (disch := first | omega | trivial) only [f_X5_lifterOf_L2, li, cn_le, if_neg, cn_in, cn_cl, if_pos, e24', cn_eq2, if_false, cn_add]
    | some p =>
      obtain ⟨b1, b2, b3, b4, -⟩ := ok.1 k p e
      rw [e] at e24
      have e24' : M 24 k = nI p.1 := e24
      by_cases ep : p.1 = h
      · left
        refine ⟨Sum.inl (nI k), ?_, ?_⟩
        · rw [ep] at e24'
          simp (disch := first | omega | trivial) only [f_X5_lifterOf_L2, li, cn_le, if_neg, cn_in, cn_cl, if_pos, e24']
        · rw [ep] at b4
          rw [b4]
      · right
        refine ⟨(), fun c hc q hq => ?_, ?_⟩
        · by_cases ec : c = k
          · subst ec; rw [e] at hq; cases hq; exact ep
          · exact hs' c (by omega) q hq
        · simp (disch := first | omega | trivial) only [f_X5_lifterOf_L2, li, cn_le, if_neg, cn_in, cn_cl, if_pos, e24', cn_eq, cn_add]
theorem x_frost {M : cb_Mem} {F : FD} (hM : xFd M F) : f_X1_firstFrost M = some (nI (match fsN (d_fr F) 30 with | none => 40 | some f => f)) := by
  suffices hL : ∃ r, f_X1_firstFrost_L2 cb_fuel (nI 0) M = some r ∧ (match fsN (d_fr F) 30 with | none => r = Sum.inr () | some f => r = Sum.inl (nI f)) by
    obtain ⟨r, h1, h2⟩ := hL
    rw [show f_X1_firstFrost M = cb_bs (f_X1_firstFrost_L2 cb_fuel (nI 0) M) (fun r => some r) (fun _ => some (nI 40)) from rfl, h1]
    cases e : fsN (d_fr F) 30 with
    | none => rw [e] at h2; dsimp only at h2; rw [h2, cb_bs_k]
    | some p => rw [e] at h2; dsimp only at h2; rw [h2, cb_bs_r]
  refine cb_loop0 (fun m k (_ : Unit) => f_X1_firstFrost_L2 m (nI k) M) (fun k _ => fsN (d_fr F) k = none) 30 _ () (by omega) rfl ?_ ?_
  · intro m s hs
    exact ⟨Sum.inr (), by rw [f_X1_firstFrost_L2, if_pos (by decide)], by rw [hs]⟩
  · intro m k s hk hs
    have hb := msk_bit hM.2.2.1 hk (by omega)
    cases hf : d_fr F k with
    | false =>
      right
      rw [hf] at hb
      refine ⟨(), ?_, ?_⟩
      · show fsN (d_fr F) (k + 1) = none
        rw [fsN, hs, hf]; rfl
      · simp (disch := first | omega | trivial) only [f_X1_firstFrost_L2, li, cn_le, if_neg, hb, b2i_0, if_pos, cn_add]
    | true =>
      left
      rw [hf] at hb
      refine ⟨Sum.inl (nI k), ?_, ?_⟩
      · simp (disch := first | omega | trivial) only [f_X1_firstFrost_L2, li, cn_le, if_neg, hb, b2i_0, Bool.true_eq_false, if_false]
      · have : fsN (d_fr F) 30 = some k := fsN_some (n := k + 1) (by omega) (by rw [fsN, hs]; dsimp only; rw [if_pos hf])
        rw [this]
theorem gnF_none {F : FD} {d h : Nat} (e : rp F h = none) : gnF F d h = match fsN (d_fr F) 30 with | none => 0 | some f => if f ≤ d then 3 else 0 := by unfold gnF; rw [e]
theorem gnF_some {F : FD} {d h x : Nat} (e : rp F h = some x) : gnF F d h = if d < x then 0 else if d < x + spanN (d_srt F h) then 1 else 4 := by unfold gnF; rw [e]
theorem x_gn {M : cb_Mem} {F : FD} (hF : WF F) (hM : xFd M F) (hW : xWk M F) {d h : Nat} (hd : d < 40) (hh : h < d_nh F) : (if cb_in (nI h) 8 = true then if nI d < M 21 (nI h).toNatClampNeg then if cb_in (nI h) 8 = true then if M 22 (nI h).toNatClampNeg = -nI 1 then (f_X1_firstFrost M).bind fun x2 => if nI d < x2 then some (nI 0) else some (nI 3) else if cb_in (nI h) 8 = true then if M 22 (nI h).toNatClampNeg ≤ nI d then if cb_in (nI h) 8 = true then if M 23 (nI h).toNatClampNeg ≤ nI d then some (nI 4) else some (nI 1) else none else some (nI 0) else none else none else some (nI 3) else none) = some (nI (if d_rab F h ≤ d then 3 else gnF F d h)) := by
  have h8 : d_nh F ≤ 8 := hF.1
  have e21 := hM.2.2.2.2.1 h (by omega)
  have b21 := hF.2.2.2.2.2 h
  obtain ⟨e22, e23⟩ := hW.1 h hh
  have hin : cb_in (nI h) 8 = true := by rw [cn_in (by omega)]; omega
  rw [if_pos hin, if_pos hin, if_pos hin, if_pos hin, cn_cl (by omega), e21]
  by_cases r : d_rab F h ≤ d
  · rw [if_neg (by rw [cn_lt (by omega) (by omega)]; omega), if_pos r]
  · rw [if_pos (by rw [cn_lt (by omega) (by omega)]; omega), if_neg r]
    cases e : rp F h with
    | none =>
      rw [e] at e22
      rw [e22, if_pos (by rfl), x_frost hM, Option.bind_some, gnF_none e]
      cases ef : fsN (d_fr F) 30 with
      | none => dsimp only; rw [if_pos (by rw [cn_lt (by omega) (by omega)]; omega)]
      | some f =>
        have := fsN_lt ef
        dsimp only
        by_cases q : f ≤ d
        · rw [if_neg (by rw [cn_lt (by omega) (by omega)]; omega), if_pos q]
        · rw [if_pos (by rw [cn_lt (by omega) (by omega)]; omega), if_neg q]
    | some x =>
      have hx := rp_bound hF hh e
      have sp := spanN_le (d_srt F h)
      rw [e] at e22 e23
      have e22' : M 22 h = nI x := e22
      have e23' : M 23 h = nI (x + spanN (d_srt F h)) := e23
      rw [e22', e23', if_neg (by rw [cn_eq1 (by omega)]; exact id), gnF_some e]
      by_cases q : d < x
      · rw [if_neg (by rw [cn_le (by omega) (by omega)]; omega), if_pos q]
      · rw [if_pos (by rw [cn_le (by omega) (by omega)]; omega), if_neg q]
        by_cases q2 : d < x + spanN (d_srt F h)
        · rw [if_neg (by rw [cn_le (by omega) (by omega)]; omega), if_pos q2]
        · rw [if_pos (by rw [cn_le (by omega) (by omega)]; omega), if_neg q2]
theorem x_stateOf {M : cb_Mem} {F : FD} (hF : WF F) (hM : xFd M F) (hW : xWk M F) {d h : Nat} (hd : d < 40) (hh : h < d_nh F) : f_X5_stateOf (nI d) (nI h) M = some (nI (stF F d h)) := by
  obtain ⟨ok, -⟩ := wk_ok F
  have c8 : d_nc F ≤ 8 := hF.2.1
  have hg := x_gn hF hM hW hd hh
  rw [show f_X5_stateOf (nI d) (nI h) M = (f_X5_lifterOf (nI h) M).bind (fun x1 => if x1 = -nI 1 then (if cb_in (nI h) 8 = true then if nI d < M 21 (nI h).toNatClampNeg then if cb_in (nI h) 8 = true then if M 22 (nI h).toNatClampNeg = -nI 1 then (f_X1_firstFrost M).bind fun x2 => if nI d < x2 then some (nI 0) else some (nI 3) else if cb_in (nI h) 8 = true then if M 22 (nI h).toNatClampNeg ≤ nI d then if cb_in (nI h) 8 = true then if M 23 (nI h).toNatClampNeg ≤ nI d then some (nI 4) else some (nI 1) else none else some (nI 0) else none else none else some (nI 3) else none) else if cb_in x1 8 = true then if nI d < M 25 x1.toNatClampNeg then (if cb_in (nI h) 8 = true then if nI d < M 21 (nI h).toNatClampNeg then if cb_in (nI h) 8 = true then if M 22 (nI h).toNatClampNeg = -nI 1 then (f_X1_firstFrost M).bind fun x2 => if nI d < x2 then some (nI 0) else some (nI 3) else if cb_in (nI h) 8 = true then if M 22 (nI h).toNatClampNeg ≤ nI d then if cb_in (nI h) 8 = true then if M 23 (nI h).toNatClampNeg ≤ nI d then some (nI 4) else some (nI 1) else none else some (nI 0) else none else none else some (nI 3) else none) else some (nI 2) else none) from rfl, x_lifter hF hW hh, Option.bind_some, hg]
  unfold stF lfB
  generalize (if d_rab F h ≤ d then 3 else gnF F d h) = z
  cases e : (wk F).2.1 h with
  | none => rw [if_pos (by rfl), if_neg (by simp)]
  | some p =>
    have e1 := ok.2 h p e
    obtain ⟨b1, b2, b3, -⟩ := ok.1 _ _ e1
    have e25 := (hW.2.2.2.2 p.1 (by omega)).2
    rw [e1] at e25
    have e25' : M 25 p.1 = nI p.2 := e25
    have b3' : p.2 < 40 := b3
    dsimp only
    rw [show eP1 (some p) = nI p.1 from rfl, if_neg (by rw [cn_eq1 (by omega)]; exact id), if_pos (by rw [cn_in (by omega)]; omega), cn_cl (by omega), e25']
    by_cases q : p.2 ≤ d
    · rw [if_neg (by rw [cn_lt (by omega) (by omega)]; omega), if_pos (by simpa using q)]
    · rw [if_pos (by rw [cn_lt (by omega) (by omega)]; omega), if_neg (by simpa using q)]
