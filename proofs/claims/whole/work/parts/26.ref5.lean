/-! the reference: lifts, dawn, lives -/
theorem eP1_m {o : Option (Nat × Nat)} (h : bdP o) : (eP1 o = -nI 1) = (o = none) := by
  cases o with
  | none => exact propext ⟨fun _ => rfl, fun _ => rfl⟩
  | some p =>
    have := h p rfl
    rw [show eP1 (some p) = nI p.1 from rfl, cn_eq1 (by omega)]
    exact propext ⟨fun q => q.elim, fun q => by cases q⟩
def bdS (F : FD) (S : SS) : Prop := (∀ c, bdP (S.1 c)) ∧ (∀ h, bdP (S.2.1 h)) ∧ bdP S.2.2
def trN (F : FD) (S : SS) (d c h k : Nat) : Option (Nat × Nat) := match S.2.2 with
  | some t => some t
  | none => if anyN (otB F S d c h) k = true then some (c, d) else none
theorem trN_bd {F : FD} {S : SS} {d c h k : Nat} (hb : bdS F S) (hc : c < 8) (hd : d < 40) : bdP (trN F S d c h k) := by
  intro p hp
  unfold trN at hp
  cases hq : S.2.2 with
  | some t => rw [hq] at hp; cases hp; exact hb.2.2 _ hq
  | none =>
    rw [hq] at hp
    dsimp only at hp
    split at hp
    · cases hp; exact ⟨hc, hd⟩
    · cases hp
theorem m_liftsL {M : cb_Mem} {F : FD} {S : SS} {d c h : Nat} (hF : WF F) (hM : mFd M F) (hb : bdS F S) (hg : ∀ q, q < d_nc F → M 16 q = eP1 (S.1 q)) (ht1 : M 0 24 = eP1 S.2.2) (ht2 : M 0 25 = eP2 S.2.2) (hc : c < d_nc F) (hh : h < d_nh F) (hd : d < 40) :
    ∃ M', f_X7_lifts_L3 cb_fuel (nI c) (nI h) (nI d) (nI 0) M = some M' ∧ agr M M' (fun k j => k = 0 ∧ (j = 24 ∨ j = 25)) ∧ M' 0 24 = eP1 (trN F S d c h (d_nc F)) ∧ M' 0 25 = eP2 (trN F S d c h (d_nc F)) := by
  have hc8 : d_nc F ≤ 8 := hF.2.1
  refine cb_loop0 (fun m k (s : cb_Mem) => f_X7_lifts_L3 m (nI c) (nI h) (nI d) (nI k) s) (fun k s => agr M s (fun k j => k = 0 ∧ (j = 24 ∨ j = 25)) ∧ s 0 24 = eP1 (trN F S d c h k) ∧ s 0 25 = eP2 (trN F S d c h k)) (d_nc F) _ M (by omega) ⟨agr.rf, ?_, ?_⟩ ?_ ?_
  · rw [ht1]; unfold trN; cases S.2.2 <;> rfl
  · rw [ht2]; unfold trN; cases S.2.2 <;> rfl
  · rintro m s ⟨ha, h1, h2⟩
    have e9 : s 0 9 = nI (d_nc F) := (ha _ _ (by simp)).trans hM.2.1
    refine ⟨s, ?_, ha, h1, h2⟩
    simp (disch := first | omega | trivial) only [f_X7_lifts_L3, e9, cn_le, if_pos]
  · rintro m k s hk ⟨ha, h1, h2⟩
    right
    have hMs : mFd s F := hM.agr ha (by simp) (by simp) (by simp) (by simp)
    have e9 : s 0 9 = nI (d_nc F) := hMs.2.1
    have e16 : s 16 k = eP1 (S.1 k) := (ha _ _ (by simp)).trans (hg k hk)
    have hw := m_wants hF hMs hk hh
    have hcm := m_comes (d := d) hF hMs hk (by omega)
    have f1 := (hMs.2.2.2 k hk).2.1
    have f2 := (hMs.2.2.2 c hc).2.1
    have b1 := (hF.2.2.2.1 k hk).2.1
    have b2 := (hF.2.2.2.1 c hc).2.1
    have hbd := trN_bd (F := F) (S := S) (d := d) (c := c) (h := h) (k := k) hb (by omega) hd
    -- the value 'earlier'
    have key : ∀ x1 : Bool, x1 = (decide (trN F S d c h k = none) && otB F S d c h k) → ∃ s' : cb_Mem, (agr M s' (fun k j => k = 0 ∧ (j = 24 ∨ j = 25)) ∧ s' 0 24 = eP1 (trN F S d c h (k + 1)) ∧ s' 0 25 = eP2 (trN F S d c h (k + 1))) ∧ s' = cb_up (cb_up s 0 24 (if b2i x1 = nI 0 then s 0 24 else nI c)) 0 25 (if b2i x1 = nI 0 then s 0 25 else nI d) := by
      intro x1 hx
      refine ⟨_, ⟨(ha.up ⟨rfl, Or.inl rfl⟩).up ⟨rfl, Or.inr rfl⟩, ?_, ?_⟩, rfl⟩
      · rw [cu, if_pos rfl, if_neg (by decide), cu, if_pos rfl, if_pos rfl, h1]
        cases hq : S.2.2 with
        | some t => rw [hx]; simp [trN, hq, b2i]
        | none =>
          rw [hx]
          simp only [trN, hq, anyN]
          rcases Bool.eq_false_or_eq_true (anyN (otB F S d c h) k) with hA1 | hA1 <;> rcases Bool.eq_false_or_eq_true (otB F S d c h k) with hA2 | hA2 <;> simp [b2i, eP1, cn_eq, hA1, hA2]
      · rw [cu, if_pos rfl, if_pos rfl, h2]
        cases hq : S.2.2 with
        | some t => rw [hx]; simp [trN, hq, b2i]
        | none =>
          rw [hx]
          simp only [trN, hq, anyN]
          rcases Bool.eq_false_or_eq_true (anyN (otB F S d c h) k) with hA1 | hA1 <;> rcases Bool.eq_false_or_eq_true (otB F S d c h k) with hA2 | hA2 <;> simp [b2i, eP2, cn_eq, hA1, hA2]
    obtain ⟨s', hs', es'⟩ := key _ rfl
    refine ⟨s', hs', ?_⟩
    rw [es']
    by_cases c1 : k = c
    · have ox : otB F S d c h k = false := by simp [otB, c1]
      rw [ox, Bool.and_false]
      simp (disch := first | omega | trivial) only [f_X7_lifts_L3, li, e9, cn_le, cn_eq, if_pos, if_neg, Option.bind_some, cb_let_eq, cn_add, b2i_0, cu, c1]
    · by_cases c2 : trN F S d c h k = none
      · rw [c2] at h1 h2
        rw [show eP1 none = -nI 1 from rfl] at h1
        rw [c2, decide_eq_true rfl, Bool.true_and]
        cases hw1 : wtB F k h with
        | false =>
          rw [hw1] at hw
          have ox : otB F S d c h k = false := by simp [otB, hw1]
          rw [ox]
          simp (disch := first | omega | trivial) only [f_X7_lifts_L3, li, e9, cn_le, cn_eq, if_pos, if_neg, Option.bind_some, cb_let_eq, cn_add, b2i_0, cu, hw, h1]
        | true =>
          rw [hw1] at hw
          cases hc1 : cmB F k d with
          | false =>
            rw [hc1] at hcm
            have ox : otB F S d c h k = false := by simp [otB, hc1]
            rw [ox]
            simp (disch := first | omega | trivial) only [f_X7_lifts_L3, li, e9, cn_le, cn_eq, if_pos, if_neg, Option.bind_some, cb_let_eq, cn_add, b2i_0, cu, hw, hcm, h1, Bool.true_eq_false]
          | true =>
            rw [hc1] at hcm
            cases hS : S.1 k with
            | some pp =>
              have ox : otB F S d c h k = false := by simp [otB, hS]
              rw [ox]
              have e16' : (s 16 k = -nI 1) = False := by rw [e16, eP1_m (hb.1 k), hS]; simp
              simp (disch := first | omega | trivial) only [f_X7_lifts_L3, li, e9, cn_le, cn_eq, if_pos, if_neg, Option.bind_some, cb_let_eq, cn_add, b2i_0, cu, hw, hcm, h1, Bool.true_eq_false, cn_in, cn_cl, e16', if_false]
            | none =>
              rw [hS] at e16
              rw [show eP1 none = -nI 1 from rfl] at e16
              by_cases c3 : d_frm F k < d_frm F c
              · have ox : otB F S d c h k = true := by simp [otB, c1, hw1, hc1, hS, c3]
                rw [ox]
                simp (disch := first | omega | trivial) only [f_X7_lifts_L3, li, e9, cn_le, cn_eq, if_pos, if_neg, Option.bind_some, cb_let_eq, cn_add, cn_mul, b2i_0, cu, hw, hcm, h1, Bool.true_eq_false, cn_in, cn_cl, e16, f1, f2]
              · have ox : otB F S d c h k = false := by simp [otB, c3]
                rw [ox]
                simp (disch := first | omega | trivial) only [f_X7_lifts_L3, li, e9, cn_le, cn_eq, if_pos, if_neg, Option.bind_some, cb_let_eq, cn_add, cn_mul, b2i_0, cu, hw, hcm, h1, Bool.true_eq_false, cn_in, cn_cl, e16, f1, f2]
      · have e24 : (s 0 24 = -nI 1) = False := by rw [h1, eP1_m hbd]; exact eq_false c2
        rw [decide_eq_false c2, Bool.false_and]
        simp (disch := first | omega | trivial) only [f_X7_lifts_L3, li, e9, cn_le, cn_eq, if_pos, if_neg, Option.bind_some, cb_let_eq, cn_add, b2i_0, cu, e24, if_false]
theorem m_lifts {M : cb_Mem} {F : FD} {S : SS} {w0 w1 : List Nat} {ch : Option Nat} {rs : List (Nat × Nat)} {gm d c h : Nat} (hA : mAll M F w0 w1 ch rs gm) (hb : bdS F S) (hS : mS M F w1 S) (hc : c < d_nc F) (hh : h < d_nh F) (hd : d < 40) :
    ∃ M', f_X7_lifts (nI c) (nI h) (nI d) M = some M' ∧ agr M M' (fun k j => PL k j ∧ k ≠ 12 ∧ k ≠ 13) ∧ mS M' F w1 (lfS F S d c h) := by
  have hF := hA.1
  have hc8 : d_nc F ≤ 8 := hF.2.1
  have hh8 : d_nh F ≤ 8 := hF.1
  obtain ⟨M1, f1, a1, t1, t2⟩ := m_liftsL (d := d) (c := c) (h := h) hF hA.2.1 hb (fun q hq => (hS.1 q hq).1) hS.2.2.1 hS.2.2.2 hc hh hd
  have a1' : agr M M1 (fun k j => PL k j ∧ k ≠ 12 ∧ k ≠ 13) := a1.mono (fun k j q => ⟨Or.inr q, by omega, by omega⟩)
  have a5 : agr M (cb_up (cb_up (cb_up (cb_up M1 14 h (nI c)) 15 h (nI d)) 16 c (nI h)) 17 c (nI d)) (fun k j => PL k j ∧ k ≠ 12 ∧ k ≠ 13) := (((a1'.up (by simp [PL])).up (by simp [PL])).up (by simp [PL])).up (by simp [PL])
  have hA5 : mW (cb_up (cb_up (cb_up (cb_up M1 14 h (nI c)) 15 h (nI d)) 16 c (nI h)) 17 c (nI d)) w0 w1 ch := hA.2.2.1.agr a5 (by simp [PL]) (by simp [PL]) (by simp [PL])
  have so := m_isSo1 (d := d) hA5 (by omega)
  have hif : (if b2i (mB w1 d) = nI 0 then nI 1 else nI 2) = bth w1 (some (h, d)) := by
    simp only [bth]
    cases mB w1 d <;> simp [b2i, cn_eq]
  refine ⟨cb_up (cb_up (cb_up (cb_up (cb_up M1 14 h (nI c)) 15 h (nI d)) 16 c (nI h)) 17 c (nI d)) 18 c (bth w1 (some (h, d))), ?_, a5.up (by simp [PL]), ?_⟩
  · simp (disch := first | omega | trivial) only [f_X7_lifts, li, f1, Option.bind_some, cn_in, cn_cl, if_pos, cb_let_eq, so, hif]
  · have r14 : ∀ j, M1 14 j = M 14 j := fun j => a1 _ _ (by simp)
    have r15 : ∀ j, M1 15 j = M 15 j := fun j => a1 _ _ (by simp)
    have r16 : ∀ j, M1 16 j = M 16 j := fun j => a1 _ _ (by simp)
    have r17 : ∀ j, M1 17 j = M 17 j := fun j => a1 _ _ (by simp)
    have r18 : ∀ j, M1 18 j = M 18 j := fun j => a1 _ _ (by simp)
    refine ⟨fun q hq => ?_, fun q hq => ?_, ?_, ?_⟩
    · obtain ⟨s1, s2, s3⟩ := hS.1 q hq
      simp only [cu, lfS, fnU, r16, r17, r18]
      by_cases e : q = c
      · subst e; simp [eP1, eP2]
      · simp [e, s1, s2, s3]
    · obtain ⟨s1, s2⟩ := hS.2.1 q hq
      simp only [cu, lfS, fnU, r14, r15]
      by_cases e : q = h
      · subst e; simp [eP1, eP2]
      · simp [e, s1, s2]
    · simp only [cu]
      simp
      rw [t1]
      rfl
    · simp only [cu]
      simp
      rw [t2]
      rfl
theorem fhN_some {F : FD} {S : SS} {d c k : Nat} : ∀ {n m : Nat}, n ≤ m → fhN F S d c n = some k → fhN F S d c m = some k := by
  intro n m h
  induction h with
  | refl => exact id
  | step _ ih => intro h2; rw [fhN, ih h2]
theorem fhN_lt {F : FD} {S : SS} {d c k : Nat} : ∀ {n : Nat}, fhN F S d c n = some k → k < n
  | 0, h => by cases h
  | n + 1, h => by
    rw [fhN] at h
    cases h2 : fhN F S d c n with
    | some y =>
      rw [h2] at h
      cases h
      have := fhN_lt h2
      omega
    | none =>
      rw [h2] at h
      dsimp only at h
      split at h
      · cases h; omega
      · cases h
theorem lfS_bd {F : FD} {S : SS} {d c h : Nat} (hb : bdS F S) (hc : c < 8) (hh : h < 8) (hd : d < 40) : bdS F (lfS F S d c h) := by
  refine ⟨fun q p hp => ?_, fun q p hp => ?_, ?_⟩
  · simp only [lfS, fnU] at hp
    split at hp
    · cases hp; exact ⟨hh, hd⟩
    · exact hb.1 q p hp
  · simp only [lfS, fnU] at hp
    split at hp
    · cases hp; exact ⟨hc, hd⟩
    · exact hb.2.1 q p hp
  · have := trN_bd (F := F) (S := S) (d := d) (c := c) (h := h) (k := d_nc F) hb hc hd
    exact this
def PW (k j : Nat) : Prop := PL k j ∧ k ≠ 12 ∧ k ≠ 13
theorem mD.agr {M M' : cb_Mem} {F : FD} (h : mD M F) (ha : agr M M' PW) : mD M' F := fun k hk => by
  rw [ha _ _ (by simp [PW]), ha _ _ (by simp [PW])]
  exact h k hk
theorem m_dawn {M : cb_Mem} {F : FD} {S : SS} {w0 w1 : List Nat} {ch : Option Nat} {rs : List (Nat × Nat)} {gm d c : Nat} (hA : mAll M F w0 w1 ch rs gm) (hD : mD M F) (hb : bdS F S) (hS : mS M F w1 S) (hc : c < d_nc F) (hd : d < 40) :
    ∃ M', f_X7_dawn (nI c) (nI d) M = some M' ∧ agr M M' PW ∧ mS M' F w1 (if S.1 c = none then (match fhN F S d c (d_nh F) with | none => S | some h => lfS F S d c h) else S) := by
  have hF := hA.1
  have hc8 : d_nc F ≤ 8 := hF.2.1
  have hh8 : d_nh F ≤ 8 := hF.1
  suffices h : ∃ M', f_X7_dawn_L2 cb_fuel (nI c) (nI d) (nI 0) M = some M' ∧ agr M M' PW ∧ mS M' F w1 (if S.1 c = none then (match fhN F S d c (d_nh F) with | none => S | some h => lfS F S d c h) else S) by
    obtain ⟨M', f, r⟩ := h
    exact ⟨M', by simp only [f_X7_dawn, li, f, Option.bind_some], r⟩
  have gS : ∀ T : SS, bdS F T → ∀ s : cb_Mem, mS s F w1 T → (s 16 c = -nI 1) = (T.1 c = none) := fun T hT s hs => by rw [(hs.1 c hc).1, eP1_m (hT.1 c)]
  refine cb_loop0 (fun m k (s : cb_Mem) => f_X7_dawn_L2 m (nI c) (nI d) (nI k) s) (fun k s => agr M s PW ∧ ((mS s F w1 S ∧ (S.1 c = none → fhN F S d c k = none)) ∨ ∃ h, S.1 c = none ∧ fhN F S d c k = some h ∧ mS s F w1 (lfS F S d c h))) (d_nh F) _ M (by omega) ⟨agr.rf, Or.inl ⟨hS, fun _ => rfl⟩⟩ ?_ ?_
  · rintro m s ⟨ha, h1⟩
    have e7 : s 0 7 = nI (d_nh F) := (ha _ _ (by simp [PW, PL])).trans hA.2.1.1
    refine ⟨s, ?_, ha, ?_⟩
    · simp (disch := first | omega | trivial) only [f_X7_dawn_L2, e7, cn_le, if_pos]
    · rcases h1 with ⟨h1, h2⟩ | ⟨h, h1, h2, h3⟩
      · by_cases e : S.1 c = none
        · rw [if_pos e, h2 e]; exact h1
        · rw [if_neg e]; exact h1
      · rw [if_pos h1, h2]; exact h3
  · rintro m k s hk ⟨ha, h1⟩
    have haL : agr M s PL := ha.mono (fun _ _ q => q.1)
    have hAs := hA.agr haL
    have e7 : s 0 7 = nI (d_nh F) := hAs.2.1.1
    rcases h1 with ⟨h1, h2⟩ | ⟨h, h1, h2, h3⟩
    · by_cases e : S.1 c = none
      · have e16 : s 16 c = -nI 1 := by rw [gS S hb s h1]; exact e
        have e14 := (h1.2.1 k hk).1
        have b14 := eP1_m (hb.2.1 k)
        have hw := m_wants hF hAs.2.1 hc hk
        have hon := m_isRipe (d := d) hF hAs.2.1 (hD.agr ha) hk hd
        right
        cases ht : S.2.1 k with
        | some pp =>
          have e14' : (s 14 k = -nI 1) = False := by rw [e14, b14, ht]; simp
          refine ⟨s, ⟨ha, Or.inl ⟨h1, fun e => ?_⟩⟩, ?_⟩
          · rw [fhN, h2 e]
            dsimp only
            rw [if_neg (by rw [ht]; simp)]
          · simp (disch := first | omega | trivial) only [f_X7_dawn_L2, li, e7, cn_le, if_pos, if_neg, cn_in, cn_cl, e16, e14', if_false, Option.bind_some, cn_add]
        | none =>
          have e14' : s 14 k = -nI 1 := by rw [e14, ht]; rfl
          cases hw1 : wtB F c k with
          | false =>
            rw [hw1] at hw
            refine ⟨s, ⟨ha, Or.inl ⟨h1, fun e => ?_⟩⟩, ?_⟩
            · rw [fhN, h2 e]
              dsimp only
              rw [if_neg (by rw [hw1]; simp)]
            · simp (disch := first | omega | trivial) only [f_X7_dawn_L2, li, e7, cn_le, if_pos, if_neg, cn_in, cn_cl, e16, e14', Option.bind_some, cn_add, hw, b2i_0]
          | true =>
            rw [hw1] at hw
            cases ho1 : onB F k d with
            | false =>
              rw [ho1] at hon
              refine ⟨s, ⟨ha, Or.inl ⟨h1, fun e => ?_⟩⟩, ?_⟩
              · rw [fhN, h2 e]
                dsimp only
                rw [if_neg (by rw [ho1]; simp)]
              · simp (disch := first | omega | trivial) only [f_X7_dawn_L2, li, e7, cn_le, if_pos, if_neg, cn_in, cn_cl, e16, e14', Option.bind_some, cn_add, hw, hon, b2i_0, Bool.true_eq_false]
            | true =>
              rw [ho1] at hon
              obtain ⟨M2, f2, a2, s2⟩ := m_lifts (d := d) hAs hb h1 hc hk hd
              refine ⟨M2, ⟨ha.trans a2, Or.inr ⟨k, e, ?_, s2⟩⟩, ?_⟩
              · rw [fhN, h2 e]
                dsimp only
                rw [if_pos ⟨ht, hw1, ho1⟩]
              · simp (disch := first | omega | trivial) only [f_X7_dawn_L2, li, e7, cn_le, if_pos, if_neg, cn_in, cn_cl, e16, e14', Option.bind_some, cn_add, hw, hon, b2i_0, Bool.true_eq_false, f2]
      · have e16 : (s 16 c = -nI 1) = False := by rw [gS S hb s h1]; exact eq_false e
        left
        refine ⟨s, ?_, ha, ?_⟩
        · simp (disch := first | omega | trivial) only [f_X7_dawn_L2, li, e7, cn_le, if_pos, if_neg, cn_in, cn_cl, e16, if_false]
        · rw [if_neg e]; exact h1
    · left
      have hb2 := lfS_bd (h := h) (d := d) (c := c) hb (by omega) (by have := fhN_lt h2; omega) hd
      have e16 : (s 16 c = -nI 1) = False := by rw [gS _ hb2 s h3]; simp [lfS, fnU]
      refine ⟨s, ?_, ha, ?_⟩
      · simp (disch := first | omega | trivial) only [f_X7_dawn_L2, li, e7, cn_le, if_pos, if_neg, cn_in, cn_cl, e16, if_false]
      · rw [if_pos h1, fhN_some (by omega) h2]; exact h3
