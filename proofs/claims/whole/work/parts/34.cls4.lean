/-! the class: dawn by dawn -/
theorem fsN_congr {p q : Nat → Bool} : ∀ {n : Nat}, (∀ j, j < n → p j = q j) → fsN p n = fsN q n
  | 0, _ => rfl
  | n + 1, h => by
    rw [fsN, fsN, fsN_congr (fun j hj => h j (by omega)), h n (by omega)]
theorem fsN_cut {p : Nat → Bool} {n m : Nat} (hnm : n ≤ m) (h : ∀ j, n ≤ j → j < m → p j = false) : fsN p m = fsN p n := by
  induction hnm with
  | refl => rfl
  | step hk ih =>
    rename_i m'
    have hk' : n ≤ m' := hk
    rw [fsN, ih (fun j h1 h2 => h j h1 (by omega)), h m' hk' (by omega)]
    cases fsN p n <;> simp
theorem fhN_fsN {F : FD} {S : SS} {d c : Nat} : ∀ {n : Nat}, fhN F S d c n = fsN (fun j => (S.2.1 j).isNone && (wtB F c j && onB F j d)) n
  | 0 => rfl
  | n + 1 => by
    rw [fhN, fsN, fhN_fsN]
    cases fsN (fun j => (S.2.1 j).isNone && (wtB F c j && onB F j d)) n with
    | some k => rfl
    | none =>
      dsimp only
      cases h1 : S.2.1 n <;> cases h2 : wtB F c n <;> cases h3 : onB F n d <;> simp
def xS (M : cb_Mem) (S : SS) : Prop := msk 8 (M 4 8) (fun h => (S.2.1 h).isSome) ∧ msk 8 (M 4 9) (fun c => (S.1 c).isSome) ∧ ∀ c, c < 8 → M 24 c = eP1 (S.1 c) ∧ M 25 c = eP2 (S.1 c)
def PD (k j : Nat) : Prop := k = 24 ∨ k = 25 ∨ (k = 4 ∧ (j = 8 ∨ j = 9))
theorem pg_at {F : FD} {c d j : Nat} (hj : j < d_nh F) (hd : d < 40) (hc : cmB F c d = true) (hr : onB F j d = true) : pgF F c j = wtB F c j := by
  have e : psF F (d_nh F) (d_wnt F c) j = wtB F c j := by
    unfold psF wtB
    simp [hj]
  unfold pgF
  simp only [e]
  cases hw : wtB F c j with
  | false =>
    rw [anyN_false]
    intro k _
    simp
  | true =>
    rw [anyN_iff]
    refine ⟨d, hd, ?_⟩
    simp [hc, hr, prF, hj]
theorem x_lb {F : FD} (hF : WF F) {S : SS} {c d : Nat} {x y z : Int32} (hd : d < 40) (hc : cmB F c d = true) (h1 : msk 8 x (prF F (d_nh F) d)) (h2 : msk 8 y (fun h => (S.2.1 h).isSome)) (h3 : msk 8 z (pgF F c)) :
    f_X6_leastBit ((x &&& (y ^^^ (-nI 1))) &&& z) = some (eO (fhN F S d c (d_nh F))) := by
  rw [msk_lb (msk_and (msk_andn h1 h2) h3), fhN_fsN]
  have h8 : d_nh F ≤ 8 := hF.1
  rw [fsN_cut (n := d_nh F) h8 (fun j q1 q2 => by simp [prF, show ¬ j < d_nh F by omega])]
  congr 2
  apply fsN_congr
  intro j hj
  cases hr : onB F j d with
  | false => simp [prF, hr]
  | true =>
    rw [pg_at hj hd hc hr]
    simp only [prF, hj, hr, decide_true, Bool.true_and, Bool.and_true]
    cases S.2.1 j <;> simp
theorem x_dawn {M : cb_Mem} {F : FD} {S : SS} {d : Nat} (hF : WF F) (hM : xFd M F) (h27 : ∀ d, d < 40 → msk 8 (M 27 d) (prF F (d_nh F) d)) (h28 : ∀ d, d < 40 → msk 8 (M 28 d) (pcF F (d_nc F) d)) (h26 : ∀ c, c < d_nc F → msk 8 (M 26 c) (pgF F c)) (hS : xS M S) (hd : d < 40) :
    ∃ M', f_X5_dawn_L2 cb_fuel (nI d) (nI 0) M = some M' ∧ agr M M' PD ∧ xS M' (stD F d S) := by
  have hc8 : d_nc F ≤ 8 := hF.2.1
  have hh8 : d_nh F ≤ 8 := hF.1
  refine cb_loop0 (fun m k (s : cb_Mem) => f_X5_dawn_L2 m (nI d) (nI k) s) (fun k s => agr M s PD ∧ xS s (itN (fun c S => stC F d c S) k S)) (d_nc F) _ M (by omega) ⟨agr.rf, hS⟩ ?_ ?_
  · rintro m s ⟨ha, h1⟩
    have e7 : s 3 7 = nI (d_nc F) := (ha _ _ (by simp [PD])).trans hM.2.1
    refine ⟨s, ?_, ha, h1⟩
    simp (disch := first | omega | trivial) only [f_X5_dawn_L2, e7, cn_le, if_pos]
  · rintro m k s hk ⟨ha, h1⟩
    right
    have e7 : s 3 7 = nI (d_nc F) := (ha _ _ (by simp [PD])).trans hM.2.1
    have k27 : msk 8 (s 27 d) (prF F (d_nh F) d) := by rw [ha _ _ (by simp [PD])]; exact h27 d hd
    have k28 : msk 8 (s 28 d) (pcF F (d_nc F) d) := by rw [ha _ _ (by simp [PD])]; exact h28 d hd
    have k26 : msk 8 (s 26 k) (pgF F k) := by rw [ha _ _ (by simp [PD])]; exact h26 k hk
    rw [show itN (fun c S => stC F d c S) (k + 1) S = stC F d k (itN (fun c S => stC F d c S) k S) from rfl]
    generalize itN (fun c S => stC F d c S) k S = T at h1 ⊢
    have ho := msk_one (msk_andn k28 h1.2.1) (show k < 8 by omega) (by omega)
    have hp : (pcF F (d_nc F) d k && !(T.1 k).isSome) = (cmB F k d && (T.1 k).isNone) := by
      simp only [pcF, hk, decide_true, Bool.true_and]
      cases T.1 k <;> rfl
    rw [hp] at ho
    unfold stC
    cases hcm : cmB F k d with
    | false =>
      rw [hcm] at ho
      rw [Bool.false_and] at ho
      refine ⟨s, ⟨ha, ?_⟩, ?_⟩
      · rw [if_neg (by simp)]
        exact h1
      · simp (disch := first | omega | trivial) only [f_X5_dawn_L2, li, e7, cn_le, if_pos, if_neg, cn_in, cn_cl, ho, Option.bind_some, cn_add]
    | true =>
      rw [hcm] at ho
      cases hT : T.1 k with
      | some p =>
        rw [hT] at ho
        refine ⟨s, ⟨ha, ?_⟩, ?_⟩
        · rw [if_neg (by simp)]
          exact h1
        · simp (disch := first | omega | trivial) only [f_X5_dawn_L2, li, e7, cn_le, if_pos, if_neg, cn_in, cn_cl, ho, Option.bind_some, cn_add, Option.isNone_some, Bool.and_false]
      | none =>
        rw [hT] at ho
        rw [if_pos ⟨rfl, rfl⟩]
        have ho' : ((s 28 d &&& (s 4 9 ^^^ -nI 1)) &&& nI 1 <<< (nI k &&& nI 31) = nI 0) = False := by
          rw [ho]; simp
        have hl := x_lb hF hd hcm k27 h1.1 k26
        cases hf : fhN F T d k (d_nh F) with
        | none =>
          rw [hf] at hl
          rw [show eO none = -nI 1 from rfl] at hl
          refine ⟨s, ⟨ha, h1⟩, ?_⟩
          simp (disch := first | omega | trivial) only [f_X5_dawn_L2, li, e7, cn_le, if_pos, if_neg, cn_in, cn_cl, ho', if_false, hl, Option.bind_some, cn_add]
        | some h =>
          rw [hf] at hl
          rw [show eO (some h) = nI h from rfl] at hl
          have hh := fhN_lt hf
          obtain ⟨M2, hM2⟩ : ∃ X, X = cb_up s 4 8 (s 4 8 ||| (nI 1 <<< (nI h &&& nI 31))) := ⟨_, rfl⟩
          obtain ⟨M3, hM3⟩ : ∃ X, X = cb_up M2 4 9 (M2 4 9 ||| (nI 1 <<< (nI k &&& nI 31))) := ⟨_, rfl⟩
          refine ⟨cb_up (cb_up M3 24 k (nI h)) 25 k (nI d), ⟨?_, ?_, ?_, ?_⟩, ?_⟩
          · rw [hM3, hM2]
            exact (((ha.up (by simp [PD])).up (by simp [PD])).up (by simp [PD])).up (by simp [PD])
          · rw [cu, if_neg (by decide), cu, if_neg (by decide), hM3, cu, if_pos rfl, if_neg (by decide), hM2, cu, if_pos rfl, if_pos rfl]
            refine (msk_or1 h1.1 (by omega) (by omega)).cong (fun j _ => ?_)
            unfold lfS fnU
            by_cases e : j = h
            · simp [e]
            · simp [e]
          · rw [cu, if_neg (by decide), cu, if_neg (by decide), hM3, cu, if_pos rfl, if_pos rfl, hM2, cu, if_pos rfl, if_neg (by decide)]
            refine (msk_or1 h1.2.1 (show k < 8 by omega) (by omega)).cong (fun j _ => ?_)
            unfold lfS fnU
            by_cases e : j = k
            · simp [e]
            · simp [e]
          · intro c hc
            rw [cu, if_neg (by decide), cu, if_pos rfl, cu, if_pos rfl]
            have r : (cb_up M3 24 k (nI h)) 25 c = s 25 c := by rw [cu, if_neg (by decide), hM3, cu, if_neg (by decide), hM2, cu, if_neg (by decide)]
            have r2 : M3 24 c = s 24 c := by rw [hM3, cu, if_neg (by decide), hM2, cu, if_neg (by decide)]
            rw [r, r2]
            unfold lfS fnU
            dsimp only
            by_cases e : c = k
            · rw [if_pos e, if_pos e, if_pos e]
              exact ⟨rfl, rfl⟩
            · rw [if_neg e, if_neg e, if_neg e]
              exact h1.2.2 c hc
          · simp (disch := first | omega | trivial) only [f_X5_dawn_L2, li, e7, cn_le, if_pos, if_neg, cn_in, cn_cl, ho', if_false, hl, Option.bind_some, cn_add, cn_eq1, cb_let_eq, ← hM2, ← hM3]
theorem itN_id {σ : Type} {f : Nat → σ → σ} {s : σ} : ∀ {n : Nat}, (∀ k, k < n → f k s = s) → itN f n s = s
  | 0, _ => rfl
  | n + 1, h => by rw [itN, itN_id (fun k hk => h k (by omega)), h n (by omega)]
theorem x_days {M : cb_Mem} {F : FD} (hF : WF F) (hM : xFd M F) (h27 : ∀ d, d < 40 → msk 8 (M 27 d) (prF F (d_nh F) d)) (h28 : ∀ d, d < 40 → msk 8 (M 28 d) (pcF F (d_nc F) d)) (h26 : ∀ c, c < d_nc F → msk 8 (M 26 c) (pgF F c)) (hS : xS M S0) :
    ∃ M', f_X5_go_L50 cb_fuel (nI 0) M = some M' ∧ agr M M' PD ∧ xS M' (wk F) := by
  have hc8 : d_nc F ≤ 8 := hF.2.1
  have hh8 : d_nh F ≤ 8 := hF.1
  refine cb_loop0 (fun m k (s : cb_Mem) => f_X5_go_L50 m (nI k) s) (fun k s => agr M s PD ∧ xS s (wkN F k)) 40 _ M (by omega) ⟨agr.rf, hS⟩ ?_ ?_
  · rintro m s ⟨ha, h1⟩
    refine ⟨s, ?_, ha, h1⟩
    simp (disch := first | omega | trivial) only [f_X5_go_L50, li, cn_le, if_pos]
  · rintro m k s hk ⟨ha, h1⟩
    right
    rw [show wkN F (k + 1) = stD F k (wkN F k) from rfl]
    generalize wkN F k = T at h1 ⊢
    have k27 : ∀ d, d < 40 → msk 8 (s 27 d) (prF F (d_nh F) d) := fun d hd => by rw [ha _ _ (by simp [PD])]; exact h27 d hd
    have k28 : ∀ d, d < 40 → msk 8 (s 28 d) (pcF F (d_nc F) d) := fun d hd => by rw [ha _ _ (by simp [PD])]; exact h28 d hd
    have k26 : ∀ c, c < d_nc F → msk 8 (s 26 c) (pgF F c) := fun c hc => by rw [ha _ _ (by simp [PD])]; exact h26 c hc
    have hMs := hM.agr ha (by intro k j q; simp only [PD]; omega)
    have z1 := msk_nil (msk_andn (k27 k hk) h1.1) (by omega)
    have z2 := msk_nil (msk_andn (k28 k hk) h1.2.1) (by omega)
    by_cases q1 : ∀ j, j < 8 → (prF F (d_nh F) k j && !(T.2.1 j).isSome) = false
    · refine ⟨s, ⟨ha, ?_⟩, ?_⟩
      · have : stD F k T = T := by
          unfold stD
          apply itN_id
          intro c hc
          unfold stC
          by_cases e : cmB F c k = true ∧ T.1 c = none
          · rw [if_pos e]
            have : fhN F T k c (d_nh F) = none := by
              rw [fhN_fsN, fsN_cut (n := 0) (Nat.zero_le _)]
              · rfl
              · intro j _ hj
                have := q1 j (by omega)
                simp only [prF, hj, decide_true, Bool.true_and] at this
                cases hr : onB F j k with
                | false => simp
                | true =>
                  rw [hr] at this
                  cases hz : T.2.1 j with
                  | none => rw [hz] at this; simp at this
                  | some p => simp
            rw [this]
          · rw [if_neg e]
        rw [this]
        exact h1
      · have q := z1.mpr q1
        simp (disch := first | omega | trivial) only [f_X5_go_L50, li, cn_le, if_pos, if_neg, cn_in, cn_cl, q, Option.bind_some, cn_add]
    · rw [eq_false q1] at z1
      by_cases q2 : ∀ j, j < 8 → (pcF F (d_nc F) k j && !(T.1 j).isSome) = false
      · refine ⟨s, ⟨ha, ?_⟩, ?_⟩
        · have : stD F k T = T := by
            unfold stD
            apply itN_id
            intro c hc
            unfold stC
            have := q2 c (by omega)
            simp only [pcF, hc, decide_true, Bool.true_and] at this
            rw [if_neg]
            rintro ⟨e1, e2⟩
            rw [e1, e2] at this
            simp at this
          rw [this]
          exact h1
        · have q := z2.mpr q2
          simp (disch := first | omega | trivial) only [f_X5_go_L50, li, cn_le, if_pos, if_neg, cn_in, cn_cl, z1, if_false, q, Option.bind_some, cn_add]
      · rw [eq_false q2] at z2
        obtain ⟨M2, f2, a2, s2⟩ := x_dawn hF hMs k27 k28 k26 h1 hk
        refine ⟨M2, ⟨ha.trans a2, s2⟩, ?_⟩
        simp (disch := first | omega | trivial) only [f_X5_go_L50, li, cn_le, if_pos, if_neg, cn_in, cn_cl, z1, if_false, z2, Option.bind_some, cn_add, f_X5_dawn, f2]
