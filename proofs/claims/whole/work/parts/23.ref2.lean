/-! the reference: what ripens when -/
def fsN (p : Nat → Bool) : Nat → Option Nat
  | 0 => none
  | n + 1 => match fsN p n with
    | some k => some k
    | none => if p n = true then some n else none
theorem fsN_some {p : Nat → Bool} {k : Nat} : ∀ {n m : Nat}, n ≤ m → fsN p n = some k → fsN p m = some k := by
  intro n m h
  induction h with
  | refl => exact id
  | step _ ih =>
    intro h2
    rw [fsN, ih h2]
theorem rpN_none {fr : Nat → Bool} {srt due : Nat} {n m : Nat} (h : n ≤ m) (h2 : rpN fr srt due n = none) : rpN fr srt due m = none := by
  induction h with
  | refl => exact h2
  | step _ ih => rw [rpN, ih]
theorem rpN_stay {fr : Nat → Bool} {srt due x : Nat} {n m : Nat} (h : n ≤ m) (h2 : rpN fr srt due n = some x) (hx : x ≤ n) : rpN fr srt due m = some x := by
  induction h with
  | refl => exact h2
  | step h ih =>
    rename_i m'
    rw [rpN, ih]
    have h9 : n ≤ m' := h
    dsimp only
    rw [if_neg (by omega)]
theorem rpN_late {fr : Nat → Bool} {srt due : Nat} (hf : ∀ d, 30 ≤ d → fr d = false) {m : Nat} (h : 30 ≤ m) : rpN fr srt due m = rpN fr srt due 30 := by
  induction h with
  | refl => rfl
  | step h ih =>
    rename_i m'
    have h9 : 30 ≤ m' := h
    rw [rpN, ih]
    cases rpN fr srt due 30 with
    | none => rfl
    | some x =>
      dsimp only
      rw [hf m' h9, if_neg (by simp)]
theorem rpN_end {fr : Nat → Bool} {srt due x k : Nat} (hf : ∀ d, 30 ≤ d → fr d = false) (h : rpN fr srt due k = some x) (hx : x ≤ k) : rpN fr srt due 30 = some x := by
  by_cases e : k ≤ 30
  · exact rpN_stay e h hx
  · rw [← rpN_late hf (show 30 ≤ k by omega)]
    exact h
theorem rpN_bound {fr : Nat → Bool} {srt due : Nat} (hf : ∀ d, 30 ≤ d → fr d = false) : ∀ {k x : Nat}, rpN fr srt due k = some x → x ≤ due + 30 ∧ x ≤ due + k
  | 0, x, h => by
    rw [rpN] at h
    cases h
    omega
  | k + 1, x, h => by
    rw [rpN] at h
    cases h2 : rpN fr srt due k with
    | none => rw [h2] at h; cases h
    | some y =>
      have ih := rpN_bound hf h2
      rw [h2] at h
      dsimp only at h
      by_cases c : k < y ∧ fr k = true
      · have hk : k < 30 := by
          rcases Nat.lt_or_ge k 30 with q | q
          · exact q
          · have := hf k q
            rw [this] at c
            cases c.2
        rw [if_pos c] at h
        by_cases e1 : srt = 2
        · rw [if_pos e1] at h; cases h
        · rw [if_neg e1] at h
          by_cases e2 : srt = 0
          · rw [if_pos e2] at h; cases h; omega
          · rw [if_neg e2] at h; cases h; omega
      · rw [if_neg c] at h
        cases h
        omega
def agr (M M' : cb_Mem) (P : Nat → Nat → Prop) : Prop := ∀ k j, ¬ P k j → M' k j = M k j
theorem agr.rf {M : cb_Mem} {P : Nat → Nat → Prop} : agr M M P := fun _ _ _ => rfl
theorem agr.up {M M' : cb_Mem} {P : Nat → Nat → Prop} (h : agr M M' P) {q j : Nat} {v : Int32} (hp : P q j) : agr M (cb_up M' q j v) P := fun k i hn => by
  rw [cu]
  by_cases e : k = q
  · subst e
    rw [if_pos rfl]
    by_cases e2 : i = j
    · subst e2; exact absurd hp hn
    · rw [if_neg e2]; exact h k i hn
  · rw [if_neg e]; exact h k i hn
theorem agr.trans {M M' M2 : cb_Mem} {P : Nat → Nat → Prop} (h : agr M M' P) (h2 : agr M' M2 P) : agr M M2 P := fun k j hn => (h2 k j hn).trans (h k j hn)
theorem agr.mono {M M' : cb_Mem} {P Q : Nat → Nat → Prop} (h : agr M M' P) (hpq : ∀ k j, P k j → Q k j) : agr M M' Q := fun k j hn => h k j (fun z => hn (hpq k j z))
theorem frO_late {w0 : List Nat} {ch : Option Nat} (hw : ∀ j, j < w0.length → w0.getD j 0 < 30) : ∀ d, 30 ≤ d → frO w0 ch d = false := by
  intro d hd
  cases ch with
  | none =>
    show mB w0 d = false
    unfold mB
    rw [anyN_false]
    intro k hk
    have := hw k hk
    exact beq_false_of_ne (by omega)
  | some c =>
    show (decide (d < 10) && c.testBit d) = false
    rw [decide_eq_false (by omega)]
    rfl
theorem mW.agr {M M' : cb_Mem} {w0 w1 : List Nat} {ch : Option Nat} (h : mW M w0 w1 ch) {P : Nat → Nat → Prop} (ha : agr M M' P) (h9 : ∀ j, ¬ P 9 j) (h10 : ∀ j, ¬ P 10 j) (h0 : ¬ P 0 16) : mW M' w0 w1 ch := by
  obtain ⟨a1, a2, a3, a4, a5, a6, a7, a8⟩ := h
  exact ⟨by rw [ha _ _ (h9 _)]; exact a1, a2, fun j hj => by rw [ha _ _ (h10 _)]; exact a3 j hj, by rw [ha _ _ (h9 _)]; exact a4, a5, fun j hj => by rw [ha _ _ (h10 _)]; exact a6 j hj, by rw [ha _ _ h0]; exact a7, a8⟩
theorem m_rip1 {M : cb_Mem} {w0 w1 : List Nat} {ch : Option Nat} {h srt due : Nat} (hW : mW M w0 w1 ch) (hh : h < 8) (hs : M 7 (2 * h) = nI srt) (hs2 : srt ≤ 2) (hx : M 12 h = nI due) (hl : M 13 h = -nI 1) (hdue : due < 30) :
    ∃ M', f_X7_ripens_L25 cb_fuel (nI h) (nI 0) M = some M' ∧ agr M M' (fun k j => (k = 12 ∨ k = 13) ∧ j = h) ∧ ((∃ x, rpN (frO w0 ch) srt due 30 = some x ∧ M' 12 h = nI x ∧ M' 13 h = -nI 1) ∨ ∃ d, rpN (frO w0 ch) srt due 30 = none ∧ fsN (frO w0 ch) 30 = some d ∧ d < 30 ∧ M' 13 h = nI d) := by
  have hf : ∀ d, 30 ≤ d → frO w0 ch d = false := frO_late (fun j hj => (hW.2.2.1 j hj).2)
  generalize hfr : frO w0 ch = fr at hf ⊢
  refine cb_loop0 (fun m k (s : cb_Mem) => f_X7_ripens_L25 m (nI h) (nI k) s) (fun k s => agr M s (fun k j => (k = 12 ∨ k = 13) ∧ j = h) ∧ ∃ x, x ≤ 60 ∧ s 12 h = nI x ∧ ((rpN fr srt due k = some x ∧ s 13 h = -nI 1 ∧ (srt = 2 → x = due ∧ (k ≤ due → fsN fr k = none))) ∨ ∃ d, rpN fr srt due k = none ∧ fsN fr 30 = some d ∧ d < 30 ∧ d < k ∧ s 13 h = nI d)) 100 _ M (by omega) ⟨agr.rf, due, by omega, hx, Or.inl ⟨rfl, hl, fun _ => ⟨rfl, fun _ => rfl⟩⟩⟩ ?_ ?_
  · rintro m s ⟨ha, x, hx60, h12, hc⟩
    refine ⟨s, ?_, ha, ?_⟩
    · simp (disch := omega) only [f_X7_ripens_L25, li, cn_in, cn_cl, h12, cn_le, if_pos]
    · rcases hc with ⟨h1, h2, -⟩ | ⟨d, h1, h2, h3, h4, h5⟩
      · exact Or.inl ⟨x, rpN_end hf h1 (by omega), h12, h2⟩
      · exact Or.inr ⟨d, by rw [← rpN_late hf (show 30 ≤ 100 by omega)]; exact h1, h2, h3, h5⟩
  · rintro m k s hk ⟨ha, x, hx60, h12, hc⟩
    by_cases hxk : x ≤ k
    · left
      refine ⟨s, ?_, ha, ?_⟩
      · simp (disch := omega) only [f_X7_ripens_L25, li, cn_in, cn_cl, h12, cn_le, if_pos]
      · rcases hc with ⟨h1, h2, -⟩ | ⟨d, h1, h2, h3, h4, h5⟩
        · exact Or.inl ⟨x, rpN_end hf h1 hxk, h12, h2⟩
        · refine Or.inr ⟨d, ?_, h2, h3, h5⟩
          by_cases e : k ≤ 30
          · exact rpN_none e h1
          · rw [← rpN_late hf (show 30 ≤ k by omega)]; exact h1
    · rcases hc with ⟨h1, h2, h3⟩ | ⟨d, h1, h2, h3, h4, h5⟩
      · right
        have hWs : mW s w0 w1 ch := hW.agr ha (by simp) (by simp) (by simp)
        have hso := m_isSo0 hWs (show k < 64 by omega)
        rw [hfr] at hso
        have h7 : s 7 (2 * h) = nI srt := (ha _ _ (by simp)).trans hs
        cases hfk : fr k with
        | false =>
          refine ⟨s, ⟨ha, x, hx60, h12, Or.inl ⟨?_, h2, fun e => ⟨(h3 e).1, fun q => ?_⟩⟩⟩, ?_⟩
          · rw [rpN, h1]
            dsimp only
            rw [hfk, if_neg (by simp)]
          · rw [fsN, (h3 e).2 (by omega)]
            dsimp only
            rw [hfk, if_neg (by simp)]
          · simp (disch := first | omega | trivial) only [f_X7_ripens_L25, li, cn_in, cn_cl, h12, cn_le, h2, if_pos, if_neg, hso, Option.bind_some, hfk, b2i_0, cn_add]
        | true =>
          have hk30 : k < 30 := by
            rcases Nat.lt_or_ge k 30 with q | q
            · exact q
            · rw [hf k q] at hfk; cases hfk
          rcases (show srt = 2 ∨ srt = 0 ∨ srt = 1 by omega) with e | e | e
          · obtain ⟨e1, e2⟩ := h3 e
            refine ⟨cb_up (cb_up s 13 h (nI k)) 12 h (nI (x + 0)), ⟨(ha.up ⟨Or.inr rfl, rfl⟩).up ⟨Or.inl rfl, rfl⟩, x, hx60, by simp [cu], Or.inr ⟨k, ?_, ?_, hk30, by omega, by simp [cu]⟩⟩, ?_⟩
            · rw [rpN, h1]
              dsimp only
              rw [hfk, if_pos ⟨by omega, rfl⟩, if_pos e]
            · refine fsN_some (n := k + 1) (by omega) ?_
              rw [fsN, e2 (by omega)]
              dsimp only
              rw [hfk, if_pos rfl]
            · subst e
              simp (disch := first | omega | trivial) only [f_X7_ripens_L25, li, cn_in, cn_cl, h12, cn_le, h2, if_pos, if_neg, hso, Option.bind_some, hfk, b2i_0, cn_add, cn_mul, h7, cn_eq, cb_let_eq, cu, Bool.true_eq_false]
          · refine ⟨cb_up (cb_up s 13 h (-nI 1)) 12 h (nI (x + 1)), ⟨(ha.up ⟨Or.inr rfl, rfl⟩).up ⟨Or.inl rfl, rfl⟩, x + 1, ?_, by simp [cu], Or.inl ⟨?_, by simp [cu], fun e9 => by omega⟩⟩, ?_⟩
            · have := rpN_bound (k := k + 1) (x := x + 1) (fr := fr) (srt := srt) (due := due) hf (by rw [rpN, h1]; dsimp only; rw [hfk, if_pos ⟨by omega, rfl⟩, if_neg (by omega), if_pos e])
              omega
            · rw [rpN, h1]
              dsimp only
              rw [hfk, if_pos ⟨by omega, rfl⟩, if_neg (by omega), if_pos e]
            · subst e
              simp (disch := first | omega | trivial) only [f_X7_ripens_L25, li, cn_in, cn_cl, h12, cn_le, h2, if_pos, if_neg, hso, Option.bind_some, hfk, b2i_0, cn_add, cn_mul, h7, cn_eq, cb_let_eq, cu, Bool.true_eq_false]
          · refine ⟨cb_up (cb_up s 13 h (-nI 1)) 12 h (nI (x + 0)), ⟨(ha.up ⟨Or.inr rfl, rfl⟩).up ⟨Or.inl rfl, rfl⟩, x, hx60, by simp [cu], Or.inl ⟨?_, by simp [cu], fun e9 => by omega⟩⟩, ?_⟩
            · rw [rpN, h1]
              dsimp only
              rw [hfk, if_pos ⟨by omega, rfl⟩, if_neg (by omega), if_neg (by omega)]
            · subst e
              simp (disch := first | omega | trivial) only [f_X7_ripens_L25, li, cn_in, cn_cl, h12, cn_le, h2, if_pos, if_neg, hso, Option.bind_some, hfk, b2i_0, cn_add, cn_mul, h7, cn_eq, cb_let_eq, cu, Bool.true_eq_false]
      · left
        refine ⟨s, ?_, ha, Or.inr ⟨d, ?_, h2, h3, h5⟩⟩
        · simp (disch := first | omega | trivial) only [f_X7_ripens_L25, li, cn_in, cn_cl, h12, cn_le, h5, cn_eq1, if_pos, if_neg, if_false]
        · by_cases e : k ≤ 30
          · exact rpN_none e h1
          · rw [← rpN_late hf (show 30 ≤ k by omega)]; exact h1
