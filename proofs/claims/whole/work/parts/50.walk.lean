/-! what a walk leaves -/
def okS (F : FD) (S : SS) : Prop := (∀ c p, S.1 c = some p → c < d_nc F ∧ p.1 < d_nh F ∧ p.2 < 40 ∧ S.2.1 p.1 = some (c, p.2) ∧ onB F p.1 p.2 = true ∧ cmB F c p.2 = true ∧ wtB F c p.1 = true) ∧ ∀ h p, S.2.1 h = some p → S.1 p.1 = some (h, p.2)
def tmS (S : SS) (d c : Nat) : Prop := ∀ q p, S.1 q = some p → p.2 < d ∨ (p.2 = d ∧ q < c)
def swB (S : SS) (d c q : Nat) : Bool := match S.1 q with
  | none => true
  | some p => decide (d < p.2 ∨ (d = p.2 ∧ c < q))
def outB (F : FD) (S : SS) (c : Nat) : Bool := match S.1 c with
  | none => false
  | some p => anyN (fun q => decide (d_frm F q < d_frm F c) && (cmB F q p.2 && (wtB F q p.1 && swB S p.2 c q))) (d_nc F)
def trS (F : FD) (S : SS) : Prop := match S.2.2 with
  | none => ∀ c, outB F S c = false
  | some t => (∃ h, S.1 t.1 = some (h, t.2)) ∧ outB F S t.1 = true ∧ ∀ c p, S.1 c = some p → outB F S c = true → t.2 < p.2 ∨ (t.2 = p.2 ∧ t.1 ≤ c)
theorem fhN_ok {F : FD} {S : SS} {d c h : Nat} : ∀ {n : Nat}, fhN F S d c n = some h → S.2.1 h = none ∧ wtB F c h = true ∧ onB F h d = true
  | 0, e => by cases e
  | n + 1, e => by
    rw [fhN] at e
    cases q : fhN F S d c n with
    | some k => rw [q] at e; cases e; exact fhN_ok q
    | none =>
      rw [q] at e
      dsimp only at e
      split at e
      · rename_i z; cases e; exact z
      · cases e
theorem swB_none {S : SS} {d c q : Nat} (h : S.1 q = none) : swB S d c q = true := by unfold swB; rw [h]
theorem swB_some {S : SS} {d c q : Nat} {p : Nat × Nat} (h : S.1 q = some p) : swB S d c q = decide (d < p.2 ∨ (d = p.2 ∧ c < q)) := by unfold swB; rw [h]
theorem outB_none {F : FD} {S : SS} {c : Nat} (h : S.1 c = none) : outB F S c = false := by unfold outB; rw [h]
theorem outB_some {F : FD} {S : SS} {c : Nat} {p : Nat × Nat} (h : S.1 c = some p) : outB F S c = anyN (fun q => decide (d_frm F q < d_frm F c) && (cmB F q p.2 && (wtB F q p.1 && swB S p.2 c q))) (d_nc F) := by unfold outB; rw [h]
theorem stC_ok {F : FD} {S : SS} {d c : Nat} (hc : c < d_nc F) (hd : d < 40) (h1 : okS F S) (h2 : tmS S d c) (h3 : trS F S) : okS F (stC F d c S) ∧ tmS (stC F d c S) d (c + 1) ∧ trS F (stC F d c S) := by
  have keep : okS F S ∧ tmS S d (c + 1) ∧ trS F S := ⟨h1, fun q p e => by have := h2 q p e; omega, h3⟩
  unfold stC
  by_cases e : cmB F c d = true ∧ S.1 c = none
  · rw [if_pos e]
    cases hf : fhN F S d c (d_nh F) with
    | none => exact keep
    | some h =>
      dsimp only
      obtain ⟨f1, f2, f3⟩ := fhN_ok hf
      have f4 := fhN_lt hf
      have g1 : ∀ q, (lfS F S d c h).1 q = if q = c then some (h, d) else S.1 q := fun q => rfl
      have g2 : ∀ q, (lfS F S d c h).2.1 q = if q = h then some (c, d) else S.2.1 q := fun q => rfl
      have g3 : (lfS F S d c h).2.2 = match S.2.2 with | some t => some t | none => if anyN (otB F S d c h) (d_nc F) = true then some (c, d) else none := rfl
      have oldout : ∀ q p, q ≠ c → S.1 q = some p → outB F (lfS F S d c h) q = outB F S q := by
        intro q p hq hp
        have hp' : (lfS F S d c h).1 q = some p := by rw [g1, if_neg hq]; exact hp
        rw [outB_some hp', outB_some hp]
        apply anyN_congr
        intro k _
        congr 3
        by_cases ek : k = c
        · subst ek
          rw [swB_none e.2, swB_some (p := (h, d)) (by rw [g1, if_pos rfl])]
          have := h2 q p hp
          simp only [decide_eq_true_eq]
          omega
        · unfold swB
          rw [g1, if_neg ek]
      have newout : outB F (lfS F S d c h) c = anyN (otB F S d c h) (d_nc F) := by
        rw [outB_some (p := (h, d)) (by rw [g1, if_pos rfl])]
        apply anyN_congr
        intro k _
        unfold otB
        by_cases ek : k = c
        · subst ek
          simp
        · have : swB (lfS F S d c h) d c k = decide (S.1 k = none) := by
            cases hk : S.1 k with
            | none => rw [swB_none (by rw [g1, if_neg ek]; exact hk)]; simp
            | some p =>
              rw [swB_some (p := p) (by rw [g1, if_neg ek]; exact hk)]
              have := h2 k p hk
              rw [decide_eq_false (by omega)]
              simp
          dsimp only
          rw [this]
          cases decide (d_frm F k < d_frm F c) <;> cases cmB F k d <;> cases wtB F k h <;> simp [ek]
      refine ⟨⟨fun q p hq => ?_, fun q p hq => ?_⟩, fun q p hq => ?_, ?_⟩
      · rw [g1] at hq
        by_cases ek : q = c
        · rw [if_pos ek] at hq
          cases hq
          subst ek
          exact ⟨hc, f4, hd, by rw [g2, if_pos rfl], f3, e.1, f2⟩
        · rw [if_neg ek] at hq
          obtain ⟨a1, a2, a3, a4, a5⟩ := h1.1 q p hq
          refine ⟨a1, a2, a3, ?_, a5⟩
          rw [g2, if_neg (by rintro rfl; rw [f1] at a4; cases a4)]
          exact a4
      · rw [g2] at hq
        by_cases ek : q = h
        · rw [if_pos ek] at hq
          cases hq
          rw [g1, if_pos rfl, ek]
        · rw [if_neg ek] at hq
          have a := h1.2 q p hq
          rw [g1, if_neg (by rintro z; rw [z, e.2] at a; cases a)]
          exact a
      · rw [g1] at hq
        by_cases ek : q = c
        · rw [if_pos ek] at hq
          cases hq
          exact Or.inr ⟨rfl, by omega⟩
        · rw [if_neg ek] at hq
          have := h2 q p hq
          omega
      · unfold trS at h3 ⊢
        rw [g3]
        cases ht : S.2.2 with
        | none =>
          rw [ht] at h3
          dsimp only at h3 ⊢
          by_cases ea : anyN (otB F S d c h) (d_nc F) = true
          · rw [if_pos ea]
            dsimp only
            refine ⟨⟨h, by rw [g1, if_pos rfl]⟩, newout.trans ea, fun q p hq ho => ?_⟩
            by_cases ek : q = c
            · rw [g1, if_pos ek] at hq
              cases hq
              exact Or.inr ⟨rfl, by omega⟩
            · rw [g1, if_neg ek] at hq
              rw [oldout q p ek hq, h3 q] at ho
              cases ho
          · rw [if_neg ea]
            dsimp only
            intro q
            by_cases ek : q = c
            · rw [ek, newout]; simpa using ea
            · cases hq : S.1 q with
              | none => exact outB_none (by rw [g1, if_neg ek]; exact hq)
              | some p => rw [oldout q p ek hq]; exact h3 q
        | some t =>
          rw [ht] at h3
          dsimp only at h3 ⊢
          obtain ⟨⟨ht', b1⟩, b2, b3⟩ := h3
          have tc : t.1 ≠ c := by intro z; rw [z, e.2] at b1; cases b1
          refine ⟨⟨ht', by rw [g1, if_neg tc]; exact b1⟩, by rw [oldout _ _ tc b1]; exact b2, fun q p hq ho => ?_⟩
          by_cases ek : q = c
          · rw [g1, if_pos ek] at hq
            cases hq
            have := h2 _ _ b1
            dsimp only at this ⊢
            omega
          · rw [g1, if_neg ek] at hq
            rw [oldout q p ek hq] at ho
            exact b3 q p hq ho
  · rw [if_neg e]
    exact keep
theorem itC_ok {F : FD} {d : Nat} (hd : d < 40) : ∀ {n : Nat} {S : SS}, n ≤ d_nc F → okS F S → tmS S d 0 → trS F S → okS F (itN (fun c S => stC F d c S) n S) ∧ tmS (itN (fun c S => stC F d c S) n S) d n ∧ trS F (itN (fun c S => stC F d c S) n S)
  | 0, _, _, h1, h2, h3 => ⟨h1, h2, h3⟩
  | n + 1, S, hn, h1, h2, h3 => by
    obtain ⟨a, b, c⟩ := itC_ok hd (n := n) (S := S) (by omega) h1 h2 h3
    exact stC_ok (by omega) hd a b c
theorem wkN_ok {F : FD} : ∀ {n : Nat}, n ≤ 40 → okS F (wkN F n) ∧ tmS (wkN F n) n 0 ∧ trS F (wkN F n)
  | 0, _ => ⟨⟨fun c p h => (by cases h), fun h p e => (by cases e)⟩, fun q p h => (by cases h), fun c => outB_none rfl⟩
  | n + 1, hn => by
    obtain ⟨a, b, c⟩ := wkN_ok (F := F) (n := n) (by omega)
    obtain ⟨a', b', c'⟩ := itC_ok (F := F) (d := n) (by omega) (Nat.le_refl _) a b c
    exact ⟨a', fun q p h => by have := b' q p h; omega, c'⟩
theorem wk_ok (F : FD) : okS F (wk F) ∧ trS F (wk F) := ⟨(wkN_ok (F := F) (Nat.le_refl _)).1, (wkN_ok (F := F) (Nat.le_refl _)).2.2⟩
theorem wk_out {F : FD} {c : Nat} (h : d_nc F ≤ c) : (wk F).1 c = none := by
  cases e : (wk F).1 c with
  | none => rfl
  | some p => exact absurd ((wk_ok F).1.1 c p e).1 (by omega)
