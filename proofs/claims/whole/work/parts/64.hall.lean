/-! the most that might be met: Hall, and step by step -/
def nbB (adj : Nat → Nat → Bool) (n : Nat) (S : Nat → Bool) (h : Nat) : Bool := anyN (fun c => S c && adj c h) n
def gvN (adj : Nat → Nat → Bool) (H n : Nat) (S : Nat → Bool) (b : Nat) : Nat := cntN (fun c => !(S c)) n + cntN (fun h => b.testBit h && nbB adj n S h) H
def mtN (adj : Nat → Nat → Bool) (H : Nat) : Nat → Nat → Nat
  | 0, _ => 0
  | n + 1, b => max (mtN adj H n b) (maxN (fun h => if (b.testBit h && adj n h) = true then mtN adj H n (b ^^^ 2 ^ h) + 1 else 0) H)
theorem xor_bit {b h j : Nat} (hb : b.testBit h = true) : (b ^^^ 2 ^ h).testBit j = (b.testBit j && decide (j ≠ h)) := by
  rw [Nat.testBit_xor]
  by_cases e : j = h
  · subst e
    rw [hb, Nat.testBit_two_pow_self]
    simp
  · rw [Nat.testBit_two_pow_of_ne (fun z => e z.symm)]
    simp [e]
theorem cntN_mono {p q : Nat → Bool} {m : Nat} (h : ∀ j, j < m → p j = true → q j = true) : cntN p m ≤ cntN q m := by
  apply sumN_le
  intro k hk
  by_cases e : p k = true
  · rw [if_pos e, if_pos (h k hk e)]; exact Nat.le_refl _
  · rw [if_neg e]; exact Nat.zero_le _
theorem cntN_succ (p : Nat → Bool) (n : Nat) : cntN p (n + 1) = cntN p n + (if p n = true then 1 else 0) := rfl
theorem cntN_more {p q : Nat → Bool} {i : Nat} (h0 : p i = false) (h1 : q i = true) : ∀ {m : Nat}, (∀ j, j < m → p j = true → q j = true) → i < m → cntN p m + 1 ≤ cntN q m
  | 0, _, hi => absurd hi (Nat.not_lt_zero i)
  | m + 1, h, hi => by
    rw [cntN_succ, cntN_succ]
    by_cases e : i = m
    · subst e
      have := cntN_mono (p := p) (q := q) (m := i) (fun j hj => h j (by omega))
      rw [if_neg (by rw [h0]; decide), if_pos h1]
      omega
    · have := cntN_more h0 h1 (m := m) (fun j hj => h j (by omega)) (by omega)
      have h3 := h m (by omega)
      by_cases e2 : p m = true
      · rw [if_pos e2, if_pos (h3 e2)]; omega
      · rw [if_neg e2]; omega
theorem cntN_less {p q : Nat → Bool} {i m : Nat} (h : ∀ j, j < m → j ≠ i → q j = true → p j = true) : cntN q m ≤ cntN p m + 1 := by
  have h2 : ∀ m, (∀ j, j < m → j ≠ i → q j = true → p j = true) → cntN q m ≤ cntN p m + (if i < m then 1 else 0) := by
    intro m
    induction m with
    | zero => intro _; exact Nat.zero_le _
    | succ m ih =>
      intro h
      have ih' := ih (fun j hj => h j (by omega))
      rw [cntN_succ, cntN_succ]
      by_cases e : m = i
      · subst e
        rw [if_neg (by omega)] at ih'
        rw [if_pos (show m < m + 1 by omega)]
        split <;> split <;> omega
      · have h3 := h m (by omega) e
        by_cases e2 : q m = true
        · rw [if_pos e2, if_pos (h3 e2)]
          by_cases e3 : i < m
          · rw [if_pos e3] at ih'; rw [if_pos (by omega)]; omega
          · rw [if_neg e3] at ih'; rw [if_neg (by omega)]; omega
        · rw [if_neg e2]
          by_cases e3 : i < m
          · rw [if_pos e3] at ih'; rw [if_pos (show i < m + 1 by omega)]; omega
          · rw [if_neg e3] at ih'; rw [if_neg (show ¬ i < m + 1 by omega)]; omega
  have := h2 m h
  split at this <;> omega
theorem nbB_succ {adj : Nat → Nat → Bool} {n h : Nat} {S : Nat → Bool} : nbB adj (n + 1) S h = (nbB adj n S h || (S n && adj n h)) := rfl
theorem nbB_congr {adj : Nat → Nat → Bool} {n h : Nat} {S U : Nat → Bool} (e : ∀ c, c < n → S c = U c) : nbB adj n S h = nbB adj n U h := anyN_congr (fun c hc => by rw [e c hc])
theorem gv_congr {adj : Nat → Nat → Bool} {H n b : Nat} {S U : Nat → Bool} (e : ∀ c, c < n → S c = U c) : gvN adj H n S b = gvN adj H n U b := by
  unfold gvN
  rw [cntN_congr (fun c hc => by rw [e c hc]), cntN_congr (p := fun h => b.testBit h && nbB adj n S h) (fun h _ => by rw [nbB_congr e])]
theorem hall_a {adj : Nat → Nat → Bool} {H : Nat} : ∀ {n : Nat} (S : Nat → Bool) (b : Nat), mtN adj H n b ≤ gvN adj H n S b
  | 0, S, b => Nat.zero_le _
  | n + 1, S, b => by
    rw [mtN, Nat.max_le, maxN_le]
    unfold gvN
    constructor
    · have ih := hall_a (adj := adj) (H := H) (n := n) S b
      unfold gvN at ih
      have h1 : cntN (fun h => b.testBit h && nbB adj n S h) H ≤ cntN (fun h => b.testBit h && nbB adj (n + 1) S h) H := cntN_mono (fun j _ q => by
        rw [Bool.and_eq_true] at q ⊢
        exact ⟨q.1, by rw [nbB_succ, q.2, Bool.true_or]⟩)
      rw [cntN_succ]
      omega
    · intro h hh
      by_cases e : (b.testBit h && adj n h) = true
      · rw [if_pos e]
        rw [Bool.and_eq_true] at e
        have ih := hall_a (adj := adj) (H := H) (n := n) S (b ^^^ 2 ^ h)
        unfold gvN at ih
        rw [cntN_succ]
        cases es : S n with
        | false =>
          have h1 : cntN (fun j => (b ^^^ 2 ^ h).testBit j && nbB adj n S j) H ≤ cntN (fun h => b.testBit h && nbB adj (n + 1) S h) H := cntN_mono (fun j _ q => by
            rw [Bool.and_eq_true] at q ⊢
            have q1 := q.1
            rw [xor_bit e.1, Bool.and_eq_true] at q1
            exact ⟨q1.1, by rw [nbB_succ, q.2, Bool.true_or]⟩)
          rw [if_pos (by simp)]
          omega
        | true =>
          have h1 : cntN (fun j => (b ^^^ 2 ^ h).testBit j && nbB adj n S j) H + 1 ≤ cntN (fun h => b.testBit h && nbB adj (n + 1) S h) H := cntN_more (i := h) (by
              rw [xor_bit e.1]
              simp) (by
              rw [e.1, nbB_succ, es, e.2]
              simp) (fun j _ q => by
            rw [Bool.and_eq_true] at q ⊢
            have q1 := q.1
            rw [xor_bit e.1, Bool.and_eq_true] at q1
            exact ⟨q1.1, by rw [nbB_succ, q.2, Bool.true_or]⟩) hh
          rw [if_neg (by simp)]
          omega
      · rw [if_neg e]
        exact Nat.zero_le _
theorem bp1 (x y : Bool) : (if (!(x || y)) = true then 1 else 0) + (if (!(x && y)) = true then 1 else 0) = (if (!x) = true then 1 else 0) + (if (!y) = true then (1 : Nat) else 0) := by
  cases x <;> cases y <;> rfl
theorem bp2 (x0 x1 x2 x3 x4 : Bool) (e1 : x1 = true → x3 = true ∨ x4 = true) (e2 : x2 = true → x3 = true ∧ x4 = true) : (if (x0 && x1) = true then 1 else 0) + (if (x0 && x2) = true then 1 else 0) ≤ (if (x0 && x3) = true then 1 else 0) + (if (x0 && x4) = true then (1 : Nat) else 0) := by
  revert e1 e2
  cases x0 <;> cases x1 <;> cases x2 <;> cases x3 <;> cases x4 <;> simp
theorem gv_sub {adj : Nat → Nat → Bool} {H n b : Nat} {U S : Nat → Bool} : gvN adj H n (fun c => U c || S c) b + gvN adj H n (fun c => U c && S c) b ≤ gvN adj H n U b + gvN adj H n S b := by
  unfold gvN
  have h1 : cntN (fun c => !(U c || S c)) n + cntN (fun c => !(U c && S c)) n = cntN (fun c => !(U c)) n + cntN (fun c => !(S c)) n := by
    unfold cntN
    rw [sumN_add, sumN_add]
    apply sumN_congr
    intro k _
    exact bp1 (U k) (S k)
  have h2 : cntN (fun h => b.testBit h && nbB adj n (fun c => U c || S c) h) H + cntN (fun h => b.testBit h && nbB adj n (fun c => U c && S c) h) H ≤ cntN (fun h => b.testBit h && nbB adj n U h) H + cntN (fun h => b.testBit h && nbB adj n S h) H := by
    unfold cntN
    rw [sumN_add, sumN_add]
    apply sumN_le
    intro k _
    have e1 : nbB adj n (fun c => U c || S c) k = true → nbB adj n U k = true ∨ nbB adj n S k = true := by
      intro q
      unfold nbB at q ⊢
      rw [anyN_iff] at q
      obtain ⟨c, c1, c2⟩ := q
      rw [Bool.and_eq_true, Bool.or_eq_true] at c2
      rcases c2.1 with z | z
      · exact Or.inl (anyN_iff.mpr ⟨c, c1, by rw [z, c2.2]; rfl⟩)
      · exact Or.inr (anyN_iff.mpr ⟨c, c1, by rw [z, c2.2]; rfl⟩)
    have e2 : nbB adj n (fun c => U c && S c) k = true → nbB adj n U k = true ∧ nbB adj n S k = true := by
      intro q
      unfold nbB at q ⊢
      rw [anyN_iff] at q
      obtain ⟨c, c1, c2⟩ := q
      rw [Bool.and_eq_true, Bool.and_eq_true] at c2
      exact ⟨anyN_iff.mpr ⟨c, c1, by rw [c2.1.1, c2.2]; rfl⟩, anyN_iff.mpr ⟨c, c1, by rw [c2.1.2, c2.2]; rfl⟩⟩
    exact bp2 _ _ _ _ _ e1 e2
  dsimp only
  omega
theorem nb_or {adj : Nat → Nat → Bool} {n h : Nat} {U S : Nat → Bool} (q : nbB adj n U h = true ∨ nbB adj n S h = true) : nbB adj n (fun c => U c || S c) h = true := by
  unfold nbB at q ⊢
  rw [anyN_iff]
  rcases q with q | q
  · obtain ⟨c, c1, c2⟩ := anyN_iff.mp q
    rw [Bool.and_eq_true] at c2
    exact ⟨c, c1, by simp [c2.1, c2.2]⟩
  · obtain ⟨c, c1, c2⟩ := anyN_iff.mp q
    rw [Bool.and_eq_true] at c2
    exact ⟨c, c1, by simp [c2.1, c2.2]⟩
theorem hall_b {adj : Nat → Nat → Bool} {H : Nat} : ∀ {n : Nat} (b : Nat), ∃ S : Nat → Bool, gvN adj H n S b ≤ mtN adj H n b
  | 0, b => ⟨fun _ => false, by
    unfold gvN
    have : cntN (fun h => b.testBit h && nbB adj 0 (fun _ => false) h) H ≤ cntN (fun _ => false) H := cntN_mono (fun j _ q => by
      rw [Bool.and_eq_true] at q
      exact q.2)
    have h2 : cntN (fun _ => false) H = 0 := by
      have : ∀ H, cntN (fun _ => false) H = 0 := by
        intro H
        induction H with
        | zero => rfl
        | succ H ih => rw [cntN_succ, ih]; rfl
      exact this H
    have h3 : cntN (fun c => !((fun _ => false) c)) 0 = 0 := rfl
    omega⟩
  | n + 1, b => by
    obtain ⟨S0, hS0⟩ := hall_b (adj := adj) (H := H) (n := n) b
    by_cases hv : mtN adj H n b + 1 ≤ mtN adj H (n + 1) b
    · refine ⟨fnU S0 n false, ?_⟩
      have h1 : gvN adj H (n + 1) (fnU S0 n false) b ≤ gvN adj H n S0 b + 1 := by
        unfold gvN
        have e1 : cntN (fun c => !(fnU S0 n false c)) (n + 1) = cntN (fun c => !(S0 c)) n + 1 := by
          rw [cntN_succ]
          congr 1
          · exact cntN_congr (fun c hc => by rw [fnU_ne _ _ (by omega)])
          · rw [fnU_eq]; rfl
        have e2 : cntN (fun h => b.testBit h && nbB adj (n + 1) (fnU S0 n false) h) H = cntN (fun h => b.testBit h && nbB adj n S0 h) H := cntN_congr (fun h _ => by
          rw [nbB_succ, fnU_eq, Bool.false_and, Bool.or_false, nbB_congr (fun c hc => fnU_ne _ _ (by omega))])
        rw [e1, e2]
        omega
      omega
    · have hk : ∀ h, h < H → b.testBit h = true → adj n h = true → mtN adj H n (b ^^^ 2 ^ h) + 1 ≤ mtN adj H n b := by
        intro h hh hb ha
        have : (fun h => if (b.testBit h && adj n h) = true then mtN adj H n (b ^^^ 2 ^ h) + 1 else 0) h ≤ mtN adj H (n + 1) b := by
          rw [mtN]
          exact Nat.le_trans (le_maxN (f := fun h => if (b.testBit h && adj n h) = true then mtN adj H n (b ^^^ 2 ^ h) + 1 else 0) hh) (Nat.le_max_right _ _)
        dsimp only at this
        rw [if_pos (by rw [hb, ha]; rfl)] at this
        omega
      have hu : ∀ m, m ≤ H → ∃ U : Nat → Bool, gvN adj H n U b ≤ mtN adj H n b ∧ ∀ h, h < m → b.testBit h = true → adj n h = true → nbB adj n U h = true := by
        intro m
        induction m with
        | zero => exact fun _ => ⟨S0, hS0, fun h hh => absurd hh (Nat.not_lt_zero h)⟩
        | succ m ih =>
          intro hm
          obtain ⟨U, u1, u2⟩ := ih (by omega)
          by_cases q : b.testBit m = true ∧ adj n m = true
          · obtain ⟨S, hS⟩ := hall_b (adj := adj) (H := H) (n := n) (b ^^^ 2 ^ m)
            have k1 := hk m (by omega) q.1 q.2
            have k2 : gvN adj H n S b ≤ gvN adj H n S (b ^^^ 2 ^ m) + 1 := by
              unfold gvN
              have := cntN_less (p := fun h => (b ^^^ 2 ^ m).testBit h && nbB adj n S h) (q := fun h => b.testBit h && nbB adj n S h) (i := m) (m := H) (fun j _ hj z => by
                rw [Bool.and_eq_true] at z ⊢
                exact ⟨by rw [xor_bit q.1, z.1]; simp [hj], z.2⟩)
              omega
            have k3 := hall_a (adj := adj) (H := H) (n := n) S b
            have k4 : nbB adj n S m = true := by
              by_cases z : nbB adj n S m = true
              · exact z
              · have : gvN adj H n S b ≤ gvN adj H n S (b ^^^ 2 ^ m) := by
                  unfold gvN
                  have := cntN_mono (p := fun h => b.testBit h && nbB adj n S h) (q := fun h => (b ^^^ 2 ^ m).testBit h && nbB adj n S h) (m := H) (fun j _ y => by
                    rw [Bool.and_eq_true] at y ⊢
                    have hj : j ≠ m := fun ej => z (by rw [← ej]; exact y.2)
                    exact ⟨by rw [xor_bit q.1, y.1]; simp [hj], y.2⟩)
                  omega
                omega
            have k5 := gv_sub (adj := adj) (H := H) (n := n) (b := b) (U := U) (S := S)
            have k6 := hall_a (adj := adj) (H := H) (n := n) (fun c => U c && S c) b
            refine ⟨fun c => U c || S c, by omega, fun h hh hb ha => ?_⟩
            by_cases e : h = m
            · rw [e]; exact nb_or (Or.inr k4)
            · exact nb_or (Or.inl (u2 h (by omega) hb ha))
          · refine ⟨U, u1, fun h hh hb ha => ?_⟩
            by_cases e : h = m
            · exact absurd ⟨by rw [← e]; exact hb, by rw [← e]; exact ha⟩ q
            · exact u2 h (by omega) hb ha
      obtain ⟨U, u1, u2⟩ := hu H (Nat.le_refl _)
      refine ⟨fnU U n true, ?_⟩
      have h1 : gvN adj H (n + 1) (fnU U n true) b ≤ gvN adj H n U b := by
        unfold gvN
        have e1 : cntN (fun c => !(fnU U n true c)) (n + 1) = cntN (fun c => !(U c)) n := by
          rw [cntN_succ, fnU_eq, if_neg (by decide), Nat.add_zero]
          exact cntN_congr (fun c hc => by rw [fnU_ne _ _ (by omega)])
        have e2 : cntN (fun h => b.testBit h && nbB adj (n + 1) (fnU U n true) h) H ≤ cntN (fun h => b.testBit h && nbB adj n U h) H := cntN_mono (fun h hh q => by
          rw [Bool.and_eq_true] at q ⊢
          refine ⟨q.1, ?_⟩
          have q2 := q.2
          rw [nbB_succ, fnU_eq, Bool.true_and, nbB_congr (U := U) (fun c hc => fnU_ne _ _ (by omega)), Bool.or_eq_true] at q2
          rcases q2 with z | z
          · exact z
          · exact u2 h hh q.1 z)
        omega
      have h2 : mtN adj H n b ≤ mtN adj H (n + 1) b := by rw [mtN]; exact Nat.le_max_left _ _
      omega
def minN (f : Nat → Nat) (z : Nat) : Nat → Nat
  | 0 => z
  | n + 1 => min (minN f z n) (f n)
theorem minN_le {f : Nat → Nat} {z : Nat} : ∀ {n : Nat}, minN f z n ≤ z ∧ ∀ j, j < n → minN f z n ≤ f j
  | 0 => ⟨Nat.le_refl _, fun j h => absurd h (Nat.not_lt_zero j)⟩
  | n + 1 => by
    obtain ⟨h1, h2⟩ := minN_le (f := f) (z := z) (n := n)
    rw [minN]
    refine ⟨by omega, fun j hj => ?_⟩
    by_cases e : j = n
    · rw [e]; omega
    · have := h2 j (by omega); omega
theorem le_minN {f : Nat → Nat} {z y : Nat} (hz : y ≤ z) : ∀ {n : Nat}, (∀ j, j < n → y ≤ f j) → y ≤ minN f z n
  | 0, _ => hz
  | n + 1, h => by
    have h1 := le_minN (f := f) (z := z) (y := y) hz (n := n) (fun j hj => h j (by omega))
    have h2 := h n (by omega)
    rw [minN]
    omega
theorem gv_0 {adj : Nat → Nat → Bool} {H n b : Nat} : gvN adj H n (fun _ => false) b ≤ n := by
  unfold gvN
  have h1 : cntN (fun c => !((fun _ => false) c)) n ≤ n := cntN_le
  have h2 : cntN (fun h => b.testBit h && nbB adj n (fun _ => false) h) H ≤ cntN (fun j => decide (j < 0)) H := cntN_mono (fun j _ q => by
    rw [Bool.and_eq_true] at q
    have q2 := q.2
    unfold nbB at q2
    rw [anyN_iff] at q2
    obtain ⟨c, _, c2⟩ := q2
    cases c2)
  rw [cntN_lt] at h2
  omega
theorem mt_le {adj : Nat → Nat → Bool} {H n b : Nat} : mtN adj H n b ≤ n := Nat.le_trans (hall_a (fun _ => false) b) gv_0
theorem hall {adj : Nat → Nat → Bool} {H n b : Nat} : minN (fun g => gvN adj H n g.testBit b) n (2 ^ n) = mtN adj H n b := by
  apply Nat.le_antisymm
  · obtain ⟨S, hS⟩ := hall_b (adj := adj) (H := H) (n := n) b
    obtain ⟨g, g1, g2⟩ := msk_ex S n
    have h1 := (minN_le (f := fun g => gvN adj H n g.testBit b) (z := n) (n := 2 ^ n)).2 g g1
    rw [gv_congr g2] at h1
    omega
  · exact le_minN mt_le (fun g _ => hall_a g.testBit b)
