/-! PURE: numbers, memories -/
theorem li (n : Nat) : (OfNat.ofNat n : Int32) = nI n := id rfl
theorem cn_le {a b : Nat} (ha : a < 2147483648) (hb : b < 2147483648) : (nI a ≤ nI b) = (a ≤ b) := propext (nI_leI ha hb)
theorem cn_lt {a b : Nat} (ha : a < 2147483648) (hb : b < 2147483648) : (nI a < nI b) = (a < b) := propext (nI_ltI ha hb)
theorem cn_eq {a b : Nat} (ha : a < 2147483648) (hb : b < 2147483648) : (nI a = nI b) = (a = b) := propext (nI_eq ha hb)
theorem cn_cl {a : Nat} (ha : a < 2147483648) : (nI a).toNatClampNeg = a := nI_clamp ha
theorem cn_in {a n : Nat} (ha : a < 2147483648) : (cb_in (nI a) n = true) = (a < n) := by
  unfold cb_in
  rw [nI_toInt ha]
  simp
theorem cn_ti {a : Nat} (ha : a < 2147483648) : (nI a).toInt = (a : Int) := nI_toInt ha
theorem cn_neg1 : (-nI 1).toInt = -1 := by decide
theorem cn_eq1 {a : Nat} (ha : a < 2147483648) : (nI a = -nI 1) = False := by
  apply eq_false
  intro h
  have := congrArg Int32.toInt h
  rw [cn_ti ha, cn_neg1] at this
  omega
theorem cn_eq2 {a : Nat} (ha : a < 2147483648) : (-nI 1 = nI a) = False := by
  apply eq_false
  intro h
  have := congrArg Int32.toInt h
  rw [cn_ti ha, cn_neg1] at this
  omega
theorem cn_le1 {a : Nat} (ha : a < 2147483648) : (nI a ≤ -nI 1) = False := by
  apply eq_false
  rw [Int32.le_iff_toInt_le, cn_ti ha, cn_neg1]
  omega
theorem cn_le2 {a : Nat} (ha : a < 2147483648) : (-nI 1 ≤ nI a) = True := by
  apply eq_true
  rw [Int32.le_iff_toInt_le, cn_ti ha, cn_neg1]
  omega
theorem cn_lt1 {a : Nat} (ha : a < 2147483648) : (nI a < -nI 1) = False := by
  apply eq_false
  rw [Int32.lt_iff_toInt_lt, cn_ti ha, cn_neg1]
  omega
theorem cn_lt2 {a : Nat} (ha : a < 2147483648) : (-nI 1 < nI a) = True := by
  apply eq_true
  rw [Int32.lt_iff_toInt_lt, cn_ti ha, cn_neg1]
  omega
theorem cn_add (a b : Nat) : nI a + nI b = nI (a + b) := nI_add a b
theorem cn_mul (a b : Nat) : nI a * nI b = nI (a * b) := pk_mul a b
theorem cn_sub {a b : Nat} (h : b ≤ a) : nI a - nI b = nI (a - b) := pk_sub h
theorem cn_div {a d : Nat} (ha : a < 2147483648) (h0 : 0 < d) (hd : d < 2147483648) : nI a / nI d = nI (a / d) := pk_div ha h0 hd
theorem cn_rem {a d : Nat} (ha : a < 2147483648) (h0 : 0 < d) (hd : d < 2147483648) : nI a - nI (a / d) * nI d = nI (a % d) := by
  rw [← pk_div ha h0 hd]
  exact pk_rem ha h0 hd
theorem cn_l2 : (1 : Int32) &&& 1 = 1 := by decide
theorem cn_l0 : (0 : Int32) &&& 1 = 0 := by decide
theorem cu (M : cb_Mem) (q j : Nat) (v : Int32) (k i : Nat) : cb_up M q j v k i = if k = q then (if i = j then v else M k i) else M k i := by
  unfold cb_up cb_row
  by_cases h : k = q
  · subst h
    simp [upd]
  · simp [h]
theorem cu_row {M : cb_Mem} {q j : Nat} {v : Int32} {k : Nat} (h : k ≠ q) : cb_up M q j v k = M k := by
  unfold cb_up cb_row
  rw [if_neg h]
theorem cb_let_eq {α β : Type} (x : β) (f : β → α) : cb_let x f = f x := rfl
theorem cb_let2_eq {α β γ : Type} (x : β) (y : γ) (f : β → γ → α) : cb_let2 (x, y) f = f x y := rfl
theorem cb_bind2_eq {α1 α2 β : Type} (x : α1) (y : α2) (f : α1 → α2 → Option β) : cb_bind2 (some (x, y)) f = f x y := rfl
theorem cb_bind3_eq {α1 α2 α3 β : Type} (x : α1) (y : α2) (z : α3) (f : α1 → α2 → α3 → Option β) : cb_bind3 (some (x, y, z)) f = f x y z := rfl
theorem cb_bind4_eq {α1 α2 α3 α4 β : Type} (x : α1) (y : α2) (z : α3) (w : α4) (f : α1 → α2 → α3 → α4 → Option β) : cb_bind4 (some (x, y, z, w)) f = f x y z w := rfl
theorem cb_bs_r {α ρ τ : Type} (x : ρ) (f : ρ → Option α) (k : τ → Option α) : cb_bs (some (.inl x)) f k = f x := rfl
theorem cb_bs_k {α ρ τ : Type} (x : τ) (f : ρ → Option α) (k : τ → Option α) : cb_bs (some (.inr x)) f k = k x := rfl
theorem cb_bs2_r {α1 α2 β ρ : Type} (x : ρ) (f : ρ → Option β) (k : α1 → α2 → Option β) : cb_bs2 (some (.inl x)) f k = f x := rfl
theorem cb_bs2_k {α1 α2 β ρ : Type} (x : α1) (y : α2) (f : ρ → Option β) (k : α1 → α2 → Option β) : cb_bs2 (some (.inr (x, y))) f k = k x y := rfl
/-- a number that is told, in its range or not -/
theorem cn_range (p : Int32) (n : Nat) : (∃ j : Nat, j < n ∧ p = nI j) ∨ ¬ (0 ≤ p.toInt ∧ p.toInt < n) := by
  by_cases h : 0 ≤ p.toInt ∧ p.toInt < n
  · left
    refine ⟨p.toInt.toNat, by omega, ?_⟩
    apply Int32.toInt_inj.mp
    have hb := Int32.toInt_lt p
    rw [cn_ti (by omega)]
    omega
  · exact Or.inr h
theorem v_isOff (p q : Int32) : f_X6_isOff p q = if 0 ≤ p.toInt ∧ p.toInt < q.toInt then 0 else 1 := by
  unfold f_X6_isOff
  simp only [cb_let_eq, Int32.lt_iff_toInt_lt]
  have e0 : (0 : Int32).toInt = 0 := by decide
  rw [e0]
  by_cases h1 : p.toInt < 0
  · rw [if_pos h1, if_neg (by omega)]
  · rw [if_neg h1]
    by_cases h2 : p.toInt < q.toInt
    · rw [if_pos h2, if_pos (by omega)]
    · rw [if_neg h2, if_neg (by omega)]
theorem v_isOff_in {j n : Nat} (h : j < n) (hn : n < 2147483648) : f_X6_isOff (nI j) (nI n) = nI 0 := by
  rw [v_isOff, cn_ti (by omega), cn_ti hn, if_pos (by omega)]
  rfl
theorem v_isOff_out {p : Int32} {n : Nat} (h : ¬ (0 ≤ p.toInt ∧ p.toInt < n)) (hn : n < 2147483648) : f_X6_isOff p (nI n) = nI 1 := by
  rw [v_isOff, cn_ti hn, if_neg h]
  rfl
theorem v_in (x y z : Int64) : f_X7_in x y z = if y.toInt ≤ x.toInt ∧ x.toInt ≤ z.toInt then 1 else 0 := by
  unfold f_X7_in
  simp only [lg_cmp_lt, lg_cmp_gt, Int64.lt_iff_toInt_lt]
  by_cases h1 : x.toInt < y.toInt
  · rw [if_pos h1, if_neg (by omega)]
  · rw [if_neg h1]
    by_cases h2 : z.toInt < x.toInt
    · rw [if_pos h2, if_neg (by omega)]
    · rw [if_neg h2, if_pos (by omega)]
theorem v_in3 (x y z : Int32) : f_X7_in x.toInt64 y.toInt64 z.toInt64 = if y.toInt ≤ x.toInt ∧ x.toInt ≤ z.toInt then 1 else 0 := by
  rw [v_in, Int32.toInt_toInt64, Int32.toInt_toInt64, Int32.toInt_toInt64]
theorem v_in_in {j b : Nat} (h : j ≤ b) (hb : b < 2147483648) : f_X7_in (nI j).toInt64 0 (lN b) = nI 1 := by
  rw [v_in, Int32.toInt_toInt64, cn_ti (by omega), lN_toInt hb, if_pos ⟨by show (0 : Int) ≤ _; omega, by omega⟩]
  rfl
theorem v_in_out {p : Int32} {b : Nat} (h : ¬ (0 ≤ p.toInt ∧ p.toInt < b + 1)) (hb : b < 2147483648) : f_X7_in p.toInt64 0 (lN b) = nI 0 := by
  rw [v_in, Int32.toInt_toInt64, lN_toInt hb, if_neg (fun q => h ⟨q.1, by omega⟩)]
  rfl
theorem liL (n : Nat) : (OfNat.ofNat n : Int64) = lN n := id rfl
/-- a loop by its counter -/
theorem cb_loop {σ ρ : Type} (L : Nat → Nat → σ → Option ρ) (Inv : Nat → σ → Prop) (n : Nat) (P : ρ → Prop) (hexit : ∀ m s, Inv n s → ∃ r, L (m + 1) n s = some r ∧ P r)
    (hstep : ∀ m k s, k < n → Inv k s → (∃ r, L (m + 1) k s = some r ∧ P r) ∨ ∃ s', Inv (k + 1) s' ∧ L (m + 1) k s = L m (k + 1) s') : ∀ m k s, n - k < m → k ≤ n → Inv k s → ∃ r, L m k s = some r ∧ P r := by
  intro m
  induction m with
  | zero => intro k s h; omega
  | succ m ih =>
    intro k s h1 h2 h3
    by_cases e : k = n
    · subst e
      exact hexit m s h3
    · rcases hstep m k s (by omega) h3 with h | ⟨s', h4, h5⟩
      · exact h
      · rw [h5]
        exact ih (k + 1) s' (by omega) (by omega) h4
theorem cb_loop0 {σ ρ : Type} (L : Nat → Nat → σ → Option ρ) (Inv : Nat → σ → Prop) (n : Nat) (P : ρ → Prop) (s : σ) (hn : n < 2000) (h0 : Inv 0 s) (hexit : ∀ m s, Inv n s → ∃ r, L (m + 1) n s = some r ∧ P r)
    (hstep : ∀ m k s, k < n → Inv k s → (∃ r, L (m + 1) k s = some r ∧ P r) ∨ ∃ s', Inv (k + 1) s' ∧ L (m + 1) k s = L m (k + 1) s') : ∃ r, L cb_fuel 0 s = some r ∧ P r := cb_loop L Inv n P hexit hstep cb_fuel 0 s (by unfold cb_fuel; omega) (Nat.zero_le _) h0
