/-! longs -/
theorem l6_ti {a : Nat} (h : a < 2 ^ 62) : (lN a).toInt = (a : Int) := lg_ofNat_toInt (by omega)
theorem l6_eq {a b : Nat} (ha : a < 2 ^ 62) (hb : b < 2 ^ 62) : (lN a = lN b) = (a = b) := by
  refine propext ⟨fun h => ?_, fun h => by rw [h]⟩
  have := congrArg Int64.toInt h
  rw [l6_ti ha, l6_ti hb] at this
  omega
theorem l6_le {a b : Nat} (ha : a < 2 ^ 62) (hb : b < 2 ^ 62) : (lN a ≤ lN b) = (a ≤ b) := by
  rw [Int64.le_iff_toInt_le, l6_ti ha, l6_ti hb]
  exact propext (by omega)
theorem l6_shr {a : Nat} (h : a < 2 ^ 62) : lN a >>> ((nI 1).toInt64 &&& lN 63) = lN (a / 2) := by
  have hD : (((nI 1).toInt64 &&& lN 63).toBitVec.smod 64).toNat = 1 := by decide
  apply Int64.toInt_inj.mp
  have e : (lN a >>> ((nI 1).toInt64 &&& lN 63)).toInt = (lN a).toInt >>> 1 := by
    rw [← hD]
    exact BitVec.toInt_sshiftRight ..
  rw [e, Int.shiftRight_eq_div_pow, l6_ti h, l6_ti (by omega)]
  rfl
theorem l6_and {a : Nat} (h : a < 2 ^ 62) : lN a &&& lN 1 = lN (a % 2) := by
  apply Int64.toBitVec_inj.mp
  apply BitVec.eq_of_toNat_eq
  show (BitVec.ofNat 64 a &&& BitVec.ofNat 64 1).toNat = (BitVec.ofNat 64 (a % 2)).toNat
  rw [BitVec.toNat_and, BitVec.toNat_ofNat, BitVec.toNat_ofNat, BitVec.toNat_ofNat, Nat.mod_eq_of_lt (show a < 2 ^ 64 by omega), show 1 % 2 ^ 64 = 2 ^ 1 - 1 from rfl, Nat.and_two_pow_sub_one_eq_mod, Nat.mod_eq_of_lt (show a % 2 < 2 ^ 64 by omega)]
theorem l6_div {a b : Nat} (ha : a < 2 ^ 62) (h0 : 0 < b) (hb : b < 2 ^ 62) : lN a / lN b = lN (a / b) := by
  have h1 : a / b ≤ a := Nat.div_le_self _ _
  apply Int64.toInt_inj.mp
  rw [lg_ldiv_nonneg (by rw [l6_ti ha]; omega) (by rw [l6_ti hb]; omega), l6_ti ha, l6_ti hb, l6_ti (by omega)]
  rfl
theorem l6_rem {a b : Nat} (ha : a < 2 ^ 62) (h0 : 0 < b) (hb : b < 2 ^ 62) : lN a - lN (a / b) * lN b = lN (a % b) := by
  have h1 := Nat.div_add_mod a b
  have h2 : a / b * b ≤ a := Nat.div_mul_le_self a b
  rw [lN_mul, lN_sub h2]
  congr 1
  rw [Nat.mul_comm] at h1
  omega
theorem cm_le0 (x y : Int64) : (lg_cmp x y ≤ nI 0) = (x ≤ y) := propext (lg_cmp_le x y)
theorem cm_eq0 (x y : Int64) : (lg_cmp x y = nI 0) = (x = y) := propext (lg_cmp_eq x y)
/-! halving, and the reference's way by a common divisor -/
theorem odd_gcd {a : Nat} (h : a % 2 = 1) (t : Nat) : Nat.gcd a (2 ^ t) = 1 := by
  have h1 : Nat.gcd 2 a = 1 := by rw [Nat.gcd_rec, h]; rfl
  have h2 : Nat.Coprime a 2 := by unfold Nat.Coprime; rw [Nat.gcd_comm]; exact h1
  exact Nat.Coprime.pow_right t h2
theorem x_halve {v4 : Int32} : ∀ (t m a i : Nat), t < m → i + t ≤ 40 → a < 2 ^ 62 → f_X6_chill_L86 m v4 (lN a) (lN (2 ^ t)) (nI i) = some (lN (a / Nat.gcd a (2 ^ t)), lN (2 ^ t / Nat.gcd a (2 ^ t)))
  | 0, m, a, i, hm, hi, ha => by
    obtain ⟨m', rfl⟩ : ∃ m', m = m' + 1 := ⟨m - 1, by omega⟩
    rw [show (2 : Nat) ^ 0 = 1 from rfl, Nat.gcd_one_right, Nat.div_one, Nat.div_one]
    by_cases q : 40 ≤ i
    · simp (disch := first | omega | trivial) only [f_X6_chill_L86, li, liL, cn_le, if_pos]
    · simp (disch := first | omega | trivial) only [f_X6_chill_L86, li, liL, cn_le, if_neg, cm_le0, l6_le, if_pos]
  | t + 1, m, a, i, hm, hi, ha => by
    obtain ⟨m', rfl⟩ : ∃ m', m = m' + 1 := ⟨m - 1, by omega⟩
    have hp : 2 ^ (t + 1) = 2 * 2 ^ t := by rw [Nat.pow_succ, Nat.mul_comm]
    have h0 := Nat.two_pow_pos t
    have hb : 2 ^ (t + 1) ≤ 2 ^ 40 := Nat.pow_le_pow_right (by decide) (by omega)
    have hb' : 2 ^ (t + 1) < 2 ^ 62 := by omega
    by_cases q : a % 2 = 0
    · have ih := x_halve (v4 := v4) t m' (a / 2) (i + 1) (by omega) (by omega) (by omega)
      have ha2 : a = 2 * (a / 2) := by omega
      have hg : Nat.gcd a (2 ^ (t + 1)) = 2 * Nat.gcd (a / 2) (2 ^ t) := by
        rw [hp]
        conv => lhs; rw [ha2]
        exact Nat.gcd_mul_left 2 (a / 2) (2 ^ t)
      have e1 : a / Nat.gcd a (2 ^ (t + 1)) = (a / 2) / Nat.gcd (a / 2) (2 ^ t) := by
        rw [hg]
        conv => lhs; lhs; rw [ha2]
        exact Nat.mul_div_mul_left _ _ (by omega)
      have e2 : 2 ^ (t + 1) / Nat.gcd a (2 ^ (t + 1)) = 2 ^ t / Nat.gcd (a / 2) (2 ^ t) := by
        rw [hg, hp]
        exact Nat.mul_div_mul_left _ _ (by omega)
      have e3 : 2 ^ (t + 1) / 2 = 2 ^ t := by omega
      rw [e1, e2, ← ih]
      generalize hB : 2 ^ (t + 1) = B at hb' e3
      have hB1 : ¬ B ≤ 1 := by omega
      have hs : lN B >>> ((nI 1).toInt64 &&& lN 63) = lN (2 ^ t) := by rw [l6_shr hb', e3]
      simp (disch := first | omega | trivial) only [f_X6_chill_L86, li, liL, cn_le, if_neg, cm_le0, l6_le, cm_eq0, l6_and, l6_eq, if_pos, cb_let_eq, hs, l6_shr, cn_add]
    · rw [odd_gcd (by omega), Nat.div_one, Nat.div_one]
      generalize hB : 2 ^ (t + 1) = B at hb'
      have hB1 : ¬ B ≤ 1 := by omega
      simp (disch := first | omega | trivial) only [f_X6_chill_L86, li, liL, cn_le, if_neg, cm_le0, l6_le, cm_eq0, l6_and, l6_eq]
theorem y_gcdS {m a b : Nat} {v0 v2 : Int64} {v4 : Int32} (h0 : 0 < b) (ha : a < 2 ^ 62) (hb : b < 2 ^ 62) : f_X7_part_L6 (m + 1) v0 v2 v4 (lN a) (lN b) = f_X7_part_L6 m v0 v2 v4 (lN b) (lN (a % b)) := by
  have h1 : ¬ b = 0 := by omega
  simp (disch := first | omega | trivial) only [f_X7_part_L6, li, liL, cm_eq0, l6_eq, if_neg, cb_let_eq, l6_div, l6_rem]
theorem y_gcd0 {m a : Nat} {v0 v2 : Int64} {v4 : Int32} : f_X7_part_L6 (m + 1) v0 v2 v4 (lN a) (lN 0) = some (lN a) := by
  simp (disch := first | omega | trivial) only [f_X7_part_L6, li, liL, cm_eq0, if_pos]
theorem y_gcd {v0 v2 : Int64} {v4 : Int32} : ∀ (k m a b : Nat), b < 2 ^ k → b < 2 ^ 62 → a < 2 ^ 62 → 2 * k < m → f_X7_part_L6 m v0 v2 v4 (lN a) (lN b) = some (lN (Nat.gcd a b))
  | 0, m, a, b, hb, _, ha, hm => by
    obtain ⟨m', rfl⟩ : ∃ m', m = m' + 1 := ⟨m - 1, by omega⟩
    have h0 : b = 0 := by have : b < 1 := hb; omega
    rw [h0, y_gcd0, Nat.gcd_zero_right]
  | k + 1, m, a, b, hb, hb2, ha, hm => by
    obtain ⟨m', rfl⟩ : ∃ m', m = m' + 1 := ⟨m - 1, by omega⟩
    by_cases h0 : b = 0
    · rw [h0, y_gcd0, Nat.gcd_zero_right]
    · have hr : a % b < b := Nat.mod_lt _ (by omega)
      have hg : Nat.gcd a b = Nat.gcd b (a % b) := by rw [Nat.gcd_comm, Nat.gcd_rec, Nat.gcd_comm]
      rw [y_gcdS (by omega) ha hb2, hg]
      have hp : 2 ^ (k + 1) = 2 * 2 ^ k := by rw [Nat.pow_succ, Nat.mul_comm]
      by_cases q : a % b < 2 ^ k
      · exact y_gcd k m' b (a % b) q (by omega) hb2 (by omega)
      · generalize hR : a % b = R at hr q
        have h0k := Nat.two_pow_pos k
        obtain ⟨m'', rfl⟩ : ∃ m'', m' = m'' + 1 := ⟨m' - 1, by omega⟩
        have h3 : b % R = b - R := by
          rw [Nat.mod_eq_sub_mod (by omega), Nat.mod_eq_of_lt (by omega)]
        have hg2 : Nat.gcd b R = Nat.gcd R (b % R) := by rw [Nat.gcd_comm, Nat.gcd_rec, Nat.gcd_comm]
        rw [y_gcdS (by omega) hb2 (by omega), hg2]
        exact y_gcd k m'' R (b % R) (by omega) (by omega) (by omega) (by omega)
def chQ (a b i : Nat) : Int64 := if i = 0 then lN (a / Nat.gcd a b) else lN (b / Nat.gcd a b)
theorem y_part {a t i : Nat} (ha : a < 2 ^ 62) (ht : t ≤ 40) (hi : i < 2) : f_X7_part (lN a) (lN (2 ^ t)) (nI i) = some (chQ a (2 ^ t) i) := by
  have hb : 2 ^ t ≤ 2 ^ 40 := Nat.pow_le_pow_right (by decide) ht
  have h0 := Nat.two_pow_pos t
  generalize 2 ^ t = b at hb h0
  have hb2 : b < 2 ^ 62 := by omega
  have hg := y_gcd (v0 := lN a) (v2 := lN b) (v4 := nI i) 41 cb_fuel a b (by omega) hb2 ha (by unfold cb_fuel; omega)
  have g0 : 0 < Nat.gcd a b := Nat.gcd_pos_of_pos_right a h0
  have g1 : Nat.gcd a b ≤ b := Nat.le_of_dvd h0 (Nat.gcd_dvd_right a b)
  unfold chQ
  generalize Nat.gcd a b = g at hg g0 g1
  have hg0 : ¬ g = 0 := by omega
  have hg2 : g < 2 ^ 62 := by omega
  rcases (show i = 0 ∨ i = 1 by omega) with e | e <;> subst e
  · simp (disch := first | omega | trivial) only [f_X7_part, li, liL, hg, Option.bind_some, cb_let_eq, if_pos, l6_eq, if_neg, l6_div]
  · simp (disch := first | omega | trivial) only [f_X7_part, li, liL, hg, Option.bind_some, cb_let_eq, c_1n0, if_false, l6_eq, if_neg, l6_div]
/-! weights -/
def pwN (c k : Nat) : Nat → Nat
  | 0 => 1
  | n + 1 => pwN c k n * (if n < k then c else 16 - c)
def qwN (c p : Nat) : Nat → Nat
  | 0 => 1
  | n + 1 => qwN c p n * (if p.testBit n = true then c else 16 - c)
theorem pw_eq {c k : Nat} : ∀ {n : Nat}, pwN c k n = c ^ (min k n) * (16 - c) ^ (n - min k n)
  | 0 => by rw [Nat.min_zero]; rfl
  | n + 1 => by
    rw [pwN, pw_eq]
    by_cases e : n < k
    · rw [if_pos e, show min k n = n by omega, show min k (n + 1) = n + 1 by omega, Nat.sub_self, Nat.sub_self, Nat.pow_zero, Nat.mul_one, Nat.mul_one, Nat.pow_succ]
    · rw [if_neg e, show min k n = k by omega, show min k (n + 1) = k by omega, show n + 1 - k = (n - k) + 1 by omega, Nat.pow_succ, Nat.mul_assoc]
theorem qw_eq {c p : Nat} : ∀ {n : Nat}, qwN c p n = c ^ (cntN p.testBit n) * (16 - c) ^ (n - cntN p.testBit n)
  | 0 => rfl
  | n + 1 => by
    have hle := cntN_le (p := p.testBit) (n := n)
    have hz : cntN p.testBit (n + 1) = cntN p.testBit n + (if p.testBit n = true then 1 else 0) := rfl
    rw [qwN, qw_eq, hz]
    generalize cntN p.testBit n = q at hle
    by_cases e : p.testBit n = true
    · rw [if_pos e, if_pos e, show n + 1 - (q + 1) = n - q by omega, Nat.pow_succ, Nat.mul_right_comm]
    · rw [if_neg e, if_neg e, Nat.add_zero, show n + 1 - q = (n - q) + 1 by omega, Nat.pow_succ, Nat.mul_assoc]
theorem qw_pw {c p n : Nat} : qwN c p n = pwN c (cntN p.testBit n) n := by
  have hle := cntN_le (p := p.testBit) (n := n)
  rw [qw_eq, pw_eq, Nat.min_eq_left hle]
theorem cb_stay {p n : Nat} (hp : p < 2 ^ n) : ∀ {m : Nat}, n ≤ m → cntN p.testBit m = cntN p.testBit n := by
  intro m h
  induction h with
  | refl => rfl
  | step hk ih =>
    rename_i m'
    have hk' : n ≤ m' := hk
    have hz : cntN p.testBit (m' + 1) = cntN p.testBit m' + (if p.testBit m' = true then 1 else 0) := rfl
    have hb : p.testBit m' = false := Nat.testBit_lt_two_pow (Nat.lt_of_lt_of_le hp (Nat.pow_le_pow_right (by decide) hk'))
    rw [hz, ih, hb, if_neg (by decide), Nat.add_zero]
theorem pop_eq {p n : Nat} (hp : p < 2 ^ n) (hn : n ≤ 10) : popN p = cntN p.testBit n := cb_stay hp hn
theorem pw_le {c k : Nat} (hc : c ≤ 16) : ∀ {n : Nat}, pwN c k n ≤ 16 ^ n
  | 0 => Nat.le_refl _
  | n + 1 => by
    rw [pwN, Nat.pow_succ]
    refine Nat.mul_le_mul (pw_le hc) ?_
    split <;> omega
theorem sumN_mul {f : Nat → Nat} {w : Nat → Nat} {g : Nat → Nat} : ∀ {n : Nat}, sumN (fun k => (f k + g k) * w k) n = sumN (fun k => f k * w k) n + sumN (fun k => g k * w k) n
  | 0 => rfl
  | n + 1 => by
    rw [sumN, sumN, sumN, sumN_mul, Nat.add_mul]
    omega
theorem sumN_one {a : Nat} {b : Prop} [Decidable b] {w : Nat → Nat} : ∀ {m : Nat}, sumN (fun k => (if a = k ∧ b then 1 else 0) * w k) m = if a < m ∧ b then w a else 0
  | 0 => by rw [if_neg (fun z => by omega)]; rfl
  | m + 1 => by
    rw [sumN, sumN_one]
    by_cases hb : b
    · by_cases e : a = m
      · subst e
        rw [if_neg (fun z => by omega), if_pos ⟨rfl, hb⟩, if_pos ⟨by omega, hb⟩, Nat.zero_add, Nat.one_mul]
      · rw [if_neg (c := a = m ∧ b) (fun z => e z.1), Nat.zero_mul, Nat.add_zero]
        by_cases q : a < m
        · rw [if_pos ⟨q, hb⟩, if_pos ⟨by omega, hb⟩]
        · rw [if_neg (fun z => q z.1), if_neg (fun z => by omega)]
    · rw [if_neg (fun z => hb z.2), if_neg (fun z => hb z.2), if_neg (fun z => hb z.2), Nat.zero_mul]
theorem sumN_z {w : Nat → Nat} : ∀ {m : Nat}, sumN (fun k => 0 * w k) m = 0
  | 0 => rfl
  | m + 1 => by rw [sumN, sumN_z, Nat.zero_mul]
theorem sumN_bd {f : Nat → Nat} {b : Nat} : ∀ {n : Nat}, (∀ k, k < n → f k ≤ b) → sumN f n ≤ n * b
  | 0, _ => Nat.zero_le _
  | n + 1, h => by
    have h1 := sumN_bd (f := f) (b := b) (n := n) (fun k hk => h k (by omega))
    have h2 := h n (by omega)
    rw [sumN, Nat.add_mul, Nat.one_mul]
    omega
def mpB (t0 t1 : List Nat) (rs : List (Nat × Nat)) (p c : Nat) : Bool := ((wk (FA t0 t1 [] (some p) rs 0)).1 c).isSome
theorem cc_sum {t0 t1 : List Nat} {rs : List (Nat × Nat)} {c m : Nat} {w : Nat → Nat} : ∀ {n : Nat}, (∀ p, p < n → popN p < m) → sumN (fun k => ccN t0 t1 rs n c k * w k) m = sumN (fun p => if mpB t0 t1 rs p c = true then w (popN p) else 0) n
  | 0, _ => sumN_z
  | n + 1, h => by
    have ih := cc_sum (t0 := t0) (t1 := t1) (rs := rs) (c := c) (m := m) (w := w) (n := n) (fun p hp => h p (by omega))
    have hn := h n (by omega)
    have hz : ∀ k, ccN t0 t1 rs (n + 1) c k = ccN t0 t1 rs n c k + (if popN n = k ∧ mpB t0 t1 rs n c = true then 1 else 0) := fun k => rfl
    rw [show (fun k => ccN t0 t1 rs (n + 1) c k * w k) = (fun k => (ccN t0 t1 rs n c k + (if popN n = k ∧ mpB t0 t1 rs n c = true then 1 else 0)) * w k) from funext (fun k => by rw [hz k]), sumN_mul, sumN_one, ih]
    show _ = sumN _ n + _
    congr 1
    simp only [hn, true_and]
theorem cc_le {t0 t1 : List Nat} {rs : List (Nat × Nat)} {c k : Nat} : ∀ {n : Nat}, ccN t0 t1 rs n c k ≤ n
  | 0 => Nat.le_refl _
  | n + 1 => by
    have := cc_le (t0 := t0) (t1 := t1) (rs := rs) (c := c) (k := k) (n := n)
    show ccN t0 t1 rs n c k + _ ≤ _
    dsimp only
    split <;> omega
/-- what is above: over all patterns of frosts from day 0 to day n - 1 -/
def abN (t0 t1 : List Nat) (rs : List (Nat × Nat)) (x c n : Nat) : Nat := sumN (fun p => if mpB t0 t1 rs p c = true then qwN x p n else 0) (2 ^ n)
theorem ab_cc {t0 t1 : List Nat} {rs : List (Nat × Nat)} {x c n : Nat} (hn : n ≤ 10) : sumN (fun k => ccN t0 t1 rs (2 ^ n) c k * pwN x k n) (n + 1) = abN t0 t1 rs x c n := by
  rw [cc_sum (w := fun k => pwN x k n) (fun p hp => by rw [pop_eq hp hn]; have := cntN_le (p := p.testBit) (n := n); omega)]
  unfold abN
  apply sumN_congr
  intro p hp
  rw [qw_pw, pop_eq hp hn]
theorem ab_lt {t0 t1 : List Nat} {rs : List (Nat × Nat)} {x c n : Nat} (hx : x ≤ 16) (hn : n ≤ 10) : abN t0 t1 rs x c n < 2 ^ 62 := by
  have h1 : abN t0 t1 rs x c n ≤ 2 ^ n * 16 ^ n := sumN_bd (fun p _ => by
    split
    · rw [qw_pw]; exact pw_le hx
    · exact Nat.zero_le _)
  have h2 : 2 ^ n ≤ 2 ^ 10 := Nat.pow_le_pow_right (by decide) hn
  have h3 : 16 ^ n ≤ 16 ^ 10 := Nat.pow_le_pow_right (by decide) hn
  have h4 := Nat.mul_le_mul h2 h3
  have h5 : 2 ^ 10 * 16 ^ 10 < 2 ^ 62 := by decide
  omega
def clV (t0 t1 : List Nat) (rs : List (Nat × Nat)) (x d c i : Nat) : Int64 := chQ (abN t0 t1 rs x c (d + 1)) (2 ^ (4 * (d + 1))) i
