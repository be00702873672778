/-! masks: an int whose bits are told -/
theorem bi_bv (n : Nat) : (nI n).toBitVec = BitVec.ofNat 32 n := rfl
theorem bi_ext {x y : Int32} (h : x.toBitVec = y.toBitVec) : x = y := Int32.toBitVec_inj.mp h
theorem bi_and (a b : Nat) : nI a &&& nI b = nI (a &&& b) := by
  apply bi_ext
  rw [Int32.toBitVec_and, bi_bv, bi_bv, bi_bv]
  apply BitVec.eq_of_getLsbD_eq
  intro i hi
  simp [BitVec.getLsbD_and, BitVec.getLsbD_ofNat, Nat.testBit_and, hi]
theorem bi_or (a b : Nat) : nI a ||| nI b = nI (a ||| b) := by
  apply bi_ext
  rw [Int32.toBitVec_or, bi_bv, bi_bv, bi_bv]
  apply BitVec.eq_of_getLsbD_eq
  intro i hi
  simp [BitVec.getLsbD_or, BitVec.getLsbD_ofNat, Nat.testBit_or, hi]
theorem bi_xor (a b : Nat) : nI a ^^^ nI b = nI (a ^^^ b) := by
  apply bi_ext
  rw [Int32.toBitVec_xor, bi_bv, bi_bv, bi_bv]
  apply BitVec.eq_of_getLsbD_eq
  intro i hi
  simp [BitVec.getLsbD_xor, BitVec.getLsbD_ofNat, Nat.testBit_xor, hi]
theorem bi_andn (a b : Nat) : nI a &&& (nI b ^^^ (-nI 1)) = nI (a ^^^ (a &&& b)) := by
  apply bi_ext
  rw [Int32.toBitVec_and, Int32.toBitVec_xor, bi_bv, bi_bv, bi_bv]
  have e : (-nI 1).toBitVec = BitVec.allOnes 32 := by decide
  rw [e]
  apply BitVec.eq_of_getLsbD_eq
  intro i hi
  simp only [BitVec.getLsbD_and, BitVec.getLsbD_xor, BitVec.getLsbD_ofNat, BitVec.getLsbD_allOnes, Nat.testBit_and, Nat.testBit_xor, hi, decide_true, Bool.true_and]
  cases a.testBit i <;> cases b.testBit i <;> rfl
theorem bi_k31 {k : Nat} (hk : k < 31) : nI k &&& nI 31 = nI k := by rw [pk_andN (by omega) 5 (by decide), Nat.mod_eq_of_lt (by omega)]
theorem bi_smod : ∀ k : Nat, k < 31 → ((nI k).toBitVec.smod 32).toNat = k := by decide +kernel
theorem bi_one {k : Nat} (hk : k < 31) : nI 1 <<< (nI k &&& nI 31) = nI (2 ^ k) := by
  rw [bi_k31 hk, pk_shlN (nI k) k (bi_smod k hk) (by rw [Nat.one_mul]; exact Nat.pow_lt_pow_right (by decide) (by omega)), Nat.one_mul]
theorem bi_shr {x k : Nat} (hx : x < 2147483648) (hk : k < 31) : nI x >>> (nI k &&& nI 31) = nI (x / 2 ^ k) := by
  rw [bi_k31 hk, pk_shrN hx (nI k) k (bi_smod k hk)]
theorem bi_bit {x k : Nat} (hx : x < 2147483648) (hk : k < 31) : (nI x >>> (nI k &&& nI 31)) &&& nI 1 = b2i (x.testBit k) := by
  rw [bi_shr hx hk, pk_andN (by have := Nat.div_le_self x (2 ^ k); omega) 1 (by decide), Nat.testBit_eq_decide_div_mod_eq]
  have h2 : x / 2 ^ k % 2 ^ 1 < 2 := Nat.mod_lt _ (by decide)
  rw [show (2 : Nat) ^ 1 = 2 from rfl] at h2 ⊢
  rcases (show x / 2 ^ k % 2 = 0 ∨ x / 2 ^ k % 2 = 1 by omega) with h | h <;> rw [h] <;> rfl
theorem bi_pow {n : Nat} (hn : n ≤ 30) : 2 ^ n ≤ 1073741824 := by
  have := Nat.pow_le_pow_right (n := 2) (by decide) hn
  exact this
/-- of n bits, each as told -/
def msk (n : Nat) (x : Int32) (p : Nat → Bool) : Prop := ∃ b : Nat, b < 2 ^ n ∧ x = nI b ∧ ∀ j, j < n → b.testBit j = p j
theorem msk.cong {n : Nat} {x : Int32} {p q : Nat → Bool} (h : msk n x p) (e : ∀ j, j < n → p j = q j) : msk n x q := by
  obtain ⟨b, h1, h2, h3⟩ := h
  exact ⟨b, h1, h2, fun j hj => (h3 j hj).trans (e j hj)⟩
theorem msk_0 {n : Nat} : msk n (nI 0) (fun _ => false) := ⟨0, Nat.two_pow_pos n, rfl, fun j _ => Nat.zero_testBit j⟩
theorem msk_or1 {n h : Nat} {x : Int32} {p : Nat → Bool} (hm : msk n x p) (hh : h < n) (hn : n ≤ 30) : msk n (x ||| (nI 1 <<< (nI h &&& nI 31))) (fun j => p j || decide (j = h)) := by
  obtain ⟨b, h1, rfl, h3⟩ := hm
  refine ⟨b ||| 2 ^ h, Nat.or_lt_two_pow h1 (Nat.pow_lt_pow_right (by decide) hh), by rw [bi_one (by omega), bi_or], fun j hj => ?_⟩
  rw [Nat.testBit_or, h3 j hj]
  by_cases e : j = h
  · subst e; simp [Nat.testBit_two_pow_self]
  · simp [Nat.testBit_two_pow_of_ne (Ne.symm e), e]
theorem msk_or {n : Nat} {x y : Int32} {p q : Nat → Bool} (h1 : msk n x p) (h2 : msk n y q) : msk n (x ||| y) (fun j => p j || q j) := by
  obtain ⟨b, a1, rfl, a3⟩ := h1
  obtain ⟨c, b1, rfl, b3⟩ := h2
  exact ⟨b ||| c, Nat.or_lt_two_pow a1 b1, bi_or b c, fun j hj => by rw [Nat.testBit_or, a3 j hj, b3 j hj]⟩
theorem msk_and {n : Nat} {x y : Int32} {p q : Nat → Bool} (h1 : msk n x p) (h2 : msk n y q) : msk n (x &&& y) (fun j => p j && q j) := by
  obtain ⟨b, a1, rfl, a3⟩ := h1
  obtain ⟨c, b1, rfl, b3⟩ := h2
  exact ⟨b &&& c, Nat.lt_of_le_of_lt Nat.and_le_left a1, bi_and b c, fun j hj => by rw [Nat.testBit_and, a3 j hj, b3 j hj]⟩
theorem msk_andn {n : Nat} {x y : Int32} {p q : Nat → Bool} (h1 : msk n x p) (h2 : msk n y q) : msk n (x &&& (y ^^^ (-nI 1))) (fun j => p j && !(q j)) := by
  obtain ⟨b, a1, rfl, a3⟩ := h1
  obtain ⟨c, b1, rfl, b3⟩ := h2
  refine ⟨b ^^^ (b &&& c), Nat.xor_lt_two_pow a1 (Nat.lt_of_le_of_lt Nat.and_le_left a1), bi_andn b c, fun j hj => ?_⟩
  rw [Nat.testBit_xor, Nat.testBit_and, a3 j hj, b3 j hj]
  show _ = (p j && !(q j))
  cases p j <;> cases q j <;> rfl
theorem msk_nil {n : Nat} {x : Int32} {p : Nat → Bool} (hm : msk n x p) (hn : n ≤ 30) : (x = nI 0) = (∀ j, j < n → p j = false) := by
  obtain ⟨b, h1, rfl, h3⟩ := hm
  have := bi_pow hn
  rw [cn_eq (by omega) (by omega)]
  apply propext
  constructor
  · rintro rfl j hj
    rw [← h3 j hj]
    exact Nat.zero_testBit j
  · intro h
    apply Nat.eq_of_testBit_eq
    intro i
    rw [Nat.zero_testBit]
    rcases Nat.lt_or_ge i n with q | q
    · rw [h3 i q, h i q]
    · exact Nat.testBit_lt_two_pow (Nat.lt_of_lt_of_le h1 (Nat.pow_le_pow_right (by decide) q))
theorem msk_bit {n k : Nat} {x : Int32} {p : Nat → Bool} (hm : msk n x p) (hk : k < n) (hn : n ≤ 30) : (x >>> (nI k &&& nI 31)) &&& nI 1 = b2i (p k) := by
  obtain ⟨b, h1, rfl, h3⟩ := hm
  have := bi_pow hn
  rw [bi_bit (by omega) (by omega), h3 k hk]
theorem msk_one {n k : Nat} {x : Int32} {p : Nat → Bool} (hm : msk n x p) (hk : k < n) (hn : n ≤ 30) : (x &&& (nI 1 <<< (nI k &&& nI 31)) = nI 0) = (p k = false) := by
  have h2 : msk n (nI 1 <<< (nI k &&& nI 31)) (fun j => decide (j = k)) := ⟨2 ^ k, Nat.pow_lt_pow_right (by decide) hk, bi_one (by omega), fun j _ => by
    by_cases e : j = k
    · subst e; simp [Nat.testBit_two_pow_self]
    · simp [Nat.testBit_two_pow_of_ne (Ne.symm e), e]⟩
  rw [msk_nil (msk_and hm h2) hn]
  apply propext
  constructor
  · intro h
    have := h k hk
    simpa using this
  · intro h j _
    by_cases e : j = k
    · subst e; simp [h]
    · simp [e]
theorem msk_none {n : Nat} {x : Int32} {p : Nat → Bool} (hm : msk n x p) {k : Nat} (hk : k < n) (hn : n ≤ 30) : (x >>> (nI k &&& nI 31) = nI 0) = (∀ j, j < n → k ≤ j → p j = false) := by
  obtain ⟨b, h1, rfl, h3⟩ := hm
  have := bi_pow hn
  have hd := Nat.div_le_self b (2 ^ k)
  rw [bi_shr (by omega) (by omega), cn_eq (by omega) (by omega)]
  apply propext
  constructor
  · intro h j hj hkj
    rw [← h3 j hj]
    have e : b.testBit j = (b / 2 ^ k).testBit (j - k) := by rw [Nat.testBit_div_two_pow]; congr 1; omega
    rw [e, h]
    exact Nat.zero_testBit _
  · intro h
    apply Nat.eq_of_testBit_eq
    intro i
    rw [Nat.zero_testBit, Nat.testBit_div_two_pow]
    rcases Nat.lt_or_ge (i + k) n with q | q
    · rw [h3 _ q, h _ q (by omega)]
    · exact Nat.testBit_lt_two_pow (Nat.lt_of_lt_of_le h1 (Nat.pow_le_pow_right (by decide) q))
theorem msk_lb {x : Int32} {p : Nat → Bool} (hm : msk 8 x p) : f_X6_leastBit x = some (eO (fsN p 8)) := by
  suffices h : ∃ r, f_X6_leastBit_L2 cb_fuel x (nI 0) = some r ∧ (match fsN p 8 with | some k => r = .inl (nI k) | none => r = .inr ()) by
    obtain ⟨r, h1, h2⟩ := h
    simp only [f_X6_leastBit, li, h1]
    cases hf : fsN p 8 with
    | none => rw [hf] at h2; dsimp only at h2; rw [h2, cb_bs_k]; rfl
    | some k => rw [hf] at h2; dsimp only at h2; rw [h2, cb_bs_r]; rfl
  refine cb_loop0 (fun m k (_ : Unit) => f_X6_leastBit_L2 m x (nI k)) (fun k _ => fsN p k = none) 8 _ () (by omega) rfl ?_ ?_
  · intro m _ h
    refine ⟨.inr (), ?_, ?_⟩
    · simp (disch := first | omega | trivial) only [f_X6_leastBit_L2, li, cn_le, if_pos]
    · rw [h]
  · intro m k _ hk h
    have hb := msk_bit hm hk (by omega)
    cases hp : p k with
    | false =>
      right
      refine ⟨(), ?_, ?_⟩
      · show fsN p (k + 1) = none
        rw [fsN, h]
        dsimp only
        rw [hp, if_neg (by simp)]
      · rw [hp] at hb
        simp (disch := first | omega | trivial) only [f_X6_leastBit_L2, li, cn_le, if_pos, if_neg, hb, b2i_0, cn_add]
    | true =>
      left
      rw [hp] at hb
      refine ⟨.inl (nI k), ?_, ?_⟩
      · simp (disch := first | omega | trivial) only [f_X6_leastBit_L2, li, cn_le, if_pos, if_neg, hb, b2i_0, Bool.true_eq_false]
      · rw [fsN_some (n := k + 1) (k := k) (by omega) (by rw [fsN, h]; dsimp only; rw [hp, if_pos rfl])]
/-- a fill -/
theorem x_fill {M : cb_Mem} {q z : Nat} {v : Int32} (hz : z < 100) : ∃ M', f_J7_fill_53178 q z v M = some M' ∧ agr M M' (fun k j => k = q ∧ j < z) ∧ ∀ j, j < z → M' q j = v := by
  suffices h : ∃ M', f_J7_fill_53178_L5 cb_fuel q z v (nI z) (nI 0) M = some M' ∧ agr M M' (fun k j => k = q ∧ j < z) ∧ ∀ j, j < z → M' q j = v by
    obtain ⟨M', f, r⟩ := h
    refine ⟨M', ?_, r⟩
    simp only [f_J7_fill_53178, li, cb_let_eq]
    rw [show Int32.ofNat z = nI z from rfl, f]
    rfl
  refine cb_loop0 (fun m k (s : cb_Mem) => f_J7_fill_53178_L5 m q z v (nI z) (nI k) s) (fun k s => agr M s (fun k j => k = q ∧ j < z) ∧ ∀ j, j < k → s q j = v) z _ M (by omega) ⟨agr.rf, fun j hj => absurd hj (Nat.not_lt_zero j)⟩ ?_ ?_
  · rintro m s ⟨ha, h1⟩
    refine ⟨s, ?_, ha, h1⟩
    simp (disch := first | omega | trivial) only [f_J7_fill_53178_L5, cn_le, if_pos]
  · rintro m k s hk ⟨ha, h1⟩
    right
    refine ⟨cb_up s q k v, ⟨ha.up ⟨rfl, hk⟩, fun j hj => ?_⟩, ?_⟩
    · rw [cu, if_pos rfl]
      by_cases e : j = k
      · rw [if_pos e]
      · rw [if_neg e]; exact h1 j (by omega)
    · simp (disch := first | omega | trivial) only [f_J7_fill_53178_L5, li, cn_le, if_pos, if_neg, cn_in, cn_cl, cb_let_eq, cn_add]
