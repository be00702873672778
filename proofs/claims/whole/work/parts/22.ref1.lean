/-! the reference: frosts, wet days, rabbits as it holds them -/
/-- weather lists w0 w1, chill pattern ch -/
def mW (M : cb_Mem) (w0 w1 : List Nat) (ch : Option Nat) : Prop := M 9 0 = nI w0.length ∧ w0.length ≤ 6 ∧ (∀ j, j < w0.length → M 10 j = nI (w0.getD j 0) ∧ w0.getD j 0 < 30) ∧ M 9 1 = nI w1.length ∧ w1.length ≤ 6 ∧ (∀ j, j < w1.length → M 10 (6 + j) = nI (w1.getD j 0) ∧ w1.getD j 0 < 40) ∧ M 0 16 = eO ch ∧ ∀ c, ch = some c → c < 1024
def frO (w0 : List Nat) (ch : Option Nat) (d : Nat) : Bool := match ch with
  | none => mB w0 d
  | some c => decide (d < 10) && c.testBit d
theorem m_shr {x k : Nat} (hx : x < 1048576) (hk : k < 31) : (nI x >>> (nI k &&& nI 31)) &&& nI 1 = b2i (x.testBit k) := by
  have e : nI k &&& nI 31 = nI k := by
    rw [pk_andN (by omega) 5 (by decide), Nat.mod_eq_of_lt (by omega)]
  rw [e, pk_shrN (by omega) (nI k) k (by
    rw [show (nI k).toBitVec = BitVec.ofNat 32 k from rfl]
    have h : k = 0 ∨ k = 1 ∨ k = 2 ∨ k = 3 ∨ k = 4 ∨ k = 5 ∨ k = 6 ∨ k = 7 ∨ k = 8 ∨ k = 9 ∨ k = 10 ∨ k = 11 ∨ k = 12 ∨ k = 13 ∨ k = 14 ∨ k = 15 ∨ k = 16 ∨ k = 17 ∨ k = 18 ∨ k = 19 ∨ k = 20 ∨ k = 21 ∨ k = 22 ∨ k = 23 ∨ k = 24 ∨ k = 25 ∨ k = 26 ∨ k = 27 ∨ k = 28 ∨ k = 29 ∨ k = 30 := by omega
    rcases h with h | h | h | h | h | h | h | h | h | h | h | h | h | h | h | h | h | h | h | h | h | h | h | h | h | h | h | h | h | h | h <;> subst h <;> decide)]
  rw [pk_andN (by have := Nat.div_le_self x (2 ^ k); omega) 1 (by decide)]
  rw [Nat.testBit_eq_decide_div_mod_eq]
  have h2 : x / 2 ^ k % 2 ^ 1 < 2 := Nat.mod_lt _ (by decide)
  rw [show (2 : Nat) ^ 1 = 2 from rfl] at h2 ⊢
  rcases (show x / 2 ^ k % 2 = 0 ∨ x / 2 ^ k % 2 = 1 by omega) with h | h <;> rw [h] <;> rfl
theorem m_isIn {x k : Nat} (hx : x < 1048576) (hk : k < 31) : f_X7_isIn (nI x) (nI k) = b2i (x.testBit k) := by
  unfold f_X7_isIn
  have h := m_shr hx hk
  rw [show (31 : Int32) = nI 31 from rfl, show (1 : Int32) = nI 1 from rfl, show (0 : Int32) = nI 0 from rfl, h]
  cases x.testBit k <;> rfl
theorem m_isSo0n {M : cb_Mem} {w0 w1 : List Nat} (hW : mW M w0 w1 none) {d : Nat} (hd : d < 64) : f_X7_isSo (nI 0) (nI d) M = some (b2i (mB w0 d)) := by
  obtain ⟨h1, h2, h3, h4, h5, h6, h7, h8⟩ := hW
  have hL := m_isSoL (M := M) (what := 0) (d := d) (n := w0.length) (w := fun j => w0.getD j 0) (by decide) h1 h2 (fun j hj => by rw [Nat.mul_zero, Nat.zero_add]; exact (h3 j hj).1) (fun j hj => by have := (h3 j hj).2; omega) hd
  rw [show eO none = -nI 1 from rfl] at h7
  unfold f_X7_isSo
  rw [cb_let_eq, if_pos (li 0).symm, if_pos (h7.trans (by rw [li])), li, li, hL, Option.bind_some, b2i_1]
  rfl
theorem m_isSo0s {M : cb_Mem} {w0 w1 : List Nat} {c : Nat} (hW : mW M w0 w1 (some c)) {d : Nat} (hd : d < 64) : f_X7_isSo (nI 0) (nI d) M = some (b2i (decide (d < 10) && c.testBit d)) := by
  obtain ⟨h1, h2, h3, h4, h5, h6, h7, h8⟩ := hW
  have hc := h8 c rfl
  rw [show eO (some c) = nI c from rfl] at h7
  generalize hk : f_X7_isSo_L40 cb_fuel = K
  simp (disch := omega) only [f_X7_isSo, li, cb_let_eq, h7, if_true, cn_eq1, if_false, cn_le, hk]
  by_cases e : 10 ≤ d
  · rw [if_pos e]
    simp [show ¬ d < 10 by omega, b2i]
  · rw [if_neg e, m_isIn (by omega) (by omega)]
    simp only [show d < 10 by omega, decide_true, Bool.true_and]
    cases c.testBit d <;> rfl
theorem m_isSo0 {M : cb_Mem} {w0 w1 : List Nat} {ch : Option Nat} (hW : mW M w0 w1 ch) {d : Nat} (hd : d < 64) : f_X7_isSo (nI 0) (nI d) M = some (b2i (frO w0 ch d)) := by
  cases ch with
  | none => exact m_isSo0n hW hd
  | some c => exact m_isSo0s hW hd
theorem m_isSo1 {M : cb_Mem} {w0 w1 : List Nat} {ch : Option Nat} (hW : mW M w0 w1 ch) {d : Nat} (hd : d < 64) : f_X7_isSo (nI 1) (nI d) M = some (b2i (mB w1 d)) := by
  obtain ⟨h1, h2, h3, h4, h5, h6, h7, h8⟩ := hW
  have hL := m_isSoL (M := M) (what := 1) (d := d) (n := w1.length) (w := fun j => w1.getD j 0) (by decide) h4 h5 (fun j hj => (h6 j hj).1) (fun j hj => by have := (h6 j hj).2; omega) hd
  simp only [f_X7_isSo, li, cb_let_eq]
  rw [if_neg (by rw [cn_eq (by omega) (by omega)]; omega), hL]
  simp only [Option.bind_some, b2i_1]
  rfl
/-- rabbits: rs (day, head), gone ones as bits -/
def mR (M : cb_Mem) (rs : List (Nat × Nat)) (gm : Nat) : Prop := M 0 13 = nI rs.length ∧ rs.length ≤ 8 ∧ (∀ k, k < rs.length → M 11 (2 * k) = nI (rs.getD k (0, 0)).1 ∧ M 11 (2 * k + 1) = nI (rs.getD k (0, 0)).2 ∧ (rs.getD k (0, 0)).1 < 40 ∧ (rs.getD k (0, 0)).2 < 8) ∧ M 0 15 = nI gm ∧ gm < 256
/-- the first rabbit at h of the first n, 40: none -/
def rbN (rs : List (Nat × Nat)) (gm h : Nat) : Nat → Nat
  | 0 => 40
  | n + 1 => if gm.testBit n = false ∧ (rs.getD n (0, 0)).2 = h ∧ (rs.getD n (0, 0)).1 < rbN rs gm h n then (rs.getD n (0, 0)).1 else rbN rs gm h n
def rbF (rs : List (Nat × Nat)) (gm h : Nat) : Nat := rbN rs gm h rs.length
theorem rbN_le (rs : List (Nat × Nat)) (gm h : Nat) : ∀ n, rbN rs gm h n ≤ 40
  | 0 => Nat.le_refl _
  | n + 1 => by
    have ih := rbN_le rs gm h n
    rw [rbN]
    split <;> omega
