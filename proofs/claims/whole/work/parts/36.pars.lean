/-! what a text tells -/
def tel (t k b : Nat) : Option Nat := if k = 0 then (if t = 1 ∧ b = 97 then some 3 else if b = 115 then some 0 else if b = 114 then some 1 else if b = 112 then some 2 else none) else if k = 3 + t then (if b = 59 then some 0 else none) else if k = 1 then (if 48 ≤ b ∧ b ≤ 50 then some (b - 48) else none) else if k = 2 then (if 48 ≤ b ∧ b ≤ 57 then some (b - 48) else none) else (if 49 ≤ b ∧ b ≤ 57 then some (b - 48) else none)
def eW (o : Option Nat) : Int32 := match o with
  | none => -nI 9
  | some v => nI v
theorem v_tells0 : ∀ k, k < 4 → ∀ b, b < 256 → f_X7_tellsOf 0 (nI k) (nI b) = eW (tel 0 k b) := by decide +kernel
theorem v_tells1 : ∀ k, k < 5 → ∀ b, b < 256 → f_X7_tellsOf 1 (nI k) (nI b) = eW (tel 1 k b) := by decide +kernel
theorem v_idx0 : ∀ b, b < 256 → f_J0_indexOf_0f7a4 0 (((nI b).toUInt32 % 65536).toInt32) = some (eO (tel 0 0 b)) := by decide +kernel
theorem v_idx1 : ∀ b, b < 256 → f_J0_indexOf_0f7a4 1 (((nI b).toUInt32 % 65536).toInt32) = some (eO (tel 1 0 b)) := by decide +kernel
theorem v_idx {i b : Nat} (hi : i < 2) (hb : b < 256) : f_J0_indexOf_0f7a4 i (((nI b).toUInt32 % 65536).toInt32) = some (eO (tel i 0 b)) := by
  rcases (show i = 0 ∨ i = 1 by omega) with e | e <;> subst e
  · exact v_idx0 b hb
  · exact v_idx1 b hb
def fl1 (t : Nat) (l : List Nat) (n : Nat) : Option Nat := fsN (fun j => (tel t (j % (4 + t)) (l.getD j 0)).isNone) n
def flt (t : Nat) (l : List Nat) : Option Nat := match fl1 t l l.length with
  | some j => some j
  | none => if l.length = 0 ∨ l.length % (4 + t) = 3 + t then none else some l.length
def pnN (t : Nat) (l : List Nat) : Nat := if flt t l = none then (l.length + 1) / (4 + t) else 0
def pkN (t : Nat) (l : List Nat) (k : Nat) : Nat := (tel t 0 (l.getD ((4 + t) * k) 0)).getD 0
def pdN (t : Nat) (l : List Nat) (k : Nat) : Nat := 10 * (l.getD ((4 + t) * k + 1) 0 - 48) + (l.getD ((4 + t) * k + 2) 0 - 48)
def psN (t : Nat) (l : List Nat) (k : Nat) : Nat := if t = 0 then 0 else l.getD ((4 + t) * k + 3) 0 - 48
theorem fsN_none {p : Nat → Bool} : ∀ {n : Nat}, fsN p n = none → ∀ j, j < n → p j = false
  | 0, _, j, h => absurd h (Nat.not_lt_zero j)
  | n + 1, h, j, hj => by
    rw [fsN] at h
    cases e : fsN p n with
    | some k => rw [e] at h; cases h
    | none =>
      rw [e] at h
      dsimp only at h
      by_cases q : p n = true
      · rw [if_pos q] at h; cases h
      · by_cases ej : j = n
        · subst ej; simpa using q
        · exact fsN_none e j (by omega)
theorem fl1_none {t : Nat} {l : List Nat} {n j : Nat} (h : fl1 t l n = none) (hj : j < n) : ∃ v, tel t (j % (4 + t)) (l.getD j 0) = some v := by
  have := fsN_none h j hj
  cases e : tel t (j % (4 + t)) (l.getD j 0) with
  | none => rw [e] at this; simp at this
  | some v => exact ⟨v, rfl⟩
theorem flt_none {t : Nat} {l : List Nat} (h : flt t l = none) : fl1 t l l.length = none ∧ (l.length = 0 ∨ l.length % (4 + t) = 3 + t) := by
  unfold flt at h
  cases e : fl1 t l l.length with
  | some j => rw [e] at h; cases h
  | none =>
    rw [e] at h
    dsimp only at h
    refine ⟨rfl, ?_⟩
    by_cases q : l.length = 0 ∨ l.length % (4 + t) = 3 + t
    · exact q
    · rw [if_neg q] at h; cases h
theorem tel1 {t b v : Nat} (h : tel t 1 b = some v) (ht : t < 2) : 48 ≤ b ∧ b ≤ 50 ∧ v = b - 48 := by
  unfold tel at h
  rw [if_neg (by omega), if_neg (by omega), if_pos rfl] at h
  by_cases q : 48 ≤ b ∧ b ≤ 50
  · rw [if_pos q] at h; cases h; exact ⟨q.1, q.2, rfl⟩
  · rw [if_neg q] at h; cases h
theorem tel2 {t b v : Nat} (h : tel t 2 b = some v) (ht : t < 2) : 48 ≤ b ∧ b ≤ 57 ∧ v = b - 48 := by
  unfold tel at h
  rw [if_neg (by omega), if_neg (by omega), if_neg (by omega), if_pos rfl] at h
  by_cases q : 48 ≤ b ∧ b ≤ 57
  · rw [if_pos q] at h; cases h; exact ⟨q.1, q.2, rfl⟩
  · rw [if_neg q] at h; cases h
theorem tel3 {b v : Nat} (h : tel 1 3 b = some v) : 49 ≤ b ∧ b ≤ 57 ∧ v = b - 48 := by
  unfold tel at h
  rw [if_neg (by omega), if_neg (by omega), if_neg (by omega), if_neg (by omega)] at h
  by_cases q : 49 ≤ b ∧ b ≤ 57
  · rw [if_pos q] at h; cases h; exact ⟨q.1, q.2, rfl⟩
  · rw [if_neg q] at h; cases h
theorem tel0 {t b v : Nat} (h : tel t 0 b = some v) : v ≤ 2 + t := by
  unfold tel at h
  rw [if_pos rfl] at h
  split at h
  · cases h; omega
  · split at h
    · cases h; omega
    · split at h
      · cases h; omega
      · split at h
        · cases h; omega
        · cases h
def xT (M : cb_Mem) (i : Nat) (l : List Nat) : Prop := M (30 + i) 2 = nI (2 + i) ∧ M (32 + i) 1 = nI l.length ∧ l.length ≤ cx_cap i ∧ ∀ j, j < l.length → M (34 + i) j = nI (l.getD j 0) ∧ l.getD j 0 < 256
def xTp (M : cb_Mem) (i : Nat) (l : List Nat) : Prop := M (30 + i) 7 = eO (flt i l) ∧ M (30 + i) 6 = nI (pnN i l) ∧ ∀ k, k < pnN i l → M (36 + i) k = nI (pkN i l k) ∧ M (38 + i) k = nI (pdN i l k) ∧ M (40 + i) k = nI (psN i l k)
theorem x_at {M : cb_Mem} {k it cap n j : Nat} (hn : M k 1 = nI n) (hc : n ≤ cap) (h9 : cap < 100) (hj : j < n) : f_X2_at k it cap (nI j) M = some (M it j) := by
  simp (disch := first | omega | trivial) only [f_X2_at, li, hn, cb_let_eq, cn_lt, cn_in, cn_cl, if_neg, if_pos]
theorem cap_lt (i : Nat) : cx_cap i < 40 := by
  unfold cx_cap
  split <;> omega
theorem x_fits {M : cb_Mem} {i k b : Nat} (hi : i < 2) (h2 : M (30 + i) 2 = nI (2 + i)) (hk : k < 4 + i) (hb : b < 256) : f_X4_fits i (nI k) (nI b) M = some (b2i (tel i k b).isSome) := by
  rcases (show k = 0 ∨ k = 3 + i ∨ (1 ≤ k ∧ k ≤ 2 + i) by omega) with e | e | ⟨e1, e2⟩
  · subst e
    have hx := v_idx hi hb
    have ht : ∀ v, tel i 0 b = some v → v ≤ 2 + i := fun v h => tel0 h
    rw [show f_X4_fits i (nI 0) (nI b) M = (f_J0_indexOf_0f7a4 i (((nI b).toUInt32 % 65536).toInt32)).bind (fun x2 => if x2 < nI 0 then some (nI 0) else some (nI 1)) from rfl, hx, Option.bind_some]
    cases h : tel i 0 b with
    | none =>
      rw [if_pos (by decide)]
      rfl
    | some v =>
      have := ht v h
      rw [show eO (some v) = nI v from rfl, if_neg (by rw [cn_lt (by omega) (by omega)]; omega)]
      rfl
  · subst e
    unfold tel
    rw [if_neg (by omega), if_pos rfl]
    simp (disch := first | omega | trivial) only [f_X4_fits, li, cn_eq, cn_le, h2, if_neg]
    by_cases q : b = 59
    · rw [if_pos q, if_pos q]; rfl
    · rw [if_neg q, if_neg q]; rfl
  · unfold tel
    rw [if_neg (by omega), if_neg (by omega)]
    rcases (show k = 1 ∨ k = 2 ∨ k = 3 by omega) with e | e | e
    · subst e
      rw [if_pos rfl]
      simp (disch := first | omega | trivial) only [f_X4_fits, li, cn_eq, cn_le, cn_lt, h2, if_neg, if_pos]
      by_cases q1 : b < 48
      · rw [if_pos q1, if_neg (by omega)]; rfl
      · rw [if_neg q1]
        by_cases q2 : 50 < b
        · rw [if_pos q2, if_neg (by omega)]; rfl
        · rw [if_neg q2, if_pos (by omega)]; rfl
    · subst e
      rw [if_neg (by omega), if_pos rfl]
      simp (disch := first | omega | trivial) only [f_X4_fits, li, cn_eq, cn_le, cn_lt, h2, if_neg, if_pos, cb_let_eq]
      by_cases q1 : b < 48
      · rw [if_pos q1, if_neg (by omega)]; rfl
      · rw [if_neg q1]
        by_cases q2 : 57 < b
        · rw [if_pos q2, if_neg (by omega)]; rfl
        · rw [if_neg q2, if_pos (by omega)]; rfl
    · subst e
      rw [if_neg (by omega), if_neg (by omega)]
      simp (disch := first | omega | trivial) only [f_X4_fits, li, cn_eq, cn_le, cn_lt, h2, if_neg, if_pos, cb_let_eq]
      by_cases q1 : b < 49
      · rw [if_pos q1, if_neg (by omega)]; rfl
      · rw [if_neg q1]
        by_cases q2 : 57 < b
        · rw [if_pos q2, if_neg (by omega)]; rfl
        · rw [if_neg q2, if_pos (by omega)]; rfl
theorem x_firstFault {M : cb_Mem} {i : Nat} {l : List Nat} (hi : i < 2) (hT : xT M i l) : f_X4_firstFault i M = some (eO (flt i l)) := by
  obtain ⟨t1, t2, t3, t4⟩ := hT
  have hcap := cap_lt i
  suffices hs : ∃ r, f_X4_firstFault_L4 cb_fuel i (nI 0) (nI 0) M = some r ∧ (match fl1 i l l.length with | some j => r = Sum.inl (nI j) | none => r = Sum.inr (nI (l.length % (4 + i)))) by
    obtain ⟨r, h1, h2⟩ := hs
    rw [show f_X4_firstFault i M = cb_bs (f_X4_firstFault_L4 cb_fuel i (nI 0) (nI 0) M) (fun r => some r) (fun x1 => if M (32 + i) 1 = nI 0 then some (-nI 1) else if x1 ≤ M (30 + i) 2 then some (M (32 + i) 1) else some (-nI 1)) from rfl, h1, t1, t2]
    unfold flt
    cases hf : fl1 i l l.length with
    | some j => rw [hf] at h2; dsimp only at h2 ⊢; rw [h2, cb_bs_r]; rfl
    | none =>
      rw [hf] at h2
      dsimp only at h2 ⊢
      rw [h2, cb_bs_k]
      by_cases q : l.length = 0
      · rw [if_pos (by rw [q]), if_pos (Or.inl q)]; rfl
      · have : l.length % (4 + i) < 4 + i := Nat.mod_lt _ (by omega)
        rw [if_neg (by rw [cn_eq (by omega) (by omega)]; exact q)]
        by_cases q2 : l.length % (4 + i) ≤ 2 + i
        · rw [if_pos (by rw [cn_le (by omega) (by omega)]; exact q2), if_neg (by omega)]; rfl
        · rw [if_neg (by rw [cn_le (by omega) (by omega)]; exact q2), if_pos (by omega)]; rfl
  refine cb_loop0 (fun m k (_ : Unit) => f_X4_firstFault_L4 m i (nI (k % (4 + i))) (nI k) M) (fun k _ => fl1 i l k = none) l.length _ () (by omega) rfl ?_ ?_
  · intro m s hs
    refine ⟨Sum.inr (nI (l.length % (4 + i))), ?_, by rw [hs]⟩
    simp (disch := first | omega | trivial) only [f_X4_firstFault_L4, t2, cn_le, if_pos]
  · intro m k s hk hs
    obtain ⟨e1, e2⟩ := t4 k hk
    have hat := x_at (it := 34 + i) t2 t3 (by omega) hk
    rw [e1] at hat
    have hm : k % (4 + i) < 4 + i := Nat.mod_lt _ (by omega)
    have hfit := x_fits (M := M) hi t1 hm e2
    cases ht : tel i (k % (4 + i)) (l.getD k 0) with
    | none =>
      left
      rw [ht] at hfit
      refine ⟨Sum.inl (nI k), ?_, ?_⟩
      · simp (disch := first | omega | trivial) only [f_X4_firstFault_L4, li, t2, cn_le, if_neg, hat, Option.bind_some, hfit, Option.isSome_none, b2i_0, if_pos]
      · have : fl1 i l (k + 1) = some k := by
          have hs' : fsN (fun j => (tel i (j % (4 + i)) (l.getD j 0)).isNone) k = none := hs
          unfold fl1
          rw [fsN, hs']
          dsimp only
          rw [ht, if_pos (by rfl)]
        have : fl1 i l l.length = some k := fsN_some (by omega) this
        rw [this]
    | some v =>
      right
      rw [ht] at hfit
      refine ⟨(), ?_, ?_⟩
      · show fl1 i l (k + 1) = none
        have hs' : fsN (fun j => (tel i (j % (4 + i)) (l.getD j 0)).isNone) k = none := hs
        unfold fl1
        rw [fsN, hs']
        dsimp only
        rw [ht, if_neg (by simp)]
      · have hmod : (k + 1) % (4 + i) = if k % (4 + i) ≤ 2 + i then k % (4 + i) + 1 else 0 := by
          rcases (show i = 0 ∨ i = 1 by omega) with e | e <;> subst e <;> split <;> omega
        rw [hmod]
        simp (disch := first | omega | trivial) only [f_X4_firstFault_L4, li, t1, t2, cn_le, if_neg, hat, Option.bind_some, hfit, Option.isSome_some, b2i_0, Bool.true_eq_false, if_false, cb_let_eq, cn_add]
        by_cases q : k % (4 + i) ≤ 2 + i
        · rw [if_pos q, if_pos q]
        · rw [if_neg q, if_neg q]
