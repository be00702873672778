/-! THE PURE PICTURE of a walk -/
def b2i (b : Bool) : Int32 := if b then nI 1 else nI 0
def eO (o : Option Nat) : Int32 := match o with
  | none => -nI 1
  | some n => nI n
def eP1 (o : Option (Nat × Nat)) : Int32 := match o with
  | none => -nI 1
  | some p => nI p.1
def eP2 (o : Option (Nat × Nat)) : Int32 := match o with
  | none => -nI 1
  | some p => nI p.2
def anyN (p : Nat → Bool) : Nat → Bool
  | 0 => false
  | n + 1 => anyN p n || p n
def mB (l : List Nat) (d : Nat) : Bool := anyN (fun j => l.getD j 0 == d) l.length
def itN {σ : Type} (f : Nat → σ → σ) : Nat → σ → σ
  | 0, s => s
  | n + 1, s => f n (itN f n s)
def fnU {α : Type} (f : Nat → α) (k : Nat) (v : α) : Nat → α := fun j => if j = k then v else f j
/-- a field: heads (how many, sort, due), couples (how many, want, from, stay), frosts, the first rabbit of a head (40: none) -/
abbrev FD : Type := (Nat × (Nat → Nat) × (Nat → Nat)) × (Nat × (Nat → Nat) × (Nat → Nat) × (Nat → Nat)) × (Nat → Bool) × (Nat → Nat)
abbrev d_nh (F : FD) : Nat := F.1.1
abbrev d_srt (F : FD) : Nat → Nat := F.1.2.1
abbrev d_due (F : FD) : Nat → Nat := F.1.2.2
abbrev d_nc (F : FD) : Nat := F.2.1.1
abbrev d_wnt (F : FD) : Nat → Nat := F.2.1.2.1
abbrev d_frm (F : FD) : Nat → Nat := F.2.1.2.2.1
abbrev d_sty (F : FD) : Nat → Nat := F.2.1.2.2.2
abbrev d_fr (F : FD) : Nat → Bool := F.2.2.1
abbrev d_rab (F : FD) : Nat → Nat := F.2.2.2
def WF (F : FD) : Prop := d_nh F ≤ 8 ∧ d_nc F ≤ 8 ∧ (∀ h, h < d_nh F → d_srt F h ≤ 2 ∧ d_due F h < 30) ∧ (∀ c, c < d_nc F → d_wnt F c ≤ 3 ∧ d_frm F c < 30 ∧ 1 ≤ d_sty F c ∧ d_sty F c ≤ 9) ∧ (∀ d, 30 ≤ d → d_fr F d = false) ∧ ∀ h, d_rab F h ≤ 40
def rpN (fr : Nat → Bool) (srt due : Nat) : Nat → Option Nat
  | 0 => some due
  | d + 1 => match rpN fr srt due d with
    | none => none
    | some x => if d < x ∧ fr d = true then (if srt = 2 then none else if srt = 0 then some (x + 1) else some x) else some x
def spanN (srt : Nat) : Nat := if srt = 0 then 3 else if srt = 1 then 5 else 1
def rp (F : FD) (h : Nat) : Option Nat := rpN (d_fr F) (d_srt F h) (d_due F h) 30
def onB (F : FD) (h d : Nat) : Bool := match rp F h with
  | none => false
  | some x => decide (x ≤ d ∧ d < x + spanN (d_srt F h) ∧ d < d_rab F h)
def wtB (F : FD) (c h : Nat) : Bool := decide (d_wnt F c = 3 ∨ d_wnt F c = d_srt F h)
def cmB (F : FD) (c d : Nat) : Bool := decide (d_frm F c ≤ d ∧ d < d_frm F c + d_sty F c)
/-- who got what, what was lifted by whom, who was first out of turn -/
abbrev SS : Type := (Nat → Option (Nat × Nat)) × (Nat → Option (Nat × Nat)) × Option (Nat × Nat)
def fhN (F : FD) (S : SS) (d c : Nat) : Nat → Option Nat
  | 0 => none
  | n + 1 => match fhN F S d c n with
    | some h => some h
    | none => if S.2.1 n = none ∧ wtB F c n = true ∧ onB F n d = true then some n else none
def otB (F : FD) (S : SS) (d c h : Nat) (q : Nat) : Bool := decide (q ≠ c) && (wtB F q h && (cmB F q d && (decide (S.1 q = none) && decide (d_frm F q < d_frm F c))))
def lfS (F : FD) (S : SS) (d c h : Nat) : SS := (fnU S.1 c (some (h, d)), fnU S.2.1 h (some (c, d)), match S.2.2 with
  | some t => some t
  | none => if anyN (otB F S d c h) (d_nc F) = true then some (c, d) else none)
def stC (F : FD) (d c : Nat) (S : SS) : SS := if cmB F c d = true ∧ S.1 c = none then (match fhN F S d c (d_nh F) with
  | none => S
  | some h => lfS F S d c h) else S
def stD (F : FD) (d : Nat) (S : SS) : SS := itN (fun c S => stC F d c S) (d_nc F) S
def S0 : SS := (fun _ => none, fun _ => none, none)
def wkN (F : FD) (n : Nat) : SS := itN (fun d S => stD F d S) n S0
def wk (F : FD) : SS := wkN F 40
theorem b2i_0 {b : Bool} : (b2i b = nI 0) = (b = false) := by cases b <;> decide
theorem b2i_1 {b : Bool} : (b2i b &&& nI 1) = b2i b := by cases b <;> decide
theorem anyN_iff {p : Nat → Bool} : ∀ {n : Nat}, anyN p n = true ↔ ∃ k, k < n ∧ p k = true
  | 0 => ⟨fun h => (by cases h), fun ⟨k, h, _⟩ => absurd h (Nat.not_lt_zero k)⟩
  | n + 1 => by
    rw [anyN, Bool.or_eq_true, anyN_iff]
    constructor
    · rintro (⟨k, h1, h2⟩ | h)
      · exact ⟨k, by omega, h2⟩
      · exact ⟨n, by omega, h⟩
    · rintro ⟨k, h1, h2⟩
      by_cases e : k = n
      · subst e
        exact Or.inr h2
      · exact Or.inl ⟨k, by omega, h2⟩
theorem anyN_congr {p q : Nat → Bool} : ∀ {n : Nat}, (∀ k, k < n → p k = q k) → anyN p n = anyN q n
  | 0, _ => rfl
  | n + 1, h => by rw [anyN, anyN, anyN_congr (fun k hk => h k (by omega)), h n (by omega)]
theorem anyN_false {p : Nat → Bool} {n : Nat} : anyN p n = false ↔ ∀ k, k < n → p k = false := by
  rw [← Bool.not_eq_true, anyN_iff]
  constructor
  · intro h k hk
    rw [← Bool.not_eq_true]
    exact fun e => h ⟨k, hk, e⟩
  · rintro h ⟨k, hk, e⟩
    rw [h k hk] at e
    cases e
theorem itN_congr {σ : Type} {f g : Nat → σ → σ} : ∀ {n : Nat} {s : σ}, (∀ k s, k < n → f k s = g k s) → itN f n s = itN g n s
  | 0, _, _ => rfl
  | n + 1, s, h => by rw [itN, itN, itN_congr (fun k s hk => h k s (by omega)), h n _ (by omega)]
/-! the reference: is it so -/
theorem m_isSoL {M : cb_Mem} {what d n : Nat} {w : Nat → Nat} (hw2 : what < 2) (h9 : M 9 what = nI n) (hn : n ≤ 6) (hw : ∀ j, j < n → M 10 (6 * what + j) = nI (w j)) (hb : ∀ j, j < n → w j < 64) (hd : d < 64) : f_X7_isSo_L40 cb_fuel (nI what) (nI d) (nI 0) (nI 0) M = some (b2i (anyN (fun j => w j == d) n)) := by
  obtain ⟨r, h1, h2⟩ := cb_loop0 (fun m k (s : Bool) => f_X7_isSo_L40 m (nI what) (nI d) (b2i s) (nI k) M) (fun k s => s = anyN (fun j => w j == d) k) n (fun r => r = b2i (anyN (fun j => w j == d) n)) false (by omega) rfl
    (fun m s hs => by
      refine ⟨_, ?_, rfl⟩
      subst hs
      simp (disch := omega) only [f_X7_isSo_L40, li, cn_in, cn_cl, h9, cn_le, if_pos])
    (fun m k s hk hs => by
      right
      refine ⟨_, rfl, ?_⟩
      subst hs
      have hk1 := hb k hk
      simp (disch := omega) only [f_X7_isSo_L40, li, cn_in, cn_cl, h9, cn_le, cn_mul, cn_add, hw, cn_eq, b2i_0, if_pos, if_neg]
      cases hA : anyN (fun j => w j == d) k
      · by_cases e : w k = d
        · simp [anyN, e, b2i]
        · simp [anyN, e, b2i, hA]
      · simp [anyN, b2i, hA])
  rw [← h2]
  exact h1
