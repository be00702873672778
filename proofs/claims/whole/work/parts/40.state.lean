/-! the state of both -/
abbrev AS : Type := (List Nat × List Nat) × (List Nat × List Nat) × List (Nat × Nat) × List (Nat × Nat) × (Nat → Option (Nat × Nat × (Nat → Int32))) × Int32
def FA (t0 t1 w0 : List Nat) (ch : Option Nat) (rs : List (Nat × Nat)) (gm : Nat) : FD := ((pnN 0 t0, pkN 0 t0, pdN 0 t0), (pnN 1 t1, pkN 1 t1, pdN 1 t1, psN 1 t1), frO w0 ch, rbF rs gm)
def sumN (f : Nat → Nat) : Nat → Nat
  | 0 => 0
  | n + 1 => sumN f n + f n
def popN (p : Nat) : Nat := sumN (fun d => if p.testBit d = true then 1 else 0) 10
/-- in how many of the first n patterns, with k frosts, couple c is met -/
def ccN (t0 t1 : List Nat) (rs : List (Nat × Nat)) (n c k : Nat) : Nat := sumN (fun p => if popN p = k ∧ ((wk (FA t0 t1 [] (some p) rs 0)).1 c).isSome = true then 1 else 0) n
abbrev r0 : Nat × Nat := (0, 0)
def AOK (A : AS) : Prop := (A.1.1.length ≤ 31 ∧ A.1.2.length ≤ 39) ∧ (A.2.1.1.length ≤ 6 ∧ ∀ j, j < A.2.1.1.length → A.2.1.1.getD j 0 < 30) ∧ (A.2.1.2.length ≤ 6 ∧ ∀ j, j < A.2.1.2.length → A.2.1.2.getD j 0 < 40) ∧ (A.2.2.1.length ≤ 8 ∧ ∀ j, j < A.2.2.1.length → (A.2.2.1.getD j (0, 0)).1 < 40 ∧ (A.2.2.1.getD j (0, 0)).2 < 8) ∧ (A.2.2.2.1.length ≤ 8 ∧ ∀ j, j < A.2.2.2.1.length → (A.2.2.2.1.getD j (0, 0)).1 < 8 ∧ (A.2.2.2.1.getD j (0, 0)).2 < 9) ∧ ∀ s, s < 4 → ∀ q, A.2.2.2.2.1 s = some q → q.1 ≤ 2 ∧ q.2.1 ≤ 60
def xR (M : cb_Mem) (k it n : Nat) (f : Nat → Nat) : Prop := M k 1 = nI n ∧ ∀ j, j < n → M it j = nI (f j)
def xX (M : cb_Mem) (i : Nat) (l : List Nat) : Prop := xT M i l ∧ xTp M i l
def xSh (M : cb_Mem) (s : Nat) (o : Option (Nat × Nat × (Nat → Int32))) : Prop := match o with
  | none => M (42 + s) 2 = -nI 1
  | some q => M (42 + s) 1 = nI q.1 ∧ M (42 + s) 2 = nI q.2.1 ∧ ∀ j, j < q.2.1 → M (46 + s) j = q.2.2 j
def xCh (M : cb_Mem) (t0 t1 : List Nat) (rs : List (Nat × Nat)) : Prop := M 5 1 = -nI 1 ∨ ∃ d, d < 10 ∧ M 5 1 = nI d ∧ ∀ c, c < 8 → ∀ k, k ≤ 10 → M (58 + c) k = nI (ccN t0 t1 rs (2 ^ (d + 1)) c k)
def rE (rs : List (Nat × Nat)) (j : Nat) : Nat := (rs.getD j (0, 0)).1 * 8 + (rs.getD j (0, 0)).2
def sE (sg : List (Nat × Nat)) (j : Nat) : Nat := (sg.getD j (0, 0)).1 * 9 + (sg.getD j (0, 0)).2
def XS (M : cb_Mem) (A : AS) : Prop := xX M 0 A.1.1 ∧ xX M 1 A.1.2 ∧ xR M 8 12 A.2.1.1.length (fun j => A.2.1.1.getD j 0) ∧ xR M 9 13 A.2.1.2.length (fun j => A.2.1.2.getD j 0) ∧ xR M 10 14 A.2.2.1.length (rE A.2.2.1) ∧ xR M 11 15 A.2.2.2.1.length (sE A.2.2.2.1) ∧ (∀ s, s < 4 → xSh M s (A.2.2.2.2.1 s)) ∧ M 0 10 = A.2.2.2.2.2 ∧ xCh M A.1.1 A.1.2 A.2.2.1
def ySg (M : cb_Mem) (sg : List (Nat × Nat)) : Prop := M 0 27 = nI sg.length ∧ ∀ j, j < sg.length → M 20 (2 * j) = nI (sg.getD j (0, 0)).1 ∧ M 20 (2 * j + 1) = nI (sg.getD j (0, 0)).2
def ySh (M : cb_Mem) (s : Nat) (o : Option (Nat × Nat × (Nat → Int32))) : Prop := match o with
  | none => M 1 s = -nI 1
  | some q => M 1 s = nI q.1 ∧ M 2 s = nI q.2.1 ∧ ∀ j, j < q.2.1 → M 3 (60 * s + j) = q.2.2 j
def YS (M : cb_Mem) (A : AS) : Prop := yT M 0 A.1.1 ∧ yT M 1 A.1.2 ∧ mW M A.2.1.1 A.2.1.2 none ∧ mR M A.2.2.1 0 ∧ ySg M A.2.2.2.1 ∧ (∀ s, s < 4 → ySh M s (A.2.2.2.2.1 s)) ∧ M 0 4 = A.2.2.2.2.2
def cRel (MX MY : cb_Mem) : Prop := ∃ A : AS, AOK A ∧ XS MX A ∧ YS MY A
theorem xX.eq {M M' : cb_Mem} {i : Nat} {l : List Nat} (h : xX M i l) (e : ∀ k j, (k = 30 + i ∨ k = 32 + i ∨ k = 34 + i ∨ k = 36 + i ∨ k = 38 + i ∨ k = 40 + i) → M' k j = M k j) : xX M' i l := by
  obtain ⟨⟨a1, a2, a3, a4⟩, b1, b2, b3⟩ := h
  refine ⟨⟨by rw [e _ _ (by omega)]; exact a1, by rw [e _ _ (by omega)]; exact a2, a3, fun j hj => by rw [e _ _ (by omega)]; exact a4 j hj⟩, by rw [e _ _ (by omega)]; exact b1, by rw [e _ _ (by omega)]; exact b2, fun k hk => by rw [e _ _ (by omega), e _ _ (by omega), e _ _ (by omega)]; exact b3 k hk⟩
theorem xR.eq {M M' : cb_Mem} {k it n : Nat} {f : Nat → Nat} (h : xR M k it n f) (e : ∀ q j, (q = k ∨ q = it) → M' q j = M q j) : xR M' k it n f := ⟨by rw [e _ _ (Or.inl rfl)]; exact h.1, fun j hj => by rw [e _ _ (Or.inr rfl)]; exact h.2 j hj⟩
theorem xSh.eq {M M' : cb_Mem} {s : Nat} {o : Option (Nat × Nat × (Nat → Int32))} (h : xSh M s o) (e : ∀ k j, (k = 42 + s ∨ k = 46 + s) → M' k j = M k j) : xSh M' s o := by
  cases o with
  | none => show M' (42 + s) 2 = _; rw [e _ _ (by omega)]; exact h
  | some q =>
    obtain ⟨a, b, c⟩ := h
    exact ⟨by rw [e _ _ (by omega)]; exact a, by rw [e _ _ (by omega)]; exact b, fun j hj => by rw [e _ _ (by omega)]; exact c j hj⟩
theorem xCh.eq {M M' : cb_Mem} {t0 t1 : List Nat} {rs : List (Nat × Nat)} (h : xCh M t0 t1 rs) (e : ∀ k j, (k = 5 ∨ (58 ≤ k ∧ k ≤ 65)) → M' k j = M k j) : xCh M' t0 t1 rs := by
  rcases h with h | ⟨d, h1, h2, h3⟩
  · exact Or.inl (by rw [e _ _ (by omega)]; exact h)
  · exact Or.inr ⟨d, h1, by rw [e _ _ (by omega)]; exact h2, fun c hc k hk => by rw [e _ _ (by omega)]; exact h3 c hc k hk⟩
/-- what the class's calls may touch without a trace -/
def PX (k _j : Nat) : Prop := k = 3 ∨ k = 4 ∨ (16 ≤ k ∧ k ≤ 29) ∨ (50 ≤ k ∧ k ≤ 57)
theorem XS.sc {M M' : cb_Mem} {A : AS} (h : XS M A) (ha : agr M M' PX) : XS M' A := by
  obtain ⟨a1, a2, a3, a4, a5, a6, a7, a8, a9⟩ := h
  refine ⟨a1.eq fun k j q => ha _ _ (by simp only [PX]; omega), a2.eq fun k j q => ha _ _ (by simp only [PX]; omega), a3.eq fun k j q => ha _ _ (by simp only [PX]; omega), a4.eq fun k j q => ha _ _ (by simp only [PX]; omega), a5.eq fun k j q => ha _ _ (by simp only [PX]; omega), a6.eq fun k j q => ha _ _ (by simp only [PX]; omega), fun s hs => (a7 s hs).eq fun k j q => ha _ _ (by simp only [PX]; omega), by rw [ha _ _ (by simp only [PX]; omega)]; exact a8, a9.eq fun k j q => ha _ _ (by simp only [PX]; omega)⟩
theorem yT.eq {M M' : cb_Mem} {t : Nat} {l : List Nat} (h : yT M t l) (e : ∀ k j, (k = 5 ∨ k = 6) → M' k j = M k j) : yT M' t l := by
  obtain ⟨a, b, c⟩ := h
  exact ⟨by rw [e _ _ (by omega)]; exact a, b, fun j hj => by rw [e _ _ (by omega)]; exact c j hj⟩
theorem mW.eq {M M' : cb_Mem} {w0 w1 : List Nat} {ch : Option Nat} (h : mW M w0 w1 ch) (e : ∀ k j, (k = 9 ∨ k = 10 ∨ (k = 0 ∧ j = 16)) → M' k j = M k j) : mW M' w0 w1 ch := by
  obtain ⟨a1, a2, a3, a4, a5, a6, a7, a8⟩ := h
  exact ⟨by rw [e _ _ (by omega)]; exact a1, a2, fun j hj => by rw [e _ _ (by omega)]; exact a3 j hj, by rw [e _ _ (by omega)]; exact a4, a5, fun j hj => by rw [e _ _ (by omega)]; exact a6 j hj, by rw [e _ _ (by omega)]; exact a7, a8⟩
theorem mR.eq {M M' : cb_Mem} {rs : List (Nat × Nat)} {gm : Nat} (h : mR M rs gm) (e : ∀ k j, (k = 11 ∨ (k = 0 ∧ (j = 13 ∨ j = 15))) → M' k j = M k j) : mR M' rs gm := by
  obtain ⟨a1, a2, a3, a4, a5⟩ := h
  exact ⟨by rw [e _ _ (by omega)]; exact a1, a2, fun j hj => by rw [e _ _ (by omega), e _ _ (by omega)]; exact a3 j hj, by rw [e _ _ (by omega)]; exact a4, a5⟩
theorem ySg.eq {M M' : cb_Mem} {sg : List (Nat × Nat)} (h : ySg M sg) (e : ∀ k j, (k = 20 ∨ (k = 0 ∧ j = 27)) → M' k j = M k j) : ySg M' sg := ⟨by rw [e _ _ (by omega)]; exact h.1, fun j hj => by rw [e _ _ (by omega), e _ _ (by omega)]; exact h.2 j hj⟩
theorem ySh.eq {M M' : cb_Mem} {s : Nat} {o : Option (Nat × Nat × (Nat → Int32))} (h : ySh M s o) (e : ∀ k j, (k = 1 ∨ k = 2 ∨ k = 3) → M' k j = M k j) : ySh M' s o := by
  cases o with
  | none => show M' 1 s = _; rw [e _ _ (by omega)]; exact h
  | some q =>
    obtain ⟨a, b, c⟩ := h
    exact ⟨by rw [e _ _ (by omega)]; exact a, by rw [e _ _ (by omega)]; exact b, fun j hj => by rw [e _ _ (by omega)]; exact c j hj⟩
/-- what the reference's calls may touch without a trace -/
def PY (k j : Nat) : Prop := (k = 0 ∧ (j = 7 ∨ j = 9 ∨ j = 24 ∨ j = 25 ∨ j = 30)) ∨ k = 4 ∨ k = 7 ∨ k = 8 ∨ (12 ≤ k ∧ k ≤ 19) ∨ k = 21
theorem YS.sc {M M' : cb_Mem} {A : AS} (h : YS M A) (ha : agr M M' PY) : YS M' A := by
  obtain ⟨a1, a2, a3, a4, a5, a6, a7⟩ := h
  exact ⟨a1.eq fun k j q => ha _ _ (by simp only [PY]; omega), a2.eq fun k j q => ha _ _ (by simp only [PY]; omega), a3.eq fun k j q => ha _ _ (by simp only [PY]; omega), a4.eq fun k j q => ha _ _ (by simp only [PY]; omega), a5.eq fun k j q => ha _ _ (by simp only [PY]; omega), fun s hs => (a6 s hs).eq fun k j q => ha _ _ (by simp only [PY]; omega), by rw [ha _ _ (by simp only [PY]; omega)]; exact a7⟩
theorem cn_copy {M : cb_Mem} {q0 q1 k j : Nat} : cb_copy M q0 q1 (0 : Int32).toNatClampNeg (0 : Int32).toNatClampNeg (8 : Int32).toNatClampNeg k j = if k = q1 then (if j < 8 then M q0 j else M q1 j) else M k j := by
  rw [show (0 : Int32).toNatClampNeg = 0 from rfl, show (8 : Int32).toNatClampNeg = 8 from rfl]
  unfold cb_copy cb_row va_cpy
  by_cases e : k = q1
  · rw [if_pos e, if_pos e]
    by_cases e2 : j < 8
    · rw [if_pos (by omega), if_pos e2]; congr 1; omega
    · rw [if_neg (by omega), if_neg e2]
  · rw [if_neg e, if_neg e]
theorem WF_FA {A : AS} (hA : AOK A) {ch : Option Nat} {gm : Nat} : WF (FA A.1.1 A.1.2 A.2.1.1 ch A.2.2.1 gm) := by
  obtain ⟨⟨b1, b2⟩, ⟨b3, b4⟩, -, -, -, -⟩ := hA
  refine ⟨pnN_le (i := 0) (by omega) b1, pnN_le (i := 1) (by omega) b2, fun h hh => ?_, fun c hc => ?_, frO_late b4, fun h => rbN_le _ _ _ _⟩
  · obtain ⟨p1, p2, p3, p4, p5, p6, p7⟩ := part_ok (i := 0) (by omega) hh
    refine ⟨p4, ?_⟩
    show pdN 0 A.1.1 h < 30
    unfold pdN
    omega
  · obtain ⟨p1, p2, p3, p4, p5, p6, p7⟩ := part_ok (i := 1) (by omega) hc
    have p8 := p7 rfl
    refine ⟨p4, ?_, ?_, ?_⟩
    · show pdN 1 A.1.2 c < 30
      unfold pdN
      omega
    · show 1 ≤ psN 1 A.1.2 c
      unfold psN
      rw [if_neg (by decide)]
      omega
    · show psN 1 A.1.2 c ≤ 9
      unfold psN
      rw [if_neg (by decide)]
      omega
theorem x_rab {M : cb_Mem} {rs : List (Nat × Nat)} {gm : Nat} (hR : xR M 10 14 rs.length (rE rs)) (h8 : rs.length ≤ 8) (hb : ∀ j, j < rs.length → (rs.getD j (0, 0)).1 < 40 ∧ (rs.getD j (0, 0)).2 < 8) (hg : gm < 256) : ∃ M', f_X1_letRabbitsIn (nI gm) M = some M' ∧ agr M M' (fun k _ => k = 21) ∧ ∀ h, h < 8 → M' 21 h = nI (rbF rs gm h) := by
  obtain ⟨M1, f1, a1, b1⟩ := x_fill (M := M) (q := 21) (z := 8) (v := nI 40) (by omega)
  have hs : ∃ r, f_X1_letRabbitsIn_L11 cb_fuel (nI gm) (nI 0) M1 = some r ∧ (agr M r (fun k _ => k = 21) ∧ ∀ h, h < 8 → r 21 h = nI (rbF rs gm h)) := by
    refine cb_loop0 (fun m k (s : cb_Mem) => f_X1_letRabbitsIn_L11 m (nI gm) (nI k) s) (fun k s => agr M s (fun k _ => k = 21) ∧ ∀ h, h < 8 → s 21 h = nI (rbN rs gm h k)) rs.length _ M1 (by omega) ⟨a1.mono (fun k j q => q.1), fun h hh => b1 h hh⟩ ?_ ?_
    · rintro m s ⟨h1, h2⟩
      refine ⟨s, ?_, h1, h2⟩
      have e : s 10 1 = nI rs.length := by rw [h1 _ _ (by omega)]; exact hR.1
      rw [f_X1_letRabbitsIn_L11, e, if_pos (by rw [cn_le (by omega) (by omega)]; omega)]
    · rintro m k s hk ⟨h1, h2⟩
      right
      have e : s 10 1 = nI rs.length := by rw [h1 _ _ (by omega)]; exact hR.1
      obtain ⟨q1, q2⟩ := hb k hk
      have hat := x_at (it := 14) (cap := 8) e h8 (by omega) hk
      rw [h1 _ _ (by omega), hR.2 k hk] at hat
      generalize hd : (rs.getD k (0, 0)).1 = d at q1
      generalize hh : (rs.getD k (0, 0)).2 = h at q2
      rw [show rE rs k = d * 8 + h by unfold rE; rw [hd, hh]] at hat
      have hx2 : nI (d * 8 + h) / nI 8 = nI d := by rw [cn_div (by omega) (by omega) (by omega)]; congr 1; omega
      have hx1 : nI (d * 8 + h) - nI d * nI 8 = nI h := by rw [cn_mul, cn_sub (by omega)]; congr 1; omega
      have hbit := bi_bit (x := gm) (k := k) (by omega) (by omega)
      have hoff := v_isOff_in (j := h) (n := 8) (by omega) (by omega)
      have hold := h2 h q2
      have hle := rbN_le rs gm h k
      cases hg2 : gm.testBit k with
      | true =>
        rw [hg2] at hbit
        refine ⟨s, ⟨h1, fun h' hh' => ?_⟩, ?_⟩
        · rw [h2 h' hh', rbN, hg2, if_neg (by simp)]
        · simp (disch := first | omega | trivial) only [f_X1_letRabbitsIn_L11, li, e, cn_le, if_neg, hat, Option.bind_some, cb_let_eq, hx2, hx1, hbit, b2i_0, Bool.true_eq_false, if_false, cn_add]
      | false =>
        rw [hg2] at hbit
        refine ⟨cb_up s 21 h (nI (min (rbN rs gm h k) d)), ⟨h1.up rfl, fun h' hh' => ?_⟩, ?_⟩
        · rw [cu, if_pos rfl, rbN, hg2, hd, hh]
          by_cases e2 : h' = h
          · subst e2
            rw [if_pos rfl]
            by_cases e3 : d < rbN rs gm h' k
            · rw [if_pos ⟨rfl, rfl, e3⟩]; congr 1; omega
            · rw [if_neg (fun z => e3 z.2.2)]; congr 1; omega
          · rw [if_neg e2, if_neg (fun z => e2 z.2.1.symm)]
            exact h2 h' hh'
        · simp (disch := first | omega | trivial) only [f_X1_letRabbitsIn_L11, li, e, cn_le, if_neg, hat, Option.bind_some, cb_let_eq, hx1, hbit, b2i_0, if_pos, hoff, cn_eq, cn_in, cn_cl, hx2, hold, cn_min, cn_add]
  obtain ⟨r, h1, h2, h3⟩ := hs
  refine ⟨r, ?_, h2, h3⟩
  rw [show f_X1_letRabbitsIn (nI gm) M = (f_J7_fill_53178 21 8 (nI 40) M).bind (fun M1 => (f_X1_letRabbitsIn_L11 cb_fuel (nI gm) (nI 0) M1).bind fun M2 => some M2) from rfl, f1, Option.bind_some, h1, Option.bind_some]
theorem x_freeze {M : cb_Mem} {w0 : List Nat} (hR : xR M 8 12 w0.length (fun j => w0.getD j 0)) (h6 : w0.length ≤ 6) (hb : ∀ j, j < w0.length → w0.getD j 0 < 30) : ∃ M', f_X1_freeze M = some M' ∧ agr M M' (fun k j => k = 3 ∧ j = 8) ∧ msk 30 (M' 3 8) (mB w0) := by
  have hs : ∃ r, f_X1_freeze_L7 cb_fuel (nI 0) (cb_up M 3 8 (nI 0)) = some r ∧ (agr M r (fun k j => k = 3 ∧ j = 8) ∧ msk 30 (r 3 8) (mB w0)) := by
    refine cb_loop0 (fun m k (s : cb_Mem) => f_X1_freeze_L7 m (nI k) s) (fun k s => agr M s (fun k j => k = 3 ∧ j = 8) ∧ msk 30 (s 3 8) (fun d => anyN (fun j => w0.getD j 0 == d) k)) w0.length _ _ (by omega) ⟨agr.rf.up ⟨rfl, rfl⟩, by rw [cu, if_pos rfl, if_pos rfl]; exact msk_0⟩ ?_ ?_
    · rintro m s ⟨h1, h2⟩
      refine ⟨s, ?_, h1, h2⟩
      have e : s 8 1 = nI w0.length := by rw [h1 _ _ (by omega)]; exact hR.1
      rw [f_X1_freeze_L7, e, if_pos (by rw [cn_le (by omega) (by omega)]; omega)]
    · rintro m k s hk ⟨h1, h2⟩
      right
      have e : s 8 1 = nI w0.length := by rw [h1 _ _ (by omega)]; exact hR.1
      have hat := x_at (it := 12) (cap := 6) e h6 (by omega) hk
      rw [h1 _ _ (by omega), hR.2 k hk] at hat
      refine ⟨cb_up s 3 8 (s 3 8 ||| (nI 1 <<< (nI (w0.getD k 0) &&& nI 31))), ⟨h1.up ⟨rfl, rfl⟩, ?_⟩, ?_⟩
      · rw [cu, if_pos rfl, if_pos rfl]
        refine (msk_or1 h2 (hb k hk) (by omega)).cong (fun j _ => ?_)
        rw [anyN]
        congr 1
        by_cases q : j = w0.getD k 0
        · rw [← q]; simp
        · rw [decide_eq_false q]; symm; simpa using fun z => q z.symm
      · simp (disch := first | omega | trivial) only [f_X1_freeze_L7, li, e, cn_le, if_neg, hat, Option.bind_some, cb_let_eq, cn_add]
  obtain ⟨r, h1, h2, h3⟩ := hs
  refine ⟨r, ?_, h2, h3⟩
  rw [show f_X1_freeze M = (f_X1_freeze_L7 cb_fuel (nI 0) (cb_up M 3 8 (nI 0))).bind (fun M2 => some M2) from rfl, h1, Option.bind_some]
abbrev FAa (A : AS) : FD := FA A.1.1 A.1.2 A.2.1.1 none A.2.2.1 0
theorem x_layOut {M : cb_Mem} {A : AS} (hA : AOK A) (hX : XS M A) : ∃ M', f_X6_layOut M = some M' ∧ agr M M' PX ∧ xFd M' (FAa A) := by
  obtain ⟨a1, a2, a3, a4, a5, a6, a7, a8, a9⟩ := hX
  have hW := WF_FA hA (ch := none) (gm := 0)
  obtain ⟨b1, b2, b3, b4, b5, b6⟩ := hA
  obtain ⟨M1, hM1⟩ : ∃ X, X = f_X1_plant 0 M := ⟨_, rfl⟩
  obtain ⟨M2, hM2⟩ : ∃ X, X = f_X1_invite 1 M1 := ⟨_, rfl⟩
  have e1 : ∀ k j, M1 k j = if k = 17 then (if j < 8 then M 38 j else M 17 j) else if k = 16 then (if j < 8 then M 36 j else M 16 j) else if k = 3 then (if j = 6 then M 30 6 else M 3 j) else M k j := by
    intro k j
    rw [hM1]
    unfold f_X1_plant
    simp only [cb_let_eq, cn_copy, cu]
    by_cases q1 : k = 17
    · simp [q1]
    · by_cases q2 : k = 16
      · simp [q2]
      · by_cases q3 : k = 3
        · simp [q3]
        · simp [q1, q2, q3]
  have e2 : ∀ k j, M2 k j = if k = 20 then (if j < 8 then M1 41 j else M1 20 j) else if k = 19 then (if j < 8 then M1 39 j else M1 19 j) else if k = 18 then (if j < 8 then M1 37 j else M1 18 j) else if k = 3 then (if j = 7 then M1 31 6 else M1 3 j) else M1 k j := by
    intro k j
    rw [hM2]
    unfold f_X1_invite
    simp only [cb_let_eq, cn_copy, cu]
    by_cases q1 : k = 20
    · simp [q1]
    · by_cases q2 : k = 19
      · simp [q2]
      · by_cases q3 : k = 18
        · simp [q3]
        · by_cases q4 : k = 3
          · simp [q4]
          · simp [q1, q2, q3, q4]
  have g2 : ∀ k j, k ≠ 3 → ¬ (16 ≤ k ∧ k ≤ 20) → M2 k j = M k j := by
    intro k j q1 q2
    rw [e2, if_neg (by omega), if_neg (by omega), if_neg (by omega), if_neg q1, e1, if_neg (by omega), if_neg (by omega), if_neg q1]
  obtain ⟨M3, f3, c3, d3⟩ := x_freeze (M := M2) (a3.eq fun k j q => g2 k j (by omega) (by omega)) b2.1 b2.2
  have c3' : agr M2 M3 (fun k _ => k = 3) := c3.mono (fun k j q => q.1)
  obtain ⟨M4, f4, c4, d4⟩ := x_rab (M := M3) (gm := 0) ((a5.eq fun k j q => g2 k j (by omega) (by omega)).eq fun k j q => c3' k j (by omega)) b4.1 b4.2 (by omega)
  have h8 : pnN 0 A.1.1 ≤ 8 := hW.1
  have c8 : pnN 1 A.1.2 ≤ 8 := hW.2.1
  have z3 : ∀ k j, k ≠ 3 → k ≠ 21 → M4 k j = M2 k j := fun k j q1 q2 => by rw [c4 _ _ q2, c3' _ _ q1]
  have z36 : M4 3 6 = M 30 6 := by rw [c4 _ _ (by omega), c3 _ _ (by omega), e2, if_neg (by omega), if_neg (by omega), if_neg (by omega), if_pos rfl, if_neg (by omega), e1, if_neg (by omega), if_neg (by omega), if_pos rfl, if_pos rfl]
  have z37 : M4 3 7 = M 31 6 := by rw [c4 _ _ (by omega), c3 _ _ (by omega), e2, if_neg (by omega), if_neg (by omega), if_neg (by omega), if_pos rfl, if_pos rfl, e1, if_neg (by omega), if_neg (by omega), if_neg (by omega)]
  refine ⟨M4, ?_, ?_, z36.trans a1.2.2.1, z37.trans a2.2.2.1, ?_, fun h hh => ?_, d4, fun c hc => ?_⟩
  · rw [show f_X6_layOut M = (f_X1_freeze (f_X1_invite 1 (f_X1_plant 0 M))).bind (fun M3 => (f_X1_letRabbitsIn (nI 0) M3).bind fun M4 => some M4) from rfl, ← hM1, ← hM2, f3, Option.bind_some, f4, Option.bind_some]
  · intro k j hn
    simp only [PX] at hn
    rw [z3 k j (by omega) (by omega), g2 k j (by omega) (by omega)]
  · rw [c4 _ _ (by omega)]; exact d3
  · have hh' : h < 8 := by have : h < pnN 0 A.1.1 := hh; omega
    obtain ⟨q1, q2, q3⟩ := a1.2.2.2 h hh
    constructor
    · rw [z3 _ _ (by omega) (by omega), e2, if_neg (by omega), if_neg (by omega), if_neg (by omega), if_neg (by omega), e1, if_neg (by omega), if_pos rfl, if_pos hh']; exact q1
    · rw [z3 _ _ (by omega) (by omega), e2, if_neg (by omega), if_neg (by omega), if_neg (by omega), if_neg (by omega), e1, if_pos rfl, if_pos hh']; exact q2
  · have hc' : c < 8 := by have : c < pnN 1 A.1.2 := hc; omega
    obtain ⟨q1, q2, q3⟩ := a2.2.2.2 c hc
    refine ⟨?_, ?_, ?_⟩
    · rw [z3 _ _ (by omega) (by omega), e2, if_neg (by omega), if_neg (by omega), if_pos rfl, if_pos hc', e1, if_neg (by omega), if_neg (by omega), if_neg (by omega)]; exact q1
    · rw [z3 _ _ (by omega) (by omega), e2, if_neg (by omega), if_pos rfl, if_pos hc', e1, if_neg (by omega), if_neg (by omega), if_neg (by omega)]; exact q2
    · rw [z3 _ _ (by omega) (by omega), e2, if_pos rfl, if_pos hc', e1, if_neg (by omega), if_neg (by omega), if_neg (by omega)]; exact q3
theorem x_walk {M : cb_Mem} {A : AS} (hA : AOK A) (hX : XS M A) : ∃ M', f_X6_walkAsItIs M = some M' ∧ agr M M' PX ∧ xFd M' (FAa A) ∧ xWk M' (FAa A) := by
  obtain ⟨M1, f1, c1, d1⟩ := x_layOut hA hX
  obtain ⟨M2, f2, c2, d2⟩ := x_go (WF_FA hA) d1
  refine ⟨M2, ?_, c1.trans (c2.mono (fun k j q => by simp only [PG] at q; simp only [PX]; omega)), d1.agr c2 (by intro k j q; simp only [PG]; omega), d2⟩
  rw [show f_X6_walkAsItIs M = (f_X6_layOut M).bind (fun M1 => (f_X5_go M1).bind fun M2 => some M2) from rfl, f1, Option.bind_some, f2, Option.bind_some]
theorem y_reads {M : cb_Mem} {A : AS} (hA : AOK A) (hY : YS M A) : ∃ x1 x2 M1 M2, f_X7_readsHeads M = some (x1, M1) ∧ f_X7_readsCouples M1 = some (x2, M2) ∧ agr M M2 PY ∧ mAll M2 (FAa A) A.2.1.1 A.2.1.2 none A.2.2.1 0 := by
  obtain ⟨a1, a2, a3, a4, a5, a6, a7⟩ := hY
  obtain ⟨M1, f1, c1, d1, e1⟩ := m_readsHeads a1
  obtain ⟨M2, f2, c2, d2, e2⟩ := m_readsCouples (M := M1) (a2.eq fun k j q => c1 k j (by simp only [PH]; omega))
  refine ⟨_, _, M1, M2, f1, f2, ?_, WF_FA hA, ⟨?_, d2, fun h hh => ?_, e2⟩, (a3.eq fun k j q => c1 k j (by simp only [PH]; omega)).eq fun k j q => c2 k j (by simp only [PC]; omega), (a4.eq fun k j q => c1 k j (by simp only [PH]; omega)).eq fun k j q => c2 k j (by simp only [PC]; omega), rfl, fun h => rfl⟩
  · intro k j hn
    simp only [PY] at hn
    rw [c2 k j (by simp only [PC]; omega), c1 k j (by simp only [PH]; omega)]
  · rw [c2 _ _ (by simp only [PC]; omega)]; exact d1
  · rw [c2 _ _ (by simp only [PC]; omega), c2 _ _ (by simp only [PC]; omega)]
    exact e1 h hh
theorem y_find {M : cb_Mem} {A : AS} (hA : AOK A) (hY : YS M A) : ∃ M', f_X7_find M = some M' ∧ agr M M' PY ∧ mAll M' (FAa A) A.2.1.1 A.2.1.2 none A.2.2.1 0 ∧ mWk M' (FAa A) A.2.1.2 := by
  obtain ⟨x1, x2, M1, M2, f1, f2, c2, d2⟩ := y_reads hA hY
  obtain ⟨M3, f3, c3, d3⟩ := m_lives d2
  refine ⟨M3, ?_, c2.trans (c3.mono (fun k j q => by simp only [PL] at q; simp only [PY]; omega)), d2.agr c3, d3⟩
  rw [show f_X7_find M = cb_bind2 (f_X7_readsHeads M) (fun x1 M1 => cb_bind2 (f_X7_readsCouples M1) fun x2 M2 => (f_X7_lives M2).bind fun M3 => some M3) from rfl, f1, cb_bind2_eq, f2, cb_bind2_eq, f3, Option.bind_some]
