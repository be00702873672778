def PT (i k j : Nat) : Prop := (k = 30 + i ∧ (j = 6 ∨ j = 7)) ∨ k = 36 + i ∨ k = 38 + i ∨ k = 40 + i
theorem xT.agr {M M' : cb_Mem} {i : Nat} {l : List Nat} (h : xT M i l) {P : Nat → Nat → Prop} (ha : agr M M' P) (p1 : ¬ P (30 + i) 2) (p2 : ¬ P (32 + i) 1) (p3 : ∀ j, ¬ P (34 + i) j) : xT M' i l := by
  obtain ⟨a, b, c, d⟩ := h
  refine ⟨by rw [ha _ _ p1]; exact a, by rw [ha _ _ p2]; exact b, c, fun j hj => by rw [ha _ _ (p3 j)]; exact d j hj⟩
theorem pnN_le {i : Nat} {l : List Nat} (hi : i < 2) (h : l.length ≤ cx_cap i) : pnN i l ≤ 8 := by
  unfold pnN
  split
  · rcases (show i = 0 ∨ i = 1 by omega) with e | e <;> subst e
    · have h' : l.length ≤ 31 := h
      omega
    · have h' : l.length ≤ 39 := h
      omega
  · omega
/-- a part that is told -/
theorem part_ok {i : Nat} {l : List Nat} {k : Nat} (hi : i < 2) (hk : k < pnN i l) : (4 + i) * k + 2 + i < l.length ∧ flt i l = none ∧ tel i 0 (l.getD ((4 + i) * k) 0) = some (pkN i l k) ∧ pkN i l k ≤ 2 + i ∧ (48 ≤ l.getD ((4 + i) * k + 1) 0 ∧ l.getD ((4 + i) * k + 1) 0 ≤ 50) ∧ (48 ≤ l.getD ((4 + i) * k + 2) 0 ∧ l.getD ((4 + i) * k + 2) 0 ≤ 57) ∧ (i = 1 → 49 ≤ l.getD ((4 + i) * k + 3) 0 ∧ l.getD ((4 + i) * k + 3) 0 ≤ 57) := by
  unfold pnN at hk
  by_cases hf : flt i l = none
  · rw [if_pos hf] at hk
    obtain ⟨f1, f2⟩ := flt_none hf
    have hlen : (4 + i) * k + 2 + i < l.length := by
      rcases (show i = 0 ∨ i = 1 by omega) with e | e <;> subst e
      · omega
      · omega
    have m0 : ((4 + i) * k) % (4 + i) = 0 := Nat.mul_mod_right _ _
    have m : ∀ r, r < 4 + i → ((4 + i) * k + r) % (4 + i) = r := fun r hr => by rw [Nat.mul_add_mod, Nat.mod_eq_of_lt hr]
    obtain ⟨v0, h0⟩ := fl1_none (j := (4 + i) * k) f1 (by omega)
    obtain ⟨v1, h1⟩ := fl1_none (j := (4 + i) * k + 1) f1 (by omega)
    obtain ⟨v2, h2⟩ := fl1_none (j := (4 + i) * k + 2) f1 (by omega)
    rw [m0] at h0
    rw [m 1 (by omega)] at h1
    rw [m 2 (by omega)] at h2
    have e0 : pkN i l k = v0 := by unfold pkN; rw [h0]; rfl
    obtain ⟨a1, a2, a3⟩ := tel1 h1 hi
    obtain ⟨b1, b2, b3⟩ := tel2 h2 hi
    refine ⟨hlen, hf, by rw [e0]; exact h0, by rw [e0]; exact tel0 h0, ⟨a1, a2⟩, ⟨b1, b2⟩, fun e => ?_⟩
    subst e
    obtain ⟨v3, h3⟩ := fl1_none (j := (4 + 1) * k + 3) f1 (by omega)
    rw [m 3 (by omega)] at h3
    obtain ⟨c1, c2, c3⟩ := tel3 h3
    exact ⟨c1, c2⟩
  · rw [if_neg hf] at hk
    omega
theorem x_fig {M : cb_Mem} {i j n b : Nat} (hn : M (32 + i) 1 = nI n) (hc : n ≤ cx_cap i) (hj : j < n) (hb : M (34 + i) j = nI b) (h48 : 48 ≤ b) : f_X4_figureAt i (nI j) M = some (nI (b - 48)) := by
  have hcap := cap_lt i
  rw [show f_X4_figureAt i (nI j) M = (f_X2_at (32 + i) (34 + i) (cx_cap i) (nI j) M).bind (fun x1 => some (x1 - nI 48)) from rfl, x_at hn hc (by omega) hj, Option.bind_some, hb, cn_sub h48]
theorem x_parse {M : cb_Mem} {i : Nat} {l : List Nat} (hi : i < 2) (hT : xT M i l) : ∃ M', f_X4_parse i M = some M' ∧ agr M M' (PT i) ∧ xTp M' i l := by
  have hT0 := hT
  obtain ⟨t1, t2, t3, t4⟩ := hT
  have hcap := cap_lt i
  have hff := x_firstFault hi hT0
  have hp8 := pnN_le hi t3
  obtain ⟨M2, hM2⟩ : ∃ X, X = cb_up (cb_up M (30 + i) 7 (eO (flt i l))) (30 + i) 6 (nI 0) := ⟨_, rfl⟩
  have a2 : agr M M2 (PT i) := by rw [hM2]; exact (agr.rf.up (by simp [PT])).up (by simp [PT])
  have e7 : M2 (30 + i) 7 = eO (flt i l) := by rw [hM2, cu, if_pos rfl, if_neg (by decide), cu, if_pos rfl, if_pos rfl]
  have e6 : M2 (30 + i) 6 = nI 0 := by rw [hM2, cu, if_pos rfl, if_pos rfl]
  obtain ⟨en, hen⟩ : ∃ n, (if M2 (30 + i) 7 = -nI 1 then M2 (32 + i) 1 else nI 0) = nI n ∧ (n = if flt i l = none then l.length else 0) := by
    refine ⟨if flt i l = none then l.length else 0, ?_, rfl⟩
    rw [e7, a2 _ _ (by simp only [PT]; omega), t2]
    cases hf : flt i l with
    | none => rw [if_pos (show eO none = -nI 1 from rfl), if_pos rfl]
    | some j =>
      have : j < 2147483648 := by
        unfold flt at hf
        cases h1 : fl1 i l l.length with
        | none =>
          rw [h1] at hf
          dsimp only at hf
          split at hf
          · cases hf
          · cases hf; omega
        | some q =>
          rw [h1] at hf
          cases hf
          have : ∀ n, fsN (fun j => (tel i (j % (4 + i)) (l.getD j 0)).isNone) n = some j → j < n := by
            intro n
            induction n with
            | zero => intro h; cases h
            | succ n ih =>
              intro h
              rw [fsN] at h
              cases h2 : fsN (fun j => (tel i (j % (4 + i)) (l.getD j 0)).isNone) n with
              | some q => rw [h2] at h ih; cases h; have := ih rfl; omega
              | none =>
                rw [h2] at h
                dsimp only at h
                split at h
                · cases h; omega
                · cases h
          have := this _ h1
          omega
      rw [show eO (some j) = nI j from rfl, if_neg (by rw [cn_eq1 this]; exact id), if_neg (by simp)]
  have hloop : ∃ r, f_X4_parse_L35 cb_fuel i (nI en) (nI ((4 + i) * 0)) M2 = some r ∧ (agr M r (PT i) ∧ xTp r i l) := by
    refine cb_loop0 (fun m k (s : cb_Mem) => f_X4_parse_L35 m i (nI en) (nI ((4 + i) * k)) s) (fun k s => agr M s (PT i) ∧ s (30 + i) 7 = eO (flt i l) ∧ s (30 + i) 6 = nI k ∧ ∀ q, q < k → s (36 + i) q = nI (pkN i l q) ∧ s (38 + i) q = nI (pdN i l q) ∧ s (40 + i) q = nI (psN i l q)) (pnN i l) _ M2 (by omega) ⟨a2, e7, e6, fun q h => absurd h (Nat.not_lt_zero q)⟩ ?_ ?_
    · rintro m s ⟨h1, h2, h3, h4⟩
      refine ⟨s, ?_, h1, h2, h3, h4⟩
      have hle : en ≤ (4 + i) * pnN i l ∧ en < 100 := by
        rw [hen.2]
        unfold pnN
        by_cases hf : flt i l = none
        · rw [if_pos hf, if_pos hf]
          obtain ⟨f1, f2⟩ := flt_none hf
          rcases (show i = 0 ∨ i = 1 by omega) with e | e <;> subst e <;> omega
        · rw [if_neg hf, if_neg hf]; omega
      have : (4 + i) * pnN i l < 100 := by
        rcases (show i = 0 ∨ i = 1 by omega) with e | e <;> subst e <;> omega
      have hle' := hle.1
      have hle2 := hle.2
      rw [f_X4_parse_L35, if_pos (by rw [cn_le (by omega) (by omega)]; exact hle')]
    · rintro m k s hk ⟨h1, h2, h3, h4⟩
      right
      obtain ⟨p1, p2, p3, p4, p5, p6, p7⟩ := part_ok hi hk
      have hen' : en = l.length := by rw [hen.2, if_pos p2]
      have s32 : s (32 + i) 1 = nI l.length := by rw [h1 _ _ (by simp only [PT]; omega)]; exact t2
      have s34 : ∀ j, s (34 + i) j = M (34 + i) j := fun j => h1 _ _ (by simp only [PT]; omega)
      have s302 : s (30 + i) 2 = nI (2 + i) := by rw [h1 _ _ (by simp only [PT]; omega)]; exact t1
      have hat := x_at (it := 34 + i) s32 t3 (by omega) (show (4 + i) * k < l.length by omega)
      rw [s34, (t4 _ (show (4 + i) * k < l.length by omega)).1] at hat
      have hix := v_idx hi (t4 _ (show (4 + i) * k < l.length by omega)).2
      rw [p3] at hix
      rw [show eO (some (pkN i l k)) = nI (pkN i l k) from rfl] at hix
      obtain ⟨N1, hN1⟩ : ∃ X, X = cb_up s (36 + i) k (nI (pkN i l k)) := ⟨_, rfl⟩
      have n32 : N1 (32 + i) 1 = nI l.length := by rw [hN1, cu, if_neg (by omega)]; exact s32
      have n34 : ∀ j, N1 (34 + i) j = M (34 + i) j := fun j => by rw [hN1, cu, if_neg (by omega)]; exact s34 j
      have n6 : N1 (30 + i) 6 = nI k := by rw [hN1, cu, if_neg (by omega)]; exact h3
      have g1 := x_fig (j := (4 + i) * k + 1) n32 t3 (by omega) ((n34 _).trans (t4 _ (by omega)).1) p5.1
      have g2 := x_fig (j := (4 + i) * k + 2) n32 t3 (by omega) ((n34 _).trans (t4 _ (by omega)).1) p6.1
      obtain ⟨N2, hN2⟩ : ∃ X, X = cb_up N1 (38 + i) k (nI (pdN i l k)) := ⟨_, rfl⟩
      have m32 : N2 (32 + i) 1 = nI l.length := by rw [hN2, cu, if_neg (by omega)]; exact n32
      have m34 : ∀ j, N2 (34 + i) j = M (34 + i) j := fun j => by rw [hN2, cu, if_neg (by omega)]; exact n34 j
      have m6 : N2 (30 + i) 6 = nI k := by rw [hN2, cu, if_neg (by omega)]; exact n6
      have m2 : N2 (30 + i) 2 = nI (2 + i) := by rw [hN2, cu, if_neg (by omega), hN1, cu, if_neg (by omega)]; exact s302
      have hx5' : (if N2 (30 + i) 2 ≤ nI 2 then some (nI 0) else (f_X4_figureAt i (nI ((4 + i) * k) + nI 3) N2).bind fun x6 => some x6) = some (nI (psN i l k)) := by
        rw [m2]
        unfold psN
        rcases (show i = 0 ∨ i = 1 by omega) with e | e
        · rw [if_pos (by rw [cn_le (by omega) (by omega)]; omega), if_pos e]
        · have g3 := x_fig (j := (4 + i) * k + 3) m32 t3 (by omega) ((m34 _).trans (t4 _ (by omega)).1) (by have := (p7 e).1; omega)
          rw [if_neg (by rw [cn_le (by omega) (by omega)]; omega), if_neg (by omega), cn_add, g3, Option.bind_some]
      refine ⟨cb_up (cb_up N2 (40 + i) k (nI (psN i l k))) (30 + i) 6 (nI (k + 1)), ⟨?_, ?_, ?_, ?_⟩, ?_⟩
      · rw [hN2, hN1]
        exact (((h1.up (by simp [PT])).up (by simp [PT])).up (by simp [PT])).up (by simp [PT])
      · rw [cu, if_pos rfl, if_neg (by decide), cu, if_neg (by omega), hN2, cu, if_neg (by omega), hN1, cu, if_neg (by omega)]
        exact h2
      · rw [cu, if_pos rfl, if_pos rfl]
      · intro q hq
        have r1 : (cb_up (cb_up N2 (40 + i) k (nI (psN i l k))) (30 + i) 6 (nI (k + 1))) (36 + i) q = if q = k then nI (pkN i l k) else s (36 + i) q := by
          simp [cu, hN2, hN1]
        have r2 : (cb_up (cb_up N2 (40 + i) k (nI (psN i l k))) (30 + i) 6 (nI (k + 1))) (38 + i) q = if q = k then nI (pdN i l k) else s (38 + i) q := by
          simp [cu, hN2, hN1]
        have r3 : (cb_up (cb_up N2 (40 + i) k (nI (psN i l k))) (30 + i) 6 (nI (k + 1))) (40 + i) q = if q = k then nI (psN i l k) else s (40 + i) q := by
          simp [cu, hN2, hN1]
        rw [r1, r2, r3]
        by_cases e : q = k
        · rw [if_pos e, if_pos e, if_pos e, e]; exact ⟨rfl, rfl, rfl⟩
        · rw [if_neg e, if_neg e, if_neg e]; exact h4 q (by omega)
      · have e3 : (cb_up N2 (40 + i) k (nI (psN i l k))) (30 + i) 6 = nI k := by rw [cu, if_neg (by omega)]; exact m6
        have e4 : (cb_up (cb_up N2 (40 + i) k (nI (psN i l k))) (30 + i) 6 (nI (k + 1))) (30 + i) 2 = nI (2 + i) := by rw [cu, if_pos rfl, if_neg (by decide), cu, if_neg (by omega)]; exact m2
        have e5 : (4 + i) * k + (2 + i + 2) = (4 + i) * (k + 1) := by rw [Nat.mul_succ]; omega
        have hpd : nI (pdN i l k) = nI 10 * nI (l.getD ((4 + i) * k + 1) 0 - 48) + nI (l.getD ((4 + i) * k + 2) 0 - 48) := by rw [cn_mul, cn_add]; rfl
        rw [hpd] at hN2
        rw [f_X4_parse_L35, hen', if_neg (by rw [cn_le (by omega) (by omega)]; omega), if_neg (by rw [h3, show (8 : Int32) = nI 8 from rfl, cn_le (by omega) (by omega)]; omega), hat, Option.bind_some, hix, Option.bind_some, h3, if_pos (by rw [cn_in (by omega)]; omega), cb_let_eq, cn_cl (by omega), ← hN1]
        rw [show (1 : Int32) = nI 1 from rfl, show (2 : Int32) = nI 2 from rfl, show (3 : Int32) = nI 3 from rfl, show (10 : Int32) = nI 10 from rfl, show (0 : Int32) = nI 0 from rfl]
        rw [cn_add ((4 + i) * k) 1, g1, Option.bind_some, cn_add ((4 + i) * k) 2, g2, Option.bind_some, n6, if_pos (by rw [cn_in (by omega)]; omega), cb_let_eq, cn_cl (by omega), ← hN2, hx5', Option.bind_some, m6, if_pos (by rw [cn_in (by omega)]; omega), cb_let_eq, cn_cl (by omega), e3, cb_let_eq, cn_add k 1, cb_let_eq, e4, cn_add, cn_add, e5]
  obtain ⟨r, h1, h2, h3⟩ := hloop
  refine ⟨r, ?_, h2, h3⟩
  rw [Nat.mul_zero] at h1
  rw [show f_X4_parse i M = (f_X4_firstFault i M).bind (fun x1 => cb_let (cb_up M (30 + i) 7 x1) fun M1 => cb_let (cb_up M1 (30 + i) 6 (nI 0)) fun M2 => cb_let (if (M2 (30 + i) 7) = -nI 1 then (M2 (32 + i) 1) else nI 0) fun x2 => (f_X4_parse_L35 cb_fuel i x2 (nI 0) M2).bind fun M3 => some M3) from rfl, hff, Option.bind_some, cb_let_eq, cb_let_eq, cb_let_eq, ← hM2, hen.1, h1, Option.bind_some]
