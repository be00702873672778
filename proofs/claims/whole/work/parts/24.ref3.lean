/-! the reference: rabbits at a head; a head's day and loss -/
theorem mR.agr {M M' : cb_Mem} {rs : List (Nat × Nat)} {gm : Nat} (h : mR M rs gm) {P : Nat → Nat → Prop} (ha : agr M M' P) (h11 : ∀ j, ¬ P 11 j) (h0 : ¬ P 0 13) (h1 : ¬ P 0 15) : mR M' rs gm := by
  obtain ⟨a1, a2, a3, a4, a5⟩ := h
  exact ⟨by rw [ha _ _ h0]; exact a1, a2, fun k hk => by rw [ha _ _ (h11 _), ha _ _ (h11 _)]; exact a3 k hk, by rw [ha _ _ h1]; exact a4, a5⟩
/-- the earlier of a loss by frost (or none) and a rabbit's day (40: none) -/
def lsO (o : Option Nat) (r : Nat) : Option Nat := match o with
  | none => if r < 40 then some r else none
  | some d => if r < d then some r else some d
theorem m_rip2 {M : cb_Mem} {rs : List (Nat × Nat)} {gm h : Nat} {o : Option Nat} (hR : mR M rs gm) (hh : h < 8) (hl : M 13 h = eO o) (ho : ∀ d, o = some d → d < 40) :
    ∃ M', f_X7_ripens_L136 cb_fuel (nI h) (nI 0) M = some M' ∧ agr M M' (fun k j => k = 13 ∧ j = h) ∧ M' 13 h = eO (lsO o (rbF rs gm h)) := by
  have hR0 := hR
  obtain ⟨r1, r2, r3, r4, r5⟩ := hR
  refine cb_loop0 (fun m k (s : cb_Mem) => f_X7_ripens_L136 m (nI h) (nI k) s) (fun k s => agr M s (fun k j => k = 13 ∧ j = h) ∧ s 13 h = eO (lsO o (rbN rs gm h k))) rs.length _ M (by omega) ⟨agr.rf, ?_⟩ ?_ ?_
  · rw [hl]
    cases o with
    | none => rfl
    | some d =>
      have := ho d rfl
      show eO (some d) = eO (if 40 < d then some 40 else some d)
      rw [if_neg (by omega)]
  · rintro m s ⟨ha, h13⟩
    refine ⟨s, ?_, ha, h13⟩
    have e1 : s 0 13 = nI rs.length := (ha _ _ (by simp)).trans r1
    simp (disch := omega) only [f_X7_ripens_L136, e1, cn_le, if_pos]
  · rintro m k s hk ⟨ha, h13⟩
    right
    have e1 : s 0 13 = nI rs.length := (ha _ _ (by simp)).trans r1
    have e2 : s 0 15 = nI gm := (ha _ _ (by simp)).trans r4
    obtain ⟨g1, g2, g3, g4⟩ := r3 k hk
    have e3 : s 11 (2 * k) = nI (rs.getD k (0, 0)).1 := (ha _ _ (by simp)).trans g1
    have e4 : s 11 (2 * k + 1) = nI (rs.getD k (0, 0)).2 := (ha _ _ (by simp)).trans g2
    have e5 := m_isIn (x := gm) (k := k) (by omega) (by omega)
    have hb := rbN_le rs gm h k
    generalize hrd : (rs.getD k (0, 0)).1 = rd at e3 g3
    generalize hrh : (rs.getD k (0, 0)).2 = rh at e4 g4
    have er : rbN rs gm h (k + 1) = if gm.testBit k = false ∧ rh = h ∧ rd < rbN rs gm h k then rd else rbN rs gm h k := by rw [rbN, hrd, hrh]
    generalize hz : rbN rs gm h k = z at hb h13 er
    have keep : s = cb_up s 13 h (s 13 h) := by
      funext a b
      rw [cu]
      by_cases q1 : a = 13
      · subst q1
        rw [if_pos rfl]
        by_cases q2 : b = h
        · subst q2; rw [if_pos rfl]
        · rw [if_neg q2]
      · rw [if_neg q1]
    by_cases hg : gm.testBit k = true
    · refine ⟨cb_up s 13 h (s 13 h), ⟨ha.up ⟨rfl, rfl⟩, ?_⟩, ?_⟩
      · rw [cu, if_pos rfl, if_pos rfl, h13, er, if_neg (by rw [hg]; simp)]
      · simp (disch := first | omega | trivial) only [f_X7_ripens_L136, li, e1, e2, e5, hg, cn_le, if_pos, if_neg, b2i_0, cb_let_eq, Bool.true_eq_false, Option.bind_some, cn_eq, cn_in, cn_cl, cn_add]
    · have hg2 : gm.testBit k = false := by cases hq : gm.testBit k with
        | false => rfl
        | true => exact absurd hq hg
      by_cases hh2 : rh = h
      · cases ho2 : lsO o z with
        | none =>
          rw [ho2] at h13
          rw [show eO none = -nI 1 from rfl] at h13
          refine ⟨cb_up s 13 h (nI rd), ⟨ha.up ⟨rfl, rfl⟩, ?_⟩, ?_⟩
          · rw [cu, if_pos rfl, if_pos rfl, er]
            cases o with
            | some d =>
              exfalso
              unfold lsO at ho2
              dsimp only at ho2
              split at ho2 <;> cases ho2
            | none =>
              have hz40 : ¬ z < 40 := by
                intro q
                unfold lsO at ho2
                dsimp only at ho2
                rw [if_pos q] at ho2
                cases ho2
              rw [if_pos ⟨hg2, hh2, by omega⟩]
              show nI rd = eO (if rd < 40 then some rd else none)
              rw [if_pos g3]
              rfl
          · simp (disch := first | omega | trivial) only [f_X7_ripens_L136, li, e1, e2, e3, e4, e5, hg2, cn_le, if_pos, if_neg, b2i_0, cb_let_eq, Option.bind_some, cn_eq, cn_in, cn_cl, cn_add, cn_mul, hh2, h13]
        | some t =>
          rw [ho2] at h13
          rw [show eO (some t) = nI t from rfl] at h13
          have ht40 : t < 40 ∧ (t ≤ rd ↔ ¬ rd < z ∨ lsO o rd = some t) ∧ (¬ t ≤ rd → rd < z ∧ lsO o rd = some rd) ∧ (t ≤ rd → lsO o (if rd < z then rd else z) = some t) := by
            unfold lsO at ho2 ⊢
            cases o with
            | none =>
              dsimp only at ho2 ⊢
              by_cases q : z < 40
              · rw [if_pos q] at ho2
                cases ho2
                refine ⟨q, ⟨fun a => Or.inl (by omega), fun a => ?_⟩, fun a => ⟨by omega, by rw [if_pos g3]⟩, fun a => by rw [if_neg (show ¬ rd < z by omega), if_pos q]⟩
                rcases a with a | a
                · omega
                · rw [if_pos g3] at a; cases a; omega
              · rw [if_neg q] at ho2; cases ho2
            | some d =>
              have hd := ho d rfl
              dsimp only at ho2 ⊢
              by_cases q : z < d
              · rw [if_pos q] at ho2
                cases ho2
                refine ⟨by omega, ⟨fun a => Or.inl (by omega), fun a => ?_⟩, fun a => ⟨by omega, by rw [if_pos (by omega)]⟩, fun a => by rw [if_neg (show ¬ rd < z by omega), if_pos q]⟩
                rcases a with a | a
                · omega
                · split at a <;> cases a <;> omega
              · rw [if_neg q] at ho2
                cases ho2
                refine ⟨hd, ⟨fun a => Or.inr (by rw [if_neg (by omega)]), fun a => ?_⟩, fun a => ⟨by omega, by rw [if_pos (by omega)]⟩, fun a => ?_⟩
                · rcases a with a | a
                  · omega
                  · split at a
                    · cases a; omega
                    · omega
                · by_cases q9 : rd < z
                  · rw [if_pos q9, if_neg (by omega)]
                  · rw [if_neg q9, if_neg q]
          obtain ⟨t1, t2, t3, t4⟩ := ht40
          by_cases hle : t ≤ rd
          · refine ⟨cb_up s 13 h (nI t), ⟨ha.up ⟨rfl, rfl⟩, ?_⟩, ?_⟩
            · rw [cu, if_pos rfl, if_pos rfl, er]
              have e9 : (if gm.testBit k = false ∧ rh = h ∧ rd < z then rd else z) = if rd < z then rd else z := by
                by_cases q : rd < z
                · rw [if_pos ⟨hg2, hh2, q⟩, if_pos q]
                · rw [if_neg (fun a => q a.2.2), if_neg q]
              rw [e9, t4 hle]
              rfl
            · simp (disch := first | omega | trivial) only [f_X7_ripens_L136, li, e1, e2, e3, e4, e5, hg2, cn_le, if_pos, if_neg, b2i_0, cb_let_eq, Option.bind_some, cn_eq, cn_in, cn_cl, cn_add, cn_mul, hh2, h13, cn_eq1, if_false]
          · refine ⟨cb_up s 13 h (nI rd), ⟨ha.up ⟨rfl, rfl⟩, ?_⟩, ?_⟩
            · rw [cu, if_pos rfl, if_pos rfl, er, if_pos ⟨hg2, hh2, (t3 hle).1⟩, (t3 hle).2]
              rfl
            · simp (disch := first | omega | trivial) only [f_X7_ripens_L136, li, e1, e2, e3, e4, e5, hg2, cn_le, if_pos, if_neg, b2i_0, cb_let_eq, Option.bind_some, cn_eq, cn_in, cn_cl, cn_add, cn_mul, hh2, h13, cn_eq1, if_false]
      · refine ⟨cb_up s 13 h (s 13 h), ⟨ha.up ⟨rfl, rfl⟩, ?_⟩, ?_⟩
        · rw [cu, if_pos rfl, if_pos rfl, h13, er, if_neg (fun a => hh2 a.2.1)]
        · simp (disch := first | omega | trivial) only [f_X7_ripens_L136, li, e1, e2, e3, e4, e5, hg2, cn_le, if_pos, if_neg, b2i_0, cb_let_eq, Option.bind_some, cn_eq, cn_in, cn_cl, cn_add, cn_mul]
theorem m_ripens {M : cb_Mem} {w0 w1 : List Nat} {ch : Option Nat} {rs : List (Nat × Nat)} {gm h srt due : Nat} (hW : mW M w0 w1 ch) (hR : mR M rs gm) (hh : h < 8) (hs : M 7 (2 * h) = nI srt) (hs2 : srt ≤ 2) (hd : M 7 (2 * h + 1) = nI due) (hdue : due < 30) :
    ∃ M', f_X7_ripens (nI h) M = some M' ∧ agr M M' (fun k j => (k = 12 ∨ k = 13) ∧ j = h) ∧ M' 12 h = eO (rpN (frO w0 ch) srt due 30) ∧ M' 13 h = eO (lsO (match rpN (frO w0 ch) srt due 30 with | none => fsN (frO w0 ch) 30 | some _ => none) (rbF rs gm h)) := by
  have ha0 : agr M (cb_up (cb_up M 12 h (nI due)) 13 h (-nI 1)) (fun k j => (k = 12 ∨ k = 13) ∧ j = h) := (agr.rf.up ⟨Or.inl rfl, rfl⟩).up ⟨Or.inr rfl, rfl⟩
  obtain ⟨M1, f1, a1, c1⟩ := m_rip1 (M := cb_up (cb_up M 12 h (nI due)) 13 h (-nI 1)) (h := h) (srt := srt) (due := due) (hW.agr ha0 (by simp) (by simp) (by simp)) hh (by rw [ha0 _ _ (by simp)]; exact hs) hs2 (by simp [cu]) (by simp [cu]) hdue
  have ha1 := ha0.trans a1
  rcases c1 with ⟨x, q1, q2, q3⟩ | ⟨d, q1, q2, q3, q4⟩
  · have hx := rpN_bound (frO_late (fun j hj => (hW.2.2.1 j hj).2)) q1
    have a2 : agr M (cb_up M1 12 h (nI x)) (fun k j => (k = 12 ∨ k = 13) ∧ j = h) := ha1.up ⟨Or.inl rfl, rfl⟩
    obtain ⟨M2, f2, a3, c2⟩ := m_rip2 (M := cb_up M1 12 h (nI x)) (o := none) (hR.agr a2 (by simp) (by simp) (by simp)) hh (by rw [cu, if_neg (by decide), q3]; rfl) (fun d e => by cases e)
    refine ⟨M2, ?_, a2.trans (a3.mono (fun k j q => ⟨Or.inr q.1, q.2⟩)), ?_, ?_⟩
    · simp (disch := first | omega | trivial) only [f_X7_ripens, li, cn_in, cn_cl, cn_mul, cn_add, hd, if_pos, cb_let_eq, f1, Option.bind_some, q2, q3, f2]
    · rw [a3 _ _ (by simp), cu, if_pos rfl, if_pos rfl, q1]
      rfl
    · rw [c2, q1]
  · have a2 : agr M (cb_up M1 12 h (-nI 1)) (fun k j => (k = 12 ∨ k = 13) ∧ j = h) := ha1.up ⟨Or.inl rfl, rfl⟩
    obtain ⟨M2, f2, a3, c2⟩ := m_rip2 (M := cb_up M1 12 h (-nI 1)) (o := some d) (hR.agr a2 (by simp) (by simp) (by simp)) hh (by rw [cu, if_neg (by decide), q4]; rfl) (fun d' e => by cases e; omega)
    refine ⟨M2, ?_, a2.trans (a3.mono (fun k j q => ⟨Or.inr q.1, q.2⟩)), ?_, ?_⟩
    · simp (disch := first | omega | trivial) only [f_X7_ripens, li, cn_in, cn_cl, cn_mul, cn_add, hd, if_pos, cb_let_eq, f1, Option.bind_some, q4, cn_eq1, if_false, f2]
    · rw [a3 _ _ (by simp), cu, if_pos rfl, if_pos rfl, q1]
      rfl
    · rw [c2, q1]
      dsimp only
      rw [q2]
