/-! the reference reads -/
def yT (M : cb_Mem) (t : Nat) (l : List Nat) : Prop := M 6 t = nI l.length ∧ l.length ≤ cx_cap t ∧ ∀ j, j < l.length → M 5 (40 * t + j) = nI (l.getD j 0) ∧ l.getD j 0 < 256
theorem yT.agr {M M' : cb_Mem} {t : Nat} {l : List Nat} (h : yT M t l) {P : Nat → Nat → Prop} (ha : agr M M' P) (p1 : ∀ j, ¬ P 6 j) (p2 : ∀ j, ¬ P 5 j) : yT M' t l := by
  obtain ⟨a, b, c⟩ := h
  exact ⟨by rw [ha _ _ (p1 t)]; exact a, b, fun j hj => by rw [ha _ _ (p2 _)]; exact c j hj⟩
def PH (k j : Nat) : Prop := k = 7 ∨ (k = 0 ∧ j = 7)
def PC (k j : Nat) : Prop := k = 8 ∨ (k = 0 ∧ j = 9)
theorem eW_some {o : Option Nat} {v : Nat} (h : o = some v) : eW o = nI v := by rw [h]; rfl
theorem cn_m9 {a : Nat} (ha : a < 1000) : (nI a = -nI 9) = False := by
  apply eq_false
  intro h
  have := congrArg Int32.toInt h
  rw [cn_ti (by omega), show (-nI 9).toInt = -9 from by decide] at this
  omega
theorem tel_le {t k b v : Nat} (h : tel t k b = some v) (hb : b < 256) : v < 256 := by
  unfold tel at h
  repeat' split at h
  all_goals (first | (cases h; omega) | cases h)
theorem m_readsHeads {M : cb_Mem} {l : List Nat} (hT : yT M 0 l) : ∃ M', f_X7_readsHeads M = some (eO (flt 0 l), M') ∧ agr M M' PH ∧ M' 0 7 = nI (pnN 0 l) ∧ ∀ h, h < pnN 0 l → M' 7 (2 * h) = nI (pkN 0 l h) ∧ M' 7 (2 * h + 1) = nI (pdN 0 l h) := by
  obtain ⟨t1, t2, t3⟩ := hT
  have hcap : l.length ≤ 31 := t2
  obtain ⟨M1, hM1⟩ : ∃ X, X = cb_up M 0 7 (nI 0) := ⟨_, rfl⟩
  have a1 : agr M M1 PH := by rw [hM1]; exact agr.rf.up (by simp [PH])
  have hlen : M1 6 0 = nI l.length := by rw [a1 _ _ (by simp [PH])]; exact t1
  have hs : ∃ r, f_X7_readsHeads_L14 cb_fuel (nI l.length) (nI 0) M1 = some r ∧ (match fl1 0 l l.length with
      | some j => ∃ N, r = Sum.inl (nI j, N) ∧ agr M N PH ∧ N 0 7 = nI 0
      | none => ∃ N, r = Sum.inr N ∧ agr M N PH ∧ N 0 7 = nI ((l.length + 1) / 4) ∧ (∀ k, 4 * k < l.length → N 7 (2 * k) = nI (pkN 0 l k)) ∧ ∀ k, 4 * k + 2 < l.length → N 7 (2 * k + 1) = nI (pdN 0 l k)) := by
    refine cb_loop0 (fun m k (s : cb_Mem) => f_X7_readsHeads_L14 m (nI l.length) (nI k) s) (fun j N => fl1 0 l j = none ∧ agr M N PH ∧ N 0 7 = nI ((j + 1) / 4) ∧ (∀ k, 4 * k < j → N 7 (2 * k) = nI (pkN 0 l k)) ∧ (∀ k, 4 * k + 2 < j → N 7 (2 * k + 1) = nI (pdN 0 l k)) ∧ ∀ k, 4 * k + 2 = j → N 7 (2 * k + 1) = nI (10 * (l.getD (4 * k + 1) 0 - 48))) l.length _ M1 (by omega) ⟨rfl, a1, by rw [hM1, cu, if_pos rfl, if_pos rfl], fun k h => by omega, fun k h => by omega, fun k h => by omega⟩ ?_ ?_
    · rintro m s ⟨h1, h2, h3, h4, h5, h6⟩
      refine ⟨Sum.inr s, ?_, ?_⟩
      · rw [f_X7_readsHeads_L14, if_pos (by rw [cn_le (by omega) (by omega)]; omega)]
      · rw [h1]
        exact ⟨s, rfl, h2, h3, h4, h5⟩
    · rintro m j s hj ⟨h1, h2, h3, h4, h5, h6⟩
      obtain ⟨k, r, hr, hjr⟩ : ∃ k r, r < 4 ∧ j = 4 * k + r := ⟨j / 4, j % 4, by omega, by omega⟩
      have hmod : j % 4 = r := by omega
      have hdiv : j / 4 = k := by omega
      have e5 : s 5 j = nI (l.getD j 0) := by
        rw [h2 _ _ (by simp [PH])]
        have := (t3 j hj).1
        rwa [Nat.mul_zero, Nat.zero_add] at this
      have hb := (t3 j hj).2
      have htl := v_tells0 r hr (l.getD j 0) hb
      have hx1 : nI j - nI j / nI 4 * nI 4 = nI r := by rw [cn_div (by omega) (by omega) (by omega), cn_rem (by omega) (by omega) (by omega), hmod]
      have hx3 : nI 2 * (nI j / nI 4) = nI (2 * k) := by rw [cn_div (by omega) (by omega) (by omega), cn_mul, hdiv]
      have unf : f_X7_readsHeads_L14 (m + 1) (nI l.length) (nI j) s = (if eW (tel 0 r (l.getD j 0)) = -nI 9 then some (Sum.inl (nI j, cb_up s 0 7 (nI 0))) else Option.bind (if nI r = nI 0 then (if cb_in (nI (2 * k)) 16 = true then some (cb_up s 7 (nI (2 * k)).toNatClampNeg (eW (tel 0 r (l.getD j 0)))) else none) else if nI r = nI 1 then (if cb_in (nI (2 * k) + nI 1) 16 = true then some (cb_up s 7 (nI (2 * k) + nI 1).toNatClampNeg (nI 10 * eW (tel 0 r (l.getD j 0)))) else none) else if nI r = nI 2 then (if cb_in (nI (2 * k) + nI 1) 16 = true then (if cb_in (nI (2 * k) + nI 1) 16 = true then some (cb_up (cb_up s 7 (nI (2 * k) + nI 1).toNatClampNeg (s 7 (nI (2 * k) + nI 1).toNatClampNeg + eW (tel 0 r (l.getD j 0)))) 0 7 ((cb_up s 7 (nI (2 * k) + nI 1).toNatClampNeg (s 7 (nI (2 * k) + nI 1).toNatClampNeg + eW (tel 0 r (l.getD j 0)))) 0 7 + nI 1)) else none) else none) else some s) (fun M1 => f_X7_readsHeads_L14 m (nI l.length) (nI j + nI 1) M1)) := by
        rw [f_X7_readsHeads_L14, if_neg (by rw [cn_le (by omega) (by omega)]; omega)]
        rw [show (0 : Int32) = nI 0 from rfl] at htl
        simp only [cb_let_eq, li, hx1, hx3]
        rw [if_pos (by rw [cn_in (by omega)]; omega), cn_cl (by omega), e5, htl]
      rw [unf]
      cases ht : tel 0 r (l.getD j 0) with
      | none =>
        left
        refine ⟨Sum.inl (nI j, cb_up s 0 7 (nI 0)), by rw [show eW none = -nI 9 from rfl, if_pos rfl], ?_⟩
        have h9 : fl1 0 l (j + 1) = some j := by
          have hs' : fsN (fun j => (tel 0 (j % 4) (l.getD j 0)).isNone) j = none := h1
          show fsN (fun j => (tel 0 (j % 4) (l.getD j 0)).isNone) (j + 1) = some j
          rw [fsN, hs']
          dsimp only
          rw [hmod, ht, if_pos (by rfl)]
        have : fl1 0 l l.length = some j := fsN_some (by omega) h9
        rw [this]
        exact ⟨_, rfl, h2.up (by simp [PH]), by rw [cu, if_pos rfl, if_pos rfl]⟩
      | some v =>
        right
        have hv := tel_le ht hb
        have h9 : fl1 0 l (j + 1) = none := by
          have hs' : fsN (fun j => (tel 0 (j % 4) (l.getD j 0)).isNone) j = none := h1
          show fsN (fun j => (tel 0 (j % 4) (l.getD j 0)).isNone) (j + 1) = none
          rw [fsN, hs']
          dsimp only
          rw [hmod, ht, if_neg (by simp)]
        rw [show eW (some v) = nI v from rfl, if_neg (by rw [cn_m9 (by omega)]; exact id)]
        rcases (show r = 0 ∨ r = 1 ∨ r = 2 ∨ r = 3 by omega) with e | e | e | e
        · subst e
          refine ⟨cb_up s 7 (2 * k) (nI v), ⟨h9, h2.up (by simp [PH]), ?_, fun q hq => ?_, fun q hq => ?_, fun q hq => ?_⟩, ?_⟩
          · rw [cu, if_neg (by decide), h3]; congr 1; omega
          · rw [cu, if_pos rfl]
            by_cases e : q = k
            · subst e
              rw [if_pos rfl]
              unfold pkN
              have : tel 0 0 (l.getD ((4 + 0) * q) 0) = some v := by
                show tel 0 0 (l.getD (4 * q + 0) 0) = some v
                rw [← hjr]; exact ht
              rw [this]; rfl
            · rw [if_neg (by omega)]; exact h4 q (by omega)
          · rw [cu, if_pos rfl, if_neg (by omega)]; exact h5 q (by omega)
          · omega
          · rw [if_pos rfl, if_pos (by rw [cn_in (by omega)]; omega), cn_cl (by omega), Option.bind_some, cn_add]
        · subst e
          obtain ⟨g1, g2, g3⟩ := tel1 ht (by omega)
          refine ⟨cb_up s 7 (2 * k + 1) (nI (10 * v)), ⟨h9, h2.up (by simp [PH]), ?_, fun q hq => ?_, fun q hq => ?_, fun q hq => ?_⟩, ?_⟩
          · rw [cu, if_neg (by decide), h3]; congr 1; omega
          · rw [cu, if_pos rfl, if_neg (by omega)]; exact h4 q (by omega)
          · rw [cu, if_pos rfl, if_neg (by omega)]; exact h5 q (by omega)
          · have : q = k := by omega
            subst this
            rw [cu, if_pos rfl, if_pos rfl, g3, hjr]
          · rw [if_neg (by rw [cn_eq (by omega) (by omega)]; omega), if_pos rfl, cn_add, if_pos (by rw [cn_in (by omega)]; omega), cn_cl (by omega), cn_mul, Option.bind_some, cn_add]
        · subst e
          obtain ⟨g1, g2, g3⟩ := tel2 ht (by omega)
          have e7 := h6 k (by omega)
          refine ⟨cb_up (cb_up s 7 (2 * k + 1) (nI (pdN 0 l k))) 0 7 (nI (k + 1)), ⟨h9, (h2.up (by simp [PH])).up (by simp [PH]), ?_, fun q hq => ?_, fun q hq => ?_, fun q hq => ?_⟩, ?_⟩
          · rw [cu, if_pos rfl, if_pos rfl]; congr 1; omega
          · rw [cu, if_neg (by decide), cu, if_pos rfl, if_neg (by omega)]; exact h4 q (by omega)
          · rw [cu, if_neg (by decide), cu, if_pos rfl]
            by_cases e : q = k
            · rw [e, if_pos rfl]
            · rw [if_neg (by omega)]; exact h5 q (by omega)
          · omega
          · have hpd : nI (10 * (l.getD (4 * k + 1) 0 - 48)) + nI v = nI (pdN 0 l k) := by rw [cn_add, g3, hjr]; rfl
            rw [if_neg (by rw [cn_eq (by omega) (by omega)]; omega), if_neg (by rw [cn_eq (by omega) (by omega)]; omega), if_pos rfl, cn_add, if_pos (by rw [cn_in (by omega)]; omega), if_pos (by rw [cn_in (by omega)]; omega), cn_cl (by omega), e7, hpd, Option.bind_some, cu, if_neg (by decide), h3, cn_add, cn_add]
            congr 3
            omega
        · subst e
          refine ⟨s, ⟨h9, h2, ?_, fun q hq => h4 q (by omega), fun q hq => h5 q (by omega), fun q hq => by omega⟩, ?_⟩
          · rw [h3]; congr 1; omega
          · rw [if_neg (by rw [cn_eq (by omega) (by omega)]; omega), if_neg (by rw [cn_eq (by omega) (by omega)]; omega), if_neg (by rw [cn_eq (by omega) (by omega)]; omega), Option.bind_some, cn_add]
  obtain ⟨r, hs1, hs2⟩ := hs
  have unf : f_X7_readsHeads M = cb_bs (f_X7_readsHeads_L14 cb_fuel (nI l.length) (nI 0) M1) (fun r => some r) (fun M2 => if nI l.length ≤ nI 0 then some (-nI 1, M2) else if nI l.length - nI l.length / nI 4 * nI 4 = nI 3 then some (-nI 1, M2) else some (nI l.length, cb_up M2 0 7 (nI 0))) := by
    rw [← hlen, hM1]
    rfl
  rw [unf, hs1]
  have hx : nI l.length - nI l.length / nI 4 * nI 4 = nI (l.length % 4) := by rw [cn_div (by omega) (by omega) (by omega), cn_rem (by omega) (by omega) (by omega)]
  cases hf : fl1 0 l l.length with
  | some j =>
    rw [hf] at hs2
    obtain ⟨N, n1, n2, n3⟩ := hs2
    have hfl : flt 0 l = some j := by unfold flt; rw [hf]
    have hpn : pnN 0 l = 0 := by unfold pnN; rw [hfl, if_neg (by simp)]
    rw [n1, cb_bs_r, hfl, hpn]
    exact ⟨N, rfl, n2, n3, fun h q => by omega⟩
  | none =>
    rw [hf] at hs2
    obtain ⟨N, n1, n2, n3, n4, n5⟩ := hs2
    rw [n1, cb_bs_k, hx]
    by_cases q : l.length = 0 ∨ l.length % 4 = 3
    · have hfl : flt 0 l = none := by unfold flt; rw [hf]; dsimp only; rw [if_pos q]
      have hpn : pnN 0 l = (l.length + 1) / 4 := by unfold pnN; rw [hfl, if_pos rfl]
      refine ⟨N, ?_, n2, by rw [n3, hpn], fun h hh => ⟨n4 h (by omega), n5 h (by omega)⟩⟩
      rw [hfl]
      by_cases q0 : l.length = 0
      · rw [if_pos (by rw [cn_le (by omega) (by omega)]; omega)]; rfl
      · rw [if_neg (by rw [cn_le (by omega) (by omega)]; omega), if_pos (by congr 1; omega)]; rfl
    · have hfl : flt 0 l = some l.length := by unfold flt; rw [hf]; dsimp only; rw [if_neg q]
      have hpn : pnN 0 l = 0 := by unfold pnN; rw [hfl, if_neg (by simp)]
      refine ⟨cb_up N 0 7 (nI 0), ?_, n2.up (by simp [PH]), by rw [cu, if_pos rfl, if_pos rfl, hpn], fun h hh => by omega⟩
      rw [hfl, if_neg (by rw [cn_le (by omega) (by omega)]; omega), if_neg (by rw [cn_eq (by omega) (by omega)]; omega)]; rfl
