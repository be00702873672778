theorem m_readsCouples {M : cb_Mem} {l : List Nat} (hT : yT M 1 l) : ∃ M', f_X7_readsCouples M = some (eO (flt 1 l), M') ∧ agr M M' PC ∧ M' 0 9 = nI (pnN 1 l) ∧ ∀ h, h < pnN 1 l → M' 8 (3 * h) = nI (pkN 1 l h) ∧ M' 8 (3 * h + 1) = nI (pdN 1 l h) ∧ M' 8 (3 * h + 2) = nI (psN 1 l h) := by
  obtain ⟨t1, t2, t3⟩ := hT
  have hcap : l.length ≤ 39 := t2
  obtain ⟨M1, hM1⟩ : ∃ X, X = cb_up M 0 9 (nI 0) := ⟨_, rfl⟩
  have a1 : agr M M1 PC := by rw [hM1]; exact agr.rf.up (by simp [PC])
  have hlen : M1 6 1 = nI l.length := by rw [a1 _ _ (by simp [PC])]; exact t1
  have hs : ∃ r, f_X7_readsCouples_L14 cb_fuel (nI l.length) (nI 0) M1 = some r ∧ (match fl1 1 l l.length with
      | some j => ∃ N, r = Sum.inl (nI j, N) ∧ agr M N PC ∧ N 0 9 = nI 0
      | none => ∃ N, r = Sum.inr N ∧ agr M N PC ∧ N 0 9 = nI ((l.length + 1) / 5) ∧ (∀ k, 5 * k < l.length → N 8 (3 * k) = nI (pkN 1 l k)) ∧ (∀ k, 5 * k + 2 < l.length → N 8 (3 * k + 1) = nI (pdN 1 l k)) ∧ ∀ k, 5 * k + 3 < l.length → N 8 (3 * k + 2) = nI (psN 1 l k)) := by
    refine cb_loop0 (fun m k (s : cb_Mem) => f_X7_readsCouples_L14 m (nI l.length) (nI k) s) (fun j N => fl1 1 l j = none ∧ agr M N PC ∧ N 0 9 = nI ((j + 1) / 5) ∧ (∀ k, 5 * k < j → N 8 (3 * k) = nI (pkN 1 l k)) ∧ (∀ k, 5 * k + 2 < j → N 8 (3 * k + 1) = nI (pdN 1 l k)) ∧ (∀ k, 5 * k + 2 = j → N 8 (3 * k + 1) = nI (10 * (l.getD (5 * k + 1) 0 - 48))) ∧ ∀ k, 5 * k + 3 < j → N 8 (3 * k + 2) = nI (psN 1 l k)) l.length _ M1 (by omega) ⟨rfl, a1, by rw [hM1, cu, if_pos rfl, if_pos rfl], fun k h => by omega, fun k h => by omega, fun k h => by omega, fun k h => by omega⟩ ?_ ?_
    · rintro m s ⟨h1, h2, h3, h4, h5, h6, h7⟩
      refine ⟨Sum.inr s, ?_, ?_⟩
      · rw [f_X7_readsCouples_L14, if_pos (by rw [cn_le (by omega) (by omega)]; omega)]
      · rw [h1]
        exact ⟨s, rfl, h2, h3, h4, h5, h7⟩
    · rintro m j s hj ⟨h1, h2, h3, h4, h5, h6, h7⟩
      obtain ⟨k, r, hr, hjr⟩ : ∃ k r, r < 5 ∧ j = 5 * k + r := ⟨j / 5, j % 5, by omega, by omega⟩
      have hmod : j % 5 = r := by omega
      have hdiv : j / 5 = k := by omega
      have e5 : s 5 (40 + j) = nI (l.getD j 0) := by
        rw [h2 _ _ (by simp [PC])]
        exact (t3 j hj).1
      have hb := (t3 j hj).2
      have htl := v_tells1 r hr (l.getD j 0) hb
      have hx1 : nI j - nI j / nI 5 * nI 5 = nI r := by rw [cn_div (by omega) (by omega) (by omega), cn_rem (by omega) (by omega) (by omega), hmod]
      have hx3 : nI 3 * (nI j / nI 5) = nI (3 * k) := by rw [cn_div (by omega) (by omega) (by omega), cn_mul, hdiv]
      have unf : f_X7_readsCouples_L14 (m + 1) (nI l.length) (nI j) s = (if eW (tel 1 r (l.getD j 0)) = -nI 9 then some (Sum.inl (nI j, cb_up s 0 9 (nI 0))) else Option.bind (if nI r = nI 0 then (if cb_in (nI (3 * k)) 24 = true then some (cb_up s 8 (nI (3 * k)).toNatClampNeg (eW (tel 1 r (l.getD j 0)))) else none) else if nI r = nI 1 then (if cb_in (nI (3 * k) + nI 1) 24 = true then some (cb_up s 8 (nI (3 * k) + nI 1).toNatClampNeg (nI 10 * eW (tel 1 r (l.getD j 0)))) else none) else if nI r = nI 2 then (if cb_in (nI (3 * k) + nI 1) 24 = true then (if cb_in (nI (3 * k) + nI 1) 24 = true then some (cb_up s 8 (nI (3 * k) + nI 1).toNatClampNeg (s 8 (nI (3 * k) + nI 1).toNatClampNeg + eW (tel 1 r (l.getD j 0)))) else none) else none) else if nI r = nI 3 then (if cb_in (nI (3 * k) + nI 2) 24 = true then some (cb_up (cb_up s 8 (nI (3 * k) + nI 2).toNatClampNeg (eW (tel 1 r (l.getD j 0)))) 0 9 ((cb_up s 8 (nI (3 * k) + nI 2).toNatClampNeg (eW (tel 1 r (l.getD j 0)))) 0 9 + nI 1)) else none) else some s) (fun M1 => f_X7_readsCouples_L14 m (nI l.length) (nI j + nI 1) M1)) := by
        rw [f_X7_readsCouples_L14, if_neg (by rw [cn_le (by omega) (by omega)]; omega)]
        rw [show (1 : Int32) = nI 1 from rfl] at htl
        simp only [cb_let_eq, li, hx1, hx3]
        rw [show nI 40 + nI j = nI (40 + j) from cn_add 40 j, if_pos (by rw [cn_in (by omega)]; omega), cn_cl (by omega), e5, htl]
      rw [unf]
      cases ht : tel 1 r (l.getD j 0) with
      | none =>
        left
        refine ⟨Sum.inl (nI j, cb_up s 0 9 (nI 0)), by rw [show eW none = -nI 9 from rfl, if_pos rfl], ?_⟩
        have h9 : fl1 1 l (j + 1) = some j := by
          have hs' : fsN (fun j => (tel 1 (j % 5) (l.getD j 0)).isNone) j = none := h1
          show fsN (fun j => (tel 1 (j % 5) (l.getD j 0)).isNone) (j + 1) = some j
          rw [fsN, hs']
          dsimp only
          rw [hmod, ht, if_pos (by rfl)]
        have : fl1 1 l l.length = some j := fsN_some (by omega) h9
        rw [this]
        exact ⟨_, rfl, h2.up (by simp [PC]), by rw [cu, if_pos rfl, if_pos rfl]⟩
      | some v =>
        right
        have hv := tel_le ht hb
        have h9 : fl1 1 l (j + 1) = none := by
          have hs' : fsN (fun j => (tel 1 (j % 5) (l.getD j 0)).isNone) j = none := h1
          show fsN (fun j => (tel 1 (j % 5) (l.getD j 0)).isNone) (j + 1) = none
          rw [fsN, hs']
          dsimp only
          rw [hmod, ht, if_neg (by simp)]
        rw [show eW (some v) = nI v from rfl, if_neg (by rw [cn_m9 (by omega)]; exact id)]
        rcases (show r = 0 ∨ r = 1 ∨ r = 2 ∨ r = 3 ∨ r = 4 by omega) with e | e | e | e | e
        · subst e
          refine ⟨cb_up s 8 (3 * k) (nI v), ⟨h9, h2.up (by simp [PC]), ?_, fun q hq => ?_, fun q hq => ?_, fun q hq => ?_, fun q hq => ?_⟩, ?_⟩
          · rw [cu, if_neg (by decide), h3]; congr 1; omega
          · rw [cu, if_pos rfl]
            by_cases e : q = k
            · subst e
              rw [if_pos rfl]
              unfold pkN
              have : tel 1 0 (l.getD ((4 + 1) * q) 0) = some v := by
                show tel 1 0 (l.getD (5 * q + 0) 0) = some v
                rw [← hjr]; exact ht
              rw [this]; rfl
            · rw [if_neg (by omega)]; exact h4 q (by omega)
          · rw [cu, if_pos rfl, if_neg (by omega)]; exact h5 q (by omega)
          · omega
          · rw [cu, if_pos rfl, if_neg (by omega)]; exact h7 q (by omega)
          · rw [if_pos rfl, if_pos (by rw [cn_in (by omega)]; omega), cn_cl (by omega), Option.bind_some, cn_add]
        · subst e
          obtain ⟨g1, g2, g3⟩ := tel1 ht (by omega)
          refine ⟨cb_up s 8 (3 * k + 1) (nI (10 * v)), ⟨h9, h2.up (by simp [PC]), ?_, fun q hq => ?_, fun q hq => ?_, fun q hq => ?_, fun q hq => ?_⟩, ?_⟩
          · rw [cu, if_neg (by decide), h3]; congr 1; omega
          · rw [cu, if_pos rfl, if_neg (by omega)]; exact h4 q (by omega)
          · rw [cu, if_pos rfl, if_neg (by omega)]; exact h5 q (by omega)
          · have : q = k := by omega
            subst this
            rw [cu, if_pos rfl, if_pos rfl, g3, hjr]
          · rw [cu, if_pos rfl, if_neg (by omega)]; exact h7 q (by omega)
          · rw [if_neg (by rw [cn_eq (by omega) (by omega)]; omega), if_pos rfl, cn_add, if_pos (by rw [cn_in (by omega)]; omega), cn_cl (by omega), cn_mul, Option.bind_some, cn_add]
        · subst e
          obtain ⟨g1, g2, g3⟩ := tel2 ht (by omega)
          have e7 := h6 k (by omega)
          refine ⟨cb_up s 8 (3 * k + 1) (nI (pdN 1 l k)), ⟨h9, h2.up (by simp [PC]), ?_, fun q hq => ?_, fun q hq => ?_, fun q hq => ?_, fun q hq => ?_⟩, ?_⟩
          · rw [cu, if_neg (by decide), h3]; congr 1; omega
          · rw [cu, if_pos rfl, if_neg (by omega)]; exact h4 q (by omega)
          · rw [cu, if_pos rfl]
            by_cases e : q = k
            · rw [e, if_pos rfl]
            · rw [if_neg (by omega)]; exact h5 q (by omega)
          · omega
          · rw [cu, if_pos rfl, if_neg (by omega)]; exact h7 q (by omega)
          · have hpd : nI (10 * (l.getD (5 * k + 1) 0 - 48)) + nI v = nI (pdN 1 l k) := by rw [cn_add, g3, hjr]; rfl
            rw [if_neg (by rw [cn_eq (by omega) (by omega)]; omega), if_neg (by rw [cn_eq (by omega) (by omega)]; omega), if_pos rfl, cn_add, if_pos (by rw [cn_in (by omega)]; omega), if_pos (by rw [cn_in (by omega)]; omega), cn_cl (by omega), e7, hpd, Option.bind_some, cn_add]
        · subst e
          obtain ⟨g1, g2, g3⟩ := tel3 ht
          refine ⟨cb_up (cb_up s 8 (3 * k + 2) (nI (psN 1 l k))) 0 9 (nI (k + 1)), ⟨h9, (h2.up (by simp [PC])).up (by simp [PC]), ?_, fun q hq => ?_, fun q hq => ?_, fun q hq => ?_, fun q hq => ?_⟩, ?_⟩
          · rw [cu, if_pos rfl, if_pos rfl]; congr 1; omega
          · rw [cu, if_neg (by decide), cu, if_pos rfl, if_neg (by omega)]; exact h4 q (by omega)
          · rw [cu, if_neg (by decide), cu, if_pos rfl, if_neg (by omega)]; exact h5 q (by omega)
          · omega
          · rw [cu, if_neg (by decide), cu, if_pos rfl]
            by_cases e : q = k
            · rw [e, if_pos rfl]
            · rw [if_neg (by omega)]; exact h7 q (by omega)
          · have hps : nI v = nI (psN 1 l k) := by rw [g3, hjr]; rfl
            rw [if_neg (by rw [cn_eq (by omega) (by omega)]; omega), if_neg (by rw [cn_eq (by omega) (by omega)]; omega), if_neg (by rw [cn_eq (by omega) (by omega)]; omega), if_pos rfl, cn_add, if_pos (by rw [cn_in (by omega)]; omega), cn_cl (by omega), hps, Option.bind_some, cu, if_neg (by decide), h3, cn_add, cn_add]
            congr 3
            omega
        · subst e
          refine ⟨s, ⟨h9, h2, ?_, fun q hq => h4 q (by omega), fun q hq => h5 q (by omega), fun q hq => by omega, fun q hq => h7 q (by omega)⟩, ?_⟩
          · rw [h3]; congr 1; omega
          · rw [if_neg (by rw [cn_eq (by omega) (by omega)]; omega), if_neg (by rw [cn_eq (by omega) (by omega)]; omega), if_neg (by rw [cn_eq (by omega) (by omega)]; omega), if_neg (by rw [cn_eq (by omega) (by omega)]; omega), Option.bind_some, cn_add]
  obtain ⟨r, hs1, hs2⟩ := hs
  have unf : f_X7_readsCouples M = cb_bs (f_X7_readsCouples_L14 cb_fuel (nI l.length) (nI 0) M1) (fun r => some r) (fun M2 => if nI l.length ≤ nI 0 then some (-nI 1, M2) else if nI l.length - nI l.length / nI 5 * nI 5 = nI 4 then some (-nI 1, M2) else some (nI l.length, cb_up M2 0 9 (nI 0))) := by
    rw [← hlen, hM1]
    rfl
  rw [unf, hs1]
  have hx : nI l.length - nI l.length / nI 5 * nI 5 = nI (l.length % 5) := by rw [cn_div (by omega) (by omega) (by omega), cn_rem (by omega) (by omega) (by omega)]
  cases hf : fl1 1 l l.length with
  | some j =>
    rw [hf] at hs2
    obtain ⟨N, n1, n2, n3⟩ := hs2
    have hfl : flt 1 l = some j := by unfold flt; rw [hf]
    have hpn : pnN 1 l = 0 := by unfold pnN; rw [hfl, if_neg (by simp)]
    rw [n1, cb_bs_r, hfl, hpn]
    exact ⟨N, rfl, n2, n3, fun h q => by omega⟩
  | none =>
    rw [hf] at hs2
    obtain ⟨N, n1, n2, n3, n4, n5, n6⟩ := hs2
    rw [n1, cb_bs_k, hx]
    by_cases q : l.length = 0 ∨ l.length % 5 = 4
    · have hfl : flt 1 l = none := by unfold flt; rw [hf]; dsimp only; rw [if_pos q]
      have hpn : pnN 1 l = (l.length + 1) / 5 := by unfold pnN; rw [hfl, if_pos rfl]
      refine ⟨N, ?_, n2, by rw [n3, hpn], fun h hh => ⟨n4 h (by omega), n5 h (by omega), n6 h (by omega)⟩⟩
      rw [hfl]
      by_cases q0 : l.length = 0
      · rw [if_pos (by rw [cn_le (by omega) (by omega)]; omega)]; rfl
      · rw [if_neg (by rw [cn_le (by omega) (by omega)]; omega), if_pos (by congr 1; omega)]; rfl
    · have hfl : flt 1 l = some l.length := by unfold flt; rw [hf]; dsimp only; rw [if_neg q]
      have hpn : pnN 1 l = 0 := by unfold pnN; rw [hfl, if_neg (by simp)]
      refine ⟨cb_up N 0 9 (nI 0), ?_, n2.up (by simp [PC]), by rw [cu, if_pos rfl, if_pos rfl, hpn], fun h hh => by omega⟩
      rw [hfl, if_neg (by rw [cn_le (by omega) (by omega)]; omega), if_neg (by rw [cn_eq (by omega) (by omega)]; omega)]; rfl
