/-! fields that a plan tries -/
def sdF (F : FD) (h d : Nat) : FD := ((F.1.1, F.1.2.1, fnU F.1.2.2 h d), F.2)
def ssF (F : FD) (h s : Nat) : FD := ((F.1.1, fnU F.1.2.1 h s, F.1.2.2), F.2)
def sfF (F : FD) (c d : Nat) : FD := (F.1, (F.2.1.1, F.2.1.2.1, fnU F.2.1.2.2.1 c d, F.2.1.2.2.2), F.2.2)
def srF (F : FD) (g : Nat → Nat) : FD := (F.1, F.2.1, F.2.2.1, g)
def sxF (F : FD) (fr : Nat → Bool) : FD := (F.1, F.2.1, fr, F.2.2.2)
theorem fnU_eq {α : Type} (f : Nat → α) (k : Nat) (v : α) : fnU f k v k = v := if_pos rfl
theorem fnU_ne {α : Type} (f : Nat → α) {k j : Nat} (v : α) (h : j ≠ k) : fnU f k v j = f j := if_neg h
theorem fnU_self {α : Type} (f : Nat → α) (k : Nat) : fnU f k (f k) = f := by
  funext j
  by_cases h : j = k
  · subst h; exact fnU_eq f j (f j)
  · exact fnU_ne f _ h
theorem sdF_self (F : FD) (h : Nat) : sdF F h (d_due F h) = F := by
  unfold sdF
  rw [show d_due F h = F.1.2.2 h from rfl, fnU_self]
theorem ssF_self (F : FD) (h : Nat) : ssF F h (d_srt F h) = F := by
  unfold ssF
  rw [show d_srt F h = F.1.2.1 h from rfl, fnU_self]
theorem sfF_self (F : FD) (c : Nat) : sfF F c (d_frm F c) = F := by
  unfold sfF
  rw [show d_frm F c = F.2.1.2.2.1 c from rfl, fnU_self]
theorem WF_sd {F : FD} (hF : WF F) {h d : Nat} (hd : d < 30) : WF (sdF F h d) := by
  obtain ⟨a1, a2, a3, a4, a5, a6⟩ := hF
  refine ⟨a1, a2, fun k hk => ⟨(a3 k hk).1, ?_⟩, a4, a5, a6⟩
  show fnU F.1.2.2 h d k < 30
  by_cases e : k = h
  · subst e; rw [fnU_eq]; exact hd
  · rw [fnU_ne _ _ e]; exact (a3 k hk).2
theorem WF_ss {F : FD} (hF : WF F) {h s : Nat} (hs : s ≤ 2) : WF (ssF F h s) := by
  obtain ⟨a1, a2, a3, a4, a5, a6⟩ := hF
  refine ⟨a1, a2, fun k hk => ⟨?_, (a3 k hk).2⟩, a4, a5, a6⟩
  show fnU F.1.2.1 h s k ≤ 2
  by_cases e : k = h
  · subst e; rw [fnU_eq]; exact hs
  · rw [fnU_ne _ _ e]; exact (a3 k hk).1
theorem WF_sf {F : FD} (hF : WF F) {c d : Nat} (hd : d < 30) : WF (sfF F c d) := by
  obtain ⟨a1, a2, a3, a4, a5, a6⟩ := hF
  refine ⟨a1, a2, a3, fun k hk => ⟨(a4 k hk).1, ?_, (a4 k hk).2.2⟩, a5, a6⟩
  show fnU F.2.1.2.2.1 c d k < 30
  by_cases e : k = c
  · subst e; rw [fnU_eq]; exact hd
  · rw [fnU_ne _ _ e]; exact (a4 k hk).2.1
theorem WF_sr {F : FD} (hF : WF F) {g : Nat → Nat} (hg : ∀ h, g h ≤ 40) : WF (srF F g) := by
  obtain ⟨a1, a2, a3, a4, a5, a6⟩ := hF
  exact ⟨a1, a2, a3, a4, a5, hg⟩
theorem WF_sx {F : FD} (hF : WF F) {fr : Nat → Bool} (hg : ∀ d, 30 ≤ d → fr d = false) : WF (sxF F fr) := by
  obtain ⟨a1, a2, a3, a4, a5, a6⟩ := hF
  exact ⟨a1, a2, a3, a4, hg, a6⟩
theorem xFd_sd {M : cb_Mem} {F : FD} {h e d : Nat} (hM : xFd M (sdF F h e)) : xFd (cb_up M 17 h (nI d)) (sdF F h d) := by
  obtain ⟨a1, a2, a3, a4, a5, a6⟩ := hM
  refine ⟨by rw [cu, if_neg (by omega)]; exact a1, by rw [cu, if_neg (by omega)]; exact a2, by rw [cu, if_neg (by omega)]; exact a3, fun k hk => ⟨?_, ?_⟩, fun k hk => by rw [cu, if_neg (by omega)]; exact a5 k hk, fun c hc => by rw [cu, if_neg (by omega), cu, if_neg (by omega), cu, if_neg (by omega)]; exact a6 c hc⟩
  · rw [cu, if_neg (by omega)]; exact (a4 k hk).1
  · show _ = nI (fnU F.1.2.2 h d k)
    rw [cu, if_pos rfl]
    by_cases q : k = h
    · subst q; rw [if_pos rfl, fnU_eq]
    · rw [if_neg q, fnU_ne _ _ q]
      have := (a4 k hk).2
      rw [this]
      show nI (fnU F.1.2.2 h e k) = _
      rw [fnU_ne _ _ q]
theorem xFd_ss {M : cb_Mem} {F : FD} {h e s : Nat} (hM : xFd M (ssF F h e)) : xFd (cb_up M 16 h (nI s)) (ssF F h s) := by
  obtain ⟨a1, a2, a3, a4, a5, a6⟩ := hM
  refine ⟨by rw [cu, if_neg (by omega)]; exact a1, by rw [cu, if_neg (by omega)]; exact a2, by rw [cu, if_neg (by omega)]; exact a3, fun k hk => ⟨?_, ?_⟩, fun k hk => by rw [cu, if_neg (by omega)]; exact a5 k hk, fun c hc => by rw [cu, if_neg (by omega), cu, if_neg (by omega), cu, if_neg (by omega)]; exact a6 c hc⟩
  · show _ = nI (fnU F.1.2.1 h s k)
    rw [cu, if_pos rfl]
    by_cases q : k = h
    · subst q; rw [if_pos rfl, fnU_eq]
    · rw [if_neg q, fnU_ne _ _ q]
      have := (a4 k hk).1
      rw [this]
      show nI (fnU F.1.2.1 h e k) = _
      rw [fnU_ne _ _ q]
  · rw [cu, if_neg (by omega)]; exact (a4 k hk).2
theorem xFd_sf {M : cb_Mem} {F : FD} {c e d : Nat} (hM : xFd M (sfF F c e)) : xFd (cb_up M 19 c (nI d)) (sfF F c d) := by
  obtain ⟨a1, a2, a3, a4, a5, a6⟩ := hM
  refine ⟨by rw [cu, if_neg (by omega)]; exact a1, by rw [cu, if_neg (by omega)]; exact a2, by rw [cu, if_neg (by omega)]; exact a3, fun k hk => by rw [cu, if_neg (by omega), cu, if_neg (by omega)]; exact a4 k hk, fun k hk => by rw [cu, if_neg (by omega)]; exact a5 k hk, fun k hk => ⟨?_, ?_, ?_⟩⟩
  · rw [cu, if_neg (by omega)]; exact (a6 k hk).1
  · show _ = nI (fnU F.2.1.2.2.1 c d k)
    rw [cu, if_pos rfl]
    by_cases q : k = c
    · subst q; rw [if_pos rfl, fnU_eq]
    · rw [if_neg q, fnU_ne _ _ q]
      have := (a6 k hk).2.1
      rw [this]
      show nI (fnU F.2.1.2.2.1 c e k) = _
      rw [fnU_ne _ _ q]
  · rw [cu, if_neg (by omega)]; exact (a6 k hk).2.2
theorem xFd_sr {M M' : cb_Mem} {F : FD} {g g' : Nat → Nat} (hM : xFd M (srF F g)) (ha : agr M M' (fun k _ => k = 21)) (hg : ∀ h, h < 8 → M' 21 h = nI (g' h)) : xFd M' (srF F g') := by
  obtain ⟨a1, a2, a3, a4, a5, a6⟩ := hM
  exact ⟨by rw [ha _ _ (by omega)]; exact a1, by rw [ha _ _ (by omega)]; exact a2, by rw [ha _ _ (by omega)]; exact a3, fun k hk => by rw [ha _ _ (by omega), ha _ _ (by omega)]; exact a4 k hk, hg, fun c hc => by rw [ha _ _ (by omega), ha _ _ (by omega), ha _ _ (by omega)]; exact a6 c hc⟩
theorem xFd_sx {M : cb_Mem} {F : FD} {fr fr' : Nat → Bool} {x : Int32} (hM : xFd M (sxF F fr)) (hx : msk 30 x fr') : xFd (cb_up M 3 8 x) (sxF F fr') := by
  obtain ⟨a1, a2, a3, a4, a5, a6⟩ := hM
  exact ⟨by rw [cu, if_pos rfl, if_neg (by omega)]; exact a1, by rw [cu, if_pos rfl, if_neg (by omega)]; exact a2, by rw [cu, if_pos rfl, if_pos rfl]; exact hx, fun k hk => by rw [cu, if_neg (by omega), cu, if_neg (by omega)]; exact a4 k hk, fun k hk => by rw [cu, if_neg (by omega)]; exact a5 k hk, fun c hc => by rw [cu, if_neg (by omega), cu, if_neg (by omega), cu, if_neg (by omega)]; exact a6 c hc⟩
theorem mAll_sd {M : cb_Mem} {F : FD} {h e d : Nat} {w0 w1 : List Nat} {ch : Option Nat} {rs : List (Nat × Nat)} {gm : Nat} (hM : mAll M (sdF F h e) w0 w1 ch rs gm) (hd : d < 30) (hF : WF F) : mAll (cb_up M 7 (2 * h + 1) (nI d)) (sdF F h d) w0 w1 ch rs gm := by
  obtain ⟨-, ⟨a1, a2, a3, a4⟩, b, c, r⟩ := hM
  refine ⟨WF_sd hF hd, ⟨by rw [cu, if_neg (by omega)]; exact a1, by rw [cu, if_neg (by omega)]; exact a2, fun k hk => ⟨?_, ?_⟩, fun c hc => by rw [cu, if_neg (by omega), cu, if_neg (by omega), cu, if_neg (by omega)]; exact a4 c hc⟩, b.eq (fun k j q => by rw [cu, if_neg (by omega)]), c.eq (fun k j q => by rw [cu, if_neg (by omega)]), r⟩
  · rw [cu, if_pos rfl, if_neg (by omega)]; exact (a3 k hk).1
  · show _ = nI (fnU F.1.2.2 h d k)
    rw [cu, if_pos rfl]
    by_cases q : k = h
    · subst q; rw [if_pos rfl, fnU_eq]
    · rw [if_neg (by omega), fnU_ne _ _ q]
      have := (a3 k hk).2
      rw [this]
      show nI (fnU F.1.2.2 h e k) = _
      rw [fnU_ne _ _ q]
theorem mAll_ss {M : cb_Mem} {F : FD} {h e s : Nat} {w0 w1 : List Nat} {ch : Option Nat} {rs : List (Nat × Nat)} {gm : Nat} (hM : mAll M (ssF F h e) w0 w1 ch rs gm) (hs : s ≤ 2) (hF : WF F) : mAll (cb_up M 7 (2 * h) (nI s)) (ssF F h s) w0 w1 ch rs gm := by
  obtain ⟨-, ⟨a1, a2, a3, a4⟩, b, c, r⟩ := hM
  refine ⟨WF_ss hF hs, ⟨by rw [cu, if_neg (by omega)]; exact a1, by rw [cu, if_neg (by omega)]; exact a2, fun k hk => ⟨?_, ?_⟩, fun c hc => by rw [cu, if_neg (by omega), cu, if_neg (by omega), cu, if_neg (by omega)]; exact a4 c hc⟩, b.eq (fun k j q => by rw [cu, if_neg (by omega)]), c.eq (fun k j q => by rw [cu, if_neg (by omega)]), r⟩
  · show _ = nI (fnU F.1.2.1 h s k)
    rw [cu, if_pos rfl]
    by_cases q : k = h
    · subst q; rw [if_pos rfl, fnU_eq]
    · rw [if_neg (by omega), fnU_ne _ _ q]
      have := (a3 k hk).1
      rw [this]
      show nI (fnU F.1.2.1 h e k) = _
      rw [fnU_ne _ _ q]
  · rw [cu, if_pos rfl, if_neg (by omega)]; exact (a3 k hk).2
theorem mAll_sf {M : cb_Mem} {F : FD} {c e d : Nat} {w0 w1 : List Nat} {ch : Option Nat} {rs : List (Nat × Nat)} {gm : Nat} (hM : mAll M (sfF F c e) w0 w1 ch rs gm) (hd : d < 30) (hF : WF F) : mAll (cb_up M 8 (3 * c + 1) (nI d)) (sfF F c d) w0 w1 ch rs gm := by
  obtain ⟨-, ⟨a1, a2, a3, a4⟩, b, b', r⟩ := hM
  refine ⟨WF_sf hF hd, ⟨by rw [cu, if_neg (by omega)]; exact a1, by rw [cu, if_neg (by omega)]; exact a2, fun k hk => by rw [cu, if_neg (by omega), cu, if_neg (by omega)]; exact a3 k hk, fun k hk => ⟨?_, ?_, ?_⟩⟩, b.eq (fun k j q => by rw [cu, if_neg (by omega)]), b'.eq (fun k j q => by rw [cu, if_neg (by omega)]), r⟩
  · rw [cu, if_pos rfl, if_neg (by omega)]; exact (a4 k hk).1
  · show _ = nI (fnU F.2.1.2.2.1 c d k)
    rw [cu, if_pos rfl]
    by_cases q : k = c
    · subst q; rw [if_pos rfl, fnU_eq]
    · rw [if_neg (by omega), fnU_ne _ _ q]
      have := (a4 k hk).2.1
      rw [this]
      show nI (fnU F.2.1.2.2.1 c e k) = _
      rw [fnU_ne _ _ q]
  · rw [cu, if_pos rfl, if_neg (by omega)]; exact (a4 k hk).2.2
theorem mAll_sr {M : cb_Mem} {F : FD} {w0 w1 : List Nat} {ch : Option Nat} {rs : List (Nat × Nat)} {gm gm' : Nat} (hM : mAll M (srF F (rbF rs gm)) w0 w1 ch rs gm) (hg : gm' < 256) : mAll (cb_up M 0 15 (nI gm')) (srF F (rbF rs gm')) w0 w1 ch rs gm' := by
  obtain ⟨f, ⟨a1, a2, a3, a4⟩, b, ⟨c1, c2, c3, c4, c5⟩, r1, r2⟩ := hM
  refine ⟨⟨f.1, f.2.1, f.2.2.1, f.2.2.2.1, f.2.2.2.2.1, fun h => rbN_le _ _ _ _⟩, ⟨?_, ?_, fun k hk => by rw [cu, if_neg (by omega), cu, if_neg (by omega)]; exact a3 k hk, fun c hc => by rw [cu, if_neg (by omega), cu, if_neg (by omega), cu, if_neg (by omega)]; exact a4 c hc⟩, b.eq (fun k j q => ?_), ⟨?_, c2, fun k hk => by rw [cu, if_neg (by omega), cu, if_neg (by omega)]; exact c3 k hk, ?_, hg⟩, r1, fun h => rfl⟩
  · rw [cu, if_pos rfl, if_neg (by omega)]; exact a1
  · rw [cu, if_pos rfl, if_neg (by omega)]; exact a2
  · rw [cu]
    by_cases q0 : k = 0
    · rw [if_pos q0, if_neg (by omega)]
    · rw [if_neg q0]
  · rw [cu, if_pos rfl, if_neg (by omega)]; exact c1
  · rw [cu, if_pos rfl, if_pos rfl]
theorem mAll_sx {M : cb_Mem} {F : FD} {w0 w1 : List Nat} {ch ch' : Option Nat} {rs : List (Nat × Nat)} {gm : Nat} (hM : mAll M (sxF F (frO w0 ch)) w0 w1 ch rs gm) (hc : ∀ c, ch' = some c → c < 1024) : mAll (cb_up M 0 16 (eO ch')) (sxF F (frO w0 ch')) w0 w1 ch' rs gm := by
  obtain ⟨f, ⟨a1, a2, a3, a4⟩, ⟨b1, b2, b3, b4, b5, b6, b7, b8⟩, c, r1, r2⟩ := hM
  refine ⟨⟨f.1, f.2.1, f.2.2.1, f.2.2.2.1, frO_late (fun j hj => (b3 j hj).2), f.2.2.2.2.2⟩, ⟨?_, ?_, fun k hk => by rw [cu, if_neg (by omega), cu, if_neg (by omega)]; exact a3 k hk, fun c hc => by rw [cu, if_neg (by omega), cu, if_neg (by omega), cu, if_neg (by omega)]; exact a4 c hc⟩, ⟨?_, b2, fun j hj => by rw [cu, if_neg (by omega)]; exact b3 j hj, ?_, b5, fun j hj => by rw [cu, if_neg (by omega)]; exact b6 j hj, ?_, hc⟩, c.eq (fun k j q => ?_), rfl, r2⟩
  · rw [cu, if_pos rfl, if_neg (by omega)]; exact a1
  · rw [cu, if_pos rfl, if_neg (by omega)]; exact a2
  · rw [cu, if_neg (by omega)]; exact b1
  · rw [cu, if_neg (by omega)]; exact b4
  · rw [cu, if_pos rfl, if_pos rfl]
  · rw [cu]
    by_cases q0 : k = 0
    · rw [if_pos q0, if_neg (by omega)]
    · rw [if_neg q0]
/-! what was seen -/
def sgB (F : FD) (s : Nat × Nat) : Bool := decide (s.1 < d_nc F) && decide (((wk F).1 s.1).map Prod.fst = if s.2 = 8 then none else some s.2)
def nsB (F : FD) (sg : List (Nat × Nat)) (n : Nat) : Bool := anyN (fun k => !(sgB F (sg.getD k (0, 0)))) n
def asB (F : FD) (sg : List (Nat × Nat)) : Bool := !(nsB F sg sg.length)
theorem nsB_mono {F : FD} {sg : List (Nat × Nat)} {n m : Nat} (h : n ≤ m) (e : nsB F sg n = true) : nsB F sg m = true := by
  unfold nsB at e ⊢
  rw [anyN_iff] at e ⊢
  obtain ⟨k, a, b⟩ := e
  exact ⟨k, by omega, b⟩
theorem eP1_seen {o : Option (Nat × Nat)} {h : Nat} (hb : ∀ p, o = some p → p.1 < 8) (hh : h < 9) : (eP1 o = if h = 8 then -nI 1 else nI h) = (o.map Prod.fst = if h = 8 then none else some h) := by
  cases o with
  | none =>
    by_cases e : h = 8
    · rw [if_pos e, if_pos e]; exact (eq_true rfl).trans (eq_true rfl).symm
    · rw [if_neg e, if_neg e]
      show (-nI 1 = nI h) = _
      rw [cn_eq2 (by omega)]
      exact (eq_false (fun z => by cases z)).symm
  | some p =>
    have := hb p rfl
    by_cases e : h = 8
    · rw [if_pos e, if_pos e]
      show (nI p.1 = -nI 1) = _
      rw [cn_eq1 (by omega)]
      exact (eq_false (fun z => by cases z)).symm
    · rw [if_neg e, if_neg e]
      show (nI p.1 = nI h) = (some p.1 = some h)
      rw [cn_eq (by omega) (by omega), Option.some.injEq]
theorem x_isAsSeen {M : cb_Mem} {F : FD} {sg : List (Nat × Nat)} (hF : WF F) (hR : xR M 11 15 sg.length (sE sg)) (h8 : sg.length ≤ 8) (hb : ∀ j, j < sg.length → (sg.getD j (0, 0)).1 < 8 ∧ (sg.getD j (0, 0)).2 < 9) (hM : xFd M F) (hW : xWk M F) : f_X6_isAsSeen M = some (b2i (asB F sg)) := by
  have c8 : d_nc F ≤ 8 := hF.2.1
  have hh8 : d_nh F ≤ 8 := hF.1
  suffices hL : ∃ r, f_X6_isAsSeen_L2 cb_fuel (nI 0) M = some r ∧ (if asB F sg = true then r = Sum.inr () else r = Sum.inl (nI 0)) by
    obtain ⟨r, h1, h2⟩ := hL
    rw [show f_X6_isAsSeen M = cb_bs (f_X6_isAsSeen_L2 cb_fuel (nI 0) M) (fun r => some r) (fun _ => some (nI 1)) from rfl, h1]
    cases e : asB F sg with
    | true => rw [if_pos e] at h2; rw [h2, cb_bs_k]; rfl
    | false => rw [if_neg (by rw [e]; decide)] at h2; rw [h2, cb_bs_r]; rfl
  refine cb_loop0 (fun m k (_ : Unit) => f_X6_isAsSeen_L2 m (nI k) M) (fun k _ => nsB F sg k = false) sg.length _ () (by omega) rfl ?_ ?_
  · intro m s hs
    refine ⟨Sum.inr (), by rw [f_X6_isAsSeen_L2, hR.1, if_pos (by rw [cn_le (by omega) (by omega)]; omega)], ?_⟩
    rw [if_pos (by unfold asB; rw [hs]; rfl)]
  · intro m k s hk hs
    have hat := x_at (it := 15) (cap := 8) hR.1 h8 (by omega) hk
    rw [hR.2 k hk] at hat
    obtain ⟨q1, q2⟩ := hb k hk
    have hns : nsB F sg (k + 1) = (nsB F sg k || !(sgB F (sg.getD k (0, 0)))) := rfl
    rw [hs, Bool.false_or] at hns
    generalize hsg : sg.getD k (0, 0) = w at q1 q2 hns
    obtain ⟨c, h⟩ := w
    dsimp only at q1 q2
    rw [show sE sg k = c * 9 + h by unfold sE; rw [hsg]] at hat
    have hx2 : nI (c * 9 + h) / nI 9 = nI c := by rw [cn_div (by omega) (by omega) (by omega)]; congr 1; omega
    have hx1 : nI (c * 9 + h) - nI c * nI 9 = nI h := by rw [cn_mul, cn_sub (by omega)]; congr 1; omega
    have hif : (if nI h = nI 8 then -nI 1 else nI h) = if h = 8 then -nI 1 else nI h := by
      by_cases e : h = 8
      · rw [if_pos (by rw [e]), if_pos e]
      · rw [if_neg (by rw [cn_eq (by omega) (by omega)]; exact e), if_neg e]
    by_cases hc : c < d_nc F
    · have o1 := v_isOff_in hc (by omega)
      have e24 := (hW.2.2.2.2 c (by omega)).1
      have hse := eP1_seen (o := (wk F).1 c) (h := h) (fun p hp => by have := ((wk_ok F).1.1 c p hp).2.1; omega) q2
      by_cases e : ((wk F).1 c).map Prod.fst = if h = 8 then none else some h
      · right
        have e' : eP1 ((wk F).1 c) = if h = 8 then -nI 1 else nI h := by rw [hse]; exact e
        refine ⟨(), ?_, ?_⟩
        · show nsB F sg (k + 1) = false
          rw [hns]
          show (!(decide (c < d_nc F) && decide (((wk F).1 c).map Prod.fst = if h = 8 then none else some h))) = false
          rw [decide_eq_true hc, decide_eq_true e]; rfl
        · simp (disch := first | omega | trivial) only [f_X6_isAsSeen_L2, li, hR.1, cn_le, if_neg, hat, Option.bind_some, cb_let_eq, hx2, hx1, hM.2.1, o1, if_pos, cn_in, cn_cl, e24, hif, e', cn_add, if_true]
      · left
        have e' : (eP1 ((wk F).1 c) = if h = 8 then -nI 1 else nI h) = False := by rw [hse]; exact eq_false e
        refine ⟨Sum.inl (nI 0), ?_, ?_⟩
        · simp (disch := first | omega | trivial) only [f_X6_isAsSeen_L2, li, hR.1, cn_le, if_neg, hat, Option.bind_some, cb_let_eq, hx2, hx1, hM.2.1, o1, if_pos, cn_in, cn_cl, e24, hif, e', if_false]
        · have : nsB F sg (k + 1) = true := by
            rw [hns]
            show (!(decide (c < d_nc F) && decide (((wk F).1 c).map Prod.fst = if h = 8 then none else some h))) = true
            rw [decide_eq_false e, Bool.and_false]; rfl
          rw [if_neg (by unfold asB; rw [nsB_mono (show k + 1 ≤ sg.length by omega) this]; decide)]
    · left
      have o1 := v_isOff_out (p := nI c) (n := d_nc F) (by rw [cn_ti (by omega)]; omega) (by omega)
      refine ⟨Sum.inl (nI 0), ?_, ?_⟩
      · simp (disch := first | omega | trivial) only [f_X6_isAsSeen_L2, li, hR.1, cn_le, if_neg, hat, Option.bind_some, cb_let_eq, hx2, hx1, hM.2.1, o1, c_1n0, if_false]
      · have : nsB F sg (k + 1) = true := by
          rw [hns]
          show (!(decide (c < d_nc F) && decide (((wk F).1 c).map Prod.fst = if h = 8 then none else some h))) = true
          rw [decide_eq_false hc, Bool.false_and]; rfl
        rw [if_neg (by unfold asB; rw [nsB_mono (show k + 1 ≤ sg.length by omega) this]; decide)]
theorem y_isSeen {M : cb_Mem} {F : FD} {w0 w1 : List Nat} {ch : Option Nat} {rs : List (Nat × Nat)} {gm : Nat} {sg : List (Nat × Nat)} (hA : mAll M F w0 w1 ch rs gm) (hG : ySg M sg) (h8 : sg.length ≤ 8) (hb : ∀ j, j < sg.length → (sg.getD j (0, 0)).1 < 8 ∧ (sg.getD j (0, 0)).2 < 9) : ∃ M', f_X7_isSeen M = some (b2i (asB F sg), M') ∧ agr M M' PL ∧ mWk M' F w1 := by
  obtain ⟨M1, fl, al, wl⟩ := m_lives hA
  have hA1 := hA.agr al
  have c8 : d_nc F ≤ 8 := hA.1.2.1
  have hh8 : d_nh F ≤ 8 := hA.1.1
  have hG1 : ySg M1 sg := hG.eq (fun k j q => al _ _ (by simp only [PL]; omega))
  refine ⟨M1, ?_, al, wl⟩
  suffices hL : ∃ r, f_X7_isSeen_L8 cb_fuel (nI 1) (nI 0) M1 = some r ∧ r = b2i (asB F sg) by
    obtain ⟨r, h1, h2⟩ := hL
    rw [h2] at h1
    simp only [f_X7_isSeen, fl, li, h1, Option.bind_some, b2i_1]
  refine cb_loop0 (fun m k (s : Bool) => f_X7_isSeen_L8 m (b2i s) (nI k) M1) (fun k s => s = !(nsB F sg k)) sg.length _ true (by omega) rfl ?_ ?_
  · rintro m s rfl
    exact ⟨b2i (!(nsB F sg sg.length)), by rw [f_X7_isSeen_L8, hG1.1, if_pos (by rw [cn_le (by omega) (by omega)]; omega)], rfl⟩
  · rintro m k s hk rfl
    obtain ⟨g1, g2⟩ := hG1.2 k hk
    obtain ⟨q1, q2⟩ := hb k hk
    cases hs : nsB F sg k with
    | true =>
      left
      have hb0 : b2i (!true) = nI 0 := rfl
      refine ⟨nI 0, by simp (disch := first | omega | trivial) only [f_X7_isSeen_L8, li, hG1.1, cn_le, if_neg, hb0, if_pos], ?_⟩
      unfold asB
      rw [nsB_mono (show k ≤ sg.length by omega) hs]
      rfl
    | false =>
      right
      have hb0 : b2i (!false) = nI 1 := rfl
      have hns : nsB F sg (k + 1) = (nsB F sg k || !(sgB F (sg.getD k (0, 0)))) := rfl
      rw [hs, Bool.false_or] at hns
      refine ⟨_, rfl, ?_⟩
      rw [hns, Bool.not_not]
      generalize hsg : sg.getD k (0, 0) = w at q1 q2 g1 g2
      obtain ⟨c, h⟩ := w
      dsimp only at q1 q2 g1 g2
      show _ = f_X7_isSeen_L8 m (b2i (decide (c < d_nc F) && decide (((wk F).1 c).map Prod.fst = if h = 8 then none else some h))) (nI (k + 1)) M1
      by_cases hc : c < d_nc F
      · have o1 := v_isC hA1.2.1.2.1 c8 hc
        have e16 := (wl.2.1 c hc).1
        have hse := eP1_seen (o := (wk F).1 c) (h := h) (fun p hp => by have := ((wk_ok F).1.1 c p hp).2.1; omega) q2
        rw [decide_eq_true hc, Bool.true_and]
        by_cases e8 : h = 8
        · rw [if_pos e8, if_pos e8] at hse
          rw [if_pos e8]
          rw [e8] at g2
          by_cases e : ((wk F).1 c).map Prod.fst = none
          · have e' : (eP1 ((wk F).1 c) = -nI 1) = True := by rw [hse]; exact eq_true e
            rw [decide_eq_true e]
            simp (disch := first | omega | trivial) only [f_X7_isSeen_L8, li, hG1.1, cn_le, if_neg, hb0, c_1n0, if_false, cn_mul, cn_add, cn_in, cn_cl, if_pos, g1, g2, cb_let_eq, o1, Option.bind_some, e16, e', if_true]
            rfl
          · have e' : (eP1 ((wk F).1 c) = -nI 1) = False := by rw [hse]; exact eq_false e
            rw [decide_eq_false e]
            simp (disch := first | omega | trivial) only [f_X7_isSeen_L8, li, hG1.1, cn_le, if_neg, hb0, c_1n0, if_false, cn_mul, cn_add, cn_in, cn_cl, if_pos, g1, g2, cb_let_eq, o1, Option.bind_some, e16, e']
            rfl
        · rw [if_neg e8, if_neg e8] at hse
          rw [if_neg e8]
          by_cases e : ((wk F).1 c).map Prod.fst = some h
          · have e' : (eP1 ((wk F).1 c) = nI h) = True := by rw [hse]; exact eq_true e
            rw [decide_eq_true e]
            simp (disch := first | omega | trivial) only [f_X7_isSeen_L8, li, hG1.1, cn_le, if_neg, hb0, c_1n0, if_false, cn_mul, cn_add, cn_in, cn_cl, cn_eq, if_pos, g1, g2, cb_let_eq, o1, Option.bind_some, e16, e', if_true]
            rfl
          · have e' : (eP1 ((wk F).1 c) = nI h) = False := by rw [hse]; exact eq_false e
            rw [decide_eq_false e]
            simp (disch := first | omega | trivial) only [f_X7_isSeen_L8, li, hG1.1, cn_le, if_neg, hb0, c_1n0, if_false, cn_mul, cn_add, cn_in, cn_cl, cn_eq, if_pos, g1, g2, cb_let_eq, o1, Option.bind_some, e16, e']
            rfl
      · have o1 := v_isCN (p := nI c) hA1.2.1.2.1 c8 (by rw [cn_ti (by omega)]; omega)
        rw [decide_eq_false hc, Bool.false_and]
        simp (disch := first | omega | trivial) only [f_X7_isSeen_L8, li, hG1.1, cn_le, if_neg, hb0, c_1n0, if_false, cn_mul, cn_add, cn_in, cn_cl, if_pos, g1, cb_let_eq, o1, Option.bind_some]
        rfl
