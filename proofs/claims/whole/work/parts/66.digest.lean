/-! digest -/
def fdN (f : Nat → Int32) (y : Int64) : Nat → Int64
  | 0 => y
  | n + 1 => ((31 : Int64) * fdN f y n) + (f n).toInt64
theorem x_dg6 {M : cb_Mem} {A : AS} (hA : AOK A) (hX : XS M A) (y : Int64) : ∃ M', f_X6_digest_L6 cb_fuel y (nI 0) M = some (fdN (ctV A) y 8, M') ∧ XS M' A := by
  suffices hL : ∃ r, f_X6_digest_L6 cb_fuel (fdN (ctV A) y 0) (nI 0) M = some r ∧ (r.1 = fdN (ctV A) y 8 ∧ XS r.2 A) by
    obtain ⟨⟨r1, r2⟩, h1, h2, h3⟩ := hL
    dsimp only at h2 h3
    rw [h2] at h1
    exact ⟨r2, h1, h3⟩
  refine cb_loop0 (fun m k (T : cb_Mem) => f_X6_digest_L6 m (fdN (ctV A) y k) (nI k) T) (fun k T => XS T A) 8 _ M (by omega) hX ?_ ?_
  · intro m T hT
    exact ⟨(fdN (ctV A) y 8, T), by rw [f_X6_digest_L6, if_pos (by decide)], rfl, hT⟩
  · intro m k T hk hT
    right
    obtain ⟨T1, f1, x1⟩ := x_count hA hT (show k < 9 by omega)
    refine ⟨T1, x1, ?_⟩
    rw [fdN]
    simp (disch := first | omega | trivial) only [f_X6_digest_L6, li, cn_le, if_neg, f1, cb_bind2_eq, cb_let_eq, cn_add]
theorem y_dg6 {M : cb_Mem} {A : AS} (hA : AOK A) (hY : YS M A) (y : Int64) : ∃ M', f_X7_digest_L6 cb_fuel y (nI 0) M = some (fdN (ctV A) y 8, M') ∧ YS M' A := by
  suffices hL : ∃ r, f_X7_digest_L6 cb_fuel (fdN (ctV A) y 0) (nI 0) M = some r ∧ (r.1 = fdN (ctV A) y 8 ∧ YS r.2 A) by
    obtain ⟨⟨r1, r2⟩, h1, h2, h3⟩ := hL
    dsimp only at h2 h3
    rw [h2] at h1
    exact ⟨r2, h1, h3⟩
  refine cb_loop0 (fun m k (T : cb_Mem) => f_X7_digest_L6 m (fdN (ctV A) y k) (nI k) T) (fun k T => YS T A) 8 _ M (by omega) hY ?_ ?_
  · intro m T hT
    exact ⟨(fdN (ctV A) y 8, T), by rw [f_X7_digest_L6, if_pos (by decide)], rfl, hT⟩
  · intro m k T hk hT
    right
    obtain ⟨T1, f1, x1⟩ := y_count hA hT (show k < 9 by omega)
    refine ⟨T1, x1, ?_⟩
    rw [fdN]
    simp (disch := first | omega | trivial) only [f_X7_digest_L6, li, cn_le, if_neg, f1, cb_bind2_eq, cb_let_eq, cn_add]
/-! heads -/
def dhA (A : AS) (p : Int64) (h : Nat) : Int64 := ((31 : Int64) * (((31 : Int64) * (((31 : Int64) * (((31 : Int64) * p) + (nI (d_srt (FAa A) h)).toInt64)) + (nI (d_due (FAa A) h)).toInt64)) + (nI (stF (FAa A) 9 h)).toInt64)) + (nI (stF (FAa A) 39 h)).toInt64
def dhB (A : AS) (p : Int64) (h : Nat) : Int64 := fdN (lfV (FAa A) h) (dhA A p h) 3
def dhC (A : AS) (p : Int64) (h : Nat) : Int64 := ((31 : Int64) * (((31 : Int64) * dhB A p h) + (swV (FAa A) h 0).toInt64)) + (swV (FAa A) h 1).toInt64
def dhD (A : AS) (p : Int64) (h : Nat) : Int64 := ((31 : Int64) * (((31 : Int64) * dhC A p h) + (waV (FAa A) A.2.2.2.1 h 0).toInt64)) + (waV (FAa A) A.2.2.2.1 h 1).toInt64
def dhE (A : AS) (p : Int64) (h : Nat) : Int64 := ((31 : Int64) * dhD A p h) + (akV (FAa A) A.2.2.2.1 h).toInt64
theorem x_head {M : cb_Mem} {A : AS} (hA : AOK A) (hX : XS M A) {h : Nat} (hh : h < d_nh (FAa A)) : f_X6_head (nI h) (nI 0) M = some (nI (d_srt (FAa A) h)) ∧ f_X6_head (nI h) (nI 1) M = some (nI (d_due (FAa A) h)) := by
  have o1 := x_noH (A_xh hX) (A_nh hA) hh
  have h8 := A_nh hA
  have o2 := v_isOff_in (show 0 < 2 by omega) (by omega)
  have o3 := v_isOff_in (show 1 < 2 by omega) (by omega)
  obtain ⟨q1, q2, q3⟩ := hX.1.2.2.2 h hh
  constructor
  · simp (disch := first | omega | trivial) only [f_X6_head, li, o1, o2, cb_let_eq, if_pos, cn_in, cn_cl]
    exact congrArg some q1
  · simp (disch := first | omega | trivial) only [f_X6_head, li, o1, o3, cb_let_eq, if_pos, cn_in, cn_cl, c_1n0, if_false]
    exact congrArg some q2
theorem x_dh60 {M : cb_Mem} {A : AS} (hA : AOK A) (hX : XS M A) {h : Nat} (hh : h < d_nh (FAa A)) (y : Int64) : ∃ M', f_X6_digestHead_L60 cb_fuel (nI h) y (nI 0) M = some (fdN (lfV (FAa A) h) y 3, M') ∧ XS M' A := by
  suffices hL : ∃ r, f_X6_digestHead_L60 cb_fuel (nI h) (fdN (lfV (FAa A) h) y 0) (nI 0) M = some r ∧ (r.1 = fdN (lfV (FAa A) h) y 3 ∧ XS r.2 A) by
    obtain ⟨⟨r1, r2⟩, h1, h2, h3⟩ := hL
    dsimp only at h2 h3
    rw [h2] at h1
    exact ⟨r2, h1, h3⟩
  refine cb_loop0 (fun m k (T : cb_Mem) => f_X6_digestHead_L60 m (nI h) (fdN (lfV (FAa A) h) y k) (nI k) T) (fun k T => XS T A) 3 _ M (by omega) hX ?_ ?_
  · intro m T hT
    exact ⟨(fdN (lfV (FAa A) h) y 3, T), by rw [f_X6_digestHead_L60, if_pos (by decide)], rfl, hT⟩
  · intro m k T hk hT
    right
    obtain ⟨T1, f1, x1⟩ := x_lifted hA hT hh hk
    refine ⟨T1, x1, ?_⟩
    rw [fdN]
    simp (disch := first | omega | trivial) only [f_X6_digestHead_L60, li, cn_le, if_neg, f1, cb_bind2_eq, cb_let_eq, cn_add]
theorem x_dhS {p1 y3 : Int64} {p2 x1 x2 x3 x4 x5 x6 x7 x8 x9 : Int32} {M M1 M2 M3 M4 M5 M6 M7 M8 : cb_Mem} (h1 : f_X6_head p2 0 M = some x1) (h2 : f_X6_head p2 1 M = some x2) (h3 : f_X6_state 9 p2 M = some (x3, M1)) (h4 : f_X6_state 39 p2 M1 = some (x4, M2)) (h5 : f_X6_digestHead_L60 cb_fuel p2 (((31 : Int64) * (((31 : Int64) * (((31 : Int64) * (((31 : Int64) * p1) + x1.toInt64)) + x2.toInt64)) + x3.toInt64)) + x4.toInt64) 0 M2 = some (y3, M3)) (h6 : f_X6_sow p2 0 M3 = some (x5, M4)) (h7 : f_X6_sow p2 1 M4 = some (x6, M5)) (h8 : f_X6_was p2 0 M5 = some (x7, M6)) (h9 : f_X6_was p2 1 M6 = some (x8, M7)) (h10 : f_X6_ask p2 M7 = some (x9, M8)) : f_X6_digestHead p1 p2 M = some (((31 : Int64) * (((31 : Int64) * (((31 : Int64) * (((31 : Int64) * (((31 : Int64) * y3) + x5.toInt64)) + x6.toInt64)) + x7.toInt64)) + x8.toInt64)) + x9.toInt64, M8) := by
  unfold f_X6_digestHead
  rw [h1, Option.bind_some, h2, Option.bind_some, cb_let_eq, h3, cb_bind2_eq, h4, cb_bind2_eq, cb_let_eq, h5, cb_bind2_eq, h6, cb_bind2_eq, h7, cb_bind2_eq, cb_let_eq, h8, cb_bind2_eq, h9, cb_bind2_eq, cb_let_eq, h10, cb_bind2_eq]
theorem x_dH {M : cb_Mem} {A : AS} (hA : AOK A) (hX : XS M A) {h : Nat} (hh : h < d_nh (FAa A)) (p : Int64) : ∃ M', f_X6_digestHead p (nI h) M = some (dhE A p h, M') ∧ XS M' A := by
  obtain ⟨e1, e2⟩ := x_head hA hX hh
  obtain ⟨M1, f1, x1⟩ := x_state hA hX (show 9 < 40 by omega) hh
  obtain ⟨M2, f2, x2⟩ := x_state hA x1 (show 39 < 40 by omega) hh
  obtain ⟨M3, f3, x3⟩ := x_dh60 hA x2 hh (dhA A p h)
  obtain ⟨M4, f4, x4⟩ := x_sow hA x3 hh (show 0 < 2 by omega)
  obtain ⟨M5, f5, x5⟩ := x_sow hA x4 hh (show 1 < 2 by omega)
  obtain ⟨M6, f6, x6⟩ := x_was hA x5 hh (show 0 < 2 by omega)
  obtain ⟨M7, f7, x7⟩ := x_was hA x6 hh (show 1 < 2 by omega)
  obtain ⟨M8, f8, x8⟩ := x_ask hA x7 hh
  exact ⟨M8, x_dhS e1 e2 f1 f2 f3 f4 f5 f6 f7 f8, x8⟩
theorem y_th78 {M : cb_Mem} {F : FD} {w1 : List Nat} (h8 : d_nh F ≤ 8) (hW : mWk M F w1) {h : Nat} (hh : h < d_nh F) (y : Int64) : f_X7_tellsHead_L78 cb_fuel (nI h) y (nI 0) M = some (fdN (lfV F h) y 3) := by
  suffices hL : ∃ r, f_X7_tellsHead_L78 cb_fuel (nI h) (fdN (lfV F h) y 0) (nI 0) M = some r ∧ r = fdN (lfV F h) y 3 by
    obtain ⟨r, h1, h2⟩ := hL
    rw [h2] at h1
    exact h1
  refine cb_loop0 (fun m k (_ : Unit) => f_X7_tellsHead_L78 m (nI h) (fdN (lfV F h) y k) (nI k) M) (fun k _ => True) 3 _ () (by omega) trivial ?_ ?_
  · intro m s _
    exact ⟨_, by rw [f_X7_tellsHead_L78, if_pos (by decide)], rfl⟩
  · intro m k s hk _
    right
    have f1 := y_liftedBy h8 hW hh hk
    refine ⟨(), trivial, ?_⟩
    rw [fdN]
    simp (disch := first | omega | trivial) only [f_X7_tellsHead_L78, li, cn_le, if_neg, f1, Option.bind_some, cb_let_eq, cn_add]
theorem y_thS {p1 y5 : Int64} {p2 a b x1 x2 x3 x4 x5 x6 x7 : Int32} {M M1 M2 M3 M4 M5 M6 : cb_Mem} (h1 : f_X7_lives M = some M1) (i1 : cb_in (2 * p2) 16 = true) (e1 : M1 7 (2 * p2).toNatClampNeg = a) (i2 : cb_in ((2 * p2) + 1) 16 = true) (e2 : M1 7 ((2 * p2) + 1).toNatClampNeg = b) (h3 : f_X7_stateOf 9 p2 M1 = some x1) (h4 : f_X7_stateOf 39 p2 M1 = some x2) (h5 : f_X7_tellsHead_L78 cb_fuel p2 (((31 : Int64) * (((31 : Int64) * (((31 : Int64) * (((31 : Int64) * p1) + a.toInt64)) + b.toInt64)) + x1.toInt64)) + x2.toInt64) 0 M1 = some y5) (h6 : f_X7_sowOf p2 0 M1 = some (x3, M2)) (h7 : f_X7_sowOf p2 1 M2 = some (x4, M3)) (h8 : f_X7_wasOf p2 0 M3 = some (x5, M4)) (h9 : f_X7_wasOf p2 1 M4 = some (x6, M5)) (h10 : f_X7_askOf p2 M5 = some (x7, M6)) : f_X7_tellsHead p1 p2 M = some (((31 : Int64) * (((31 : Int64) * (((31 : Int64) * (((31 : Int64) * (((31 : Int64) * y5) + x3.toInt64)) + x4.toInt64)) + x5.toInt64)) + x6.toInt64)) + x7.toInt64, M6) := by
  unfold f_X7_tellsHead
  rw [h1, Option.bind_some, if_pos i1, e1, cb_let_eq, if_pos i2, e2, cb_let_eq, h3, Option.bind_some, cb_let_eq, h4, Option.bind_some, cb_let_eq, h5, Option.bind_some, h6, cb_bind2_eq, cb_let_eq, h7, cb_bind2_eq, cb_let_eq, h8, cb_bind2_eq, cb_let_eq, h9, cb_bind2_eq, cb_let_eq, h10, cb_bind2_eq]
theorem y_tH {M : cb_Mem} {A : AS} (hA : AOK A) (hY : yA M A) {h : Nat} (hh : h < d_nh (FAa A)) (p : Int64) : ∃ M', f_X7_tellsHead p (nI h) M = some (dhE A p h, M') ∧ yA M' A := by
  have h8 := A_nh hA
  obtain ⟨M1, f1, y1, w1⟩ := y_livesA hY
  obtain ⟨m7, m8⟩ := y1.2.2.1.2.2.1 h hh
  have s1 := y_stateOf y1.2 w1 (show 9 < 40 by omega) hh
  have s2 := y_stateOf y1.2 w1 (show 39 < 40 by omega) hh
  have l1 := y_th78 h8 w1 hh (dhA A p h)
  obtain ⟨M2, f2, y2⟩ := y_sowOf y1 hh (show 0 < 2 by omega)
  obtain ⟨M3, f3, y3⟩ := y_sowOf y2 hh (show 1 < 2 by omega)
  obtain ⟨M4, f4, y4⟩ := y_wasOf hA y3 hh (show 0 < 2 by omega)
  obtain ⟨M5, f5, y5⟩ := y_wasOf hA y4 hh (show 1 < 2 by omega)
  obtain ⟨M6, f6, y6⟩ := y_askOf hA y5 hh
  have k1 : nI 2 * nI h = nI (2 * h) := cn_mul 2 h
  have k2 : nI 2 * nI h + nI 1 = nI (2 * h + 1) := by rw [k1, cn_add]
  have i1 : cb_in (nI 2 * nI h) 16 = true := by rw [k1, cn_in (by omega)]; omega
  have i2 : cb_in (nI 2 * nI h + nI 1) 16 = true := by rw [k2, cn_in (by omega)]; omega
  have e1 : M1 7 (nI 2 * nI h).toNatClampNeg = nI (d_srt (FAa A) h) := by rw [k1, cn_cl (by omega)]; exact m7
  have e2 : M1 7 (nI 2 * nI h + nI 1).toNatClampNeg = nI (d_due (FAa A) h) := by rw [k2, cn_cl (by omega)]; exact m8
  exact ⟨M6, y_thS f1 i1 e1 i2 e2 s1 s2 l1 f2 f3 f4 f5 f6, y6⟩
def hlN (A : AS) (y : Int64) : Nat → Int64
  | 0 => y
  | n + 1 => dhE A (hlN A y n) n
theorem x_dg68 {M : cb_Mem} {A : AS} (hA : AOK A) (hX : XS M A) (y : Int64) : ∃ M', f_X6_digest_L68 cb_fuel (nI (d_nh (FAa A))) y (nI 0) M = some (hlN A y (d_nh (FAa A)), M') ∧ XS M' A := by
  have h8 := A_nh hA
  suffices hL : ∃ r, f_X6_digest_L68 cb_fuel (nI (d_nh (FAa A))) (hlN A y 0) (nI 0) M = some r ∧ (r.1 = hlN A y (d_nh (FAa A)) ∧ XS r.2 A) by
    obtain ⟨⟨r1, r2⟩, h1, h2, h3⟩ := hL
    dsimp only at h2 h3
    rw [h2] at h1
    exact ⟨r2, h1, h3⟩
  refine cb_loop0 (fun m k (T : cb_Mem) => f_X6_digest_L68 m (nI (d_nh (FAa A))) (hlN A y k) (nI k) T) (fun k T => XS T A) (d_nh (FAa A)) _ M (by omega) hX ?_ ?_
  · intro m T hT
    exact ⟨(hlN A y (d_nh (FAa A)), T), by rw [f_X6_digest_L68, if_pos (by rw [cn_le (by omega) (by omega)]; omega)], rfl, hT⟩
  · intro m k T hk hT
    right
    obtain ⟨T1, f1, x1⟩ := x_dH hA hT hk (hlN A y k)
    refine ⟨T1, x1, ?_⟩
    rw [hlN]
    simp (disch := first | omega | trivial) only [f_X6_digest_L68, li, cn_le, if_neg, f1, cb_bind2_eq, cn_add]
theorem y_dg57 {M : cb_Mem} {A : AS} (hA : AOK A) (hY : yA M A) (y : Int64) : ∃ M', f_X7_digest_L57 cb_fuel y (nI 0) M = some (hlN A y (d_nh (FAa A)), M') ∧ yA M' A := by
  have h8 := A_nh hA
  suffices hL : ∃ r, f_X7_digest_L57 cb_fuel (hlN A y 0) (nI 0) M = some r ∧ (r.1 = hlN A y (d_nh (FAa A)) ∧ yA r.2 A) by
    obtain ⟨⟨r1, r2⟩, h1, h2, h3⟩ := hL
    dsimp only at h2 h3
    rw [h2] at h1
    exact ⟨r2, h1, h3⟩
  refine cb_loop0 (fun m k (T : cb_Mem) => f_X7_digest_L57 m (hlN A y k) (nI k) T) (fun k T => yA T A) (d_nh (FAa A)) _ M (by omega) hY ?_ ?_
  · intro m T hT
    exact ⟨(hlN A y (d_nh (FAa A)), T), by rw [f_X7_digest_L57, hT.2.2.1.1, if_pos (by rw [cn_le (by omega) (by omega)]; omega)], rfl, hT⟩
  · intro m k T hk hT
    right
    obtain ⟨T1, f1, x1⟩ := y_tH hA hT hk (hlN A y k)
    refine ⟨T1, x1, ?_⟩
    have e7 := hT.2.2.1.1
    rw [hlN]
    simp (disch := first | omega | trivial) only [f_X7_digest_L57, li, e7, cn_le, if_neg, f1, cb_bind2_eq, cn_add]
/-! couples -/
def cpV (F : FD) (c i : Nat) : Int32 := if i = 0 then nI (d_wnt F c) else if i = 1 then nI (d_frm F c) else nI (d_sty F c)
def dcA (A : AS) (p : Int64) (c : Nat) : Int64 := fdN (cpV (FAa A) c) p 3
def dcB (A : AS) (p : Int64) (c : Nat) : Int64 := fdN (gtV (FAa A) A.2.1.2 c) (dcA A p c) 3
def dcC (A : AS) (p : Int64) (c : Nat) : Int64 := ((31 : Int64) * (((31 : Int64) * dcB A p c) + (kpA (-nI 1) (kpF (FAa A) A.2.2.1 c)).toInt64)) + (kpA (nI 0) (kpF (FAa A) A.2.2.1 c)).toInt64
def dcD (A : AS) (p : Int64) (c : Nat) : Int64 := ((31 : Int64) * (((31 : Int64) * dcC A p c) + (cmV (FAa A) c 0).toInt64)) + (cmV (FAa A) c 1).toInt64
def dcE (A : AS) (p : Int64) (c : Nat) : Int64 := ((31 : Int64) * (((31 : Int64) * dcD A p c) + clV A.1.1 A.1.2 A.2.2.1 5 7 c 0)) + clV A.1.1 A.1.2 A.2.2.1 5 7 c 1
theorem x_couple {M : cb_Mem} {A : AS} (hA : AOK A) (hX : XS M A) {c i : Nat} (hc : c < d_nc (FAa A)) (hi : i < 3) : f_X6_couple (nI c) (nI i) M = some (cpV (FAa A) c i) := by
  have o1 := x_noC (A_xc hX) (A_nc hA) hc
  have c8 := A_nc hA
  have o2 := v_isOff_in hi (by omega)
  obtain ⟨q1, q2, q3⟩ := hX.2.1.2.2.2 c hc
  rcases (show i = 0 ∨ i = 1 ∨ i = 2 by omega) with e | e | e <;> subst e
  · simp (disch := first | omega | trivial) only [f_X6_couple, li, o1, o2, cb_let_eq, if_pos, cn_in, cn_cl]
    exact congrArg some q1
  · simp (disch := first | omega | trivial) only [f_X6_couple, li, o1, o2, cb_let_eq, if_pos, cn_in, cn_cl, c_1n0, if_false]
    exact congrArg some q2
  · simp (disch := first | omega | trivial) only [f_X6_couple, li, o1, o2, cb_let_eq, if_pos, if_neg, cn_in, cn_cl, cn_eq]
    exact congrArg some q3
theorem x_dc6 {M : cb_Mem} {A : AS} (hA : AOK A) (hX : XS M A) {c : Nat} (hc : c < d_nc (FAa A)) (y : Int64) : f_X6_digestCouple_L6 cb_fuel (nI c) y (nI 0) M = some (fdN (cpV (FAa A) c) y 3) := by
  suffices hL : ∃ r, f_X6_digestCouple_L6 cb_fuel (nI c) (fdN (cpV (FAa A) c) y 0) (nI 0) M = some r ∧ r = fdN (cpV (FAa A) c) y 3 by
    obtain ⟨r, h1, h2⟩ := hL
    rw [h2] at h1
    exact h1
  refine cb_loop0 (fun m k (_ : Unit) => f_X6_digestCouple_L6 m (nI c) (fdN (cpV (FAa A) c) y k) (nI k) M) (fun k _ => True) 3 _ () (by omega) trivial ?_ ?_
  · intro m s _
    exact ⟨_, by rw [f_X6_digestCouple_L6, if_pos (by decide)], rfl⟩
  · intro m k s hk _
    right
    have f1 := x_couple hA hX hc hk
    refine ⟨(), trivial, ?_⟩
    rw [fdN]
    simp (disch := first | omega | trivial) only [f_X6_digestCouple_L6, li, cn_le, if_neg, f1, Option.bind_some, cb_let_eq, cn_add]
theorem x_dc38 {M : cb_Mem} {A : AS} (hA : AOK A) (hX : XS M A) {c : Nat} (hc : c < d_nc (FAa A)) (y : Int64) : ∃ M', f_X6_digestCouple_L38 cb_fuel (nI c) y (nI 0) M = some (fdN (gtV (FAa A) A.2.1.2 c) y 3, M') ∧ XS M' A := by
  suffices hL : ∃ r, f_X6_digestCouple_L38 cb_fuel (nI c) (fdN (gtV (FAa A) A.2.1.2 c) y 0) (nI 0) M = some r ∧ (r.1 = fdN (gtV (FAa A) A.2.1.2 c) y 3 ∧ XS r.2 A) by
    obtain ⟨⟨r1, r2⟩, h1, h2, h3⟩ := hL
    dsimp only at h2 h3
    rw [h2] at h1
    exact ⟨r2, h1, h3⟩
  refine cb_loop0 (fun m k (T : cb_Mem) => f_X6_digestCouple_L38 m (nI c) (fdN (gtV (FAa A) A.2.1.2 c) y k) (nI k) T) (fun k T => XS T A) 3 _ M (by omega) hX ?_ ?_
  · intro m T hT
    exact ⟨(fdN (gtV (FAa A) A.2.1.2 c) y 3, T), by rw [f_X6_digestCouple_L38, if_pos (by decide)], rfl, hT⟩
  · intro m k T hk hT
    right
    obtain ⟨T1, f1, x1⟩ := x_gets hA hT hc hk
    refine ⟨T1, x1, ?_⟩
    rw [fdN]
    simp (disch := first | omega | trivial) only [f_X6_digestCouple_L38, li, cn_le, if_neg, f1, cb_bind2_eq, cb_let_eq, cn_add]
theorem x_dcS {p1 y1 y2 y5 y6 : Int64} {p2 x1 x2 x3 x4 : Int32} {M M1 M2 M3 M4 M5 M6 M7 : cb_Mem} (h1 : f_X6_digestCouple_L6 cb_fuel p2 p1 0 M = some y1) (h2 : f_X6_digestCouple_L38 cb_fuel p2 y1 0 M = some (y2, M1)) (h3 : f_X6_keep p2 (-1) M1 = some (x1, M2)) (h4 : f_X6_keep p2 0 M2 = some (x2, M3)) (h5 : f_X6_come p2 0 M3 = some (x3, M4)) (h6 : f_X6_come p2 1 M4 = some (x4, M5)) (h7 : f_X6_chill 5 7 p2 0 M5 = some (y5, M6)) (h8 : f_X6_chill 5 7 p2 1 M6 = some (y6, M7)) : f_X6_digestCouple p1 p2 M = some (((31 : Int64) * (((31 : Int64) * (((31 : Int64) * (((31 : Int64) * (((31 : Int64) * (((31 : Int64) * y2) + x1.toInt64)) + x2.toInt64)) + x3.toInt64)) + x4.toInt64)) + y5)) + y6, M7) := by
  unfold f_X6_digestCouple
  rw [h1, Option.bind_some, h2, cb_bind2_eq, h3, cb_bind2_eq, h4, cb_bind2_eq, cb_let_eq, h5, cb_bind2_eq, h6, cb_bind2_eq, cb_let_eq, h7, cb_bind2_eq, h8, cb_bind2_eq]
theorem x_dC {M : cb_Mem} {A : AS} (hA : AOK A) (hX : XS M A) {c : Nat} (hc : c < d_nc (FAa A)) (p : Int64) : ∃ M', f_X6_digestCouple p (nI c) M = some (dcE A p c, M') ∧ XS M' A := by
  have f0 := x_dc6 hA hX hc p
  obtain ⟨M1, f1, x1⟩ := x_dc38 hA hX hc (dcA A p c)
  obtain ⟨M2, f2, x2⟩ := x_keep hA x1 hc (show kq (-nI 1) from Or.inl rfl)
  obtain ⟨M3, f3, x3⟩ := x_keep hA x2 hc (show kq (nI 0) from Or.inr (Or.inl rfl))
  obtain ⟨M4, f4, x4⟩ := x_come hA x3 hc (show 0 < 2 by omega)
  obtain ⟨M5, f5, x5⟩ := x_come hA x4 hc (show 1 < 2 by omega)
  obtain ⟨M6, f6, x6⟩ := x_chill hA x5 (show 5 < 17 by omega) (show 7 < 10 by omega) hc (show 0 < 2 by omega)
  obtain ⟨M7, f7, x7⟩ := x_chill hA x6 (show 5 < 17 by omega) (show 7 < 10 by omega) hc (show 1 < 2 by omega)
  exact ⟨M7, x_dcS f0 f1 f2 f3 f4 f5 f6 f7, x7⟩
theorem y_tc10 {M : cb_Mem} {F : FD} (c8 : d_nc F ≤ 8) (hM : mFd M F) {c : Nat} (hc : c < d_nc F) (y : Int64) : f_X7_tellsCouple_L10 cb_fuel (nI c) y (nI 0) M = some (fdN (cpV F c) y 3) := by
  suffices hL : ∃ r, f_X7_tellsCouple_L10 cb_fuel (nI c) (fdN (cpV F c) y 0) (nI 0) M = some r ∧ r = fdN (cpV F c) y 3 by
    obtain ⟨r, h1, h2⟩ := hL
    rw [h2] at h1
    exact h1
  refine cb_loop0 (fun m k (_ : Unit) => f_X7_tellsCouple_L10 m (nI c) (fdN (cpV F c) y k) (nI k) M) (fun k _ => True) 3 _ () (by omega) trivial ?_ ?_
  · intro m s _
    exact ⟨_, by rw [f_X7_tellsCouple_L10, if_pos (by decide)], rfl⟩
  · intro m k s hk _
    right
    have f1 : M 8 (3 * c + k) = cpV F c k := by
      obtain ⟨q1, q2, q3⟩ := hM.2.2.2 c hc
      rcases (show k = 0 ∨ k = 1 ∨ k = 2 by omega) with e | e | e <;> subst e
      · exact q1
      · exact q2
      · exact q3
    refine ⟨(), trivial, ?_⟩
    rw [fdN]
    simp (disch := first | omega | trivial) only [f_X7_tellsCouple_L10, li, cn_le, if_neg, cn_mul, cn_add, cn_in, cn_cl, if_pos, f1, cb_let_eq]
theorem y_tc46 {M : cb_Mem} {F : FD} {w1 : List Nat} (c8 : d_nc F ≤ 8) (hW : mWk M F w1) {c : Nat} (hc : c < d_nc F) (y : Int64) : f_X7_tellsCouple_L46 cb_fuel (nI c) y (nI 0) M = some (fdN (gtV F w1 c) y 3) := by
  suffices hL : ∃ r, f_X7_tellsCouple_L46 cb_fuel (nI c) (fdN (gtV F w1 c) y 0) (nI 0) M = some r ∧ r = fdN (gtV F w1 c) y 3 by
    obtain ⟨r, h1, h2⟩ := hL
    rw [h2] at h1
    exact h1
  refine cb_loop0 (fun m k (_ : Unit) => f_X7_tellsCouple_L46 m (nI c) (fdN (gtV F w1 c) y k) (nI k) M) (fun k _ => True) 3 _ () (by omega) trivial ?_ ?_
  · intro m s _
    exact ⟨_, by rw [f_X7_tellsCouple_L46, if_pos (by decide)], rfl⟩
  · intro m k s hk _
    right
    have f1 := y_getsBy c8 hW hc hk
    refine ⟨(), trivial, ?_⟩
    rw [fdN]
    simp (disch := first | omega | trivial) only [f_X7_tellsCouple_L46, li, cn_le, if_neg, f1, Option.bind_some, cb_let_eq, cn_add]
theorem y_tcS {p1 y1 y2 y7 y9 : Int64} {p2 x1 x2 x3 x4 : Int32} {M M1 M2 M3 M4 M5 M6 M7 : cb_Mem} (h0 : f_X7_lives M = some M1) (h1 : f_X7_tellsCouple_L10 cb_fuel p2 p1 0 M1 = some y1) (h2 : f_X7_tellsCouple_L46 cb_fuel p2 y1 0 M1 = some y2) (h3 : f_X7_keepOf p2 (-1) M1 = some (x1, M2)) (h4 : f_X7_keepOf p2 0 M2 = some (x2, M3)) (h5 : f_X7_comeOf p2 0 M3 = some (x3, M4)) (h6 : f_X7_comeOf p2 1 M4 = some (x4, M5)) (h7 : f_X7_chillOf 5 7 p2 0 M5 = some (y7, M6)) (h8 : f_X7_chillOf 5 7 p2 1 M6 = some (y9, M7)) : f_X7_tellsCouple p1 p2 M = some (((31 : Int64) * (((31 : Int64) * (((31 : Int64) * (((31 : Int64) * (((31 : Int64) * (((31 : Int64) * y2) + x1.toInt64)) + x2.toInt64)) + x3.toInt64)) + x4.toInt64)) + y7)) + y9, M7) := by
  unfold f_X7_tellsCouple
  rw [h0, Option.bind_some, h1, Option.bind_some, h2, Option.bind_some, h3, cb_bind2_eq, cb_let_eq, h4, cb_bind2_eq, cb_let_eq, h5, cb_bind2_eq, cb_let_eq, h6, cb_bind2_eq, cb_let_eq, h7, cb_bind2_eq, cb_let_eq, h8, cb_bind2_eq]
theorem y_tC {M : cb_Mem} {A : AS} (hA : AOK A) (hY : yA M A) {c : Nat} (hc : c < d_nc (FAa A)) (p : Int64) : ∃ M', f_X7_tellsCouple p (nI c) M = some (dcE A p c, M') ∧ yA M' A := by
  have c8 := A_nc hA
  obtain ⟨M1, f1, y1, w1⟩ := y_livesA hY
  have l1 := y_tc10 c8 y1.2.2.1 hc p
  have l2 := y_tc46 c8 w1 hc (dcA A p c)
  obtain ⟨M2, f2, y2⟩ := y_keepOf hA y1 hc (show kq (-nI 1) from Or.inl rfl)
  obtain ⟨M3, f3, y3⟩ := y_keepOf hA y2 hc (show kq (nI 0) from Or.inr (Or.inl rfl))
  obtain ⟨M4, f4, y4⟩ := y_comeOf y3 hc (show 0 < 2 by omega)
  obtain ⟨M5, f5, y5⟩ := y_comeOf y4 hc (show 1 < 2 by omega)
  obtain ⟨M6, f6, y6⟩ := y_chillOf y5 (show 5 < 17 by omega) (show 7 < 10 by omega) hc (show 0 < 2 by omega)
  obtain ⟨M7, f7, y7⟩ := y_chillOf y6 (show 5 < 17 by omega) (show 7 < 10 by omega) hc (show 1 < 2 by omega)
  exact ⟨M7, y_tcS f1 l1 l2 f2 f3 f4 f5 f6 f7, y7⟩
def clN (A : AS) (y : Int64) : Nat → Int64
  | 0 => y
  | n + 1 => dcE A (clN A y n) n
theorem x_dg102 {M : cb_Mem} {A : AS} (hA : AOK A) (hX : XS M A) (y : Int64) : ∃ M', f_X6_digest_L102 cb_fuel (nI (d_nc (FAa A))) y (nI 0) M = some (clN A y (d_nc (FAa A)), M') ∧ XS M' A := by
  have c8 := A_nc hA
  suffices hL : ∃ r, f_X6_digest_L102 cb_fuel (nI (d_nc (FAa A))) (clN A y 0) (nI 0) M = some r ∧ (r.1 = clN A y (d_nc (FAa A)) ∧ XS r.2 A) by
    obtain ⟨⟨r1, r2⟩, h1, h2, h3⟩ := hL
    dsimp only at h2 h3
    rw [h2] at h1
    exact ⟨r2, h1, h3⟩
  refine cb_loop0 (fun m k (T : cb_Mem) => f_X6_digest_L102 m (nI (d_nc (FAa A))) (clN A y k) (nI k) T) (fun k T => XS T A) (d_nc (FAa A)) _ M (by omega) hX ?_ ?_
  · intro m T hT
    exact ⟨(clN A y (d_nc (FAa A)), T), by rw [f_X6_digest_L102, if_pos (by rw [cn_le (by omega) (by omega)]; omega)], rfl, hT⟩
  · intro m k T hk hT
    right
    obtain ⟨T1, f1, x1⟩ := x_dC hA hT hk (clN A y k)
    refine ⟨T1, x1, ?_⟩
    rw [clN]
    simp (disch := first | omega | trivial) only [f_X6_digest_L102, li, cn_le, if_neg, f1, cb_bind2_eq, cn_add]
theorem y_dg80 {M : cb_Mem} {A : AS} (hA : AOK A) (hY : yA M A) (y : Int64) : ∃ M', f_X7_digest_L80 cb_fuel y (nI 0) M = some (clN A y (d_nc (FAa A)), M') ∧ yA M' A := by
  have c8 := A_nc hA
  suffices hL : ∃ r, f_X7_digest_L80 cb_fuel (clN A y 0) (nI 0) M = some r ∧ (r.1 = clN A y (d_nc (FAa A)) ∧ yA r.2 A) by
    obtain ⟨⟨r1, r2⟩, h1, h2, h3⟩ := hL
    dsimp only at h2 h3
    rw [h2] at h1
    exact ⟨r2, h1, h3⟩
  refine cb_loop0 (fun m k (T : cb_Mem) => f_X7_digest_L80 m (clN A y k) (nI k) T) (fun k T => yA T A) (d_nc (FAa A)) _ M (by omega) hY ?_ ?_
  · intro m T hT
    exact ⟨(clN A y (d_nc (FAa A)), T), by rw [f_X7_digest_L80, hT.2.2.1.2.1, if_pos (by rw [cn_le (by omega) (by omega)]; omega)], rfl, hT⟩
  · intro m k T hk hT
    right
    obtain ⟨T1, f1, x1⟩ := y_tC hA hT hk (clN A y k)
    refine ⟨T1, x1, ?_⟩
    have e9 := hT.2.2.1.2.1
    rw [clN]
    simp (disch := first | omega | trivial) only [f_X7_digest_L80, li, e9, cn_le, if_neg, f1, cb_bind2_eq, cn_add]
