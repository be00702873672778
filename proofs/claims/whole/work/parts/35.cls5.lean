def xWk (M : cb_Mem) (F : FD) : Prop := (∀ h, h < d_nh F → M 22 h = eO (rp F h) ∧ M 23 h = eO ((rp F h).map (fun x => x + spanN (d_srt F h)))) ∧ (∀ c, c < d_nc F → msk 8 (M 26 c) (pgF F c)) ∧ xS M (wk F)
theorem x_clear {M : cb_Mem} : ∃ M', f_X5_clear M = some M' ∧ agr M M' PG ∧ (∀ h, h < 8 → M' 23 h = -nI 1) ∧ (∀ s, s < 4 → M' 29 s = nI 0) ∧ (∀ d, d < 40 → M' 27 d = nI 0) ∧ (∀ d, d < 40 → M' 28 d = nI 0) ∧ (∀ c, c < 8 → M' 26 c = nI 0) ∧ xS M' S0 := by
  obtain ⟨M1, f1, a1, b1⟩ := x_fill (M := M) (q := 22) (z := 8) (v := -nI 1) (by omega)
  obtain ⟨M2, f2, a2, b2⟩ := x_fill (M := M1) (q := 23) (z := 8) (v := -nI 1) (by omega)
  obtain ⟨M3, f3, a3, b3⟩ := x_fill (M := M2) (q := 24) (z := 8) (v := -nI 1) (by omega)
  obtain ⟨M4, f4, a4, b4⟩ := x_fill (M := M3) (q := 25) (z := 8) (v := -nI 1) (by omega)
  obtain ⟨M5, f5, a5, b5⟩ := x_fill (M := M4) (q := 26) (z := 8) (v := nI 0) (by omega)
  obtain ⟨M6, f6, a6, b6⟩ := x_fill (M := M5) (q := 27) (z := 40) (v := nI 0) (by omega)
  obtain ⟨M7, f7, a7, b7⟩ := x_fill (M := M6) (q := 28) (z := 40) (v := nI 0) (by omega)
  obtain ⟨M8, f8, a8, b8⟩ := x_fill (M := M7) (q := 29) (z := 4) (v := nI 0) (by omega)
  have g : ∀ k j, k < 22 ∨ 29 < k → M8 k j = M k j := fun k j q => by rw [a8 _ _ (by omega), a7 _ _ (by omega), a6 _ _ (by omega), a5 _ _ (by omega), a4 _ _ (by omega), a3 _ _ (by omega), a2 _ _ (by omega), a1 _ _ (by omega)]
  have r : ∀ k j, k ≠ 4 → (cb_up (cb_up M8 4 8 (nI 0)) 4 9 (nI 0)) k j = M8 k j := fun k j q => by rw [cu, if_neg q, cu, if_neg q]
  refine ⟨cb_up (cb_up M8 4 8 (nI 0)) 4 9 (nI 0), ?_, ?_, ?_, ?_, ?_, ?_, ?_, ?_, ?_, ?_⟩
  · unfold f_X5_clear
    rw [show (-1 : Int32) = -nI 1 from rfl, show (0 : Int32) = nI 0 from rfl, f1, Option.bind_some, f2, Option.bind_some, f3, Option.bind_some, f4, Option.bind_some, f5, Option.bind_some, f6, Option.bind_some, f7, Option.bind_some, f8, Option.bind_some, cb_let_eq, cb_let_eq]
  · refine agr.up (agr.up (fun k j hn => ?_) (by simp [PG])) (by simp [PG])
    simp only [PG] at hn
    exact g k j (by omega)
  · intro h hh
    rw [r _ _ (by decide), a8 _ _ (by omega), a7 _ _ (by omega), a6 _ _ (by omega), a5 _ _ (by omega), a4 _ _ (by omega), a3 _ _ (by omega)]
    exact b2 h hh
  · intro h hh
    rw [r _ _ (by decide)]
    exact b8 h hh
  · intro h hh
    rw [r _ _ (by decide), a8 _ _ (by omega), a7 _ _ (by omega)]
    exact b6 h hh
  · intro h hh
    rw [r _ _ (by decide), a8 _ _ (by omega)]
    exact b7 h hh
  · intro h hh
    rw [r _ _ (by decide), a8 _ _ (by omega), a7 _ _ (by omega), a6 _ _ (by omega)]
    exact b5 h hh
  · rw [cu, if_pos rfl, if_neg (by decide), cu, if_pos rfl, if_pos rfl]
    exact msk_0
  · rw [cu, if_pos rfl, if_pos rfl]
    exact msk_0
  · intro c hc
    rw [r _ _ (by decide), r _ _ (by decide)]
    constructor
    · rw [a8 _ _ (by omega), a7 _ _ (by omega), a6 _ _ (by omega), a5 _ _ (by omega), a4 _ _ (by omega)]
      exact b3 c hc
    · rw [a8 _ _ (by omega), a7 _ _ (by omega), a6 _ _ (by omega), a5 _ _ (by omega)]
      exact b4 c hc
theorem x_go {M : cb_Mem} {F : FD} (hF : WF F) (hM : xFd M F) : ∃ M', f_X5_go M = some M' ∧ agr M M' PG ∧ xWk M' F := by
  obtain ⟨M1, f1, a1, c23, c29, c27, c28, c26, cS⟩ := x_clear (M := M)
  have hM1 := hM.agr a1 (by intro k j q; simp only [PG]; omega)
  obtain ⟨M2, f2, a2, d1, d2⟩ := x_heads hF hM1 c29 c27 c23
  have hM2 := hM1.agr a2 (by intro k j q; omega)
  obtain ⟨M3, f3, a3, e1, e2⟩ := x_couples hF hM2 d2 (fun d hd => by rw [a2 _ _ (by omega)]; exact c28 d hd) (fun d hd => by rw [a2 _ _ (by omega)]; exact c26 d hd)
  have hM3 := hM2.agr a3 (by intro k j q; omega)
  have hS3 : xS M3 S0 := by
    refine ⟨?_, ?_, fun c hc => ?_⟩
    · rw [a3 _ _ (by omega), a2 _ _ (by omega)]; exact cS.1
    · rw [a3 _ _ (by omega), a2 _ _ (by omega)]; exact cS.2.1
    · rw [a3 _ _ (by omega), a2 _ _ (by omega), a3 _ _ (by omega), a2 _ _ (by omega)]; exact cS.2.2 c hc
  obtain ⟨M4, f4, a4, g1⟩ := x_days hF hM3 (fun d hd => by rw [a3 _ _ (by omega)]; exact d2.2 d hd) e1 e2 hS3
  refine ⟨M4, ?_, ?_, ?_, ?_, g1⟩
  · rw [show f_X5_go M = (f_X5_clear M).bind fun M1 => (f_X5_go_L6 cb_fuel (nI 0) M1).bind fun M2 => (f_X5_go_L28 cb_fuel (nI 0) M2).bind fun M3 => (f_X5_go_L50 cb_fuel (nI 0) M3).bind fun M4 => some M4 from rfl]
    rw [f1, Option.bind_some, f2, Option.bind_some, f3, Option.bind_some, f4, Option.bind_some]
  · intro k j hn
    simp only [PG] at hn
    rw [a4 _ _ (by simp only [PD]; omega), a3 _ _ (by omega), a2 _ _ (by omega), a1 _ _ (by simp only [PG]; omega)]
  · intro h hh
    rw [a4 _ _ (by simp only [PD]; omega), a3 _ _ (by omega), a4 _ _ (by simp only [PD]; omega), a3 _ _ (by omega)]
    exact d1 h hh
  · intro c hc
    rw [a4 _ _ (by simp only [PD]; omega)]
    exact e2 c hc
