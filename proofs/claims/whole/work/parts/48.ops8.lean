theorem C_copy : cs_copy cRel := by
  rintro MX MY p1 p2 p3 p4 p5 ⟨A, hA, hX, hY⟩
  have hR : cRel MX MY := ⟨A, hA, hX, hY⟩
  rcases cn_range p1 4 with ⟨s, hs, rfl⟩ | h1
  · have o1 := v_isOff_in hs (by omega)
    have o3 := v_sheet hs
    rcases cn_range p3 4 with ⟨t, ht, rfl⟩ | h2
    · have o2 := v_isOff_in ht (by omega)
      have o4 := v_sheet ht
      have hxs := hX.2.2.2.2.2.2.1 s hs
      have hys := hY.2.2.2.2.2.1 s hs
      have hbs := hA.2.2.2.2.2 s hs
      have hxt := hX.2.2.2.2.2.2.1 t ht
      have hyt := hY.2.2.2.2.2.1 t ht
      have hbt := hA.2.2.2.2.2 t ht
      cases hos : A.2.2.2.2.1 s with
      | none =>
        rw [hos] at hxs hys
        have o5 := x_lost1 hxs
        have hy' : MY 1 s = -nI 1 := hys
        have hlt : (-nI 1 < nI 0) = True := cn_lt2 (by omega)
        refine ⟨-nI 10 - nI 1, _, _, ?_, ?_, R_fd (nI 1) hA hX hY⟩
        · exact xc2 hs ht o5 rfl
        · exact yc2 hs ht hy' rfl
      | some qs =>
        rw [hos] at hxs hys
        obtain ⟨c1, c2⟩ := hbs qs hos
        obtain ⟨x1, x2, x3⟩ := hxs
        obtain ⟨y1, y2, y3⟩ := hys
        have o5 := x_lost0 x2 c2
        cases hot : A.2.2.2.2.1 t with
        | none =>
          rw [hot] at hxt hyt
          have o6 := x_lost1 hxt
          have hy' : MY 1 t = -nI 1 := hyt
          refine ⟨-nI 10 - nI 1, _, _, ?_, ?_, R_fd (nI 1) hA hX hY⟩
          · exact xc3 hs ht o5 o6 rfl
          · exact yc3 hs ht y1 c1 hy' rfl
        | some qt =>
          rw [hot] at hxt hyt
          obtain ⟨c3, c4⟩ := hbt qt hot
          obtain ⟨x4, x5, x6⟩ := hxt
          obtain ⟨y4, y5, y6⟩ := hyt
          have o6 := x_lost0 x5 c4
          by_cases hf : qs.1 = qt.1
          · by_cases hrun : (0 ≤ p2.toInt ∧ 0 ≤ p5.toInt ∧ p2.toInt + p5.toInt ≤ qs.2.1) ∧ 0 ≤ p4.toInt ∧ p4.toInt + p5.toInt ≤ qt.2.1
            · obtain ⟨⟨g1, g2, g3⟩, g4, g5⟩ := hrun
              obtain ⟨a, ha, rfl⟩ := (cn_range p2 61).resolve_right (by omega)
              obtain ⟨b, hb, rfl⟩ := (cn_range p4 61).resolve_right (by omega)
              obtain ⟨n, hn, rfl⟩ := (cn_range p5 61).resolve_right (by omega)
              rw [cn_ti (by omega), cn_ti (by omega)] at g3 g5
              have g3' : a + n ≤ qs.2.1 := by omega
              have g5' : b + n ≤ qt.2.1 := by omega
              have r1 := x_run x2 c2 g3'
              have r2 := x_run x5 c4 g5'
              obtain ⟨N1, f1, a1, d1⟩ := y_cp1 (M := MY) (s := s) (t := t) (a := a) (b := b) (n := n) hs (by omega)
              obtain ⟨N2, f2, a2, d2⟩ := y_cp2 (M := N1) (t := t) (b := b) (n := n) ht (by omega)
              have hcin : cb_cin (nI a) (nI b) (nI n) 60 60 := by
                refine ⟨?_, ?_, ?_, ?_, ?_⟩
                · rw [show (0 : Int32) = nI 0 from rfl, cn_lt (by omega) (by omega)]; omega
                · rw [show (0 : Int32) = nI 0 from rfl, cn_lt (by omega) (by omega)]; omega
                · rw [show (0 : Int32) = nI 0 from rfl, cn_lt (by omega) (by omega)]; omega
                · rw [cn_cl (by omega), cn_cl (by omega)]; omega
                · rw [cn_cl (by omega), cn_cl (by omega)]; omega
              refine ⟨nI 1, cb_copy MX (46 + s) (46 + t) a b n, N2, ?_, ?_, setS A t (some (qt.1, qt.2.1, cpI qs.2.2 qt.2.2 a b n)), AOK_sh hA (fun q h => by cases h; exact ⟨c3, c4⟩), XS_sh ht hX ?_ ⟨?_, ?_, fun j hj => ?_⟩, YS_sh hA ht hY ?_ ⟨?_, ?_, fun j hj => ?_⟩⟩
              · have h7 := xc7 (MX' := MX) (r := nI 0) hs ht o5 o6 (by rw [x1, x4, hf]) r1 r2 hcin
                rw [cn_cl (by omega), cn_cl (by omega), cn_cl (by omega)] at h7
                exact h7
              · exact y_copyR hs ht (by rw [y1, hf]) y4 c3 y2 y5 c2 c4 g3' g5' f1 f2
              · intro k j hn
                unfold cb_copy cb_row
                rw [if_neg (by omega)]
              · unfold cb_copy cb_row; rw [if_neg (by omega)]; exact x4
              · unfold cb_copy cb_row; rw [if_neg (by omega)]; exact x5
              · unfold cb_copy cb_row va_cpy cpI
                rw [if_pos rfl]
                dsimp only
                by_cases e : b ≤ j ∧ j < b + n
                · rw [if_pos e, if_pos e]; exact x3 _ (by omega)
                · rw [if_neg e, if_neg e]; exact x6 j hj
              · exact (a1.mono (fun k j q => by omega)).trans (a2.mono (fun k j q => by omega))
              · rw [a2 _ _ (by omega), a1 _ _ (by omega)]; exact y4
              · rw [a2 _ _ (by omega), a1 _ _ (by omega)]; exact y5
              · have hj' : j < qt.2.1 := hj
                show _ = cpI qs.2.2 qt.2.2 a b n j
                unfold cpI
                by_cases e : b ≤ j ∧ j < b + n
                · rw [if_pos e]
                  have hd := d2 (j - b) (by omega)
                  rw [show 60 * t + b + (j - b) = 60 * t + j by omega, d1 (j - b) (by omega), show 60 * s + a + (j - b) = 60 * s + (a + (j - b)) by omega, y3 _ (by omega)] at hd
                  exact hd
                · rw [if_neg e, a2 _ _ (by omega), a1 _ _ (by omega)]; exact y6 j hj
            · refine ⟨-nI 10 - nI 2, _, _, ?_, ?_, R_fd (nI 2) hA hX hY⟩
              · by_cases q1 : 0 ≤ p2.toInt ∧ 0 ≤ p5.toInt ∧ p2.toInt + p5.toInt ≤ qs.2.1
                · obtain ⟨a, ha, rfl⟩ := (cn_range p2 61).resolve_right (by omega)
                  obtain ⟨n, hn, rfl⟩ := (cn_range p5 61).resolve_right (by omega)
                  rw [cn_ti (by omega), cn_ti (by omega)] at q1
                  have r1 := x_run x2 c2 (show a + n ≤ qs.2.1 by omega)
                  have r2 := x_runN (p := p4) (q := nI n) x5 c4 (by rw [cn_ti (by omega)]; rw [cn_ti (by omega), cn_ti (by omega)] at hrun; omega)
                  exact xc6 hs ht o5 o6 (by rw [x1, x4, hf]) r1 r2 rfl
                · have r1 := x_runN x2 c2 q1
                  exact xc5 hs ht o5 o6 (by rw [x1, x4, hf]) r1 rfl
              · exact y_copyN hs ht (by rw [y1, hf]) y4 c3 y2 y5 c2 c4 hrun rfl
          · refine ⟨-nI 10 - nI 4, _, _, ?_, ?_, R_fd (nI 4) hA hX hY⟩
            · exact xc4 hs ht o5 o6 (by rw [x1, x4]; intro z; rw [cn_eq (by omega) (by omega)] at z; exact hf z) rfl
            · exact yc4 hs ht y1 c1 y4 c3 hf rfl
    · have o2 := v_isOff_out h2 (by omega)
      have o4 := v_sheetN h2
      refine ⟨-nI 2, MX, MY, ?_, ?_, hR⟩
      · exact xc1 o1 o2
      · exact yc1 o3 o4
  · have o1 := v_isOff_out h1 (by omega)
    have o3 := v_sheetN h1
    refine ⟨-nI 2, MX, MY, ?_, ?_, hR⟩
    · exact xc0 o1
    · exact yc0 o3
