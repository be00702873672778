/-! the two worlds: X (the class: 66 cells), Y (the reference: 22 cells) -/
def cx_len (k : Nat) : Nat := if k < 14 then 6 else if k < 27 then 8 else if k < 29 then 40 else if k < 30 then 4 else if k < 34 then 0 else if k < 35 then 31 else if k < 36 then 39 else if k < 42 then 8 else if k < 50 then 60 else if k < 58 then 9 else 11
def cx_E (g : cb_Geo) (k : Nat) (r : Nat → Int32) : va_E :=
  if k < 12 then
    (if k < 8 then
      (match k with
      | 0 => .inr (6, [.ref (g.2.1 1), .ref (g.2.1 8), .ref (g.2.1 9), .ref (g.2.1 10), .ref (g.2.1 11), .ref (g.2.1 2), .ref (g.2.1 3), .ref (g.2.1 4), .ref (g.2.1 5), .ref (g.2.1 6), .int (r 10)])
      | 1 => .inl (g.2.2.1 1, 2, .inr (.inr (.inr (.inr (fun j => some (g.2.1 (30 + j)))))))
      | 2 => .inl (g.2.2.1 2, 4, .inr (.inr (.inr (.inr (fun j => some (g.2.1 (42 + j)))))))
      | 3 => .inr (1, [.ref (g.2.1 16), .ref (g.2.1 17), .ref (g.2.1 18), .ref (g.2.1 19), .ref (g.2.1 20), .ref (g.2.1 21), .int (r 6), .int (r 7), .int (r 8)])
      | 4 => .inr (5, [.ref (g.2.1 22), .ref (g.2.1 23), .ref (g.2.1 24), .ref (g.2.1 25), .ref (g.2.1 26), .ref (g.2.1 27), .ref (g.2.1 28), .ref (g.2.1 29), .int (r 8), .int (r 9)])
      | 5 => .inr (0, [.ref (g.2.1 7), .int (r 1)])
      | 6 => .inl (g.2.2.1 3, 8, .inr (.inr (.inr (.inr (fun j => some (g.2.1 (50 + j)))))))
      | _ => .inl (g.2.2.1 3, 8, .inr (.inr (.inr (.inr (fun j => some (g.2.1 (58 + j))))))))
    else .inr (2, [.ref (g.2.1 (k + 4)), .int (r 1)]))
  else if k < 30 then .inl (g.2.2.1 0, cx_len k, .inl r)
  else if k < 32 then .inr (4, [.ref (g.2.1 (k + 2)), .ref (g.2.2.2 (2 * (k - 30))), .int (r 2), .ref (g.2.1 (k + 6)), .ref (g.2.1 (k + 8)), .ref (g.2.1 (k + 10)), .int (r 6), .int (r 7)])
  else if k < 34 then .inr (2, [.ref (g.2.1 (k + 2)), .int (r 1)])
  else if k < 42 then .inl (g.2.2.1 0, cx_len k, .inl r)
  else if k < 46 then .inr (3, [.ref (g.2.1 (k + 4)), .int (r 1), .int (r 2)])
  else .inl (g.2.2.1 0, cx_len k, .inl r)
def cx_ty (g : cb_Geo) : List (ClassId × FieldType) := [(g.2.2.1 0, .int), (g.2.2.1 1, .object "CabbageCradles$Text"), (g.2.2.1 2, .object "CabbageCradles$Sheet"), (g.2.2.1 3, .array .int)]
def cx : cb_Wd := (66, cx_E, cx_ty)
def cy_len (k : Nat) : Nat := if k < 3 then 4 else if k < 4 then 240 else if k < 5 then 60 else if k < 6 then 80 else if k < 7 then 2 else if k < 8 then 16 else if k < 9 then 24 else if k < 10 then 2 else if k < 11 then 12 else if k < 12 then 16 else if k < 19 then 8 else if k < 20 then 256 else if k < 21 then 16 else 72
def cy_E (g : cb_Geo) (k : Nat) (r : Nat → Int32) : va_E :=
  match k with
  | 0 => .inr (7, [.ref (g.2.1 1), .ref (g.2.1 2), .ref (g.2.1 3), .ref (g.2.1 4), .int (r 4), .ref (g.2.1 5), .ref (g.2.1 6), .int (r 7), .ref (g.2.1 7), .int (r 9), .ref (g.2.1 8), .ref (g.2.1 9), .ref (g.2.1 10), .int (r 13), .ref (g.2.1 11), .int (r 15), .int (r 16), .ref (g.2.1 12), .ref (g.2.1 13), .ref (g.2.1 14), .ref (g.2.1 15), .ref (g.2.1 16), .ref (g.2.1 17), .ref (g.2.1 18), .int (r 24), .int (r 25), .ref (g.2.1 19), .int (r 27), .ref (g.2.1 20), .ref (g.2.1 21), .int (r 30)])
  | k + 1 => .inl (g.2.2.1 0, cy_len (k + 1), .inl r)
def cy_ty (g : cb_Geo) : List (ClassId × FieldType) := [(g.2.2.1 0, .int)]
def cy : cb_Wd := (22, cy_E, cy_ty)
theorem cx_t0 (g : cb_Geo) : (cx.2.2 g)[0]? = some (g.2.2.1 0, .int) := rfl
theorem cy_t0 (g : cb_Geo) : (cy.2.2 g)[0]? = some (g.2.2.1 0, .int) := rfl
theorem cx_lt {k : Nat} (h : k < 66) : k < cx.1 := h
theorem cy_lt {k : Nat} (h : k < 22) : k < cy.1 := h
theorem vp_lt {i : Int32} {n : Nat} (h : vp_in i n) : i.toNatClampNeg < n := Nat.not_le.mp fun q => h (Or.inr q)
/-- a Row, a Text, a Sheet among the cells -/
def cx_Row (k it cap : Nat) : Prop := k < 66 ∧ it < 66 ∧ (∀ g r, cx.2.1 g k r = .inr (2, [.ref (g.2.1 it), .int (r 1)])) ∧ ∀ g r, cx.2.1 g it r = .inl (g.2.2.1 0, cap, .inl r)
theorem cx_row8 : cx_Row 8 12 6 := ⟨by decide, by decide, fun _ _ => rfl, fun _ _ => rfl⟩
theorem cx_row9 : cx_Row 9 13 6 := ⟨by decide, by decide, fun _ _ => rfl, fun _ _ => rfl⟩
theorem cx_row10 : cx_Row 10 14 8 := ⟨by decide, by decide, fun _ _ => rfl, fun _ _ => rfl⟩
theorem cx_row11 : cx_Row 11 15 8 := ⟨by decide, by decide, fun _ _ => rfl, fun _ _ => rfl⟩
def cx_cap (i : Nat) : Nat := if i = 0 then 31 else 39
theorem cx_two {P : Nat → Prop} {i : Nat} (h : i < 2) (h0 : P 0) (h1 : P 1) : P i := by
  rcases (show i = 0 ∨ i = 1 by omega) with rfl | rfl
  · exact h0
  · exact h1
theorem cx_four {P : Nat → Prop} {i : Nat} (h : i < 4) (h0 : P 0) (h1 : P 1) (h2 : P 2) (h3 : P 3) : P i := by
  rcases (show i = 0 ∨ i = 1 ∨ i = 2 ∨ i = 3 by omega) with rfl | rfl | rfl | rfl <;> assumption
theorem cx_eight {P : Nat → Prop} {i : Nat} (h : i < 8) (h0 : P 0) (h1 : P 1) (h2 : P 2) (h3 : P 3) (h4 : P 4) (h5 : P 5) (h6 : P 6) (h7 : P 7) : P i := by
  rcases (show i = 0 ∨ i = 1 ∨ i = 2 ∨ i = 3 ∨ i = 4 ∨ i = 5 ∨ i = 6 ∨ i = 7 by omega) with rfl | rfl | rfl | rfl | rfl | rfl | rfl | rfl <;> assumption
theorem cx_trow {i : Nat} (h : i < 2) : cx_Row (32 + i) (34 + i) (cx_cap i) := cx_two (P := fun i => cx_Row (32 + i) (34 + i) (cx_cap i)) h ⟨by decide, by decide, fun _ _ => rfl, fun _ _ => rfl⟩ ⟨by decide, by decide, fun _ _ => rfl, fun _ _ => rfl⟩
theorem cx_text {i : Nat} (h : i < 2) (g : cb_Geo) (r : Nat → Int32) : cx.2.1 g (30 + i) r = .inr (4, [.ref (g.2.1 (32 + i)), .ref (g.2.2.2 (2 * i)), .int (r 2), .ref (g.2.1 (36 + i)), .ref (g.2.1 (38 + i)), .ref (g.2.1 (40 + i)), .int (r 6), .int (r 7)]) := cx_two (P := fun i => cx.2.1 g (30 + i) r = .inr (4, [.ref (g.2.1 (32 + i)), .ref (g.2.2.2 (2 * i)), .int (r 2), .ref (g.2.1 (36 + i)), .ref (g.2.1 (38 + i)), .ref (g.2.1 (40 + i)), .int (r 6), .int (r 7)])) h rfl rfl
theorem cx_tkinds {i : Nat} (h : i < 2) (g : cb_Geo) (r : Nat → Int32) : cx.2.1 g (36 + i) r = .inl (g.2.2.1 0, 8, .inl r) := cx_two (P := fun i => cx.2.1 g (36 + i) r = .inl (g.2.2.1 0, 8, .inl r)) h rfl rfl
theorem cx_tdays {i : Nat} (h : i < 2) (g : cb_Geo) (r : Nat → Int32) : cx.2.1 g (38 + i) r = .inl (g.2.2.1 0, 8, .inl r) := cx_two (P := fun i => cx.2.1 g (38 + i) r = .inl (g.2.2.1 0, 8, .inl r)) h rfl rfl
theorem cx_tlens {i : Nat} (h : i < 2) (g : cb_Geo) (r : Nat → Int32) : cx.2.1 g (40 + i) r = .inl (g.2.2.1 0, 8, .inl r) := cx_two (P := fun i => cx.2.1 g (40 + i) r = .inl (g.2.2.1 0, 8, .inl r)) h rfl rfl
theorem cx_sheet {i : Nat} (h : i < 4) (g : cb_Geo) (r : Nat → Int32) : cx.2.1 g (42 + i) r = .inr (3, [.ref (g.2.1 (46 + i)), .int (r 1), .int (r 2)]) := cx_four (P := fun i => cx.2.1 g (42 + i) r = .inr (3, [.ref (g.2.1 (46 + i)), .int (r 1), .int (r 2)])) h rfl rfl rfl rfl
theorem cx_sitems {i : Nat} (h : i < 4) (g : cb_Geo) (r : Nat → Int32) : cx.2.1 g (46 + i) r = .inl (g.2.2.1 0, 60, .inl r) := cx_four (P := fun i => cx.2.1 g (46 + i) r = .inl (g.2.2.1 0, 60, .inl r)) h rfl rfl rfl rfl
theorem cx_tally {i : Nat} (h : i < 8) (g : cb_Geo) (r : Nat → Int32) : cx.2.1 g (50 + i) r = .inl (g.2.2.1 0, 9, .inl r) := cx_eight (P := fun i => cx.2.1 g (50 + i) r = .inl (g.2.2.1 0, 9, .inl r)) h rfl rfl rfl rfl rfl rfl rfl rfl
theorem cx_case {i : Nat} (h : i < 8) (g : cb_Geo) (r : Nat → Int32) : cx.2.1 g (58 + i) r = .inl (g.2.2.1 0, 11, .inl r) := cx_eight (P := fun i => cx.2.1 g (58 + i) r = .inl (g.2.2.1 0, 11, .inl r)) h rfl rfl rfl rfl rfl rfl rfl rfl
/-! statics, arraycopy, Math.min, Math.max -/
def cb_copy (M : cb_Mem) (q0 q1 sp dp n : Nat) : cb_Mem := cb_row M q1 (va_cpy (M q0) (M q1) sp dp n)
def cb_fill (M : cb_Mem) (q n : Nat) (v : Int32) : cb_Mem := cb_row M q (fun i => if i < n then v else M q i)
def cb_min (x y : Int32) : Int32 := if y < x then y else x
def cb_max (x y : Int32) : Int32 := if x < y then y else x
abbrev cb_cin (sp dp n : Int32) (n0 n1 : Nat) : Prop := ¬ sp < 0 ∧ ¬ dp < 0 ∧ ¬ n < 0 ∧ sp.toNatClampNeg + n.toNatClampNeg ≤ n0 ∧ dp.toNatClampNeg + n.toNatClampNeg ≤ n1
theorem cb_ws_of {c : Cond} (i : Nat) (h : lw_tbl[i]? = some c) (hg : goodWord c = true) : c ∈ cb_ws := cb_wm i h hg
section CBR2
variable {w : cb_Wd} {g : cb_Geo} {γ : cb_Gam} {own : String} {cc : ByteArray} {nL : Nat} {ret : Option FieldType} {dp : Nat} {l : Launch} {Qc : Array Value → State → Outcome → State → Prop} {M : cb_Mem} {pc : Nat} {lv lv' : List (Nat × Value)} {st : List Value}
theorem cj_gets_kept (hC : cb_C w g γ own cc nL ret dp l Qc) {idx : Nat} (hw : Cond.fieldLink own idx RX6 "KEPT_OFF" "[I" ∈ cb_ws) (d : decode cc pc = .ok (.getstatic idx, 3)) (k : cb_J w g γ nL M (pc + 3) lv (.ref (g.2.2.2 4) :: st)) : cb_J w g γ nL M pc lv st := fun H locs ls hP hS hl => va_gets hC.1 hC.2.1 hC.2.2.2.2.2.1.2.2.1.1 hS hC.2.2.2.1 (hC.2.2.2.2.1 _ hw) (fun _ h => h) d (k H locs ls hP hS hl)
theorem cj_gets_ripe (hC : cb_C w g γ own cc nL ret dp l Qc) {idx : Nat} {host : String} (hw : Cond.fieldLinkNest own idx RX6 "RIPE_DAYS" "[I" host ∈ cb_nest) (d : decode cc pc = .ok (.getstatic idx, 3)) (k : cb_J w g γ nL M (pc + 3) lv (.ref (g.2.2.2 5) :: st)) : cb_J w g γ nL M pc lv st := fun H locs ls hP hS hl => va_getsN hC.1 hC.2.1 hC.2.2.2.2.2.1.2.2.1.2.2.1 hS hC.2.2.2.1 (va_Nw.use rfl (hC.2.2.2.2.2.1.2.1 _ hw)) (fun _ h => h) d (k H locs ls hP hS hl)
theorem cj_ald_kept (hC : cb_C w g γ own cc nL ret dp l Qc) {i : Int32} (hi : vp_in i 37) (d : decode cc pc = .ok (.iaload, 1)) (k : cb_J w g γ nL M (pc + 1) lv (.int (cb_kept.getD i.toNatClampNeg 0) :: st)) : cb_J w g γ nL M pc lv (.int i :: .ref (g.2.2.2 4) :: st) := fun H locs ls hP hS hl => va_ti hC.1 hC.2.1 hC.2.2.2.2.2.1.2.2.1.2.1 hS hi rfl d (k H locs ls hP hS hl)
theorem cj_ald_ripe (hC : cb_C w g γ own cc nL ret dp l Qc) {i : Int32} (hi : vp_in i 3) (d : decode cc pc = .ok (.iaload, 1)) (k : cb_J w g γ nL M (pc + 1) lv (.int (cb_ripe.getD i.toNatClampNeg 0) :: st)) : cb_J w g γ nL M pc lv (.int i :: .ref (g.2.2.2 5) :: st) := fun H locs ls hP hS hl => va_ti hC.1 hC.2.1 hC.2.2.2.2.2.1.2.2.1.2.2.2.1 hS hi rfl d (k H locs ls hP hS hl)
theorem cj_alen_kept (hC : cb_C w g γ own cc nL ret dp l Qc) (d : decode cc pc = .ok (.arraylength, 1)) (k : cb_J w g γ nL M (pc + 1) lv (.int 37 :: st)) : cb_J w g γ nL M pc lv (.ref (g.2.2.2 4) :: st) := fun H locs ls hP hS hl => va_tlen hC.1 hC.2.1 hC.2.2.2.2.2.1.2.2.1.2.1 hS rfl d (k H locs ls hP hS hl)
theorem cj_copy (hC : cb_C w g γ own cc nL ret dp l Qc) {idx q0 q1 n0 n1 : Nat} (hw1 : Cond.methodLink own idx arraycopyName ∈ cb_ws) (hw2 : Cond.native arraycopyName ∈ cb_ws) (hw3 : Cond.static arraycopyName ∈ cb_ws) (hw4 : Cond.initialized "java/lang/System" ∈ cb_ws) (hq0 : q0 < w.1) (hq1 : q1 < w.1) (hE0 : ∀ r, w.2.1 g q0 r = .inl (g.2.2.1 0, n0, .inl r)) (hE1 : ∀ r, w.2.1 g q1 r = .inl (g.2.2.1 0, n1, .inl r)) (ht : (w.2.2 g)[0]? = some (g.2.2.1 0, .int)) {sp dq n : Int32} (hi : cb_cin sp dq n n0 n1) {M' : cb_Mem} (hM : M' = cb_copy M q0 q1 sp.toNatClampNeg dq.toNatClampNeg n.toNatClampNeg) (hd : 0 < dp) (hr : (st.map fun v => v.category).sum ≤ 8) (d : decode cc pc = .ok (.invokestatic idx, 3)) (k : cb_J w g γ nL M' (pc + 3) lv st) : cb_J w g γ nL M pc lv (.int n :: .int dq :: .ref (g.2.1 q1) :: .int sp :: .ref (g.2.1 q0) :: st) := by
  intro H locs ls hP hS hl
  obtain ⟨h1, h2, h3, h4, h5⟩ := hi
  have hR := hC.2.2.2.2.2.2.2.2.1
  refine va_copyi hC.1 hC.2.1 (by rw [hC.2.2.1]; exact hl.1.symm) hC.2.2.2.1 (hC.2.2.2.2.1 _ hw1) (hC.2.2.2.2.1 _ hw2) (hC.2.2.2.2.1 _ hw3) (hC.2.2.2.2.1 _ hw4) hC.2.2.2.2.2.1.1 hP (cb_wl_D hC.2.2.2.2.2.1.2.2.2) hS q0 q1 0 0 (ty := .int) (by rw [cb_wl_get w g M hq0, hE0]) (by rw [cb_wl_get w g M hq1, hE1]) ht ht rfl h1 h2 h3 h4 h5 (fun _ _ => rfl) (by rw [hR]; exact hd) (by
    rw [hR]
    have e : nativeFrameWords "java/lang/System" "arraycopy" 5 + 11 ≤ 30 := by decide +kernel
    show _ ≤ 38 * dp
    omega) d (fun H1 locs1 hP1 _ hS1 => ?_)
  rw [← hE1, cb_wl_set w g M hq1] at hP1
  subst hM
  exact k H1 locs1 ls hP1 hS1 hl
theorem cj_min (hC : cb_C w g γ own cc nL ret dp l Qc) {idx : Nat} (hw1 : Cond.methodLink own idx Lib.Math.min.name ∈ cb_ws) (hw2 : Cond.static Lib.Math.min.name ∈ cb_ws) (hw3 : Cond.initialized "java/lang/Math" ∈ cb_ws) (hw4 : Cond.code Lib.Math.min.name Lib.Math.min.code 2 (some .int) ∈ cb_ws) {x y : Int32} (hd : 0 < dp) (hr : (st.map fun v => v.category).sum ≤ 8) (d : decode cc pc = .ok (.invokestatic idx, 3)) (k : cb_J w g γ nL M (pc + 3) lv (.int (cb_min x y) :: st)) : cb_J w g γ nL M pc lv (.int y :: .int x :: st) := by
  intro H locs ls hP hS hl
  have hR := hC.2.2.2.2.2.2.2.2.1
  exact va_mmin hC.1 hC.2.1 (by rw [hC.2.2.1]; exact hl.1.symm) hC.2.2.2.1 (hC.2.2.2.2.1 _ hw1) (hC.2.2.2.2.1 _ hw2) (hC.2.2.2.2.1 _ hw3) (hC.2.2.2.2.1 _ hw4) (by rw [hR]; exact hd) (by rw [hR]; show _ ≤ 38 * dp; omega) (Nat.zero_le _) (Nat.zero_le _) d (k H locs ls hP hS hl)
theorem cj_max (hC : cb_C w g γ own cc nL ret dp l Qc) {idx : Nat} (hw1 : Cond.methodLink own idx Lib.Math.max.name ∈ cb_ws) (hw2 : Cond.static Lib.Math.max.name ∈ cb_ws) (hw3 : Cond.initialized "java/lang/Math" ∈ cb_ws) (hw4 : Cond.code Lib.Math.max.name Lib.Math.max.code 2 (some .int) ∈ cb_ws) {x y : Int32} (hd : 0 < dp) (hr : (st.map fun v => v.category).sum ≤ 8) (d : decode cc pc = .ok (.invokestatic idx, 3)) (k : cb_J w g γ nL M (pc + 3) lv (.int (cb_max x y) :: st)) : cb_J w g γ nL M pc lv (.int y :: .int x :: st) := by
  intro H locs ls hP hS hl
  have hR := hC.2.2.2.2.2.2.2.2.1
  exact va_mmax hC.1 hC.2.1 (by rw [hC.2.2.1]; exact hl.1.symm) hC.2.2.2.1 (hC.2.2.2.2.1 _ hw1) (hC.2.2.2.2.1 _ hw2) (hC.2.2.2.2.1 _ hw3) (hC.2.2.2.2.1 _ hw4) (by rw [hR]; exact hd) (by rw [hR]; show _ ≤ 38 * dp; omega) (Nat.zero_le _) (Nat.zero_le _) d (k H locs ls hP hS hl)
end CBR2
