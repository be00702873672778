abbrev cl_A (s : State) : Nat → Prop := fun q => s.heap.size ≤ q
def cl_C (γ : cb_Gam) (gx gy : cb_Geo) (l : Launch) (b L : Nat) (xs : Nat → Int32) : Prop :=
  γ.1.1.tables.exec = Jvm.exec ∧ γ.2.2.2.1.code = cL_law ∧ γ.2.2.2.1.maxLocals = 4 ∧ γ.2.1.1.vm.findClass RL = some γ.2.1.2.1.cls ∧ (∀ x ∈ cb_ws, x.before γ.2.1.2.2.1 γ.2.1.1 = true) ∧
  va_X b L xs γ.2.1.1 γ.2.1.1.heap ∧ b < γ.2.1.1.heap.size ∧ γ.1.2.2.2 = room_1 ∧ γ.1.2.1 = l ∧
  va_K gx.1 vwCl (cx_ty gx) γ.2.1.1 ∧ va_K gy.1 vwCl (cy_ty gy) γ.2.1.1 ∧ (∀ x ∈ cb_nest, va_Nw x γ.2.1.1) ∧ cb_X gx (cl_A γ.2.1.1) γ.2.1.1 γ.2.1.1.heap ∧ cb_X gy (cl_A γ.2.1.1) γ.2.1.1 γ.2.1.1.heap ∧
  (∀ i j, i < 66 → j < 66 → gx.2.1 i = gx.2.1 j → i = j) ∧ (∀ i j, i < 22 → j < 22 → gy.2.1 i = gy.2.1 j → i = j) ∧ (∀ k, k < 66 → γ.2.1.1.heap.size ≤ gx.2.1 k) ∧ (∀ k, k < 22 → γ.2.1.1.heap.size ≤ gy.2.1 k) ∧ ∀ i j, i < 66 → j < 22 → gx.2.1 i ≠ gy.2.1 j
def cl_J (γ : cb_Gam) (gx gy : cb_Geo) (MX MY : cb_Mem) (pc : Nat) (lv : List (Nat × Value)) (st : List Value) : Prop :=
  ∀ (H : Heap) (locs : List Loc) (ls : Array Slot), va_P gx.1 vwCl (cb_wl cx gx MX) H → va_P gy.1 vwCl (cb_wl cy gy MY) H → va_S (cl_A γ.2.1.1) γ.2.1.1.heap H locs → lv_has ls 4 lv →
    W γ.1.1 γ.1.2.1 γ.1.2.2.1 γ.1.2.2.2 γ.2.1.1 γ.2.1.2.1 γ.2.1.2.2.1 γ.2.1.2.2.2 γ.2.2.1 γ.2.2.2.1 H locs 600000 7302250 γ.2.2.2.2 (F0 γ.2.1.2.1 pc ls st)
section CLR
variable {γ : cb_Gam} {gx gy : cb_Geo} {l : Launch} {b L : Nat} {xs : Nat → Int32} {MX MY : cb_Mem} {pc : Nat} {lv lv' : List (Nat × Value)} {st : List Value}
theorem cl_iconst (hC : cl_C γ gx gy l b L xs) {n : Int} {v : Int32} (d : decode cL_law pc = .ok (.iconst n, 1)) (hv : Int32.ofInt n = v) (k : cl_J γ gx gy MX MY (pc + 1) lv (.int v :: st)) : cl_J γ gx gy MX MY pc lv st := fun H locs ls hP hY hS hl => lv_iconst hC.1 hC.2.1 d hv (k H locs ls hP hY hS hl)
theorem cl_bipush (hC : cl_C γ gx gy l b L xs) {n : Int} {v : Int32} (d : decode cL_law pc = .ok (.bipush n, 2)) (hv : (Int8.ofInt n).toInt32 = v) (k : cl_J γ gx gy MX MY (pc + 2) lv (.int v :: st)) : cl_J γ gx gy MX MY pc lv st := fun H locs ls hP hY hS hl => lv_bipush hC.1 hC.2.1 d hv (k H locs ls hP hY hS hl)
theorem cl_iadd (hC : cl_C γ gx gy l b L xs) {x y : Int32} (d : decode cL_law pc = .ok (.iadd, 1))  (k : cl_J γ gx gy MX MY (pc + 1) lv (.int (x + y) :: st)) : cl_J γ gx gy MX MY pc lv (.int y :: .int x :: st) := fun H locs ls hP hY hS hl => lv_iadd hC.1 hC.2.1 d  (k H locs ls hP hY hS hl)
theorem cl_isub (hC : cl_C γ gx gy l b L xs) {x y : Int32} (d : decode cL_law pc = .ok (.isub, 1))  (k : cl_J γ gx gy MX MY (pc + 1) lv (.int (x - y) :: st)) : cl_J γ gx gy MX MY pc lv (.int y :: .int x :: st) := fun H locs ls hP hY hS hl => lv_isub hC.1 hC.2.1 d  (k H locs ls hP hY hS hl)
theorem cl_iand (hC : cl_C γ gx gy l b L xs) {x y : Int32} (d : decode cL_law pc = .ok (.iand, 1))  (k : cl_J γ gx gy MX MY (pc + 1) lv (.int (x &&& y) :: st)) : cl_J γ gx gy MX MY pc lv (.int y :: .int x :: st) := fun H locs ls hP hY hS hl => lv_iand hC.1 hC.2.1 d  (k H locs ls hP hY hS hl)
theorem cl_lcmp (hC : cl_C γ gx gy l b L xs) {x y : Int64} (d : decode cL_law pc = .ok (.lcmp, 1))  (k : cl_J γ gx gy MX MY (pc + 1) lv (.int (lg_cmp x y) :: st)) : cl_J γ gx gy MX MY pc lv (.long y :: .long x :: st) := fun H locs ls hP hY hS hl => W.lcmp hC.1 hC.2.1 d  (k H locs ls hP hY hS hl)
theorem cl_iload_n (hC : cl_C γ gx gy l b L xs) {f : Fin 4} {i : Nat} {x : Int32} (d : decode cL_law pc = .ok (.iload_n f, 1)) (hi : (f : Nat) = i) (q : Nat) (hq : lv[q]? = some (i, .int x)) (k : cl_J γ gx gy MX MY (pc + 1) lv (.int x :: st)) : cl_J γ gx gy MX MY pc lv st := fun H locs ls hP hY hS hl => lv_iload_n hC.1 hC.2.1 d hi (lv_at hl q hq) (k H locs ls hP hY hS hl)
theorem cl_aload_n (hC : cl_C γ gx gy l b L xs) {f : Fin 4} {i : Nat} {x : Nat} (d : decode cL_law pc = .ok (.aload_n f, 1)) (hi : (f : Nat) = i) (q : Nat) (hq : lv[q]? = some (i, .ref x)) (k : cl_J γ gx gy MX MY (pc + 1) lv (.ref x :: st)) : cl_J γ gx gy MX MY pc lv st := fun H locs ls hP hY hS hl => lv_aload_n hC.1 hC.2.1 d hi (lv_at hl q hq) (k H locs ls hP hY hS hl)
theorem cl_iinc (hC : cl_C γ gx gy l b L xs) {i q : Nat} {n : Int} {x v : Int32} (d : decode cL_law pc = .ok (.iinc i n, 3)) (hq : lv[q]? = some (i, .int x)) (hv : x + Int32.ofInt n = v) (hn : i < 4) (hl' : (i, Value.int v) :: lv.filter (fun q => !(q.1 == i) && !(q.1 + 1 == i && q.2.category == 2)) = lv') (k : cl_J γ gx gy MX MY (pc + 3) lv' st) : cl_J γ gx gy MX MY pc lv st := fun H locs ls hP hY hS hl => lv_iinc hC.1 hC.2.1 d hl hq hv hn hl' (fun ls' h => k H locs ls' hP hY hS h)
theorem cl_pick (ks : List Nat) (h : lv_pick lv ks = lv') (k : cl_J γ gx gy MX MY pc lv' st) : cl_J γ gx gy MX MY pc lv st := fun H locs ls hP hY hS hl => k H locs ls hP hY hS (lv_sub hl ks h)
theorem cl_goto (hC : cl_C γ gx gy l b L xs) {off : Int} {tgt : Nat} (d : decode cL_law pc = .ok (.goto off, 3)) (ht : (pc : Int) + off = (tgt : Int)) (k : cl_J γ gx gy MX MY tgt lv st) : cl_J γ gx gy MX MY pc lv st := fun H locs ls hP hY hS hl => lv_goto hC.1 hC.2.1 d ht (k H locs ls hP hY hS hl)
theorem cl_icmp_gt (hC : cl_C γ gx gy l b L xs) {x y : Int32} {off : Int} {tgt : Nat} (d : decode cL_law pc = .ok (.if_icmp .gt off, 3)) (ht : (pc : Int) + off = (tgt : Int)) (kt : y < x → cl_J γ gx gy MX MY tgt lv st) (kf : ¬ y < x → cl_J γ gx gy MX MY (pc + 3) lv st) : cl_J γ gx gy MX MY pc lv (.int y :: .int x :: st) := fun H locs ls hP hY hS hl => lv_icmp_gt hC.1 hC.2.1 d ht (fun h => kt h H locs ls hP hY hS hl) (fun h => kf h H locs ls hP hY hS hl)
theorem cl_same (hC : cl_C γ gx gy l b L xs) {x : Int32} {off : Int} {tgt : Nat} (d : decode cL_law pc = .ok (.if_icmp .eq off, 3)) (ht : (pc : Int) + off = (tgt : Int)) (k : cl_J γ gx gy MX MY tgt lv st) : cl_J γ gx gy MX MY pc lv (.int x :: .int x :: st) := fun H locs ls hP hY hS hl => lv_icmp_eq hC.1 hC.2.1 d ht (fun _ => (k H locs ls hP hY hS hl)) (fun h => absurd rfl h)
theorem cl_samel (hC : cl_C γ gx gy l b L xs) {x : Int64} {off : Int} {tgt : Nat} (d : decode cL_law pc = .ok (.ifCond .eq off, 3)) (ht : (pc : Int) + off = (tgt : Int)) (k : cl_J γ gx gy MX MY tgt lv st) : cl_J γ gx gy MX MY pc lv (.int (lg_cmp x x) :: st) := fun H locs ls hP hY hS hl => lv_if_eq hC.1 hC.2.1 d ht (fun _ => (k H locs ls hP hY hS hl)) (fun h => absurd (by simp [lg_cmp]) h)
theorem cl_tableIn (hC : cl_C γ gx gy l b L xs) {dflt lo hi : Int} {offs : Array Int} {len : Nat} {x : Int32} {off : Int} {tgt : Nat} (d : decode cL_law pc = .ok (.tableswitch dflt lo hi offs, len)) (h1 : ¬ x.toInt < lo) (h2 : ¬ hi < x.toInt) (ho : offs[(x.toInt - lo).toNat]? = some off) (ht : (pc : Int) + off = (tgt : Int)) (k : cl_J γ gx gy MX MY tgt lv st) : cl_J γ gx gy MX MY pc lv (.int x :: st) := fun H locs ls hP hY hS hl => lv_tableIn hC.1 hC.2.1 d h1 h2 ho ht (k H locs ls hP hY hS hl)
theorem cl_tableOut (hC : cl_C γ gx gy l b L xs) {dflt lo hi : Int} {offs : Array Int} {len : Nat} {x : Int32} {tgt : Nat} (d : decode cL_law pc = .ok (.tableswitch dflt lo hi offs, len)) (h : x.toInt < lo ∨ hi < x.toInt) (ht : (pc : Int) + dflt = (tgt : Int)) (k : cl_J γ gx gy MX MY tgt lv st) : cl_J γ gx gy MX MY pc lv (.int x :: st) := fun H locs ls hP hY hS hl => lv_tableOut hC.1 hC.2.1 d h ht (k H locs ls hP hY hS hl)
theorem cl_sld (hC : cl_C γ gx gy l b L xs) {i : Int32} (hi : vp_in i L) (d : decode cL_law pc = .ok (.iaload, 1)) (k : cl_J γ gx gy MX MY (pc + 1) lv (.int (xs i.toNatClampNeg) :: st)) : cl_J γ gx gy MX MY pc lv (.int i :: .ref b :: st) := fun H locs ls hP hY hS hl => va_sld hC.1 hC.2.1 hC.2.2.2.2.2.1 hC.2.2.2.2.2.2.1 (Nat.not_le.mpr hC.2.2.2.2.2.2.1) hS hi d (k H locs ls hP hY hS hl)
theorem cl_slen (hC : cl_C γ gx gy l b L xs) (d : decode cL_law pc = .ok (.arraylength, 1)) (k : cl_J γ gx gy MX MY (pc + 1) lv (.int (Int32.ofNat L) :: st)) : cl_J γ gx gy MX MY pc lv (.ref b :: st) := fun H locs ls hP hY hS hl => va_slen hC.1 hC.2.1 hC.2.2.2.2.2.1 hC.2.2.2.2.2.2.1 (Nat.not_le.mpr hC.2.2.2.2.2.2.1) hS d (k H locs ls hP hY hS hl)
theorem cl_callxi (hC : cl_C γ gx gy l b L xs) {idx n2 n d2 : Nat} {y : MethodName} {c2 : ByteArray} {ret2 : Option FieldType} (cv : cb_CV RL idx y c2 n2 ret2 n) (hcls : y.cls = RX6) {As : List Value} {r : Int32} {M2 : cb_Mem} (hM : Met l y (.code y c2 n2 ret2 :: cb_ws) (cb_rm d2) (cb_Pc cx gx (.ref (gx.2.1 0) :: As) MX) (cb_Qi cx gx r M2) 0 0 (cb_A cx gx)) (hd : d2 ≤ 12) (hn : As.length = n) {st0 : List Value} (hst : st0 = As.reverse ++ .ref (gx.2.1 0) :: st) (hr : (st.map fun v => v.category).sum ≤ 8) (d : decode cL_law pc = .ok (.invokevirtual idx, 3)) (k : cl_J γ gx gy M2 MY (pc + 3) lv (.int r :: st)) : cl_J γ gx gy MX MY pc lv st0 := by
  intro H locs ls hP hY hS hl
  obtain ⟨hx, hb, hml, hown, hts, -, -, hR, hL, hKx, hKy, hN, hXx, hXy, hIx, hIy, hLx, hLy, hdis⟩ := hC
  obtain ⟨v1, v2, v3, v4, v5, v6, v7⟩ := cv
  have G : GoodIn cb_ws (wsV RL idx y.cls y (.code y c2 n2 ret2 :: cb_ws)) := cb_good (fun _ h => h) (fun x hx => by
    rcases List.mem_append.mp hx with h | h
    · simp only [List.mem_cons, List.not_mem_nil, or_false] at h
      rcases h with rfl | rfl | rfl | rfl <;> assumption
    · exact cb_in_cons v1 x h)
  subst hL
  subst hst
  have hsub : ∀ q, cb_A cx gx q → cl_A γ.2.1.1 q := by
    rintro q ⟨k, hk, rfl⟩
    exact hLx k hk
  have hB : ∀ U : State, U.heap = H → γ.2.1.1.WarmedH U.vm → cb_B cx gx U := by
    intro U hU hW
    refine ⟨va_K.moved hW.alike hKx, fun x hx => ?_, (cb_X.kept (cb_X.moved hW.alike hXx) (by rw [hU]; exact hS.2.1)).narrow hsub, hIx⟩
    have h := hN x hx
    rcases cb_nest_kind hx with ⟨a, i, y, b, rfl⟩ | ⟨a, i, b, n, d, k, rfl⟩
    · exact va_Nw.warmM hW h
    · exact va_Nw.warmF hW h
  refine va_calli (va_runV (nL := 4) (As := As) (rest := st) (n := n) ⟨hx, hb, hml, hown, hts⟩ hM (cwV n hts G rfl rfl rfl ⟨rfl, v6⟩ (by rw [hR]; exact ⟨by show d2 + 1 ≤ 14; omega, by show 8 + (n2 + 11) + 38 * d2 ≤ 540; omega⟩)) ⟨cb_Pc.blind, by rw [hcls]; exact va_recv hKx hP (ci := 6) (q0 := 0) rfl (by rw [cb_wl_get cx gx MX (show 0 < cx.1 by decide)]; rfl), fun U hU hW => ⟨rfl, hB U hU hW, by rw [hU]; exact hP⟩⟩ rfl hn hl.1 rfl (lv_room hr) d ⟨by rw [hR]; exact Nat.le_refl _, by rw [hR]; exact Nat.le_refl _⟩) hS (fun q _ h => hsub q h) hsub (fun x u t H1 locs1 ht _ hx hB9 hz1 hk1 hS1 => ?_)
  subst hx
  have hO := hY.kept (H1 := H1) (fun k q hq => hk1 q.1 (hY k q hq).lt (by
    have hj : k < 22 := by
      have := (List.getElem?_eq_some_iff.mp hq).1
      rw [cb_wl_len] at this
      exact this
    rw [cb_wl_get cy gy MY hj] at hq
    have e0 := congrArg Prod.fst (Option.some.inj hq)
    rintro ⟨i, hi, e⟩
    have e : gy.2.1 k = gx.2.1 i := e0.trans e
    exact hdis i k hi hj e.symm))
  exact k H1 locs1 ls (by rw [← ht]; exact hB9) hO hS1 hl
theorem cl_callxl (hC : cl_C γ gx gy l b L xs) {idx n2 n d2 : Nat} {y : MethodName} {c2 : ByteArray} {ret2 : Option FieldType} (cv : cb_CV RL idx y c2 n2 ret2 n) (hcls : y.cls = RX6) {As : List Value} {r : Int64} {M2 : cb_Mem} (hM : Met l y (.code y c2 n2 ret2 :: cb_ws) (cb_rm d2) (cb_Pc cx gx (.ref (gx.2.1 0) :: As) MX) (cb_Ql cx gx r M2) 0 0 (cb_A cx gx)) (hd : d2 ≤ 12) (hn : As.length = n) {st0 : List Value} (hst : st0 = As.reverse ++ .ref (gx.2.1 0) :: st) (hr : (st.map fun v => v.category).sum ≤ 8) (d : decode cL_law pc = .ok (.invokevirtual idx, 3)) (k : cl_J γ gx gy M2 MY (pc + 3) lv (.long r :: st)) : cl_J γ gx gy MX MY pc lv st0 := by
  intro H locs ls hP hY hS hl
  obtain ⟨hx, hb, hml, hown, hts, -, -, hR, hL, hKx, hKy, hN, hXx, hXy, hIx, hIy, hLx, hLy, hdis⟩ := hC
  obtain ⟨v1, v2, v3, v4, v5, v6, v7⟩ := cv
  have G : GoodIn cb_ws (wsV RL idx y.cls y (.code y c2 n2 ret2 :: cb_ws)) := cb_good (fun _ h => h) (fun x hx => by
    rcases List.mem_append.mp hx with h | h
    · simp only [List.mem_cons, List.not_mem_nil, or_false] at h
      rcases h with rfl | rfl | rfl | rfl <;> assumption
    · exact cb_in_cons v1 x h)
  subst hL
  subst hst
  have hsub : ∀ q, cb_A cx gx q → cl_A γ.2.1.1 q := by
    rintro q ⟨k, hk, rfl⟩
    exact hLx k hk
  have hB : ∀ U : State, U.heap = H → γ.2.1.1.WarmedH U.vm → cb_B cx gx U := by
    intro U hU hW
    refine ⟨va_K.moved hW.alike hKx, fun x hx => ?_, (cb_X.kept (cb_X.moved hW.alike hXx) (by rw [hU]; exact hS.2.1)).narrow hsub, hIx⟩
    have h := hN x hx
    rcases cb_nest_kind hx with ⟨a, i, y, b, rfl⟩ | ⟨a, i, b, n, d, k, rfl⟩
    · exact va_Nw.warmM hW h
    · exact va_Nw.warmF hW h
  refine va_calll (va_runV (nL := 4) (As := As) (rest := st) (n := n) ⟨hx, hb, hml, hown, hts⟩ hM (cwV n hts G rfl rfl rfl ⟨rfl, v6⟩ (by rw [hR]; exact ⟨by show d2 + 1 ≤ 14; omega, by show 8 + (n2 + 11) + 38 * d2 ≤ 540; omega⟩)) ⟨cb_Pc.blind, by rw [hcls]; exact va_recv hKx hP (ci := 6) (q0 := 0) rfl (by rw [cb_wl_get cx gx MX (show 0 < cx.1 by decide)]; rfl), fun U hU hW => ⟨rfl, hB U hU hW, by rw [hU]; exact hP⟩⟩ rfl hn hl.1 rfl (lv_room hr) d ⟨by rw [hR]; exact Nat.le_refl _, by rw [hR]; exact Nat.le_refl _⟩) hS (fun q _ h => hsub q h) hsub (fun x u t H1 locs1 ht _ hx hB9 hz1 hk1 hS1 => ?_)
  subst hx
  have hO := hY.kept (H1 := H1) (fun k q hq => hk1 q.1 (hY k q hq).lt (by
    have hj : k < 22 := by
      have := (List.getElem?_eq_some_iff.mp hq).1
      rw [cb_wl_len] at this
      exact this
    rw [cb_wl_get cy gy MY hj] at hq
    have e0 := congrArg Prod.fst (Option.some.inj hq)
    rintro ⟨i, hi, e⟩
    have e : gy.2.1 k = gx.2.1 i := e0.trans e
    exact hdis i k hi hj e.symm))
  exact k H1 locs1 ls (by rw [← ht]; exact hB9) hO hS1 hl
theorem cl_callyi (hC : cl_C γ gx gy l b L xs) {idx n2 n d2 : Nat} {y : MethodName} {c2 : ByteArray} {ret2 : Option FieldType} (cv : cb_CV RL idx y c2 n2 ret2 n) (hcls : y.cls = RX7) {As : List Value} {r : Int32} {M2 : cb_Mem} (hM : Met l y (.code y c2 n2 ret2 :: cb_ws) (cb_rm d2) (cb_Pc cy gy (.ref (gy.2.1 0) :: As) MY) (cb_Qi cy gy r M2) 0 0 (cb_A cy gy)) (hd : d2 ≤ 12) (hn : As.length = n) {st0 : List Value} (hst : st0 = As.reverse ++ .ref (gy.2.1 0) :: st) (hr : (st.map fun v => v.category).sum ≤ 8) (d : decode cL_law pc = .ok (.invokevirtual idx, 3)) (k : cl_J γ gx gy MX M2 (pc + 3) lv (.int r :: st)) : cl_J γ gx gy MX MY pc lv st0 := by
  intro H locs ls hP hY hS hl
  obtain ⟨hx, hb, hml, hown, hts, -, -, hR, hL, hKx, hKy, hN, hXx, hXy, hIx, hIy, hLx, hLy, hdis⟩ := hC
  obtain ⟨v1, v2, v3, v4, v5, v6, v7⟩ := cv
  have G : GoodIn cb_ws (wsV RL idx y.cls y (.code y c2 n2 ret2 :: cb_ws)) := cb_good (fun _ h => h) (fun x hx => by
    rcases List.mem_append.mp hx with h | h
    · simp only [List.mem_cons, List.not_mem_nil, or_false] at h
      rcases h with rfl | rfl | rfl | rfl <;> assumption
    · exact cb_in_cons v1 x h)
  subst hL
  subst hst
  have hsub : ∀ q, cb_A cy gy q → cl_A γ.2.1.1 q := by
    rintro q ⟨k, hk, rfl⟩
    exact hLy k hk
  have hB : ∀ U : State, U.heap = H → γ.2.1.1.WarmedH U.vm → cb_B cy gy U := by
    intro U hU hW
    refine ⟨va_K.moved hW.alike hKy, fun x hx => ?_, (cb_X.kept (cb_X.moved hW.alike hXy) (by rw [hU]; exact hS.2.1)).narrow hsub, hIy⟩
    have h := hN x hx
    rcases cb_nest_kind hx with ⟨a, i, y, b, rfl⟩ | ⟨a, i, b, n, d, k, rfl⟩
    · exact va_Nw.warmM hW h
    · exact va_Nw.warmF hW h
  refine va_calli (va_runV (nL := 4) (As := As) (rest := st) (n := n) ⟨hx, hb, hml, hown, hts⟩ hM (cwV n hts G rfl rfl rfl ⟨rfl, v6⟩ (by rw [hR]; exact ⟨by show d2 + 1 ≤ 14; omega, by show 8 + (n2 + 11) + 38 * d2 ≤ 540; omega⟩)) ⟨cb_Pc.blind, by rw [hcls]; exact va_recv hKy hY (ci := 7) (q0 := 0) rfl (by rw [cb_wl_get cy gy MY (show 0 < cy.1 by decide)]; rfl), fun U hU hW => ⟨rfl, hB U hU hW, by rw [hU]; exact hY⟩⟩ rfl hn hl.1 rfl (lv_room hr) d ⟨by rw [hR]; exact Nat.le_refl _, by rw [hR]; exact Nat.le_refl _⟩) hS (fun q _ h => hsub q h) hsub (fun x u t H1 locs1 ht _ hx hB9 hz1 hk1 hS1 => ?_)
  subst hx
  have hO := hP.kept (H1 := H1) (fun k q hq => hk1 q.1 (hP k q hq).lt (by
    have hj : k < 66 := by
      have := (List.getElem?_eq_some_iff.mp hq).1
      rw [cb_wl_len] at this
      exact this
    rw [cb_wl_get cx gx MX hj] at hq
    have e0 := congrArg Prod.fst (Option.some.inj hq)
    rintro ⟨i, hi, e⟩
    have e : gx.2.1 k = gy.2.1 i := e0.trans e
    exact hdis k i hj hi e))
  exact k H1 locs1 ls hO (by rw [← ht]; exact hB9) hS1 hl
theorem cl_callyl (hC : cl_C γ gx gy l b L xs) {idx n2 n d2 : Nat} {y : MethodName} {c2 : ByteArray} {ret2 : Option FieldType} (cv : cb_CV RL idx y c2 n2 ret2 n) (hcls : y.cls = RX7) {As : List Value} {r : Int64} {M2 : cb_Mem} (hM : Met l y (.code y c2 n2 ret2 :: cb_ws) (cb_rm d2) (cb_Pc cy gy (.ref (gy.2.1 0) :: As) MY) (cb_Ql cy gy r M2) 0 0 (cb_A cy gy)) (hd : d2 ≤ 12) (hn : As.length = n) {st0 : List Value} (hst : st0 = As.reverse ++ .ref (gy.2.1 0) :: st) (hr : (st.map fun v => v.category).sum ≤ 8) (d : decode cL_law pc = .ok (.invokevirtual idx, 3)) (k : cl_J γ gx gy MX M2 (pc + 3) lv (.long r :: st)) : cl_J γ gx gy MX MY pc lv st0 := by
  intro H locs ls hP hY hS hl
  obtain ⟨hx, hb, hml, hown, hts, -, -, hR, hL, hKx, hKy, hN, hXx, hXy, hIx, hIy, hLx, hLy, hdis⟩ := hC
  obtain ⟨v1, v2, v3, v4, v5, v6, v7⟩ := cv
  have G : GoodIn cb_ws (wsV RL idx y.cls y (.code y c2 n2 ret2 :: cb_ws)) := cb_good (fun _ h => h) (fun x hx => by
    rcases List.mem_append.mp hx with h | h
    · simp only [List.mem_cons, List.not_mem_nil, or_false] at h
      rcases h with rfl | rfl | rfl | rfl <;> assumption
    · exact cb_in_cons v1 x h)
  subst hL
  subst hst
  have hsub : ∀ q, cb_A cy gy q → cl_A γ.2.1.1 q := by
    rintro q ⟨k, hk, rfl⟩
    exact hLy k hk
  have hB : ∀ U : State, U.heap = H → γ.2.1.1.WarmedH U.vm → cb_B cy gy U := by
    intro U hU hW
    refine ⟨va_K.moved hW.alike hKy, fun x hx => ?_, (cb_X.kept (cb_X.moved hW.alike hXy) (by rw [hU]; exact hS.2.1)).narrow hsub, hIy⟩
    have h := hN x hx
    rcases cb_nest_kind hx with ⟨a, i, y, b, rfl⟩ | ⟨a, i, b, n, d, k, rfl⟩
    · exact va_Nw.warmM hW h
    · exact va_Nw.warmF hW h
  refine va_calll (va_runV (nL := 4) (As := As) (rest := st) (n := n) ⟨hx, hb, hml, hown, hts⟩ hM (cwV n hts G rfl rfl rfl ⟨rfl, v6⟩ (by rw [hR]; exact ⟨by show d2 + 1 ≤ 14; omega, by show 8 + (n2 + 11) + 38 * d2 ≤ 540; omega⟩)) ⟨cb_Pc.blind, by rw [hcls]; exact va_recv hKy hY (ci := 7) (q0 := 0) rfl (by rw [cb_wl_get cy gy MY (show 0 < cy.1 by decide)]; rfl), fun U hU hW => ⟨rfl, hB U hU hW, by rw [hU]; exact hY⟩⟩ rfl hn hl.1 rfl (lv_room hr) d ⟨by rw [hR]; exact Nat.le_refl _, by rw [hR]; exact Nat.le_refl _⟩) hS (fun q _ h => hsub q h) hsub (fun x u t H1 locs1 ht _ hx hB9 hz1 hk1 hS1 => ?_)
  subst hx
  have hO := hP.kept (H1 := H1) (fun k q hq => hk1 q.1 (hP k q hq).lt (by
    have hj : k < 66 := by
      have := (List.getElem?_eq_some_iff.mp hq).1
      rw [cb_wl_len] at this
      exact this
    rw [cb_wl_get cx gx MX hj] at hq
    have e0 := congrArg Prod.fst (Option.some.inj hq)
    rintro ⟨i, hi, e⟩
    have e : gx.2.1 k = gy.2.1 i := e0.trans e
    exact hdis k i hj hi e))
  exact k H1 locs1 ls hO (by rw [← ht]; exact hB9) hS1 hl
end CLR
