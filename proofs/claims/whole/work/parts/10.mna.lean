def va_AOA (ty : FieldType) (U : State) : Prop := (Cond.arrayOver (.array ty)).before #[] U = true
theorem va_AOA.of {ty : FieldType} {A : Array Value} {U : State} (h : (Cond.arrayOver (.array ty)).before A U = true) : va_AOA ty U := h
theorem va_AOA.use {ty : FieldType} {A : Array Value} {U : State} (h : va_AOA ty U) : (Cond.arrayOver (.array ty)).before A U = true := h
theorem cb_over {ty : FieldType} {U : State} : va_AOA ty U ↔ ∃ (q c : ClassId) (k : Class), U.vm.findClass (FieldType.array ty).toString = some q ∧ (U.vm.classes.findIdx? fun (x : Class) => match x.kind with | .array r _ => r == q | _ => false) = some c ∧ U.vm.classes[c]? = some k ∧ k.kind = .array q (.array ty) ∧ U.vm.findClass ("[" ++ (FieldType.array ty).toString) = some c := by
  unfold va_AOA Cond.before Cond.holds
  simp only [Cond.value, beq_iff_eq, Option.bind_eq_some_iff, Option.map_eq_some_iff]
  refine ⟨fun ⟨q, h1, c, h2, k, h3, h4⟩ => ⟨q, c, k, h1, h2, h3, ?_⟩, fun ⟨q, c, k, h1, h2, h3, h4, h5⟩ => ⟨q, h1, c, h2, k, h3, ?_⟩⟩
  · obtain ⟨w, hw, -⟩ := Array.findIdx?_eq_some_iff_getElem.mp h2
    rw [(Array.getElem?_eq_some_iff.mp h3).2] at hw
    generalize hk : k.kind = K at h4 hw
    cases K <;> simp at h4 hw
    exact ⟨by rw [hw, h4.1], h4.2⟩
  · rw [h4]
    simp [h5]
theorem va_AOA.moved {ty : FieldType} {u U : State} (hvm : u.vm.Alike U.vm) (h : va_AOA ty u) : va_AOA ty U := by
  obtain ⟨q, c, k, h1, h2, h3, h4, h5⟩ := cb_over.mp h
  obtain ⟨k', g3, e⟩ := hvm.2.2 _ _ h3
  exact cb_over.mpr ⟨q, c, k', (hvm.findClass _ _).trans h1, (hvm.findIdx?_eqK _ (fun _ => rfl)).trans h2, g3, by rw [e]; exact h4, (hvm.findClass _ _).trans h5⟩
/-! new T[n][m] out of the machine's own words: the grid behind i rows, what it holds, that the walk stands there, and the step -/
def cb_gc (c : ClassId) (N h i : Nat) : Cell := arrV c N (fun j => va_rf (if j < i then some (h + 1 + j) else none))
theorem cb_gc_0 (c : ClassId) (N h : Nat) : arrV c N (fun _ => Value.null) = cb_gc c N h 0 := by
  unfold cb_gc
  refine congrArg (arrV c N) (funext fun j => ?_)
  rw [if_neg (Nat.not_lt_zero j)]
  rfl
theorem cb_gc_up (c : ClassId) (N h i : Nat) : (cb_gc c N h i).setSlot i (.ref (h + 1 + i)) = cb_gc c N h (i + 1) := by
  unfold cb_gc
  rw [arrV_store]
  refine congrArg (arrV c N) (funext fun j => ?_)
  unfold updV
  by_cases e : j = i
  · rw [if_pos e, e, if_pos (Nat.lt_succ_self i)]
    rfl
  · rw [if_neg e]
    show va_rf (if j < i then some (h + 1 + j) else none) = _
    by_cases q : j < i
    · rw [if_pos q, if_pos (Nat.lt_succ_of_lt q)]
    · rw [if_neg q, if_neg (by omega)]
def cb_gr (S : State) (c d : ClassId) (N K : Nat) (v : Value) : Nat → State
  | 0 => S.pushCell (cb_gc c N S.heap.size 0)
  | i + 1 => ((cb_gr S c d N K v i).pushCell (arrV d K (fun _ => v))).setCell S.heap.size (cb_gc c N S.heap.size (i + 1))
def cb_gF (S : State) (c d : ClassId) (N K : Nat) (v : Value) (i : Nat) (F : State) : Prop := F.heap.size = S.heap.size + 1 + i ∧ F.heap[S.heap.size]? = some (cb_gc c N S.heap.size i) ∧ F.vm = S.vm ∧ F.slotsUsed = S.slotsUsed + N + i * K ∧ (∀ a, a < S.heap.size → F.heap[a]? = S.heap[a]?) ∧ ∀ j, j < i → F.heap[S.heap.size + 1 + j]? = some (arrV d K (fun _ => v))
theorem cb_gr_F (S : State) (c d : ClassId) (N K : Nat) (v : Value) : ∀ i : Nat, cb_gF S c d N K v i (cb_gr S c d N K v i)
  | 0 => ⟨by simp [cb_gr], by simp [cb_gr], rfl, by simp [cb_gr, cb_gc, arrV_size], fun a h => State.heap_pushCell_of_lt _ _ h, fun j h => absurd h (Nat.not_lt_zero j)⟩
  | i + 1 => by
    obtain ⟨h1, h2, h3, h4, h5, h6⟩ := cb_gr_F S c d N K v i
    show cb_gF S c d N K v (i + 1) (((cb_gr S c d N K v i).pushCell (arrV d K (fun _ => v))).setCell S.heap.size (cb_gc c N S.heap.size (i + 1)))
    generalize cb_gr S c d N K v i = F at h1 h2 h3 h4 h5 h6
    have old : ∀ a, a < F.heap.size → (F.pushCell (arrV d K (fun _ => v))).heap[a]? = F.heap[a]? := fun a h => State.heap_pushCell_of_lt _ _ h
    have g2 : (F.pushCell (arrV d K (fun _ => v))).heap[S.heap.size]? = some (cb_gc c N S.heap.size i) := by
      rw [old _ (by omega)]
      exact h2
    refine ⟨by simp [State.setCell, h1]; omega, State.heap_setCell_self g2, by simp [h3], ?_, fun a ha => ?_, fun j hj => ?_⟩
    · simp [h4, arrV_size, Nat.succ_mul]
      omega
    · rw [State.heap_setCell_other (show S.heap.size ≠ a by omega), old _ (by omega)]
      exact h5 a ha
    · rw [State.heap_setCell_other (show S.heap.size ≠ S.heap.size + 1 + j by omega)]
      by_cases q : j < i
      · rw [old _ (by omega)]
        exact h6 j q
      · have e : S.heap.size + 1 + j = F.heap.size := by omega
        rw [e]
        exact State.heap_pushCell_size _ _
theorem cb_gr_top (S : State) (f : JFrame) (c d : ClassId) (N K : Nat) (v : Value) : ∀ i : Nat, cb_gr (S.setTop f) c d N K v i = (cb_gr S c d N K v i).setTop f
  | 0 => rfl
  | i + 1 => by
    simp only [cb_gr, cb_gr_top S f c d N K v i, State.heap_setTop, State.pushCell_setTop, State.setCell_setTop]
section CBG
variable {E : CtlPost} {e : Env} {d : Bool} {acts : List Action} {S : State}
theorem cb_wpA {c q : ClassId} {k : Class} {ty : FieldType} {n : Nat} {v : Value} (hk : S.vm.classes[c]? = some k) (hq : k.kind = .array q ty) (h1 : n ≤ e.platform.arrayLengthLimit) (h2 : n * componentBytes ty ≤ e.platform.maxHeapBytes) (hf : fits ty v = true) (hv : v.isDefault = true) (r1 : S.heap.size < e.platform.maxCells) (r2 : S.slotsUsed + n ≤ e.platform.maxSlots) {Q : Addr → Pre} (hQ : Q S.heap.size d acts (S.pushCell (arrV c n (fun _ => v)))) : wp (Jvm.newArray c n v) Q E e d acts S := by
  rw [← arrV_new] at hQ
  have hd : allocActs (Array.replicate n v) S.heap.size acts = acts := by
    unfold allocActs
    rw [if_pos (by rw [Array.all_replicate]; split <;> simp [hv])]
  have hs : ∀ (i : Nat) (x : Value), (Array.replicate n v)[i]? = some x → S.fitsSlot c .none i x = true := fun i x hx => by
    rw [Array.getElem?_replicate] at hx
    by_cases hi : i < n
    · rw [if_pos hi] at hx
      cases hx
      simp [State.fitsSlot, State.slotType?, hk, hq, hf]
    · rw [if_neg hi] at hx
      cases hx
  simp only [Jvm.newArray, Jvm.arrayFits, wp_bind', _root_.Jvm.W.ask, _root_.Jvm.W.ite, Nat.not_lt.mpr h1, if_false, wp_pure', _root_.Jvm.W.theClass, hk, hq, Nat.not_lt.mpr h2, _root_.Jvm.W.alloc, Option.some.injEq, exists_eq_left', Array.size_replicate, hd]
  rw [if_neg (by omega)]
  exact ⟨r1, r2, hs, hQ⟩
theorem cb_rf {ty : FieldType} (r : Option Nat) : fits (.array ty) (va_rf r) = true := by
  cases r <;> rfl
theorem cb_wpM {c q w : ClassId} {k kq : Class} {ty : FieldType} {n m : Int32} (hk : S.vm.classes[c]? = some k) (hq : k.kind = .array q (.array ty)) (gk : S.vm.classes[q]? = some kq) (gq : kq.kind = .array w ty) (hn : ¬ n < 0) (hm : ¬ m < 0) (h1 : n.toNatClampNeg ≤ e.platform.arrayLengthLimit) (h2 : n.toNatClampNeg * 4 ≤ e.platform.maxHeapBytes) (h3 : m.toNatClampNeg ≤ e.platform.arrayLengthLimit) (h4 : m.toNatClampNeg * componentBytes ty ≤ e.platform.maxHeapBytes)
    (hf : fits ty (defaultValue ty) = true) (hv : (defaultValue ty).isDefault = true) (r1 : S.heap.size + (1 + n.toNatClampNeg) ≤ e.platform.maxCells) (r2 : S.slotsUsed + (n.toNatClampNeg + n.toNatClampNeg * m.toNatClampNeg) ≤ e.platform.maxSlots) {Q : Addr → Pre}
    (hQ : ∀ d' acts', Q S.heap.size d' acts' (cb_gr S c q n.toNatClampNeg m.toNatClampNeg (defaultValue ty) n.toNatClampNeg)) : wp (multianewarray.make c [n, m]) Q E e d acts S := by
  generalize hN : n.toNatClampNeg = N at h1 h2 r1 r2 hQ
  generalize hM : m.toNatClampNeg = K at h3 h4 r2 hQ
  rw [multianewarray.make]
  simp only [wp_bind', _root_.Jvm.W.ite, hn, if_false, wp_pure', _root_.Jvm.W.theClass, hk, hq, Option.some.injEq, exists_eq_left', hN]
  refine cb_wpA hk hq h1 h2 (cb_rf none) rfl (by omega) (by omega) ?_
  have e0 : S.pushCell (arrV c N (fun _ => Value.null)) = cb_gr S c q N K (defaultValue ty) 0 := by
    rw [cb_gc_0 c N S.heap.size]
    rfl
  show wp _ Q E e d acts (S.pushCell (arrV c N (fun _ => Value.null)))
  rw [e0]
  have hz : ([m].find? (· < 0)) = none := by simp [hm]
  simp only [hz]
  rw [ite_self, wp_bind', Std.Legacy.Range.forIn_eq_forIn_range']
  have hsz : ([:N] : Std.Legacy.Range).size = N := by simp [Std.Legacy.Range.size]
  rw [hsz]
  refine wp_forIn_inv (fun t F => ∃ i, i ≤ N ∧ t = List.range' i (N - i) ∧ F = cb_gr S c q N K (defaultValue ty) i) _ _ ⟨0, Nat.zero_le N, rfl, rfl⟩ ?_ ?_
  · intro x t F d' acts' Q' hI go
    obtain ⟨i, hi, ht, hF⟩ := hI
    have hlt : i < N := Nat.lt_of_le_of_ne hi (fun h => by
      rw [h, Nat.sub_self] at ht
      cases ht)
    rw [show N - i = (N - (i + 1)) + 1 by omega, List.range'_succ] at ht
    obtain ⟨hx, ht'⟩ := List.cons.inj ht
    rw [hx, hF]
    obtain ⟨f1, f2, f3, f4, -, -⟩ := cb_gr_F S c q N K (defaultValue ty) i
    have hmul : i * K + K ≤ N * K := by
      have := Nat.mul_le_mul_right K (show i + 1 ≤ N from hlt)
      rw [Nat.succ_mul] at this
      exact this
    have up : cb_gr S c q N K (defaultValue ty) (i + 1) = ((cb_gr S c q N K (defaultValue ty) i).pushCell (arrV q K (fun _ => defaultValue ty))).setCell S.heap.size (cb_gc c N S.heap.size (i + 1)) := rfl
    generalize hG : cb_gr S c q N K (defaultValue ty) i = G at f1 f2 f3 f4 up
    rw [multianewarray.make]
    simp only [wp_bind', _root_.Jvm.W.ite, hm, if_false, wp_pure', _root_.Jvm.W.theClass, f3, gk, gq, Option.some.injEq, exists_eq_left', hM]
    refine cb_wpA (by rw [f3]; exact gk) gq h3 h4 hf hv (by omega) (by omega) ?_
    simp only [wp_bind', _root_.Jvm.W.writeLoc, wp_pure']
    refine ⟨cb_gc c N S.heap.size i, by rw [State.heap_pushCell_of_lt _ _ (show S.heap.size < G.heap.size by omega)]; exact f2, by simp [cb_gc, arrV], by rw [cb_gc, arrV_size]; exact hlt, ?_, ?_⟩
    · simp [State.fitsSlot, State.slotType?, cb_gc, arrV, f3, hk, hq]
      rfl
    · refine go _ _ _ ⟨i + 1, hlt, ht', ?_⟩
      rw [up, ← cb_gc_up, f1]
  · intro F d' acts' hI
    obtain ⟨i, hi, ht, hF⟩ := hI
    have hiN : i = N := by
      by_cases h : i < N
      · rw [show N - i = (N - (i + 1)) + 1 by omega, List.range'_succ] at ht
        cases ht
      · omega
    rw [hF, hiN]
    simp only [wp_pure']
    exact hQ _ _
end CBG
section CBH
variable {p : Program} {l : Launch} {e : Env} {R : Room} {s : State} {m : MethodId} {args : Array Value} {below : List Frame} {meth : Method} {c : Code} {T : State} {locs : List Loc} {cells slots : Nat}
theorem cb_gr_S (X : Stand p l e R s m args below meth c T locs cells slots) (cA d : ClassId) (N K : Nat) (v : Value) : ∀ i : Nat, Stand p l e R s m args below meth c (cb_gr T cA d N K v i) locs (cells + 1 + i) (slots + N + i * K)
  | 0 => by
    have h := X.pushed (cb_gc cA N T.heap.size 0)
    rw [show (cb_gc cA N T.heap.size 0).slots.size = N from arrV_size _ _ _] at h
    rw [Nat.zero_mul]
    exact h
  | i + 1 => by
    have h := cb_gr_S X cA d N K v i
    obtain ⟨f1, f2, -, -, -, -⟩ := cb_gr_F T cA d N K v i
    show Stand p l e R s m args below meth c (((cb_gr T cA d N K v i).pushCell (arrV d K (fun _ => v))).setCell T.heap.size (cb_gc cA N T.heap.size (i + 1))) locs _ _
    generalize cb_gr T cA d N K v i = F at h f1 f2
    have g := (h.pushed (arrV d K (fun _ => v))).stored (a := T.heap.size) (cell := cb_gc cA N T.heap.size i) (by rw [State.heap_pushCell_of_lt _ _ (show T.heap.size < F.heap.size by omega)]; exact f2) i (.ref (T.heap.size + 1 + i))
    rw [cb_gc_up, arrV_size] at g
    have g' := g.dropFresh (fun x hx => by
      rw [List.mem_singleton] at hx
      rw [hx]
      exact X.heapGrown)
    rw [show slots + N + (i + 1) * K = slots + N + i * K + K by rw [Nat.succ_mul]; omega]
    exact g'
theorem cb_multi (X : Stand p l e R s m args below meth c T locs cells slots) (hexec : p.tables.exec = Jvm.exec) {own : String} {index : Nat} {ty : FieldType} (hown : s.vm.findClass own = some m.cls) (hclink : (Cond.classLink own index ("[" ++ (FieldType.array ty).toString)).before args s = true) (hover : va_AOA ty s) (harr : (Cond.arrayClass ty).before args s = true)
    {g : JFrame} (hg : g.method = m) (hdg : decode c.code g.pc = .ok (.multianewarray index 2, 4)) {n k : Int32} {rest : List Value} (hst : g.stack = .int k :: .int n :: rest) (hn : ¬ n < 0) (hk : ¬ k < 0) (hb1 : n.toNatClampNeg * 4 ≤ 536870912) (hb2 : k.toNatClampNeg * componentBytes ty ≤ 536870912) (hb3 : k.toNatClampNeg ≤ 536870912)
    (hf : fits ty (defaultValue ty) = true) (hv : (defaultValue ty).isDefault = true) (hcells : cells + (1 + n.toNatClampNeg) ≤ R.cells) (hslots : slots + (n.toNatClampNeg + n.toNatClampNeg * k.toNatClampNeg) ≤ R.slots) :
    ∃ (U : Vm) (cA cB : ClassId), s.vm.findClass ("[" ++ (FieldType.array ty).toString) = some cA ∧ s.vm.findClass (FieldType.array ty).toString = some cB ∧ ArrOfT s cA (.array ty) ∧
      Stand p l e R s m args below meth c (cb_gr (T.setVm U) cA cB n.toNatClampNeg k.toNatClampNeg (defaultValue ty) n.toNatClampNeg) locs (cells + 1 + n.toNatClampNeg) (slots + n.toNatClampNeg + n.toNatClampNeg * k.toNatClampNeg) ∧
      ∀ t, Steps p.tables e below ((cb_gr (T.setVm U) cA cB n.toNatClampNeg k.toNatClampNeg (defaultValue ty) n.toNatClampNeg).setTop { g with pc := g.pc + 4, stack := .ref T.heap.size :: rest }) t → Steps p.tables e below (T.setTop g) t := by
  subst hg
  have hpl : e.platform.magicAccessors = ({} : Platform).magicAccessors := by rw [X.admits.platform]
  obtain ⟨cB, cA, kA, f1, -, gA, qA, f2⟩ := cb_over.mp hover
  obtain ⟨c9, kB, c8, f3, gB, qB⟩ := Cond.arrayClass_spec harr
  have e9 : c9 = cB := Option.some.inj (f3.symm.trans f1)
  rw [e9] at gB
  obtain ⟨c7, f4, hcl⟩ := Cond.classLink_spec hown hclink e.platform hpl
  have e7 : c7 = cA := Option.some.inj (f4.symm.trans f2)
  rw [e7] at hcl
  obtain ⟨hg₁, hwarm₁, hready₁⟩ := State.classEntry (e := e) X.warmed hcl
  generalize T.vm.noted g.method.cls index (.cls cA) = U at hg₁ hwarm₁ hready₁
  obtain ⟨kA', gA', eA⟩ := hwarm₁.alike.2.2 _ _ gA
  obtain ⟨kB', gB', eB⟩ := hwarm₁.alike.2.2 _ _ gB
  have qA' : kA'.kind = .array cB (.array ty) := by rw [eA]; exact qA
  have qB' : kB'.kind = .array c8 ty := by rw [eB]; exact qB
  obtain ⟨r1, r2⟩ := X.roomAbove hcells hslots
  have hlim := Launch.admits_arrayLengthLimit X.admits
  have hmax := Launch.admits_maxHeapBytes X.admits
  have XF := cb_gr_S (X.noted hwarm₁) cA cB n.toNatClampNeg k.toNatClampNeg (defaultValue ty) n.toNatClampNeg
  refine ⟨U, cA, cB, f2, f1, fun N z => ⟨(fun q hq => by cases hq), kA, gA, cB, qA⟩, XF, fun t ht => ?_⟩
  refine Steps.instr (c := _) (by simpa using X.here) ?_
  rw [hdg, hexec]
  show wp (multianewarray.sem index 2) _ _ e false [] (T.setTop g)
  unfold multianewarray.sem
  rw [wp_bind', W.resolveClassAt_links (t := T.setTop g) (State.method?_setTop g X.here.top) hg₁]
  show wp _ _ _ e false [] ((T.setVm U).setTop g)
  rw [wp_bind']
  refine (popN_top (args := [.int n, .int k]) (rest := rest) (show (T.setVm U).topJava?.isSome from X.here.top) hst).mpr ?_
  simp only [List.mapM_cons, List.mapM_nil, wp_bind', wp_pure']
  refine cb_wpM (S := (T.setVm U).setTop { g with stack := rest }) gA' qA' gB' qB' hn hk (by rw [hlim]; omega) (by rw [hmax]; exact hb1) (by rw [hlim]; omega) (by rw [hmax]; exact hb2) hf hv r1 r2 (fun d' acts' => ?_)
  rw [cb_gr_top]
  refine (_root_.Jvm.W.pushRef (d := d') (acts := acts') (Q := fun _ _ _ s₁ => ∀ acts, Steps p.tables e below (afterInstr e 4 (.ok () s₁ acts)).1 t) _).mpr ?_
  refine ⟨_, State.topJava?_setTop' _ XF.here.top, fun acts => ?_⟩
  rw [State.setTop_setTop, afterInstr_ok]
  exact ht
end CBH
/-! ===== BEGIN new T[n][m]: the outer array a place, the inner ones among the pooled ===== -/
/-- f, but v at every address of l -/
def vr_up {α : Type} (f : Nat → α) (l : List Nat) (v : α) : Nat → α := fun a => if a ∈ l then v else f a
theorem vr_up_in {α : Type} {f : Nat → α} {l : List Nat} {v : α} {a : Nat} (h : a ∈ l) : vr_up f l v a = v := if_pos h
theorem vr_up_ne {α : Type} {f : Nat → α} {l : List Nat} {v : α} {a : Nat} (h : a ∉ l) : vr_up f l v a = f a := if_neg h
theorem vr_rows {L l : List Nat} {f : Nat → va_E} {e : va_E} (h : ∀ a, a ∈ l → a ∉ L) : va_pl L f ++ l.map (fun a => (a, e)) = va_pl (L ++ l) (vr_up f l e) := by
  unfold va_pl
  rw [List.map_append]
  congr 1
  · apply List.map_congr_left
    intro a ha
    rw [vr_up_ne (fun q => h a q ha)]
  · apply List.map_congr_left
    intro a ha
    rw [vr_up_in ha]
theorem vr_lay {X rows : va_W} {x : Nat × va_E} {pl : va_W} {D : va_G} {cl : List vw_C} {H : Heap} (hP : va_P D cl (((X ++ pl) ++ [x]) ++ rows) H) : va_P D cl ((X ++ [x]) ++ (pl ++ rows)) H := by
  rw [List.append_assoc (X ++ pl)] at hP
  have h := va_P.swap hP
  rw [← List.append_assoc X] at h
  have h2 := va_P.swap h
  rw [List.append_assoc (X ++ [x])] at h2
  exact h2
theorem vr_layD {X rows : va_W} {x : Nat × va_E} {pl : va_W} {A : Nat → Prop} (hD : va_D A (((X ++ pl) ++ [x]) ++ rows)) : va_D A ((X ++ [x]) ++ (pl ++ rows)) := by
  rw [List.append_assoc (X ++ pl)] at hD
  have h := va_D.swap hD
  rw [← List.append_assoc X] at h
  have h2 := va_D.swap h
  rw [List.append_assoc (X ++ [x])] at h2
  exact h2
section VGM
variable {p : Program} {l : Launch} {e : Env} {R : Room} {s : State} {m : MethodId} {args : Array Value} {below : List Frame} {meth : Method} {c : Code} {H : Heap} {locs : List Loc} {cells slots : Nat} {Q : State → Prop}
variable {cc : ByteArray} {pc : Nat} {ls : Array Slot} {rest : List Value} {D : va_G} {cl : List vw_C} {A : Nat → Prop} {a : Nat} {tys : List (ClassId × FieldType)} {ws : va_W} {H0 : Heap}
theorem va_mna {X : va_W} {L : List Nat} {f : Nat → va_E} {cc : ByteArray} (hexec : p.tables.exec = Jvm.exec) (hb : c.code = cc) {own : String} {index : Nat} {ty : FieldType} {cy : ClassId} (hown : s.vm.findClass own = some m.cls) (hclink : (Cond.classLink own index ("[" ++ (FieldType.array ty).toString)).before args s = true) (hover : va_AOA ty s) (harr : (Cond.arrayClass ty).before args s = true) (hcy : s.vm.findClass (FieldType.array ty).toString = some cy)
    (hK : va_K D cl tys s) (hP : va_P D cl (X ++ va_pl L f) H) (hD : va_D A (X ++ va_pl L f)) (hS : va_S A H0 H locs) (hA : ∀ q, H0.size ≤ q → A q) {n k : Int32} {N' K' : Nat} {z : vp_A} (hn : ¬ n < 0) (hk : ¬ k < 0) (hN : n.toNatClampNeg = N') (hM : k.toNatClampNeg = K')
    (hb1 : N' * 4 ≤ 536870912) (hb2 : K' * componentBytes ty ≤ 536870912) (hb3 : K' ≤ 536870912) (hdf : fits ty (defaultValue ty) = true) (hdd : (defaultValue ty).isDefault = true) (hcells : cells + (1 + N') ≤ R.cells) (hslots : slots + (N' + N' * K') ≤ R.slots) (hz : ∀ c : ClassId, arrV c K' (fun _ => defaultValue ty) = vp_cell c z) (hdg : decode cc pc = .ok (.multianewarray index 2, 4))
    (kk : ∀ (q : Nat) (r : Nat → Nat) (cA : ClassId) (H1 : Heap), (∀ i j : Nat, i < N' → j < N' → r i = r j → i = j) → (∀ i : Nat, i < N' → r i ∉ L) → va_K D cl (tys ++ [(cA, .array ty)]) s →
      va_P D cl ((X ++ [(q, .inl (cA, N', .inr (.inr (.inr (.inr (fun i => if i < N' then some (r i) else none))))))]) ++ va_pl (L ++ (List.range N').map r) (vr_up f ((List.range N').map r) (.inl (cy, z)))) H1 → va_D A ((X ++ [(q, .inl (cA, N', .inr (.inr (.inr (.inr (fun i => if i < N' then some (r i) else none))))))]) ++ va_pl (L ++ (List.range N').map r) (vr_up f ((List.range N').map r) (.inl (cy, z)))) → va_S A H0 H1 locs →
      W p l e R s m args below meth c H1 locs (cells + 1 + N') (slots + N' + N' * K') Q (F0 m (pc + 4) ls (.ref q :: rest))) : W p l e R s m args below meth c H locs cells slots Q (F0 m pc ls (.int k :: .int n :: rest)) := by
  subst hN
  subst hM
  intro T hT Xs
  obtain ⟨vm₁, cA, comp, fA, fC, hAr, X', step⟩ := cb_multi Xs hexec hown hclink hover harr (g := F0 m pc ls (.int k :: .int n :: rest)) rfl (by rw [hb]; exact hdg) rfl hn hk hb1 hb2 hb3 hdf hdd hcells hslots
  have ec : some cy = some comp := hcy.symm.trans fC
  cases ec
  have hTh : (T.setVm vm₁).heap = H := hT
  obtain ⟨f1, f2, -, -, hold, hrow⟩ := cb_gr_F (T.setVm vm₁) cA cy n.toNatClampNeg k.toNatClampNeg (defaultValue ty) n.toNatClampNeg
  generalize cb_gr (T.setVm vm₁) cA cy n.toNatClampNeg k.toNatClampNeg (defaultValue ty) n.toNatClampNeg = F at X' step f1 f2 hold hrow
  rw [hTh] at f1 f2 hold hrow
  rw [hz] at hrow
  rw [show cb_gc cA n.toNatClampNeg H.size n.toNatClampNeg = vp_cell cA (n.toNatClampNeg, .inr (.inr (.inr (.inr (fun i => if i < n.toNatClampNeg then some (H.size + 1 + i) else none))))) from rfl] at f2
  have hlt : ∀ a, a ∈ L → a < H.size := fun a ha => by
    obtain ⟨k9, hk9⟩ := va_pl_get (X := X) (f := f) ha
    exact (hP k9 _ hk9).lt
  have hnl : ∀ i : Nat, i < n.toNatClampNeg → H.size + 1 + i ∉ L := fun i _ h => by
    have := hlt _ h
    omega
  have hnm : ∀ a, a ∈ (List.range n.toNatClampNeg).map (fun i => H.size + 1 + i) → a ∉ L := fun a ha h => by
    obtain ⟨i, -, rfl⟩ := List.mem_map.mp ha
    have := hlt _ h
    omega
  have hP0 : va_P D cl (X ++ va_pl L f) F.heap := hP.kept (fun k9 x hx => hold x.1 ((hP k9 x hx).lt))
  have hP1 : va_P D cl ((X ++ va_pl L f) ++ [(H.size, .inl (cA, n.toNatClampNeg, .inr (.inr (.inr (.inr (fun i => if i < n.toNatClampNeg then some (H.size + 1 + i) else none))))))]) F.heap := hP0.app (fun k9 x hx => by
    have h0 : k9 < 1 := (List.getElem?_eq_some_iff.mp hx).1
    rw [show k9 = 0 by omega] at hx
    cases hx
    exact f2)
  have hP2 : va_P D cl (((X ++ va_pl L f) ++ [(H.size, .inl (cA, n.toNatClampNeg, .inr (.inr (.inr (.inr (fun i => if i < n.toNatClampNeg then some (H.size + 1 + i) else none))))))]) ++ ((List.range n.toNatClampNeg).map (fun i => H.size + 1 + i)).map (fun a => (a, .inl (cy, z)))) F.heap := hP1.app (fun k9 x hx => by
    obtain ⟨a, ha, rfl⟩ := List.mem_map.mp (List.mem_of_getElem? hx)
    obtain ⟨i, hi, rfl⟩ := List.mem_map.mp ha
    exact hrow i (List.mem_range.mp hi))
  have hD2 : va_D A (((X ++ va_pl L f) ++ [(H.size, .inl (cA, n.toNatClampNeg, .inr (.inr (.inr (.inr (fun i => if i < n.toNatClampNeg then some (H.size + 1 + i) else none))))))]) ++ ((List.range n.toNatClampNeg).map (fun i => H.size + 1 + i)).map (fun a => (a, .inl (cy, z)))) := by
    have hD1 := hD.push (e := .inl (cA, n.toNatClampNeg, .inr (.inr (.inr (.inr (fun i => if i < n.toNatClampNeg then some (H.size + 1 + i) else none)))))) hP rfl (hA _ hS.1)
    generalize hW1 : (X ++ va_pl L f) ++ [(H.size, .inl (cA, n.toNatClampNeg, .inr (.inr (.inr (.inr (fun i => if i < n.toNatClampNeg then some (H.size + 1 + i) else none))))))] = W1 at hD1 hP1 ⊢
    have hle : ∀ (k9 : Nat) (x : Nat × va_E), W1[k9]? = some x → x.1 ≤ H.size := fun k9 x hx => by
      rw [← hW1] at hx
      by_cases hl : k9 < (X ++ va_pl L f).length
      · rw [List.getElem?_append_left hl] at hx
        exact Nat.le_of_lt ((hP k9 x hx).lt)
      · rw [List.getElem?_append_right (by omega)] at hx
        have h0 : k9 - (X ++ va_pl L f).length < 1 := (List.getElem?_eq_some_iff.mp hx).1
        rw [show k9 - (X ++ va_pl L f).length = 0 by omega] at hx
        cases hx
        exact Nat.le_refl _
    have hr : ∀ (k9 : Nat) (x : Nat × va_E), (((List.range n.toNatClampNeg).map (fun i => H.size + 1 + i)).map (fun a => ((a, .inl (cy, z)) : Nat × va_E)))[k9]? = some x → x.1 = H.size + 1 + k9 := fun k9 x hx => by
      rw [List.getElem?_map, List.getElem?_map] at hx
      by_cases h9 : k9 < n.toNatClampNeg
      · rw [List.getElem?_range h9] at hx
        cases hx
        rfl
      · have hn0 : (List.range n.toNatClampNeg)[k9]? = none := List.getElem?_eq_none (by rw [List.length_range]; omega)
        rw [hn0] at hx
        cases hx
    refine ⟨fun i j x y hi hj hxy => ?_, fun k9 x hx => ?_⟩
    · by_cases h1 : i < W1.length <;> by_cases h2 : j < W1.length
      · rw [List.getElem?_append_left h1] at hi
        rw [List.getElem?_append_left h2] at hj
        exact hD1.1 i j x y hi hj hxy
      · rw [List.getElem?_append_left h1] at hi
        rw [List.getElem?_append_right (by omega)] at hj
        have := hle _ _ hi
        have := hr _ _ hj
        omega
      · rw [List.getElem?_append_right (by omega)] at hi
        rw [List.getElem?_append_left h2] at hj
        have := hle _ _ hj
        have := hr _ _ hi
        omega
      · rw [List.getElem?_append_right (by omega)] at hi hj
        have := hr _ _ hi
        have := hr _ _ hj
        omega
    · by_cases h1 : k9 < W1.length
      · rw [List.getElem?_append_left h1] at hx
        exact hD1.2 k9 x hx
      · rw [List.getElem?_append_right (by omega)] at hx
        have := hr _ _ hx
        exact hA _ (by have := hS.1; omega)
  have hK2 : va_K D cl (tys ++ [(cA, .array ty)]) s := ⟨hK.1, fun k9 x hx => by
    by_cases hl : k9 < tys.length
    · rw [List.getElem?_append_left hl] at hx
      exact hK.2 k9 x hx
    · rw [List.getElem?_append_right (by omega)] at hx
      have h0 : k9 - tys.length < 1 := (List.getElem?_eq_some_iff.mp hx).1
      rw [show k9 - tys.length = 0 by omega] at hx
      cases hx
      exact ⟨hAr, fA⟩⟩
  obtain ⟨t, a1, b1⟩ := kk H.size (fun i => H.size + 1 + i) cA F.heap (fun i j _ _ h => by have h9 : H.size + 1 + i = H.size + 1 + j := h; omega) hnl hK2 (by rw [← vr_rows hnm]; exact vr_lay hP2) (by rw [← vr_rows hnm]; exact vr_layD hD2) ⟨by rw [f1]; have := hS.1; omega, fun x h1 h2 => (hold x (Nat.lt_of_lt_of_le h1 hS.1)).trans (hS.2.1 x h1 h2), hS.2.2⟩ F rfl X'
  refine ⟨t, step t ?_, b1⟩
  have e : T.heap.size = H.size := by rw [hT]
  rw [e]
  exact a1
end VGM
/-! ===== END ===== -/
theorem vr_pl {l : List Nat} {f : Nat → va_E} {v : va_E} : va_pl ([] ++ l) (vr_up f l v) = l.map (fun a => (a, v)) := by
  unfold va_pl
  rw [List.nil_append]
  apply List.map_congr_left
  intro a ha
  rw [vr_up_in ha]
theorem cb_pl0 {X : va_W} {f : Nat → va_E} : X ++ va_pl [] f = X := List.append_nil X
theorem cb_same {D : va_G} {cl : List vw_C} {tys : List (ClassId × FieldType)} {U : State} {i j : Nat} {a b : ClassId} {ty : FieldType} (hty : ∀ c, va_RA U c ty = (U.vm.findClass ("[" ++ ty.toString) = some c)) (hK : va_K D cl tys U) (hi : tys[i]? = some (a, ty)) (hj : tys[j]? = some (b, ty)) : a = b := by
  have h1 := (hK.2 i _ hi).2
  have h2 := (hK.2 j _ hj).2
  rw [hty] at h1 h2
  exact Option.some.inj (h1.symm.trans h2)
theorem cb_sameO {D : va_G} {cl : List vw_C} {tys : List (ClassId × FieldType)} {U : State} {i j : Nat} {a b : ClassId} {C : String} (hK : va_K D cl tys U) (hi : tys[i]? = some (a, .object C)) (hj : tys[j]? = some (b, .object C)) : a = b := by
  obtain ⟨-, -, -, -, -, h1⟩ := (hK.2 i _ hi).2
  obtain ⟨-, -, -, -, -, h2⟩ := (hK.2 j _ hj).2
  exact Option.some.inj (h1.symm.trans h2)
theorem cb_fI {D : va_G} {cl : List vw_C} {tys : List (ClassId × FieldType)} {U : State} {a : ClassId} (hK : va_K D cl tys U) (hi : tys[0]? = some (a, .int)) : U.vm.findClass (FieldType.array .int).toString = some a := (hK.2 0 _ hi).2
theorem vr_inner (c : ClassId) (k : Nat) : arrV c k (fun _ => defaultValue .int) = arrV c k (fun _ => .int 0) := rfl
def cb_rmc (d mc ms : Nat) : Room := { frames := d, cells := mc, slots := ms, locals := 38 * d }
