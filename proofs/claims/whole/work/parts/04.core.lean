/-! MY OWN LAYER: a fixed world of cells, whose ints are the memory M : cell -> place -> Int32; a judgement cb_J over it, one row an instruction. -/
abbrev cb_Geo : Type := va_G × (Nat → Nat) × (Nat → ClassId) × (Nat → Nat)
abbrev cb_Mem : Type := Nat → Nat → Int32
/-- a world: how many cells, what each is, the array classes -/
abbrev cb_Wd : Type := Nat × (cb_Geo → Nat → (Nat → Int32) → va_E) × (cb_Geo → List (ClassId × FieldType))
def cb_wl (w : cb_Wd) (g : cb_Geo) (M : cb_Mem) : va_W := (List.range w.1).map fun k => (g.2.1 k, w.2.1 g k (M k))
def cb_A (w : cb_Wd) (g : cb_Geo) : Nat → Prop := fun q => ∃ k, k < w.1 ∧ q = g.2.1 k
def cb_row (M : cb_Mem) (q : Nat) (r : Nat → Int32) : cb_Mem := fun k => if k = q then r else M k
def cb_up (M : cb_Mem) (q j : Nat) (v : Int32) : cb_Mem := cb_row M q (upd (M q) j v)
theorem cb_wl_get (w : cb_Wd) (g : cb_Geo) (M : cb_Mem) {q : Nat} (h : q < w.1) : (cb_wl w g M)[q]? = some (g.2.1 q, w.2.1 g q (M q)) := by
  unfold cb_wl
  rw [List.getElem?_map, List.getElem?_range h]
  rfl
theorem cb_wl_len (w : cb_Wd) (g : cb_Geo) (M : cb_Mem) : (cb_wl w g M).length = w.1 := by
  unfold cb_wl
  rw [List.length_map, List.length_range]
theorem cb_wl_set (w : cb_Wd) (g : cb_Geo) (M : cb_Mem) {q : Nat} (h : q < w.1) (r : Nat → Int32) : (cb_wl w g M).set q (g.2.1 q, w.2.1 g q r) = cb_wl w g (cb_row M q r) := by
  apply List.ext_getElem?
  intro i
  rw [List.getElem?_set]
  by_cases e : q = i
  · subst e
    rw [if_pos rfl, if_pos (by rw [cb_wl_len]; exact h), cb_wl_get w g _ h]
    simp [cb_row]
  · rw [if_neg e]
    by_cases hi : i < w.1
    · rw [cb_wl_get w g _ hi, cb_wl_get w g _ hi]
      simp [cb_row, Ne.symm e]
    · rw [List.getElem?_eq_none (by rw [cb_wl_len]; omega), List.getElem?_eq_none (by rw [cb_wl_len]; omega)]
theorem cb_wl_D {w : cb_Wd} {g : cb_Geo} {M : cb_Mem} (h : ∀ i j, i < w.1 → j < w.1 → g.2.1 i = g.2.1 j → i = j) : va_D (cb_A w g) (cb_wl w g M) := by
  have key : ∀ (k : Nat) (x : Nat × va_E), (cb_wl w g M)[k]? = some x → k < w.1 ∧ x.1 = g.2.1 k := by
    intro k x hx
    have hk : k < w.1 := by
      have := (List.getElem?_eq_some_iff.mp hx).1
      rw [cb_wl_len] at this
      exact this
    rw [cb_wl_get w g M hk] at hx
    exact ⟨hk, by rw [← Option.some.inj hx]⟩
  refine ⟨fun i j x y hi hj hxy => ?_, fun k x hx => ?_⟩
  · obtain ⟨h1, h2⟩ := key i x hi
    obtain ⟨h3, h4⟩ := key j y hj
    exact h i j h1 h3 (by rw [← h2, ← h4]; exact hxy)
  · obtain ⟨h1, h2⟩ := key k x hx
    exact ⟨k, h1, h2⟩
/-! words: one list for all methods -/
def cb_ws : List Cond := lw_tbl.filter goodWord
theorem cb_wm (i : Nat) {c : Cond} (h : lw_tbl[i]? = some c) (hg : goodWord c = true) : c ∈ cb_ws := List.mem_filter.mpr ⟨List.mem_of_getElem? h, hg⟩
theorem cb_good {big : List Cond} (hb : ∀ x ∈ cb_ws, x ∈ big) {ws : List Cond} (h : ∀ x ∈ ws, x ∈ cb_ws) : GoodIn big ws := fun x hx => ⟨hb x (h x hx), good_of_word (List.mem_filter.mp (h x hx)).2⟩
theorem cb_in_cons {c : Cond} (hc : c ∈ cb_ws) : ∀ x ∈ c :: cb_ws, x ∈ cb_ws := fun x hx => (List.mem_cons.mp hx).elim (fun e => e ▸ hc) id
def cb_rm (d : Nat) : Room := { frames := d, cells := 0, slots := 0, locals := 38 * d }
theorem cb_rm_ok {d d' nL : Nat} (h : d' < d) (hn : nL ≤ 19) : (cb_rm d').frames + 1 ≤ (cb_rm d).frames ∧ 8 + (nL + 11) + (cb_rm d').locals ≤ (cb_rm d).locals := by
  refine ⟨h, ?_⟩
  show 8 + (nL + 11) + 38 * d' ≤ 38 * d
  omega
/-! constants outside the world: strings, static arrays -/
def cb_kept : List Int32 := [0, 1, 2, 4, 8, 16, 32, 64, 128, 3, 5, 9, 17, 33, 65, 129, 6, 10, 18, 34, 66, 130, 12, 20, 36, 68, 132, 24, 40, 72, 136, 48, 80, 144, 96, 160, 192]
def cb_ripe : List Int32 := [3, 5, 1]
def cb_byt : List (List Int32) := [[115, 114, 112], [115, 114, 112, 97]]
def cb_nest : List Cond := lw_tbl.filter fun c => match c with
  | .methodLinkNest _ _ _ _ => true
  | .fieldLinkNest _ _ _ _ _ _ => true
  | _ => false
def cb_X (g : cb_Geo) (A : Nat → Prop) (U : State) (H : Heap) : Prop :=
  va_Z RX6 "KEPT_OFF" "[I" (.ref (g.2.2.2 4)) A U H ∧ va_T .int (g.2.2.2 4) 37 (fun j => .int (cb_kept.getD j 0)) A U H ∧
  va_Z RX6 "RIPE_DAYS" "[I" (.ref (g.2.2.2 5)) A U H ∧ va_T .int (g.2.2.2 5) 3 (fun j => .int (cb_ripe.getD j 0)) A U H ∧
  va_Z "java/lang/String" "COMPACT_STRINGS" "Z" (.int 1) A U H ∧
  vk_S 2 [3, 4] cb_byt (fun i => g.2.2.2 (2 * i)) (fun i => g.2.2.2 (2 * i + 1)) A U H
theorem cb_X.moved {g : cb_Geo} {A : Nat → Prop} {u U : State} {H : Heap} (hvm : u.vm.Alike U.vm) (h : cb_X g A u H) : cb_X g A U H :=
  ⟨va_Z.moved hvm h.1, va_T.moved hvm h.2.1, va_Z.moved hvm h.2.2.1, va_T.moved hvm h.2.2.2.1, va_Z.moved hvm h.2.2.2.2.1, vk_S.moved hvm h.2.2.2.2.2⟩
theorem cb_X.kept {g : cb_Geo} {A : Nat → Prop} {U : State} {H H1 : Heap} (h : cb_X g A U H) (hq : ∀ a : Nat, a < H.size → ¬ A a → H1[a]? = H[a]?) : cb_X g A U H1 :=
  ⟨h.1.kept hq, h.2.1.kept hq, h.2.2.1.kept hq, h.2.2.2.1.kept hq, h.2.2.2.2.1.kept hq, h.2.2.2.2.2.kept hq⟩
theorem cb_X.narrow {g : cb_Geo} {A B : Nat → Prop} {U : State} {H : Heap} (h : cb_X g A U H) (hAB : ∀ q, B q → A q) : cb_X g B U H :=
  ⟨h.1.narrow hAB, h.2.1.narrow hAB, h.2.2.1.narrow hAB, h.2.2.2.1.narrow hAB, h.2.2.2.2.1.narrow hAB, h.2.2.2.2.2.narrow hAB⟩
/-- what holds of a state at every entry -/
def cb_B (w : cb_Wd) (g : cb_Geo) (U : State) : Prop := va_K g.1 vwCl (w.2.2 g) U ∧ (∀ x ∈ cb_nest, va_Nw x U) ∧ cb_X g (cb_A w g) U U.heap ∧ ∀ i j, i < w.1 → j < w.1 → g.2.1 i = g.2.1 j → i = j
theorem cb_nest_kind {x : Cond} (h : x ∈ cb_nest) : (∃ a i y b, x = .methodLinkNest a i y b) ∨ ∃ a i b n d k, x = .fieldLinkNest a i b n d k := by
  have h2 := (List.mem_filter.mp h).2
  cases x <;> first | exact Or.inl ⟨_, _, _, _, rfl⟩ | exact Or.inr ⟨_, _, _, _, _, _, rfl⟩ | (simp at h2)
theorem cb_B.warm {w : cb_Wd} {g : cb_Geo} {s U : State} {locs : List Loc} (hB : cb_B w g s) (hS : va_S (cb_A w g) s.heap U.heap locs) (hW : s.WarmedH U.vm) : cb_B w g U := by
  refine ⟨va_K.moved hW.alike hB.1, fun x hx => ?_, cb_X.kept (cb_X.moved hW.alike hB.2.2.1) hS.2.1, hB.2.2.2⟩
  have h := hB.2.1 x hx
  rcases cb_nest_kind hx with ⟨a, i, y, b, rfl⟩ | ⟨a, i, b, n, d, k, rfl⟩
  · exact va_Nw.warmM hW h
  · exact va_Nw.warmF hW h
theorem cb_B.calling {w : cb_Wd} {g : cb_Geo} {U : State} (h : cb_B w g U) (f : JFrame) (mk : MethodId) (a : Array Value) : cb_B w g (U.calling f mk a) := by
  refine ⟨va_K.moved (u := U) (U := U.calling f mk a) (Vm.Alike.refl U.vm) h.1, fun x hx => ?_, cb_X.moved (u := U) (U := U.calling f mk a) (Vm.Alike.refl U.vm) h.2.2.1, h.2.2.2⟩
  have h1 := h.2.1 x hx
  rcases cb_nest_kind hx with ⟨_, _, _, _, rfl⟩ | ⟨_, _, _, _, _, _, rfl⟩
  · exact va_Nw.same rfl (u := U) rfl h1
  · exact va_Nw.same rfl (u := U) rfl h1
def cb_Pc (w : cb_Wd) (g : cb_Geo) (As : List Value) (M : cb_Mem) : Array Value → State → Prop := va_Pc As (fun U => cb_B w g U ∧ va_P g.1 vwCl (cb_wl w g M) U.heap)
theorem cb_Pc.blind {w : cb_Wd} {g : cb_Geo} {As : List Value} {M : cb_Mem} : FrameBlind (cb_Pc w g As M) := fun a U f mk q => ⟨q.1, q.2.1.calling f mk a, q.2.2⟩
def cb_Qi (w : cb_Wd) (g : cb_Geo) (r : Int32) (M : cb_Mem) : Array Value → State → Outcome → State → Prop := va_Qi (fun x (_ : Unit) => x = r) (fun _ t => va_P g.1 vwCl (cb_wl w g M) t.heap) (cb_A w g)
def cb_Ql (w : cb_Wd) (g : cb_Geo) (r : Int64) (M : cb_Mem) : Array Value → State → Outcome → State → Prop := va_Ql (fun x (_ : Unit) => x = r) (fun _ t => va_P g.1 vwCl (cb_wl w g M) t.heap) (cb_A w g)
def cb_Qv (w : cb_Wd) (g : cb_Geo) (M : cb_Mem) : Array Value → State → Outcome → State → Prop := va_Qv (fun (_ : Unit) => True) (fun _ t => va_P g.1 vwCl (cb_wl w g M) t.heap) (cb_A w g)
/-- the machine at a method, as one thing -/
abbrev cb_Gam : Type := (Program × Launch × Env × Room) × (State × MethodId × Array Value × List Frame) × Method × Code × (State → Prop)
def cb_C (w : cb_Wd) (g : cb_Geo) (γ : cb_Gam) (own : String) (cc : ByteArray) (nL : Nat) (ret : Option FieldType) (d : Nat) (l : Launch) (Qc : Array Value → State → Outcome → State → Prop) : Prop :=
  γ.1.1.tables.exec = Jvm.exec ∧ γ.2.2.2.1.code = cc ∧ γ.2.2.2.1.maxLocals = nL ∧ γ.2.1.1.vm.findClass own = some γ.2.1.2.1.cls ∧ (∀ x ∈ cb_ws, x.before γ.2.1.2.2.1 γ.2.1.1 = true) ∧ cb_B w g γ.2.1.1 ∧ γ.2.2.1.sig.returnType = ret ∧ γ.2.2.1.locks = false ∧ γ.1.2.2.2 = cb_rm d ∧ γ.1.2.1 = l ∧
  γ.2.2.2.2 = MQ γ.2.1.2.2.2 Qc γ.2.1.2.2.1 γ.2.1.1 0 0 (cb_A w g)
def cb_J (w : cb_Wd) (g : cb_Geo) (γ : cb_Gam) (nL : Nat) (M : cb_Mem) (pc : Nat) (lv : List (Nat × Value)) (st : List Value) : Prop :=
  ∀ (H : Heap) (locs : List Loc) (ls : Array Slot), va_P g.1 vwCl (cb_wl w g M) H → va_S (cb_A w g) γ.2.1.1.heap H locs → lv_has ls nL lv →
    W γ.1.1 γ.1.2.1 γ.1.2.2.1 γ.1.2.2.2 γ.2.1.1 γ.2.1.2.1 γ.2.1.2.2.1 γ.2.1.2.2.2 γ.2.2.1 γ.2.2.2.1 H locs 0 0 γ.2.2.2.2 (F0 γ.2.1.2.1 pc ls st)
theorem cb_met {l : Launch} {w : cb_Wd} {g : cb_Geo} {y : MethodName} {cc : ByteArray} {nL d : Nat} {ret : Option FieldType} {As : List Value} {M : cb_Mem} {Qc : Array Value → State → Outcome → State → Prop} (hy : plainName y.cls = true) (hc : Cond.code y cc nL ret ∈ cb_ws) (hlen : (lg_sl As).length ≤ nL)
    (k : ∀ γ : cb_Gam, cb_C w g γ y.cls cc nL ret d l Qc → cb_J w g γ nL M 0 (lv_args 0 As) []) : Met l y (.code y cc nL ret :: cb_ws) (cb_rm d) (cb_Pc w g As M) Qc 0 0 (cb_A w g) := by
  refine Met.ofW (cc := cc) (maxL := nL) (ret := ret) hy rfl ?_
  intro p e s m args below meth c s₁ B hml hv
  obtain ⟨rfl, hB, hP⟩ := hv
  have hts := atoms_spec (ws := Cond.code y cc nL ret :: cb_ws) B.pre
  have hown : s.vm.findClass y.cls = some m.cls := findClass_of_methodNamed B.named
  have K := k ((p, l, e, cb_rm d), (s, m, As.toArray, below), meth, c, MQ below Qc As.toArray s 0 0 (cb_A w g)) ⟨B.exec, B.bytes, hml, hown, fun x hx => hts x (List.mem_cons_of_mem _ hx), hB, B.returns, B.notSynchronized, rfl, rfl, rfl⟩
  rw [lg_entry_eq]
  exact K s.heap [] _ hP va_S.rf (lv_entry As hlen)
