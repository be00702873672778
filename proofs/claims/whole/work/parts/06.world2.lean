def cb_fuel : Nat := 2000
theorem cb_T {α : Type} {c : Prop} [Decidable c] {a b o : α} (hc : c) (h : (if c then a else b) = o) : a = o := by rw [if_pos hc] at h; exact h
theorem cb_F {α : Type} {c : Prop} [Decidable c] {a b o : α} (hc : ¬ c) (h : (if c then a else b) = o) : b = o := by rw [if_neg hc] at h; exact h
theorem cb_l {α β : Type} {x : β} {f : β → α} {o : α} (h : cb_let x f = o) : ∃ v, v = x ∧ f v = o := ⟨x, rfl, h⟩
def cb_let2 {α β γ : Type} (x : β × γ) (f : β → γ → α) : α := f x.1 x.2
theorem cb_l2 {α β γ : Type} {x : β × γ} {f : β → γ → α} {o : α} (h : cb_let2 x f = o) : ∃ v w, (v, w) = x ∧ f v w = o := ⟨x.1, x.2, rfl, h⟩
def cb_bind2 {α1 α2 β : Type} (x : Option (α1 × α2)) (f : α1 → α2 → Option β) : Option β := x.bind fun z => f z.1 z.2
theorem cb_b2 {α1 α2 β : Type} {x : Option (α1 × α2)} {f : α1 → α2 → Option β} {o : β} (h : cb_bind2 x f = some o) : ∃ a1 a2, x = some (a1, a2) ∧ f a1 a2 = some o := by
  obtain ⟨z, h1, h2⟩ := cb_b h
  exact ⟨z.1, z.2, h1, h2⟩
theorem cb_p2 {α1 α2 : Type} {a1 b1 : α1} {a2 b2 : α2} (h : (a1, a2) = (b1, b2)) : a1 = b1 ∧ a2 = b2 := by
  cases h
  exact ⟨rfl, rfl⟩
theorem cb_i2 {α1 α2 : Type} {a1 b1 : α1} {a2 b2 : α2} (h : some (a1, a2) = some (b1, b2)) : a1 = b1 ∧ a2 = b2 := cb_p2 (Option.some.inj h)
def cb_bs2 {α1 α2 β ρ : Type} (x : Option (ρ ⊕ (α1 × α2))) (r : ρ → Option β) (f : α1 → α2 → Option β) : Option β := cb_bs x r fun z => f z.1 z.2
theorem cb_s2 {α1 α2 β ρ : Type} {x : Option (ρ ⊕ (α1 × α2))} {r : ρ → Option β} {f : α1 → α2 → Option β} {o : β} (h : cb_bs2 x r f = some o) : ∃ z, x = some z ∧ (∀ u, z = .inl u → r u = some o) ∧ ∀ a1 a2, z = .inr (a1, a2) → f a1 a2 = some o := by
  obtain ⟨z, h1, h2, h3⟩ := cb_s h
  exact ⟨z, h1, h2, fun a1 a2 hz => h3 _ hz⟩
def cb_bind3 {α1 α2 α3 β : Type} (x : Option (α1 × α2 × α3)) (f : α1 → α2 → α3 → Option β) : Option β := x.bind fun z => f z.1 z.2.1 z.2.2
theorem cb_b3 {α1 α2 α3 β : Type} {x : Option (α1 × α2 × α3)} {f : α1 → α2 → α3 → Option β} {o : β} (h : cb_bind3 x f = some o) : ∃ a1 a2 a3, x = some (a1, a2, a3) ∧ f a1 a2 a3 = some o := by
  obtain ⟨z, h1, h2⟩ := cb_b h
  exact ⟨z.1, z.2.1, z.2.2, h1, h2⟩
theorem cb_p3 {α1 α2 α3 : Type} {a1 b1 : α1} {a2 b2 : α2} {a3 b3 : α3} (h : (a1, a2, a3) = (b1, b2, b3)) : a1 = b1 ∧ a2 = b2 ∧ a3 = b3 := by
  cases h
  exact ⟨rfl, rfl, rfl⟩
theorem cb_i3 {α1 α2 α3 : Type} {a1 b1 : α1} {a2 b2 : α2} {a3 b3 : α3} (h : some (a1, a2, a3) = some (b1, b2, b3)) : a1 = b1 ∧ a2 = b2 ∧ a3 = b3 := cb_p3 (Option.some.inj h)
def cb_bs3 {α1 α2 α3 β ρ : Type} (x : Option (ρ ⊕ (α1 × α2 × α3))) (r : ρ → Option β) (f : α1 → α2 → α3 → Option β) : Option β := cb_bs x r fun z => f z.1 z.2.1 z.2.2
theorem cb_s3 {α1 α2 α3 β ρ : Type} {x : Option (ρ ⊕ (α1 × α2 × α3))} {r : ρ → Option β} {f : α1 → α2 → α3 → Option β} {o : β} (h : cb_bs3 x r f = some o) : ∃ z, x = some z ∧ (∀ u, z = .inl u → r u = some o) ∧ ∀ a1 a2 a3, z = .inr (a1, a2, a3) → f a1 a2 a3 = some o := by
  obtain ⟨z, h1, h2, h3⟩ := cb_s h
  exact ⟨z, h1, h2, fun a1 a2 a3 hz => h3 _ hz⟩
def cb_bind4 {α1 α2 α3 α4 β : Type} (x : Option (α1 × α2 × α3 × α4)) (f : α1 → α2 → α3 → α4 → Option β) : Option β := x.bind fun z => f z.1 z.2.1 z.2.2.1 z.2.2.2
theorem cb_b4 {α1 α2 α3 α4 β : Type} {x : Option (α1 × α2 × α3 × α4)} {f : α1 → α2 → α3 → α4 → Option β} {o : β} (h : cb_bind4 x f = some o) : ∃ a1 a2 a3 a4, x = some (a1, a2, a3, a4) ∧ f a1 a2 a3 a4 = some o := by
  obtain ⟨z, h1, h2⟩ := cb_b h
  exact ⟨z.1, z.2.1, z.2.2.1, z.2.2.2, h1, h2⟩
theorem cb_p4 {α1 α2 α3 α4 : Type} {a1 b1 : α1} {a2 b2 : α2} {a3 b3 : α3} {a4 b4 : α4} (h : (a1, a2, a3, a4) = (b1, b2, b3, b4)) : a1 = b1 ∧ a2 = b2 ∧ a3 = b3 ∧ a4 = b4 := by
  cases h
  exact ⟨rfl, rfl, rfl, rfl⟩
theorem cb_i4 {α1 α2 α3 α4 : Type} {a1 b1 : α1} {a2 b2 : α2} {a3 b3 : α3} {a4 b4 : α4} (h : some (a1, a2, a3, a4) = some (b1, b2, b3, b4)) : a1 = b1 ∧ a2 = b2 ∧ a3 = b3 ∧ a4 = b4 := cb_p4 (Option.some.inj h)
def cb_bs4 {α1 α2 α3 α4 β ρ : Type} (x : Option (ρ ⊕ (α1 × α2 × α3 × α4))) (r : ρ → Option β) (f : α1 → α2 → α3 → α4 → Option β) : Option β := cb_bs x r fun z => f z.1 z.2.1 z.2.2.1 z.2.2.2
theorem cb_s4 {α1 α2 α3 α4 β ρ : Type} {x : Option (ρ ⊕ (α1 × α2 × α3 × α4))} {r : ρ → Option β} {f : α1 → α2 → α3 → α4 → Option β} {o : β} (h : cb_bs4 x r f = some o) : ∃ z, x = some z ∧ (∀ u, z = .inl u → r u = some o) ∧ ∀ a1 a2 a3 a4, z = .inr (a1, a2, a3, a4) → f a1 a2 a3 a4 = some o := by
  obtain ⟨z, h1, h2, h3⟩ := cb_s h
  exact ⟨z, h1, h2, fun a1 a2 a3 a4 hz => h3 _ hz⟩
def cb_bind5 {α1 α2 α3 α4 α5 β : Type} (x : Option (α1 × α2 × α3 × α4 × α5)) (f : α1 → α2 → α3 → α4 → α5 → Option β) : Option β := x.bind fun z => f z.1 z.2.1 z.2.2.1 z.2.2.2.1 z.2.2.2.2
theorem cb_b5 {α1 α2 α3 α4 α5 β : Type} {x : Option (α1 × α2 × α3 × α4 × α5)} {f : α1 → α2 → α3 → α4 → α5 → Option β} {o : β} (h : cb_bind5 x f = some o) : ∃ a1 a2 a3 a4 a5, x = some (a1, a2, a3, a4, a5) ∧ f a1 a2 a3 a4 a5 = some o := by
  obtain ⟨z, h1, h2⟩ := cb_b h
  exact ⟨z.1, z.2.1, z.2.2.1, z.2.2.2.1, z.2.2.2.2, h1, h2⟩
theorem cb_p5 {α1 α2 α3 α4 α5 : Type} {a1 b1 : α1} {a2 b2 : α2} {a3 b3 : α3} {a4 b4 : α4} {a5 b5 : α5} (h : (a1, a2, a3, a4, a5) = (b1, b2, b3, b4, b5)) : a1 = b1 ∧ a2 = b2 ∧ a3 = b3 ∧ a4 = b4 ∧ a5 = b5 := by
  cases h
  exact ⟨rfl, rfl, rfl, rfl, rfl⟩
theorem cb_i5 {α1 α2 α3 α4 α5 : Type} {a1 b1 : α1} {a2 b2 : α2} {a3 b3 : α3} {a4 b4 : α4} {a5 b5 : α5} (h : some (a1, a2, a3, a4, a5) = some (b1, b2, b3, b4, b5)) : a1 = b1 ∧ a2 = b2 ∧ a3 = b3 ∧ a4 = b4 ∧ a5 = b5 := cb_p5 (Option.some.inj h)
def cb_bs5 {α1 α2 α3 α4 α5 β ρ : Type} (x : Option (ρ ⊕ (α1 × α2 × α3 × α4 × α5))) (r : ρ → Option β) (f : α1 → α2 → α3 → α4 → α5 → Option β) : Option β := cb_bs x r fun z => f z.1 z.2.1 z.2.2.1 z.2.2.2.1 z.2.2.2.2
theorem cb_s5 {α1 α2 α3 α4 α5 β ρ : Type} {x : Option (ρ ⊕ (α1 × α2 × α3 × α4 × α5))} {r : ρ → Option β} {f : α1 → α2 → α3 → α4 → α5 → Option β} {o : β} (h : cb_bs5 x r f = some o) : ∃ z, x = some z ∧ (∀ u, z = .inl u → r u = some o) ∧ ∀ a1 a2 a3 a4 a5, z = .inr (a1, a2, a3, a4, a5) → f a1 a2 a3 a4 a5 = some o := by
  obtain ⟨z, h1, h2, h3⟩ := cb_s h
  exact ⟨z, h1, h2, fun a1 a2 a3 a4 a5 hz => h3 _ hz⟩
def cb_bind6 {α1 α2 α3 α4 α5 α6 β : Type} (x : Option (α1 × α2 × α3 × α4 × α5 × α6)) (f : α1 → α2 → α3 → α4 → α5 → α6 → Option β) : Option β := x.bind fun z => f z.1 z.2.1 z.2.2.1 z.2.2.2.1 z.2.2.2.2.1 z.2.2.2.2.2
theorem cb_b6 {α1 α2 α3 α4 α5 α6 β : Type} {x : Option (α1 × α2 × α3 × α4 × α5 × α6)} {f : α1 → α2 → α3 → α4 → α5 → α6 → Option β} {o : β} (h : cb_bind6 x f = some o) : ∃ a1 a2 a3 a4 a5 a6, x = some (a1, a2, a3, a4, a5, a6) ∧ f a1 a2 a3 a4 a5 a6 = some o := by
  obtain ⟨z, h1, h2⟩ := cb_b h
  exact ⟨z.1, z.2.1, z.2.2.1, z.2.2.2.1, z.2.2.2.2.1, z.2.2.2.2.2, h1, h2⟩
theorem cb_p6 {α1 α2 α3 α4 α5 α6 : Type} {a1 b1 : α1} {a2 b2 : α2} {a3 b3 : α3} {a4 b4 : α4} {a5 b5 : α5} {a6 b6 : α6} (h : (a1, a2, a3, a4, a5, a6) = (b1, b2, b3, b4, b5, b6)) : a1 = b1 ∧ a2 = b2 ∧ a3 = b3 ∧ a4 = b4 ∧ a5 = b5 ∧ a6 = b6 := by
  cases h
  exact ⟨rfl, rfl, rfl, rfl, rfl, rfl⟩
theorem cb_i6 {α1 α2 α3 α4 α5 α6 : Type} {a1 b1 : α1} {a2 b2 : α2} {a3 b3 : α3} {a4 b4 : α4} {a5 b5 : α5} {a6 b6 : α6} (h : some (a1, a2, a3, a4, a5, a6) = some (b1, b2, b3, b4, b5, b6)) : a1 = b1 ∧ a2 = b2 ∧ a3 = b3 ∧ a4 = b4 ∧ a5 = b5 ∧ a6 = b6 := cb_p6 (Option.some.inj h)
def cb_bs6 {α1 α2 α3 α4 α5 α6 β ρ : Type} (x : Option (ρ ⊕ (α1 × α2 × α3 × α4 × α5 × α6))) (r : ρ → Option β) (f : α1 → α2 → α3 → α4 → α5 → α6 → Option β) : Option β := cb_bs x r fun z => f z.1 z.2.1 z.2.2.1 z.2.2.2.1 z.2.2.2.2.1 z.2.2.2.2.2
theorem cb_s6 {α1 α2 α3 α4 α5 α6 β ρ : Type} {x : Option (ρ ⊕ (α1 × α2 × α3 × α4 × α5 × α6))} {r : ρ → Option β} {f : α1 → α2 → α3 → α4 → α5 → α6 → Option β} {o : β} (h : cb_bs6 x r f = some o) : ∃ z, x = some z ∧ (∀ u, z = .inl u → r u = some o) ∧ ∀ a1 a2 a3 a4 a5 a6, z = .inr (a1, a2, a3, a4, a5, a6) → f a1 a2 a3 a4 a5 a6 = some o := by
  obtain ⟨z, h1, h2, h3⟩ := cb_s h
  exact ⟨z, h1, h2, fun a1 a2 a3 a4 a5 a6 hz => h3 _ hz⟩
def cb_bind7 {α1 α2 α3 α4 α5 α6 α7 β : Type} (x : Option (α1 × α2 × α3 × α4 × α5 × α6 × α7)) (f : α1 → α2 → α3 → α4 → α5 → α6 → α7 → Option β) : Option β := x.bind fun z => f z.1 z.2.1 z.2.2.1 z.2.2.2.1 z.2.2.2.2.1 z.2.2.2.2.2.1 z.2.2.2.2.2.2
theorem cb_b7 {α1 α2 α3 α4 α5 α6 α7 β : Type} {x : Option (α1 × α2 × α3 × α4 × α5 × α6 × α7)} {f : α1 → α2 → α3 → α4 → α5 → α6 → α7 → Option β} {o : β} (h : cb_bind7 x f = some o) : ∃ a1 a2 a3 a4 a5 a6 a7, x = some (a1, a2, a3, a4, a5, a6, a7) ∧ f a1 a2 a3 a4 a5 a6 a7 = some o := by
  obtain ⟨z, h1, h2⟩ := cb_b h
  exact ⟨z.1, z.2.1, z.2.2.1, z.2.2.2.1, z.2.2.2.2.1, z.2.2.2.2.2.1, z.2.2.2.2.2.2, h1, h2⟩
theorem cb_p7 {α1 α2 α3 α4 α5 α6 α7 : Type} {a1 b1 : α1} {a2 b2 : α2} {a3 b3 : α3} {a4 b4 : α4} {a5 b5 : α5} {a6 b6 : α6} {a7 b7 : α7} (h : (a1, a2, a3, a4, a5, a6, a7) = (b1, b2, b3, b4, b5, b6, b7)) : a1 = b1 ∧ a2 = b2 ∧ a3 = b3 ∧ a4 = b4 ∧ a5 = b5 ∧ a6 = b6 ∧ a7 = b7 := by
  cases h
  exact ⟨rfl, rfl, rfl, rfl, rfl, rfl, rfl⟩
theorem cb_i7 {α1 α2 α3 α4 α5 α6 α7 : Type} {a1 b1 : α1} {a2 b2 : α2} {a3 b3 : α3} {a4 b4 : α4} {a5 b5 : α5} {a6 b6 : α6} {a7 b7 : α7} (h : some (a1, a2, a3, a4, a5, a6, a7) = some (b1, b2, b3, b4, b5, b6, b7)) : a1 = b1 ∧ a2 = b2 ∧ a3 = b3 ∧ a4 = b4 ∧ a5 = b5 ∧ a6 = b6 ∧ a7 = b7 := cb_p7 (Option.some.inj h)
def cb_bs7 {α1 α2 α3 α4 α5 α6 α7 β ρ : Type} (x : Option (ρ ⊕ (α1 × α2 × α3 × α4 × α5 × α6 × α7))) (r : ρ → Option β) (f : α1 → α2 → α3 → α4 → α5 → α6 → α7 → Option β) : Option β := cb_bs x r fun z => f z.1 z.2.1 z.2.2.1 z.2.2.2.1 z.2.2.2.2.1 z.2.2.2.2.2.1 z.2.2.2.2.2.2
theorem cb_s7 {α1 α2 α3 α4 α5 α6 α7 β ρ : Type} {x : Option (ρ ⊕ (α1 × α2 × α3 × α4 × α5 × α6 × α7))} {r : ρ → Option β} {f : α1 → α2 → α3 → α4 → α5 → α6 → α7 → Option β} {o : β} (h : cb_bs7 x r f = some o) : ∃ z, x = some z ∧ (∀ u, z = .inl u → r u = some o) ∧ ∀ a1 a2 a3 a4 a5 a6 a7, z = .inr (a1, a2, a3, a4, a5, a6, a7) → f a1 a2 a3 a4 a5 a6 a7 = some o := by
  obtain ⟨z, h1, h2, h3⟩ := cb_s h
  exact ⟨z, h1, h2, fun a1 a2 a3 a4 a5 a6 a7 hz => h3 _ hz⟩
theorem cb_k1 {α1 β : Type} {K k : α1 → β} (e : k = K) {a1 : α1} {o : β} (h : k a1 = o) : K a1 = o := by rw [← e]; exact h
theorem cb_k2 {α1 α2 β : Type} {K k : α1 → α2 → β} (e : k = K) {a1 : α1} {a2 : α2} {o : β} (h : k a1 a2 = o) : K a1 a2 = o := by rw [← e]; exact h
theorem cb_k3 {α1 α2 α3 β : Type} {K k : α1 → α2 → α3 → β} (e : k = K) {a1 : α1} {a2 : α2} {a3 : α3} {o : β} (h : k a1 a2 a3 = o) : K a1 a2 a3 = o := by rw [← e]; exact h
theorem cb_k4 {α1 α2 α3 α4 β : Type} {K k : α1 → α2 → α3 → α4 → β} (e : k = K) {a1 : α1} {a2 : α2} {a3 : α3} {a4 : α4} {o : β} (h : k a1 a2 a3 a4 = o) : K a1 a2 a3 a4 = o := by rw [← e]; exact h
theorem cb_k5 {α1 α2 α3 α4 α5 β : Type} {K k : α1 → α2 → α3 → α4 → α5 → β} (e : k = K) {a1 : α1} {a2 : α2} {a3 : α3} {a4 : α4} {a5 : α5} {o : β} (h : k a1 a2 a3 a4 a5 = o) : K a1 a2 a3 a4 a5 = o := by rw [← e]; exact h
section CBR3
variable {w : cb_Wd} {g : cb_Geo} {γ : cb_Gam} {own : String} {cc : ByteArray} {nL : Nat} {ret : Option FieldType} {dp : Nat} {l : Launch} {Qc : Array Value → State → Outcome → State → Prop} {M : cb_Mem} {pc : Nat} {lv lv' : List (Nat × Value)} {st : List Value}
theorem cj_topi {x e : Int32} (h : x = e) (k : cb_J w g γ nL M pc lv (.int x :: st)) : cb_J w g γ nL M pc lv (.int e :: st) := by subst h; exact k
theorem cj_topl {x e : Int64} (h : x = e) (k : cb_J w g γ nL M pc lv (.long x :: st)) : cb_J w g γ nL M pc lv (.long e :: st) := by subst h; exact k
theorem cb_zret {p : Program} {e : Env} {R : Room} {s : State} {m : MethodId} {args : Array Value} {below : List Frame} {meth : Method} {c : Code} {H : Heap} {locs : List Loc} {cells slots : Nat} {free : Addr → Prop} {v : Int32} (hexec : p.tables.exec = Jvm.exec) (hb : c.code = cc) (hr : meth.sig.returnType = some .boolean)
    (hq : ∀ t : State, t.heap = H → s.WarmedH t.vm → Qc args s (.returned (some (.int (v &&& 1)))) t) (hf : ∀ q ∈ locs, free q.base) {ls : Array Slot} (hdg : decode cc pc = .ok (.ireturn, 1)) (hlocks : meth.locks = false) : W p l e R s m args below meth c H locs cells slots (MQ below Qc args s cells slots free) (F0 m pc ls [.int v]) := by
  intro T hT X
  obtain ⟨fs, hret, hrun, hended, hW, hframe⟩ := X.leave (v := some (.int (v &&& 1))) (fun h => by rw [hr] at h; cases h)
  have hmeth' : T.vm.method? m = some meth := X.method'
  refine ⟨T.setFrames fs, ?_, .returned (some (.int (v &&& 1))), hrun, hended, hq _ hT hW, locs, ⟨⟨_, rfl⟩, hW, hframe⟩, hf⟩
  jvm_step X.here [X.here.top, hexec, hb, hdg, hmeth', hr, narrow]
  (try refine ⟨rfl, ?_⟩); (try refine ⟨rfl, ?_⟩)
  first | (intro acts; rw [hret _ acts rfl rfl rfl]) | rw [hret _ _ rfl rfl rfl]
  exact Steps.refl _
theorem cj_zret2 {v : Int32} (hC : cb_C w g γ own cc nL (some .boolean) dp l (cb_Qi w g (v &&& 1) M)) (d : decode cc pc = .ok (.ireturn, 1)) : cb_J w g γ nL M pc lv [.int v] := by
  intro H locs ls hP hS hl
  rw [hC.2.2.2.2.2.2.2.2.2.2]
  exact cb_zret hC.1 hC.2.1 hC.2.2.2.2.2.2.1 (fun t ht hW => ⟨⟨_, (), rfl, rfl, (by show va_P _ _ _ t.heap; rw [ht]; exact hP)⟩, hS.F ht⟩) hS.2.2 d hC.2.2.2.2.2.2.2.1
theorem cj_bret {r : Int32} (hC : cb_C w g γ own cc nL (some .byte) dp l (cb_Qi w g r M)) (hr : r = 0 ∨ r = 1) (d : decode cc pc = .ok (.ireturn, 1)) : cb_J w g γ nL M pc lv [.int r] := by
  intro H locs ls hP hS hl
  rw [hC.2.2.2.2.2.2.2.2.2.2]
  have hlocks := hC.2.2.2.2.2.2.2.1
  exact W.zret (v := r) hC.1 hC.2.1 hC.2.2.2.2.2.2.1 (by rcases hr with rfl | rfl <;> rfl) (fun t ht hW => ⟨⟨r, (), rfl, rfl, (by show va_P _ _ _ t.heap; rw [ht]; exact hP)⟩, hS.F ht⟩) hS.2.2 d
end CBR3
def cb_slen (i : Nat) : Nat := ([3, 4] : List Nat).getD i 0
def cb_sbyt (i j : Nat) : Int32 := (cb_byt.getD i []).getD j 0
section CBR4
variable {w : cb_Wd} {g : cb_Geo} {γ : cb_Gam} {own : String} {cc : ByteArray} {nL : Nat} {ret : Option FieldType} {dp : Nat} {l : Launch} {Qc : Array Value → State → Outcome → State → Prop} {M : cb_Mem} {pc : Nat} {lv lv' : List (Nat × Value)} {st : List Value}
theorem cj_gets_compact (hC : cb_C w g γ own cc nL ret dp l Qc) {idx : Nat} (hw : Cond.fieldLink own idx "java/lang/String" "COMPACT_STRINGS" "Z" ∈ cb_ws) (d : decode cc pc = .ok (.getstatic idx, 3)) (k : cb_J w g γ nL M (pc + 3) lv (.int 1 :: st)) : cb_J w g γ nL M pc lv st := fun H locs ls hP hS hl => va_gets hC.1 hC.2.1 hC.2.2.2.2.2.1.2.2.1.2.2.2.2.1 hS hC.2.2.2.1 (hC.2.2.2.2.1 _ hw) (fun _ h => h) d (k H locs ls hP hS hl)
theorem cj_getS_value (hC : cb_C w g γ own cc nL ret dp l Qc) {idx i : Nat} (hi : i < 2) (hw : Cond.fieldLink own idx "java/lang/String" "value" "[B" ∈ cb_ws) (d : decode cc pc = .ok (.getfield idx, 3)) (k : cb_J w g γ nL M (pc + 3) lv (.ref (g.2.2.2 (2 * i + 1)) :: st)) : cb_J w g γ nL M pc lv (.ref (g.2.2.2 (2 * i)) :: st) := fun H locs ls hP hS hl => vk_getf hC.1 hC.2.1 (hC.2.2.2.2.2.1.2.2.1.2.2.2.2.2.1 i hi).2.2.1 hS hC.2.2.2.1 (hC.2.2.2.2.1 _ hw) (fun _ h => h) d (k H locs ls hP hS hl)
theorem cj_getS_coder (hC : cb_C w g γ own cc nL ret dp l Qc) {idx i : Nat} (hi : i < 2) (hw : Cond.fieldLink own idx "java/lang/String" "coder" "B" ∈ cb_ws) (d : decode cc pc = .ok (.getfield idx, 3)) (k : cb_J w g γ nL M (pc + 3) lv (.int 0 :: st)) : cb_J w g γ nL M pc lv (.ref (g.2.2.2 (2 * i)) :: st) := fun H locs ls hP hS hl => vk_getf hC.1 hC.2.1 (hC.2.2.2.2.2.1.2.2.1.2.2.2.2.2.1 i hi).2.1 hS hC.2.2.2.1 (hC.2.2.2.2.1 _ hw) (fun _ h => h) d (k H locs ls hP hS hl)
theorem cj_alenB (hC : cb_C w g γ own cc nL ret dp l Qc) {i : Nat} (hi : i < 2) (d : decode cc pc = .ok (.arraylength, 1)) (k : cb_J w g γ nL M (pc + 1) lv (.int (Int32.ofNat (cb_slen i)) :: st)) : cb_J w g γ nL M pc lv (.ref (g.2.2.2 (2 * i + 1)) :: st) := fun H locs ls hP hS hl => va_tlen hC.1 hC.2.1 (hC.2.2.2.2.2.1.2.2.1.2.2.2.2.2.1 i hi).2.2.2 hS rfl d (k H locs ls hP hS hl)
theorem cj_bald (hC : cb_C w g γ own cc nL ret dp l Qc) {i : Nat} (hi : i < 2) {j : Int32} (hj : vp_in j (cb_slen i)) (d : decode cc pc = .ok (.baload, 1)) (k : cb_J w g γ nL M (pc + 1) lv (.int (cb_sbyt i j.toNatClampNeg) :: st)) : cb_J w g γ nL M pc lv (.int j :: .ref (g.2.2.2 (2 * i + 1)) :: st) := fun H locs ls hP hS hl => va_tb hC.1 hC.2.1 (hC.2.2.2.2.2.1.2.2.1.2.2.2.2.2.1 i hi).2.2.2 hS hj rfl d (k H locs ls hP hS hl)
theorem cj_callTi (hC : cb_C w g γ own cc nL ret dp l Qc) {idx n2 n d2 i : Nat} {y : MethodName} {c2 : ByteArray} {ret2 : Option FieldType} (cv : cb_CV own idx y c2 n2 ret2 n) (hi : i < 2) (hcl : y.cls = "java/lang/String") {As : List Value} {r : Int32} {M2 : cb_Mem} (hM : Met l y (.code y c2 n2 ret2 :: cb_ws) (cb_rm d2) (cb_Pc w g (.ref (g.2.2.2 (2 * i)) :: As) M) (cb_Qi w g r M2) 0 0 (cb_A w g)) (hd : d2 < dp) (hn : As.length = n) {st0 : List Value} (hst : st0 = As.reverse ++ .ref (g.2.2.2 (2 * i)) :: st) (hr : (st.map fun v => v.category).sum ≤ 8) (d : decode cc pc = .ok (.invokevirtual idx, 3)) (k : cb_J w g γ nL M2 (pc + 3) lv (.int r :: st)) : cb_J w g γ nL M pc lv st0 := by
  intro H locs ls hP hS hl
  have hE := hC.2.2.2.2.2.1.2.2.1.2.2.2.2.2
  obtain ⟨hx, hb, hml, hown, hts, hB, -, -, hR, hL, -⟩ := hC
  obtain ⟨v1, v2, v3, v4, v5, v6, v7⟩ := cv
  have G : GoodIn cb_ws (wsV own idx y.cls y (.code y c2 n2 ret2 :: cb_ws)) := cb_good (fun _ h => h) (fun x hx => by
    rcases List.mem_append.mp hx with h | h
    · simp only [List.mem_cons, List.not_mem_nil, or_false] at h
      rcases h with rfl | rfl | rfl | rfl <;> assumption
    · exact cb_in_cons v1 x h)
  subst hL
  subst hst
  refine va_calli (va_runV (nL := nL) (As := As) (rest := st) (n := n) ⟨hx, hb, hml, hown, hts⟩ hM (cwV n hts G rfl rfl rfl ⟨rfl, v6⟩ (by rw [hR]; exact cb_rm_ok hd v7)) ⟨cb_Pc.blind, by rw [hcl]; have hv9 := vk_recv (i := i) hE hi hS; exact hv9, fun U hU hW => ⟨rfl, hB.warm (by rw [hU]; exact hS) hW, by rw [hU]; exact hP⟩⟩ rfl hn hl.1 rfl (lv_room hr) d ⟨by rw [hR]; exact Nat.le_refl 0, by rw [hR]; exact Nat.le_refl 0⟩) hS (fun q _ h => h) (fun q h => h) (fun x u t H1 locs1 ht _ hx hB9 _ _ hS1 => ?_)
  subst hx
  exact k H1 locs1 ls (by rw [← ht]; exact hB9) hS1 hl
end CBR4
theorem cb_t1 : ∀ c ∈ tables_1_1, c ∈ lw_tbl := fun c h => List.mem_append_right _ (show c ∈ tables_1 from (List.mem_append_left _ h))
theorem cb_t2 : ∀ c ∈ tables_1_2, c ∈ lw_tbl := fun c h => List.mem_append_right _ (show c ∈ tables_1 from (List.mem_append_right _ (List.mem_append_left _ h)))
theorem cb_t3 : ∀ c ∈ tables_1_3, c ∈ lw_tbl := fun c h => List.mem_append_right _ (show c ∈ tables_1 from (List.mem_append_right _ (List.mem_append_right _ (List.mem_append_left _ h))))
theorem cb_t4 : ∀ c ∈ tables_1_4, c ∈ lw_tbl := fun c h => List.mem_append_right _ (show c ∈ tables_1 from (List.mem_append_right _ (List.mem_append_right _ (List.mem_append_right _ (List.mem_append_left _ h)))))
theorem cb_t5 : ∀ c ∈ tables_1_5, c ∈ lw_tbl := fun c h => List.mem_append_right _ (show c ∈ tables_1 from (List.mem_append_right _ (List.mem_append_right _ (List.mem_append_right _ (List.mem_append_right _ (List.mem_append_left _ h))))))
theorem cb_t6 : ∀ c ∈ tables_1_6, c ∈ lw_tbl := fun c h => List.mem_append_right _ (show c ∈ tables_1 from (List.mem_append_right _ (List.mem_append_right _ (List.mem_append_right _ (List.mem_append_right _ (List.mem_append_right _ h))))))
theorem cb_wt {c : Cond} (h : c ∈ lw_tbl) (hg : goodWord c = true) : c ∈ cb_ws := List.mem_filter.mpr ⟨h, hg⟩
theorem cx_e0 (g : cb_Geo) (r : Nat → Int32) : cx.2.1 g 0 r = .inr (6, [.ref (g.2.1 1), .ref (g.2.1 8), .ref (g.2.1 9), .ref (g.2.1 10), .ref (g.2.1 11), .ref (g.2.1 2), .ref (g.2.1 3), .ref (g.2.1 4), .ref (g.2.1 5), .ref (g.2.1 6), .int (r 10)]) := rfl
theorem cx_l0_ : 0 < cx.1 := by decide
theorem cx_e1 (g : cb_Geo) (r : Nat → Int32) : cx.2.1 g 1 r = .inl (g.2.2.1 1, 2, .inr (.inr (.inr (.inr (fun j => some (g.2.1 (30 + j))))))) := rfl
theorem cx_l1_ : 1 < cx.1 := by decide
theorem cx_e2 (g : cb_Geo) (r : Nat → Int32) : cx.2.1 g 2 r = .inl (g.2.2.1 2, 4, .inr (.inr (.inr (.inr (fun j => some (g.2.1 (42 + j))))))) := rfl
theorem cx_l2_ : 2 < cx.1 := by decide
theorem cx_e3 (g : cb_Geo) (r : Nat → Int32) : cx.2.1 g 3 r = .inr (1, [.ref (g.2.1 16), .ref (g.2.1 17), .ref (g.2.1 18), .ref (g.2.1 19), .ref (g.2.1 20), .ref (g.2.1 21), .int (r 6), .int (r 7), .int (r 8)]) := rfl
theorem cx_l3_ : 3 < cx.1 := by decide
theorem cx_e4 (g : cb_Geo) (r : Nat → Int32) : cx.2.1 g 4 r = .inr (5, [.ref (g.2.1 22), .ref (g.2.1 23), .ref (g.2.1 24), .ref (g.2.1 25), .ref (g.2.1 26), .ref (g.2.1 27), .ref (g.2.1 28), .ref (g.2.1 29), .int (r 8), .int (r 9)]) := rfl
theorem cx_l4_ : 4 < cx.1 := by decide
theorem cx_e5 (g : cb_Geo) (r : Nat → Int32) : cx.2.1 g 5 r = .inr (0, [.ref (g.2.1 7), .int (r 1)]) := rfl
theorem cx_l5_ : 5 < cx.1 := by decide
theorem cx_e6 (g : cb_Geo) (r : Nat → Int32) : cx.2.1 g 6 r = .inl (g.2.2.1 3, 8, .inr (.inr (.inr (.inr (fun j => some (g.2.1 (50 + j))))))) := rfl
theorem cx_l6_ : 6 < cx.1 := by decide
theorem cx_e7 (g : cb_Geo) (r : Nat → Int32) : cx.2.1 g 7 r = .inl (g.2.2.1 3, 8, .inr (.inr (.inr (.inr (fun j => some (g.2.1 (58 + j))))))) := rfl
theorem cx_l7_ : 7 < cx.1 := by decide
theorem cx_e8 (g : cb_Geo) (r : Nat → Int32) : cx.2.1 g 8 r = .inr (2, [.ref (g.2.1 12), .int (r 1)]) := rfl
theorem cx_l8_ : 8 < cx.1 := by decide
theorem cx_e9 (g : cb_Geo) (r : Nat → Int32) : cx.2.1 g 9 r = .inr (2, [.ref (g.2.1 13), .int (r 1)]) := rfl
theorem cx_l9_ : 9 < cx.1 := by decide
theorem cx_e10 (g : cb_Geo) (r : Nat → Int32) : cx.2.1 g 10 r = .inr (2, [.ref (g.2.1 14), .int (r 1)]) := rfl
theorem cx_l10_ : 10 < cx.1 := by decide
theorem cx_e11 (g : cb_Geo) (r : Nat → Int32) : cx.2.1 g 11 r = .inr (2, [.ref (g.2.1 15), .int (r 1)]) := rfl
theorem cx_l11_ : 11 < cx.1 := by decide
theorem cx_e12 (g : cb_Geo) (r : Nat → Int32) : cx.2.1 g 12 r = .inl (g.2.2.1 0, 6, .inl r) := rfl
theorem cx_l12_ : 12 < cx.1 := by decide
theorem cx_e13 (g : cb_Geo) (r : Nat → Int32) : cx.2.1 g 13 r = .inl (g.2.2.1 0, 6, .inl r) := rfl
theorem cx_l13_ : 13 < cx.1 := by decide
theorem cx_e14 (g : cb_Geo) (r : Nat → Int32) : cx.2.1 g 14 r = .inl (g.2.2.1 0, 8, .inl r) := rfl
theorem cx_l14_ : 14 < cx.1 := by decide
theorem cx_e15 (g : cb_Geo) (r : Nat → Int32) : cx.2.1 g 15 r = .inl (g.2.2.1 0, 8, .inl r) := rfl
theorem cx_l15_ : 15 < cx.1 := by decide
theorem cx_e16 (g : cb_Geo) (r : Nat → Int32) : cx.2.1 g 16 r = .inl (g.2.2.1 0, 8, .inl r) := rfl
theorem cx_l16_ : 16 < cx.1 := by decide
theorem cx_e17 (g : cb_Geo) (r : Nat → Int32) : cx.2.1 g 17 r = .inl (g.2.2.1 0, 8, .inl r) := rfl
theorem cx_l17_ : 17 < cx.1 := by decide
theorem cx_e18 (g : cb_Geo) (r : Nat → Int32) : cx.2.1 g 18 r = .inl (g.2.2.1 0, 8, .inl r) := rfl
theorem cx_l18_ : 18 < cx.1 := by decide
theorem cx_e19 (g : cb_Geo) (r : Nat → Int32) : cx.2.1 g 19 r = .inl (g.2.2.1 0, 8, .inl r) := rfl
theorem cx_l19_ : 19 < cx.1 := by decide
theorem cx_e20 (g : cb_Geo) (r : Nat → Int32) : cx.2.1 g 20 r = .inl (g.2.2.1 0, 8, .inl r) := rfl
theorem cx_l20_ : 20 < cx.1 := by decide
theorem cx_e21 (g : cb_Geo) (r : Nat → Int32) : cx.2.1 g 21 r = .inl (g.2.2.1 0, 8, .inl r) := rfl
theorem cx_l21_ : 21 < cx.1 := by decide
theorem cx_e22 (g : cb_Geo) (r : Nat → Int32) : cx.2.1 g 22 r = .inl (g.2.2.1 0, 8, .inl r) := rfl
theorem cx_l22_ : 22 < cx.1 := by decide
theorem cx_e23 (g : cb_Geo) (r : Nat → Int32) : cx.2.1 g 23 r = .inl (g.2.2.1 0, 8, .inl r) := rfl
theorem cx_l23_ : 23 < cx.1 := by decide
theorem cx_e24 (g : cb_Geo) (r : Nat → Int32) : cx.2.1 g 24 r = .inl (g.2.2.1 0, 8, .inl r) := rfl
theorem cx_l24_ : 24 < cx.1 := by decide
theorem cx_e25 (g : cb_Geo) (r : Nat → Int32) : cx.2.1 g 25 r = .inl (g.2.2.1 0, 8, .inl r) := rfl
theorem cx_l25_ : 25 < cx.1 := by decide
theorem cx_e26 (g : cb_Geo) (r : Nat → Int32) : cx.2.1 g 26 r = .inl (g.2.2.1 0, 8, .inl r) := rfl
theorem cx_l26_ : 26 < cx.1 := by decide
theorem cx_e27 (g : cb_Geo) (r : Nat → Int32) : cx.2.1 g 27 r = .inl (g.2.2.1 0, 40, .inl r) := rfl
theorem cx_l27_ : 27 < cx.1 := by decide
theorem cx_e28 (g : cb_Geo) (r : Nat → Int32) : cx.2.1 g 28 r = .inl (g.2.2.1 0, 40, .inl r) := rfl
theorem cx_l28_ : 28 < cx.1 := by decide
theorem cx_e29 (g : cb_Geo) (r : Nat → Int32) : cx.2.1 g 29 r = .inl (g.2.2.1 0, 4, .inl r) := rfl
theorem cx_l29_ : 29 < cx.1 := by decide
theorem cy_e0 (g : cb_Geo) (r : Nat → Int32) : cy.2.1 g 0 r = .inr (7, [.ref (g.2.1 1), .ref (g.2.1 2), .ref (g.2.1 3), .ref (g.2.1 4), .int (r 4), .ref (g.2.1 5), .ref (g.2.1 6), .int (r 7), .ref (g.2.1 7), .int (r 9), .ref (g.2.1 8), .ref (g.2.1 9), .ref (g.2.1 10), .int (r 13), .ref (g.2.1 11), .int (r 15), .int (r 16), .ref (g.2.1 12), .ref (g.2.1 13), .ref (g.2.1 14), .ref (g.2.1 15), .ref (g.2.1 16), .ref (g.2.1 17), .ref (g.2.1 18), .int (r 24), .int (r 25), .ref (g.2.1 19), .int (r 27), .ref (g.2.1 20), .ref (g.2.1 21), .int (r 30)]) := rfl
theorem cy_l0_ : 0 < cy.1 := by decide
theorem cy_e1 (g : cb_Geo) (r : Nat → Int32) : cy.2.1 g 1 r = .inl (g.2.2.1 0, 4, .inl r) := rfl
theorem cy_l1_ : 1 < cy.1 := by decide
theorem cy_e2 (g : cb_Geo) (r : Nat → Int32) : cy.2.1 g 2 r = .inl (g.2.2.1 0, 4, .inl r) := rfl
theorem cy_l2_ : 2 < cy.1 := by decide
theorem cy_e3 (g : cb_Geo) (r : Nat → Int32) : cy.2.1 g 3 r = .inl (g.2.2.1 0, 240, .inl r) := rfl
theorem cy_l3_ : 3 < cy.1 := by decide
theorem cy_e4 (g : cb_Geo) (r : Nat → Int32) : cy.2.1 g 4 r = .inl (g.2.2.1 0, 60, .inl r) := rfl
theorem cy_l4_ : 4 < cy.1 := by decide
theorem cy_e5 (g : cb_Geo) (r : Nat → Int32) : cy.2.1 g 5 r = .inl (g.2.2.1 0, 80, .inl r) := rfl
theorem cy_l5_ : 5 < cy.1 := by decide
theorem cy_e6 (g : cb_Geo) (r : Nat → Int32) : cy.2.1 g 6 r = .inl (g.2.2.1 0, 2, .inl r) := rfl
theorem cy_l6_ : 6 < cy.1 := by decide
theorem cy_e7 (g : cb_Geo) (r : Nat → Int32) : cy.2.1 g 7 r = .inl (g.2.2.1 0, 16, .inl r) := rfl
theorem cy_l7_ : 7 < cy.1 := by decide
theorem cy_e8 (g : cb_Geo) (r : Nat → Int32) : cy.2.1 g 8 r = .inl (g.2.2.1 0, 24, .inl r) := rfl
theorem cy_l8_ : 8 < cy.1 := by decide
theorem cy_e9 (g : cb_Geo) (r : Nat → Int32) : cy.2.1 g 9 r = .inl (g.2.2.1 0, 2, .inl r) := rfl
theorem cy_l9_ : 9 < cy.1 := by decide
theorem cy_e10 (g : cb_Geo) (r : Nat → Int32) : cy.2.1 g 10 r = .inl (g.2.2.1 0, 12, .inl r) := rfl
theorem cy_l10_ : 10 < cy.1 := by decide
theorem cy_e11 (g : cb_Geo) (r : Nat → Int32) : cy.2.1 g 11 r = .inl (g.2.2.1 0, 16, .inl r) := rfl
theorem cy_l11_ : 11 < cy.1 := by decide
theorem cy_e12 (g : cb_Geo) (r : Nat → Int32) : cy.2.1 g 12 r = .inl (g.2.2.1 0, 8, .inl r) := rfl
theorem cy_l12_ : 12 < cy.1 := by decide
theorem cy_e13 (g : cb_Geo) (r : Nat → Int32) : cy.2.1 g 13 r = .inl (g.2.2.1 0, 8, .inl r) := rfl
theorem cy_l13_ : 13 < cy.1 := by decide
theorem cy_e14 (g : cb_Geo) (r : Nat → Int32) : cy.2.1 g 14 r = .inl (g.2.2.1 0, 8, .inl r) := rfl
theorem cy_l14_ : 14 < cy.1 := by decide
theorem cy_e15 (g : cb_Geo) (r : Nat → Int32) : cy.2.1 g 15 r = .inl (g.2.2.1 0, 8, .inl r) := rfl
theorem cy_l15_ : 15 < cy.1 := by decide
theorem cy_e16 (g : cb_Geo) (r : Nat → Int32) : cy.2.1 g 16 r = .inl (g.2.2.1 0, 8, .inl r) := rfl
theorem cy_l16_ : 16 < cy.1 := by decide
theorem cy_e17 (g : cb_Geo) (r : Nat → Int32) : cy.2.1 g 17 r = .inl (g.2.2.1 0, 8, .inl r) := rfl
theorem cy_l17_ : 17 < cy.1 := by decide
theorem cy_e18 (g : cb_Geo) (r : Nat → Int32) : cy.2.1 g 18 r = .inl (g.2.2.1 0, 8, .inl r) := rfl
theorem cy_l18_ : 18 < cy.1 := by decide
theorem cy_e19 (g : cb_Geo) (r : Nat → Int32) : cy.2.1 g 19 r = .inl (g.2.2.1 0, 256, .inl r) := rfl
theorem cy_l19_ : 19 < cy.1 := by decide
theorem cy_e20 (g : cb_Geo) (r : Nat → Int32) : cy.2.1 g 20 r = .inl (g.2.2.1 0, 16, .inl r) := rfl
theorem cy_l20_ : 20 < cy.1 := by decide
theorem cy_e21 (g : cb_Geo) (r : Nat → Int32) : cy.2.1 g 21 r = .inl (g.2.2.1 0, 72, .inl r) := rfl
theorem cy_l21_ : 21 < cy.1 := by decide
theorem cx_l2 {i a : Nat} (h : i < 2) (ha : a + 2 ≤ 66) : a + i < cx.1 := by show a + i < 66; omega
theorem cx_l4 {i a : Nat} (h : i < 4) (ha : a + 4 ≤ 66) : a + i < cx.1 := by show a + i < 66; omega
theorem cx_l8 {i a : Nat} (h : i < 8) (ha : a + 8 ≤ 66) : a + i < cx.1 := by show a + i < 66; omega
