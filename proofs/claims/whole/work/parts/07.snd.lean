/-! what holds of the machine at a method's body, and what an instruction must do -/
def nestW : List Cond := [.methodLinkNest RX3 39 yX4_init RX10, .methodLinkNest RX4 11 yX2_init RX10, .methodLinkNest RX10 18 yX1_init RX10, .methodLinkNest RX10 25 yX8_init RX10, .methodLinkNest RX10 32 yX9_init RX10, .methodLinkNest RX10 39 yX6_init RX10, .methodLinkNest RX10 46 yX5_init RX10]
def outW (w : WT) : Nat → Prop := fun q => w.2.2.size ≤ q
/-- what the tables say of strings (Rules.placeOf) -/
def ZS (w : WT) (U : State) : Prop := ∃ aS aB : Nat, vk_R RX7 20 "srfhgblq" aS U ∧ va_O "java/lang/String" aS (outW w) U w.2.2 ∧ va_OF "java/lang/String" "value" "[B" (.ref aB) aS (outW w) U w.2.2 ∧ va_OF "java/lang/String" "coder" "B" (.int 0) aS (outW w) U w.2.2 ∧ va_T .byte aB 8 (fun j => .int (([115, 114, 102, 104, 103, 98, 108, 113] : List Int32).getD j 0)) (outW w) U w.2.2 ∧ va_Z "java/lang/String" "COMPACT_STRINGS" "Z" (.int 1) (outW w) U w.2.2
def ZW (w : WT) (U : State) : Prop := va_K w.1 vwCl [] U ∧ (∀ q ∈ nestW, va_Nw q U) ∧ (va_Z RX7 "FIRST" "[I" (.ref (w.2.1 2)) (outW w) U w.2.2 ∧ va_Z RX7 "LEAST" "[I" (.ref (w.2.1 3)) (outW w) U w.2.2 ∧ va_Z RX7 "MOST" "[I" (.ref (w.2.1 4)) (outW w) U w.2.2) ∧ va_Nw (.castable "[I" "java/lang/Cloneable") U ∧ va_AO RX4 U ∧ va_AO RX0 U ∧ ZS w U
theorem nestW_m : ∀ q ∈ nestW, ∃ a i x h, q = Cond.methodLinkNest a i x h := by
  intro q hq
  simp only [nestW, List.mem_cons, List.not_mem_nil, or_false] at hq
  rcases hq with rfl | rfl | rfl | rfl | rfl | rfl | rfl <;> exact ⟨_, _, _, _, rfl⟩
theorem ZW.warm {w : WT} {s U : State} (hW : s.WarmedH U.vm) (x : ZW w s) : ZW w U := by
  obtain ⟨h1, h2, ⟨h3, h4, h5⟩, h6, h7, h8, aS, aB, g1, g2, g3, g4, g5, g6⟩ := x
  have hA : s.vm.Alike U.vm := hW.alike
  refine ⟨va_K.moved hA h1, fun q hq => ?_, ⟨va_Z.moved hA h3, va_Z.moved hA h4, va_Z.moved hA h5⟩, va_Nw.warmC hW h6, va_AO.moved hA h7, va_AO.moved hA h8, aS, aB, vk_R.warm hW g1, va_O.moved hA g2, va_OF.moved hA g3, va_OF.moved hA g4, va_T.moved hA g5, va_Z.moved hA g6⟩
  obtain ⟨a, i, x, h, rfl⟩ := nestW_m q hq
  exact va_Nw.warmM hW (h2 _ hq)
theorem ZW.same {w : WT} {u U : State} (hv : U.vm = u.vm) (x : ZW w u) : ZW w U := by
  obtain ⟨h1, h2, ⟨h3, h4, h5⟩, h6, h7, h8, aS, aB, g1, g2, g3, g4, g5, g6⟩ := x
  have hA : u.vm.Alike U.vm := by rw [hv]; exact Vm.Alike.refl _
  refine ⟨va_K.moved hA h1, fun q hq => ?_, ⟨va_Z.moved hA h3, va_Z.moved hA h4, va_Z.moved hA h5⟩, va_Nw.same rfl hv.symm h6, va_AO.moved hA h7, va_AO.moved hA h8, aS, aB, vk_R.same hv g1, va_O.moved hA g2, va_OF.moved hA g3, va_OF.moved hA g4, va_T.moved hA g5, va_Z.moved hA g6⟩
  obtain ⟨a, i, x, h, rfl⟩ := nestW_m q hq
  exact va_Nw.same rfl hv.symm (h2 _ hq)
def PcP (w : WT) (as : List PV) (h : PH) : Array Value → State → Prop := fun v U => v = (as.map (cv w)).toArray ∧ RH w U h U.heap ∧ ZW w U
def QcP (w : WT) (K : PR) : Array Value → State → Outcome → State → Prop := fun _ _ oc t => ∃ (r : Option PV) (h : PH), K r h ∧ oc = .returned (r.map (cv w)) ∧ RH w t h t.heap
def pm_ws (y : Nat) : List Cond := .code (pm_yn y) (pm_cc y) (pm_nl y) (pm_rt y) :: wG
def MetP (l : Launch) (w : WT) (d y : Nat) (as : List PV) (h : PH) (K : PR) : Prop :=
  Met l (pm_yn y) (pm_ws y) { frames := d, cells := (NB - hn h).toNat, slots := (SB - hs h).toNat, locals := 38 * d } (PcP w as h) (QcP w K) (NB - hn h).toNat (SB - hs h).toNat (outW w)
def CO (l : Launch) (w : WT) (d : Nat) (C : PC) : Prop := ∀ y as h K, C y as h K → MetP l w d y as h K
theorem blindP (w : WT) (as : List PV) (h : PH) : FrameBlind (PcP w as h) := by
  intro a U g mk x
  obtain ⟨h1, h2, h3⟩ := x
  refine ⟨h1, h2.moved (Vm.Alike.refl U.vm), ?_⟩
  exact ZW.same (u := U) (U := U.calling g mk a) rfl h3
def WX (p : Program) (l : Launch) (e : Env) (R : Room) (s : State) (m : MethodId) (args : Array Value) (below : List Frame) (meth : Method) (c : Code) (Q : State → Prop) (w : WT) (nL : Nat) (pc : Nat) (ls st : List PV) (h : PH) : Prop :=
  ∀ (H : Heap) (locs : List Loc) (lr : Array Slot), RH w s h H → (∀ q ∈ locs, outW w q.base) → lv_has lr nL (lp w 0 ls) → ls.length = nL → W p l e R s m args below meth c H locs (H.size - s.heap.size) (SU H - SU s.heap) Q (F0 m pc lr (st.map (cv w)))
def CX (p : Program) (l : Launch) (e : Env) (R : Room) (s : State) (m : MethodId) (args : Array Value) (below : List Frame) (meth : Method) (c : Code) (w : WT) (own : String) (cc : ByteArray) (nL : Nat) (rt : Option FieldType) (d : Nat) : Prop :=
  p.tables.exec = Jvm.exec ∧ c.code = cc ∧ meth.sig.returnType = rt ∧ c.maxLocals = nL ∧ s.vm.findClass own = some m.cls ∧ (∀ q ∈ wG, q.before args s = true) ∧ meth.locks = false ∧ ZW w s ∧ (∃ h0 : PH, RH w s h0 s.heap ∧ R.cells = (NB - hn h0).toNat ∧ R.slots = (SB - hs h0).toNat) ∧ d + 1 ≤ R.frames ∧ 38 * (d + 1) ≤ R.locals
/-- the end of the method: r is given back at pc -/
def RX (p : Program) (l : Launch) (e : Env) (R : Room) (s : State) (m : MethodId) (args : Array Value) (below : List Frame) (meth : Method) (c : Code) (Q : State → Prop) (w : WT) (cc : ByteArray) (rt : Option FieldType) (K : PR) : Prop :=
  ∀ (r : Option PV) (h : PH) (H : Heap) (locs : List Loc) (lr : Array Slot) (pc : Nat), K r h → RH w s h H → (∀ q ∈ locs, outW w q.base) →
    (match r with | none => rt = none ∧ decode cc pc = .ok (.return_, 1) | some (t, v) => ∃ ty, rt = some ty ∧ ((t = 0 ∧ narrow ty (cv w (t, v)) = cv w (t, v) ∧ decode cc pc = .ok (.ireturn, 1)) ∨ (t = 1 ∧ ty = .long ∧ decode cc pc = .ok (.lreturn, 1)) ∨ (t = 2 ∧ ¬ v = 0 ∧ (∃ n, ty = .object n) ∧ decode cc pc = .ok (.areturn, 1)))) →
    W p l e R s m args below meth c H locs (H.size - s.heap.size) (SU H - SU s.heap) Q (F0 m pc lr (r.toList.map (cv w)))
def SN (p : Program) (l : Launch) (e : Env) (R : Room) (s : State) (m : MethodId) (args : Array Value) (below : List Frame) (meth : Method) (c : Code) (Q : State → Prop) (w : WT) (cc : ByteArray) (nL : Nat) (rt : Option FieldType) (d : Nat) (i : PI) (pc : Nat) : Prop :=
  ∀ (C : PC) (ls st : List PV) (h : PH) (K : PK) (K2 : PR), i C ls st h K K2 → CO l w d C → (∀ pc ls st h, K pc ls st h → WX p l e R s m args below meth c Q w nL pc ls st h) → RX p l e R s m args below meth c Q w cc rt K2 → WX p l e R s m args below meth c Q w nL pc ls st h
section
variable {p : Program} {l : Launch} {e : Env} {R : Room} {s : State} {m : MethodId} {args : Array Value} {below : List Frame} {meth : Method} {c : Code} {Q : State → Prop} {w : WT} {own : String} {cc : ByteArray} {nL : Nat} {rt : Option FieldType} {d : Nat} {pc : Nat}
theorem SU_fold (H : Heap) : H.foldl (fun n c => n + c.slots.size) 0 = SU H := by
  have key : ∀ (l : List Cell) (a : Nat), l.foldl (fun n c => n + c.slots.size) a = a + (l.map (fun c => c.slots.size)).sum := by
    intro l
    induction l with
    | nil => intro a; rfl
    | cons x xs ih => intro a; rw [List.foldl_cons, ih]; simp; omega
  rw [← Array.foldl_toList, key]
  unfold SU
  omega
theorem w_tight {H : Heap} {locs : List Loc} {cells slots : Nat} {g : JFrame} (k : W p l e R s m args below meth c H locs (H.size - s.heap.size) (SU H - SU s.heap) Q g) : W p l e R s m args below meth c H locs cells slots Q g := by
  intro T hT X
  refine k T hT { X with same := ⟨X.same.1, X.same.2.1, ?_, X.same.2.2.2.1, ?_, X.same.2.2.2.2.2⟩ }
  · have h1 := X.same.2.1
    have e1 : (T.setVm s.vm).heap = H := hT
    rw [e1] at h1 ⊢
    omega
  · have hb : T.slotsTrue = true := X.book
    have hs : s.slotsTrue = true := by
      have h := X.room
      simp only [State.hasRoom, Bool.and_eq_true] at h
      exact h.2
    have hb' : T.slotsUsed = SU H := by
      have := of_decide_eq_true (by simpa [State.slotsTrue] using hb : decide (T.slotsUsed = T.heap.foldl (fun n c => n + c.slots.size) 0) = true)
      rw [this, SU_fold, hT]
    have hs' : s.slotsUsed = SU s.heap := by
      have := of_decide_eq_true (by simpa [State.slotsTrue] using hs : decide (s.slotsUsed = s.heap.foldl (fun n c => n + c.slots.size) 0) = true)
      rw [this, SU_fold]
    have h4 : T.slotsUsed = s.slotsUsed + _ := X.same.2.2.2.1
    omega
end
