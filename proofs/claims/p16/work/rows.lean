section
/-! ===== a start that meets every premise, and in which the static array FIRST is of another array class over int than the one called [I =====
The witness's start, word for word, but for: two more classes at the end of the class table (an array class over int, superclass Object, no interfaces; and CloneNotSupportedException, so that the machine need not load it), the cell of FIRST is of that array class, and the script is empty. -/
def rf.odd : Class := start1.cArr "[?" 22 .int
def rf.cns : Class := su_own "java/lang/CloneNotSupportedException" 0x21 [] [] (Lib.HandJ.method "<init>" "()V" [] none 0x1 1 object_method_1_code)
def rf.about : State :=
  { start1.about with
    vm := { start1.about.vm with classes := (start1.about.vm.classes.push rf.odd).push rf.cns }
    heap := (start1.about.heap.setIfInBounds 0 { cls := 23, slots := #[], vm := .none }).setIfInBounds 5 { cls := 32, slots := #[.int (20), .int (10), .int (5), .int (600), .int (3), .int (0), .int (80), .int (4)], vm := .none }
    slotsUsed := 63 }
def rf.args0 : Array Value := start1.args0
/-- two frames: a throw that has left all but the last one -/
def rf.left : List Frame → Bool
  | [.throwing _, _] => true
  | _ => false
/-- can the thread take a step by itself? -/
def rf.goes (s : State) : Bool := match s.status, s.curStatus?, s.alone with
  | .running, some .runnable, true => true
  | _, _, _ => false
/-- within n steps it comes to rf.left, and never has one frame alone before -/
def rf.leaves (tb : Tables) (e : Env) : Nat → State → Bool
  | 0, s => rf.left s.frames
  | n + 1, s => rf.left s.frames || (rf.goes s && Nat.ble 2 s.frames.length && rf.leaves tb e n (stepThread tb e s).1)
theorem rf.goes_step {tb : Tables} {e : Env} {s : State} (h : rf.goes s = true) (k : Nat) : stepsAlone tb e (k + 1) s = stepsAlone tb e k (stepThread tb e s).1 := by
  unfold rf.goes at h
  rw [stepsAlone]
  split at h
  · rename_i h1 h2 h3; simp only [h1, h2, h3]
  · cases h
/-- behind a native method's frame a value comes back to that frame alone -/
theorem rf.one_frame {s : State} {v : Option Value} (h : Ended s Lib.HandBits.below0 (.returned v)) : s.frames.length = 1 := by
  have h1 : s.frames = _ := h
  rw [h1]; rfl
theorem rf.left_two {fs : List Frame} (h : rf.left fs = true) : fs.length = 2 := by
  unfold rf.left at h; split at h
  · rfl
  · cases h
theorem rf.left_out {s : State} (h : rf.left s.frames = true) : ¬ Within s Lib.HandBits.below0 := by
  rintro ⟨above, h1, -, h3⟩
  rw [h1] at h
  have h2 := rf.left_two h
  match above, h2, h, h3 with
  | [f], _, h, h3 => cases f <;> first | exact absurd rfl (h3 _) | cases h
  | [], h2, _, _ => cases h2
  | _ :: _ :: _, h2, _, _ => simp [Lib.HandBits.below0] at h2
theorem rf.no_value (tb : Tables) (e : Env) : ∀ (n : Nat) (s : State), rf.leaves tb e n s = true → ∀ (k : Nat) (v : Option Value),
    (∀ j, j < k → Within (stepsAlone tb e j s) Lib.HandBits.below0) → ¬ Ended (stepsAlone tb e k s) Lib.HandBits.below0 (.returned v) := by
  have hL : ∀ (s : State), rf.left s.frames = true → ∀ (k : Nat) (v : Option Value),
      (∀ j, j < k → Within (stepsAlone tb e j s) Lib.HandBits.below0) → ¬ Ended (stepsAlone tb e k s) Lib.HandBits.below0 (.returned v) := by
    intro s hl k v hin hend
    cases k with
    | zero => have h1 := rf.one_frame hend; have h2 := rf.left_two hl; rw [show stepsAlone tb e 0 s = s from rfl] at h1; omega
    | succ k => exact rf.left_out hl (hin 0 (Nat.succ_pos k))
  intro n
  induction n with
  | zero => intro s h; exact hL s h
  | succ n ih =>
    intro s h k v hin hend
    rcases (Bool.or_eq_true _ _).mp h with hl | h
    · exact hL s hl k v hin hend
    · obtain ⟨h12, h3⟩ := (Bool.and_eq_true _ _).mp h
      obtain ⟨h1, h2⟩ := (Bool.and_eq_true _ _).mp h12
      cases k with
      | zero =>
        have h4 := rf.one_frame hend
        have h5 := Nat.le_of_ble_eq_true h2
        rw [show stepsAlone tb e 0 s = s from rfl] at h4
        omega
      | succ k =>
        rw [rf.goes_step h1] at hend
        exact ih _ h3 k v (fun j hj => by have := hin (j + 1) (Nat.succ_lt_succ hj); rwa [rf.goes_step h1] at this) hend
end
section
set_option maxRecDepth 16384 in
/-- the law, begun there with an empty script, is left by a throw: CloneNotSupportedException, out of the clone of FIRST in the first Rules of the first new BuildingClub -/
theorem rf.run_ok : rf.leaves start1.p0.tables start1.e0 80 rf.about = true := by decide +kernel
end
section
/-! ===== the words of the tables hold at rf.about: those on a method's code as they hold at the witness's start (two more classes at the table's end hide none), the others by reckoning ===== -/
theorem rf.find_push {α : Type} (p : α → Bool) (xs : Array α) (a : α) {i : Nat} (h : xs.findIdx? p = some i) : (xs.push a).findIdx? p = some i := by
  rw [← Array.append_singleton, Array.findIdx?_append, h]; rfl
theorem rf.at_push {α : Type} {xs : Array α} {a k : α} {i : Nat} (h : xs[i]? = some k) : (xs.push a)[i]? = some k := by
  obtain ⟨hi, -⟩ := Array.getElem?_eq_some_iff.mp h
  rw [Array.getElem?_push_lt (h := hi)]
  rw [← h, Array.getElem?_eq_getElem hi]
theorem rf.find {n : String} {i : ClassId} (h : start1.about.vm.findClass n = some i) : rf.about.vm.findClass n = some i :=
  rf.find_push _ _ _ (rf.find_push _ _ _ h)
theorem rf.cls_at {i : ClassId} {k : Class} (h : start1.about.vm.classes[i]? = some k) : rf.about.vm.classes[i]? = some k :=
  rf.at_push (rf.at_push h)
theorem rf.named {y : MethodName} {m : MethodId} (h : start1.about.methodNamed? y = some m) : rf.about.methodNamed? y = some m := by
  simp only [State.methodNamed?, Option.bind_eq_bind, Option.bind_eq_some_iff] at h ⊢
  obtain ⟨c, h1, k, h2, i, h3, h4⟩ := h
  exact ⟨c, rf.find h1, k, rf.cls_at h2, i, h3, h4⟩
theorem rf.meth {m : MethodId} {k : Method} (h : start1.about.vm.method? m = some k) : rf.about.vm.method? m = some k := by
  simp only [Vm.method?, Option.bind_eq_bind, Option.bind_eq_some_iff] at h ⊢
  obtain ⟨c, h1, h2⟩ := h
  exact ⟨c, rf.cls_at h1, h2⟩
theorem rf.code_of {y : MethodName} {b : ByteArray} {n : Nat} {r : Option FieldType} (h : (Cond.code y b n r).before start1.args0 start1.about = true) : (Cond.code y b n r).before rf.args0 rf.about = true := by
  have hb : ∀ k, ((start1.about.methodNamed? y).bind start1.about.vm.method?) = some k → ((rf.about.methodNamed? y).bind rf.about.vm.method?) = some k := by
    intro k hk
    obtain ⟨m, h1, h2⟩ := Option.bind_eq_some_iff.mp hk
    exact Option.bind_eq_some_iff.mpr ⟨m, rf.named h1, rf.meth h2⟩
  simp only [Cond.before, Cond.holds, Cond.value] at h ⊢
  cases hm : (start1.about.methodNamed? y).bind start1.about.vm.method? with
  | none => rw [hm] at h; simp at h
  | some k => rw [hm] at h; rw [hb k hm]; exact h
theorem rf.codes {c : Cond} (hc : su_isCode c = true) (h : c.before start1.args0 start1.about = true) : c.before rf.args0 rf.about = true := by
  cases c <;> first | exact rf.code_of h | simp [su_isCode] at hc
def rf.good (c : Cond) : Bool := su_isCode c || c.before rf.args0 rf.about
theorem rf.cut {α : Type} {p : α → Bool} (n : Nat) {l : List α} (h1 : (l.take n).all p = true) (h2 : (l.drop n).all p = true) : l.all p = true := by
  rw [← List.take_append_drop n l, List.all_append, h1, h2]; rfl
end
section
set_option maxRecDepth 16384 in
theorem rf.o1_0 : (tables_1_1.take 80).all rf.good = true := by decide +kernel
set_option maxRecDepth 16384 in
theorem rf.o1_1 : ((tables_1_1.drop 80).take 80).all rf.good = true := by decide +kernel
set_option maxRecDepth 16384 in
theorem rf.o1_2 : (((tables_1_1.drop 80).drop 80).take 80).all rf.good = true := by decide +kernel
set_option maxRecDepth 16384 in
theorem rf.o1_3 : (((tables_1_1.drop 80).drop 80).drop 80).all rf.good = true := by decide +kernel
theorem rf.o1 : tables_1_1.all rf.good = true := rf.cut 80 rf.o1_0 (rf.cut 80 rf.o1_1 (rf.cut 80 rf.o1_2 rf.o1_3))
end
section
set_option maxRecDepth 16384 in
theorem rf.o2_0 : (tables_1_2.take 80).all rf.good = true := by decide +kernel
set_option maxRecDepth 16384 in
theorem rf.o2_1 : ((tables_1_2.drop 80).take 80).all rf.good = true := by decide +kernel
set_option maxRecDepth 16384 in
theorem rf.o2_2 : (((tables_1_2.drop 80).drop 80).take 80).all rf.good = true := by decide +kernel
set_option maxRecDepth 16384 in
theorem rf.o2_3 : (((tables_1_2.drop 80).drop 80).drop 80).all rf.good = true := by decide +kernel
theorem rf.o2 : tables_1_2.all rf.good = true := rf.cut 80 rf.o2_0 (rf.cut 80 rf.o2_1 (rf.cut 80 rf.o2_2 rf.o2_3))
end
section
set_option maxRecDepth 16384 in
theorem rf.o3_0 : (tables_1_3.take 80).all rf.good = true := by decide +kernel
set_option maxRecDepth 16384 in
theorem rf.o3_1 : ((tables_1_3.drop 80).take 80).all rf.good = true := by decide +kernel
set_option maxRecDepth 16384 in
theorem rf.o3_2 : (((tables_1_3.drop 80).drop 80).take 80).all rf.good = true := by decide +kernel
set_option maxRecDepth 16384 in
theorem rf.o3_3 : (((tables_1_3.drop 80).drop 80).drop 80).all rf.good = true := by decide +kernel
theorem rf.o3 : tables_1_3.all rf.good = true := rf.cut 80 rf.o3_0 (rf.cut 80 rf.o3_1 (rf.cut 80 rf.o3_2 rf.o3_3))
end
section
set_option maxRecDepth 16384 in
theorem rf.o4_0 : (tables_1_4.take 80).all rf.good = true := by decide +kernel
set_option maxRecDepth 16384 in
theorem rf.o4_1 : ((tables_1_4.drop 80).take 80).all rf.good = true := by decide +kernel
set_option maxRecDepth 16384 in
theorem rf.o4_2 : (((tables_1_4.drop 80).drop 80).take 80).all rf.good = true := by decide +kernel
set_option maxRecDepth 16384 in
theorem rf.o4_3 : (((tables_1_4.drop 80).drop 80).drop 80).all rf.good = true := by decide +kernel
theorem rf.o4 : tables_1_4.all rf.good = true := rf.cut 80 rf.o4_0 (rf.cut 80 rf.o4_1 (rf.cut 80 rf.o4_2 rf.o4_3))
end
section
set_option maxRecDepth 16384 in
theorem rf.o5_0 : (tables_1_5.take 80).all rf.good = true := by decide +kernel
set_option maxRecDepth 16384 in
theorem rf.o5_1 : ((tables_1_5.drop 80).take 80).all rf.good = true := by decide +kernel
set_option maxRecDepth 16384 in
theorem rf.o5_2 : (((tables_1_5.drop 80).drop 80).take 80).all rf.good = true := by decide +kernel
set_option maxRecDepth 16384 in
theorem rf.o5_3 : (((tables_1_5.drop 80).drop 80).drop 80).all rf.good = true := by decide +kernel
theorem rf.o5 : tables_1_5.all rf.good = true := rf.cut 80 rf.o5_0 (rf.cut 80 rf.o5_1 (rf.cut 80 rf.o5_2 rf.o5_3))
end
section
theorem rf.words : ∀ c ∈ (Cond.code x code maxLocals ret :: tables_1), c.before rf.args0 rf.about = true := by
  intro c hc
  have h0 := start1.words c hc
  cases hq : su_isCode c with
  | true => exact rf.codes hq h0
  | false =>
    have hg : rf.good c = true := by
      rcases List.mem_cons.mp hc with h | h
      · subst h; cases hq
      · have h1 : c ∈ tables_1_1 ++ (tables_1_2 ++ (tables_1_3 ++ (tables_1_4 ++ tables_1_5))) := h
        simp only [List.mem_append] at h1
        rcases h1 with h | h | h | h | h
        · exact List.all_eq_true.mp rf.o1 c h
        · exact List.all_eq_true.mp rf.o2 c h
        · exact List.all_eq_true.mp rf.o3 c h
        · exact List.all_eq_true.mp rf.o4 c h
        · exact List.all_eq_true.mp rf.o5 c h
    simpa [rf.good, hq] using hg
end
section
set_option maxRecDepth 16384 in
/-- what the claim takes as given holds at rf.about: it is applied there, and its end is looked at -/
theorem rf.claimed_1_1_false : ¬ Claimed_1_1 := by
  intro hA
  have happ : (headSpec (Cond.code x code maxLocals ret :: tables_1) room_1).applies x start1.e0.platform rf.about = true :=
    (Spec.applies_iff rfl).mpr ⟨rfl, rfl, rfl, by decide +kernel, by decide +kernel, by decide +kernel, launch0.hasRoom_least _ room_1 (by decide +kernel) (by decide +kernel) (by decide +kernel) (by decide +kernel) (by decide +kernel) (by decide +kernel), atoms_intro rf.words⟩
  have hrest : rest_1_c.before rf.args0 rf.about = true := by decide +kernel
  have hpre : (Cond.and given_1 narrow_1).before rf.args0 rf.about = true := by decide +kernel
  have hfit : argsFit rf.about.vm ⟨0, 0⟩ rf.args0 = true := by decide +kernel
  have hheap : heapFits rf.about = true := by decide +kernel
  obtain ⟨k, o, hin, -, hend, hpost⟩ := hA launch0 rfl lists_1 trivial start1.p0 start1.e0 (launch0.admits_env _ _ _) fairChoices_fair.cas fairChoices_fair.clock rf.about ⟨0, 0⟩ rf.args0 Lib.HandBits.below0 rfl hfit hheap happ ⟨trivial, hrest, hpre⟩
  cases o with
  | returned v => exact rf.no_value _ _ _ _ rf.run_ok k v hin hend
  | threw a =>
    have h0 := hpost.1
    have hv : Jvm.D.postC limb_1_1 start1.p0.tables start1.e0 rf.args0 rf.about (.threw a) (stepsAlone start1.p0.tables start1.e0 k rf.about) = ((some false == some true) = true) := rfl
    rw [hv] at h0
    exact absurd h0 (by decide)
/-- what is owed has no proof -/
theorem rf.not_owed : ¬ (Claimed_1_1 ∧ Claimed_1_2) := fun h => rf.claimed_1_1_false h.1
end
