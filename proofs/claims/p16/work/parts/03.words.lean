/-! ===== the words of the tables hold at rf.about: those on a method's code as they hold at the witness's start (two more classes at the table's end hide none), the others by reckoning ===== -/
theorem rf.find_push {α : Type} (p : α → Bool) (xs : Array α) (a : α) {i : Nat} (h : xs.findIdx? p = some i) : (xs.push a).findIdx? p = some i := by
  rw [← Array.append_singleton, Array.findIdx?_append, h]; rfl
theorem rf.at_push {α : Type} {xs : Array α} {a k : α} {i : Nat} (h : xs[i]? = some k) : (xs.push a)[i]? = some k := by
  obtain ⟨hi, -⟩ := Array.getElem?_eq_some_iff.mp h
  rw [Array.getElem?_push_lt (h := hi)]
  rw [← h, Array.getElem?_eq_getElem hi]
theorem rf.find {n : String} {i : ClassId} (h : start1.about.vm.findClass n = some i) : rf.about.vm.findClass n = some i :=
  rf.find_push _ _ _ (rf.find_push _ _ _ h)
theorem rf.cls_at {i : ClassId} {k : Class} (h : start1.about.vm.classes[i]? = some k) : rf.about.vm.classes[i]? = some k :=
  rf.at_push (rf.at_push h)
theorem rf.named {y : MethodName} {m : MethodId} (h : start1.about.methodNamed? y = some m) : rf.about.methodNamed? y = some m := by
  simp only [State.methodNamed?, Option.bind_eq_bind, Option.bind_eq_some_iff] at h ⊢
  obtain ⟨c, h1, k, h2, i, h3, h4⟩ := h
  exact ⟨c, rf.find h1, k, rf.cls_at h2, i, h3, h4⟩
theorem rf.meth {m : MethodId} {k : Method} (h : start1.about.vm.method? m = some k) : rf.about.vm.method? m = some k := by
  simp only [Vm.method?, Option.bind_eq_bind, Option.bind_eq_some_iff] at h ⊢
  obtain ⟨c, h1, h2⟩ := h
  exact ⟨c, rf.cls_at h1, h2⟩
theorem rf.code_of {y : MethodName} {b : ByteArray} {n : Nat} {r : Option FieldType} (h : (Cond.code y b n r).before start1.args0 start1.about = true) : (Cond.code y b n r).before rf.args0 rf.about = true := by
  have hb : ∀ k, ((start1.about.methodNamed? y).bind start1.about.vm.method?) = some k → ((rf.about.methodNamed? y).bind rf.about.vm.method?) = some k := by
    intro k hk
    obtain ⟨m, h1, h2⟩ := Option.bind_eq_some_iff.mp hk
    exact Option.bind_eq_some_iff.mpr ⟨m, rf.named h1, rf.meth h2⟩
  simp only [Cond.before, Cond.holds, Cond.value] at h ⊢
  cases hm : (start1.about.methodNamed? y).bind start1.about.vm.method? with
  | none => rw [hm] at h; simp at h
  | some k => rw [hm] at h; rw [hb k hm]; exact h
theorem rf.codes {c : Cond} (hc : su_isCode c = true) (h : c.before start1.args0 start1.about = true) : c.before rf.args0 rf.about = true := by
  cases c <;> first | exact rf.code_of h | simp [su_isCode] at hc
def rf.good (c : Cond) : Bool := su_isCode c || c.before rf.args0 rf.about
theorem rf.cut {α : Type} {p : α → Bool} (n : Nat) {l : List α} (h1 : (l.take n).all p = true) (h2 : (l.drop n).all p = true) : l.all p = true := by
  rw [← List.take_append_drop n l, List.all_append, h1, h2]; rfl
