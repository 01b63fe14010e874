/-! ===== a start that meets every premise, and in which the static array FIRST is of another array class over int than the one called [I =====
The witness's start, word for word, but for: two more classes at the end of the class table (an array class over int, superclass Object, no interfaces; and CloneNotSupportedException, so that the machine need not load it), the cell of FIRST is of that array class, and the script is empty. -/
def rf.odd : Class := start1.cArr "[?" 22 .int
def rf.cns : Class := su_own "java/lang/CloneNotSupportedException" 0x21 [] [] (Lib.HandJ.method "<init>" "()V" [] none 0x1 1 object_method_1_code)
def rf.about : State :=
  { start1.about with
    vm := { start1.about.vm with classes := (start1.about.vm.classes.push rf.odd).push rf.cns }
    heap := (start1.about.heap.setIfInBounds 0 { cls := 23, slots := #[], vm := .none }).setIfInBounds 5 { cls := 32, slots := #[.int (20), .int (10), .int (5), .int (600), .int (3), .int (0), .int (80), .int (4)], vm := .none }
    slotsUsed := 63 }
def rf.args0 : Array Value := start1.args0
/-- two frames: a throw that has left all but the last one -/
def rf.left : List Frame → Bool
  | [.throwing _, _] => true
  | _ => false
/-- can the thread take a step by itself? -/
def rf.goes (s : State) : Bool := match s.status, s.curStatus?, s.alone with
  | .running, some .runnable, true => true
  | _, _, _ => false
/-- within n steps it comes to rf.left, and never has one frame alone before -/
def rf.leaves (tb : Tables) (e : Env) : Nat → State → Bool
  | 0, s => rf.left s.frames
  | n + 1, s => rf.left s.frames || (rf.goes s && Nat.ble 2 s.frames.length && rf.leaves tb e n (stepThread tb e s).1)
theorem rf.goes_step {tb : Tables} {e : Env} {s : State} (h : rf.goes s = true) (k : Nat) : stepsAlone tb e (k + 1) s = stepsAlone tb e k (stepThread tb e s).1 := by
  unfold rf.goes at h
  rw [stepsAlone]
  split at h
  · rename_i h1 h2 h3; simp only [h1, h2, h3]
  · cases h
/-- behind a native method's frame a value comes back to that frame alone -/
theorem rf.one_frame {s : State} {v : Option Value} (h : Ended s Lib.HandBits.below0 (.returned v)) : s.frames.length = 1 := by
  have h1 : s.frames = _ := h
  rw [h1]; rfl
theorem rf.left_two {fs : List Frame} (h : rf.left fs = true) : fs.length = 2 := by
  unfold rf.left at h; split at h
  · rfl
  · cases h
theorem rf.left_out {s : State} (h : rf.left s.frames = true) : ¬ Within s Lib.HandBits.below0 := by
  rintro ⟨above, h1, -, h3⟩
  rw [h1] at h
  have h2 := rf.left_two h
  match above, h2, h, h3 with
  | [f], _, h, h3 => cases f <;> first | exact absurd rfl (h3 _) | cases h
  | [], h2, _, _ => cases h2
  | _ :: _ :: _, h2, _, _ => simp [Lib.HandBits.below0] at h2
theorem rf.no_value (tb : Tables) (e : Env) : ∀ (n : Nat) (s : State), rf.leaves tb e n s = true → ∀ (k : Nat) (v : Option Value),
    (∀ j, j < k → Within (stepsAlone tb e j s) Lib.HandBits.below0) → ¬ Ended (stepsAlone tb e k s) Lib.HandBits.below0 (.returned v) := by
  have hL : ∀ (s : State), rf.left s.frames = true → ∀ (k : Nat) (v : Option Value),
      (∀ j, j < k → Within (stepsAlone tb e j s) Lib.HandBits.below0) → ¬ Ended (stepsAlone tb e k s) Lib.HandBits.below0 (.returned v) := by
    intro s hl k v hin hend
    cases k with
    | zero => have h1 := rf.one_frame hend; have h2 := rf.left_two hl; rw [show stepsAlone tb e 0 s = s from rfl] at h1; omega
    | succ k => exact rf.left_out hl (hin 0 (Nat.succ_pos k))
  intro n
  induction n with
  | zero => intro s h; exact hL s h
  | succ n ih =>
    intro s h k v hin hend
    rcases (Bool.or_eq_true _ _).mp h with hl | h
    · exact hL s hl k v hin hend
    · obtain ⟨h12, h3⟩ := (Bool.and_eq_true _ _).mp h
      obtain ⟨h1, h2⟩ := (Bool.and_eq_true _ _).mp h12
      cases k with
      | zero =>
        have h4 := rf.one_frame hend
        have h5 := Nat.le_of_ble_eq_true h2
        rw [show stepsAlone tb e 0 s = s from rfl] at h4
        omega
      | succ k =>
        rw [rf.goes_step h1] at hend
        exact ih _ h3 k v (fun j hj => by have := hin (j + 1) (Nat.succ_lt_succ hj); rwa [rf.goes_step h1] at this) hend
