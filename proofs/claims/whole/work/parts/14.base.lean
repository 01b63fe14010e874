theorem dvX0 : ∀ k, k < 4 → pm_ty 0 k ≠ .float ∧ pm_ty 0 k ≠ .double := by decide +kernel
theorem dvX1 : ∀ k, k < 3 → pm_ty 1 k ≠ .float ∧ pm_ty 1 k ≠ .double := by decide +kernel
theorem dvX2 : ∀ k, k < 7 → pm_ty 2 k ≠ .float ∧ pm_ty 2 k ≠ .double := by decide +kernel
theorem dvX3 : ∀ k, k < 15 → pm_ty 3 k ≠ .float ∧ pm_ty 3 k ≠ .double := by decide +kernel
theorem dvX4 : ∀ k, k < 10 → pm_ty 4 k ≠ .float ∧ pm_ty 4 k ≠ .double := by decide +kernel
theorem dvX5 : ∀ k, k < 1 → pm_ty 5 k ≠ .float ∧ pm_ty 5 k ≠ .double := by decide +kernel
theorem dvX6 : ∀ k, k < 3 → pm_ty 6 k ≠ .float ∧ pm_ty 6 k ≠ .double := by decide +kernel
theorem dvX7 : ∀ k, k < 1 → pm_ty 7 k ≠ .float ∧ pm_ty 7 k ≠ .double := by decide +kernel
theorem dvX8 : ∀ k, k < 2 → pm_ty 8 k ≠ .float ∧ pm_ty 8 k ≠ .double := by decide +kernel
theorem dvX9 : ∀ k, k < 2 → pm_ty 9 k ≠ .float ∧ pm_ty 9 k ≠ .double := by decide +kernel
theorem dvX10 : ∀ k, k < 6 → pm_ty 10 k ≠ .float ∧ pm_ty 10 k ≠ .double := by decide +kernel
theorem dvX11 : ∀ k, k < 41 → pm_ty 11 k ≠ .float ∧ pm_ty 11 k ≠ .double := by decide +kernel
theorem tsw_ok {pc : Nat} {offs : Array Int} {ts : List Nat} (h : offs.toList.map (fun o => (pc : Int) + o) = ts.map (fun (t : Nat) => (t : Int))) : ∀ (k t : Nat), ts[k]? = some t → ∃ off, offs[k]? = some off ∧ (pc : Int) + off = (t : Int) := by
  intro k t hk
  have h1 := congrArg (fun l => l[k]?) h
  simp only [List.getElem?_map, hk, Option.map_some, Array.getElem?_toList] at h1
  cases ho : offs[k]? with
  | none => rw [ho] at h1; cases h1
  | some off => rw [ho] at h1; exact ⟨off, rfl, Option.some.inj h1⟩
theorem lsw_aux {pc dt : Nat} {dflt : Int} (h2 : (pc : Int) + dflt = (dt : Int)) (a : Int) (F : Nat → Prop) : ∀ (l : List (Int × Int)) (ts : List (Int × Nat)), l.map (fun q => (q.1, (pc : Int) + q.2)) = ts.map (fun (q : Int × Nat) => (q.1, ((q.2 : Nat) : Int))) → pm_ls F dt a ts → ∃ t : Nat, F t ∧ (pc : Int) + Op.lookupswitch.offset l dflt a = (t : Int) := by
  intro l
  induction l with
  | nil =>
    intro ts h hp
    cases ts with
    | nil => exact ⟨dt, hp, h2⟩
    | cons t ts => cases h
  | cons q l ih =>
    intro ts h hp
    cases ts with
    | nil => cases h
    | cons t ts =>
      simp only [List.map_cons, List.cons.injEq, Prod.mk.injEq] at h
      obtain ⟨⟨e1, e2⟩, e3⟩ := h
      obtain ⟨q1, q2⟩ := q
      by_cases hq : a = t.1
      · refine ⟨t.2, hp.1 hq, ?_⟩
        have e1' : q1 = t.1 := e1
        rw [Op.lookupswitch.offset_cons, if_pos (by omega)]
        exact e2
      · obtain ⟨t', k1, k2⟩ := ih ts e3 (hp.2 hq)
        refine ⟨t', k1, ?_⟩
        have e1' : q1 = t.1 := e1
        rw [Op.lookupswitch.offset_cons, if_neg (by omega)]
        exact k2
theorem lsw_ok {pc dt : Nat} {dflt : Int} {ps : Array (Int × Int)} {ts : List (Int × Nat)} (h : ps.toList.map (fun q => (q.1, (pc : Int) + q.2)) = ts.map (fun (q : Int × Nat) => (q.1, ((q.2 : Nat) : Int)))) (h2 : (pc : Int) + dflt = (dt : Int)) : ∀ (a : Int) (F : Nat → Prop), pm_ls F dt a ts → ∃ t : Nat, F t ∧ (pc : Int) + Op.lookupswitch.offset ps.toList dflt a = (t : Int) := fun a F hp => lsw_aux h2 a F _ _ h hp
