/-! the locals -/
def lp (w : WT) : Nat → List PV → List (Nat × Value)
  | _, [] => []
  | i, x :: xs => cond (Nat.blt x.1 3) ((i, cv w x) :: lp w (i + 1) xs) (lp w (i + 1) xs)
theorem lp_in (w : WT) : ∀ (ls : List PV) (k i : Nat) (v : PV), pm_lg ls i = v → v.1 < 3 → (k + i, cv w v) ∈ lp w k ls := by
  intro ls
  induction ls with
  | nil =>
    intro k i v h h3
    have : v = (9, 0) := h.symm
    subst this
    exact absurd h3 (by decide)
  | cons x xs ih =>
    intro k i v h h3
    cases i with
    | zero =>
      have e : x = v := h
      subst e
      show _ ∈ cond (Nat.blt x.1 3) _ _
      have : Nat.blt x.1 3 = true := by simpa [Nat.blt_eq] using h3
      rw [this]
      exact List.mem_cons_self
    | succ i =>
      have h1 := ih (k + 1) i v h h3
      rw [show k + 1 + i = k + (i + 1) by omega] at h1
      show _ ∈ cond (Nat.blt x.1 3) _ _
      cases Nat.blt x.1 3
      · exact h1
      · exact List.mem_cons_of_mem _ h1
theorem lp_out (w : WT) : ∀ (ls : List PV) (k : Nat) (q : Nat × Value), q ∈ lp w k ls → ∃ i, i < ls.length ∧ q = (k + i, cv w (pm_lg ls i)) ∧ (pm_lg ls i).1 < 3 := by
  intro ls
  induction ls with
  | nil => intro k q h; cases h
  | cons x xs ih =>
    intro k q h
    have h' : q ∈ cond (Nat.blt x.1 3) ((k, cv w x) :: lp w (k + 1) xs) (lp w (k + 1) xs) := h
    have tail : q ∈ lp w (k + 1) xs → ∃ i, i < (x :: xs).length ∧ q = (k + i, cv w (pm_lg (x :: xs) i)) ∧ (pm_lg (x :: xs) i).1 < 3 := fun hq => by
      obtain ⟨i, h1, h2, h3⟩ := ih _ _ hq
      refine ⟨i + 1, by simp only [List.length_cons]; omega, ?_, h3⟩
      rw [h2]
      show (k + 1 + i, cv w (pm_lg xs i)) = (k + (i + 1), cv w (pm_lg xs i))
      rw [show k + 1 + i = k + (i + 1) by omega]
    cases hb : Nat.blt x.1 3 with
    | false => rw [hb] at h'; exact tail h'
    | true =>
      rw [hb] at h'
      rcases List.mem_cons.mp h' with e | h2
      · exact ⟨0, by simp, e, show x.1 < 3 by simpa [Nat.blt_eq] using hb⟩
      · exact tail h2
def s1f : List PV → Nat → PV → List PV
  | [], _, _ => []
  | _ :: xs, 0, v => v :: xs
  | x :: xs, n + 1, v => (cond (Nat.beq n 0 && Nat.beq x.1 1) (9, 0) x) :: s1f xs n v
theorem s1_f : ∀ (ls : List PV) (i : Nat) (v : PV) (k : List PV → Prop), pm_s1 ls i v k → i < ls.length ∧ k (s1f ls i v) := by
  intro ls
  induction ls with
  | nil => intro i v k h; exact h.elim
  | cons x xs ih =>
    intro i v k h
    cases i with
    | zero => exact ⟨by simp, h⟩
    | succ n =>
      have h' : cond (Nat.beq n 0 && Nat.beq x.1 1) (pm_s1 xs n v (fun ys => k ((9, 0) :: ys))) (pm_s1 xs n v (fun ys => k (x :: ys))) := h
      show _ ∧ k ((cond (Nat.beq n 0 && Nat.beq x.1 1) (9, 0) x) :: s1f xs n v)
      cases hb : (Nat.beq n 0 && Nat.beq x.1 1) with
      | false => rw [hb] at h'; obtain ⟨h1, h2⟩ := ih _ _ _ h'; exact ⟨by simp only [List.length_cons]; omega, h2⟩
      | true => rw [hb] at h'; obtain ⟨h1, h2⟩ := ih _ _ _ h'; exact ⟨by simp only [List.length_cons]; omega, h2⟩
theorem s1_len : ∀ (ls : List PV) (i : Nat) (v : PV), (s1f ls i v).length = ls.length := by
  intro ls
  induction ls with
  | nil => intro i v; rfl
  | cons x xs ih =>
    intro i v
    cases i with
    | zero => rfl
    | succ n => show (s1f xs n v).length + 1 = _; rw [ih]; rfl
theorem s1_lg : ∀ (ls : List PV) (i : Nat) (v : PV) (j : Nat), i < ls.length → pm_lg (s1f ls i v) j = if j = i then v else if j + 1 = i ∧ (pm_lg ls j).1 = 1 then (9, 0) else pm_lg ls j := by
  intro ls
  induction ls with
  | nil => intro i v j h; exact absurd h (by simp)
  | cons x xs ih =>
    intro i v j h
    cases i with
    | zero =>
      cases j with
      | zero => rfl
      | succ j => show pm_lg xs j = _; rw [if_neg (by omega), if_neg (by omega)]; rfl
    | succ n =>
      cases j with
      | zero =>
        show (cond (Nat.beq n 0 && Nat.beq x.1 1) (9, 0) x) = _
        rw [if_neg (by omega)]
        show _ = if 0 + 1 = n + 1 ∧ x.1 = 1 then (9, 0) else x
        by_cases h1 : n = 0
        · by_cases h2 : x.1 = 1
          · rw [if_pos ⟨by omega, h2⟩, h1, h2]; rfl
          · rw [if_neg (fun z => h2 z.2)]
            have : Nat.beq x.1 1 = false := by
              cases hb : Nat.beq x.1 1
              · rfl
              · exact absurd (Nat.eq_of_beq_eq_true hb) h2
            rw [this]; simp
        · rw [if_neg (fun z => h1 (by omega))]
          have : Nat.beq n 0 = false := by
            cases hb : Nat.beq n 0
            · rfl
            · exact absurd (Nat.eq_of_beq_eq_true hb) h1
          rw [this]; rfl
      | succ j =>
        show pm_lg (s1f xs n v) j = if j + 1 = n + 1 then v else if j + 1 + 1 = n + 1 ∧ (pm_lg xs j).1 = 1 then (9, 0) else pm_lg xs j
        rw [ih n v j (by simpa using h)]
        simp only [Nat.add_right_cancel_iff]
def s2f : List PV → Nat → PV → List PV
  | [], _, _ => []
  | _ :: xs, 0, v => (match xs with | [] => [v] | _ :: ys => v :: (9, 0) :: ys)
  | x :: xs, n + 1, v => (cond (Nat.beq n 0 && Nat.beq x.1 1) (9, 0) x) :: s2f xs n v
theorem s2_f : ∀ (ls : List PV) (i : Nat) (v : PV) (k : List PV → Prop), pm_s2 ls i v k → i + 1 < ls.length ∧ k (s2f ls i v) := by
  intro ls
  induction ls with
  | nil => intro i v k h; exact h.elim
  | cons x xs ih =>
    intro i v k h
    cases i with
    | zero =>
      cases xs with
      | nil => exact h.elim
      | cons y ys => exact ⟨by simp, h⟩
    | succ n =>
      have h' : cond (Nat.beq n 0 && Nat.beq x.1 1) (pm_s2 xs n v (fun ys => k ((9, 0) :: ys))) (pm_s2 xs n v (fun ys => k (x :: ys))) := h
      show _ ∧ k ((cond (Nat.beq n 0 && Nat.beq x.1 1) (9, 0) x) :: s2f xs n v)
      cases hb : (Nat.beq n 0 && Nat.beq x.1 1) with
      | false => rw [hb] at h'; obtain ⟨h1, h2⟩ := ih _ _ _ h'; exact ⟨by simp only [List.length_cons]; omega, h2⟩
      | true => rw [hb] at h'; obtain ⟨h1, h2⟩ := ih _ _ _ h'; exact ⟨by simp only [List.length_cons]; omega, h2⟩
theorem s2_len : ∀ (ls : List PV) (i : Nat) (v : PV), (s2f ls i v).length = ls.length := by
  intro ls
  induction ls with
  | nil => intro i v; rfl
  | cons x xs ih =>
    intro i v
    cases i with
    | zero => cases xs <;> rfl
    | succ n => show (s2f xs n v).length + 1 = _; rw [ih]; rfl
theorem s2_lg : ∀ (ls : List PV) (i : Nat) (v : PV) (j : Nat), i + 1 < ls.length → pm_lg (s2f ls i v) j = if j = i then v else if j = i + 1 then (9, 0) else if j + 1 = i ∧ (pm_lg ls j).1 = 1 then (9, 0) else pm_lg ls j := by
  intro ls
  induction ls with
  | nil => intro i v j h; exact absurd h (by simp)
  | cons x xs ih =>
    intro i v j h
    cases i with
    | zero =>
      cases xs with
      | nil => exact absurd h (by simp)
      | cons y ys =>
        cases j with
        | zero => rfl
        | succ j =>
          cases j with
          | zero => rfl
          | succ j => show pm_lg ys j = _; rw [if_neg (by omega), if_neg (by omega), if_neg (by omega)]; rfl
    | succ n =>
      cases j with
      | zero =>
        show (cond (Nat.beq n 0 && Nat.beq x.1 1) (9, 0) x) = _
        rw [if_neg (by omega), if_neg (by omega)]
        show _ = if 0 + 1 = n + 1 ∧ x.1 = 1 then (9, 0) else x
        by_cases h1 : n = 0
        · by_cases h2 : x.1 = 1
          · rw [if_pos ⟨by omega, h2⟩, h1, h2]; rfl
          · rw [if_neg (fun z => h2 z.2)]
            have : Nat.beq x.1 1 = false := by
              cases hb : Nat.beq x.1 1
              · rfl
              · exact absurd (Nat.eq_of_beq_eq_true hb) h2
            rw [this]; simp
        · rw [if_neg (fun z => h1 (by omega))]
          have : Nat.beq n 0 = false := by
            cases hb : Nat.beq n 0
            · rfl
            · exact absurd (Nat.eq_of_beq_eq_true hb) h1
          rw [this]; rfl
      | succ j =>
        show pm_lg (s2f xs n v) j = if j + 1 = n + 1 then v else if j + 1 = n + 1 + 1 then (9, 0) else if j + 1 + 1 = n + 1 ∧ (pm_lg xs j).1 = 1 then (9, 0) else pm_lg xs j
        rw [ih n v j (by simpa using h)]
        simp only [Nat.add_right_cancel_iff]
theorem cv_cat {w : WT} {v : PV} (h : ¬ v.1 = 1) : (cv w v).category = 1 := by
  obtain ⟨t, z⟩ := v
  match t, h with
  | 0, _ => rfl
  | 1, h => exact absurd rfl h
  | n + 2, _ =>
    show Value.category (if z = 0 then .null else .ref (sgA w z)) = 1
    split <;> rfl
theorem cv_cat2 (w : WT) (z : Int) : (cv w (1, z)).category = 2 := rfl
theorem lv_s1 {w : WT} {lr : Array Slot} {nL i : Nat} {ls : List PV} {v : PV} (h : i < ls.length) (hl : lv_has lr nL ((i, cv w v) :: (lp w 0 ls).filter (fun q => !(q.1 == i) && !(q.1 + 1 == i && q.2.category == 2)))) : lv_has lr nL (lp w 0 (s1f ls i v)) := by
  refine ⟨hl.1, hl.2.1, fun q hq => hl.2.2 q ?_⟩
  obtain ⟨j, h1, h2, h3⟩ := lp_out w _ _ _ hq
  rw [s1_len] at h1
  rw [s1_lg _ _ _ _ h] at h2 h3
  by_cases hj : j = i
  · rw [if_pos hj] at h2
    rw [h2, hj, Nat.zero_add]
    exact List.mem_cons_self
  · rw [if_neg hj] at h2 h3
    by_cases hj2 : j + 1 = i ∧ (pm_lg ls j).1 = 1
    · rw [if_pos hj2] at h3; exact absurd h3 (by decide)
    · rw [if_neg hj2] at h2 h3
      rw [h2]
      refine List.mem_cons_of_mem _ (List.mem_filter.mpr ⟨lp_in w ls 0 j _ rfl h3, ?_⟩)
      have hc : ¬ (0 + j + 1 = i ∧ (cv w (pm_lg ls j)).category = 2) := fun z => by
        by_cases h1 : (pm_lg ls j).1 = 1
        · exact hj2 ⟨by omega, h1⟩
        · rw [cv_cat h1] at z; exact absurd z.2 (by decide)
      have e1 : (0 + j == i) = false := by simp; omega
      simp only [e1, Bool.not_false, Bool.true_and, Bool.not_eq_true', Bool.and_eq_false_iff]
      by_cases h4 : 0 + j + 1 = i
      · right; simpa using fun z => hc ⟨h4, z⟩
      · left; simpa using h4
theorem lv_s2 {w : WT} {lr : Array Slot} {nL i : Nat} {ls : List PV} {v : PV} (h : i + 1 < ls.length) (hl : lv_has lr nL ((i, cv w v) :: (lp w 0 ls).filter (fun q => !(q.1 == i) && (!(q.1 == i + 1) && !(q.1 + 1 == i && q.2.category == 2))))) : lv_has lr nL (lp w 0 (s2f ls i v)) := by
  refine ⟨hl.1, hl.2.1, fun q hq => hl.2.2 q ?_⟩
  obtain ⟨j, h1, h2, h3⟩ := lp_out w _ _ _ hq
  rw [s2_len] at h1
  rw [s2_lg _ _ _ _ h] at h2 h3
  by_cases hj : j = i
  · rw [if_pos hj] at h2
    rw [h2, hj, Nat.zero_add]
    exact List.mem_cons_self
  · rw [if_neg hj] at h2 h3
    by_cases hj3 : j = i + 1
    · rw [if_pos hj3] at h3; exact absurd h3 (by decide)
    · rw [if_neg hj3] at h2 h3
      by_cases hj2 : j + 1 = i ∧ (pm_lg ls j).1 = 1
      · rw [if_pos hj2] at h3; exact absurd h3 (by decide)
      · rw [if_neg hj2] at h2 h3
        rw [h2]
        refine List.mem_cons_of_mem _ (List.mem_filter.mpr ⟨lp_in w ls 0 j _ rfl h3, ?_⟩)
        have hc : ¬ (0 + j + 1 = i ∧ (cv w (pm_lg ls j)).category = 2) := fun z => by
          by_cases h1 : (pm_lg ls j).1 = 1
          · exact hj2 ⟨by omega, h1⟩
          · rw [cv_cat h1] at z; exact absurd z.2 (by decide)
        have e1 : (0 + j == i) = false := by simp; omega
        have e2 : (0 + j == i + 1) = false := by simp; omega
        simp only [e1, e2, Bool.not_false, Bool.true_and, Bool.not_eq_true', Bool.and_eq_false_iff]
        by_cases h4 : 0 + j + 1 = i
        · right; simpa using fun z => hc ⟨h4, z⟩
        · left; simpa using h4
theorem lp_pad (w : WT) : ∀ (n k : Nat) (q : Nat × Value), q ∉ lp w k (pm_pad n []) := by
  intro n
  induction n with
  | zero => intro k q h; cases h
  | succ n ih => intro k q h; exact ih _ _ h
theorem lp_args (w : WT) : ∀ (as : List PV) (n k : Nat) (q : Nat × Value), q ∈ lp w k (pm_pad n (pm_ar as)) → q ∈ lv_args k (as.map (cv w)) := by
  intro as
  induction as with
  | nil => intro n k q h; exact absurd h (lp_pad w n k q)
  | cons x xs ih =>
    intro n k q h
    obtain ⟨t, z⟩ := x
    cases n with
    | zero => cases h
    | succ n =>
      by_cases ht : t = 1
      · subst ht
        have h' : q = (k, cv w (1, z)) ∨ q ∈ lp w (k + 1) (pm_pad n ((9, 0) :: pm_ar xs)) := List.mem_cons.mp h
        show q ∈ (k, cv w (1, z)) :: lv_args (k + 2) (xs.map (cv w))
        rcases h' with e | h2
        · rw [e]; exact List.mem_cons_self
        · cases n with
          | zero => cases h2
          | succ n => exact List.mem_cons_of_mem _ (ih n (k + 2) q h2)
      · have hb : Nat.beq t 1 = false := by
          cases hb : Nat.beq t 1
          · rfl
          · exact absurd (Nat.eq_of_beq_eq_true hb) ht
        have e0 : pm_ar ((t, z) :: xs) = (t, z) :: pm_ar xs := by
          show cond (Nat.beq t 1) _ _ = _
          rw [hb]; rfl
        rw [e0] at h
        have h' : q ∈ cond (Nat.blt t 3) ((k, cv w (t, z)) :: lp w (k + 1) (pm_pad n (pm_ar xs))) (lp w (k + 1) (pm_pad n (pm_ar xs))) := h
        have e2 : lv_args k (((t, z) :: xs).map (cv w)) = (k, cv w (t, z)) :: lv_args (k + 1) (xs.map (cv w)) := by
          show (k, cv w (t, z)) :: lv_args (if (cv w (t, z)).category = 2 then k + 2 else k + 1) _ = _
          rw [cv_cat (v := (t, z)) ht, if_neg (by decide)]
        rw [e2]
        cases hb : Nat.blt t 3 with
        | false => rw [hb] at h'; exact List.mem_cons_of_mem _ (ih n (k + 1) q h')
        | true =>
          rw [hb] at h'
          rcases List.mem_cons.mp h' with e | h2
          · rw [e]; exact List.mem_cons_self
          · exact List.mem_cons_of_mem _ (ih n (k + 1) q h2)
theorem pad_len : ∀ (n : Nat) (l : List PV), (pm_pad n l).length = n := by
  intro n
  induction n with
  | zero => intro l; rfl
  | succ n ih => intro l; cases l <;> (show (pm_pad n _).length + 1 = _; rw [ih])
theorem sl_len (w : WT) : ∀ as : List PV, (lg_sl (as.map (cv w))).length = pm_w as := by
  intro as
  induction as with
  | nil => rfl
  | cons x xs ih =>
    obtain ⟨t, z⟩ := x
    by_cases ht : t = 1
    · subst ht
      show _ = cond (Nat.beq 1 1) _ _
      show (lg_sl (.long _ :: xs.map (cv w))).length = pm_w xs + 2
      simp [lg_sl, Value.category, ← ih]
    · have hb : Nat.beq t 1 = false := by
        cases hb : Nat.beq t 1
        · rfl
        · exact absurd (Nat.eq_of_beq_eq_true hb) ht
      show _ = cond (Nat.beq t 1) _ _
      rw [hb]
      show (lg_sl (cv w (t, z) :: xs.map (cv w))).length = pm_w xs + 1
      have hc := cv_cat (w := w) (v := (t, z)) ht
      simp [lg_sl, hc, ← ih]
theorem cat_w (w : WT) : ∀ st : List PV, ((st.map (cv w)).map fun v => v.category).sum = pm_w st := by
  intro st
  induction st with
  | nil => rfl
  | cons x xs ih =>
    obtain ⟨t, z⟩ := x
    show (cv w (t, z)).category + ((xs.map (cv w)).map fun v => v.category).sum = cond (Nat.beq t 1) (pm_w xs + 2) (pm_w xs + 1)
    rw [ih]
    by_cases ht : t = 1
    · subst ht
      show 2 + _ = pm_w xs + 2
      omega
    · have hb : Nat.beq t 1 = false := by
        cases hb : Nat.beq t 1
        · rfl
        · exact absurd (Nat.eq_of_beq_eq_true hb) ht
      rw [hb, cv_cat (v := (t, z)) ht]
      show 1 + _ = pm_w xs + 1
      omega
