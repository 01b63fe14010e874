/-! calls -/
theorem pop_of : ∀ (n : Nat) (acc st : List PV) (k : List PV → List PV → Prop), pm_pop n acc st k → ∃ as st', st = as.reverse ++ st' ∧ as.length = n ∧ k (as ++ acc) st' := by
  intro n
  induction n with
  | zero => intro acc st k h; exact ⟨[], st, rfl, rfl, h⟩
  | succ n ih =>
    intro acc st k h
    cases st with
    | nil => exact h.elim
    | cons x st =>
      obtain ⟨as, st', h1, h2, h3⟩ := ih (x :: acc) st k h
      refine ⟨as ++ [x], st', by rw [h1]; simp, by simp [h2], ?_⟩
      rw [List.append_assoc]
      exact h3
theorem good_ws {y : Nat} (h : Cond.code (pm_yn y) (pm_cc y) (pm_nl y) (pm_rt y) ∈ wG) : GoodIn wG (pm_ws y) := by
  intro q hq
  rcases List.mem_cons.mp hq with e | hq
  · subst e; exact ⟨h, good_of_word (List.mem_filter.mp h).2⟩
  · exact ⟨hq, good_of_word (List.mem_filter.mp hq).2⟩
section
variable {p : Program} {l : Launch} {e : Env} {R : Room} {s : State} {m : MethodId} {args : Array Value} {below : List Frame} {meth : Method} {c : Code} {Q : State → Prop} {w : WT} {own : String} {cc : ByteArray} {nL : Nat} {rt : Option FieldType} {d : Nat} {pc : Nat}
theorem after_run {H : Heap} {locs : List Loc} {cells slots mc ms : Nat} {lr : Array Slot} {st0 rest : List Value} {K : PR} {av : Array Value} (hlo : ∀ q ∈ locs, outW w q.base) (hr : va_Run p l e R s m args below meth c H locs cells slots mc ms (F0 m pc lr st0) rest (QcP w K av) (outW w))
    (kk : ∀ r h, K r h → ∀ (H' : Heap) (locs' : List Loc), RH w s h H' → (∀ q ∈ locs', outW w q.base) → W p l e R s m args below meth c H' locs' (H'.size - s.heap.size) (SU H' - SU s.heap) Q (F0 m (pc + 3) lr ((r.map (cv w)).toList ++ rest))) : W p l e R s m args below meth c H locs cells slots Q (F0 m pc lr st0) := by
  intro T hT X
  obtain ⟨v, st₀, t, T', L, h0, X', hL, e1, e2, ⟨r, h, k1, k2, k3⟩, st⟩ := hr T hT X
  cases k2
  have hA : t.vm.Alike s.vm := by rw [← e2]; exact X'.warmed.alike.symm
  have k4 := k3.moved hA
  rw [← e1] at k4
  obtain ⟨t2, a1, b1⟩ := w_tight (kk r h k1 T'.heap (locs ++ L) k4 (fun q hq => by
    rcases List.mem_append.mp hq with z | z
    · exact hlo q z
    · exact hL q z)) T' rfl X'
  exact ⟨t2, st t2 a1, b1⟩
theorem rm_call (X : CX p l e R s m args below meth c w own cc nL rt d) {h : PH} {H : Heap} (hH : RH w s h H) (z1 : s.heap.size ≤ H.size) (z2 : SU s.heap ≤ SU H) : H.size - s.heap.size + (NB - hn h).toNat ≤ R.cells ∧ SU H - SU s.heap + (SB - hs h).toNat ≤ R.slots := by
  obtain ⟨h0, hs0, e1, e2⟩ := X.2.2.2.2.2.2.2.2.1
  have a1 := hH.1
  have a2 := hH.2.1
  have b1 := hs0.1
  have b2 := hs0.2.1
  rw [e1, e2]
  omega
theorem ret_map (r : Option PV) (st : List PV) : (r.map (cv w)).toList ++ st.map (cv w) = (r.toList ++ st).map (cv w) := by cases r <;> rfl
theorem callB_y (X : CX p l e R s m args below meth c w own cc nL rt d) {y n idx : Nat} (hl1 : Cond.methodLink own idx (pm_yn y) ∈ wG) (hini : Cond.initialized (pm_yn y).cls ∈ wG) (hcw : Cond.code (pm_yn y) (pm_cc y) (pm_nl y) (pm_rt y) ∈ wG) (hn19 : pm_nl y ≤ 19) (hds : (pm_yn y).cls ≠ "java/lang/invoke/MethodHandle" ∧ (pm_yn y).cls ≠ "java/lang/invoke/VarHandle" ∧ (parseMethodDescriptor (pm_yn y).desc).map (fun d => d.parameters.length) = some n) (mc ms : Nat) : CallB R s args own idx (pm_yn y) (pm_cc y) (pm_nl y) (pm_rt y) (pm_ws y) { frames := d, cells := mc, slots := ms, locals := 38 * d } mc ms n := by
  refine callB_of n X.2.2.2.2.2.1 (good_ws hcw) rfl rfl rfl (X.2.2.2.2.2.1 _ hini) (X.2.2.2.2.2.1 _ hl1) hds ⟨X.2.2.2.2.2.2.2.2.2.1, ?_⟩
  have := X.2.2.2.2.2.2.2.2.2.2
  show 8 + (pm_nl y + 11) + 38 * d ≤ R.locals
  omega
theorem sn_callv (X : CX p l e R s m args below meth c w own cc nL rt d) {y ci n idx N : Nat} {C : String} {T : u_T} (hr : vwCl[ci]? = some (C, T, N)) (hc : ci < 12) (hl1 : Cond.methodLink own idx (pm_yn y) ∈ wG) (hl2 : Cond.instanceMethod (pm_yn y) ∈ wG) (hl3 : Cond.selects C (pm_yn y) (pm_yn y) ∈ wG) (hini : Cond.initialized (pm_yn y).cls ∈ wG) (hcw : Cond.code (pm_yn y) (pm_cc y) (pm_nl y) (pm_rt y) ∈ wG) (hn19 : pm_nl y ≤ 19)
    (hds : (pm_yn y).cls ≠ "java/lang/invoke/MethodHandle" ∧ (pm_yn y).cls ≠ "java/lang/invoke/VarHandle" ∧ (parseMethodDescriptor (pm_yn y).desc).map (fun d => d.parameters.length) = some n) (hd : decode cc pc = .ok (.invokevirtual idx, 3)) : SN p l e R s m args below meth c Q w cc nL rt d (i_call y ci n (pc + 3)) pc := by
  intro C0 ls st h K K2 hi hC hK hR H locs lr hH hlo hl hnl
  unfold i_call at hi
  have hpp := pop_of _ _ _ _ hi
  clear hi
  obtain ⟨as, st', rfl, hlen, hi⟩ := hpp
  rw [List.append_nil] at hi
  split at hi
  next a st =>
    obtain ⟨hka, hi⟩ := hi
    cases hb : Nat.ble (pm_w st) 8 with
    | false => rw [hb] at hi; exact hi.elim
    | true =>
      rw [hb] at hi
      have hw8 : pm_w st ≤ 8 := Nat.le_of_ble_eq_true hb
      have hM := hC y _ h _ hi
      obtain ⟨h5, cell, q1, q2, q3, q4⟩ := ob_at hH hka hc hr
      have ha : ¬ a = 0 := by omega
      refine w_grown fun z1 z2 => ?_
      have hf := rm_call X hH z1 z2
      refine after_run hlo (rest := st.map (cv w)) (va_runV (b := sgA w a) (As := as.map (cv w)) ⟨X.1, X.2.1, X.2.2.2.1, X.2.2.2.2.1, X.2.2.2.2.2.1⟩ hM ⟨callB_y X hl1 hini hcw hn19 hds _ _, X.2.2.2.2.2.1 _ hl2, X.2.2.2.2.2.1 _ hl3⟩ ⟨blindP w _ h, ⟨cell, q1, by rw [q3]; rfl, by rw [q2]; exact (X.2.2.2.2.2.2.2.1.1.1 ci _ hr).2.1⟩, fun U hU hW => ⟨?_, ?_, X.2.2.2.2.2.2.2.1.warm hW⟩⟩ rfl (by simp [hlen]) hl.1 ?_ ?_ hd hf) (fun r h' k1 H' locs' k2 k3 => ?_)
      · rw [List.map_cons, cv_r w ha]
      · rw [hU]; exact hH.moved hW.alike
      · show ((as.reverse ++ (2, a) :: st).map (cv w)) = _
        rw [List.map_append, List.map_reverse, List.map_cons, cv_r w ha]
      · show 2 * 0 + ((st.map (cv w)).map fun v => v.category).sum ≤ 8
        rw [cat_w]; omega
      · rw [ret_map]
        exact hK _ _ _ _ k1 H' locs' lr k2 k3 hl hnl
  next => exact hi.elim
theorem sn_calli (X : CX p l e R s m args below meth c w own cc nL rt d) {y ci n idx N : Nat} {C : String} {T : u_T} (hr : vwCl[ci]? = some (C, T, N)) (hc : ci < 12) (hl1 : Cond.methodLink own idx (pm_yn y) ∈ wG) (hl2 : Cond.instanceMethod (pm_yn y) ∈ wG) (hnm : (pm_yn y).name = "<init>") (hini : Cond.initialized (pm_yn y).cls ∈ wG) (hrt : pm_rt y = none) (hcw : Cond.code (pm_yn y) (pm_cc y) (pm_nl y) (pm_rt y) ∈ wG) (hn19 : pm_nl y ≤ 19)
    (hds : (pm_yn y).cls ≠ "java/lang/invoke/MethodHandle" ∧ (pm_yn y).cls ≠ "java/lang/invoke/VarHandle" ∧ (parseMethodDescriptor (pm_yn y).desc).map (fun d => d.parameters.length) = some n) (hd : decode cc pc = .ok (.invokespecial idx, 3)) : SN p l e R s m args below meth c Q w cc nL rt d (i_call y ci n (pc + 3)) pc := by
  intro C0 ls st h K K2 hi hC hK hR H locs lr hH hlo hl hnl
  unfold i_call at hi
  have hpp := pop_of _ _ _ _ hi
  clear hi
  obtain ⟨as, st', rfl, hlen, hi⟩ := hpp
  rw [List.append_nil] at hi
  split at hi
  next a st =>
    obtain ⟨hka, hi⟩ := hi
    cases hb : Nat.ble (pm_w st) 8 with
    | false => rw [hb] at hi; exact hi.elim
    | true =>
      rw [hb] at hi
      have hw8 : pm_w st ≤ 8 := Nat.le_of_ble_eq_true hb
      have hM := hC y _ h _ hi
      obtain ⟨h5, cell, q1, q2, q3, q4⟩ := ob_at hH hka hc hr
      have ha : ¬ a = 0 := by omega
      refine w_grown fun z1 z2 => ?_
      have hf := rm_call X hH z1 z2
      have hcb := callB_y X hl1 hini hcw hn19 hds (NB - hn h).toNat (SB - hs h).toNat
      rw [hrt] at hcb
      refine after_run hlo (rest := st.map (cv w)) (va_runI (b := sgA w a) (As := as.map (cv w)) ⟨X.1, X.2.1, X.2.2.2.1, X.2.2.2.2.1, X.2.2.2.2.2.1⟩ hM ⟨hcb, hnm, X.2.2.2.2.2.1 _ hl2⟩ ⟨blindP w _ h, fun U hU hW => ⟨?_, ?_, X.2.2.2.2.2.2.2.1.warm hW⟩⟩ rfl (by simp [hlen]) hl.1 ?_ ?_ hd hf) (fun r h' k1 H' locs' k2 k3 => ?_)
      · rw [List.map_cons, cv_r w ha]
      · rw [hU]; exact hH.moved hW.alike
      · show ((as.reverse ++ (2, a) :: st).map (cv w)) = _
        rw [List.map_append, List.map_reverse, List.map_cons, cv_r w ha]
      · show 2 * 0 + ((st.map (cv w)).map fun v => v.category).sum ≤ 8
        rw [cat_w]; omega
      · rw [ret_map]
        exact hK _ _ _ _ k1 H' locs' lr k2 k3 hl hnl
  next => exact hi.elim
theorem sn_calln (X : CX p l e R s m args below meth c w own cc nL rt d) {y ci n idx N : Nat} {C : String} {T : u_T} (hr : vwCl[ci]? = some (C, T, N)) (hc : ci < 12) (hl1 : Cond.methodLinkNest own idx (pm_yn y) RX10 ∈ nestW) (hl2 : Cond.instanceMethod (pm_yn y) ∈ wG) (hnm : (pm_yn y).name = "<init>") (hini : Cond.initialized (pm_yn y).cls ∈ wG) (hrt : pm_rt y = none) (hcw : Cond.code (pm_yn y) (pm_cc y) (pm_nl y) (pm_rt y) ∈ wG) (hn19 : pm_nl y ≤ 19)
    (hds : (pm_yn y).cls ≠ "java/lang/invoke/MethodHandle" ∧ (pm_yn y).cls ≠ "java/lang/invoke/VarHandle" ∧ (parseMethodDescriptor (pm_yn y).desc).map (fun d => d.parameters.length) = some n) (hd : decode cc pc = .ok (.invokespecial idx, 3)) : SN p l e R s m args below meth c Q w cc nL rt d (i_call y ci n (pc + 3)) pc := by
  intro C0 ls st h K K2 hi hC hK hR H locs lr hH hlo hl hnl
  unfold i_call at hi
  have hpp := pop_of _ _ _ _ hi
  clear hi
  obtain ⟨as, st', rfl, hlen, hi⟩ := hpp
  rw [List.append_nil] at hi
  split at hi
  next a st =>
    obtain ⟨hka, hi⟩ := hi
    cases hb : Nat.ble (pm_w st) 8 with
    | false => rw [hb] at hi; exact hi.elim
    | true =>
      rw [hb] at hi
      have hw8 : pm_w st ≤ 8 := Nat.le_of_ble_eq_true hb
      have hM := hC y _ h _ hi
      obtain ⟨h5, cell, q1, q2, q3, q4⟩ := ob_at hH hka hc hr
      have ha : ¬ a = 0 := by omega
      refine w_grown fun z1 z2 => ?_
      have hf := rm_call X hH z1 z2
      have hgd := good_ws hcw
      have hws : pm_ws y = Cond.code (pm_yn y) (pm_cc y) (pm_nl y) none :: wG := by unfold pm_ws; rw [hrt]
      have hcb : va_CN R s args own idx (pm_yn y) RX10 (pm_cc y) (pm_nl y) none (pm_ws y) { frames := d, cells := (NB - hn h).toNat, slots := (SB - hs h).toNat, locals := 38 * d } (NB - hn h).toNat (SB - hs h).toNat n :=
        va_cnB n X.2.2.2.2.2.1 hgd hws rfl rfl (X.2.2.2.2.2.2.2.1.2.1 _ hl1) (X.2.2.2.2.2.1 _ hini) hds ⟨X.2.2.2.2.2.2.2.2.2.1, by
          have := X.2.2.2.2.2.2.2.2.2.2
          show 8 + (pm_nl y + 11) + 38 * d ≤ R.locals
          omega⟩
      refine after_run hlo (rest := st.map (cv w)) (va_runIN (b := sgA w a) (As := as.map (cv w)) ⟨X.1, X.2.1, X.2.2.2.1, X.2.2.2.2.1, X.2.2.2.2.2.1⟩ hM ⟨hcb, hnm, X.2.2.2.2.2.1 _ hl2⟩ ⟨blindP w _ h, fun U hU hW => ⟨?_, ?_, X.2.2.2.2.2.2.2.1.warm hW⟩⟩ rfl (by simp [hlen]) hl.1 ?_ ?_ hd hf) (fun r h' k1 H' locs' k2 k3 => ?_)
      · rw [List.map_cons, cv_r w ha]
      · rw [hU]; exact hH.moved hW.alike
      · show ((as.reverse ++ (2, a) :: st).map (cv w)) = _
        rw [List.map_append, List.map_reverse, List.map_cons, cv_r w ha]
      · show 2 * 0 + ((st.map (cv w)).map fun v => v.category).sum ≤ 8
        rw [cat_w]; omega
      · rw [ret_map]
        exact hK _ _ _ _ k1 H' locs' lr k2 k3 hl hnl
  next => exact hi.elim
theorem sn_cals (X : CX p l e R s m args below meth c w own cc nL rt d) {y n idx : Nat} (hl1 : Cond.methodLink own idx (pm_yn y) ∈ wG) (hl2 : Cond.static (pm_yn y) ∈ wG) (hini : Cond.initialized (pm_yn y).cls ∈ wG) (hcw : Cond.code (pm_yn y) (pm_cc y) (pm_nl y) (pm_rt y) ∈ wG) (hn19 : pm_nl y ≤ 19)
    (hds : (pm_yn y).cls ≠ "java/lang/invoke/MethodHandle" ∧ (pm_yn y).cls ≠ "java/lang/invoke/VarHandle" ∧ (parseMethodDescriptor (pm_yn y).desc).map (fun d => d.parameters.length) = some n) (hd : decode cc pc = .ok (.invokestatic idx, 3)) : SN p l e R s m args below meth c Q w cc nL rt d (i_cals y n (pc + 3)) pc := by
  intro C0 ls st h K K2 hi hC hK hR H locs lr hH hlo hl hnl
  unfold i_cals at hi
  have hpp := pop_of _ _ _ _ hi
  clear hi
  obtain ⟨as, st, rfl, hlen, hi⟩ := hpp
  rw [List.append_nil] at hi
  cases hb : Nat.ble (pm_w st) 8 with
  | false => rw [hb] at hi; exact hi.elim
  | true =>
    rw [hb] at hi
    have hw8 : pm_w st ≤ 8 := Nat.le_of_ble_eq_true hb
    have hM := hC y _ h _ hi
    refine w_grown fun z1 z2 => ?_
    have hf := rm_call X hH z1 z2
    refine after_run hlo (rest := st.map (cv w)) (va_runS (As := as.map (cv w)) ⟨X.1, X.2.1, X.2.2.2.1, X.2.2.2.2.1, X.2.2.2.2.2.1⟩ hM ⟨callB_y X hl1 hini hcw hn19 hds _ _, X.2.2.2.2.2.1 _ hl2⟩ ⟨blindP w _ h, fun U hU hW => ⟨rfl, ?_, X.2.2.2.2.2.2.2.1.warm hW⟩⟩ rfl (by simp [hlen]) hl.1 ?_ ?_ hd hf) (fun r h' k1 H' locs' k2 k3 => ?_)
    · rw [hU]; exact hH.moved hW.alike
    · show ((as.reverse ++ st).map (cv w)) = _
      rw [List.map_append, List.map_reverse]
    · show 2 * 0 + ((st.map (cv w)).map fun v => v.category).sum ≤ 8
      rw [cat_w]; omega
    · rw [ret_map]
      exact hK _ _ _ _ k1 H' locs' lr k2 k3 hl hnl
end
