/-! System.arraycopy, clone, checkcast of an int[] -/
theorem sp_slots (at_ : Nat) : ∀ (xs : List Value) (i : Nat) (cl0 : Cell), at_ + i + xs.length ≤ cl0.slots.size → (cl0.storePairs at_ (xs.zipIdx i)).slots.size = cl0.slots.size ∧ (cl0.storePairs at_ (xs.zipIdx i)).cls = cl0.cls ∧ (cl0.storePairs at_ (xs.zipIdx i)).vm = cl0.vm ∧ ∀ j : Nat, (cl0.storePairs at_ (xs.zipIdx i)).slots[j]? = if at_ + i ≤ j ∧ j < at_ + i + xs.length then some (xs.getD (j - (at_ + i)) .null) else cl0.slots[j]?
  | [], i, cl0, h => by
    refine ⟨rfl, rfl, rfl, fun j => ?_⟩
    show cl0.slots[j]? = _
    rw [if_neg (by simp only [List.length_nil]; omega)]
  | x :: xs, i, cl0, h => by
    rw [List.zipIdx_cons]
    have hsz : (cl0.setSlot (at_ + i) x).slots.size = cl0.slots.size := by simp [Cell.setSlot]
    obtain ⟨h1, h2, h3, h4⟩ := sp_slots at_ xs (i + 1) (cl0.setSlot (at_ + i) x) (by rw [hsz]; simp only [List.length_cons] at h; omega)
    refine ⟨?_, ?_, ?_, fun j => ?_⟩
    · show ((cl0.setSlot (at_ + i) x).storePairs at_ (xs.zipIdx (i + 1))).slots.size = _
      rw [h1, hsz]
    · show ((cl0.setSlot (at_ + i) x).storePairs at_ (xs.zipIdx (i + 1))).cls = _
      rw [h2]; rfl
    · show ((cl0.setSlot (at_ + i) x).storePairs at_ (xs.zipIdx (i + 1))).vm = _
      rw [h3]; rfl
    · show ((cl0.setSlot (at_ + i) x).storePairs at_ (xs.zipIdx (i + 1))).slots[j]? = _
      rw [h4]
      simp only [List.length_cons] at h ⊢
      by_cases hj : j = at_ + i
      · subst hj
        rw [if_neg (by omega), if_pos (by omega), Cell.slots_setSlot_self _ (by omega)]
        simp
      · rw [slot_ne _ _ (Ne.symm hj)]
        by_cases hr : at_ + (i + 1) ≤ j ∧ j < at_ + (i + 1) + xs.length
        · rw [if_pos hr, if_pos (by omega), show j - (at_ + i) = (j - (at_ + (i + 1))) + 1 by omega, List.getD_cons_succ]
        · rw [if_neg hr, if_neg (by omega)]
theorem RH.putG {w : WT} {U : State} {h h' : PH} {H H' : Heap} {a : Int} {cell cell' : Cell} (x : RH w U h H) (e1 : hn h' = hn h) (e2 : hs h' = hs h) (e3 : ∀ b, hk h' b = hk h b) (e4 : ∀ g b j, b ≠ a → hv h' g b j = hv h g b j) (ha : 5 ≤ a) (h12 : 12 ≤ (hk h a).1) (hc : H[sgA w a]? = some cell) (hc' : H'[sgA w a]? = some cell') (hz : cell'.slots.size = cell.slots.size) (hH : H'.size = H.size) (ho : ∀ q, q ≠ sgA w a → H'[q]? = H[q]?)
    (k2 : (hk h a).1 < 18 → CRa w U h' H' a (hk h a).1 (hk h a).2) : RH w U h' H' := by
  obtain ⟨h1, h2, h3, h4, h5, h6, h7⟩ := x
  refine ⟨⟨by rw [e1]; exact h1.1, by rw [hH, e1]; exact h1.2⟩, ⟨by rw [e1, e2]; exact h2.1, by rw [SU_set hH hc hc' hz ho, e2]; exact h2.2⟩, fun q hq => ?_, h4, fun b hb => ?_, fun b hb => ?_, fun b hb1 hb2 => ?_⟩
  · rw [ho q (by rw [sg_ge ha]; omega)]; exact h3 q hq
  · rw [e3] at hb; rw [e1]; exact h5 b hb
  · rw [e3] at hb ⊢
    have hba : b ≠ a := fun z => by rw [z] at hb; omega
    obtain ⟨c1, r, c2, cell1, d1, d2, d3, d4⟩ := h6 b hb
    refine ⟨c1, r, c2, cell1, ?_, d2, d3, fun k hkk => ?_⟩
    · rw [ho _ (sg_ne h4 ha (by omega) hba)]; exact d1
    · have z := d4 k hkk
      dsimp only
      rw [e4 _ _ _ hba]; exact z
  · rw [e3] at hb1 hb2 ⊢
    by_cases hba : b = a
    · subst hba; exact k2 hb2
    · obtain ⟨c0, cell1, d1, d2, d3, d4, d5, d6⟩ := h7 b hb1 hb2
      refine ⟨c0, cell1, ?_, d2, d3, d4, d5, fun j hj => ?_⟩
      · rw [ho _ (sg_ne h4 ha (h5 b hb2).1 hba)]; exact d1
      · rw [e4 _ _ _ hba]; exact d6 j hj
theorem RH.newG {w : WT} {U : State} {h h' : PH} {H H' : Heap} {k : Nat} {n : Int} {cell : Cell} (x : RH w U h H) (e1 : hn h' = hn h + 1) (e2 : hs h' = hs h + n) (e3 : ∀ b, hk h' b = if b = hn h then (k, n) else hk h b) (e4 : ∀ g b j, b ≠ hn h → hv h' g b j = hv h g b j) (h12 : 12 ≤ k) (hbn : hn h + 1 ≤ NB) (hbs : hs h + n ≤ SB) (hm : (cell.slots.size : Int) = n) (hH : H'.size = H.size + 1) (hc : H'[H.size]? = some cell) (ho : ∀ q, q < H.size → H'[q]? = H[q]?)
    (k2 : k < 18 → n < 2147483648 ∧ U.isArrayOf cell (pm_aty k) ∧ cell.vm = .none ∧ va_RA U cell.cls (pm_aty k) ∧ ∀ j : Nat, (j : Int) < n → cell.slots[j]? = some (cv w (pm_atg k, hv h' (64 * k) (hn h) j))) : RH w U h' H' := by
  obtain ⟨h1, h2, h3, h4, h5, h6, h7⟩ := x
  have hsg : sgA w (hn h) = H.size := by rw [sg_ge h1.1]; omega
  have hlt : ∀ b, 1 ≤ b → b < hn h → sgA w b < H.size := fun b hb0 hb => by
    by_cases hb5 : b < 5
    · have := sg_lt h4 hb5; omega
    · rw [sg_ge (by omega)]; omega
  refine ⟨⟨by omega, by rw [e1, hH]; omega⟩, ⟨by have := h2.1; omega, ?_⟩, fun q hq => ?_, h4, fun b hb => ?_, fun b hb => ?_, fun b hb1 hb2 => ?_⟩
  · rw [SU_new rfl hH hc ho, e2]; omega
  · rw [ho q (by omega)]; exact h3 q hq
  · by_cases hbn : b = hn h
    · subst hbn; omega
    · rw [e3, if_neg hbn] at hb
      have := h5 b hb
      omega
  · by_cases hbn : b = hn h
    · rw [e3, if_pos hbn] at hb; exact absurd hb (by show ¬ k < 12; omega)
    · rw [e3, if_neg hbn] at hb ⊢
      obtain ⟨c1, r, c2, cell1, d1, d2, d3, d4⟩ := h6 b hb
      refine ⟨c1, r, c2, cell1, ?_, d2, d3, fun k hkk => ?_⟩
      · rw [ho _ (hlt b (by omega) (h5 b (by omega)).2)]; exact d1
      · have z := d4 k hkk
        dsimp only
        rw [e4 _ _ _ hbn]; exact z
  · by_cases hbn : b = hn h
    · subst hbn
      rw [e3, if_pos rfl] at hb1 hb2 ⊢
      obtain ⟨z1, z2, z3, z4, z5⟩ := k2 hb2
      exact ⟨⟨by show 0 ≤ n; omega, z1⟩, cell, by rw [hsg]; exact hc, z2, (fun z => by rw [z3] at z; cases z), ⟨fun _ => z3, fun _ => z4⟩, ⟨by omega, fun _ => hm⟩, z5⟩
    · rw [e3, if_neg hbn] at hb1 hb2 ⊢
      obtain ⟨c0, cell1, d1, d2, d3, d4, d5, d6⟩ := h7 b hb1 hb2
      refine ⟨c0, cell1, ?_, d2, d3, d4, d5, fun j hj => ?_⟩
      · rw [ho _ (hlt b (h5 b hb2).1 (h5 b hb2).2)]; exact d1
      · rw [e4 _ _ _ hbn]; exact d6 j hj
section
variable {p : Program} {l : Launch} {e : Env} {R : Room} {s : State} {m : MethodId} {args : Array Value} {below : List Frame} {meth : Method} {c : Code} {Q : State → Prop} {w : WT} {own : String} {cc : ByteArray} {nL : Nat} {rt : Option FieldType} {d : Nat} {pc : Nat}
theorem sn_cast (X : CX p l e R s m args below meth c w own cc nL rt d) {idx : Nat} (hcl : Cond.classLink own idx "[I" ∈ wG) (hd : decode cc pc = .ok (.checkcast idx, 3)) : SN p l e R s m args below meth c Q w cc nL rt d (i_cast (pc + 3)) pc := by
  intro C ls st h K K2 hi hC hK hR H locs lr hH hlo hl hnl
  unfold i_cast at hi
  split at hi
  next a st =>
    obtain ⟨⟨hka, h5⟩, hi⟩ := hi
    obtain ⟨ha, c0, cell, d1, d2, d3, d4, d5, d6⟩ := ar_at hH hka (by decide) (by decide)
    have h3 := hK _ _ _ _ hi H locs lr hH hlo hl hnl
    rw [List.map_cons, cv_r w ha] at h3 ⊢
    intro T hT Xs
    obtain ⟨vm', X', st'⟩ := Xs.checkcastYes X.1 X.2.2.2.2.1 (X.2.2.2.2.2.1 _ hcl) (by rw [hT]; exact d1) (by rw [d4.1 h5]; rfl) (va_nm_int (d4.2 (Or.inr h5))) (va_asg _ _) (g := F0 m pc lr (.ref (sgA w a) :: st.map (cv w))) rfl rfl (by rw [X.2.1]; exact hd)
    obtain ⟨t, a1, b1⟩ := h3 (T.setVm vm') hT X'
    exact ⟨t, st' t a1, b1⟩
  next => exact hi.elim
theorem sn_clon (X : CX p l e R s m args below meth c w own cc nL rt d) {idx : Nat} (h1 : Cond.methodLink own idx ⟨"[I", "clone", "()Ljava/lang/Object;"⟩ ∈ wG) (h2 : Cond.sameMethod "[I" "java/lang/Object" "clone" "()Ljava/lang/Object;" ∈ wG) (h3 : Cond.native ⟨"java/lang/Object", "clone", "()Ljava/lang/Object;"⟩ ∈ wG) (h4 : Cond.instanceMethod ⟨"java/lang/Object", "clone", "()Ljava/lang/Object;"⟩ ∈ wG)
    (h5 : Cond.selects "[I" ⟨"[I", "clone", "()Ljava/lang/Object;"⟩ ⟨"java/lang/Object", "clone", "()Ljava/lang/Object;"⟩ ∈ wG) (hd : decode cc pc = .ok (.invokevirtual idx, 3)) : SN p l e R s m args below meth c Q w cc nL rt d (i_clon (pc + 3)) pc := by
  intro C ls st h K K2 hi hC hK hR H locs lr hH hlo hl hnl
  unfold i_clon at hi
  split at hi
  next a st =>
    obtain ⟨⟨hka, h25, hb1, hb2⟩, hi⟩ := hi
    cases hb : Nat.ble (pm_w st) 8 with
    | false => rw [hb] at hi; exact hi.elim
    | true =>
      rw [hb] at hi
      have hw8 : pm_w st ≤ 8 := Nat.le_of_ble_eq_true hb
      obtain ⟨ha, c0, cell, d1, d2, d3, d4, d5, d6⟩ := ar_at hH hka (by decide) (by decide)
      have d5x := d5.2 (by omega)
      refine w_grown fun z1 z2 => ?_
      obtain ⟨r1, r2⟩ := rm_new X hH z1 z2 d5x hb1 hb2
      have hloc := X.2.2.2.2.2.2.2.2.2.2
      have hfr := X.2.2.2.2.2.2.2.2.2.1
      have hnm := va_nm_int (d4.2 h25)
      obtain ⟨cI, cT, f1, f2, f3⟩ := Cond.castable_spec (va_Nw.use (A := args) rfl X.2.2.2.2.2.2.2.1.2.2.2.1)
      cases hnm.symm.trans f1
      have hz : (H.size : Nat) = sgA w (hn h) := by
        have a1 := hH.1
        rw [sg_ge a1.1]; omega
      have hg : (H.push ({ cls := cell.cls, slots := cell.slots } : Cell))[H.size]? = some _ := Array.getElem?_push_size
      have hvv : ∀ j : Nat, (j : Int) < (hk h a).2 → hv (hcopy (hnew h 12 (hk h a).2 (hk h a).2) 768 a 0 (hn h) 0 (hk h a).2) 768 (hn h) j = hv h 768 a j := fun j hj => by
        show (if 768 = 768 ∧ hn h = hn h ∧ (0 : Int) ≤ j ∧ (j : Int) < 0 + (hk h a).2 then (if a = hn h then 0 else hv h 768 a (0 + (j - 0))) else _) = _
        rw [if_pos ⟨rfl, rfl, by omega, by omega⟩, if_neg (by have := hH.2.2.2.2.1 a (by rw [hka]; decide); omega)]
        congr 1
        omega
      have h9 := hK _ _ _ _ hi (H.push ({ cls := cell.cls, slots := cell.slots } : Cell)) locs lr (hH.newG (h' := hcopy (hnew h 12 (hk h a).2 (hk h a).2) 768 a 0 (hn h) 0 (hk h a).2) (cell := ({ cls := cell.cls, slots := cell.slots } : Cell)) (k := 12) (n := (hk h a).2) rfl rfl (fun b => rfl) (fun g b j hne => by
          show (if g = 768 ∧ b = hn h ∧ _ then _ else (if b = hn h then 0 else hv h g b j)) = _
          rw [if_neg (fun z => hne z.2.1), if_neg hne]) (by decide) hb1 hb2 d5x (by simp) hg (fun q hq => by rw [Array.getElem?_push, if_neg (Nat.ne_of_lt hq)])
          (fun _ => ⟨c0.2, ⟨(fun k z => by cases z), d2.2⟩, rfl, d4.2 h25, fun j hj => by rw [hvv j hj]; exact d6 j hj⟩)) hlo hl hnl
      rw [List.map_cons, cv_r w (show ¬ hn h = 0 by have := hH.1.1; omega), ← hz] at h9
      rw [List.map_cons, cv_r w ha]
      intro T hT Xs
      obtain ⟨-, kA, hkA, comp, hkind⟩ := State.isArrayOf_alike Xs.warmed.alike d2
      obtain ⟨hstat, kS, hkS, compS, hkindS⟩ := d2
      obtain ⟨vm', X', st'⟩ := Xs.cloneArray X.1 X.2.2.2.2.1 (X.2.2.2.2.2.1 _ h1) (X.2.2.2.2.2.1 _ h2) (X.2.2.2.2.2.1 _ h3) (X.2.2.2.2.2.1 _ h4) (X.2.2.2.2.2.1 _ h5) (a := sgA w a) (cell := cell) (by rw [hT]; exact d1) hstat d3 hnm f2 f3
        (fun i v hvi => by
          have hlt : i < cell.slots.size := (Array.getElem?_eq_some_iff.mp hvi).1
          rw [d6 i (by omega)] at hvi
          cases hvi
          have hk' : T.vm.classes[cell.cls]? = some kA := hkA
          have hfit : fits .int (cv w (pm_atg 12, hv h 768 a i)) = true := rfl
          simpa [State.fitsSlot, State.slotType?, hk', hkind, pm_aty] using hfit)
        (g := F0 m pc lr (.ref (sgA w a) :: st.map (cv w))) rfl (by rw [X.2.2.2.1]; exact hl.1) rfl (by rw [X.2.1]; exact hd) (by omega) (by
          show 2 * 0 + ((st.map (cv w)).map fun v => v.category).sum + 14 ≤ R.locals
          rw [cat_w]; omega) r1 r2 (hloader := Vm.clonesLoader_of_array hkS hkindS)
      obtain ⟨t, a1, b1⟩ := w_tight h9 _ (by rw [← hT]; rfl) X'
      rw [hT] at st'
      exact ⟨t, st' t a1, b1⟩
  next => exact hi.elim
theorem sn_copy (X : CX p l e R s m args below meth c w own cc nL rt d) {idx : Nat} (h1 : Cond.methodLink own idx arraycopyName ∈ wG) (h2 : Cond.native arraycopyName ∈ wG) (h3 : Cond.static arraycopyName ∈ wG) (h4 : Cond.initialized "java/lang/System" ∈ wG) (hd : decode cc pc = .ok (.invokestatic idx, 3)) : SN p l e R s m args below meth c Q w cc nL rt d (i_copy (pc + 3)) pc := by
  intro C ls st h K K2 hi hC hK hR H locs lr hH hlo hl hnl
  unfold i_copy at hi
  split at hi
  next n dp b sp a st =>
    obtain ⟨⟨hka, hkb, hb5, hsp, hdp, hn0, hs1, hd1⟩, hi⟩ := hi
    cases hb : Nat.ble (pm_w st) 8 with
    | false => rw [hb] at hi; exact hi.elim
    | true =>
      rw [hb] at hi
      have hw8 : pm_w st ≤ 8 := Nat.le_of_ble_eq_true hb
      obtain ⟨ha, c0, cell, d1, d2, d3, d4, d5, d6⟩ := ar_at hH hka (by decide) (by decide)
      obtain ⟨hb0, g0, celld, g1, g2, g3, g4, g5, g6⟩ := ar_at hH hkb (by decide) (by decide)
      have hloc := X.2.2.2.2.2.2.2.2.2.2
      have hfr := X.2.2.2.2.2.2.2.2.2.1
      have isp : inI sp := ⟨by omega, by omega⟩
      have idp : inI dp := ⟨by omega, by omega⟩
      have inn : inI n := ⟨by omega, by omega⟩
      have esp : (Int32.ofInt sp).toNatClampNeg = sp.toNat := Int32.toNatClampNeg_ofInt_of_le isp.1 isp.2
      have edp : (Int32.ofInt dp).toNatClampNeg = dp.toNat := Int32.toNatClampNeg_ofInt_of_le idp.1 idp.2
      have enn : (Int32.ofInt n).toNatClampNeg = n.toNat := Int32.toNatClampNeg_ofInt_of_le inn.1 inn.2
      obtain ⟨hobs, ks, hks, cs, hkks⟩ := d2
      obtain ⟨hobd, kd, hkd, cd, hkkd⟩ := g2
      have hst : (cell.stretch sp.toNat n.toNat).length = n.toNat := by simp [Cell.stretch]
      obtain ⟨s1, s2, s3, s4⟩ := sp_slots dp.toNat (cell.stretch sp.toNat n.toNat) 0 celld (by rw [hst]; omega)
      generalize hcc : celld.storePairs dp.toNat ((cell.stretch sp.toNat n.toNat).zipIdx 0) = cell' at s1 s2 s3 s4
      have hlt : sgA w b < H.size := (Array.getElem?_eq_some_iff.mp g1).1
      have hgs : ∀ j : Nat, j < n.toNat → (cell.stretch sp.toNat n.toNat).getD j .null = cv w (0, hv h 768 a (sp + j)) := fun j hj => by
        unfold Cell.stretch
        rw [List.getD_eq_getElem?_getD, List.getElem?_map, List.getElem?_range (by omega)]
        show cell.slots.getD (sp.toNat + j) .null = _
        rw [Array.getD_eq_getD_getElem?, d6 (sp.toNat + j) (by push_cast; omega)]
        show cv w (0, hv h 768 a ((sp.toNat + j : Nat) : Int)) = _
        rw [show ((sp.toNat + j : Nat) : Int) = sp + j by omega]
      have h9 := hK _ _ _ _ hi (H.setIfInBounds (sgA w b) cell') (locs ++ (cell.stretch (Int32.ofInt sp).toNatClampNeg (Int32.ofInt n).toNatClampNeg).zipIdx.map fun q => ⟨sgA w b, (Int32.ofInt dp).toNatClampNeg + q.2⟩) lr
        (hH.putG (h' := hcopy h 768 a sp b dp n) (cell' := cell') rfl rfl (fun _ => rfl) (fun g x j hne => by
          show (if g = 768 ∧ x = b ∧ _ then _ else hv h g x j) = _
          rw [if_neg (fun z => hne z.2.1)]) hb5 (by rw [hkb]; decide) g1 (by simp [Array.getElem?_setIfInBounds, hlt]) s1 (by simp) (fun q hq => by simp [Array.getElem?_setIfInBounds, Ne.symm hq]) (fun _ => by
          rw [hkb]
          refine ⟨g0, cell', by simp [Array.getElem?_setIfInBounds, hlt], ⟨?_, ?_⟩, ?_, ⟨?_, ?_⟩, ?_, ?_⟩
          · rw [s3]; exact hobd
          · rw [s2]; exact ⟨kd, hkd, cd, hkkd⟩
          · rw [s3]; exact g3
          · rw [s3]; exact g4.1
          · rw [s2]; exact g4.2
          · rw [s1]; exact g5
          · intro j hj
            rw [s4, hst]
            show _ = some (cv w (0, (if 768 = 768 ∧ b = b ∧ dp ≤ (j : Int) ∧ (j : Int) < dp + n then hv h 768 a (sp + (j - dp)) else hv h 768 b j)))
            by_cases hr : dp.toNat + 0 ≤ j ∧ j < dp.toNat + 0 + n.toNat
            · rw [if_pos hr, if_pos ⟨rfl, rfl, by omega, by omega⟩, hgs _ (by omega)]
              congr 4
              omega
            · rw [if_neg hr, if_neg (fun z => hr ⟨by omega, by omega⟩)]
              exact g6 j hj)) (fun q hq => by
          rcases List.mem_append.mp hq with z | z
          · exact hlo q z
          · obtain ⟨y, -, hy⟩ := List.mem_map.mp z
            rw [← hy]
            show w.2.2.size ≤ sgA w b
            rw [sg_ge hb5]; omega) hl hnl
      rw [List.map_cons, List.map_cons, List.map_cons, List.map_cons, List.map_cons, cv_r w ha, cv_r w hb0, cv_i, cv_i, cv_i]
      intro T hT Xs
      obtain ⟨vm', X', step⟩ := Xs.arraycopy X.1 X.2.2.2.2.1 (X.2.2.2.2.2.1 _ h1) (X.2.2.2.2.2.1 _ h2) (X.2.2.2.2.2.1 _ h3) (X.2.2.2.2.2.1 _ h4) (src := sgA w a) (dst := sgA w b) (cs := cell) (cd := celld) (srcPos := Int32.ofInt sp) (destPos := Int32.ofInt dp) (n := Int32.ofInt n) (by rw [hT]; exact d1) (by rw [hT]; exact g1)
        hobs hobd d3 g3 hks hkd hkks hkkd (by decide) (fun z => absurd ((oI_lt0 isp).mp z) (by omega)) (fun z => absurd ((oI_lt0 idp).mp z) (by omega)) (fun z => absurd ((oI_lt0 inn).mp z) (by omega))
        (by rw [oI_t isp, oI_t inn]; have := d5.1; omega) (by rw [oI_t idp, oI_t inn]; have := g5.1; omega)
        (fun vm₁ _ i hi9 => by
          rw [enn] at hi9
          have e9 : cell.slots.getD ((Int32.ofInt sp).toNatClampNeg + i) .null = .int (Int32.ofInt (hv h 768 a ((sp.toNat + i : Nat) : Int))) := by
            rw [esp, Array.getD_eq_getD_getElem?, d6 (sp.toNat + i) (by push_cast; omega)]
            rfl
          rw [e9]
          exact ⟨rfl, trivial⟩)
        (g := F0 m pc lr (.int (Int32.ofInt n) :: .int (Int32.ofInt dp) :: .ref (sgA w b) :: .int (Int32.ofInt sp) :: .ref (sgA w a) :: st.map (cv w))) rfl (by rw [X.2.2.2.1]; exact hl.1) (rest := st.map (cv w)) rfl (by rw [X.2.1]; exact hd) (by omega) (by
          show 2 * 0 + ((st.map (cv w)).map fun v => v.category).sum + (nativeFrameWords "java/lang/System" "arraycopy" 5 + 11) ≤ R.locals
          rw [cat_w]
          have : nativeFrameWords "java/lang/System" "arraycopy" 5 ≤ 15 := by decide +kernel
          omega)
      have ecp : copied cell celld (Int32.ofInt sp) (Int32.ofInt dp) (Int32.ofInt n) = cell' := by
        rw [← hcc, ← esp, ← edp, ← enn]
        rfl
      rw [ecp] at X' step
      obtain ⟨t, a1, b1⟩ := w_tight h9 _ (by rw [← hT]; rfl) X'
      exact ⟨t, step t a1, b1⟩
  next => exact hi.elim
end
