/-! the instructions that make cells; switches; returns -/
section
variable {p : Program} {l : Launch} {e : Env} {R : Room} {s : State} {m : MethodId} {args : Array Value} {below : List Frame} {meth : Method} {c : Code} {Q : State → Prop} {w : WT} {own : String} {cc : ByteArray} {nL : Nat} {rt : Option FieldType} {d : Nat} {pc : Nat}
theorem w_grown {H : Heap} {locs : List Loc} {cells slots : Nat} {g : JFrame} (k : s.heap.size ≤ H.size → SU s.heap ≤ SU H → W p l e R s m args below meth c H locs cells slots Q g) : W p l e R s m args below meth c H locs cells slots Q g := by
  intro T hT X
  refine k ?_ ?_ T hT X
  · have h1 := X.same.2.1
    have e1 : (T.setVm s.vm).heap = H := hT
    rw [e1] at h1
    exact h1
  · have hb : T.slotsTrue = true := X.book
    have hs : s.slotsTrue = true := by
      have h := X.room
      simp only [State.hasRoom, Bool.and_eq_true] at h
      exact h.2
    have hb' : T.slotsUsed = SU H := by
      have := of_decide_eq_true (by simpa [State.slotsTrue] using hb : decide (T.slotsUsed = T.heap.foldl (fun n c => n + c.slots.size) 0) = true)
      rw [this, SU_fold, hT]
    have hs' : s.slotsUsed = SU s.heap := by
      have := of_decide_eq_true (by simpa [State.slotsTrue] using hs : decide (s.slotsUsed = s.heap.foldl (fun n c => n + c.slots.size) 0) = true)
      rw [this, SU_fold]
    have h4 : T.slotsUsed = s.slotsUsed + _ := X.same.2.2.2.1
    omega
/-- how many cells and slots may still come -/
theorem rm_new (X : CX p l e R s m args below meth c w own cc nL rt d) {h : PH} {H : Heap} {n : Int} {k : Nat} (hH : RH w s h H) (z1 : s.heap.size ≤ H.size) (z2 : SU s.heap ≤ SU H) (hkn : (k : Int) = n) (h1 : hn h + 1 ≤ NB) (h2 : hs h + n ≤ SB) : H.size - s.heap.size + 1 ≤ R.cells ∧ SU H - SU s.heap + k ≤ R.slots := by
  obtain ⟨h0, hs0, e1, e2⟩ := X.2.2.2.2.2.2.2.2.1
  have a1 := hH.1
  have a2 := hH.2.1
  have b1 := hs0.1
  have b2 := hs0.2.1
  unfold NB SB at *
  rw [e1, e2]
  omega
theorem dv_cv (w : WT) {t : FieldType} (h : t ≠ .float ∧ t ≠ .double) : defaultValue t = cv w (tgT t, 0) := by
  cases t <;> first | rfl | exact absurd rfl h.1 | exact absurd rfl h.2
theorem sn_new (X : CX p l e R s m args below meth c w own cc nL rt d) {ci N idx : Nat} {C : String} {T : u_T} {W0 : Int} (hr : vwCl[ci]? = some (C, T, N)) (hc : ci < 12) (hin : ∀ q ∈ u_ws C T N, q ∈ wG) (hty : ∀ k, k < N → parseFieldDescriptor (T k).2.2.1 = some (pm_ty ci k)) (hdv : ∀ k, k < N → pm_ty ci k ≠ .float ∧ pm_ty ci k ≠ .double) (hN : (N : Int) = W0)
    (hcl : Cond.classLink own idx C ∈ wG) (hins : Cond.instantiable C N ∈ wG) (hini : Cond.initialized C ∈ wG) (hd : decode cc pc = .ok (.new idx, 3)) : SN p l e R s m args below meth c Q w cc nL rt d (i_new ci W0 (pc + 3)) pc := by
  intro C0 ls st h K K2 hi hC hK hR H locs lr hH hlo hl hnl
  obtain ⟨⟨h1, h2⟩, hi⟩ := hi
  have hKn := X.2.2.2.2.2.2.2.1.1.1 ci _ hr
  refine w_grown fun z1 z2 => ?_
  obtain ⟨r1, r2⟩ := rm_new X hH z1 z2 hN h1 h2
  refine W.newc X.1 X.2.1 X.2.2.2.2.1 (X.2.2.2.2.2.1 _ hcl) (X.2.2.2.2.2.1 _ hins) (X.2.2.2.2.2.1 _ hini) rfl hd r1 r2 fun cC kC g1 g2 g3 g4 => ?_
  have ec : w.1.1 ci = cC := Option.some.inj (hKn.2.1.symm.trans g1)
  subst ec
  have hg : (H.push (blank (w.1.1 ci) kC))[H.size]? = some (blank (w.1.1 ci) kC) := Array.getElem?_push_size
  have hborn := u_born (o := H.size) (pm_ty ci) X.2.2.2.2.2.1 hin hKn g2 hg hty
  obtain ⟨cell, b1, b2, b3, b4⟩ := hborn
  cases hg.symm.trans b1
  have hz : (H.size : Nat) = sgA w (hn h) := by
    have a1 := hH.1
    rw [sg_ge a1.1]; omega
  have h3 := hK _ _ _ _ hi (H.push (blank (w.1.1 ci) kC)) locs lr (hH.new (cell := blank (w.1.1 ci) kC) h1 h2 (by rw [← hN]; simp [blank, g4]) (by simp) hg (fun q hq => by rw [Array.getElem?_push, if_neg (Nat.ne_of_lt hq)]) (fun _ => ⟨_, hr, rfl, rfl, fun j hj => by rw [b4 j hj]; exact congrArg some (dv_cv w (hdv j hj))⟩) (fun z => absurd hc (by omega))) hlo hl hnl
  rw [List.map_cons, cv_r w (show ¬ hn h = 0 by have := hH.1.1; omega), ← hz] at h3
  exact w_tight h3
theorem sn_newa (X : CX p l e R s m args below meth c w own cc nL rt d) {ci : Nat} {at0 : ArrayType} (h12 : 12 ≤ ci) (h18 : ci < 18) (hat : newarray.typeOf at0 = pm_aty ci) (hdv : defaultValue (pm_aty ci) = cv w (pm_atg ci, 0)) (hcb : componentBytes (pm_aty ci) ≤ 8) (hra : ∀ (U : State) (cA : ClassId), U.vm.findClass ("[" ++ (pm_aty ci).toString) = some cA → va_RA U cA (pm_aty ci))
    (hw : Cond.arrayClass (newarray.typeOf at0) ∈ wG) (hd : decode cc pc = .ok (.newarray at0, 2)) : SN p l e R s m args below meth c Q w cc nL rt d (i_newa ci (pc + 2)) pc := by
  intro C0 ls st h K K2 hi hC hK hR H locs lr hH hlo hl hnl
  unfold i_newa at hi
  split at hi
  next n st =>
    obtain ⟨⟨h0, h4, h1, h2⟩, hi⟩ := hi
    have en : (Int32.ofInt n).toNatClampNeg = n.toNat := oI_ix h0 (show n < 4001 by omega) (by decide)
    refine w_grown fun z1 z2 => ?_
    obtain ⟨r1, r2⟩ := rm_new X hH z1 z2 (show ((n.toNat : Nat) : Int) = n by omega) h1 h2
    rw [List.map_cons, cv_i]
    refine W.newa X.1 X.2.1 (X.2.2.2.2.2.1 _ hw) rfl hd rfl (fun z => absurd ((oI_lt0 ⟨by omega, by omega⟩).mp z) (by omega)) ?_ r1 (by rw [en]; exact r2) fun cA kA comp g1 g2 g3 => ?_
    · rw [en, hat]
      have : n.toNat * componentBytes (pm_aty ci) ≤ 4000 * 8 := Nat.mul_le_mul (by omega) hcb
      omega
    · rw [en]
      rw [hat] at g1 g3 ⊢
      have hg : (H.push ({ cls := cA, slots := Array.replicate n.toNat (defaultValue (pm_aty ci)), vm := .none } : Cell))[H.size]? = some _ := Array.getElem?_push_size
      have hz : (H.size : Nat) = sgA w (hn h) := by
        have a1 := hH.1
        rw [sg_ge a1.1]; omega
      have h3 := hK _ _ _ _ hi _ locs lr (hH.new (k := ci) (n := n) (m := n) h1 h2 (by simp; omega) (by simp) hg (fun q hq => by rw [Array.getElem?_push, if_neg (Nat.ne_of_lt hq)]) (fun z => absurd h12 (by omega)) (fun _ _ => ⟨rfl, by omega, ⟨(fun k z => by cases z), kA, g2, comp, g3⟩, rfl, hra s cA g1, fun j hj => by
        rw [← hdv]
        simp [Array.getElem?_replicate]
        omega⟩)) hlo hl hnl
      rw [List.map_cons, cv_r w (show ¬ hn h = 0 by have := hH.1.1; omega), ← hz] at h3
      exact w_tight h3
  next => exact hi.elim
theorem sn_anew (X : CX p l e R s m args below meth c w own cc nL rt d) {ci idx : Nat} {C : String} (h12 : 12 ≤ ci) (h18 : ci < 18) (hat : pm_aty ci = .object C) (htg : pm_atg ci = 2) (hao : va_AO C s) (hcl : Cond.classLink own idx C ∈ wG) (hd : decode cc pc = .ok (.anewarray idx, 3)) : SN p l e R s m args below meth c Q w cc nL rt d (i_newa ci (pc + 3)) pc := by
  intro C0 ls st h K K2 hi hC hK hR H locs lr hH hlo hl hnl
  unfold i_newa at hi
  split at hi
  next n st =>
    obtain ⟨⟨h0, h4, h1, h2⟩, hi⟩ := hi
    have en : (Int32.ofInt n).toNatClampNeg = n.toNat := oI_ix h0 (show n < 4001 by omega) (by decide)
    refine w_grown fun z1 z2 => ?_
    obtain ⟨r1, r2⟩ := rm_new X hH z1 z2 (show ((n.toNat : Nat) : Int) = n by omega) h1 h2
    rw [List.map_cons, cv_i]
    refine W.anew X.1 X.2.1 X.2.2.2.2.1 (X.2.2.2.2.2.1 _ hcl) (va_AO.use hao) rfl hd rfl (fun z => absurd ((oI_lt0 ⟨by omega, by omega⟩).mp z) (by omega)) (by rw [en]; omega) r1 (by rw [en]; exact r2) fun cA kA comp g1 g2 g3 g4 => ?_
    rw [en]
    have hg : (H.push ({ cls := cA, slots := Array.replicate n.toNat .null, vm := .none } : Cell))[H.size]? = some _ := Array.getElem?_push_size
    have hz : (H.size : Nat) = sgA w (hn h) := by
      have a1 := hH.1
      rw [sg_ge a1.1]; omega
    have h3 := hK _ _ _ _ hi _ locs lr (hH.new (k := ci) (n := n) (m := n) h1 h2 (by simp; omega) (by simp) hg (fun q hq => by rw [Array.getElem?_push, if_neg (Nat.ne_of_lt hq)]) (fun z => absurd h12 (by omega)) (fun _ _ => ⟨rfl, by omega, ⟨(fun k z => by cases z), kA, g2, comp, (by rw [hat]; exact g3)⟩, rfl, (by rw [hat]; exact ⟨kA, comp, g2, g3, g4, g1⟩), fun j hj => by
      rw [htg, cv_n]
      simp [Array.getElem?_replicate]
      omega⟩)) hlo hl hnl
    rw [List.map_cons, cv_r w (show ¬ hn h = 0 by have := hH.1.1; omega), ← hz] at h3
    exact w_tight h3
  next => exact hi.elim
theorem sn_oin (X : CX p l e R s m args below meth c w own cc nL rt d) {idx : Nat} (h1 : Cond.methodLink own idx objectInit ∈ wG) (h2 : Cond.instanceMethod objectInit ∈ wG) (h3 : Cond.code objectInit ⟨#[0xb1]⟩ 1 none ∈ wG) (hd : decode cc pc = .ok (.invokespecial idx, 3)) : SN p l e R s m args below meth c Q w cc nL rt d (i_oin (pc + 3)) pc := by
  intro C ls st h K K2 hi hC hK hR H locs lr hH hlo hl hnl
  unfold i_oin at hi
  split at hi
  next a st =>
    obtain ⟨ha, hi⟩ := hi
    cases hb : Nat.ble (pm_w st) 8 with
    | false => rw [hb] at hi; exact hi.elim
    | true =>
      rw [hb] at hi
      have hw8 : pm_w st ≤ 8 := Nat.le_of_ble_eq_true hb
      have hloc := X.2.2.2.2.2.2.2.2.2.2
      have hfr := X.2.2.2.2.2.2.2.2.2.1
      rw [List.map_cons, cv_r w ha]
      refine W.objInit X.1 X.2.1 X.2.2.2.2.1 (X.2.2.2.2.2.1 _ h1) (X.2.2.2.2.2.1 _ h2) (X.2.2.2.2.2.1 _ h3) rfl (by rw [X.2.2.2.1]; exact hl.1) rfl hd (by omega) ?_ (hK _ _ _ _ hi H locs lr hH hlo hl hnl)
      show 2 * 0 + ((st.map (cv w)).map fun v => v.category).sum + 12 ≤ R.locals
      rw [cat_w]
      omega
  next => exact hi.elim
theorem sn_tsw (X : CX p l e R s m args below meth c w own cc nL rt d) {dflt lo hi0 : Int} {offs : Array Int} {len dt : Nat} {ts : List Nat} (hd : decode cc pc = .ok (.tableswitch dflt lo hi0 offs, len)) (hdt : (pc : Int) + dflt = (dt : Int)) (hhi : hi0 = lo + (ts.length : Int) - 1) (hts : ∀ (k t : Nat), ts[k]? = some t → ∃ off, offs[k]? = some off ∧ (pc : Int) + off = (t : Int)) : SN p l e R s m args below meth c Q w cc nL rt d (i_tsw dt lo ts) pc := by
  intro C ls st h K K2 hi hC hK hR H locs lr hH hlo hl hnl
  unfold i_tsw at hi
  split at hi
  next a st =>
    obtain ⟨ha, hi⟩ := hi
    have key : ∀ (rest : List Nat) (lo' : Int), pm_ts (fun t => K t ls st h) dt a lo' rest → (∃ (k t : Nat), rest[k]? = some t ∧ a = lo' + (k : Int) ∧ K t ls st h) ∨ ((a < lo' ∨ lo' + (rest.length : Int) ≤ a) ∧ K dt ls st h) := by
      intro rest
      induction rest with
      | nil => intro lo' hp; exact Or.inr ⟨by simp only [List.length_nil]; omega, hp⟩
      | cons t rest ih =>
        intro lo' hp
        by_cases e : a = lo'
        · exact Or.inl ⟨0, t, rfl, by simp; exact e, hp.1 e⟩
        · rcases ih (lo' + 1) (hp.2 e) with ⟨k, t', q1, q2, q3⟩ | ⟨q1, q2⟩
          · exact Or.inl ⟨k + 1, t', q1, by push_cast; omega, q3⟩
          · refine Or.inr ⟨?_, q2⟩
            simp only [List.length_cons]
            push_cast
            omega
    rw [List.map_cons, cv_i]
    rcases key ts lo hi with ⟨k, t, q1, q2, q3⟩ | ⟨q1, q2⟩
    · obtain ⟨off, o1, o2⟩ := hts k t q1
      have hk : k < ts.length := (List.getElem?_eq_some_iff.mp q1).1
      exact lv_tableIn X.1 X.2.1 hd (by rw [oI_t ha]; omega) (by rw [oI_t ha]; omega) (off := off) (by rw [oI_t ha, show (a - lo).toNat = k by omega]; exact o1) o2 (hK _ _ _ _ q3 H locs lr hH hlo hl hnl)
    · exact lv_tableOut X.1 X.2.1 hd (by rw [oI_t ha]; omega) hdt (hK _ _ _ _ q2 H locs lr hH hlo hl hnl)
  next => exact hi.elim
theorem sn_lsw (X : CX p l e R s m args below meth c w own cc nL rt d) {dflt : Int} {ps : Array (Int × Int)} {len dt : Nat} {ts : List (Int × Nat)} (hd : decode cc pc = .ok (.lookupswitch dflt ps, len)) (hsort : (ps.toList.zip (ps.toList.drop 1)).all (fun (a, next) => a.1 < next.1) = true) (hts : ∀ (a : Int) (F : Nat → Prop), pm_ls F dt a ts → ∃ t : Nat, F t ∧ (pc : Int) + Op.lookupswitch.offset ps.toList dflt a = (t : Int)) : SN p l e R s m args below meth c Q w cc nL rt d (i_lsw dt ts) pc := by
  intro C ls st h K K2 hi hC hK hR H locs lr hH hlo hl hnl
  unfold i_lsw at hi
  split at hi
  next a st =>
    obtain ⟨ha, hi⟩ := hi
    obtain ⟨t, h1, h2⟩ := hts a _ hi
    rw [List.map_cons, cv_i]
    exact lv_lookup X.1 X.2.1 hd hsort (off := Op.lookupswitch.offset ps.toList dflt a) (by rw [oI_t ha]) h2 (hK _ _ _ _ h1 H locs lr hH hlo hl hnl)
  next => exact hi.elim
theorem sn_reti (hd : decode cc pc = .ok (.ireturn, 1)) : SN p l e R s m args below meth c Q w cc nL (some .int) d i_reti pc := by
  intro C ls st h K K2 hi hC hK hR H locs lr hH hlo hl hnl
  unfold i_reti at hi
  split at hi
  next v => exact hR (some (0, v)) h H locs lr pc hi hH hlo ⟨.int, rfl, Or.inl ⟨rfl, rfl, hd⟩⟩
  next => exact hi.elim
theorem sn_retz (hd : decode cc pc = .ok (.ireturn, 1)) : SN p l e R s m args below meth c Q w cc nL (some .boolean) d i_retz pc := by
  intro C ls st h K K2 hi hC hK hR H locs lr hH hlo hl hnl
  unfold i_retz at hi
  split at hi
  next v => exact hR (some (0, v)) h H locs lr pc hi.2 hH hlo ⟨.boolean, rfl, Or.inl ⟨rfl, (fit_z w hi.1).1, hd⟩⟩
  next => exact hi.elim
theorem sn_retl (hd : decode cc pc = .ok (.lreturn, 1)) : SN p l e R s m args below meth c Q w cc nL (some .long) d i_retl pc := by
  intro C ls st h K K2 hi hC hK hR H locs lr hH hlo hl hnl
  unfold i_retl at hi
  split at hi
  next v => exact hR (some (1, v)) h H locs lr pc hi hH hlo ⟨.long, rfl, Or.inr (Or.inl ⟨rfl, rfl, hd⟩)⟩
  next => exact hi.elim
theorem sn_reta {n : String} (hd : decode cc pc = .ok (.areturn, 1)) : SN p l e R s m args below meth c Q w cc nL (some (.object n)) d i_reta pc := by
  intro C ls st h K K2 hi hC hK hR H locs lr hH hlo hl hnl
  unfold i_reta at hi
  split at hi
  next v => exact hR (some (2, v)) h H locs lr pc hi.2 hH hlo ⟨.object n, rfl, Or.inr (Or.inr ⟨rfl, hi.1, ⟨n, rfl⟩, hd⟩)⟩
  next => exact hi.elim
theorem sn_retv (hd : decode cc pc = .ok (.return_, 1)) : SN p l e R s m args below meth c Q w cc nL none d i_retv pc := by
  intro C ls st h K K2 hi hC hK hR H locs lr hH hlo hl hnl
  unfold i_retv at hi
  split at hi
  · exact hR none h H locs lr pc hi hH hlo ⟨rfl, hd⟩
  · exact hi.elim
end
