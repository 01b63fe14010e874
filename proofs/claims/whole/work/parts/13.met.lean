/-! a method's contract out of its code -/
def SM (l : Launch) (w : WT) (y : Nat) : Prop := ∀ (d : Nat) (p : Program) (e : Env) (R : Room) (s : State) (m : MethodId) (args : Array Value) (below : List Frame) (meth : Method) (c : Code) (Q : State → Prop), CX p l e R s m args below meth c w (pm_yn y).cls (pm_cc y) (pm_nl y) (pm_rt y) d → meth.name = (pm_yn y).name → ∀ pc, SN p l e R s m args below meth c Q w (pm_cc y) (pm_nl y) (pm_rt y) d (pm_cd y pc) pc
theorem metP_of {l : Launch} {w : WT} {d y : Nat} {as : List PV} {h : PH} {K : PR} (hy : Nat.beq y 133 = false) (hpl : plainFor (pm_yn y) = true) (hC : CO l w d (WPM d)) (hS : SM l w y) (hw : WPM (d + 1) y as h K) : MetP l w (d + 1) y as h K := by
  obtain ⟨hw1, hw2⟩ := hw
  rw [hy] at hw2
  have hw2 : ∀ X : PK, (∀ pc ls st h, pm_cd y pc (WPM d) ls st h X K → X pc ls st h) → X 0 (pm_pad (pm_nl y) (pm_ar as)) [] h := hw2
  have hw3 : pm_w as ≤ pm_nl y := Nat.le_of_ble_eq_true (by rw [Bool.and_eq_true] at hw1; exact hw1.1)
  refine va_MetF (cc := pm_cc y) (maxL := pm_nl y) (ret := pm_rt y) hpl rfl ?_
  intro p e s m args below meth c s₁ B hml hv0
  obtain ⟨rfl, hRH, hZW⟩ := hv0
  have hts := atoms_spec (ws := pm_ws y) B.pre
  have X : CX p l e (headSpec (pm_ws y) { frames := d + 1, cells := (NB - hn h).toNat, slots := (SB - hs h).toNat, locals := 38 * (d + 1) }).room s m (as.map (cv w)).toArray below meth c w (pm_yn y).cls (pm_cc y) (pm_nl y) (pm_rt y) d :=
    ⟨B.exec, B.bytes, B.returns, hml, findClass_of_methodNamed B.named, fun q hq => hts q (List.mem_cons_of_mem _ hq), B.notSynchronized, hZW, ⟨h, hRH, rfl, rfl⟩, Nat.le_refl _, Nat.le_refl _⟩
  have hlk : meth.locks = false := B.notSynchronized
  have hnm : meth.name = (pm_yn y).name := (name_of_methodNamed B.named B.method).1
  have hl := lv_entry (as.map (cv w)) (n := pm_nl y) (by rw [sl_len]; exact hw3)
  rw [lg_entry_eq]
  generalize (lg_sl (as.map (cv w)) ++ List.replicate (pm_nl y - (lg_sl (as.map (cv w))).length) Slot.unset).toArray = lr at hl ⊢
  have hl2 : lv_has lr (pm_nl y) (lp w 0 (pm_pad (pm_nl y) (pm_ar as))) := ⟨hl.1, hl.2.1, fun q hq => hl.2.2 q (lp_args w as _ _ q hq)⟩
  have fin := hw2 (WX p l e (headSpec (pm_ws y) { frames := d + 1, cells := (NB - hn h).toNat, slots := (SB - hs h).toNat, locals := 38 * (d + 1) }).room s m (as.map (cv w)).toArray below meth c (MQ below (QcP w K) (as.map (cv w)).toArray s (NB - hn h).toNat (SB - hs h).toNat (outW w)) w (pm_nl y)) (fun pc ls st h' hi => hS d p e _ s m _ below meth c _ X hnm pc (WPM d) ls st h' _ K hi hC (fun _ _ _ _ z => z) (fun r h2 H locs lr2 pc2 k1 k2 k3 k4 => by
      have hz : H.size - s.heap.size ≤ (NB - hn h).toNat ∧ SU H - SU s.heap ≤ (SB - hs h).toNat := by
        have a1 := k2.1
        have a2 := k2.2.1
        have b1 := hRH.1
        have b2 := hRH.2.1
        omega
      refine W.widen hz.1 hz.2 ?_
      have hfin : ∀ t : State, t.heap = H → s.WarmedH t.vm → QcP w K (as.map (cv w)).toArray s (.returned (r.map (cv w))) t := fun t ht hW => ⟨r, h2, k1, rfl, by rw [ht]; exact k2.moved hW.alike⟩
      cases r with
      | none =>
        obtain ⟨q1, q2⟩ := k4
        exact W.vret B.exec B.bytes (B.returns.trans q1) hfin k3 q2 hlk
      | some tv =>
        obtain ⟨t, v⟩ := tv
        obtain ⟨ty, q1, q2⟩ := k4
        rcases q2 with ⟨rfl, q3, q4⟩ | ⟨rfl, rfl, q4⟩ | ⟨rfl, q3, ⟨nn, rfl⟩, q4⟩
        · exact W.zret B.exec B.bytes (B.returns.trans q1) q3 hfin k3 q4 hlk
        · exact W.lret B.exec B.bytes (B.returns.trans q1) hfin k3 q4 hlk
        · have hfin' := hfin
          show W _ _ _ _ _ _ _ _ _ _ _ _ _ _ _ (F0 m pc2 lr2 [cv w (2, v)])
          refine W.aret B.exec B.bytes (B.returns.trans q1) (Or.inl ⟨nn, rfl⟩) ?_ hfin k3 q4 hlk
          rw [cv_r w q3]
          exact Or.inr ⟨_, rfl⟩))
  have := fin s.heap [] lr hRH (fun q hq => by cases hq) hl2 (pad_len _ _)
  rw [Nat.sub_self, Nat.sub_self] at this
  exact this
