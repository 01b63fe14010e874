/-! the instructions that read and write the heap -/
section
variable {p : Program} {l : Launch} {e : Env} {R : Room} {s : State} {m : MethodId} {args : Array Value} {below : List Frame} {meth : Method} {c : Code} {Q : State → Prop} {w : WT} {own : String} {cc : ByteArray} {nL : Nat} {rt : Option FieldType} {d : Nat} {pc : Nat}
theorem ob_at {h : PH} {H : Heap} {U : State} {a : Int} {ci N : Nat} {C : String} {T : u_T} (hH : RH w U h H) (h1 : (hk h a).1 = ci) (hc : ci < 12) (hr : vwCl[ci]? = some (C, T, N)) : 5 ≤ a ∧ ∃ cell : Cell, H[sgA w a]? = some cell ∧ cell.cls = w.1.1 ci ∧ cell.vm = .none ∧ ∀ k, k < N → cell.slots[w.1.2 ci k]? = some (cv w (tgT (pm_ty ci k), hv h (64 * ci + k) a 0)) := by
  subst h1
  obtain ⟨h5, r, h6, cell, q1, q2, q3, q4⟩ := hH.2.2.2.2.2.1 a hc
  have e : r = (C, T, N) := Option.some.inj (h6.symm.trans hr)
  subst e
  exact ⟨h5, cell, q1, q2, q3, q4⟩
theorem ar_at {h : PH} {H : Heap} {U : State} {a : Int} {ci : Nat} (hH : RH w U h H) (h1 : (hk h a).1 = ci) (h12 : 12 ≤ ci) (h18 : ci < 18) : ¬ a = 0 ∧ CRa w U h H a ci (hk h a).2 := by
  subst h1
  exact ⟨by have := hH.2.2.2.2.1 a h18; omega, hH.2.2.2.2.2.2 a h12 h18⟩
theorem sn_getf (X : CX p l e R s m args below meth c w own cc nL rt d) {ci j f0 t N idx : Nat} {C : String} {T : u_T} (hf0 : f0 = 64 * ci + j) (hr : vwCl[ci]? = some (C, T, N)) (hc : ci < 12) (hin : ∀ q ∈ u_ws C T N, q ∈ wG) (hj : j < N) (ht : tgT (pm_ty ci j) = t) (hlk : Cond.fieldLink own idx (T j).1 (T j).2.1 (T j).2.2.1 ∈ wG) (hd : decode cc pc = .ok (.getfield idx, 3)) : SN p l e R s m args below meth c Q w cc nL rt d (i_getf ci f0 t (pc + 3)) pc := by
  subst hf0
  intro C ls st h K K2 hi hC hK hR H locs lr hH hlo hl hn
  unfold i_getf at hi
  split at hi
  next a st =>
    obtain ⟨h5, cell, q1, q2, q3, q4⟩ := ob_at hH hi.1 hc hr
    obtain ⟨hS, hfc, kC, hkC, hkind⟩ := X.2.2.2.2.2.2.2.1.1.1 ci _ hr
    obtain ⟨cf, kf, fi, f, hi0, hsl⟩ := hS j hj
    have h3 := hK _ _ _ _ hi.2 H locs lr hH hlo hl hn
    rw [List.map_cons] at h3
    rw [List.map_cons, cv_r w (show ¬ a = 0 by omega)]
    refine W.getf X.1 X.2.1 X.2.2.2.2.1 (X.2.2.2.2.2.1 _ hlk) hi0 (u_facts hfc hkC (u_lays X.2.2.2.2.2.1 hin hj) hi0).1 q1 (by rw [q3]; exact fun z => by cases z) ?_ rfl rfl hd h3
    rw [hsl, q4 j hj, ht]
  next => exact hi.elim
theorem put_core (X : CX p l e R s m args below meth c w own cc nL rt d) {ci j N idx : Nat} {C : String} {T : u_T} (hr : vwCl[ci]? = some (C, T, N)) (hc : ci < 12) (hin : ∀ q ∈ u_ws C T N, q ∈ wG) (hty : ∀ k, k < N → parseFieldDescriptor (T k).2.2.1 = some (pm_ty ci k)) (hnm : ∀ a, a < N → ∀ b, b < N → a ≠ b → (T a).2.1 ≠ (T b).2.1) (hj : j < N)
    (hfin : (T j).2.2.2 = false ∨ ((T j).2.2.2 = true ∧ meth.name = "<init>" ∧ (T j).1 = own)) (hlk : Cond.fieldLink own idx (T j).1 (T j).2.1 (T j).2.2.1 ∈ wG) (hd : decode cc pc = .ok (.putfield idx, 3))
    {h : PH} {a v : Int} {t : Nat} (ht : tgT (pm_ty ci j) = t) (hn : narrow (pm_ty ci j) (cv w (t, v)) = cv w (t, v)) (hf : fits (pm_ty ci j) (cv w (t, v)) = true) (hka : (hk h a).1 = ci) {ls st : List PV} (hK : WX p l e R s m args below meth c Q w nL (pc + 3) ls st (hput h (64 * ci + j) a 0 v)) : WX p l e R s m args below meth c Q w nL pc ls ((t, v) :: (2, a) :: st) h := by
  intro H locs lr hH hlo hl hn2
  obtain ⟨h5, cell, q1, q2, q3, q4⟩ := ob_at hH hka hc hr
  have hap := va_apart (own := own) (D := w.1) X.2.2.2.2.2.1 hin (pm_ty ci) hty hnm X.2.2.2.2.2.2.2.1.1 hr
  obtain ⟨hS, hfc, kC, hkC, hkind⟩ := X.2.2.2.2.2.2.2.1.1.1 ci _ hr
  obtain ⟨cf, kf, fi, f, hi0, hsl⟩ := hS j hj
  have hst := (u_facts hfc hkC (u_lays X.2.2.2.2.2.1 hin hj) hi0).1
  have hlay := X.2.2.2.2.2.1 _ (hin _ (u_in_lay hj))
  rw [List.map_cons, List.map_cons, cv_r w (show ¬ a = 0 by omega)]
  have go : ∀ (H' : Heap), H'[sgA w a]? = some (cell.setSlot (w.1.2 ci j) (cv w (t, v))) → H'.size = H.size → (∀ q, q ≠ sgA w a → H'[q]? = H[q]?) → W p l e R s m args below meth c H' (locs ++ [⟨sgA w a, w.1.2 ci j⟩]) (H.size - s.heap.size) (SU H - SU s.heap) Q (F0 m (pc + 3) lr (st.map (cv w))) := fun H' e1 e2 e3 => by
    refine w_tight (hK H' _ lr (hH.putF hka hc hr hj hap q1 q2 q3 q4 (by rw [ht]; exact e1) e2 e3) (fun q hq => ?_) hl hn2)
    rcases List.mem_append.mp hq with z | z
    · exact hlo q z
    · rw [List.mem_singleton.mp z]
      show w.2.2.size ≤ sgA w a
      rw [sg_ge h5]; omega
  rcases hfin with hfin | ⟨hfin, hin2, hdecl⟩
  · unfold u_lay at hlay
    rw [if_neg (by rw [hfin]; decide)] at hlay
    have h6 := u_store hfc hkC hkind hlay hi0 (hty j hj) hn hf
    refine W.putK X.1 X.2.1 (f := f) ⟨X.2.2.2.2.1, X.2.2.2.2.2.1 _ hlk, ⟨_, _, _, hi0⟩, hst⟩ (by rw [q2]; exact h6) q1 q3 (by rw [hsl]; exact k2_hasslot (q4 j hj)) rfl rfl hd fun H' e1 e2 e3 => ?_
    rw [hsl] at e1 ⊢
    exact go H' e1 e2 e3
  · unfold u_lay at hlay
    rw [if_pos hfin] at hlay
    have hcf : m.cls = cf := by
      obtain ⟨_, _, c', _, _, _, -, -, hf', -, -, -, hown2, -⟩ := Cond.laysFinal_spec hlay
      have e1 : c' = cf := by have := hi0.symm.trans hf'; simp at this; exact this.1.symm
      rw [hdecl] at hown2
      rw [← e1]; exact Option.some.inj (X.2.2.2.2.1.symm.trans hown2)
    have h6 := u_fits hfc hkC hkind (Or.inr hlay) hi0 (hty j hj) hn hf
    refine W.putFinK X.1 X.2.1 X.2.2.2.2.1 (X.2.2.2.2.2.1 _ hlk) hi0 hst hcf hin2 (by rw [q2]; exact h6) q1 q3 (by rw [hsl]; exact k2_hasslot (q4 j hj)) rfl rfl hd fun H' e1 e2 e3 => ?_
    rw [hsl] at e1 ⊢
    exact go H' e1 e2 e3
/-- what fits a field of this type, by its tag -/
theorem fit_i (w : WT) (v : Int) : narrow .int (cv w (0, v)) = cv w (0, v) ∧ fits .int (cv w (0, v)) = true := ⟨rfl, rfl⟩
theorem fit_l (w : WT) (v : Int) : narrow .long (cv w (1, v)) = cv w (1, v) ∧ fits .long (cv w (1, v)) = true := ⟨rfl, rfl⟩
theorem fit_o (w : WT) (n : String) (v : Int) : narrow (.object n) (cv w (2, v)) = cv w (2, v) ∧ fits (.object n) (cv w (2, v)) = true := by
  by_cases hz : v = 0
  · subst hz; exact ⟨rfl, rfl⟩
  · rw [cv_r w hz]; exact ⟨rfl, rfl⟩
theorem fit_a (w : WT) (t : FieldType) (v : Int) : narrow (.array t) (cv w (2, v)) = cv w (2, v) ∧ fits (.array t) (cv w (2, v)) = true := by
  by_cases hz : v = 0
  · subst hz; exact ⟨rfl, rfl⟩
  · rw [cv_r w hz]; exact ⟨rfl, rfl⟩
theorem fit_z (w : WT) {v : Int} (h : v = 0 ∨ v = 1) : narrow .boolean (cv w (0, v)) = cv w (0, v) ∧ fits .boolean (cv w (0, v)) = true := by
  rcases h with rfl | rfl
  · exact ⟨show Value.int (Int32.ofInt 0 &&& 1) = Value.int (Int32.ofInt 0) by decide +kernel, show fits .boolean (.int (Int32.ofInt 0)) = true by decide +kernel⟩
  · exact ⟨show Value.int (Int32.ofInt 1 &&& 1) = Value.int (Int32.ofInt 1) by decide +kernel, show fits .boolean (.int (Int32.ofInt 1)) = true by decide +kernel⟩
theorem sn_putf (X : CX p l e R s m args below meth c w own cc nL rt d) {ci j f0 t N idx : Nat} {C : String} {T : u_T} (hf0 : f0 = 64 * ci + j) (hr : vwCl[ci]? = some (C, T, N)) (hc : ci < 12) (hin : ∀ q ∈ u_ws C T N, q ∈ wG) (hty : ∀ k, k < N → parseFieldDescriptor (T k).2.2.1 = some (pm_ty ci k)) (hnm : ∀ a, a < N → ∀ b, b < N → a ≠ b → (T a).2.1 ≠ (T b).2.1) (hj : j < N)
    (hfin : (T j).2.2.2 = false ∨ ((T j).2.2.2 = true ∧ meth.name = "<init>" ∧ (T j).1 = own)) (hlk : Cond.fieldLink own idx (T j).1 (T j).2.1 (T j).2.2.1 ∈ wG) (ht : tgT (pm_ty ci j) = t) (hnf : ∀ v, narrow (pm_ty ci j) (cv w (t, v)) = cv w (t, v) ∧ fits (pm_ty ci j) (cv w (t, v)) = true) (hd : decode cc pc = .ok (.putfield idx, 3)) : SN p l e R s m args below meth c Q w cc nL rt d (i_putf ci f0 t (pc + 3)) pc := by
  subst hf0
  intro C ls st h K K2 hi hC hK hR
  unfold i_putf at hi
  split at hi
  next u v a st =>
    cases hb : Nat.beq u t with
    | false => rw [hb] at hi; exact hi.elim
    | true =>
      rw [hb] at hi
      have e := Nat.eq_of_beq_eq_true hb
      subst e
      exact put_core X hr hc hin hty hnm hj hfin hlk hd ht (hnf v).1 (hnf v).2 hi.1 (hK _ _ _ _ hi.2)
  next => exact hi.elim
theorem sn_putz (X : CX p l e R s m args below meth c w own cc nL rt d) {ci j f0 N idx : Nat} {C : String} {T : u_T} (hf0 : f0 = 64 * ci + j) (hr : vwCl[ci]? = some (C, T, N)) (hc : ci < 12) (hin : ∀ q ∈ u_ws C T N, q ∈ wG) (hty : ∀ k, k < N → parseFieldDescriptor (T k).2.2.1 = some (pm_ty ci k)) (hnm : ∀ a, a < N → ∀ b, b < N → a ≠ b → (T a).2.1 ≠ (T b).2.1) (hj : j < N)
    (hfin : (T j).2.2.2 = false ∨ ((T j).2.2.2 = true ∧ meth.name = "<init>" ∧ (T j).1 = own)) (hlk : Cond.fieldLink own idx (T j).1 (T j).2.1 (T j).2.2.1 ∈ wG) (ht : pm_ty ci j = .boolean) (hd : decode cc pc = .ok (.putfield idx, 3)) : SN p l e R s m args below meth c Q w cc nL rt d (i_putz ci f0 (pc + 3)) pc := by
  subst hf0
  intro C ls st h K K2 hi hC hK hR
  unfold i_putz at hi
  split at hi
  next v a st =>
    exact put_core X hr hc hin hty hnm hj hfin hlk hd (by rw [ht]; rfl) (by rw [ht]; exact (fit_z w hi.1.2).1) (by rw [ht]; exact (fit_z w hi.1.2).2) hi.1.1 (hK _ _ _ _ hi.2)
  next => exact hi.elim
theorem sn_iald (X : CX p l e R s m args below meth c w own cc nL rt d) (hd : decode cc pc = .ok (.iaload, 1)) : SN p l e R s m args below meth c Q w cc nL rt d (i_ald 12 768 0 (pc + 1)) pc := by
  intro C ls st h K K2 hi hC hK hR H locs lr hH hlo hl hn
  unfold i_ald at hi
  split at hi
  next i a st =>
    obtain ⟨⟨k1, k2, k3⟩, hi⟩ := hi
    obtain ⟨ha, c0, cell, d1, d2, d3, d4, d5, d6⟩ := ar_at hH k1 (by decide) (by decide)
    have h3 := hK _ _ _ _ hi H locs lr hH hlo hl hn
    rw [List.map_cons] at h3
    rw [List.map_cons, List.map_cons, cv_r w ha, cv_i]
    refine W.iald X.1 X.2.1 d1 d2 d3 (oI_in k2 k3 c0.2 d5.1) ?_ rfl rfl hd h3
    rw [oI_ix k2 k3 c0.2, d6 i.toNat (by omega), Int.toNat_of_nonneg k2]
    rfl
  next => exact hi.elim
theorem sn_lald (X : CX p l e R s m args below meth c w own cc nL rt d) (hd : decode cc pc = .ok (.laload, 1)) : SN p l e R s m args below meth c Q w cc nL rt d (i_ald 13 832 1 (pc + 1)) pc := by
  intro C ls st h K K2 hi hC hK hR H locs lr hH hlo hl hn
  unfold i_ald at hi
  split at hi
  next i a st =>
    obtain ⟨⟨k1, k2, k3⟩, hi⟩ := hi
    obtain ⟨ha, c0, cell, d1, d2, d3, d4, d5, d6⟩ := ar_at hH k1 (by decide) (by decide)
    have h3 := hK _ _ _ _ hi H locs lr hH hlo hl hn
    rw [List.map_cons] at h3
    rw [List.map_cons, List.map_cons, cv_r w ha, cv_i]
    refine W.lald X.1 X.2.1 d1 d2 d3 (oI_in k2 k3 c0.2 d5.1) ?_ rfl rfl hd h3
    rw [oI_ix k2 k3 c0.2, d6 i.toNat (by omega), Int.toNat_of_nonneg k2]
    rfl
  next => exact hi.elim
theorem sn_zald (X : CX p l e R s m args below meth c w own cc nL rt d) (hd : decode cc pc = .ok (.baload, 1)) : SN p l e R s m args below meth c Q w cc nL rt d (i_ald 14 896 0 (pc + 1)) pc := by
  intro C ls st h K K2 hi hC hK hR H locs lr hH hlo hl hn
  unfold i_ald at hi
  split at hi
  next i a st =>
    obtain ⟨⟨k1, k2, k3⟩, hi⟩ := hi
    obtain ⟨ha, c0, cell, d1, d2, d3, d4, d5, d6⟩ := ar_at hH k1 (by decide) (by decide)
    have h3 := hK _ _ _ _ hi H locs lr hH hlo hl hn
    rw [List.map_cons] at h3
    rw [List.map_cons, List.map_cons, cv_r w ha, cv_i]
    refine W.zald X.1 X.2.1 d1 d2 d3 (oI_in k2 k3 c0.2 d5.1) ?_ rfl rfl hd h3
    rw [oI_ix k2 k3 c0.2, d6 i.toNat (by omega), Int.toNat_of_nonneg k2]
    rfl
  next => exact hi.elim
theorem sn_bald (X : CX p l e R s m args below meth c w own cc nL rt d) (hd : decode cc pc = .ok (.baload, 1)) : SN p l e R s m args below meth c Q w cc nL rt d (i_ald 15 960 0 (pc + 1)) pc := by
  intro C ls st h K K2 hi hC hK hR H locs lr hH hlo hl hn
  unfold i_ald at hi
  split at hi
  next i a st =>
    obtain ⟨⟨k1, k2, k3⟩, hi⟩ := hi
    obtain ⟨ha, c0, cell, d1, d2, d3, d4, d5, d6⟩ := ar_at hH k1 (by decide) (by decide)
    have h3 := hK _ _ _ _ hi H locs lr hH hlo hl hn
    rw [List.map_cons] at h3
    rw [List.map_cons, List.map_cons, cv_r w ha, cv_i]
    refine W.bald X.1 X.2.1 d1 d2 d3 (oI_in k2 k3 c0.2 d5.1) ?_ rfl rfl hd h3
    rw [oI_ix k2 k3 c0.2, d6 i.toNat (by omega), Int.toNat_of_nonneg k2]
    rfl
  next => exact hi.elim
theorem sn_mald (X : CX p l e R s m args below meth c w own cc nL rt d) (hd : decode cc pc = .ok (.aaload, 1)) : SN p l e R s m args below meth c Q w cc nL rt d (i_ald 16 1024 2 (pc + 1)) pc := by
  intro C ls st h K K2 hi hC hK hR H locs lr hH hlo hl hn
  unfold i_ald at hi
  split at hi
  next i a st =>
    obtain ⟨⟨k1, k2, k3⟩, hi⟩ := hi
    obtain ⟨ha, c0, cell, d1, d2, d3, d4, d5, d6⟩ := ar_at hH k1 (by decide) (by decide)
    have h3 := hK _ _ _ _ hi H locs lr hH hlo hl hn
    rw [List.map_cons] at h3
    rw [List.map_cons, List.map_cons, cv_r w ha, cv_i]
    refine W.aald X.1 X.2.1 d1 d2 rfl d3 (oI_in k2 k3 c0.2 d5.1) ?_ rfl rfl hd h3
    rw [oI_ix k2 k3 c0.2, d6 i.toNat (by omega), Int.toNat_of_nonneg k2]
    rfl
  next => exact hi.elim
theorem sn_cald (X : CX p l e R s m args below meth c w own cc nL rt d) (hd : decode cc pc = .ok (.aaload, 1)) : SN p l e R s m args below meth c Q w cc nL rt d (i_ald 17 1088 2 (pc + 1)) pc := by
  intro C ls st h K K2 hi hC hK hR H locs lr hH hlo hl hn
  unfold i_ald at hi
  split at hi
  next i a st =>
    obtain ⟨⟨k1, k2, k3⟩, hi⟩ := hi
    obtain ⟨ha, c0, cell, d1, d2, d3, d4, d5, d6⟩ := ar_at hH k1 (by decide) (by decide)
    have h3 := hK _ _ _ _ hi H locs lr hH hlo hl hn
    rw [List.map_cons] at h3
    rw [List.map_cons, List.map_cons, cv_r w ha, cv_i]
    refine W.aald X.1 X.2.1 d1 d2 rfl d3 (oI_in k2 k3 c0.2 d5.1) ?_ rfl rfl hd h3
    rw [oI_ix k2 k3 c0.2, d6 i.toNat (by omega), Int.toNat_of_nonneg k2]
    rfl
  next => exact hi.elim
theorem sn_iast (X : CX p l e R s m args below meth c w own cc nL rt d) (hd : decode cc pc = .ok (.iastore, 1)) : SN p l e R s m args below meth c Q w cc nL rt d (i_ast 12 768 0 (pc + 1)) pc := by
  intro C ls st h K K2 hi hC hK hR H locs lr hH hlo hl hn
  unfold i_ast at hi
  split at hi
  next u v i a st =>
    cases hb : Nat.beq u 0 with
    | false => rw [hb] at hi; exact hi.elim
    | true =>
      rw [hb] at hi
      have e := Nat.eq_of_beq_eq_true hb
      subst e
      obtain ⟨⟨k1, k2, k3, k4⟩, hi⟩ := hi
      obtain ⟨ha, c0, cell, d1, d2, d3, d4, d5, d6⟩ := ar_at hH k1 (by decide) (by decide)
      rw [List.map_cons, List.map_cons, List.map_cons, cv_r w ha, cv_i, cv_i]
      refine W.iast X.1 X.2.1 d1 d2 d3 (oI_in k2 k3 c0.2 d5.1) rfl rfl hd fun H' e1 e2 e3 => ?_
      rw [oI_ix k2 k3 c0.2] at e1 ⊢
      refine w_tight (hK _ _ _ _ hi H' _ lr (hH.putA (c := 12) k1 (by decide) (by decide) k4 k2 k3 d1 e1 e2 e3) (fun q hq => ?_) hl hn)
      rcases List.mem_append.mp hq with z | z
      · exact hlo q z
      · rw [List.mem_singleton.mp z]
        show w.2.2.size ≤ sgA w a
        rw [sg_ge k4]; omega
  next => exact hi.elim
theorem sn_last (X : CX p l e R s m args below meth c w own cc nL rt d) (hd : decode cc pc = .ok (.lastore, 1)) : SN p l e R s m args below meth c Q w cc nL rt d (i_ast 13 832 1 (pc + 1)) pc := by
  intro C ls st h K K2 hi hC hK hR H locs lr hH hlo hl hn
  unfold i_ast at hi
  split at hi
  next u v i a st =>
    cases hb : Nat.beq u 1 with
    | false => rw [hb] at hi; exact hi.elim
    | true =>
      rw [hb] at hi
      have e := Nat.eq_of_beq_eq_true hb
      subst e
      obtain ⟨⟨k1, k2, k3, k4⟩, hi⟩ := hi
      obtain ⟨ha, c0, cell, d1, d2, d3, d4, d5, d6⟩ := ar_at hH k1 (by decide) (by decide)
      rw [List.map_cons, List.map_cons, List.map_cons, cv_r w ha, cv_i, cv_l]
      refine W.last X.1 X.2.1 d1 d2 d3 (oI_in k2 k3 c0.2 d5.1) rfl rfl hd fun H' e1 e2 e3 => ?_
      rw [oI_ix k2 k3 c0.2] at e1 ⊢
      refine w_tight (hK _ _ _ _ hi H' _ lr (hH.putA (c := 13) k1 (by decide) (by decide) k4 k2 k3 d1 e1 e2 e3) (fun q hq => ?_) hl hn)
      rcases List.mem_append.mp hq with z | z
      · exact hlo q z
      · rw [List.mem_singleton.mp z]
        show w.2.2.size ≤ sgA w a
        rw [sg_ge k4]; omega
  next => exact hi.elim
theorem sn_zast (X : CX p l e R s m args below meth c w own cc nL rt d) (hd : decode cc pc = .ok (.bastore, 1)) : SN p l e R s m args below meth c Q w cc nL rt d (i_astz (pc + 1)) pc := by
  intro C ls st h K K2 hi hC hK hR H locs lr hH hlo hl hn
  unfold i_astz at hi
  split at hi
  next v i a st =>
      obtain ⟨⟨k1, k2, k3, k4, k5⟩, hi⟩ := hi
      obtain ⟨ha, c0, cell, d1, d2, d3, d4, d5, d6⟩ := ar_at hH k1 (by decide) (by decide)
      rw [List.map_cons, List.map_cons, List.map_cons, cv_r w ha, cv_i, cv_i]
      refine W.zast X.1 X.2.1 d1 d2 d3 (oI_in k2 k3 c0.2 d5.1) rfl rfl hd fun H' e1 e2 e3 => ?_
      rw [oI_ix k2 k3 c0.2] at e1 ⊢
      rw [← cv_i w, (fit_z w k5).1] at e1
      refine w_tight (hK _ _ _ _ hi H' _ lr (hH.putA (c := 14) k1 (by decide) (by decide) k4 k2 k3 d1 e1 e2 e3) (fun q hq => ?_) hl hn)
      rcases List.mem_append.mp hq with z | z
      · exact hlo q z
      · rw [List.mem_singleton.mp z]
        show w.2.2.size ≤ sgA w a
        rw [sg_ge k4]; omega
  next => exact hi.elim
theorem nar_b (w : WT) {v : Int} (h1 : -128 ≤ v) (h2 : v < 128) : narrow .byte (cv w (0, v)) = cv w (0, v) := by
  show Value.int (Int32.ofInt v).toInt8.toInt32 = Value.int (Int32.ofInt v)
  rw [oI_b8]
  congr 2
  unfold pm_b8
  omega
theorem sn_bast (X : CX p l e R s m args below meth c w own cc nL rt d) (hd : decode cc pc = .ok (.bastore, 1)) : SN p l e R s m args below meth c Q w cc nL rt d (i_astb (pc + 1)) pc := by
  intro C ls st h K K2 hi hC hK hR H locs lr hH hlo hl hn
  unfold i_astb at hi
  split at hi
  next v i a st =>
      obtain ⟨⟨k1, k2, k3, k4, k5⟩, hi⟩ := hi
      obtain ⟨ha, c0, cell, d1, d2, d3, d4, d5, d6⟩ := ar_at hH k1 (by decide) (by decide)
      rw [List.map_cons, List.map_cons, List.map_cons, cv_r w ha, cv_i, cv_i]
      refine W.bast X.1 X.2.1 d1 d2 d3 (oI_in k2 k3 c0.2 d5.1) rfl rfl hd fun H' e1 e2 e3 => ?_
      rw [oI_ix k2 k3 c0.2] at e1 ⊢
      rw [← cv_i w, nar_b w k5.1 k5.2] at e1
      refine w_tight (hK _ _ _ _ hi H' _ lr (hH.putA (c := 15) k1 (by decide) (by decide) k4 k2 k3 d1 e1 e2 e3) (fun q hq => ?_) hl hn)
      rcases List.mem_append.mp hq with z | z
      · exact hlo q z
      · rw [List.mem_singleton.mp z]
        show w.2.2.size ≤ sgA w a
        rw [sg_ge k4]; omega
  next => exact hi.elim
theorem sn_astr (X : CX p l e R s m args below meth c w own cc nL rt d) {ci ec f0 N : Nat} {C : String} {T : u_T} (hf0 : f0 = 64 * ci) (hce : pm_aty ci = .object C) (h12 : 12 ≤ ci) (h18 : ci < 18) (htg : pm_atg ci = 2) (hr : vwCl[ec]? = some (C, T, N)) (hec : ec < 12) (hd : decode cc pc = .ok (.aastore, 1)) : SN p l e R s m args below meth c Q w cc nL rt d (i_astr ci f0 ec (pc + 1)) pc := by
  subst hf0
  intro C ls st h K K2 hi hC hK hR H locs lr hH hlo hl hn
  unfold i_astr at hi
  split at hi
  next v i a st =>
      obtain ⟨⟨k1, k2, k3, k4, k5⟩, hi⟩ := hi
      obtain ⟨ha, c0, cell, d1, d2, d3, d4, d5, d6⟩ := ar_at hH k1 h12 h18
      obtain ⟨v5, cellv, g1, g2, g3, g4⟩ := ob_at hH k5 hec hr
      rw [List.map_cons, List.map_cons, List.map_cons, cv_r w ha, cv_i, cv_r w (show ¬ v = 0 by omega)]
      have hra := d4.2 (Or.inr k4)
      rw [hce] at hra
      obtain ⟨kA, comp, z1, z2, z3, z4⟩ := hra
      have hcls := (X.2.2.2.2.2.2.2.1.1.1 ec _ hr).2
      obtain ⟨kC, hkC, hkind⟩ := hcls.2
      have hcomp : w.1.1 ec = comp := Option.some.inj (hcls.1.symm.trans z3)
      have hin := oI_in k2 k3 c0.2 d5.1
      refine W.aast X.1 X.2.1 d1 (fun q z => by rw [d4.1 k4] at z; cases z) d3 z1 z2 rfl (kcomp := kC) (by rw [← hcomp]; exact hkC) ⟨fun z => hin (Or.inl z), Nat.lt_of_not_le (fun z => hin (Or.inr z))⟩ g1 (fun q z => by rw [g3] at z; cases z) (kv := kC) (by rw [g2]; exact hkC) (by rw [g2, hcomp]; exact va_asg _ _) rfl rfl hd fun H' e1 e2 e3 => ?_
      rw [oI_ix k2 k3 c0.2] at e1 ⊢
      refine w_tight (hK _ _ _ _ hi H' _ lr (hH.putA k1 h12 h18 k4 k2 k3 d1 (by rw [htg, cv_r w (show ¬ v = 0 by omega)]; exact e1) e2 e3) (fun q hq => ?_) hl hn)
      rcases List.mem_append.mp hq with z | z
      · exact hlo q z
      · rw [List.mem_singleton.mp z]
        show w.2.2.size ≤ sgA w a
        rw [sg_ge k4]; omega
  next => exact hi.elim
theorem sn_alen (X : CX p l e R s m args below meth c w own cc nL rt d) (hd : decode cc pc = .ok (.arraylength, 1)) : SN p l e R s m args below meth c Q w cc nL rt d (i_alen (pc + 1)) pc := by
  intro C ls st h K K2 hi hC hK hR H locs lr hH hlo hl hn
  unfold i_alen at hi
  split at hi
  next a st =>
    obtain ⟨ha, c0, cell, d1, d2, d3, d4, d5, d6⟩ := ar_at hH hi.1.1 (by decide) (by decide)
    have h3 := hK _ _ _ _ hi.2 H locs lr hH hlo hl hn
    rw [List.map_cons] at h3
    rw [List.map_cons, cv_r w ha]
    refine W.alen X.1 X.2.1 d1 d2 ?_ rfl rfl hd h3
    rw [← d5.2 (by have := hi.1.2; omega)]
    exact Int32.ofInt_eq_ofNat.symm
  next => exact hi.elim
theorem sn_gst (X : CX p l e R s m args below meth c w own cc nL rt d) {k idx : Nat} {nm : String} (hZ : va_Z RX7 nm "[I" (.ref (w.2.1 k)) (outW w) s w.2.2) (hk5 : 1 ≤ k ∧ k < 5) (hlk : Cond.fieldLink own idx RX7 nm "[I" ∈ wG) (hd : decode cc pc = .ok (.getstatic idx, 3)) : SN p l e R s m args below meth c Q w cc nL rt d (i_gst (k : Int) (pc + 3)) pc := by
  intro C ls st h K K2 hi hC hK hR H locs lr hH hlo hl hn
  have h3 := hK _ _ _ _ hi H locs lr hH hlo hl hn
  have e : cv w (2, (k : Int)) = .ref (w.2.1 k) := by
    rw [cv_r w (by omega)]
    unfold sgA
    rw [if_pos (by omega)]
    rfl
  rw [List.map_cons, e] at h3
  obtain ⟨cf, kf, fi, f, a, cell, h1, h2, h4, h5, h6, h7, h8, h9⟩ := hZ
  exact W.gets X.1 X.2.1 X.2.2.2.2.1 (X.2.2.2.2.2.1 _ hlk) h1 h2 h4 h5 (by rw [hH.2.2.1 a (Array.getElem?_eq_some_iff.mp h6).1]; exact h6) (fun z => by rw [z] at h7; cases h7) h8 rfl hd h3
end
