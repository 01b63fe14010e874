/-! the instructions, one by one -/
section
variable {p : Program} {l : Launch} {e : Env} {R : Room} {s : State} {m : MethodId} {args : Array Value} {below : List Frame} {meth : Method} {c : Code} {Q : State → Prop} {w : WT} {own : String} {cc : ByteArray} {nL : Nat} {rt : Option FieldType} {d : Nat} {pc : Nat}
theorem sn_br {k : Nat} {a b : Nat → PI} (ha : ∀ pc, SN p l e R s m args below meth c Q w cc nL rt d (a pc) pc) (hb : ∀ pc, SN p l e R s m args below meth c Q w cc nL rt d (b pc) pc) : ∀ pc, SN p l e R s m args below meth c Q w cc nL rt d (cbr k a b pc) pc := by
  intro pc
  unfold cbr
  cases Nat.ble k pc
  · exact ha pc
  · exact hb pc
theorem sn_lf {k : Nat} {i : PI} (h : SN p l e R s m args below meth c Q w cc nL rt d i k) : ∀ pc, SN p l e R s m args below meth c Q w cc nL rt d (clf k i pc) pc := by
  intro pc
  unfold clf
  cases hb : Nat.beq pc k
  · intro C ls st h K K2 hi
    exact hi.elim
  · rw [Nat.eq_of_beq_eq_true hb]
    exact h
theorem sn_goto (X : CX p l e R s m args below meth c w own cc nL rt d) {off : Int} {tg : Nat} (hd : decode cc pc = .ok (.goto off, 3)) (ht : (pc : Int) + off = (tg : Int)) : SN p l e R s m args below meth c Q w cc nL rt d (i_goto tg) pc := by
  intro C ls st h K K2 hi hC hK hR H locs lr hH hlo hl hn
  exact lv_goto X.1 X.2.1 hd ht (hK _ _ _ _ hi H locs lr hH hlo hl hn)
theorem sn_iconst (X : CX p l e R s m args below meth c w own cc nL rt d) {n : Int} (hd : decode cc pc = .ok (.iconst n, 1)) : SN p l e R s m args below meth c Q w cc nL rt d (i_push 0 n (pc + 1)) pc := by
  intro C ls st h K K2 hi hC hK hR H locs lr hH hlo hl hn
  exact lv_iconst X.1 X.2.1 hd rfl (hK _ _ _ _ hi H locs lr hH hlo hl hn)
theorem sn_bipush (X : CX p l e R s m args below meth c w own cc nL rt d) {n : Int} (hd : decode cc pc = .ok (.bipush n, 2)) (hv : (Int8.ofInt n).toInt32 = Int32.ofInt n) : SN p l e R s m args below meth c Q w cc nL rt d (i_push 0 n (pc + 2)) pc := by
  intro C ls st h K K2 hi hC hK hR H locs lr hH hlo hl hn
  exact lv_bipush X.1 X.2.1 hd hv (hK _ _ _ _ hi H locs lr hH hlo hl hn)
theorem sn_sipush (X : CX p l e R s m args below meth c w own cc nL rt d) {n : Int} (hd : decode cc pc = .ok (.sipush n, 3)) (hv : (Int16.ofInt n).toInt32 = Int32.ofInt n) : SN p l e R s m args below meth c Q w cc nL rt d (i_push 0 n (pc + 3)) pc := by
  intro C ls st h K K2 hi hC hK hR H locs lr hH hlo hl hn
  exact lv_sipush X.1 X.2.1 hd hv (hK _ _ _ _ hi H locs lr hH hlo hl hn)
theorem sn_lconst (X : CX p l e R s m args below meth c w own cc nL rt d) {n : Fin 2} {z : Int} (hd : decode cc pc = .ok (.lconst n, 1)) (hv : Int64.ofNat (n : Nat) = Int64.ofInt z) : SN p l e R s m args below meth c Q w cc nL rt d (i_push 1 z (pc + 1)) pc := by
  intro C ls st h K K2 hi hC hK hR H locs lr hH hlo hl hn
  exact lv_lconst X.1 X.2.1 hd hv (hK _ _ _ _ hi H locs lr hH hlo hl hn)
theorem sn_ldc (X : CX p l e R s m args below meth c w own cc nL rt d) {k : Nat} {z : Int} {v : Int32} (hd : decode cc pc = .ok (.ldc k, 2)) (hw : Cond.constant own k v ∈ wG) (hv : v = Int32.ofInt z) : SN p l e R s m args below meth c Q w cc nL rt d (i_push 0 z (pc + 2)) pc := by
  intro C ls st h K K2 hi hC hK hR H locs lr hH hlo hl hn
  subst hv
  exact lv_ldc X.1 X.2.1 X.2.2.2.2.1 (X.2.2.2.2.2.1 _ hw) hd (hK _ _ _ _ hi H locs lr hH hlo hl hn)
theorem sn_ldc2 (X : CX p l e R s m args below meth c w own cc nL rt d) {k : Nat} {z : Int} {v : Int64} (hd : decode cc pc = .ok (.ldc2_w k, 3)) (hw : Cond.constantLong own k v ∈ wG) (hv : v = Int64.ofInt z) : SN p l e R s m args below meth c Q w cc nL rt d (i_push 1 z (pc + 3)) pc := by
  intro C ls st h K K2 hi hC hK hR H locs lr hH hlo hl hn
  subst hv
  exact lv_ldc2 X.1 X.2.1 X.2.2.2.2.1 (X.2.2.2.2.2.1 _ hw) hd (hK _ _ _ _ hi H locs lr hH hlo hl hn)
theorem sn_null (X : CX p l e R s m args below meth c w own cc nL rt d) (hd : decode cc pc = .ok (.aconst_null, 1)) : SN p l e R s m args below meth c Q w cc nL rt d (i_push 2 0 (pc + 1)) pc := by
  intro C ls st h K K2 hi hC hK hR H locs lr hH hlo hl hn
  exact lv_null X.1 X.2.1 hd (hK _ _ _ _ hi H locs lr hH hlo hl hn)
/-- what a load finds -/
theorem ld_at {ls : List PV} {lr : Array Slot} {i t : Nat} {F : Int → Prop} (ht : t < 3) (hl : lv_has lr nL (lp w 0 ls)) (h : (match pm_lg ls i with | (u, z) => cond (Nat.beq u t) (F z) False)) : ∃ z, F z ∧ lr[i]? = some (.val (cv w (t, z))) := by
  cases hv : pm_lg ls i with
  | mk u z =>
    rw [hv] at h
    have h' : cond (Nat.beq u t) (F z) False := h
    cases hb : Nat.beq u t with
    | false => rw [hb] at h'; exact h'.elim
    | true =>
      rw [hb] at h'
      have e := Nat.eq_of_beq_eq_true hb
      subst e
      have := hl.2.2 _ (lp_in w ls 0 i _ hv ht)
      exact ⟨z, h', by simpa using this⟩
theorem sn_iloadn (X : CX p l e R s m args below meth c w own cc nL rt d) {k : Fin 4} {i : Nat} (hd : decode cc pc = .ok (.iload_n k, 1)) (hi0 : (k : Nat) = i) : SN p l e R s m args below meth c Q w cc nL rt d (i_load i 0 (pc + 1)) pc := by
  intro C ls st h K K2 hi hC hK hR H locs lr hH hlo hl hn
  obtain ⟨z, h1, h2⟩ := ld_at (i := i) (t := 0) (F := fun z => K (pc + 1) ls ((0, z) :: st) h) (by decide) hl hi
  exact lv_iload_n X.1 X.2.1 hd hi0 h2 (hK _ _ _ _ h1 H locs lr hH hlo hl hn)
theorem sn_iload (X : CX p l e R s m args below meth c w own cc nL rt d) {i : Nat} (hd : decode cc pc = .ok (.iload i, 2)) : SN p l e R s m args below meth c Q w cc nL rt d (i_load i 0 (pc + 2)) pc := by
  intro C ls st h K K2 hi hC hK hR H locs lr hH hlo hl hn
  obtain ⟨z, h1, h2⟩ := ld_at (i := i) (t := 0) (F := fun z => K (pc + 2) ls ((0, z) :: st) h) (by decide) hl hi
  exact lv_iload X.1 X.2.1 hd h2 (hK _ _ _ _ h1 H locs lr hH hlo hl hn)
theorem sn_lloadn (X : CX p l e R s m args below meth c w own cc nL rt d) {k : Fin 4} {i : Nat} (hd : decode cc pc = .ok (.lload_n k, 1)) (hi0 : (k : Nat) = i) : SN p l e R s m args below meth c Q w cc nL rt d (i_load i 1 (pc + 1)) pc := by
  intro C ls st h K K2 hi hC hK hR H locs lr hH hlo hl hn
  obtain ⟨z, h1, h2⟩ := ld_at (i := i) (t := 1) (F := fun z => K (pc + 1) ls ((1, z) :: st) h) (by decide) hl hi
  exact lv_lload_n X.1 X.2.1 hd hi0 h2 (hK _ _ _ _ h1 H locs lr hH hlo hl hn)
theorem sn_lload (X : CX p l e R s m args below meth c w own cc nL rt d) {i : Nat} (hd : decode cc pc = .ok (.lload i, 2)) : SN p l e R s m args below meth c Q w cc nL rt d (i_load i 1 (pc + 2)) pc := by
  intro C ls st h K K2 hi hC hK hR H locs lr hH hlo hl hn
  obtain ⟨z, h1, h2⟩ := ld_at (i := i) (t := 1) (F := fun z => K (pc + 2) ls ((1, z) :: st) h) (by decide) hl hi
  exact lv_lload X.1 X.2.1 hd h2 (hK _ _ _ _ h1 H locs lr hH hlo hl hn)
theorem sn_aloadn (X : CX p l e R s m args below meth c w own cc nL rt d) {k : Fin 4} {i : Nat} (hd : decode cc pc = .ok (.aload_n k, 1)) (hi0 : (k : Nat) = i) : SN p l e R s m args below meth c Q w cc nL rt d (i_load i 2 (pc + 1)) pc := by
  intro C ls st h K K2 hi hC hK hR H locs lr hH hlo hl hn
  obtain ⟨z, h1, h2⟩ := ld_at (i := i) (t := 2) (F := fun z => K (pc + 1) ls ((2, z) :: st) h) (by decide) hl hi
  have h3 := hK _ _ _ _ h1 H locs lr hH hlo hl hn
  rw [List.map_cons] at h3
  by_cases hz : z = 0
  · subst hz; exact lv_aload_nN X.1 X.2.1 hd hi0 h2 h3
  · rw [cv_r w hz] at h2 h3; exact lv_aload_n X.1 X.2.1 hd hi0 h2 h3
theorem sn_aload (X : CX p l e R s m args below meth c w own cc nL rt d) {i : Nat} (hd : decode cc pc = .ok (.aload i, 2)) : SN p l e R s m args below meth c Q w cc nL rt d (i_load i 2 (pc + 2)) pc := by
  intro C ls st h K K2 hi hC hK hR H locs lr hH hlo hl hn
  obtain ⟨z, h1, h2⟩ := ld_at (i := i) (t := 2) (F := fun z => K (pc + 2) ls ((2, z) :: st) h) (by decide) hl hi
  have h3 := hK _ _ _ _ h1 H locs lr hH hlo hl hn
  rw [List.map_cons] at h3
  by_cases hz : z = 0
  · subst hz; exact lv_aloadN X.1 X.2.1 hd h2 h3
  · rw [cv_r w hz] at h2 h3; exact lv_aload X.1 X.2.1 hd h2 h3
theorem st_of {st : List PV} {t : Nat} {F : Int → List PV → Prop} (h : (match st with | (u, z) :: st => cond (Nat.beq u t) (F z st) False | [] => False)) : ∃ z st', st = (t, z) :: st' ∧ F z st' := by
  cases st with
  | nil => exact h.elim
  | cons x st =>
    obtain ⟨u, z⟩ := x
    have h' : cond (Nat.beq u t) (F z st) False := h
    cases hb : Nat.beq u t with
    | false => rw [hb] at h'; exact h'.elim
    | true =>
      rw [hb] at h'
      have e := Nat.eq_of_beq_eq_true hb
      subst e
      exact ⟨z, st, rfl, h'⟩
theorem sn_istoren (X : CX p l e R s m args below meth c w own cc nL rt d) {k : Fin 4} {i : Nat} (hd : decode cc pc = .ok (.istore_n k, 1)) (hi0 : (k : Nat) = i) : SN p l e R s m args below meth c Q w cc nL rt d (i_store i 0 (pc + 1)) pc := by
  intro C ls st h K K2 hi hC hK hR H locs lr hH hlo hl hn
  obtain ⟨z, st, rfl, h1⟩ := st_of hi
  obtain ⟨h2, h3⟩ := s1_f _ _ _ _ h1
  exact lv_istore_n X.1 X.2.1 hd hi0 hl (by omega) rfl (fun lr hl => hK _ _ _ _ h3 H locs lr hH hlo (lv_s1 h2 hl) (by rw [s1_len]; exact hn))
theorem sn_istore (X : CX p l e R s m args below meth c w own cc nL rt d) {i : Nat} (hd : decode cc pc = .ok (.istore i, 2)) : SN p l e R s m args below meth c Q w cc nL rt d (i_store i 0 (pc + 2)) pc := by
  intro C ls st h K K2 hi hC hK hR H locs lr hH hlo hl hn
  obtain ⟨z, st, rfl, h1⟩ := st_of hi
  obtain ⟨h2, h3⟩ := s1_f _ _ _ _ h1
  exact lv_istore X.1 X.2.1 hd hl (by omega) rfl (fun lr hl => hK _ _ _ _ h3 H locs lr hH hlo (lv_s1 h2 hl) (by rw [s1_len]; exact hn))
theorem sn_astoren (X : CX p l e R s m args below meth c w own cc nL rt d) {k : Fin 4} {i : Nat} (hd : decode cc pc = .ok (.astore_n k, 1)) (hi0 : (k : Nat) = i) : SN p l e R s m args below meth c Q w cc nL rt d (i_store i 2 (pc + 1)) pc := by
  intro C ls st h K K2 hi hC hK hR H locs lr hH hlo hl hn
  obtain ⟨z, st, rfl, h1⟩ := st_of hi
  obtain ⟨h2, h3⟩ := s1_f _ _ _ _ h1
  rw [List.map_cons]
  by_cases hz : z = 0
  · subst hz
    exact lv_astore_nN X.1 X.2.1 hd hi0 hl (by omega) rfl (fun lr hl => hK _ _ _ _ h3 H locs lr hH hlo (lv_s1 h2 hl) (by rw [s1_len]; exact hn))
  · rw [cv_r w hz]
    exact lv_astore_n X.1 X.2.1 hd hi0 hl (by omega) rfl (fun lr hl => hK _ _ _ _ h3 H locs lr hH hlo (lv_s1 h2 (by rw [cv_r w hz]; exact hl)) (by rw [s1_len]; exact hn))
theorem sn_astore (X : CX p l e R s m args below meth c w own cc nL rt d) {i : Nat} (hd : decode cc pc = .ok (.astore i, 2)) : SN p l e R s m args below meth c Q w cc nL rt d (i_store i 2 (pc + 2)) pc := by
  intro C ls st h K K2 hi hC hK hR H locs lr hH hlo hl hn
  obtain ⟨z, st, rfl, h1⟩ := st_of hi
  obtain ⟨h2, h3⟩ := s1_f _ _ _ _ h1
  rw [List.map_cons]
  by_cases hz : z = 0
  · subst hz
    exact lv_astoreN X.1 X.2.1 hd hl (by omega) rfl (fun lr hl => hK _ _ _ _ h3 H locs lr hH hlo (lv_s1 h2 hl) (by rw [s1_len]; exact hn))
  · rw [cv_r w hz]
    exact lv_astore X.1 X.2.1 hd hl (by omega) rfl (fun lr hl => hK _ _ _ _ h3 H locs lr hH hlo (lv_s1 h2 (by rw [cv_r w hz]; exact hl)) (by rw [s1_len]; exact hn))
theorem sn_lstoren (X : CX p l e R s m args below meth c w own cc nL rt d) {k : Fin 4} {i : Nat} (hd : decode cc pc = .ok (.lstore_n k, 1)) (hi0 : (k : Nat) = i) : SN p l e R s m args below meth c Q w cc nL rt d (i_stoL i (pc + 1)) pc := by
  intro C ls st h K K2 hi hC hK hR H locs lr hH hlo hl hn
  unfold i_stoL at hi
  split at hi
  · obtain ⟨h2, h3⟩ := s2_f _ _ _ _ hi
    exact lv_lstore_n X.1 X.2.1 hd hi0 hl (by omega) rfl (fun lr hl => hK _ _ _ _ h3 H locs lr hH hlo (lv_s2 h2 hl) (by rw [s2_len]; exact hn))
  · exact hi.elim
theorem sn_lstore (X : CX p l e R s m args below meth c w own cc nL rt d) {i : Nat} (hd : decode cc pc = .ok (.lstore i, 2)) : SN p l e R s m args below meth c Q w cc nL rt d (i_stoL i (pc + 2)) pc := by
  intro C ls st h K K2 hi hC hK hR H locs lr hH hlo hl hn
  unfold i_stoL at hi
  split at hi
  · obtain ⟨h2, h3⟩ := s2_f _ _ _ _ hi
    exact lv_lstore X.1 X.2.1 hd hl (by omega) rfl (fun lr hl => hK _ _ _ _ h3 H locs lr hH hlo (lv_s2 h2 hl) (by rw [s2_len]; exact hn))
  · exact hi.elim
theorem sn_iinc (X : CX p l e R s m args below meth c w own cc nL rt d) {i : Nat} {n : Int} (hd : decode cc pc = .ok (.iinc i n, 3)) : SN p l e R s m args below meth c Q w cc nL rt d (i_iinc i n (pc + 3)) pc := by
  intro C ls st h K K2 hi hC hK hR H locs lr hH hlo hl hn
  unfold i_iinc at hi
  split at hi
  next z hz =>
    obtain ⟨h2, h3⟩ := s1_f _ _ _ _ hi
    have hm : (i, Value.int (Int32.ofInt z)) ∈ lp w 0 ls := by
      have := lp_in w ls 0 i _ hz (show 0 < 3 by decide)
      rwa [Nat.zero_add] at this
    obtain ⟨k, hk⟩ := List.getElem?_of_mem hm
    refine lv_iinc (v := Int32.ofInt (z + n)) X.1 X.2.1 hd hl hk (by rw [Int32.ofInt_add]) (by omega) rfl (fun lr hl => hK _ _ _ _ h3 H locs lr hH hlo (lv_s1 h2 hl) (by rw [s1_len]; exact hn))
  next => exact hi.elim
theorem sn_iadd (X : CX p l e R s m args below meth c w own cc nL rt d) (hd : decode cc pc = .ok (.iadd, 1)) : SN p l e R s m args below meth c Q w cc nL rt d (i_iadd (pc + 1)) pc := by
  intro C ls st h K K2 hi hC hK hR H locs lr hH hlo hl hn
  unfold i_iadd at hi
  split at hi
  · have h3 := hK _ _ _ _ hi H locs lr hH hlo hl hn
    rw [List.map_cons, cv_i, Int32.ofInt_add] at h3
    exact lv_iadd X.1 X.2.1 hd h3
  · exact hi.elim
theorem sn_isub (X : CX p l e R s m args below meth c w own cc nL rt d) (hd : decode cc pc = .ok (.isub, 1)) : SN p l e R s m args below meth c Q w cc nL rt d (i_isub (pc + 1)) pc := by
  intro C ls st h K K2 hi hC hK hR H locs lr hH hlo hl hn
  unfold i_isub at hi
  split at hi
  · have h3 := hK _ _ _ _ hi H locs lr hH hlo hl hn
    rw [List.map_cons, cv_i, Int32.ofInt_sub] at h3
    exact lv_isub X.1 X.2.1 hd h3
  · exact hi.elim
theorem sn_imul (X : CX p l e R s m args below meth c w own cc nL rt d) (hd : decode cc pc = .ok (.imul, 1)) : SN p l e R s m args below meth c Q w cc nL rt d (i_imul (pc + 1)) pc := by
  intro C ls st h K K2 hi hC hK hR H locs lr hH hlo hl hn
  unfold i_imul at hi
  split at hi
  · have h3 := hK _ _ _ _ hi H locs lr hH hlo hl hn
    rw [List.map_cons, cv_i, Int32.ofInt_mul] at h3
    exact lv_imul X.1 X.2.1 hd h3
  · exact hi.elim
theorem sn_ineg (X : CX p l e R s m args below meth c w own cc nL rt d) (hd : decode cc pc = .ok (.ineg, 1)) : SN p l e R s m args below meth c Q w cc nL rt d (i_ineg (pc + 1)) pc := by
  intro C ls st h K K2 hi hC hK hR H locs lr hH hlo hl hn
  unfold i_ineg at hi
  split at hi
  · have h3 := hK _ _ _ _ hi H locs lr hH hlo hl hn
    rw [List.map_cons, cv_i, Int32.ofInt_neg] at h3
    exact lv_ineg X.1 X.2.1 hd h3
  · exact hi.elim
theorem sn_ladd (X : CX p l e R s m args below meth c w own cc nL rt d) (hd : decode cc pc = .ok (.ladd, 1)) : SN p l e R s m args below meth c Q w cc nL rt d (i_ladd (pc + 1)) pc := by
  intro C ls st h K K2 hi hC hK hR H locs lr hH hlo hl hn
  unfold i_ladd at hi
  split at hi
  · have h3 := hK _ _ _ _ hi H locs lr hH hlo hl hn
    rw [List.map_cons, cv_l, Int64.ofInt_add] at h3
    exact lv_ladd X.1 X.2.1 hd h3
  · exact hi.elim
theorem sn_lsub (X : CX p l e R s m args below meth c w own cc nL rt d) (hd : decode cc pc = .ok (.lsub, 1)) : SN p l e R s m args below meth c Q w cc nL rt d (i_lsub (pc + 1)) pc := by
  intro C ls st h K K2 hi hC hK hR H locs lr hH hlo hl hn
  unfold i_lsub at hi
  split at hi
  · have h3 := hK _ _ _ _ hi H locs lr hH hlo hl hn
    rw [List.map_cons, cv_l, Int64.ofInt_sub] at h3
    exact lv_lsub X.1 X.2.1 hd h3
  · exact hi.elim
theorem sn_lmul (X : CX p l e R s m args below meth c w own cc nL rt d) (hd : decode cc pc = .ok (.lmul, 1)) : SN p l e R s m args below meth c Q w cc nL rt d (i_lmul (pc + 1)) pc := by
  intro C ls st h K K2 hi hC hK hR H locs lr hH hlo hl hn
  unfold i_lmul at hi
  split at hi
  · have h3 := hK _ _ _ _ hi H locs lr hH hlo hl hn
    rw [List.map_cons, cv_l, Int64.ofInt_mul] at h3
    exact lv_lmul X.1 X.2.1 hd h3
  · exact hi.elim
theorem sn_idiv (X : CX p l e R s m args below meth c w own cc nL rt d) (hd : decode cc pc = .ok (.idiv, 1)) : SN p l e R s m args below meth c Q w cc nL rt d (i_idiv (pc + 1)) pc := by
  intro C ls st h K K2 hi hC hK hR H locs lr hH hlo hl hn
  unfold i_idiv at hi
  split at hi
  · have h3 := hK _ _ _ _ hi.2 H locs lr hH hlo hl hn
    rw [List.map_cons, cv_i, ← oI_div hi.1.1 hi.1.2.1] at h3
    exact lv_idiv X.1 X.2.1 hd (fun z => hi.1.2.2 ((oI_eq0 hi.1.2.1).mp z)) h3
  · exact hi.elim
theorem sn_irem (X : CX p l e R s m args below meth c w own cc nL rt d) (hd : decode cc pc = .ok (.irem, 1)) : SN p l e R s m args below meth c Q w cc nL rt d (i_irem (pc + 1)) pc := by
  intro C ls st h K K2 hi hC hK hR H locs lr hH hlo hl hn
  unfold i_irem at hi
  split at hi
  · have h3 := hK _ _ _ _ hi.2 H locs lr hH hlo hl hn
    rw [List.map_cons, cv_i, ← oI_rem hi.1.1 hi.1.2.1] at h3
    exact lv_irem X.1 X.2.1 hd (fun z => hi.1.2.2 ((oI_eq0 hi.1.2.1).mp z)) h3
  · exact hi.elim
theorem sn_ldiv (X : CX p l e R s m args below meth c w own cc nL rt d) (hd : decode cc pc = .ok (.ldiv, 1)) : SN p l e R s m args below meth c Q w cc nL rt d (i_ldiv (pc + 1)) pc := by
  intro C ls st h K K2 hi hC hK hR H locs lr hH hlo hl hn
  unfold i_ldiv at hi
  split at hi
  · have h3 := hK _ _ _ _ hi.2 H locs lr hH hlo hl hn
    rw [List.map_cons, cv_l, ← oL_div hi.1.1 hi.1.2.1] at h3
    exact lv_ldiv X.1 X.2.1 hd (fun z => hi.1.2.2 (by have := congrArg Int64.toInt z; rw [oL_t hi.1.2.1] at this; exact this)) h3
  · exact hi.elim
theorem sn_iand (X : CX p l e R s m args below meth c w own cc nL rt d) (hd : decode cc pc = .ok (.iand, 1)) : SN p l e R s m args below meth c Q w cc nL rt d (i_iand (pc + 1)) pc := by
  intro C ls st h K K2 hi hC hK hR H locs lr hH hlo hl hn
  unfold i_iand at hi
  split at hi
  · have h3 := hK _ _ _ _ hi.2 H locs lr hH hlo hl hn
    rw [List.map_cons, cv_i, ← oI_and hi.1] at h3
    exact lv_iand X.1 X.2.1 hd h3
  · exact hi.elim
theorem sn_ishl (X : CX p l e R s m args below meth c w own cc nL rt d) (hd : decode cc pc = .ok (.ishl, 1)) : SN p l e R s m args below meth c Q w cc nL rt d (i_ishl (pc + 1)) pc := by
  intro C ls st h K K2 hi hC hK hR H locs lr hH hlo hl hn
  unfold i_ishl at hi
  split at hi
  · have h3 := hK _ _ _ _ hi.2 H locs lr hH hlo hl hn
    rw [List.map_cons, cv_i, ← oI_shl hi.1.1 hi.1.2] at h3
    exact lv_ishl X.1 X.2.1 hd h3
  · exact hi.elim
theorem sn_ishr (X : CX p l e R s m args below meth c w own cc nL rt d) (hd : decode cc pc = .ok (.ishr, 1)) : SN p l e R s m args below meth c Q w cc nL rt d (i_ishr (pc + 1)) pc := by
  intro C ls st h K K2 hi hC hK hR H locs lr hH hlo hl hn
  unfold i_ishr at hi
  split at hi
  · have h3 := hK _ _ _ _ hi.2 H locs lr hH hlo hl hn
    rw [List.map_cons, cv_i, ← oI_shr hi.1.1 hi.1.2.1 hi.1.2.2] at h3
    exact lv_ishr X.1 X.2.1 hd h3
  · exact hi.elim
theorem sn_iushr (X : CX p l e R s m args below meth c w own cc nL rt d) (hd : decode cc pc = .ok (.iushr, 1)) : SN p l e R s m args below meth c Q w cc nL rt d (i_iushr (pc + 1)) pc := by
  intro C ls st h K K2 hi hC hK hR H locs lr hH hlo hl hn
  unfold i_iushr at hi
  split at hi
  · exact lv_iushr X.1 X.2.1 hd (oI_ushr hi.1.1 hi.1.2) (hK _ _ _ _ hi.2 H locs lr hH hlo hl hn)
  · exact hi.elim
theorem sn_i2l (X : CX p l e R s m args below meth c w own cc nL rt d) (hd : decode cc pc = .ok (.i2l, 1)) : SN p l e R s m args below meth c Q w cc nL rt d (i_i2l (pc + 1)) pc := by
  intro C ls st h K K2 hi hC hK hR H locs lr hH hlo hl hn
  unfold i_i2l at hi
  split at hi
  · exact lv_i2l X.1 X.2.1 hd (oI_l hi.1) (hK _ _ _ _ hi.2 H locs lr hH hlo hl hn)
  · exact hi.elim
theorem sn_l2i (X : CX p l e R s m args below meth c w own cc nL rt d) (hd : decode cc pc = .ok (.l2i, 1)) : SN p l e R s m args below meth c Q w cc nL rt d (i_l2i (pc + 1)) pc := by
  intro C ls st h K K2 hi hC hK hR H locs lr hH hlo hl hn
  unfold i_l2i at hi
  split at hi
  · exact lv_l2i X.1 X.2.1 hd (oL_i _) (hK _ _ _ _ hi H locs lr hH hlo hl hn)
  · exact hi.elim
theorem sn_i2b (X : CX p l e R s m args below meth c w own cc nL rt d) (hd : decode cc pc = .ok (.i2b, 1)) : SN p l e R s m args below meth c Q w cc nL rt d (i_i2b (pc + 1)) pc := by
  intro C ls st h K K2 hi hC hK hR H locs lr hH hlo hl hn
  unfold i_i2b at hi
  split at hi
  · exact lv_i2b X.1 X.2.1 hd (oI_b8 _) (hK _ _ _ _ hi H locs lr hH hlo hl hn)
  · exact hi.elim
theorem sn_lcmp (X : CX p l e R s m args below meth c w own cc nL rt d) (hd : decode cc pc = .ok (.lcmp, 1)) : SN p l e R s m args below meth c Q w cc nL rt d (i_lcmp (pc + 1)) pc := by
  intro C ls st h K K2 hi hC hK hR H locs lr hH hlo hl hn
  unfold i_lcmp at hi
  split at hi
  · have h3 := hK _ _ _ _ hi.2 H locs lr hH hlo hl hn
    rw [List.map_cons, cv_i, ← oL_cmp hi.1.1 hi.1.2] at h3
    exact W.lcmp X.1 X.2.1 hd h3
  · exact hi.elim
theorem sn_dup (X : CX p l e R s m args below meth c w own cc nL rt d) (hd : decode cc pc = .ok (.dup, 1)) : SN p l e R s m args below meth c Q w cc nL rt d (i_dup (pc + 1)) pc := by
  intro C ls st h K K2 hi hC hK hR H locs lr hH hlo hl hn
  unfold i_dup at hi
  split at hi
  next t z st =>
    cases hb : Nat.beq t 1 with
    | true => rw [hb] at hi; exact hi.elim
    | false =>
      rw [hb] at hi
      have hc : (cv w (t, z)).category = 1 := cv_cat (v := (t, z)) (fun e => by have e' : t = 1 := e; rw [e'] at hb; exact absurd hb (by decide))
      exact lv_dup X.1 X.2.1 hd hc (hK _ _ _ _ hi H locs lr hH hlo hl hn)
  next => exact hi.elim
theorem sn_pop (X : CX p l e R s m args below meth c w own cc nL rt d) (hd : decode cc pc = .ok (.pop, 1)) : SN p l e R s m args below meth c Q w cc nL rt d (i_pop (pc + 1)) pc := by
  intro C ls st h K K2 hi hC hK hR H locs lr hH hlo hl hn
  unfold i_pop at hi
  split at hi
  next t z st =>
    cases hb : Nat.beq t 1 with
    | true => rw [hb] at hi; exact hi.elim
    | false =>
      rw [hb] at hi
      have hc : (cv w (t, z)).category = 1 := cv_cat (v := (t, z)) (fun e => by have e' : t = 1 := e; rw [e'] at hb; exact absurd hb (by decide))
      exact lv_pop X.1 X.2.1 hd hc (hK _ _ _ _ hi H locs lr hH hlo hl hn)
  next => exact hi.elim
theorem sn_ifeq (X : CX p l e R s m args below meth c w own cc nL rt d) {off : Int} {tg : Nat} (hd : decode cc pc = .ok (.ifCond .eq off, 3)) (ht : (pc : Int) + off = (tg : Int)) : SN p l e R s m args below meth c Q w cc nL rt d (i_ifeq tg (pc + 3)) pc := by
  intro C ls st h K K2 hi hC hK hR H locs lr hH hlo hl hn
  unfold i_ifeq at hi
  split at hi
  · exact lv_if_eq X.1 X.2.1 hd ht (fun z => hK _ _ _ _ (hi.2.1 ((oI_eq0 hi.1).mp z)) H locs lr hH hlo hl hn) (fun z => hK _ _ _ _ (hi.2.2 (fun y => z ((oI_eq0 hi.1).mpr y))) H locs lr hH hlo hl hn)
  · exact hi.elim
theorem sn_ifne (X : CX p l e R s m args below meth c w own cc nL rt d) {off : Int} {tg : Nat} (hd : decode cc pc = .ok (.ifCond .ne off, 3)) (ht : (pc : Int) + off = (tg : Int)) : SN p l e R s m args below meth c Q w cc nL rt d (i_ifne tg (pc + 3)) pc := by
  intro C ls st h K K2 hi hC hK hR H locs lr hH hlo hl hn
  unfold i_ifne at hi
  split at hi
  · exact lv_if_ne X.1 X.2.1 hd ht (fun z => hK _ _ _ _ (hi.2.1 (fun y => z ((oI_eq0 hi.1).mpr y))) H locs lr hH hlo hl hn) (fun z => hK _ _ _ _ (hi.2.2 ((oI_eq0 hi.1).mp z)) H locs lr hH hlo hl hn)
  · exact hi.elim
theorem sn_iflt (X : CX p l e R s m args below meth c w own cc nL rt d) {off : Int} {tg : Nat} (hd : decode cc pc = .ok (.ifCond .lt off, 3)) (ht : (pc : Int) + off = (tg : Int)) : SN p l e R s m args below meth c Q w cc nL rt d (i_iflt tg (pc + 3)) pc := by
  intro C ls st h K K2 hi hC hK hR H locs lr hH hlo hl hn
  unfold i_iflt at hi
  split at hi
  · exact lv_if_lt X.1 X.2.1 hd ht (fun z => hK _ _ _ _ (hi.2.1 ((oI_lt0 hi.1).mp z)) H locs lr hH hlo hl hn) (fun z => hK _ _ _ _ (hi.2.2 (Int.not_lt.mp (fun y => z ((oI_lt0 hi.1).mpr y)))) H locs lr hH hlo hl hn)
  · exact hi.elim
theorem sn_ifge (X : CX p l e R s m args below meth c w own cc nL rt d) {off : Int} {tg : Nat} (hd : decode cc pc = .ok (.ifCond .ge off, 3)) (ht : (pc : Int) + off = (tg : Int)) : SN p l e R s m args below meth c Q w cc nL rt d (i_ifge tg (pc + 3)) pc := by
  intro C ls st h K K2 hi hC hK hR H locs lr hH hlo hl hn
  unfold i_ifge at hi
  split at hi
  · exact lv_if_ge X.1 X.2.1 hd ht (fun z => hK _ _ _ _ (hi.2.1 ((oI_ge0 hi.1).mp z)) H locs lr hH hlo hl hn) (fun z => hK _ _ _ _ (hi.2.2 (Int.not_le.mp (fun y => z ((oI_ge0 hi.1).mpr y)))) H locs lr hH hlo hl hn)
  · exact hi.elim
theorem sn_ifgt (X : CX p l e R s m args below meth c w own cc nL rt d) {off : Int} {tg : Nat} (hd : decode cc pc = .ok (.ifCond .gt off, 3)) (ht : (pc : Int) + off = (tg : Int)) : SN p l e R s m args below meth c Q w cc nL rt d (i_ifgt tg (pc + 3)) pc := by
  intro C ls st h K K2 hi hC hK hR H locs lr hH hlo hl hn
  unfold i_ifgt at hi
  split at hi
  · exact lv_if_gt X.1 X.2.1 hd ht (fun z => hK _ _ _ _ (hi.2.1 ((oI_gt0 hi.1).mp z)) H locs lr hH hlo hl hn) (fun z => hK _ _ _ _ (hi.2.2 (Int.not_lt.mp (fun y => z ((oI_gt0 hi.1).mpr y)))) H locs lr hH hlo hl hn)
  · exact hi.elim
theorem sn_ifle (X : CX p l e R s m args below meth c w own cc nL rt d) {off : Int} {tg : Nat} (hd : decode cc pc = .ok (.ifCond .le off, 3)) (ht : (pc : Int) + off = (tg : Int)) : SN p l e R s m args below meth c Q w cc nL rt d (i_ifle tg (pc + 3)) pc := by
  intro C ls st h K K2 hi hC hK hR H locs lr hH hlo hl hn
  unfold i_ifle at hi
  split at hi
  · exact lv_if_le X.1 X.2.1 hd ht (fun z => hK _ _ _ _ (hi.2.1 ((oI_le0 hi.1).mp z)) H locs lr hH hlo hl hn) (fun z => hK _ _ _ _ (hi.2.2 (Int.not_le.mp (fun y => z ((oI_le0 hi.1).mpr y)))) H locs lr hH hlo hl hn)
  · exact hi.elim
theorem sn_cmeq (X : CX p l e R s m args below meth c w own cc nL rt d) {off : Int} {tg : Nat} (hd : decode cc pc = .ok (.if_icmp .eq off, 3)) (ht : (pc : Int) + off = (tg : Int)) : SN p l e R s m args below meth c Q w cc nL rt d (i_cmeq tg (pc + 3)) pc := by
  intro C ls st h K K2 hi hC hK hR H locs lr hH hlo hl hn
  unfold i_cmeq at hi
  split at hi
  · exact lv_icmp_eq X.1 X.2.1 hd ht (fun z => hK _ _ _ _ (hi.2.1 ((oI_eq hi.1.1 hi.1.2).mp z)) H locs lr hH hlo hl hn) (fun z => hK _ _ _ _ (hi.2.2 (fun y => z ((oI_eq hi.1.1 hi.1.2).mpr y))) H locs lr hH hlo hl hn)
  · exact hi.elim
theorem sn_cmne (X : CX p l e R s m args below meth c w own cc nL rt d) {off : Int} {tg : Nat} (hd : decode cc pc = .ok (.if_icmp .ne off, 3)) (ht : (pc : Int) + off = (tg : Int)) : SN p l e R s m args below meth c Q w cc nL rt d (i_cmne tg (pc + 3)) pc := by
  intro C ls st h K K2 hi hC hK hR H locs lr hH hlo hl hn
  unfold i_cmne at hi
  split at hi
  · exact lv_icmp_ne X.1 X.2.1 hd ht (fun z => hK _ _ _ _ (hi.2.1 (fun y => z ((oI_eq hi.1.1 hi.1.2).mpr y))) H locs lr hH hlo hl hn) (fun z => hK _ _ _ _ (hi.2.2 ((oI_eq hi.1.1 hi.1.2).mp z)) H locs lr hH hlo hl hn)
  · exact hi.elim
theorem sn_cmlt (X : CX p l e R s m args below meth c w own cc nL rt d) {off : Int} {tg : Nat} (hd : decode cc pc = .ok (.if_icmp .lt off, 3)) (ht : (pc : Int) + off = (tg : Int)) : SN p l e R s m args below meth c Q w cc nL rt d (i_cmlt tg (pc + 3)) pc := by
  intro C ls st h K K2 hi hC hK hR H locs lr hH hlo hl hn
  unfold i_cmlt at hi
  split at hi
  · exact lv_icmp_lt X.1 X.2.1 hd ht (fun z => hK _ _ _ _ (hi.2.1 ((oI_lt hi.1.1 hi.1.2).mp z)) H locs lr hH hlo hl hn) (fun z => hK _ _ _ _ (hi.2.2 (Int.not_lt.mp (fun y => z ((oI_lt hi.1.1 hi.1.2).mpr y)))) H locs lr hH hlo hl hn)
  · exact hi.elim
theorem sn_cmge (X : CX p l e R s m args below meth c w own cc nL rt d) {off : Int} {tg : Nat} (hd : decode cc pc = .ok (.if_icmp .ge off, 3)) (ht : (pc : Int) + off = (tg : Int)) : SN p l e R s m args below meth c Q w cc nL rt d (i_cmge tg (pc + 3)) pc := by
  intro C ls st h K K2 hi hC hK hR H locs lr hH hlo hl hn
  unfold i_cmge at hi
  split at hi
  · exact lv_icmp_ge X.1 X.2.1 hd ht (fun z => hK _ _ _ _ (hi.2.1 ((oI_le hi.1.2 hi.1.1).mp z)) H locs lr hH hlo hl hn) (fun z => hK _ _ _ _ (hi.2.2 (Int.not_le.mp (fun y => z ((oI_le hi.1.2 hi.1.1).mpr y)))) H locs lr hH hlo hl hn)
  · exact hi.elim
theorem sn_cmgt (X : CX p l e R s m args below meth c w own cc nL rt d) {off : Int} {tg : Nat} (hd : decode cc pc = .ok (.if_icmp .gt off, 3)) (ht : (pc : Int) + off = (tg : Int)) : SN p l e R s m args below meth c Q w cc nL rt d (i_cmgt tg (pc + 3)) pc := by
  intro C ls st h K K2 hi hC hK hR H locs lr hH hlo hl hn
  unfold i_cmgt at hi
  split at hi
  · exact lv_icmp_gt X.1 X.2.1 hd ht (fun z => hK _ _ _ _ (hi.2.1 ((oI_lt hi.1.2 hi.1.1).mp z)) H locs lr hH hlo hl hn) (fun z => hK _ _ _ _ (hi.2.2 (Int.not_lt.mp (fun y => z ((oI_lt hi.1.2 hi.1.1).mpr y)))) H locs lr hH hlo hl hn)
  · exact hi.elim
theorem sn_cmle (X : CX p l e R s m args below meth c w own cc nL rt d) {off : Int} {tg : Nat} (hd : decode cc pc = .ok (.if_icmp .le off, 3)) (ht : (pc : Int) + off = (tg : Int)) : SN p l e R s m args below meth c Q w cc nL rt d (i_cmle tg (pc + 3)) pc := by
  intro C ls st h K K2 hi hC hK hR H locs lr hH hlo hl hn
  unfold i_cmle at hi
  split at hi
  · exact lv_icmp_le X.1 X.2.1 hd ht (fun z => hK _ _ _ _ (hi.2.1 ((oI_le hi.1.1 hi.1.2).mp z)) H locs lr hH hlo hl hn) (fun z => hK _ _ _ _ (hi.2.2 (Int.not_le.mp (fun y => z ((oI_le hi.1.1 hi.1.2).mpr y)))) H locs lr hH hlo hl hn)
  · exact hi.elim
theorem sn_ifnull (X : CX p l e R s m args below meth c w own cc nL rt d) {off : Int} {tg : Nat} (hd : decode cc pc = .ok (.ifnull off, 3)) (ht : (pc : Int) + off = (tg : Int)) : SN p l e R s m args below meth c Q w cc nL rt d (i_null tg (pc + 3)) pc := by
  intro C ls st h K K2 hi hC hK hR H locs lr hH hlo hl hn
  unfold i_null at hi
  split at hi
  next a st =>
    rw [List.map_cons]
    by_cases hz : a = 0
    · rw [hz]
      exact lv_ifnullN X.1 X.2.1 hd ht (hK _ _ _ _ (hi.1 hz) H locs lr hH hlo hl hn)
    · rw [cv_r w hz]
      exact lv_ifnull X.1 X.2.1 hd (hK _ _ _ _ (hi.2 hz) H locs lr hH hlo hl hn)
  next => exact hi.elim
theorem sn_ifnonnull (X : CX p l e R s m args below meth c w own cc nL rt d) {off : Int} {tg : Nat} (hd : decode cc pc = .ok (.ifnonnull off, 3)) (ht : (pc : Int) + off = (tg : Int)) : SN p l e R s m args below meth c Q w cc nL rt d (i_nnul tg (pc + 3)) pc := by
  intro C ls st h K K2 hi hC hK hR H locs lr hH hlo hl hn
  unfold i_nnul at hi
  split at hi
  next a st =>
    rw [List.map_cons]
    by_cases hz : a = 0
    · rw [hz]
      exact lv_ifnonnullN X.1 X.2.1 hd (hK _ _ _ _ (hi.2 hz) H locs lr hH hlo hl hn)
    · rw [cv_r w hz]
      exact lv_ifnonnull X.1 X.2.1 hd ht (hK _ _ _ _ (hi.1 hz) H locs lr hH hlo hl hn)
  next => exact hi.elim
end
