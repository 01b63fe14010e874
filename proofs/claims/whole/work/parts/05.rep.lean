/-! THE SMALL MACHINE AND THE REAL ONE: what the heap of the small machine says of the real heap -/
/-- classes' numbers and slots; the cells from outside; the heap at the law's entry -/
abbrev WT : Type := va_G × (Nat → Nat) × Heap
def sgA (w : WT) (a : Int) : Nat := if a < 5 then w.2.1 a.toNat else w.2.2.size + (a.toNat - 5)
def cv (w : WT) (v : PV) : Value := match v.1 with
  | 0 => .int (Int32.ofInt v.2)
  | 1 => .long (Int64.ofInt v.2)
  | _ => if v.2 = 0 then .null else .ref (sgA w v.2)
theorem cv_i (w : WT) (z : Int) : cv w (0, z) = .int (Int32.ofInt z) := rfl
theorem cv_l (w : WT) (z : Int) : cv w (1, z) = .long (Int64.ofInt z) := rfl
theorem cv_n (w : WT) : cv w (2, 0) = .null := rfl
theorem cv_r (w : WT) {a : Int} (h : ¬ a = 0) : cv w (2, a) = .ref (sgA w a) := by
  show (if a = 0 then Value.null else .ref (sgA w a)) = _
  rw [if_neg h]
def tgT (t : FieldType) : Nat := match t with
  | .long => 1
  | .object _ => 2
  | .array _ => 2
  | _ => 0
def pm_ty (c : Nat) : Nat → FieldType := match c with
  | 0 => tyX0
  | 1 => tyX1
  | 2 => tyX2
  | 3 => tyX3
  | 4 => tyX4
  | 5 => tyX5
  | 6 => tyX6
  | 7 => tyX7
  | 8 => tyX8
  | 9 => tyX9
  | 10 => tyX10
  | _ => tyX11
def pm_aty (c : Nat) : FieldType := match c with
  | 12 => .int
  | 13 => .long
  | 14 => .boolean
  | 15 => .byte
  | 16 => .object "BuildingClub$Member"
  | _ => .object "BuildingClub$Call"
def pm_atg (c : Nat) : Nat := match c with
  | 13 => 1
  | 16 => 2
  | 17 => 2
  | _ => 0
def SU (H : Heap) : Nat := (H.toList.map (fun c => c.slots.size)).sum
/-- what a cell of the small machine says of the real one -/
def CRo (w : WT) (h : PH) (H : Heap) (a : Int) (c : Nat) : Prop := 5 ≤ a ∧ ∃ r : vw_C, vwCl[c]? = some r ∧ t_OB (sgA w a) (w.1.1 c) r.2.2 (w.1.2 c) H (fun j => cv w (tgT (pm_ty c j), hv h (64 * c + j) a 0))
def CRa (w : WT) (U : State) (h : PH) (H : Heap) (a : Int) (c : Nat) (n : Int) : Prop := (0 ≤ n ∧ n < 2147483648) ∧ ∃ cell : Cell, H[sgA w a]? = some cell ∧ U.isArrayOf cell (pm_aty c) ∧ cell.vm ≠ .unknown ∧ ((5 ≤ a → cell.vm = .none) ∧ ((a = 2 ∨ 5 ≤ a) → va_RA U cell.cls (pm_aty c))) ∧ (n ≤ (cell.slots.size : Int) ∧ ((a = 1 ∨ a = 2 ∨ 5 ≤ a) → (cell.slots.size : Int) = n)) ∧ ∀ j : Nat, (j : Int) < n → cell.slots[j]? = some (cv w (pm_atg c, hv h (64 * c) a j))
def RH (w : WT) (U : State) (h : PH) (H : Heap) : Prop :=
  (5 ≤ hn h ∧ (H.size : Int) + 5 = w.2.2.size + hn h) ∧ ((0 ≤ hs h ∧ hn h ≤ NB ∧ hs h ≤ SB) ∧ (SU H : Int) = SU w.2.2 + hs h) ∧ (∀ q, q < w.2.2.size → H[q]? = w.2.2[q]?) ∧ (∀ k, w.2.1 k < w.2.2.size) ∧ (∀ a, (hk h a).1 < 18 → 1 ≤ a ∧ a < hn h) ∧
  (∀ a, (hk h a).1 < 12 → CRo w h H a (hk h a).1) ∧ (∀ a, 12 ≤ (hk h a).1 → (hk h a).1 < 18 → CRa w U h H a (hk h a).1 (hk h a).2)
theorem SU_pt {H H' : Heap} (hz : H'.size = H.size) (hq : ∀ q : Nat, (H'[q]?).map (fun c => c.slots.size) = (H[q]?).map (fun c => c.slots.size)) : SU H' = SU H := by
  unfold SU
  congr 1
  apply List.ext_getElem?
  intro i
  have := hq i
  rw [List.getElem?_map, List.getElem?_map]
  simpa using this
theorem SU_set {H H' : Heap} {a : Nat} {cell : Cell} {cell' : Cell} (hz : H'.size = H.size) (hc : H[a]? = some cell) (hc' : H'[a]? = some cell') (hs : cell'.slots.size = cell.slots.size) (ho : ∀ q, q ≠ a → H'[q]? = H[q]?) : SU H' = SU H := by
  refine SU_pt hz fun q => ?_
  by_cases hq : q = a
  · subst hq
    rw [hc, hc']
    simp [hs]
  · rw [ho q hq]
theorem SU_new {H H' : Heap} {n : Nat} {cell : Cell} (hn : H.size = n) (hz : H'.size = n + 1) (hc : H'[n]? = some cell) (ho : ∀ q, q < n → H'[q]? = H[q]?) : SU H' = SU H + cell.slots.size := by
  have e : H'.toList = H.toList ++ [cell] := by
    apply List.ext_getElem?
    intro i
    by_cases hi : i < n
    · have h1 := ho i hi
      rw [List.getElem?_append_left (by simpa using (by omega : i < H.size))]
      simpa using h1
    · by_cases h2 : i = n
      · subst h2
        rw [List.getElem?_append_right (by simp; omega)]
        simp only [Array.getElem?_toList, hc, Array.length_toList, hn, Nat.sub_self]
        rfl
      · rw [List.getElem?_eq_none (by simp; omega), List.getElem?_eq_none (by simp; omega)]
  unfold SU
  rw [e]
  simp
theorem CRa.moved {w : WT} {u U : State} {h : PH} {H : Heap} {a : Int} {c : Nat} {n : Int} (hvm : u.vm.Alike U.vm) (x : CRa w u h H a c n) : CRa w U h H a c n := by
  obtain ⟨h0, cell, h1, h2, h3, h4, h5, h6⟩ := x
  exact ⟨h0, cell, h1, State.isArrayOf_alike hvm h2, h3, ⟨h4.1, fun z => (h4.2 z).moved hvm⟩, h5, h6⟩
theorem RH.moved {w : WT} {u U : State} {h : PH} {H : Heap} (hvm : u.vm.Alike U.vm) (x : RH w u h H) : RH w U h H := by
  obtain ⟨h1, h2, h3, h4, h5, h6, h7⟩ := x
  exact ⟨h1, h2, h3, h4, h5, h6, fun a z1 z2 => (h7 a z1 z2).moved hvm⟩
theorem sg_lt {w : WT} (hx : ∀ k, w.2.1 k < w.2.2.size) {a : Int} (h : a < 5) : sgA w a < w.2.2.size := by
  unfold sgA; rw [if_pos h]; exact hx _
theorem sg_ge {w : WT} {a : Int} (h : 5 ≤ a) : sgA w a = w.2.2.size + (a.toNat - 5) := by
  unfold sgA; rw [if_neg (by omega)]
theorem sg_ne {w : WT} (hx : ∀ k, w.2.1 k < w.2.2.size) {a b : Int} (ha : 5 ≤ a) (hb : 1 ≤ b) (h : b ≠ a) : sgA w b ≠ sgA w a := by
  rw [sg_ge ha]
  by_cases h5 : b < 5
  · have := sg_lt hx h5; omega
  · rw [sg_ge (by omega)]; omega
/-- a store into a cell: everything else stays -/
theorem RH.put {w : WT} {U : State} {h : PH} {H H' : Heap} {a i v : Int} {f : Nat} {cell cell' : Cell} (x : RH w U h H) (ha : 5 ≤ a) (hc : H[sgA w a]? = some cell) (hc' : H'[sgA w a]? = some cell') (hz : cell'.slots.size = cell.slots.size) (hH : H'.size = H.size) (ho : ∀ q, q ≠ sgA w a → H'[q]? = H[q]?)
    (k1 : (hk h a).1 < 12 → CRo w (hput h f a i v) H' a (hk h a).1) (k2 : 12 ≤ (hk h a).1 → (hk h a).1 < 18 → CRa w U (hput h f a i v) H' a (hk h a).1 (hk h a).2) : RH w U (hput h f a i v) H' := by
  obtain ⟨h1, h2, h3, h4, h5, h6, h7⟩ := x
  have hv0 : ∀ g b j, b ≠ a → hv (hput h f a i v) g b j = hv h g b j := fun g b j hb => by
    show (if g = f ∧ b = a ∧ j = i then v else h.2.2.2 g b j) = _
    rw [if_neg (fun z => hb z.2.1)]
    rfl
  refine ⟨⟨h1.1, by rw [hH]; exact h1.2⟩, ⟨h2.1, by rw [SU_set hH hc hc' hz ho]; exact h2.2⟩, fun q hq => ?_, h4, h5, fun b hb => ?_, fun b hb1 hb2 => ?_⟩
  · rw [ho q (by rw [sg_ge ha]; omega)]; exact h3 q hq
  · by_cases hba : b = a
    · subst hba; exact k1 hb
    · obtain ⟨c1, r, c2, cell1, d1, d2, d3, d4⟩ := h6 b hb
      refine ⟨c1, r, c2, cell1, ?_, d2, d3, fun k hkk => ?_⟩
      · rw [ho _ (sg_ne h4 ha (by omega) hba)]; exact d1
      · have z := d4 k hkk
        dsimp only
        rw [hv0 _ _ _ hba]; exact z
  · by_cases hba : b = a
    · subst hba; exact k2 hb1 hb2
    · obtain ⟨c0, cell1, d1, d2, d3, d4, d5, d6⟩ := h7 b hb1 hb2
      refine ⟨c0, cell1, ?_, d2, d3, d4, d5, fun j hj => ?_⟩
      · rw [ho _ (sg_ne h4 ha (h5 b hb2).1 hba)]; exact d1
      · rw [hv0 _ _ _ hba]; exact d6 j hj
theorem RH.putF {w : WT} {U : State} {h : PH} {H H' : Heap} {a v : Int} {c j N : Nat} {C : String} {T : u_T} {cell : Cell} (x : RH w U h H) (hka : (hk h a).1 = c) (hc12 : c < 12) (hr : vwCl[c]? = some (C, T, N)) (hj : j < N) (hap : ∀ x y, x < N → y < N → x ≠ y → w.1.2 c x ≠ w.1.2 c y)
    (hcell : H[sgA w a]? = some cell) (q2 : cell.cls = w.1.1 c) (q3 : cell.vm = .none) (q4 : ∀ k, k < N → cell.slots[w.1.2 c k]? = some (cv w (tgT (pm_ty c k), hv h (64 * c + k) a 0)))
    (e1 : H'[sgA w a]? = some (cell.setSlot (w.1.2 c j) (cv w (tgT (pm_ty c j), v)))) (hH : H'.size = H.size) (ho : ∀ q, q ≠ sgA w a → H'[q]? = H[q]?) : RH w U (hput h (64 * c + j) a 0 v) H' := by
  subst hka
  have h5 := (x.2.2.2.2.2.1 a hc12).1
  refine x.put h5 hcell e1 (by simp [Cell.setSlot]) hH ho (fun _ => ⟨h5, (C, T, N), hr, _, e1, q2, q3, fun k hk => ?_⟩) (fun z => absurd hc12 (by omega))
  rw [t_set q4 hap hj _ k hk]
  by_cases hkj : k = j
  · subst hkj
    simp [updV, hput, hv]
  · simp only [updV, if_neg hkj]
    congr 3
    show _ = (if _ ∧ _ ∧ _ then v else _)
    rw [if_neg (fun z => hkj (by omega))]
    rfl
theorem RH.putA {w : WT} {U : State} {h : PH} {H H' : Heap} {a i v : Int} {c : Nat} {cell : Cell} (x : RH w U h H) (hka : (hk h a).1 = c) (h12 : 12 ≤ c) (h18 : c < 18) (ha : 5 ≤ a) (hi0 : 0 ≤ i) (hi : i < (hk h a).2)
    (hcell : H[sgA w a]? = some cell) (e1 : H'[sgA w a]? = some (cell.setSlot i.toNat (cv w (pm_atg c, v)))) (hH : H'.size = H.size) (ho : ∀ q, q ≠ sgA w a → H'[q]? = H[q]?) : RH w U (hput h (64 * c) a i v) H' := by
  subst hka
  refine x.put ha hcell e1 (by simp [Cell.setSlot]) hH ho (fun z => absurd h12 (by omega)) (fun _ _ => ?_)
  obtain ⟨c0, cell1, d1, d2, d3, d4, d5, d6⟩ := x.2.2.2.2.2.2 a h12 h18
  cases hcell.symm.trans d1
  refine ⟨c0, _, e1, d2, d3, d4, by simpa [Cell.setSlot] using d5, fun j hj => ?_⟩
  by_cases hji : j = i.toNat
  · subst hji
    rw [Cell.slots_setSlot_self _ (by omega)]
    congr 3
    show v = (if _ ∧ _ ∧ _ then v else _)
    rw [if_pos ⟨rfl, rfl, by omega⟩]
  · rw [slot_ne _ _ (Ne.symm hji), d6 j hj]
    congr 3
    show _ = (if _ ∧ _ ∧ _ then v else _)
    rw [if_neg (fun z => hji (by omega))]
    rfl
/-- a new cell -/
theorem RH.new {w : WT} {U : State} {h : PH} {H H' : Heap} {k : Nat} {n m : Int} {cell : Cell} (x : RH w U h H) (hbn : hn h + 1 ≤ NB) (hbs : hs h + m ≤ SB) (hm : (cell.slots.size : Int) = m) (hH : H'.size = H.size + 1) (e1 : H'[H.size]? = some cell) (ho : ∀ q, q < H.size → H'[q]? = H[q]?)
    (k1 : k < 12 → ∃ r : vw_C, vwCl[k]? = some r ∧ cell.cls = w.1.1 k ∧ cell.vm = .none ∧ ∀ j, j < r.2.2 → cell.slots[w.1.2 k j]? = some (cv w (tgT (pm_ty k j), 0)))
    (k2 : 12 ≤ k → k < 18 → n = m ∧ n < 2147483648 ∧ U.isArrayOf cell (pm_aty k) ∧ cell.vm = .none ∧ va_RA U cell.cls (pm_aty k) ∧ ∀ j : Nat, (j : Int) < n → cell.slots[j]? = some (cv w (pm_atg k, 0))) : RH w U (hnew h k n m) H' := by
  obtain ⟨h1, h2, h3, h4, h5, h6, h7⟩ := x
  have hsg : sgA w (hn h) = H.size := by rw [sg_ge h1.1]; omega
  have hkn : ∀ b, b ≠ hn h → hk (hnew h k n m) b = hk h b := fun b hb => by
    show (if b = hn h then (k, n) else h.2.2.1 b) = _
    rw [if_neg hb]; rfl
  have hks : hk (hnew h k n m) (hn h) = (k, n) := by
    show (if hn h = hn h then (k, n) else h.2.2.1 _) = _
    rw [if_pos rfl]
  have hvn : ∀ g b j, b ≠ hn h → hv (hnew h k n m) g b j = hv h g b j := fun g b j hb => by
    show (if b = hn h then 0 else h.2.2.2 g b j) = _
    rw [if_neg hb]; rfl
  have hvs : ∀ g j, hv (hnew h k n m) g (hn h) j = 0 := fun g j => by
    show (if hn h = hn h then 0 else h.2.2.2 g _ j) = _
    rw [if_pos rfl]
  have hlt : ∀ b, 1 ≤ b → b < hn h → sgA w b < H.size := fun b hb0 hb => by
    by_cases hb5 : b < 5
    · have := sg_lt h4 hb5; omega
    · rw [sg_ge (by omega)]; omega
  have hnn : hn (hnew h k n m) = hn h + 1 := rfl
  refine ⟨⟨by rw [hnn]; omega, by rw [hnn, hH]; omega⟩, ⟨?_, ?_⟩, fun q hq => ?_, h4, fun b hb => ?_, fun b hb => ?_, fun b hb1 hb2 => ?_⟩
  · show 0 ≤ h.2.1 + m ∧ h.1 + 1 ≤ NB ∧ h.2.1 + m ≤ SB
    have := h2.1.1
    unfold hs at this hbs
    unfold hn at hbn
    omega
  · rw [SU_new rfl hH e1 ho]
    show _ = (SU w.2.2 : Int) + (h.2.1 + m)
    have := h2.2
    unfold hs at this
    omega
  · rw [ho q (by omega)]; exact h3 q hq
  · by_cases hbn : b = hn h
    · subst hbn; rw [hnn]; omega
    · rw [hkn b hbn] at hb
      have := h5 b hb
      rw [hnn]; omega
  · by_cases hbn : b = hn h
    · subst hbn
      rw [hks] at hb ⊢
      obtain ⟨r, z1, z2, z3, z4⟩ := k1 hb
      refine ⟨h1.1, r, z1, cell, by rw [hsg]; exact e1, z2, z3, fun j hj => ?_⟩
      have z := z4 j hj
      dsimp only
      rw [hvs]; exact z
    · rw [hkn b hbn] at hb ⊢
      obtain ⟨c1, r, c2, cell1, d1, d2, d3, d4⟩ := h6 b hb
      refine ⟨c1, r, c2, cell1, ?_, d2, d3, fun k hkk => ?_⟩
      · rw [ho _ (hlt b (by omega) (h5 b (by omega)).2)]; exact d1
      · have z := d4 k hkk
        dsimp only
        rw [hvn _ _ _ hbn]; exact z
  · by_cases hbn : b = hn h
    · subst hbn
      rw [hks] at hb1 hb2 ⊢
      obtain ⟨z0, z1, z2, z3, z4, z5⟩ := k2 hb1 hb2
      refine ⟨⟨by show 0 ≤ n; omega, z1⟩, cell, by rw [hsg]; exact e1, z2, (fun z => by rw [z3] at z; cases z), ⟨fun _ => z3, fun _ => z4⟩, ⟨by show n ≤ _; omega, fun _ => by show _ = n; omega⟩, fun j hj => ?_⟩
      rw [hvs]; exact z5 j hj
    · rw [hkn b hbn] at hb1 hb2 ⊢
      obtain ⟨c0, cell1, d1, d2, d3, d4, d5, d6⟩ := h7 b hb1 hb2
      refine ⟨c0, cell1, ?_, d2, d3, d4, d5, fun j hj => ?_⟩
      · rw [ho _ (hlt b (h5 b hb2).1 (h5 b hb2).2)]; exact d1
      · rw [hvn _ _ _ hbn]; exact d6 j hj
