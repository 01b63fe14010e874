/-! THE CLAIM OUT OF ONE WALK OF THE LAW'S BODY. Your part is whole_start (and what it stands on); all else here is the same for every law, but numbers. -/
def R_law : String := "BuildingClubLaw"
def lw_P (b : Addr) (xs : List Int32) (args : Array Value) (s : State) : Prop := args = #[.ref b] ∧ s.IntsAt b xs ∧ xs.length ≤ 3072 ∧ (Jvm.Cond.and given_1 narrow_1).before args s = true
def lw_Q (_ : Array Value) (s : State) (o : Outcome) (t : State) : Prop := o = .returned (some (.int 1)) ∧ Framed s o t [] 600000 7302249
def lw_Z (below : List Frame) (a : Array Value) (s : State) : State → Prop := fun t => ∃ o, t.status = .running ∧ Ended t below o ∧ lw_Q a s o t
/-- the law's own end, with 1 on the stack, nothing written that was there before, its room as the claim has it -/
theorem lw_ret {p : Program} {l : Launch} {e : Env} {s : State} {m : MethodId} {below : List Frame} {meth : Method} {c : Code} {b : Nat} (hx : p.tables.exec = Jvm.exec) (hb : c.code = code) (hr : meth.sig.returnType = ret) (hlocks : meth.locks = false) {pc : Nat} {H : Heap} {ls : Array Slot} (hdg : decode code pc = .ok (.ireturn, 1)) : W p l e room_1 s m #[Value.ref b] below meth c H [] 600000 7302249 (lw_Z below #[Value.ref b] s) (F0 m pc ls [.int 1]) := by
  intro T hT X
  obtain ⟨fs, hret, hrun, hended, hW, hframe⟩ := X.leave (v := some (.int 1)) (hlocks := hlocks) (fun h => by rw [hr] at h; cases h)
  have hmeth' : T.vm.method? m = some meth := X.method'
  refine ⟨T.setFrames fs, ?_, .returned (some (.int 1)), hrun, hended, rfl, ⟨_, rfl⟩, hW, hframe⟩
  jvm_step X.here [X.here.top, hx, hb, hdg, hmeth', hr, ret, narrow_b1]
  (try refine ⟨rfl, ?_⟩); (try refine ⟨rfl, ?_⟩)
  first | (intro acts; rw [hret _ acts rfl rfl rfl]) | rw [hret _ _ rfl rfl rfl]
  exact Steps.refl _
/-- what holds at the law's entry: the machine, the code, the tables' words (any of lw_tbl by 'hts w (by decide +kernel)'), the script of L ints xs at the cell b, what the Statement gives of the start (any of its parts by flat_of_before) -/
def lw_At (p : Program) (s : State) (m : MethodId) (meth : Method) (c : Code) (b L : Nat) (xs : Nat → Int32) : Prop :=
  p.tables.exec = Jvm.exec ∧ c.code = code ∧ meth.sig.returnType = ret ∧ c.maxLocals = 4 ∧ s.vm.findClass R_law = some m.cls ∧ (∀ w ∈ lw_tbl, w.before #[Value.ref b] s = true) ∧ va_X b L xs s s.heap ∧ b < s.heap.size ∧ meth.locks = false ∧ (Jvm.Cond.and given_1 narrow_1).before #[Value.ref b] s = true
theorem sm_all (l : Launch) (w : WT) : ∀ y : Nat, y < 133 → SM l w y
  | 0, _ => sm0 l w
  | 1, _ => sm1 l w
  | 2, _ => sm2 l w
  | 3, _ => sm3 l w
  | 4, _ => sm4 l w
  | 5, _ => sm5 l w
  | 6, _ => sm6 l w
  | 7, _ => sm7 l w
  | 8, _ => sm8 l w
  | 9, _ => sm9 l w
  | 10, _ => sm10 l w
  | 11, _ => sm11 l w
  | 12, _ => sm12 l w
  | 13, _ => sm13 l w
  | 14, _ => sm14 l w
  | 15, _ => sm15 l w
  | 16, _ => sm16 l w
  | 17, _ => sm17 l w
  | 18, _ => sm18 l w
  | 19, _ => sm19 l w
  | 20, _ => sm20 l w
  | 21, _ => sm21 l w
  | 22, _ => sm22 l w
  | 23, _ => sm23 l w
  | 24, _ => sm24 l w
  | 25, _ => sm25 l w
  | 26, _ => sm26 l w
  | 27, _ => sm27 l w
  | 28, _ => sm28 l w
  | 29, _ => sm29 l w
  | 30, _ => sm30 l w
  | 31, _ => sm31 l w
  | 32, _ => sm32 l w
  | 33, _ => sm33 l w
  | 34, _ => sm34 l w
  | 35, _ => sm35 l w
  | 36, _ => sm36 l w
  | 37, _ => sm37 l w
  | 38, _ => sm38 l w
  | 39, _ => sm39 l w
  | 40, _ => sm40 l w
  | 41, _ => sm41 l w
  | 42, _ => sm42 l w
  | 43, _ => sm43 l w
  | 44, _ => sm44 l w
  | 45, _ => sm45 l w
  | 46, _ => sm46 l w
  | 47, _ => sm47 l w
  | 48, _ => sm48 l w
  | 49, _ => sm49 l w
  | 50, _ => sm50 l w
  | 51, _ => sm51 l w
  | 52, _ => sm52 l w
  | 53, _ => sm53 l w
  | 54, _ => sm54 l w
  | 55, _ => sm55 l w
  | 56, _ => sm56 l w
  | 57, _ => sm57 l w
  | 58, _ => sm58 l w
  | 59, _ => sm59 l w
  | 60, _ => sm60 l w
  | 61, _ => sm61 l w
  | 62, _ => sm62 l w
  | 63, _ => sm63 l w
  | 64, _ => sm64 l w
  | 65, _ => sm65 l w
  | 66, _ => sm66 l w
  | 67, _ => sm67 l w
  | 68, _ => sm68 l w
  | 69, _ => sm69 l w
  | 70, _ => sm70 l w
  | 71, _ => sm71 l w
  | 72, _ => sm72 l w
  | 73, _ => sm73 l w
  | 74, _ => sm74 l w
  | 75, _ => sm75 l w
  | 76, _ => sm76 l w
  | 77, _ => sm77 l w
  | 78, _ => sm78 l w
  | 79, _ => sm79 l w
  | 80, _ => sm80 l w
  | 81, _ => sm81 l w
  | 82, _ => sm82 l w
  | 83, _ => sm83 l w
  | 84, _ => sm84 l w
  | 85, _ => sm85 l w
  | 86, _ => sm86 l w
  | 87, _ => sm87 l w
  | 88, _ => sm88 l w
  | 89, _ => sm89 l w
  | 90, _ => sm90 l w
  | 91, _ => sm91 l w
  | 92, _ => sm92 l w
  | 93, _ => sm93 l w
  | 94, _ => sm94 l w
  | 95, _ => sm95 l w
  | 96, _ => sm96 l w
  | 97, _ => sm97 l w
  | 98, _ => sm98 l w
  | 99, _ => sm99 l w
  | 100, _ => sm100 l w
  | 101, _ => sm101 l w
  | 102, _ => sm102 l w
  | 103, _ => sm103 l w
  | 104, _ => sm104 l w
  | 105, _ => sm105 l w
  | 106, _ => sm106 l w
  | 107, _ => sm107 l w
  | 108, _ => sm108 l w
  | 109, _ => sm109 l w
  | 110, _ => sm110 l w
  | 111, _ => sm111 l w
  | 112, _ => sm112 l w
  | 113, _ => sm113 l w
  | 114, _ => sm114 l w
  | 115, _ => sm115 l w
  | 116, _ => sm116 l w
  | 117, _ => sm117 l w
  | 118, _ => sm118 l w
  | 119, _ => sm119 l w
  | 120, _ => sm120 l w
  | 121, _ => sm121 l w
  | 122, _ => sm122 l w
  | 123, _ => sm123 l w
  | 124, _ => sm124 l w
  | 125, _ => sm125 l w
  | 126, _ => sm126 l w
  | 127, _ => sm127 l w
  | 128, _ => sm128 l w
  | 129, _ => sm129 l w
  | 130, _ => sm130 l w
  | 131, _ => sm131 l w
  | 132, _ => sm132 l w
  | n + 133, h => absurd h (by omega)
theorem plain_all : ∀ y : Nat, y < 133 → plainFor (pm_yn y) = true := by decide +kernel
/-- what is owed of Rules.placeOf, whose code is the library's -/
def PLM (l : Launch) (w : WT) : Prop := ∀ (d : Nat) (a : Int) (h : PH) (K : PR), inI a → 5 ≤ d → K (some (0, pm_pl a)) h → MetP l w (d + 1) 133 [(0, a)] h K
theorem CO_all {l : Launch} {w : WT} (hPL : PLM l w) : ∀ d, CO l w d (WPM d) := by
  intro d
  induction d with
  | zero => intro y as h K hw; exact hw.elim
  | succ d ih =>
    intro y as h K hw
    cases hb : Nat.beq y 133 with
    | true =>
      have e := Nat.eq_of_beq_eq_true hb
      subst e
      have h2 := hw.2
      clear hw
      rw [show Nat.beq 133 133 = true from rfl] at h2
      dsimp only [cond_true] at h2
      split at h2
      · exact hPL d _ h K h2.1.1 h2.1.2 h2.2
      · exact h2.elim
    | false =>
      have h1 := hw.1
      rw [Bool.and_eq_true] at h1
      have h3 : y ≤ 133 := Nat.le_of_ble_eq_true h1.2
      have h4 : y ≠ 133 := fun z => by rw [z] at hb; exact absurd hb (by decide)
      exact metP_of hb (plain_all y (by omega)) ih (sm_all l w y (by omega)) hw
/-- the heap at the law's entry: the script of L ints, the three rows of Rules -/
def h_in (L : Int) (xs : Int → Int) : PH := (5, 0, fun a => if a = 1 then (12, L) else if a = 2 ∨ a = 3 ∨ a = 4 then (12, 8) else (99, 0),
  fun f a i => if f = 768 ∧ a = 1 then xs i else if f = 768 ∧ a = 2 then (if i = 0 then 20 else if i = 1 then 10 else if i = 2 then 5 else if i = 3 then 600 else if i = 4 then 3 else if i = 5 then 0 else if i = 6 then 80 else 4)
    else if f = 768 ∧ a = 3 then (if i = 0 then 1 else if i = 3 then 10 else if i = 4 then 1 else 0) else if f = 768 ∧ a = 4 then (if i = 0 then 1000 else if i = 1 then 1000 else if i = 2 then 500 else if i = 3 then 9999 else if i = 4 then 5 else if i = 5 then 1 else if i = 6 then 100 else 99) else 0)
/-- the law, in the small machine: what is to be shown of class and reference -/
def LawP : Prop := ∀ (L : Int) (xs : Int → Int), 0 ≤ L → L ≤ 3072 → (∀ i, inI (xs i)) → ∀ X : PK, (∀ pc ls st h, kL_law pc (WPM 12) ls st h X (fun r _ => r = some (0, 1)) → X pc ls st h) → X 0 [(2, 1), (9, 0), (9, 0), (9, 0)] [] (h_in L xs)
theorem law_in {p : Program} {l : Launch} {e : Env} {s : State} {m : MethodId} {below : List Frame} {meth : Method} {c : Code} {b L : Nat} {xs : Nat → Int32} {w : WT} (hP : LawP) (hPL : PLM l w) (hL : L ≤ 3072) (C0 : lw_At p s m meth c b L xs) (hw : w.2.2 = s.heap) (hb1 : w.2.1 1 = b) (hZ : ZW w s) (hH : RH w s (h_in L (fun i => (xs i.toNat).toInt)) s.heap) :
    W p l e room_1 s m #[Value.ref b] below meth c s.heap [] 0 0 (lw_Z below #[Value.ref b] s) (entryFrame m ([Value.ref b] : List Value).toArray 4) := by
  obtain ⟨g1, g2, g3, g4, g5, g6, g7, g8, g9, g10⟩ := C0
  have X : CX p l e room_1 s m #[Value.ref b] below meth c w RL cL_law 4 (some .boolean) 12 :=
    ⟨g1, g2, g3, g4, g5, fun q hq => g6 q (List.mem_filter.mp hq).1, g9, hZ, ⟨_, hH, rfl, rfl⟩, by decide, by decide⟩
  have hl := lv_entry ([.ref b]) (n := 4) (Nat.le_of_ble_eq_true rfl)
  rw [lg_entry_eq]
  generalize (lg_sl ([.ref b]) ++ List.replicate (4 - (lg_sl ([.ref b])).length) Slot.unset).toArray = lr at hl ⊢
  have hcv : cv w (2, 1) = .ref b := by
    rw [cv_r w (by decide)]
    unfold sgA
    rw [if_pos (by decide)]
    show Value.ref (w.2.1 1) = _
    rw [hb1]
  have hl2 : lv_has lr 4 (lp w 0 [(2, 1), (9, 0), (9, 0), (9, 0)]) := ⟨hl.1, hl.2.1, fun q hq => hl.2.2 q (by
    have hq' : q ∈ [((0 : Nat), cv w (2, 1))] := hq
    rw [hcv] at hq'
    exact hq')⟩
  have fin := hP L (fun i => (xs i.toNat).toInt) (by omega) (by omega) (fun i => ⟨Int32.le_toInt _, Int32.toInt_lt _⟩) (WX p l e room_1 s m #[Value.ref b] below meth c (lw_Z below #[Value.ref b] s) w 4) (fun pc ls st h' hi => smL X pc (WPM 12) ls st h' _ _ hi (CO_all hPL 12) (fun _ _ _ _ z => z) (fun r h2 H locs lr2 pc2 k1 k2 k3 k4 => by
      subst k1
      have hz : H.size - s.heap.size ≤ 600000 ∧ SU H - SU s.heap ≤ 7302249 := by
        have a1 := k2.1
        have a2 := k2.2.1
        rw [hw] at a1 a2
        unfold NB SB at a2
        omega
      obtain ⟨ty, q1, q2⟩ := k4
      rcases q2 with ⟨-, -, q4⟩ | ⟨q5, -, -⟩ | ⟨q5, -, -⟩
      · refine va_forget (fun q hq => ?_) (W.widen hz.1 hz.2 (lw_ret g1 g2 g3 g9 q4))
        have := k3 q hq
        unfold outW at this
        rw [hw] at this
        exact this
      · exact absurd q5 (by decide)
      · exact absurd q5 (by decide)))
  have := fin s.heap [] lr hH (fun q hq => by cases hq) hl2 rfl
  rw [Nat.sub_self, Nat.sub_self] at this
  exact this
