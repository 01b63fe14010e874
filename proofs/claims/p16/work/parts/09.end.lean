set_option maxRecDepth 16384 in
/-- what the claim takes as given holds at rf.about: it is applied there, and its end is looked at -/
theorem rf.claimed_1_1_false : ¬ Claimed_1_1 := by
  intro hA
  have happ : (headSpec (Cond.code x code maxLocals ret :: tables_1) room_1).applies x start1.e0.platform rf.about = true :=
    (Spec.applies_iff rfl).mpr ⟨rfl, rfl, rfl, by decide +kernel, by decide +kernel, by decide +kernel, launch0.hasRoom_least _ room_1 (by decide +kernel) (by decide +kernel) (by decide +kernel) (by decide +kernel) (by decide +kernel) (by decide +kernel), atoms_intro rf.words⟩
  have hrest : rest_1_c.before rf.args0 rf.about = true := by decide +kernel
  have hpre : (Cond.and given_1 narrow_1).before rf.args0 rf.about = true := by decide +kernel
  have hfit : argsFit rf.about.vm ⟨0, 0⟩ rf.args0 = true := by decide +kernel
  have hheap : heapFits rf.about = true := by decide +kernel
  obtain ⟨k, o, hin, -, hend, hpost⟩ := hA launch0 rfl lists_1 trivial start1.p0 start1.e0 (launch0.admits_env _ _ _) fairChoices_fair.cas fairChoices_fair.clock rf.about ⟨0, 0⟩ rf.args0 Lib.HandBits.below0 rfl hfit hheap happ ⟨trivial, hrest, hpre⟩
  cases o with
  | returned v => exact rf.no_value _ _ _ _ rf.run_ok k v hin hend
  | threw a =>
    have h0 := hpost.1
    have hv : Jvm.D.postC limb_1_1 start1.p0.tables start1.e0 rf.args0 rf.about (.threw a) (stepsAlone start1.p0.tables start1.e0 k rf.about) = ((some false == some true) = true) := rfl
    rw [hv] at h0
    exact absurd h0 (by decide)
/-- what is owed has no proof -/
theorem rf.not_owed : ¬ (Claimed_1_1 ∧ Claimed_1_2) := fun h => rf.claimed_1_1_false h.1
