theorem rf.words : ∀ c ∈ (Cond.code x code maxLocals ret :: tables_1), c.before rf.args0 rf.about = true := by
  intro c hc
  have h0 := start1.words c hc
  cases hq : su_isCode c with
  | true => exact rf.codes hq h0
  | false =>
    have hg : rf.good c = true := by
      rcases List.mem_cons.mp hc with h | h
      · subst h; cases hq
      · have h1 : c ∈ tables_1_1 ++ (tables_1_2 ++ (tables_1_3 ++ (tables_1_4 ++ tables_1_5))) := h
        simp only [List.mem_append] at h1
        rcases h1 with h | h | h | h | h
        · exact List.all_eq_true.mp rf.o1 c h
        · exact List.all_eq_true.mp rf.o2 c h
        · exact List.all_eq_true.mp rf.o3 c h
        · exact List.all_eq_true.mp rf.o4 c h
        · exact List.all_eq_true.mp rf.o5 c h
    simpa [rf.good, hq] using hg
