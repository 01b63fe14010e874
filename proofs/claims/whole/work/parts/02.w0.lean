def wG : List Cond := lw_tbl.filter goodWord
theorem wG_in {w : Cond} (i : Nat) (h : lw_tbl[i]? = some w) (hg : goodWord w = true) : w ∈ wG := List.mem_filter.mpr ⟨List.mem_of_getElem? h, hg⟩
theorem wG_ps {ws : List Cond} (ps : List Nat) (h : ws = ps.filterMap (fun i => lw_tbl[i]?)) (hg : ws.all goodWord = true) : ∀ w ∈ ws, w ∈ wG := by
  intro w hw
  refine List.mem_filter.mpr ⟨?_, List.all_eq_true.mp hg w hw⟩
  rw [h] at hw
  obtain ⟨i, -, hi⟩ := List.mem_filterMap.mp hw
  exact List.mem_of_getElem? hi
theorem inX0 : ∀ q ∈ u_ws RX0 TX0 4, q ∈ wG := wG_ps [519, 521, 523, 525] (by decide +kernel) (by decide +kernel)
theorem inX1 : ∀ q ∈ u_ws RX1 TX1 3, q ∈ wG := wG_ps [259, 261, 263] (by decide +kernel) (by decide +kernel)
theorem inX2 : ∀ q ∈ u_ws RX2 TX2 7, q ∈ wG := wG_ps [130, 132, 134, 136, 138, 140, 142] (by decide +kernel) (by decide +kernel)
theorem inX3 : ∀ q ∈ u_ws RX3 TX3 15, q ∈ wG := wG_ps [213, 215, 217, 219, 221, 223, 225, 227, 229, 231, 233, 235, 237, 239, 241] (by decide +kernel) (by decide +kernel)
theorem inX4 : ∀ q ∈ u_ws RX4 TX4 10, q ∈ wG := wG_ps [166, 168, 170, 172, 174, 176, 178, 180, 182, 184] (by decide +kernel) (by decide +kernel)
theorem inX5 : ∀ q ∈ u_ws RX5 TX5 1, q ∈ wG := wG_ps [321] (by decide +kernel) (by decide +kernel)
theorem inX6 : ∀ q ∈ u_ws RX6 TX6 3, q ∈ wG := wG_ps [305, 307, 309] (by decide +kernel) (by decide +kernel)
theorem inX7 : ∀ q ∈ u_ws RX7 TX7 1, q ∈ wG := wG_ps [99] (by decide +kernel) (by decide +kernel)
theorem inX8 : ∀ q ∈ u_ws RX8 TX8 2, q ∈ wG := wG_ps [276, 278] (by decide +kernel) (by decide +kernel)
theorem inX9 : ∀ q ∈ u_ws RX9 TX9 2, q ∈ wG := wG_ps [289, 291] (by decide +kernel) (by decide +kernel)
theorem inX10 : ∀ q ∈ u_ws RX10 TX10 6, q ∈ wG := wG_ps [330, 332, 334, 336, 338, 340] (by decide +kernel) (by decide +kernel)
theorem inX11 : ∀ q ∈ u_ws RX11 TX11 41, q ∈ wG := wG_ps [830, 832, 834, 836, 838, 840, 842, 844, 846, 848, 850, 852, 854, 856, 858, 860, 862, 864, 866, 868, 870, 872, 874, 876, 878, 880, 882, 884, 886, 888, 890, 892, 894, 896, 898, 900, 902, 904, 906, 908, 910] (by decide +kernel) (by decide +kernel)
