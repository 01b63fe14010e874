set_option maxRecDepth 16384 in
/-- the law, begun there with an empty script, is left by a throw: CloneNotSupportedException, out of the clone of FIRST in the first Rules of the first new BuildingClub -/
theorem rf.run_ok : rf.leaves start1.p0.tables start1.e0 80 rf.about = true := by decide +kernel
