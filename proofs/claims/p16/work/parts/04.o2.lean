set_option maxRecDepth 16384 in
theorem rf.o2_0 : (tables_1_2.take 80).all rf.good = true := by decide +kernel
set_option maxRecDepth 16384 in
theorem rf.o2_1 : ((tables_1_2.drop 80).take 80).all rf.good = true := by decide +kernel
set_option maxRecDepth 16384 in
theorem rf.o2_2 : (((tables_1_2.drop 80).drop 80).take 80).all rf.good = true := by decide +kernel
set_option maxRecDepth 16384 in
theorem rf.o2_3 : (((tables_1_2.drop 80).drop 80).drop 80).all rf.good = true := by decide +kernel
theorem rf.o2 : tables_1_2.all rf.good = true := rf.cut 80 rf.o2_0 (rf.cut 80 rf.o2_1 (rf.cut 80 rf.o2_2 rf.o2_3))
