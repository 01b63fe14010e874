set_option maxRecDepth 16384 in
theorem rf.o1_0 : (tables_1_1.take 80).all rf.good = true := by decide +kernel
set_option maxRecDepth 16384 in
theorem rf.o1_1 : ((tables_1_1.drop 80).take 80).all rf.good = true := by decide +kernel
set_option maxRecDepth 16384 in
theorem rf.o1_2 : (((tables_1_1.drop 80).drop 80).take 80).all rf.good = true := by decide +kernel
set_option maxRecDepth 16384 in
theorem rf.o1_3 : (((tables_1_1.drop 80).drop 80).drop 80).all rf.good = true := by decide +kernel
theorem rf.o1 : tables_1_1.all rf.good = true := rf.cut 80 rf.o1_0 (rf.cut 80 rf.o1_1 (rf.cut 80 rf.o1_2 rf.o1_3))
