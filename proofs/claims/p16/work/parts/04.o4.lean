set_option maxRecDepth 16384 in
theorem rf.o4_0 : (tables_1_4.take 80).all rf.good = true := by decide +kernel
set_option maxRecDepth 16384 in
theorem rf.o4_1 : ((tables_1_4.drop 80).take 80).all rf.good = true := by decide +kernel
set_option maxRecDepth 16384 in
theorem rf.o4_2 : (((tables_1_4.drop 80).drop 80).take 80).all rf.good = true := by decide +kernel
set_option maxRecDepth 16384 in
theorem rf.o4_3 : (((tables_1_4.drop 80).drop 80).drop 80).all rf.good = true := by decide +kernel
theorem rf.o4 : tables_1_4.all rf.good = true := rf.cut 80 rf.o4_0 (rf.cut 80 rf.o4_1 (rf.cut 80 rf.o4_2 rf.o4_3))
