set_option maxRecDepth 16384 in
theorem rf.o5_0 : (tables_1_5.take 80).all rf.good = true := by decide +kernel
set_option maxRecDepth 16384 in
theorem rf.o5_1 : ((tables_1_5.drop 80).take 80).all rf.good = true := by decide +kernel
set_option maxRecDepth 16384 in
theorem rf.o5_2 : (((tables_1_5.drop 80).drop 80).take 80).all rf.good = true := by decide +kernel
set_option maxRecDepth 16384 in
theorem rf.o5_3 : (((tables_1_5.drop 80).drop 80).drop 80).all rf.good = true := by decide +kernel
theorem rf.o5 : tables_1_5.all rf.good = true := rf.cut 80 rf.o5_0 (rf.cut 80 rf.o5_1 (rf.cut 80 rf.o5_2 rf.o5_3))
