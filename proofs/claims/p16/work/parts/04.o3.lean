set_option maxRecDepth 16384 in
theorem rf.o3_0 : (tables_1_3.take 80).all rf.good = true := by decide +kernel
set_option maxRecDepth 16384 in
theorem rf.o3_1 : ((tables_1_3.drop 80).take 80).all rf.good = true := by decide +kernel
set_option maxRecDepth 16384 in
theorem rf.o3_2 : (((tables_1_3.drop 80).drop 80).take 80).all rf.good = true := by decide +kernel
set_option maxRecDepth 16384 in
theorem rf.o3_3 : (((tables_1_3.drop 80).drop 80).drop 80).all rf.good = true := by decide +kernel
theorem rf.o3 : tables_1_3.all rf.good = true := rf.cut 80 rf.o3_0 (rf.cut 80 rf.o3_1 (rf.cut 80 rf.o3_2 rf.o3_3))
