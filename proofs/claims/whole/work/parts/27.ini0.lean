set_option maxRecDepth 100000 in
theorem okc_132_0 : ck_132_0.all (okE 132) = true := by decide +kernel
set_option maxRecDepth 100000 in
theorem okc_132_1 : ck_132_1.all (okE 132) = true := by decide +kernel
set_option maxRecDepth 100000 in
theorem okc_132_2 : ck_132_2.all (okE 132) = true := by decide +kernel
set_option maxRecDepth 100000 in
theorem okc_132_3 : ck_132_3.all (okE 132) = true := by decide +kernel
set_option maxRecDepth 100000 in
theorem okc_132_4 : ck_132_4.all (okE 132) = true := by decide +kernel
set_option maxRecDepth 100000 in
theorem okc_132_5 : ck_132_5.all (okE 132) = true := by decide +kernel
set_option maxRecDepth 100000 in
theorem okc_132_6 : ck_132_6.all (okE 132) = true := by decide +kernel
set_option maxRecDepth 100000 in
theorem okc_132_7 : ck_132_7.all (okE 132) = true := by decide +kernel
set_option maxRecDepth 100000 in
theorem okc_132_8 : ck_132_8.all (okE 132) = true := by decide +kernel
set_option maxRecDepth 100000 in
theorem okc_132_9 : ck_132_9.all (okE 132) = true := by decide +kernel
set_option maxRecDepth 100000 in
theorem okc_132_10 : ck_132_10.all (okE 132) = true := by decide +kernel
set_option maxRecDepth 100000 in
theorem okc_132_11 : ck_132_11.all (okE 132) = true := by decide +kernel
