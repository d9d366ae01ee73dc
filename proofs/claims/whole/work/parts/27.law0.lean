set_option maxRecDepth 100000 in
theorem okc_244_0 : ck_244_0.all (okE 244) = true := by decide +kernel
set_option maxRecDepth 100000 in
theorem okc_244_1 : ck_244_1.all (okE 244) = true := by decide +kernel
set_option maxRecDepth 100000 in
theorem okc_244_2 : ck_244_2.all (okE 244) = true := by decide +kernel
set_option maxRecDepth 100000 in
theorem okc_244_3 : ck_244_3.all (okE 244) = true := by decide +kernel
set_option maxRecDepth 100000 in
theorem okc_244_4 : ck_244_4.all (okE 244) = true := by decide +kernel
set_option maxRecDepth 100000 in
theorem okc_244_5 : ck_244_5.all (okE 244) = true := by decide +kernel
set_option maxRecDepth 100000 in
theorem okc_244_6 : ck_244_6.all (okE 244) = true := by decide +kernel
set_option maxRecDepth 100000 in
theorem okc_244_7 : ck_244_7.all (okE 244) = true := by decide +kernel
set_option maxRecDepth 100000 in
theorem okc_244_8 : ck_244_8.all (okE 244) = true := by decide +kernel
set_option maxRecDepth 100000 in
theorem okc_244_9 : ck_244_9.all (okE 244) = true := by decide +kernel
set_option maxRecDepth 100000 in
theorem okc_244_10 : ck_244_10.all (okE 244) = true := by decide +kernel
set_option maxRecDepth 100000 in
theorem okc_244_11 : ck_244_11.all (okE 244) = true := by decide +kernel
set_option maxRecDepth 100000 in
theorem okc_244_12 : ck_244_12.all (okE 244) = true := by decide +kernel
