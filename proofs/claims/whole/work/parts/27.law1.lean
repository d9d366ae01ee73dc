set_option maxRecDepth 100000 in
theorem okc_244_13 : ck_244_13.all (okE 244) = true := by decide +kernel
set_option maxRecDepth 100000 in
theorem okc_244_14 : ck_244_14.all (okE 244) = true := by decide +kernel
set_option maxRecDepth 100000 in
theorem okc_244_15 : ck_244_15.all (okE 244) = true := by decide +kernel
set_option maxRecDepth 100000 in
theorem okc_244_16 : ck_244_16.all (okE 244) = true := by decide +kernel
set_option maxRecDepth 100000 in
theorem okc_244_17 : ck_244_17.all (okE 244) = true := by decide +kernel
set_option maxRecDepth 100000 in
theorem okc_244_18 : ck_244_18.all (okE 244) = true := by decide +kernel
set_option maxRecDepth 100000 in
theorem okc_244_19 : ck_244_19.all (okE 244) = true := by decide +kernel
set_option maxRecDepth 100000 in
theorem okc_244_20 : ck_244_20.all (okE 244) = true := by decide +kernel
set_option maxRecDepth 100000 in
theorem okc_244_21 : ck_244_21.all (okE 244) = true := by decide +kernel
set_option maxRecDepth 100000 in
theorem okc_244_22 : ck_244_22.all (okE 244) = true := by decide +kernel
set_option maxRecDepth 100000 in
theorem okc_244_23 : ck_244_23.all (okE 244) = true := by decide +kernel
set_option maxRecDepth 100000 in
theorem okc_244_24 : ck_244_24.all (okE 244) = true := by decide +kernel
set_option maxRecDepth 100000 in
theorem okc_244_25 : ck_244_25.all (okE 244) = true := by decide +kernel
