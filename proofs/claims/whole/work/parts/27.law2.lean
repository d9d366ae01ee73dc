set_option maxRecDepth 100000 in
theorem okc_244_26 : ck_244_26.all (okE 244) = true := by decide +kernel
set_option maxRecDepth 100000 in
theorem okc_244_27 : ck_244_27.all (okE 244) = true := by decide +kernel
set_option maxRecDepth 100000 in
theorem okc_244_28 : ck_244_28.all (okE 244) = true := by decide +kernel
set_option maxRecDepth 100000 in
theorem okc_244_29 : ck_244_29.all (okE 244) = true := by decide +kernel
set_option maxRecDepth 100000 in
theorem okc_244_30 : ck_244_30.all (okE 244) = true := by decide +kernel
set_option maxRecDepth 100000 in
theorem okc_244_31 : ck_244_31.all (okE 244) = true := by decide +kernel
set_option maxRecDepth 100000 in
theorem okc_244_32 : ck_244_32.all (okE 244) = true := by decide +kernel
set_option maxRecDepth 100000 in
theorem okc_244_33 : ck_244_33.all (okE 244) = true := by decide +kernel
set_option maxRecDepth 100000 in
theorem okc_244_34 : ck_244_34.all (okE 244) = true := by decide +kernel
set_option maxRecDepth 100000 in
theorem okc_244_35 : ck_244_35.all (okE 244) = true := by decide +kernel
set_option maxRecDepth 100000 in
theorem okc_244_36 : ck_244_36.all (okE 244) = true := by decide +kernel
set_option maxRecDepth 100000 in
theorem okc_244_37 : ck_244_37.all (okE 244) = true := by decide +kernel
set_option maxRecDepth 100000 in
theorem okc_244_38 : ck_244_38.all (okE 244) = true := by decide +kernel
