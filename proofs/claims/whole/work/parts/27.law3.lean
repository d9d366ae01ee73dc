set_option maxRecDepth 100000 in
theorem okc_244_39 : ck_244_39.all (okE 244) = true := by decide +kernel
set_option maxRecDepth 100000 in
theorem okc_244_40 : ck_244_40.all (okE 244) = true := by decide +kernel
set_option maxRecDepth 100000 in
theorem okc_244_41 : ck_244_41.all (okE 244) = true := by decide +kernel
set_option maxRecDepth 100000 in
theorem okc_244_42 : ck_244_42.all (okE 244) = true := by decide +kernel
set_option maxRecDepth 100000 in
theorem okc_244_43 : ck_244_43.all (okE 244) = true := by decide +kernel
set_option maxRecDepth 100000 in
theorem okc_244_44 : ck_244_44.all (okE 244) = true := by decide +kernel
set_option maxRecDepth 100000 in
theorem okc_244_45 : ck_244_45.all (okE 244) = true := by decide +kernel
set_option maxRecDepth 100000 in
theorem okc_244_46 : ck_244_46.all (okE 244) = true := by decide +kernel
set_option maxRecDepth 100000 in
theorem okc_244_47 : ck_244_47.all (okE 244) = true := by decide +kernel
set_option maxRecDepth 100000 in
theorem okc_244_48 : ck_244_48.all (okE 244) = true := by decide +kernel
set_option maxRecDepth 100000 in
theorem okc_244_49 : ck_244_49.all (okE 244) = true := by decide +kernel
set_option maxRecDepth 100000 in
theorem okc_244_50 : ck_244_50.all (okE 244) = true := by decide +kernel
set_option maxRecDepth 100000 in
theorem okc_244_51 : ck_244_51.all (okE 244) = true := by decide +kernel
