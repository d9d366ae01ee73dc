set_option maxRecDepth 100000 in
theorem okc_244_52 : ck_244_52.all (okE 244) = true := by decide +kernel
set_option maxRecDepth 100000 in
theorem okc_244_53 : ck_244_53.all (okE 244) = true := by decide +kernel
set_option maxRecDepth 100000 in
theorem okc_244_54 : ck_244_54.all (okE 244) = true := by decide +kernel
set_option maxRecDepth 100000 in
theorem okc_244_55 : ck_244_55.all (okE 244) = true := by decide +kernel
set_option maxRecDepth 100000 in
theorem okc_244_56 : ck_244_56.all (okE 244) = true := by decide +kernel
set_option maxRecDepth 100000 in
theorem okc_244_57 : ck_244_57.all (okE 244) = true := by decide +kernel
set_option maxRecDepth 100000 in
theorem okc_244_58 : ck_244_58.all (okE 244) = true := by decide +kernel
set_option maxRecDepth 100000 in
theorem okc_244_59 : ck_244_59.all (okE 244) = true := by decide +kernel
set_option maxRecDepth 100000 in
theorem okc_244_60 : ck_244_60.all (okE 244) = true := by decide +kernel
