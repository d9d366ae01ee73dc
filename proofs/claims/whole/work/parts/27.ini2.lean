set_option maxRecDepth 100000 in
theorem okc_132_24 : ck_132_24.all (okE 132) = true := by decide +kernel
set_option maxRecDepth 100000 in
theorem okc_132_25 : ck_132_25.all (okE 132) = true := by decide +kernel
set_option maxRecDepth 100000 in
theorem okc_132_26 : ck_132_26.all (okE 132) = true := by decide +kernel
set_option maxRecDepth 100000 in
theorem okc_132_27 : ck_132_27.all (okE 132) = true := by decide +kernel
set_option maxRecDepth 100000 in
theorem okc_132_28 : ck_132_28.all (okE 132) = true := by decide +kernel
set_option maxRecDepth 100000 in
theorem okc_132_29 : ck_132_29.all (okE 132) = true := by decide +kernel
set_option maxRecDepth 100000 in
theorem okc_132_30 : ck_132_30.all (okE 132) = true := by decide +kernel
set_option maxRecDepth 100000 in
theorem okc_132_31 : ck_132_31.all (okE 132) = true := by decide +kernel
set_option maxRecDepth 100000 in
theorem okc_132_32 : ck_132_32.all (okE 132) = true := by decide +kernel
set_option maxRecDepth 100000 in
theorem okc_132_33 : ck_132_33.all (okE 132) = true := by decide +kernel
set_option maxRecDepth 100000 in
theorem okc_132_34 : ck_132_34.all (okE 132) = true := by decide +kernel
set_option maxRecDepth 100000 in
theorem okc_132_35 : ck_132_35.all (okE 132) = true := by decide +kernel
