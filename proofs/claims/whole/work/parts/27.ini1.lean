set_option maxRecDepth 100000 in
theorem okc_132_12 : ck_132_12.all (okE 132) = true := by decide +kernel
set_option maxRecDepth 100000 in
theorem okc_132_13 : ck_132_13.all (okE 132) = true := by decide +kernel
set_option maxRecDepth 100000 in
theorem okc_132_14 : ck_132_14.all (okE 132) = true := by decide +kernel
set_option maxRecDepth 100000 in
theorem okc_132_15 : ck_132_15.all (okE 132) = true := by decide +kernel
set_option maxRecDepth 100000 in
theorem okc_132_16 : ck_132_16.all (okE 132) = true := by decide +kernel
set_option maxRecDepth 100000 in
theorem okc_132_17 : ck_132_17.all (okE 132) = true := by decide +kernel
set_option maxRecDepth 100000 in
theorem okc_132_18 : ck_132_18.all (okE 132) = true := by decide +kernel
set_option maxRecDepth 100000 in
theorem okc_132_19 : ck_132_19.all (okE 132) = true := by decide +kernel
set_option maxRecDepth 100000 in
theorem okc_132_20 : ck_132_20.all (okE 132) = true := by decide +kernel
set_option maxRecDepth 100000 in
theorem okc_132_21 : ck_132_21.all (okE 132) = true := by decide +kernel
set_option maxRecDepth 100000 in
theorem okc_132_22 : ck_132_22.all (okE 132) = true := by decide +kernel
set_option maxRecDepth 100000 in
theorem okc_132_23 : ck_132_23.all (okE 132) = true := by decide +kernel
