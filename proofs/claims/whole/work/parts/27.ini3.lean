set_option maxRecDepth 100000 in
theorem okc_132_36 : ck_132_36.all (okE 132) = true := by decide +kernel
set_option maxRecDepth 100000 in
theorem okc_132_37 : ck_132_37.all (okE 132) = true := by decide +kernel
set_option maxRecDepth 100000 in
theorem okc_132_38 : ck_132_38.all (okE 132) = true := by decide +kernel
set_option maxRecDepth 100000 in
theorem okc_132_39 : ck_132_39.all (okE 132) = true := by decide +kernel
set_option maxRecDepth 100000 in
theorem okc_132_40 : ck_132_40.all (okE 132) = true := by decide +kernel
set_option maxRecDepth 100000 in
theorem okc_132_41 : ck_132_41.all (okE 132) = true := by decide +kernel
set_option maxRecDepth 100000 in
theorem okc_132_42 : ck_132_42.all (okE 132) = true := by decide +kernel
set_option maxRecDepth 100000 in
theorem okc_132_43 : ck_132_43.all (okE 132) = true := by decide +kernel
set_option maxRecDepth 100000 in
theorem okc_132_44 : ck_132_44.all (okE 132) = true := by decide +kernel
set_option maxRecDepth 100000 in
theorem okc_132_45 : ck_132_45.all (okE 132) = true := by decide +kernel
