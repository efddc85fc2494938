set_option maxRecDepth 100000 in
theorem mx_dl15 : mx_cl15.all (mx_chk code) = true := by decide +kernel
set_option maxRecDepth 100000 in
theorem mx_dl16 : mx_cl16.all (mx_chk code) = true := by decide +kernel
set_option maxRecDepth 100000 in
theorem mx_dl17 : mx_cl17.all (mx_chk code) = true := by decide +kernel
set_option maxRecDepth 100000 in
theorem mx_dl18 : mx_cl18.all (mx_chk code) = true := by decide +kernel
set_option maxRecDepth 100000 in
theorem mx_dl19 : mx_cl19.all (mx_chk code) = true := by decide +kernel
set_option maxRecDepth 100000 in
theorem mx_dl20 : mx_cl20.all (mx_chk code) = true := by decide +kernel
set_option maxRecDepth 100000 in
theorem mx_dl21 : mx_cl21.all (mx_chk code) = true := by decide +kernel
set_option maxRecDepth 100000 in
theorem mx_dl22 : mx_cl22.all (mx_chk code) = true := by decide +kernel
set_option maxRecDepth 100000 in
theorem mx_dl23 : mx_cl23.all (mx_chk code) = true := by decide +kernel
set_option maxRecDepth 100000 in
theorem mx_dl24 : mx_cl24.all (mx_chk code) = true := by decide +kernel
set_option maxRecDepth 100000 in
theorem mx_dl25 : mx_cl25.all (mx_chk code) = true := by decide +kernel
set_option maxRecDepth 100000 in
theorem mx_dl26 : mx_cl26.all (mx_chk code) = true := by decide +kernel
set_option maxRecDepth 100000 in
theorem mx_dl27 : mx_cl27.all (mx_chk code) = true := by decide +kernel
set_option maxRecDepth 100000 in
theorem mx_dl28 : mx_cl28.all (mx_chk code) = true := by decide +kernel
set_option maxRecDepth 100000 in
theorem mx_dl29 : mx_cl29.all (mx_chk code) = true := by decide +kernel
