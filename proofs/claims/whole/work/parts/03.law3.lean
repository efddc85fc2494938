set_option maxRecDepth 100000 in
theorem mx_dl30 : mx_cl30.all (mx_chk code) = true := by decide +kernel
set_option maxRecDepth 100000 in
theorem mx_dl31 : mx_cl31.all (mx_chk code) = true := by decide +kernel
set_option maxRecDepth 100000 in
theorem mx_dl32 : mx_cl32.all (mx_chk code) = true := by decide +kernel
set_option maxRecDepth 100000 in
theorem mx_dl33 : mx_cl33.all (mx_chk code) = true := by decide +kernel
set_option maxRecDepth 100000 in
theorem mx_dl34 : mx_cl34.all (mx_chk code) = true := by decide +kernel
set_option maxRecDepth 100000 in
theorem mx_dl35 : mx_cl35.all (mx_chk code) = true := by decide +kernel
set_option maxRecDepth 100000 in
theorem mx_dl36 : mx_cl36.all (mx_chk code) = true := by decide +kernel
set_option maxRecDepth 100000 in
theorem mx_dl37 : mx_cl37.all (mx_chk code) = true := by decide +kernel
set_option maxRecDepth 100000 in
theorem mx_dl38 : mx_cl38.all (mx_chk code) = true := by decide +kernel
set_option maxRecDepth 100000 in
theorem mx_dl39 : mx_cl39.all (mx_chk code) = true := by decide +kernel
set_option maxRecDepth 100000 in
theorem mx_dl40 : mx_cl40.all (mx_chk code) = true := by decide +kernel
set_option maxRecDepth 100000 in
theorem mx_dl41 : mx_cl41.all (mx_chk code) = true := by decide +kernel
set_option maxRecDepth 100000 in
theorem mx_dl42 : mx_cl42.all (mx_chk code) = true := by decide +kernel
set_option maxRecDepth 100000 in
theorem mx_dl43 : mx_cl43.all (mx_chk code) = true := by decide +kernel
set_option maxRecDepth 100000 in
theorem mx_dl44 : mx_cl44.all (mx_chk code) = true := by decide +kernel
