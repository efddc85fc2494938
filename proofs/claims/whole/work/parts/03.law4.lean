set_option maxRecDepth 100000 in
theorem mx_dl45 : mx_cl45.all (mx_chk code) = true := by decide +kernel
set_option maxRecDepth 100000 in
theorem mx_dl46 : mx_cl46.all (mx_chk code) = true := by decide +kernel
set_option maxRecDepth 100000 in
theorem mx_dl47 : mx_cl47.all (mx_chk code) = true := by decide +kernel
set_option maxRecDepth 100000 in
theorem mx_dl48 : mx_cl48.all (mx_chk code) = true := by decide +kernel
set_option maxRecDepth 100000 in
theorem mx_dl49 : mx_cl49.all (mx_chk code) = true := by decide +kernel
set_option maxRecDepth 100000 in
theorem mx_dl50 : mx_cl50.all (mx_chk code) = true := by decide +kernel
set_option maxRecDepth 100000 in
theorem mx_dl51 : mx_cl51.all (mx_chk code) = true := by decide +kernel
set_option maxRecDepth 100000 in
theorem mx_dl52 : mx_cl52.all (mx_chk code) = true := by decide +kernel
set_option maxRecDepth 100000 in
theorem mx_dl53 : mx_cl53.all (mx_chk code) = true := by decide +kernel
set_option maxRecDepth 100000 in
theorem mx_dl54 : mx_cl54.all (mx_chk code) = true := by decide +kernel
set_option maxRecDepth 100000 in
theorem mx_dl55 : mx_cl55.all (mx_chk code) = true := by decide +kernel
set_option maxRecDepth 100000 in
theorem mx_dl56 : mx_cl56.all (mx_chk code) = true := by decide +kernel
