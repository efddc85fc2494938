set_option maxRecDepth 100000 in
theorem mx_dl0 : mx_cl0.all (mx_chk code) = true := by decide +kernel
set_option maxRecDepth 100000 in
theorem mx_dl1 : mx_cl1.all (mx_chk code) = true := by decide +kernel
set_option maxRecDepth 100000 in
theorem mx_dl2 : mx_cl2.all (mx_chk code) = true := by decide +kernel
set_option maxRecDepth 100000 in
theorem mx_dl3 : mx_cl3.all (mx_chk code) = true := by decide +kernel
set_option maxRecDepth 100000 in
theorem mx_dl4 : mx_cl4.all (mx_chk code) = true := by decide +kernel
set_option maxRecDepth 100000 in
theorem mx_dl5 : mx_cl5.all (mx_chk code) = true := by decide +kernel
set_option maxRecDepth 100000 in
theorem mx_dl6 : mx_cl6.all (mx_chk code) = true := by decide +kernel
set_option maxRecDepth 100000 in
theorem mx_dl7 : mx_cl7.all (mx_chk code) = true := by decide +kernel
set_option maxRecDepth 100000 in
theorem mx_dl8 : mx_cl8.all (mx_chk code) = true := by decide +kernel
set_option maxRecDepth 100000 in
theorem mx_dl9 : mx_cl9.all (mx_chk code) = true := by decide +kernel
set_option maxRecDepth 100000 in
theorem mx_dl10 : mx_cl10.all (mx_chk code) = true := by decide +kernel
set_option maxRecDepth 100000 in
theorem mx_dl11 : mx_cl11.all (mx_chk code) = true := by decide +kernel
set_option maxRecDepth 100000 in
theorem mx_dl12 : mx_cl12.all (mx_chk code) = true := by decide +kernel
set_option maxRecDepth 100000 in
theorem mx_dl13 : mx_cl13.all (mx_chk code) = true := by decide +kernel
set_option maxRecDepth 100000 in
theorem mx_dl14 : mx_cl14.all (mx_chk code) = true := by decide +kernel
