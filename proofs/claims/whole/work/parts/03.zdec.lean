set_option maxRecDepth 20000 in
theorem mx_dk168 : mx_ct168.all (fun c => c.all (mx_chk (mx_mb 168))) = true := List.all_eq_true.mpr (mx_fc mx_dl0 (mx_fc mx_dl1 (mx_fc mx_dl2 (mx_fc mx_dl3 (mx_fc mx_dl4 (mx_fc mx_dl5 (mx_fc mx_dl6 (mx_fc mx_dl7 (mx_fc mx_dl8 (mx_fc mx_dl9 (mx_fc mx_dl10 (mx_fc mx_dl11 (mx_fc mx_dl12 (mx_fc mx_dl13 (mx_fc mx_dl14 (mx_fc mx_dl15 (mx_fc mx_dl16 (mx_fc mx_dl17 (mx_fc mx_dl18 (mx_fc mx_dl19 (mx_fc mx_dl20 (mx_fc mx_dl21 (mx_fc mx_dl22 (mx_fc mx_dl23 (mx_fc mx_dl24 (mx_fc mx_dl25 (mx_fc mx_dl26 (mx_fc mx_dl27 (mx_fc mx_dl28 (mx_fc mx_dl29 (mx_fc mx_dl30 (mx_fc mx_dl31 (mx_fc mx_dl32 (mx_fc mx_dl33 (mx_fc mx_dl34 (mx_fc mx_dl35 (mx_fc mx_dl36 (mx_fc mx_dl37 (mx_fc mx_dl38 (mx_fc mx_dl39 (mx_fc mx_dl40 (mx_fc mx_dl41 (mx_fc mx_dl42 (mx_fc mx_dl43 (mx_fc mx_dl44 (mx_fc mx_dl45 (mx_fc mx_dl46 (mx_fc mx_dl47 (mx_fc mx_dl48 (mx_fc mx_dl49 (mx_fc mx_dl50 (mx_fc mx_dl51 (mx_fc mx_dl52 (mx_fc mx_dl53 (mx_fc mx_dl54 (mx_fc mx_dl55 (mx_fc mx_dl56 (mx_f0))))))))))))))))))))))))))))))))))))))))))))))))))))))))))
theorem mx_dkl {b : ByteArray} {l : List (List (Nat × Jvm.ClassFile.Instr))} (h : l.all (fun c => c.all (mx_chk b)) = true) {pc : Nat} {i : Jvm.ClassFile.Instr} (hc : ((l[pc / 16]?).getD []).lookup pc = some i) : ∃ len, decode b pc = .ok (i, len) ∧ (mx_isw i = true ∨ len = mx_ilen i) := by
  have hm := mx_lk hc
  cases hq : l[pc / 16]? with
  | none => rw [hq] at hm; simp at hm
  | some ch =>
    rw [hq] at hm
    exact mx_chk_ok (List.all_eq_true.mp (List.all_eq_true.mp h ch (List.mem_of_getElem? hq)) _ hm)
theorem mx_dp0 (j : Nat) (h : j < 16) : (mx_ix mx_cts (0 + j) []).all (fun c => c.all (mx_chk (mx_mb (0 + j)))) = true := by
  match j, h with
  | 0, _ => exact mx_dk0
  | 1, _ => exact mx_dk1
  | 2, _ => exact mx_dk2
  | 3, _ => exact mx_dk3
  | 4, _ => exact mx_dk4
  | 5, _ => exact mx_dk5
  | 6, _ => exact mx_dk6
  | 7, _ => exact mx_dk7
  | 8, _ => exact mx_dk8
  | 9, _ => exact mx_dk9
  | 10, _ => exact mx_dk10
  | 11, _ => exact mx_dk11
  | 12, _ => exact mx_dk12
  | 13, _ => exact mx_dk13
  | 14, _ => exact mx_dk14
  | 15, _ => exact mx_dk15
  | n + 16, h => omega
theorem mx_dp1 (j : Nat) (h : j < 16) : (mx_ix mx_cts (16 + j) []).all (fun c => c.all (mx_chk (mx_mb (16 + j)))) = true := by
  match j, h with
  | 0, _ => exact mx_dk16
  | 1, _ => exact mx_dk17
  | 2, _ => exact mx_dk18
  | 3, _ => exact mx_dk19
  | 4, _ => exact mx_dk20
  | 5, _ => exact mx_dk21
  | 6, _ => exact mx_dk22
  | 7, _ => exact mx_dk23
  | 8, _ => exact mx_dk24
  | 9, _ => exact mx_dk25
  | 10, _ => exact mx_dk26
  | 11, _ => exact mx_dk27
  | 12, _ => exact mx_dk28
  | 13, _ => exact mx_dk29
  | 14, _ => exact mx_dk30
  | 15, _ => exact mx_dk31
  | n + 16, h => omega
theorem mx_dp2 (j : Nat) (h : j < 16) : (mx_ix mx_cts (32 + j) []).all (fun c => c.all (mx_chk (mx_mb (32 + j)))) = true := by
  match j, h with
  | 0, _ => exact mx_dk32
  | 1, _ => exact mx_dk33
  | 2, _ => exact mx_dk34
  | 3, _ => exact mx_dk35
  | 4, _ => exact mx_dk36
  | 5, _ => exact mx_dk37
  | 6, _ => exact mx_dk38
  | 7, _ => exact mx_dk39
  | 8, _ => exact mx_dk40
  | 9, _ => exact mx_dk41
  | 10, _ => exact mx_dk42
  | 11, _ => exact mx_dk43
  | 12, _ => exact mx_dk44
  | 13, _ => exact mx_dk45
  | 14, _ => exact mx_dk46
  | 15, _ => exact mx_dk47
  | n + 16, h => omega
theorem mx_dp3 (j : Nat) (h : j < 16) : (mx_ix mx_cts (48 + j) []).all (fun c => c.all (mx_chk (mx_mb (48 + j)))) = true := by
  match j, h with
  | 0, _ => exact mx_dk48
  | 1, _ => exact mx_dk49
  | 2, _ => exact mx_dk50
  | 3, _ => exact mx_dk51
  | 4, _ => exact mx_dk52
  | 5, _ => exact mx_dk53
  | 6, _ => exact mx_dk54
  | 7, _ => exact mx_dk55
  | 8, _ => exact mx_dk56
  | 9, _ => exact mx_dk57
  | 10, _ => exact mx_dk58
  | 11, _ => exact mx_dk59
  | 12, _ => exact mx_dk60
  | 13, _ => exact mx_dk61
  | 14, _ => exact mx_dk62
  | 15, _ => exact mx_dk63
  | n + 16, h => omega
theorem mx_dp4 (j : Nat) (h : j < 16) : (mx_ix mx_cts (64 + j) []).all (fun c => c.all (mx_chk (mx_mb (64 + j)))) = true := by
  match j, h with
  | 0, _ => exact mx_dk64
  | 1, _ => exact mx_dk65
  | 2, _ => exact mx_dk66
  | 3, _ => exact mx_dk67
  | 4, _ => exact mx_dk68
  | 5, _ => exact mx_dk69
  | 6, _ => exact mx_dk70
  | 7, _ => exact mx_dk71
  | 8, _ => exact mx_dk72
  | 9, _ => exact mx_dk73
  | 10, _ => exact mx_dk74
  | 11, _ => exact mx_dk75
  | 12, _ => exact mx_dk76
  | 13, _ => exact mx_dk77
  | 14, _ => exact mx_dk78
  | 15, _ => exact mx_dk79
  | n + 16, h => omega
theorem mx_dp5 (j : Nat) (h : j < 16) : (mx_ix mx_cts (80 + j) []).all (fun c => c.all (mx_chk (mx_mb (80 + j)))) = true := by
  match j, h with
  | 0, _ => exact mx_dk80
  | 1, _ => exact mx_dk81
  | 2, _ => exact mx_dk82
  | 3, _ => exact mx_dk83
  | 4, _ => exact mx_dk84
  | 5, _ => exact mx_dk85
  | 6, _ => exact mx_dk86
  | 7, _ => exact mx_dk87
  | 8, _ => exact mx_dk88
  | 9, _ => exact mx_dk89
  | 10, _ => exact mx_dk90
  | 11, _ => exact mx_dk91
  | 12, _ => exact mx_dk92
  | 13, _ => exact mx_dk93
  | 14, _ => exact mx_dk94
  | 15, _ => exact mx_dk95
  | n + 16, h => omega
theorem mx_dp6 (j : Nat) (h : j < 16) : (mx_ix mx_cts (96 + j) []).all (fun c => c.all (mx_chk (mx_mb (96 + j)))) = true := by
  match j, h with
  | 0, _ => exact mx_dk96
  | 1, _ => exact mx_dk97
  | 2, _ => exact mx_dk98
  | 3, _ => exact mx_dk99
  | 4, _ => exact mx_dk100
  | 5, _ => exact mx_dk101
  | 6, _ => exact mx_dk102
  | 7, _ => exact mx_dk103
  | 8, _ => exact mx_dk104
  | 9, _ => exact mx_dk105
  | 10, _ => exact mx_dk106
  | 11, _ => exact mx_dk107
  | 12, _ => exact mx_dk108
  | 13, _ => exact mx_dk109
  | 14, _ => exact mx_dk110
  | 15, _ => exact mx_dk111
  | n + 16, h => omega
theorem mx_dp7 (j : Nat) (h : j < 16) : (mx_ix mx_cts (112 + j) []).all (fun c => c.all (mx_chk (mx_mb (112 + j)))) = true := by
  match j, h with
  | 0, _ => exact mx_dk112
  | 1, _ => exact mx_dk113
  | 2, _ => exact mx_dk114
  | 3, _ => exact mx_dk115
  | 4, _ => exact mx_dk116
  | 5, _ => exact mx_dk117
  | 6, _ => exact mx_dk118
  | 7, _ => exact mx_dk119
  | 8, _ => exact mx_dk120
  | 9, _ => exact mx_dk121
  | 10, _ => exact mx_dk122
  | 11, _ => exact mx_dk123
  | 12, _ => exact mx_dk124
  | 13, _ => exact mx_dk125
  | 14, _ => exact mx_dk126
  | 15, _ => exact mx_dk127
  | n + 16, h => omega
theorem mx_dp8 (j : Nat) (h : j < 16) : (mx_ix mx_cts (128 + j) []).all (fun c => c.all (mx_chk (mx_mb (128 + j)))) = true := by
  match j, h with
  | 0, _ => exact mx_dk128
  | 1, _ => exact mx_dk129
  | 2, _ => exact mx_dk130
  | 3, _ => exact mx_dk131
  | 4, _ => exact mx_dk132
  | 5, _ => exact mx_dk133
  | 6, _ => exact mx_dk134
  | 7, _ => exact mx_dk135
  | 8, _ => exact mx_dk136
  | 9, _ => exact mx_dk137
  | 10, _ => exact mx_dk138
  | 11, _ => exact mx_dk139
  | 12, _ => exact mx_dk140
  | 13, _ => exact mx_dk141
  | 14, _ => exact mx_dk142
  | 15, _ => exact mx_dk143
  | n + 16, h => omega
theorem mx_dp9 (j : Nat) (h : j < 16) : (mx_ix mx_cts (144 + j) []).all (fun c => c.all (mx_chk (mx_mb (144 + j)))) = true := by
  match j, h with
  | 0, _ => exact mx_dk144
  | 1, _ => exact mx_dk145
  | 2, _ => exact mx_dk146
  | 3, _ => exact mx_dk147
  | 4, _ => exact mx_dk148
  | 5, _ => exact mx_dk149
  | 6, _ => exact mx_dk150
  | 7, _ => exact mx_dk151
  | 8, _ => exact mx_dk152
  | 9, _ => exact mx_dk153
  | 10, _ => exact mx_dk154
  | 11, _ => exact mx_dk155
  | 12, _ => exact mx_dk156
  | 13, _ => exact mx_dk157
  | 14, _ => exact mx_dk158
  | 15, _ => exact mx_dk159
  | n + 16, h => omega
theorem mx_dp10 (j : Nat) (h : j < 9) : (mx_ix mx_cts (160 + j) []).all (fun c => c.all (mx_chk (mx_mb (160 + j)))) = true := by
  match j, h with
  | 0, _ => exact mx_dk160
  | 1, _ => exact mx_dk161
  | 2, _ => exact mx_dk162
  | 3, _ => exact mx_dk163
  | 4, _ => exact mx_dk164
  | 5, _ => exact mx_dk165
  | 6, _ => exact mx_dk166
  | 7, _ => exact mx_dk167
  | 8, _ => exact mx_dk168
  | n + 9, h => omega
theorem mx_dall (y : Nat) : (mx_ix mx_cts y []).all (fun c => c.all (mx_chk (mx_mb y))) = true := by
  by_cases h0 : y < 16
  · have e := mx_dp0 (y - 0) (by omega)
    rwa [show 0 + (y - 0) = y by omega] at e
  by_cases h16 : y < 32
  · have e := mx_dp1 (y - 16) (by omega)
    rwa [show 16 + (y - 16) = y by omega] at e
  by_cases h32 : y < 48
  · have e := mx_dp2 (y - 32) (by omega)
    rwa [show 32 + (y - 32) = y by omega] at e
  by_cases h48 : y < 64
  · have e := mx_dp3 (y - 48) (by omega)
    rwa [show 48 + (y - 48) = y by omega] at e
  by_cases h64 : y < 80
  · have e := mx_dp4 (y - 64) (by omega)
    rwa [show 64 + (y - 64) = y by omega] at e
  by_cases h80 : y < 96
  · have e := mx_dp5 (y - 80) (by omega)
    rwa [show 80 + (y - 80) = y by omega] at e
  by_cases h96 : y < 112
  · have e := mx_dp6 (y - 96) (by omega)
    rwa [show 96 + (y - 96) = y by omega] at e
  by_cases h112 : y < 128
  · have e := mx_dp7 (y - 112) (by omega)
    rwa [show 112 + (y - 112) = y by omega] at e
  by_cases h128 : y < 144
  · have e := mx_dp8 (y - 128) (by omega)
    rwa [show 128 + (y - 128) = y by omega] at e
  by_cases h144 : y < 160
  · have e := mx_dp9 (y - 144) (by omega)
    rwa [show 144 + (y - 144) = y by omega] at e
  by_cases h160 : y < 169
  · have e := mx_dp10 (y - 160) (by omega)
    rwa [show 160 + (y - 160) = y by omega] at e
  have e : mx_ix mx_cts y [] = [] := by
    unfold mx_ix
    by_cases h : y / 16 < 11
    · have h2 : y / 16 = 10 := by omega
      have h3 : 9 ≤ y % 16 := by omega
      rw [h2]
      have h4 : (((mx_cts[10]?).getD [])[y % 16]?) = none := List.getElem?_eq_none (by show 9 ≤ y % 16; exact h3)
      rw [h4]; rfl
    · have h4 : mx_cts[y / 16]? = none := List.getElem?_eq_none (by show 11 ≤ y / 16; omega)
      rw [h4]; simp
  rw [e]; rfl
theorem mx_dec {mid pc : Nat} {i : Jvm.ClassFile.Instr} (h : mx_code mid pc = some i) : ∃ len, decode (mx_mb mid) pc = .ok (i, len) ∧ (mx_isw i = true ∨ len = mx_ilen i) := mx_dkl (mx_dall mid) h
