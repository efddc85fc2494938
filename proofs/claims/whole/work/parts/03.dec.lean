set_option maxRecDepth 100000 in
theorem mx_dk0 : mx_ct0.all (fun c => c.all (mx_chk (mx_mb 0))) = true := by decide +kernel
set_option maxRecDepth 100000 in
theorem mx_dk1 : mx_ct1.all (fun c => c.all (mx_chk (mx_mb 1))) = true := by decide +kernel
set_option maxRecDepth 100000 in
theorem mx_dk2 : mx_ct2.all (fun c => c.all (mx_chk (mx_mb 2))) = true := by decide +kernel
set_option maxRecDepth 100000 in
theorem mx_dk3 : mx_ct3.all (fun c => c.all (mx_chk (mx_mb 3))) = true := by decide +kernel
set_option maxRecDepth 100000 in
theorem mx_dk4 : mx_ct4.all (fun c => c.all (mx_chk (mx_mb 4))) = true := by decide +kernel
set_option maxRecDepth 100000 in
theorem mx_dk5 : mx_ct5.all (fun c => c.all (mx_chk (mx_mb 5))) = true := by decide +kernel
set_option maxRecDepth 100000 in
theorem mx_dk6 : mx_ct6.all (fun c => c.all (mx_chk (mx_mb 6))) = true := by decide +kernel
set_option maxRecDepth 100000 in
theorem mx_dk7 : mx_ct7.all (fun c => c.all (mx_chk (mx_mb 7))) = true := by decide +kernel
set_option maxRecDepth 100000 in
theorem mx_dk8 : mx_ct8.all (fun c => c.all (mx_chk (mx_mb 8))) = true := by decide +kernel
set_option maxRecDepth 100000 in
theorem mx_dk9 : mx_ct9.all (fun c => c.all (mx_chk (mx_mb 9))) = true := by decide +kernel
set_option maxRecDepth 100000 in
theorem mx_dk10 : mx_ct10.all (fun c => c.all (mx_chk (mx_mb 10))) = true := by decide +kernel
set_option maxRecDepth 100000 in
theorem mx_dk11 : mx_ct11.all (fun c => c.all (mx_chk (mx_mb 11))) = true := by decide +kernel
set_option maxRecDepth 100000 in
theorem mx_dk12 : mx_ct12.all (fun c => c.all (mx_chk (mx_mb 12))) = true := by decide +kernel
set_option maxRecDepth 100000 in
theorem mx_dk13 : mx_ct13.all (fun c => c.all (mx_chk (mx_mb 13))) = true := by decide +kernel
set_option maxRecDepth 100000 in
theorem mx_dk14 : mx_ct14.all (fun c => c.all (mx_chk (mx_mb 14))) = true := by decide +kernel
set_option maxRecDepth 100000 in
theorem mx_dk15 : mx_ct15.all (fun c => c.all (mx_chk (mx_mb 15))) = true := by decide +kernel
set_option maxRecDepth 100000 in
theorem mx_dk16 : mx_ct16.all (fun c => c.all (mx_chk (mx_mb 16))) = true := by decide +kernel
set_option maxRecDepth 100000 in
theorem mx_dk17 : mx_ct17.all (fun c => c.all (mx_chk (mx_mb 17))) = true := by decide +kernel
set_option maxRecDepth 100000 in
theorem mx_dk18 : mx_ct18.all (fun c => c.all (mx_chk (mx_mb 18))) = true := by decide +kernel
set_option maxRecDepth 100000 in
theorem mx_dk19 : mx_ct19.all (fun c => c.all (mx_chk (mx_mb 19))) = true := by decide +kernel
set_option maxRecDepth 100000 in
theorem mx_dk20 : mx_ct20.all (fun c => c.all (mx_chk (mx_mb 20))) = true := by decide +kernel
set_option maxRecDepth 100000 in
theorem mx_dk21 : mx_ct21.all (fun c => c.all (mx_chk (mx_mb 21))) = true := by decide +kernel
set_option maxRecDepth 100000 in
theorem mx_dk22 : mx_ct22.all (fun c => c.all (mx_chk (mx_mb 22))) = true := by decide +kernel
set_option maxRecDepth 100000 in
theorem mx_dk23 : mx_ct23.all (fun c => c.all (mx_chk (mx_mb 23))) = true := by decide +kernel
set_option maxRecDepth 100000 in
theorem mx_dk24 : mx_ct24.all (fun c => c.all (mx_chk (mx_mb 24))) = true := by decide +kernel
set_option maxRecDepth 100000 in
theorem mx_dk25 : mx_ct25.all (fun c => c.all (mx_chk (mx_mb 25))) = true := by decide +kernel
set_option maxRecDepth 100000 in
theorem mx_dk26 : mx_ct26.all (fun c => c.all (mx_chk (mx_mb 26))) = true := by decide +kernel
set_option maxRecDepth 100000 in
theorem mx_dk27 : mx_ct27.all (fun c => c.all (mx_chk (mx_mb 27))) = true := by decide +kernel
set_option maxRecDepth 100000 in
theorem mx_dk28 : mx_ct28.all (fun c => c.all (mx_chk (mx_mb 28))) = true := by decide +kernel
set_option maxRecDepth 100000 in
theorem mx_dk29 : mx_ct29.all (fun c => c.all (mx_chk (mx_mb 29))) = true := by decide +kernel
set_option maxRecDepth 100000 in
theorem mx_dk30 : mx_ct30.all (fun c => c.all (mx_chk (mx_mb 30))) = true := by decide +kernel
set_option maxRecDepth 100000 in
theorem mx_dk31 : mx_ct31.all (fun c => c.all (mx_chk (mx_mb 31))) = true := by decide +kernel
set_option maxRecDepth 100000 in
theorem mx_dk32 : mx_ct32.all (fun c => c.all (mx_chk (mx_mb 32))) = true := by decide +kernel
set_option maxRecDepth 100000 in
theorem mx_dk33 : mx_ct33.all (fun c => c.all (mx_chk (mx_mb 33))) = true := by decide +kernel
set_option maxRecDepth 100000 in
theorem mx_dk34 : mx_ct34.all (fun c => c.all (mx_chk (mx_mb 34))) = true := by decide +kernel
set_option maxRecDepth 100000 in
theorem mx_dk35 : mx_ct35.all (fun c => c.all (mx_chk (mx_mb 35))) = true := by decide +kernel
set_option maxRecDepth 100000 in
theorem mx_dk36 : mx_ct36.all (fun c => c.all (mx_chk (mx_mb 36))) = true := by decide +kernel
set_option maxRecDepth 100000 in
theorem mx_dk37 : mx_ct37.all (fun c => c.all (mx_chk (mx_mb 37))) = true := by decide +kernel
set_option maxRecDepth 100000 in
theorem mx_dk38 : mx_ct38.all (fun c => c.all (mx_chk (mx_mb 38))) = true := by decide +kernel
set_option maxRecDepth 100000 in
theorem mx_dk39 : mx_ct39.all (fun c => c.all (mx_chk (mx_mb 39))) = true := by decide +kernel
set_option maxRecDepth 100000 in
theorem mx_dk40 : mx_ct40.all (fun c => c.all (mx_chk (mx_mb 40))) = true := by decide +kernel
set_option maxRecDepth 100000 in
theorem mx_dk41 : mx_ct41.all (fun c => c.all (mx_chk (mx_mb 41))) = true := by decide +kernel
set_option maxRecDepth 100000 in
theorem mx_dk42 : mx_ct42.all (fun c => c.all (mx_chk (mx_mb 42))) = true := by decide +kernel
set_option maxRecDepth 100000 in
theorem mx_dk43 : mx_ct43.all (fun c => c.all (mx_chk (mx_mb 43))) = true := by decide +kernel
set_option maxRecDepth 100000 in
theorem mx_dk44 : mx_ct44.all (fun c => c.all (mx_chk (mx_mb 44))) = true := by decide +kernel
set_option maxRecDepth 100000 in
theorem mx_dk45 : mx_ct45.all (fun c => c.all (mx_chk (mx_mb 45))) = true := by decide +kernel
set_option maxRecDepth 100000 in
theorem mx_dk46 : mx_ct46.all (fun c => c.all (mx_chk (mx_mb 46))) = true := by decide +kernel
set_option maxRecDepth 100000 in
theorem mx_dk47 : mx_ct47.all (fun c => c.all (mx_chk (mx_mb 47))) = true := by decide +kernel
set_option maxRecDepth 100000 in
theorem mx_dk48 : mx_ct48.all (fun c => c.all (mx_chk (mx_mb 48))) = true := by decide +kernel
set_option maxRecDepth 100000 in
theorem mx_dk49 : mx_ct49.all (fun c => c.all (mx_chk (mx_mb 49))) = true := by decide +kernel
set_option maxRecDepth 100000 in
theorem mx_dk50 : mx_ct50.all (fun c => c.all (mx_chk (mx_mb 50))) = true := by decide +kernel
set_option maxRecDepth 100000 in
theorem mx_dk51 : mx_ct51.all (fun c => c.all (mx_chk (mx_mb 51))) = true := by decide +kernel
set_option maxRecDepth 100000 in
theorem mx_dk52 : mx_ct52.all (fun c => c.all (mx_chk (mx_mb 52))) = true := by decide +kernel
set_option maxRecDepth 100000 in
theorem mx_dk53 : mx_ct53.all (fun c => c.all (mx_chk (mx_mb 53))) = true := by decide +kernel
set_option maxRecDepth 100000 in
theorem mx_dk54 : mx_ct54.all (fun c => c.all (mx_chk (mx_mb 54))) = true := by decide +kernel
set_option maxRecDepth 100000 in
theorem mx_dk55 : mx_ct55.all (fun c => c.all (mx_chk (mx_mb 55))) = true := by decide +kernel
set_option maxRecDepth 100000 in
theorem mx_dk56 : mx_ct56.all (fun c => c.all (mx_chk (mx_mb 56))) = true := by decide +kernel
set_option maxRecDepth 100000 in
theorem mx_dk57 : mx_ct57.all (fun c => c.all (mx_chk (mx_mb 57))) = true := by decide +kernel
set_option maxRecDepth 100000 in
theorem mx_dk58 : mx_ct58.all (fun c => c.all (mx_chk (mx_mb 58))) = true := by decide +kernel
set_option maxRecDepth 100000 in
theorem mx_dk59 : mx_ct59.all (fun c => c.all (mx_chk (mx_mb 59))) = true := by decide +kernel
set_option maxRecDepth 100000 in
theorem mx_dk60 : mx_ct60.all (fun c => c.all (mx_chk (mx_mb 60))) = true := by decide +kernel
set_option maxRecDepth 100000 in
theorem mx_dk61 : mx_ct61.all (fun c => c.all (mx_chk (mx_mb 61))) = true := by decide +kernel
set_option maxRecDepth 100000 in
theorem mx_dk62 : mx_ct62.all (fun c => c.all (mx_chk (mx_mb 62))) = true := by decide +kernel
set_option maxRecDepth 100000 in
theorem mx_dk63 : mx_ct63.all (fun c => c.all (mx_chk (mx_mb 63))) = true := by decide +kernel
set_option maxRecDepth 100000 in
theorem mx_dk64 : mx_ct64.all (fun c => c.all (mx_chk (mx_mb 64))) = true := by decide +kernel
set_option maxRecDepth 100000 in
theorem mx_dk65 : mx_ct65.all (fun c => c.all (mx_chk (mx_mb 65))) = true := by decide +kernel
set_option maxRecDepth 100000 in
theorem mx_dk66 : mx_ct66.all (fun c => c.all (mx_chk (mx_mb 66))) = true := by decide +kernel
set_option maxRecDepth 100000 in
theorem mx_dk67 : mx_ct67.all (fun c => c.all (mx_chk (mx_mb 67))) = true := by decide +kernel
set_option maxRecDepth 100000 in
theorem mx_dk68 : mx_ct68.all (fun c => c.all (mx_chk (mx_mb 68))) = true := by decide +kernel
set_option maxRecDepth 100000 in
theorem mx_dk69 : mx_ct69.all (fun c => c.all (mx_chk (mx_mb 69))) = true := by decide +kernel
set_option maxRecDepth 100000 in
theorem mx_dk70 : mx_ct70.all (fun c => c.all (mx_chk (mx_mb 70))) = true := by decide +kernel
set_option maxRecDepth 100000 in
theorem mx_dk71 : mx_ct71.all (fun c => c.all (mx_chk (mx_mb 71))) = true := by decide +kernel
set_option maxRecDepth 100000 in
theorem mx_dk72 : mx_ct72.all (fun c => c.all (mx_chk (mx_mb 72))) = true := by decide +kernel
set_option maxRecDepth 100000 in
theorem mx_dk73 : mx_ct73.all (fun c => c.all (mx_chk (mx_mb 73))) = true := by decide +kernel
set_option maxRecDepth 100000 in
theorem mx_dk74 : mx_ct74.all (fun c => c.all (mx_chk (mx_mb 74))) = true := by decide +kernel
set_option maxRecDepth 100000 in
theorem mx_dk75 : mx_ct75.all (fun c => c.all (mx_chk (mx_mb 75))) = true := by decide +kernel
set_option maxRecDepth 100000 in
theorem mx_dk76 : mx_ct76.all (fun c => c.all (mx_chk (mx_mb 76))) = true := by decide +kernel
set_option maxRecDepth 100000 in
theorem mx_dk77 : mx_ct77.all (fun c => c.all (mx_chk (mx_mb 77))) = true := by decide +kernel
set_option maxRecDepth 100000 in
theorem mx_dk78 : mx_ct78.all (fun c => c.all (mx_chk (mx_mb 78))) = true := by decide +kernel
set_option maxRecDepth 100000 in
theorem mx_dk79 : mx_ct79.all (fun c => c.all (mx_chk (mx_mb 79))) = true := by decide +kernel
set_option maxRecDepth 100000 in
theorem mx_dk80 : mx_ct80.all (fun c => c.all (mx_chk (mx_mb 80))) = true := by decide +kernel
set_option maxRecDepth 100000 in
theorem mx_dk81 : mx_ct81.all (fun c => c.all (mx_chk (mx_mb 81))) = true := by decide +kernel
set_option maxRecDepth 100000 in
theorem mx_dk82 : mx_ct82.all (fun c => c.all (mx_chk (mx_mb 82))) = true := by decide +kernel
set_option maxRecDepth 100000 in
theorem mx_dk83 : mx_ct83.all (fun c => c.all (mx_chk (mx_mb 83))) = true := by decide +kernel
set_option maxRecDepth 100000 in
theorem mx_dk84 : mx_ct84.all (fun c => c.all (mx_chk (mx_mb 84))) = true := by decide +kernel
set_option maxRecDepth 100000 in
theorem mx_dk85 : mx_ct85.all (fun c => c.all (mx_chk (mx_mb 85))) = true := by decide +kernel
set_option maxRecDepth 100000 in
theorem mx_dk86 : mx_ct86.all (fun c => c.all (mx_chk (mx_mb 86))) = true := by decide +kernel
set_option maxRecDepth 100000 in
theorem mx_dk87 : mx_ct87.all (fun c => c.all (mx_chk (mx_mb 87))) = true := by decide +kernel
set_option maxRecDepth 100000 in
theorem mx_dk88 : mx_ct88.all (fun c => c.all (mx_chk (mx_mb 88))) = true := by decide +kernel
set_option maxRecDepth 100000 in
theorem mx_dk89 : mx_ct89.all (fun c => c.all (mx_chk (mx_mb 89))) = true := by decide +kernel
set_option maxRecDepth 100000 in
theorem mx_dk90 : mx_ct90.all (fun c => c.all (mx_chk (mx_mb 90))) = true := by decide +kernel
set_option maxRecDepth 100000 in
theorem mx_dk91 : mx_ct91.all (fun c => c.all (mx_chk (mx_mb 91))) = true := by decide +kernel
set_option maxRecDepth 100000 in
theorem mx_dk92 : mx_ct92.all (fun c => c.all (mx_chk (mx_mb 92))) = true := by decide +kernel
set_option maxRecDepth 100000 in
theorem mx_dk93 : mx_ct93.all (fun c => c.all (mx_chk (mx_mb 93))) = true := by decide +kernel
set_option maxRecDepth 100000 in
theorem mx_dk94 : mx_ct94.all (fun c => c.all (mx_chk (mx_mb 94))) = true := by decide +kernel
set_option maxRecDepth 100000 in
theorem mx_dk95 : mx_ct95.all (fun c => c.all (mx_chk (mx_mb 95))) = true := by decide +kernel
set_option maxRecDepth 100000 in
theorem mx_dk96 : mx_ct96.all (fun c => c.all (mx_chk (mx_mb 96))) = true := by decide +kernel
set_option maxRecDepth 100000 in
theorem mx_dk97 : mx_ct97.all (fun c => c.all (mx_chk (mx_mb 97))) = true := by decide +kernel
set_option maxRecDepth 100000 in
theorem mx_dk98 : mx_ct98.all (fun c => c.all (mx_chk (mx_mb 98))) = true := by decide +kernel
set_option maxRecDepth 100000 in
theorem mx_dk99 : mx_ct99.all (fun c => c.all (mx_chk (mx_mb 99))) = true := by decide +kernel
set_option maxRecDepth 100000 in
theorem mx_dk100 : mx_ct100.all (fun c => c.all (mx_chk (mx_mb 100))) = true := by decide +kernel
set_option maxRecDepth 100000 in
theorem mx_dk101 : mx_ct101.all (fun c => c.all (mx_chk (mx_mb 101))) = true := by decide +kernel
set_option maxRecDepth 100000 in
theorem mx_dk102 : mx_ct102.all (fun c => c.all (mx_chk (mx_mb 102))) = true := by decide +kernel
set_option maxRecDepth 100000 in
theorem mx_dk103 : mx_ct103.all (fun c => c.all (mx_chk (mx_mb 103))) = true := by decide +kernel
set_option maxRecDepth 100000 in
theorem mx_dk104 : mx_ct104.all (fun c => c.all (mx_chk (mx_mb 104))) = true := by decide +kernel
set_option maxRecDepth 100000 in
theorem mx_dk105 : mx_ct105.all (fun c => c.all (mx_chk (mx_mb 105))) = true := by decide +kernel
set_option maxRecDepth 100000 in
theorem mx_dk106 : mx_ct106.all (fun c => c.all (mx_chk (mx_mb 106))) = true := by decide +kernel
set_option maxRecDepth 100000 in
theorem mx_dk107 : mx_ct107.all (fun c => c.all (mx_chk (mx_mb 107))) = true := by decide +kernel
set_option maxRecDepth 100000 in
theorem mx_dk108 : mx_ct108.all (fun c => c.all (mx_chk (mx_mb 108))) = true := by decide +kernel
set_option maxRecDepth 100000 in
theorem mx_dk109 : mx_ct109.all (fun c => c.all (mx_chk (mx_mb 109))) = true := by decide +kernel
set_option maxRecDepth 100000 in
theorem mx_dk110 : mx_ct110.all (fun c => c.all (mx_chk (mx_mb 110))) = true := by decide +kernel
set_option maxRecDepth 100000 in
theorem mx_dk111 : mx_ct111.all (fun c => c.all (mx_chk (mx_mb 111))) = true := by decide +kernel
set_option maxRecDepth 100000 in
theorem mx_dk112 : mx_ct112.all (fun c => c.all (mx_chk (mx_mb 112))) = true := by decide +kernel
set_option maxRecDepth 100000 in
theorem mx_dk113 : mx_ct113.all (fun c => c.all (mx_chk (mx_mb 113))) = true := by decide +kernel
set_option maxRecDepth 100000 in
theorem mx_dk114 : mx_ct114.all (fun c => c.all (mx_chk (mx_mb 114))) = true := by decide +kernel
set_option maxRecDepth 100000 in
theorem mx_dk115 : mx_ct115.all (fun c => c.all (mx_chk (mx_mb 115))) = true := by decide +kernel
set_option maxRecDepth 100000 in
theorem mx_dk116 : mx_ct116.all (fun c => c.all (mx_chk (mx_mb 116))) = true := by decide +kernel
set_option maxRecDepth 100000 in
theorem mx_dk117 : mx_ct117.all (fun c => c.all (mx_chk (mx_mb 117))) = true := by decide +kernel
set_option maxRecDepth 100000 in
theorem mx_dk118 : mx_ct118.all (fun c => c.all (mx_chk (mx_mb 118))) = true := by decide +kernel
set_option maxRecDepth 100000 in
theorem mx_dk119 : mx_ct119.all (fun c => c.all (mx_chk (mx_mb 119))) = true := by decide +kernel
set_option maxRecDepth 100000 in
theorem mx_dk120 : mx_ct120.all (fun c => c.all (mx_chk (mx_mb 120))) = true := by decide +kernel
set_option maxRecDepth 100000 in
theorem mx_dk121 : mx_ct121.all (fun c => c.all (mx_chk (mx_mb 121))) = true := by decide +kernel
set_option maxRecDepth 100000 in
theorem mx_dk122 : mx_ct122.all (fun c => c.all (mx_chk (mx_mb 122))) = true := by decide +kernel
set_option maxRecDepth 100000 in
theorem mx_dk123 : mx_ct123.all (fun c => c.all (mx_chk (mx_mb 123))) = true := by decide +kernel
set_option maxRecDepth 100000 in
theorem mx_dk124 : mx_ct124.all (fun c => c.all (mx_chk (mx_mb 124))) = true := by decide +kernel
set_option maxRecDepth 100000 in
theorem mx_dk125 : mx_ct125.all (fun c => c.all (mx_chk (mx_mb 125))) = true := by decide +kernel
set_option maxRecDepth 100000 in
theorem mx_dk126 : mx_ct126.all (fun c => c.all (mx_chk (mx_mb 126))) = true := by decide +kernel
set_option maxRecDepth 100000 in
theorem mx_dk127 : mx_ct127.all (fun c => c.all (mx_chk (mx_mb 127))) = true := by decide +kernel
set_option maxRecDepth 100000 in
theorem mx_dk128 : mx_ct128.all (fun c => c.all (mx_chk (mx_mb 128))) = true := by decide +kernel
set_option maxRecDepth 100000 in
theorem mx_dk129 : mx_ct129.all (fun c => c.all (mx_chk (mx_mb 129))) = true := by decide +kernel
set_option maxRecDepth 100000 in
theorem mx_dk130 : mx_ct130.all (fun c => c.all (mx_chk (mx_mb 130))) = true := by decide +kernel
set_option maxRecDepth 100000 in
theorem mx_dk131 : mx_ct131.all (fun c => c.all (mx_chk (mx_mb 131))) = true := by decide +kernel
set_option maxRecDepth 100000 in
theorem mx_dk132 : mx_ct132.all (fun c => c.all (mx_chk (mx_mb 132))) = true := by decide +kernel
set_option maxRecDepth 100000 in
theorem mx_dk133 : mx_ct133.all (fun c => c.all (mx_chk (mx_mb 133))) = true := by decide +kernel
set_option maxRecDepth 100000 in
theorem mx_dk134 : mx_ct134.all (fun c => c.all (mx_chk (mx_mb 134))) = true := by decide +kernel
set_option maxRecDepth 100000 in
theorem mx_dk135 : mx_ct135.all (fun c => c.all (mx_chk (mx_mb 135))) = true := by decide +kernel
set_option maxRecDepth 100000 in
theorem mx_dk136 : mx_ct136.all (fun c => c.all (mx_chk (mx_mb 136))) = true := by decide +kernel
set_option maxRecDepth 100000 in
theorem mx_dk137 : mx_ct137.all (fun c => c.all (mx_chk (mx_mb 137))) = true := by decide +kernel
set_option maxRecDepth 100000 in
theorem mx_dk138 : mx_ct138.all (fun c => c.all (mx_chk (mx_mb 138))) = true := by decide +kernel
set_option maxRecDepth 100000 in
theorem mx_dk139 : mx_ct139.all (fun c => c.all (mx_chk (mx_mb 139))) = true := by decide +kernel
set_option maxRecDepth 100000 in
theorem mx_dk140 : mx_ct140.all (fun c => c.all (mx_chk (mx_mb 140))) = true := by decide +kernel
set_option maxRecDepth 100000 in
theorem mx_dk141 : mx_ct141.all (fun c => c.all (mx_chk (mx_mb 141))) = true := by decide +kernel
set_option maxRecDepth 100000 in
theorem mx_dk142 : mx_ct142.all (fun c => c.all (mx_chk (mx_mb 142))) = true := by decide +kernel
set_option maxRecDepth 100000 in
theorem mx_dk143 : mx_ct143.all (fun c => c.all (mx_chk (mx_mb 143))) = true := by decide +kernel
set_option maxRecDepth 100000 in
theorem mx_dk144 : mx_ct144.all (fun c => c.all (mx_chk (mx_mb 144))) = true := by decide +kernel
set_option maxRecDepth 100000 in
theorem mx_dk145 : mx_ct145.all (fun c => c.all (mx_chk (mx_mb 145))) = true := by decide +kernel
set_option maxRecDepth 100000 in
theorem mx_dk146 : mx_ct146.all (fun c => c.all (mx_chk (mx_mb 146))) = true := by decide +kernel
set_option maxRecDepth 100000 in
theorem mx_dk147 : mx_ct147.all (fun c => c.all (mx_chk (mx_mb 147))) = true := by decide +kernel
set_option maxRecDepth 100000 in
theorem mx_dk148 : mx_ct148.all (fun c => c.all (mx_chk (mx_mb 148))) = true := by decide +kernel
set_option maxRecDepth 100000 in
theorem mx_dk149 : mx_ct149.all (fun c => c.all (mx_chk (mx_mb 149))) = true := by decide +kernel
set_option maxRecDepth 100000 in
theorem mx_dk150 : mx_ct150.all (fun c => c.all (mx_chk (mx_mb 150))) = true := by decide +kernel
set_option maxRecDepth 100000 in
theorem mx_dk151 : mx_ct151.all (fun c => c.all (mx_chk (mx_mb 151))) = true := by decide +kernel
set_option maxRecDepth 100000 in
theorem mx_dk152 : mx_ct152.all (fun c => c.all (mx_chk (mx_mb 152))) = true := by decide +kernel
set_option maxRecDepth 100000 in
theorem mx_dk153 : mx_ct153.all (fun c => c.all (mx_chk (mx_mb 153))) = true := by decide +kernel
set_option maxRecDepth 100000 in
theorem mx_dk154 : mx_ct154.all (fun c => c.all (mx_chk (mx_mb 154))) = true := by decide +kernel
set_option maxRecDepth 100000 in
theorem mx_dk155 : mx_ct155.all (fun c => c.all (mx_chk (mx_mb 155))) = true := by decide +kernel
set_option maxRecDepth 100000 in
theorem mx_dk156 : mx_ct156.all (fun c => c.all (mx_chk (mx_mb 156))) = true := by decide +kernel
set_option maxRecDepth 100000 in
theorem mx_dk157 : mx_ct157.all (fun c => c.all (mx_chk (mx_mb 157))) = true := by decide +kernel
set_option maxRecDepth 100000 in
theorem mx_dk158 : mx_ct158.all (fun c => c.all (mx_chk (mx_mb 158))) = true := by decide +kernel
set_option maxRecDepth 100000 in
theorem mx_dk159 : mx_ct159.all (fun c => c.all (mx_chk (mx_mb 159))) = true := by decide +kernel
set_option maxRecDepth 100000 in
theorem mx_dk160 : mx_ct160.all (fun c => c.all (mx_chk (mx_mb 160))) = true := by decide +kernel
set_option maxRecDepth 100000 in
theorem mx_dk161 : mx_ct161.all (fun c => c.all (mx_chk (mx_mb 161))) = true := by decide +kernel
set_option maxRecDepth 100000 in
theorem mx_dk162 : mx_ct162.all (fun c => c.all (mx_chk (mx_mb 162))) = true := by decide +kernel
set_option maxRecDepth 100000 in
theorem mx_dk163 : mx_ct163.all (fun c => c.all (mx_chk (mx_mb 163))) = true := by decide +kernel
set_option maxRecDepth 100000 in
theorem mx_dk164 : mx_ct164.all (fun c => c.all (mx_chk (mx_mb 164))) = true := by decide +kernel
set_option maxRecDepth 100000 in
theorem mx_dk165 : mx_ct165.all (fun c => c.all (mx_chk (mx_mb 165))) = true := by decide +kernel
set_option maxRecDepth 100000 in
theorem mx_dk166 : mx_ct166.all (fun c => c.all (mx_chk (mx_mb 166))) = true := by decide +kernel
set_option maxRecDepth 100000 in
theorem mx_dk167 : mx_ct167.all (fun c => c.all (mx_chk (mx_mb 167))) = true := by decide +kernel
