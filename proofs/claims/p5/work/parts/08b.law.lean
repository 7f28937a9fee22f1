/-! the law -/
set_option maxRecDepth 100000 in
theorem os_30 : (hdn cs_0_30 1998 && okF code 14 false 35 cs_0_30 (code.data.toList.drop 1998)) = true := by decide +kernel
theorem ol_30 : okC code 14 false cs_0_30 = true := okF_st 35 1998 (T := []) os_30 rfl rfl
set_option maxRecDepth 100000 in
theorem os_29 : (hdn cs_0_29 1938 && okF code 14 false 48 cs_0_29 (code.data.toList.drop 1938)) = true := by decide +kernel
theorem ol_29 : okC code 14 false cs_0_29 = true := okF_st 48 1938 (T := cs_0_30) os_29 ol_30 rfl
set_option maxRecDepth 100000 in
theorem os_28 : (hdn cs_0_28 1878 && okF code 14 false 48 cs_0_28 (code.data.toList.drop 1878)) = true := by decide +kernel
theorem ol_28 : okC code 14 false cs_0_28 = true := okF_st 48 1878 (T := cs_0_29) os_28 ol_29 rfl
set_option maxRecDepth 100000 in
theorem os_27 : (hdn cs_0_27 1820 && okF code 14 false 48 cs_0_27 (code.data.toList.drop 1820)) = true := by decide +kernel
theorem ol_27 : okC code 14 false cs_0_27 = true := okF_st 48 1820 (T := cs_0_28) os_27 ol_28 rfl
set_option maxRecDepth 100000 in
theorem os_26 : (hdn cs_0_26 1760 && okF code 14 false 48 cs_0_26 (code.data.toList.drop 1760)) = true := by decide +kernel
theorem ol_26 : okC code 14 false cs_0_26 = true := okF_st 48 1760 (T := cs_0_27) os_26 ol_27 rfl
set_option maxRecDepth 100000 in
theorem os_25 : (hdn cs_0_25 1692 && okF code 14 false 48 cs_0_25 (code.data.toList.drop 1692)) = true := by decide +kernel
theorem ol_25 : okC code 14 false cs_0_25 = true := okF_st 48 1692 (T := cs_0_26) os_25 ol_26 rfl
set_option maxRecDepth 100000 in
theorem os_24 : (hdn cs_0_24 1632 && okF code 14 false 48 cs_0_24 (code.data.toList.drop 1632)) = true := by decide +kernel
theorem ol_24 : okC code 14 false cs_0_24 = true := okF_st 48 1632 (T := cs_0_25) os_24 ol_25 rfl
set_option maxRecDepth 100000 in
theorem os_23 : (hdn cs_0_23 1572 && okF code 14 false 48 cs_0_23 (code.data.toList.drop 1572)) = true := by decide +kernel
theorem ol_23 : okC code 14 false cs_0_23 = true := okF_st 48 1572 (T := cs_0_24) os_23 ol_24 rfl
set_option maxRecDepth 100000 in
theorem os_22 : (hdn cs_0_22 1518 && okF code 14 false 48 cs_0_22 (code.data.toList.drop 1518)) = true := by decide +kernel
theorem ol_22 : okC code 14 false cs_0_22 = true := okF_st 48 1518 (T := cs_0_23) os_22 ol_23 rfl
set_option maxRecDepth 100000 in
theorem os_21 : (hdn cs_0_21 1454 && okF code 14 false 48 cs_0_21 (code.data.toList.drop 1454)) = true := by decide +kernel
theorem ol_21 : okC code 14 false cs_0_21 = true := okF_st 48 1454 (T := cs_0_22) os_21 ol_22 rfl
set_option maxRecDepth 100000 in
theorem os_20 : (hdn cs_0_20 1390 && okF code 14 false 48 cs_0_20 (code.data.toList.drop 1390)) = true := by decide +kernel
theorem ol_20 : okC code 14 false cs_0_20 = true := okF_st 48 1390 (T := cs_0_21) os_20 ol_21 rfl
set_option maxRecDepth 100000 in
theorem os_19 : (hdn cs_0_19 1328 && okF code 14 false 48 cs_0_19 (code.data.toList.drop 1328)) = true := by decide +kernel
theorem ol_19 : okC code 14 false cs_0_19 = true := okF_st 48 1328 (T := cs_0_20) os_19 ol_20 rfl
set_option maxRecDepth 100000 in
theorem os_18 : (hdn cs_0_18 1268 && okF code 14 false 48 cs_0_18 (code.data.toList.drop 1268)) = true := by decide +kernel
theorem ol_18 : okC code 14 false cs_0_18 = true := okF_st 48 1268 (T := cs_0_19) os_18 ol_19 rfl
set_option maxRecDepth 100000 in
theorem os_17 : (hdn cs_0_17 1210 && okF code 14 false 48 cs_0_17 (code.data.toList.drop 1210)) = true := by decide +kernel
theorem ol_17 : okC code 14 false cs_0_17 = true := okF_st 48 1210 (T := cs_0_18) os_17 ol_18 rfl
set_option maxRecDepth 100000 in
theorem os_16 : (hdn cs_0_16 1154 && okF code 14 false 48 cs_0_16 (code.data.toList.drop 1154)) = true := by decide +kernel
theorem ol_16 : okC code 14 false cs_0_16 = true := okF_st 48 1154 (T := cs_0_17) os_16 ol_17 rfl
set_option maxRecDepth 100000 in
theorem os_15 : (hdn cs_0_15 1088 && okF code 14 false 48 cs_0_15 (code.data.toList.drop 1088)) = true := by decide +kernel
theorem ol_15 : okC code 14 false cs_0_15 = true := okF_st 48 1088 (T := cs_0_16) os_15 ol_16 rfl
set_option maxRecDepth 100000 in
theorem os_14 : (hdn cs_0_14 1032 && okF code 14 false 48 cs_0_14 (code.data.toList.drop 1032)) = true := by decide +kernel
theorem ol_14 : okC code 14 false cs_0_14 = true := okF_st 48 1032 (T := cs_0_15) os_14 ol_15 rfl
set_option maxRecDepth 100000 in
theorem os_13 : (hdn cs_0_13 968 && okF code 14 false 48 cs_0_13 (code.data.toList.drop 968)) = true := by decide +kernel
theorem ol_13 : okC code 14 false cs_0_13 = true := okF_st 48 968 (T := cs_0_14) os_13 ol_14 rfl
set_option maxRecDepth 100000 in
theorem os_12 : (hdn cs_0_12 909 && okF code 14 false 48 cs_0_12 (code.data.toList.drop 909)) = true := by decide +kernel
theorem ol_12 : okC code 14 false cs_0_12 = true := okF_st 48 909 (T := cs_0_13) os_12 ol_13 rfl
set_option maxRecDepth 100000 in
theorem os_11 : (hdn cs_0_11 850 && okF code 14 false 48 cs_0_11 (code.data.toList.drop 850)) = true := by decide +kernel
theorem ol_11 : okC code 14 false cs_0_11 = true := okF_st 48 850 (T := cs_0_12) os_11 ol_12 rfl
set_option maxRecDepth 100000 in
theorem os_10 : (hdn cs_0_10 794 && okF code 14 false 48 cs_0_10 (code.data.toList.drop 794)) = true := by decide +kernel
theorem ol_10 : okC code 14 false cs_0_10 = true := okF_st 48 794 (T := cs_0_11) os_10 ol_11 rfl
set_option maxRecDepth 100000 in
theorem os_9 : (hdn cs_0_9 740 && okF code 14 false 48 cs_0_9 (code.data.toList.drop 740)) = true := by decide +kernel
theorem ol_9 : okC code 14 false cs_0_9 = true := okF_st 48 740 (T := cs_0_10) os_9 ol_10 rfl
set_option maxRecDepth 100000 in
theorem os_8 : (hdn cs_0_8 680 && okF code 14 false 48 cs_0_8 (code.data.toList.drop 680)) = true := by decide +kernel
theorem ol_8 : okC code 14 false cs_0_8 = true := okF_st 48 680 (T := cs_0_9) os_8 ol_9 rfl
set_option maxRecDepth 100000 in
theorem os_7 : (hdn cs_0_7 622 && okF code 14 false 48 cs_0_7 (code.data.toList.drop 622)) = true := by decide +kernel
theorem ol_7 : okC code 14 false cs_0_7 = true := okF_st 48 622 (T := cs_0_8) os_7 ol_8 rfl
set_option maxRecDepth 100000 in
theorem os_6 : (hdn cs_0_6 568 && okF code 14 false 48 cs_0_6 (code.data.toList.drop 568)) = true := by decide +kernel
theorem ol_6 : okC code 14 false cs_0_6 = true := okF_st 48 568 (T := cs_0_7) os_6 ol_7 rfl
set_option maxRecDepth 100000 in
theorem os_5 : (hdn cs_0_5 512 && okF code 14 false 48 cs_0_5 (code.data.toList.drop 512)) = true := by decide +kernel
theorem ol_5 : okC code 14 false cs_0_5 = true := okF_st 48 512 (T := cs_0_6) os_5 ol_6 rfl
set_option maxRecDepth 100000 in
theorem os_4 : (hdn cs_0_4 454 && okF code 14 false 48 cs_0_4 (code.data.toList.drop 454)) = true := by decide +kernel
theorem ol_4 : okC code 14 false cs_0_4 = true := okF_st 48 454 (T := cs_0_5) os_4 ol_5 rfl
set_option maxRecDepth 100000 in
theorem os_3 : (hdn cs_0_3 400 && okF code 14 false 48 cs_0_3 (code.data.toList.drop 400)) = true := by decide +kernel
theorem ol_3 : okC code 14 false cs_0_3 = true := okF_st 48 400 (T := cs_0_4) os_3 ol_4 rfl
set_option maxRecDepth 100000 in
theorem os_2 : (hdn cs_0_2 346 && okF code 14 false 48 cs_0_2 (code.data.toList.drop 346)) = true := by decide +kernel
theorem ol_2 : okC code 14 false cs_0_2 = true := okF_st 48 346 (T := cs_0_3) os_2 ol_3 rfl
set_option maxRecDepth 100000 in
theorem os_1 : (hdn cs_0_1 286 && okF code 14 false 48 cs_0_1 (code.data.toList.drop 286)) = true := by decide +kernel
theorem ol_1 : okC code 14 false cs_0_1 = true := okF_st 48 286 (T := cs_0_2) os_1 ol_2 rfl
set_option maxRecDepth 100000 in
theorem os_0 : (hdn cs_0 0 && okF code 14 false 48 cs_0 (code.data.toList.drop 0)) = true := by decide +kernel
theorem ol_0 : okC code 14 false cs_0 = true := okF_st 48 0 (T := cs_0_1) os_0 ol_1 rfl
theorem om_0 : okM 0 = true := ol_0
