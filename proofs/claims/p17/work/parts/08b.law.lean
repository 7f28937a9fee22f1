section
-- 08b.law
/-! the law -/
set_option maxRecDepth 100000 in
theorem os_30 : (hdn cs_0_30 1998 && okF code 14 false 36 cs_0_30 (code.data.toList.drop 1998)) = true := by decide +kernel
theorem ol_30 : okC code 14 false cs_0_30 = true := okF_st 36 1998 (T := []) os_30 rfl rfl
set_option maxRecDepth 100000 in
theorem os_29 : (hdn cs_0_29 1938 && okF code 14 false 48 cs_0_29 (code.data.toList.drop 1938)) = true := by decide +kernel
theorem ol_29 : okC code 14 false cs_0_29 = true := okF_st 48 1938 (T := cs_0_30) os_29 ol_30 rfl
set_option maxRecDepth 100000 in
theorem os_28 : (hdn cs_0_28 1878 && okF code 14 false 48 cs_0_28 (code.data.toList.drop 1878)) = true := by decide +kernel
theorem ol_28 : okC code 14 false cs_0_28 = true := okF_st 48 1878 (T := cs_0_29) os_28 ol_29 rfl
set_option maxRecDepth 100000 in
theorem os_27 : (hdn cs_0_27 1820 && okF code 14 false 48 cs_0_27 (code.data.toList.drop 1820)) = true := by decide +kernel
theorem ol_27 : okC code 14 false cs_0_27 = true := okF_st 48 1820 (T := cs_0_28) os_27 ol_28 rfl
set_option maxRecDepth 100000 in
theorem os_26 : (hdn cs_0_26 1758 && okF code 14 false 48 cs_0_26 (code.data.toList.drop 1758)) = true := by decide +kernel
theorem ol_26 : okC code 14 false cs_0_26 = true := okF_st 48 1758 (T := cs_0_27) os_26 ol_27 rfl
set_option maxRecDepth 100000 in
theorem os_25 : (hdn cs_0_25 1692 && okF code 14 false 48 cs_0_25 (code.data.toList.drop 1692)) = true := by decide +kernel
theorem ol_25 : okC code 14 false cs_0_25 = true := okF_st 48 1692 (T := cs_0_26) os_25 ol_26 rfl
set_option maxRecDepth 100000 in
theorem os_24 : (hdn cs_0_24 1632 && okF code 14 false 48 cs_0_24 (code.data.toList.drop 1632)) = true := by decide +kernel
theorem ol_24 : okC code 14 false cs_0_24 = true := okF_st 48 1632 (T := cs_0_25) os_24 ol_25 rfl
set_option maxRecDepth 100000 in
theorem os_23 : (hdn cs_0_23 1572 && okF code 14 false 48 cs_0_23 (code.data.toList.drop 1572)) = true := by decide +kernel
theorem ol_23 : okC code 14 false cs_0_23 = true := okF_st 48 1572 (T := cs_0_24) os_23 ol_24 rfl
set_option maxRecDepth 100000 in
theorem os_22 : (hdn cs_0_22 1516 && okF code 14 false 48 cs_0_22 (code.data.toList.drop 1516)) = true := by decide +kernel
theorem ol_22 : okC code 14 false cs_0_22 = true := okF_st 48 1516 (T := cs_0_23) os_22 ol_23 rfl
set_option maxRecDepth 100000 in
theorem os_21 : (hdn cs_0_21 1452 && okF code 14 false 48 cs_0_21 (code.data.toList.drop 1452)) = true := by decide +kernel
theorem ol_21 : okC code 14 false cs_0_21 = true := okF_st 48 1452 (T := cs_0_22) os_21 ol_22 rfl
set_option maxRecDepth 100000 in
theorem os_20 : (hdn cs_0_20 1390 && okF code 14 false 48 cs_0_20 (code.data.toList.drop 1390)) = true := by decide +kernel
theorem ol_20 : okC code 14 false cs_0_20 = true := okF_st 48 1390 (T := cs_0_21) os_20 ol_21 rfl
set_option maxRecDepth 100000 in
theorem os_19 : (hdn cs_0_19 1328 && okF code 14 false 48 cs_0_19 (code.data.toList.drop 1328)) = true := by decide +kernel
theorem ol_19 : okC code 14 false cs_0_19 = true := okF_st 48 1328 (T := cs_0_20) os_19 ol_20 rfl
set_option maxRecDepth 100000 in
theorem os_18 : (hdn cs_0_18 1268 && okF code 14 false 48 cs_0_18 (code.data.toList.drop 1268)) = true := by decide +kernel
theorem ol_18 : okC code 14 false cs_0_18 = true := okF_st 48 1268 (T := cs_0_19) os_18 ol_19 rfl
set_option maxRecDepth 100000 in
theorem os_17 : (hdn cs_0_17 1210 && okF code 14 false 48 cs_0_17 (code.data.toList.drop 1210)) = true := by decide +kernel
theorem ol_17 : okC code 14 false cs_0_17 = true := okF_st 48 1210 (T := cs_0_18) os_17 ol_18 rfl
set_option maxRecDepth 100000 in
theorem os_16 : (hdn cs_0_16 1154 && okF code 14 false 48 cs_0_16 (code.data.toList.drop 1154)) = true := by decide +kernel
theorem ol_16 : okC code 14 false cs_0_16 = true := okF_st 48 1154 (T := cs_0_17) os_16 ol_17 rfl
set_option maxRecDepth 100000 in
theorem os_15 : (hdn cs_0_15 1088 && okF code 14 false 48 cs_0_15 (code.data.toList.drop 1088)) = true := by decide +kernel
theorem ol_15 : okC code 14 false cs_0_15 = true := okF_st 48 1088 (T := cs_0_16) os_15 ol_16 rfl
set_option maxRecDepth 100000 in
theorem os_14 : (hdn cs_0_14 1032 && okF code 14 false 48 cs_0_14 (code.data.toList.drop 1032)) = true := by decide +kernel
theorem ol_14 : okC code 14 false cs_0_14 = true := okF_st 48 1032 (T := cs_0_15) os_14 ol_15 rfl
set_option maxRecDepth 100000 in
theorem os_13 : (hdn cs_0_13 968 && okF code 14 false 48 cs_0_13 (code.data.toList.drop 968)) = true := by decide +kernel
theorem ol_13 : okC code 14 false cs_0_13 = true := okF_st 48 968 (T := cs_0_14) os_13 ol_14 rfl
set_option maxRecDepth 100000 in
theorem os_12 : (hdn cs_0_12 909 && okF code 14 false 48 cs_0_12 (code.data.toList.drop 909)) = true := by decide +kernel
theorem ol_12 : okC code 14 false cs_0_12 = true := okF_st 48 909 (T := cs_0_13) os_12 ol_13 rfl
set_option maxRecDepth 100000 in
theorem os_11 : (hdn cs_0_11 850 && okF code 14 false 48 cs_0_11 (code.data.toList.drop 850)) = true := by decide +kernel
theorem ol_11 : okC code 14 false cs_0_11 = true := okF_st 48 850 (T := cs_0_12) os_11 ol_12 rfl
set_option maxRecDepth 100000 in
theorem os_10 : (hdn cs_0_10 794 && okF code 14 false 48 cs_0_10 (code.data.toList.drop 794)) = true := by decide +kernel
theorem ol_10 : okC code 14 false cs_0_10 = true := okF_st 48 794 (T := cs_0_11) os_10 ol_11 rfl
set_option maxRecDepth 100000 in
theorem os_9 : (hdn cs_0_9 740 && okF code 14 false 48 cs_0_9 (code.data.toList.drop 740)) = true := by decide +kernel
theorem ol_9 : okC code 14 false cs_0_9 = true := okF_st 48 740 (T := cs_0_10) os_9 ol_10 rfl
set_option maxRecDepth 100000 in
theorem os_8 : (hdn cs_0_8 680 && okF code 14 false 48 cs_0_8 (code.data.toList.drop 680)) = true := by decide +kernel
theorem ol_8 : okC code 14 false cs_0_8 = true := okF_st 48 680 (T := cs_0_9) os_8 ol_9 rfl
set_option maxRecDepth 100000 in
theorem os_7 : (hdn cs_0_7 622 && okF code 14 false 48 cs_0_7 (code.data.toList.drop 622)) = true := by decide +kernel
theorem ol_7 : okC code 14 false cs_0_7 = true := okF_st 48 622 (T := cs_0_8) os_7 ol_8 rfl
set_option maxRecDepth 100000 in
theorem os_6 : (hdn cs_0_6 568 && okF code 14 false 48 cs_0_6 (code.data.toList.drop 568)) = true := by decide +kernel
theorem ol_6 : okC code 14 false cs_0_6 = true := okF_st 48 568 (T := cs_0_7) os_6 ol_7 rfl
set_option maxRecDepth 100000 in
theorem os_5 : (hdn cs_0_5 512 && okF code 14 false 48 cs_0_5 (code.data.toList.drop 512)) = true := by decide +kernel
theorem ol_5 : okC code 14 false cs_0_5 = true := okF_st 48 512 (T := cs_0_6) os_5 ol_6 rfl
set_option maxRecDepth 100000 in
theorem os_4 : (hdn cs_0_4 454 && okF code 14 false 48 cs_0_4 (code.data.toList.drop 454)) = true := by decide +kernel
theorem ol_4 : okC code 14 false cs_0_4 = true := okF_st 48 454 (T := cs_0_5) os_4 ol_5 rfl
set_option maxRecDepth 100000 in
theorem os_3 : (hdn cs_0_3 400 && okF code 14 false 48 cs_0_3 (code.data.toList.drop 400)) = true := by decide +kernel
theorem ol_3 : okC code 14 false cs_0_3 = true := okF_st 48 400 (T := cs_0_4) os_3 ol_4 rfl
set_option maxRecDepth 100000 in
theorem os_2 : (hdn cs_0_2 346 && okF code 14 false 48 cs_0_2 (code.data.toList.drop 346)) = true := by decide +kernel
theorem ol_2 : okC code 14 false cs_0_2 = true := okF_st 48 346 (T := cs_0_3) os_2 ol_3 rfl
set_option maxRecDepth 100000 in
theorem os_1 : (hdn cs_0_1 286 && okF code 14 false 48 cs_0_1 (code.data.toList.drop 286)) = true := by decide +kernel
theorem ol_1 : okC code 14 false cs_0_1 = true := okF_st 48 286 (T := cs_0_2) os_1 ol_2 rfl
set_option maxRecDepth 100000 in
theorem os_0 : (hdn cs_0 0 && okF code 14 false 48 cs_0 (code.data.toList.drop 0)) = true := by decide +kernel
theorem ol_0 : okC code 14 false cs_0 = true := okF_st 48 0 (T := cs_0_1) os_0 ol_1 rfl
theorem om_0 : okM 0 = true := ol_0
end
section
-- 08c.om
/-! all methods, one by one -/
set_option maxRecDepth 100000 in
theorem om_1 : okM 1 = true := okM_of 1 70 (by decide +kernel)
set_option maxRecDepth 100000 in
theorem om_2 : okM 2 = true := okM_of 2 14 (by decide +kernel)
set_option maxRecDepth 100000 in
theorem om_3 : okM 3 = true := okM_of 3 9 (by decide +kernel)
set_option maxRecDepth 100000 in
theorem om_4 : okM 4 = true := okM_of 4 5 (by decide +kernel)
set_option maxRecDepth 100000 in
theorem om_5 : okM 5 = true := okM_of 5 22 (by decide +kernel)
set_option maxRecDepth 100000 in
theorem om_6 : okM 6 = true := okM_of 6 6 (by decide +kernel)
set_option maxRecDepth 100000 in
theorem om_7 : okM 7 = true := okM_of 7 26 (by decide +kernel)
set_option maxRecDepth 100000 in
theorem om_8 : okM 8 = true := okM_of 8 30 (by decide +kernel)
set_option maxRecDepth 100000 in
theorem om_9 : okM 9 = true := okM_of 9 51 (by decide +kernel)
set_option maxRecDepth 100000 in
theorem om_10 : okM 10 = true := okM_of 10 20 (by decide +kernel)
set_option maxRecDepth 100000 in
theorem om_11 : okM 11 = true := okM_of 11 17 (by decide +kernel)
set_option maxRecDepth 100000 in
theorem om_12 : okM 12 = true := okM_of 12 81 (by decide +kernel)
set_option maxRecDepth 100000 in
theorem om_13 : okM 13 = true := okM_of 13 9 (by decide +kernel)
set_option maxRecDepth 100000 in
theorem om_14 : okM 14 = true := okM_of 14 9 (by decide +kernel)
set_option maxRecDepth 100000 in
theorem om_15 : okM 15 = true := okM_of 15 46 (by decide +kernel)
set_option maxRecDepth 100000 in
theorem om_16 : okM 16 = true := okM_of 16 56 (by decide +kernel)
set_option maxRecDepth 100000 in
theorem om_17 : okM 17 = true := okM_of 17 4 (by decide +kernel)
set_option maxRecDepth 100000 in
theorem om_18 : okM 18 = true := okM_of 18 88 (by decide +kernel)
set_option maxRecDepth 100000 in
theorem om_19 : okM 19 = true := okM_of 19 41 (by decide +kernel)
set_option maxRecDepth 100000 in
theorem om_20 : okM 20 = true := okM_of 20 43 (by decide +kernel)
set_option maxRecDepth 100000 in
theorem om_21 : okM 21 = true := okM_of 21 19 (by decide +kernel)
set_option maxRecDepth 100000 in
theorem om_22 : okM 22 = true := okM_of 22 85 (by decide +kernel)
set_option maxRecDepth 100000 in
theorem om_23 : okM 23 = true := okM_of 23 62 (by decide +kernel)
set_option maxRecDepth 100000 in
theorem om_24 : okM 24 = true := okM_of 24 24 (by decide +kernel)
set_option maxRecDepth 100000 in
theorem om_25 : okM 25 = true := okM_of 25 52 (by decide +kernel)
set_option maxRecDepth 100000 in
theorem om_26 : okM 26 = true := okM_of 26 50 (by decide +kernel)
set_option maxRecDepth 100000 in
theorem om_27 : okM 27 = true := okM_of 27 16 (by decide +kernel)
set_option maxRecDepth 100000 in
theorem om_28 : okM 28 = true := okM_of 28 86 (by decide +kernel)
set_option maxRecDepth 100000 in
theorem om_29 : okM 29 = true := okM_of 29 30 (by decide +kernel)
set_option maxRecDepth 100000 in
theorem om_30 : okM 30 = true := okM_of 30 103 (by decide +kernel)
set_option maxRecDepth 100000 in
theorem om_31 : okM 31 = true := okM_of 31 50 (by decide +kernel)
set_option maxRecDepth 100000 in
theorem om_32 : okM 32 = true := okM_of 32 69 (by decide +kernel)
set_option maxRecDepth 100000 in
theorem om_33 : okM 33 = true := okM_of 33 22 (by decide +kernel)
set_option maxRecDepth 100000 in
theorem om_34 : okM 34 = true := okM_of 34 10 (by decide +kernel)
set_option maxRecDepth 100000 in
theorem om_35 : okM 35 = true := okM_of 35 10 (by decide +kernel)
set_option maxRecDepth 100000 in
theorem om_36 : okM 36 = true := okM_of 36 25 (by decide +kernel)
set_option maxRecDepth 100000 in
theorem om_37 : okM 37 = true := okM_of 37 9 (by decide +kernel)
set_option maxRecDepth 100000 in
theorem om_38 : okM 38 = true := okM_of 38 6 (by decide +kernel)
set_option maxRecDepth 100000 in
theorem om_39 : okM 39 = true := okM_of 39 18 (by decide +kernel)
set_option maxRecDepth 100000 in
theorem om_40 : okM 40 = true := okM_of 40 9 (by decide +kernel)
set_option maxRecDepth 100000 in
theorem om_41 : okM 41 = true := okM_of 41 27 (by decide +kernel)
set_option maxRecDepth 100000 in
theorem om_42 : okM 42 = true := okM_of 42 18 (by decide +kernel)
set_option maxRecDepth 100000 in
theorem om_43 : okM 43 = true := okM_of 43 14 (by decide +kernel)
set_option maxRecDepth 100000 in
theorem om_44 : okM 44 = true := okM_of 44 25 (by decide +kernel)
set_option maxRecDepth 100000 in
theorem om_45 : okM 45 = true := okM_of 45 13 (by decide +kernel)
set_option maxRecDepth 100000 in
theorem om_46 : okM 46 = true := okM_of 46 34 (by decide +kernel)
set_option maxRecDepth 100000 in
theorem om_47 : okM 47 = true := okM_of 47 19 (by decide +kernel)
set_option maxRecDepth 100000 in
theorem om_48 : okM 48 = true := okM_of 48 50 (by decide +kernel)
set_option maxRecDepth 100000 in
theorem om_49 : okM 49 = true := okM_of 49 50 (by decide +kernel)
set_option maxRecDepth 100000 in
theorem om_50 : okM 50 = true := okM_of 50 42 (by decide +kernel)
set_option maxRecDepth 100000 in
theorem om_51 : okM 51 = true := okM_of 51 24 (by decide +kernel)
set_option maxRecDepth 100000 in
theorem om_52 : okM 52 = true := okM_of 52 13 (by decide +kernel)
set_option maxRecDepth 100000 in
theorem om_53 : okM 53 = true := okM_of 53 23 (by decide +kernel)
set_option maxRecDepth 100000 in
theorem om_54 : okM 54 = true := okM_of 54 24 (by decide +kernel)
set_option maxRecDepth 100000 in
theorem om_55 : okM 55 = true := okM_of 55 20 (by decide +kernel)
set_option maxRecDepth 100000 in
theorem om_56 : okM 56 = true := okM_of 56 29 (by decide +kernel)
set_option maxRecDepth 100000 in
theorem om_57 : okM 57 = true := okM_of 57 54 (by decide +kernel)
set_option maxRecDepth 100000 in
theorem om_58 : okM 58 = true := okM_of 58 34 (by decide +kernel)
set_option maxRecDepth 100000 in
theorem om_59 : okM 59 = true := okM_of 59 12 (by decide +kernel)
set_option maxRecDepth 100000 in
theorem om_60 : okM 60 = true := okM_of 60 33 (by decide +kernel)
set_option maxRecDepth 100000 in
theorem om_61 : okM 61 = true := okM_of 61 60 (by decide +kernel)
set_option maxRecDepth 100000 in
theorem om_62 : okM 62 = true := okM_of 62 106 (by decide +kernel)
set_option maxRecDepth 100000 in
theorem om_63 : okM 63 = true := okM_of 63 79 (by decide +kernel)
set_option maxRecDepth 100000 in
theorem om_64 : okM 64 = true := okM_of 64 33 (by decide +kernel)
set_option maxRecDepth 100000 in
theorem om_65 : okM 65 = true := okM_of 65 39 (by decide +kernel)
set_option maxRecDepth 100000 in
theorem om_66 : okM 66 = true := okM_of 66 47 (by decide +kernel)
set_option maxRecDepth 100000 in
theorem om_67 : okM 67 = true := okM_of 67 45 (by decide +kernel)
set_option maxRecDepth 100000 in
theorem om_68 : okM 68 = true := okM_of 68 57 (by decide +kernel)
set_option maxRecDepth 100000 in
theorem om_69 : okM 69 = true := okM_of 69 30 (by decide +kernel)
set_option maxRecDepth 100000 in
theorem om_70 : okM 70 = true := okM_of 70 46 (by decide +kernel)
set_option maxRecDepth 100000 in
theorem om_71 : okM 71 = true := okM_of 71 10 (by decide +kernel)
set_option maxRecDepth 100000 in
theorem om_72 : okM 72 = true := okM_of 72 12 (by decide +kernel)
set_option maxRecDepth 100000 in
theorem om_73 : okM 73 = true := okM_of 73 19 (by decide +kernel)
set_option maxRecDepth 100000 in
theorem om_74 : okM 74 = true := okM_of 74 19 (by decide +kernel)
set_option maxRecDepth 100000 in
theorem om_75 : okM 75 = true := okM_of 75 12 (by decide +kernel)
set_option maxRecDepth 100000 in
theorem om_76 : okM 76 = true := okM_of 76 8 (by decide +kernel)
set_option maxRecDepth 100000 in
theorem om_77 : okM 77 = true := okM_of 77 48 (by decide +kernel)
set_option maxRecDepth 100000 in
theorem om_78 : okM 78 = true := okM_of 78 15 (by decide +kernel)
set_option maxRecDepth 100000 in
theorem om_79 : okM 79 = true := okM_of 79 39 (by decide +kernel)
set_option maxRecDepth 100000 in
theorem om_80 : okM 80 = true := okM_of 80 13 (by decide +kernel)
set_option maxRecDepth 100000 in
theorem om_81 : okM 81 = true := okM_of 81 22 (by decide +kernel)
set_option maxRecDepth 100000 in
theorem om_82 : okM 82 = true := okM_of 82 25 (by decide +kernel)
set_option maxRecDepth 100000 in
theorem om_83 : okM 83 = true := okM_of 83 27 (by decide +kernel)
set_option maxRecDepth 100000 in
theorem om_84 : okM 84 = true := okM_of 84 43 (by decide +kernel)
set_option maxRecDepth 100000 in
theorem om_85 : okM 85 = true := okM_of 85 79 (by decide +kernel)
set_option maxRecDepth 100000 in
theorem om_86 : okM 86 = true := okM_of 86 31 (by decide +kernel)
set_option maxRecDepth 100000 in
theorem om_87 : okM 87 = true := okM_of 87 28 (by decide +kernel)
set_option maxRecDepth 100000 in
theorem om_88 : okM 88 = true := okM_of 88 66 (by decide +kernel)
set_option maxRecDepth 100000 in
theorem om_89 : okM 89 = true := okM_of 89 36 (by decide +kernel)
set_option maxRecDepth 100000 in
theorem om_90 : okM 90 = true := okM_of 90 47 (by decide +kernel)
set_option maxRecDepth 100000 in
theorem om_91 : okM 91 = true := okM_of 91 32 (by decide +kernel)
set_option maxRecDepth 100000 in
theorem om_92 : okM 92 = true := okM_of 92 13 (by decide +kernel)
set_option maxRecDepth 100000 in
theorem om_93 : okM 93 = true := okM_of 93 33 (by decide +kernel)
set_option maxRecDepth 100000 in
theorem om_94 : okM 94 = true := okM_of 94 59 (by decide +kernel)
set_option maxRecDepth 100000 in
theorem om_95 : okM 95 = true := okM_of 95 17 (by decide +kernel)
set_option maxRecDepth 100000 in
theorem om_96 : okM 96 = true := okM_of 96 80 (by decide +kernel)
set_option maxRecDepth 100000 in
theorem om_97 : okM 97 = true := okM_of 97 19 (by decide +kernel)
set_option maxRecDepth 100000 in
theorem om_98 : okM 98 = true := okM_of 98 31 (by decide +kernel)
set_option maxRecDepth 100000 in
theorem om_99 : okM 99 = true := okM_of 99 68 (by decide +kernel)
set_option maxRecDepth 100000 in
theorem om_100 : okM 100 = true := okM_of 100 22 (by decide +kernel)
set_option maxRecDepth 100000 in
theorem om_101 : okM 101 = true := okM_of 101 10 (by decide +kernel)
set_option maxRecDepth 100000 in
theorem om_102 : okM 102 = true := okM_of 102 34 (by decide +kernel)
set_option maxRecDepth 100000 in
theorem om_103 : okM 103 = true := okM_of 103 10 (by decide +kernel)
set_option maxRecDepth 100000 in
theorem om_104 : okM 104 = true := okM_of 104 58 (by decide +kernel)
set_option maxRecDepth 100000 in
theorem om_105 : okM 105 = true := okM_of 105 64 (by decide +kernel)
set_option maxRecDepth 100000 in
theorem om_106 : okM 106 = true := okM_of 106 11 (by decide +kernel)
set_option maxRecDepth 100000 in
theorem om_107 : okM 107 = true := okM_of 107 11 (by decide +kernel)
set_option maxRecDepth 100000 in
theorem om_108 : okM 108 = true := okM_of 108 67 (by decide +kernel)
set_option maxRecDepth 100000 in
theorem om_109 : okM 109 = true := okM_of 109 47 (by decide +kernel)
set_option maxRecDepth 100000 in
theorem om_110 : okM 110 = true := okM_of 110 31 (by decide +kernel)
set_option maxRecDepth 100000 in
theorem om_111 : okM 111 = true := okM_of 111 74 (by decide +kernel)
set_option maxRecDepth 100000 in
theorem om_112 : okM 112 = true := okM_of 112 32 (by decide +kernel)
set_option maxRecDepth 100000 in
theorem om_113 : okM 113 = true := okM_of 113 28 (by decide +kernel)
set_option maxRecDepth 100000 in
theorem om_114 : okM 114 = true := okM_of 114 13 (by decide +kernel)
set_option maxRecDepth 100000 in
theorem om_115 : okM 115 = true := okM_of 115 76 (by decide +kernel)
set_option maxRecDepth 100000 in
theorem om_116 : okM 116 = true := okM_of 116 10 (by decide +kernel)
set_option maxRecDepth 100000 in
theorem om_117 : okM 117 = true := okM_of 117 11 (by decide +kernel)
set_option maxRecDepth 100000 in
theorem om_118 : okM 118 = true := okM_of 118 41 (by decide +kernel)
set_option maxRecDepth 100000 in
theorem om_119 : okM 119 = true := okM_of 119 11 (by decide +kernel)
set_option maxRecDepth 100000 in
theorem om_120 : okM 120 = true := okM_of 120 16 (by decide +kernel)
set_option maxRecDepth 100000 in
theorem om_121 : okM 121 = true := okM_of 121 11 (by decide +kernel)
set_option maxRecDepth 100000 in
theorem om_122 : okM 122 = true := okM_of 122 11 (by decide +kernel)
set_option maxRecDepth 100000 in
theorem om_123 : okM 123 = true := okM_of 123 25 (by decide +kernel)
set_option maxRecDepth 100000 in
theorem om_124 : okM 124 = true := okM_of 124 39 (by decide +kernel)
set_option maxRecDepth 100000 in
theorem om_125 : okM 125 = true := okM_of 125 10 (by decide +kernel)
set_option maxRecDepth 100000 in
theorem om_126 : okM 126 = true := okM_of 126 11 (by decide +kernel)
set_option maxRecDepth 100000 in
theorem om_127 : okM 127 = true := okM_of 127 23 (by decide +kernel)
set_option maxRecDepth 100000 in
theorem om_128 : okM 128 = true := okM_of 128 41 (by decide +kernel)
set_option maxRecDepth 100000 in
theorem om_129 : okM 129 = true := okM_of 129 10 (by decide +kernel)
set_option maxRecDepth 100000 in
theorem om_130 : okM 130 = true := okM_of 130 11 (by decide +kernel)
set_option maxRecDepth 100000 in
theorem om_131 : okM 131 = true := okM_of 131 25 (by decide +kernel)
set_option maxRecDepth 100000 in
theorem om_132 : okM 132 = true := okM_of 132 63 (by decide +kernel)
set_option maxRecDepth 100000 in
theorem om_133 : okM 133 = true := okM_of 133 11 (by decide +kernel)
set_option maxRecDepth 100000 in
theorem om_134 : okM 134 = true := okM_of 134 47 (by decide +kernel)
set_option maxRecDepth 100000 in
theorem om_135 : okM 135 = true := okM_of 135 43 (by decide +kernel)
set_option maxRecDepth 100000 in
theorem om_136 : okM 136 = true := okM_of 136 23 (by decide +kernel)
set_option maxRecDepth 100000 in
theorem om_137 : okM 137 = true := okM_of 137 32 (by decide +kernel)
set_option maxRecDepth 100000 in
theorem om_138 : okM 138 = true := okM_of 138 69 (by decide +kernel)
set_option maxRecDepth 100000 in
theorem om_139 : okM 139 = true := okM_of 139 14 (by decide +kernel)
set_option maxRecDepth 100000 in
theorem om_140 : okM 140 = true := okM_of 140 16 (by decide +kernel)
set_option maxRecDepth 100000 in
theorem om_141 : okM 141 = true := okM_of 141 16 (by decide +kernel)
set_option maxRecDepth 100000 in
theorem om_142 : okM 142 = true := okM_of 142 30 (by decide +kernel)
set_option maxRecDepth 100000 in
theorem om_143 : okM 143 = true := okM_of 143 55 (by decide +kernel)
set_option maxRecDepth 100000 in
theorem om_144 : okM 144 = true := okM_of 144 12 (by decide +kernel)
set_option maxRecDepth 100000 in
theorem om_145 : okM 145 = true := okM_of 145 13 (by decide +kernel)
set_option maxRecDepth 100000 in
theorem om_146 : okM 146 = true := okM_of 146 38 (by decide +kernel)
set_option maxRecDepth 100000 in
theorem om_147 : okM 147 = true := okM_of 147 39 (by decide +kernel)
set_option maxRecDepth 100000 in
theorem om_148 : okM 148 = true := okM_of 148 39 (by decide +kernel)
set_option maxRecDepth 100000 in
theorem om_149 : okM 149 = true := okM_of 149 120 (by decide +kernel)
set_option maxRecDepth 100000 in
theorem om_150 : okM 150 = true := okM_of 150 14 (by decide +kernel)
set_option maxRecDepth 100000 in
theorem om_151 : okM 151 = true := okM_of 151 47 (by decide +kernel)
set_option maxRecDepth 100000 in
theorem om_152 : okM 152 = true := okM_of 152 60 (by decide +kernel)
set_option maxRecDepth 100000 in
theorem om_153 : okM 153 = true := okM_of 153 63 (by decide +kernel)
set_option maxRecDepth 100000 in
theorem om_154 : okM 154 = true := okM_of 154 27 (by decide +kernel)
set_option maxRecDepth 100000 in
theorem om_155 : okM 155 = true := okM_of 155 35 (by decide +kernel)
set_option maxRecDepth 100000 in
theorem om_156 : okM 156 = true := okM_of 156 13 (by decide +kernel)
set_option maxRecDepth 100000 in
theorem om_157 : okM 157 = true := okM_of 157 6 (by decide +kernel)
set_option maxRecDepth 100000 in
theorem om_158 : okM 158 = true := okM_of 158 63 (by decide +kernel)
set_option maxRecDepth 100000 in
theorem om_159 : okM 159 = true := okM_of 159 39 (by decide +kernel)
set_option maxRecDepth 100000 in
theorem om_160 : okM 160 = true := okM_of 160 12 (by decide +kernel)
set_option maxRecDepth 100000 in
theorem om_161 : okM 161 = true := okM_of 161 4 (by decide +kernel)
set_option maxRecDepth 100000 in
theorem om_162 : okM 162 = true := okM_of 162 20 (by decide +kernel)
set_option maxRecDepth 100000 in
theorem om_163 : okM 163 = true := okM_of 163 16 (by decide +kernel)
set_option maxRecDepth 100000 in
theorem om_164 : okM 164 = true := okM_of 164 14 (by decide +kernel)
set_option maxRecDepth 100000 in
theorem om_165 : okM 165 = true := okM_of 165 33 (by decide +kernel)
set_option maxRecDepth 100000 in
theorem om_166 : okM 166 = true := okM_of 166 10 (by decide +kernel)
set_option maxRecDepth 100000 in
theorem om_167 : okM 167 = true := okM_of 167 22 (by decide +kernel)
set_option maxRecDepth 100000 in
theorem om_168 : okM 168 = true := okM_of 168 13 (by decide +kernel)
set_option maxRecDepth 100000 in
theorem om_169 : okM 169 = true := okM_of 169 32 (by decide +kernel)
set_option maxRecDepth 100000 in
theorem om_170 : okM 170 = true := okM_of 170 25 (by decide +kernel)
set_option maxRecDepth 100000 in
theorem om_171 : okM 171 = true := okM_of 171 36 (by decide +kernel)
set_option maxRecDepth 100000 in
theorem om_172 : okM 172 = true := okM_of 172 10 (by decide +kernel)
set_option maxRecDepth 100000 in
theorem om_173 : okM 173 = true := okM_of 173 10 (by decide +kernel)
set_option maxRecDepth 100000 in
theorem om_174 : okM 174 = true := okM_of 174 39 (by decide +kernel)
set_option maxRecDepth 100000 in
theorem om_175 : okM 175 = true := okM_of 175 40 (by decide +kernel)
set_option maxRecDepth 100000 in
theorem om_176 : okM 176 = true := okM_of 176 11 (by decide +kernel)
set_option maxRecDepth 100000 in
theorem om_177 : okM 177 = true := okM_of 177 21 (by decide +kernel)
set_option maxRecDepth 100000 in
theorem om_178 : okM 178 = true := okM_of 178 45 (by decide +kernel)
set_option maxRecDepth 100000 in
theorem om_179 : okM 179 = true := okM_of 179 46 (by decide +kernel)
set_option maxRecDepth 100000 in
theorem om_180 : okM 180 = true := okM_of 180 10 (by decide +kernel)
set_option maxRecDepth 100000 in
theorem om_181 : okM 181 = true := okM_of 181 21 (by decide +kernel)
set_option maxRecDepth 100000 in
theorem om_182 : okM 182 = true := okM_of 182 101 (by decide +kernel)
set_option maxRecDepth 100000 in
theorem om_183 : okM 183 = true := okM_of 183 20 (by decide +kernel)
set_option maxRecDepth 100000 in
theorem om_184 : okM 184 = true := okM_of 184 59 (by decide +kernel)
set_option maxRecDepth 100000 in
theorem om_185 : okM 185 = true := okM_of 185 17 (by decide +kernel)
set_option maxRecDepth 100000 in
theorem om_186 : okM 186 = true := okM_of 186 44 (by decide +kernel)
set_option maxRecDepth 100000 in
theorem om_187 : okM 187 = true := okM_of 187 71 (by decide +kernel)
set_option maxRecDepth 100000 in
theorem om_188 : okM 188 = true := okM_of 188 43 (by decide +kernel)
set_option maxRecDepth 100000 in
theorem om_189 : okM 189 = true := okM_of 189 52 (by decide +kernel)
set_option maxRecDepth 100000 in
theorem om_190 : okM 190 = true := okM_of 190 28 (by decide +kernel)
set_option maxRecDepth 100000 in
theorem om_191 : okM 191 = true := okM_of 191 12 (by decide +kernel)
set_option maxRecDepth 100000 in
theorem om_192 : okM 192 = true := okM_of 192 18 (by decide +kernel)
set_option maxRecDepth 100000 in
theorem om_193 : okM 193 = true := okM_of 193 311 (by decide +kernel)
set_option maxRecDepth 100000 in
theorem om_194 : okM 194 = true := okM_of 194 15 (by decide +kernel)
set_option maxRecDepth 100000 in
theorem om_195 : okM 195 = true := okM_of 195 12 (by decide +kernel)
set_option maxRecDepth 100000 in
theorem om_196 : okM 196 = true := okM_of 196 30 (by decide +kernel)
set_option maxRecDepth 100000 in
theorem om_197 : okM 197 = true := okM_of 197 10 (by decide +kernel)
set_option maxRecDepth 100000 in
theorem om_198 : okM 198 = true := okM_of 198 19 (by decide +kernel)
set_option maxRecDepth 100000 in
theorem om_199 : okM 199 = true := okM_of 199 21 (by decide +kernel)
set_option maxRecDepth 100000 in
theorem om_200 : okM 200 = true := okM_of 200 39 (by decide +kernel)
set_option maxRecDepth 100000 in
theorem om_201 : okM 201 = true := okM_of 201 26 (by decide +kernel)
set_option maxRecDepth 100000 in
theorem om_202 : okM 202 = true := okM_of 202 22 (by decide +kernel)
set_option maxRecDepth 100000 in
theorem om_203 : okM 203 = true := okM_of 203 65 (by decide +kernel)
set_option maxRecDepth 100000 in
theorem om_204 : okM 204 = true := okM_of 204 67 (by decide +kernel)
set_option maxRecDepth 100000 in
theorem om_205 : okM 205 = true := okM_of 205 7 (by decide +kernel)
set_option maxRecDepth 100000 in
theorem om_206 : okM 206 = true := okM_of 206 181 (by decide +kernel)
set_option maxRecDepth 100000 in
theorem om_207 : okM 207 = true := okM_of 207 15 (by decide +kernel)
set_option maxRecDepth 100000 in
theorem om_208 : okM 208 = true := okM_of 208 16 (by decide +kernel)
set_option maxRecDepth 100000 in
theorem om_209 : okM 209 = true := okM_of 209 22 (by decide +kernel)
set_option maxRecDepth 100000 in
theorem om_210 : okM 210 = true := okM_of 210 14 (by decide +kernel)
set_option maxRecDepth 100000 in
theorem om_211 : okM 211 = true := okM_of 211 44 (by decide +kernel)
set_option maxRecDepth 100000 in
theorem om_212 : okM 212 = true := okM_of 212 35 (by decide +kernel)
set_option maxRecDepth 100000 in
theorem om_213 : okM 213 = true := okM_of 213 43 (by decide +kernel)
set_option maxRecDepth 100000 in
theorem om_214 : okM 214 = true := okM_of 214 55 (by decide +kernel)
set_option maxRecDepth 100000 in
theorem om_215 : okM 215 = true := okM_of 215 7 (by decide +kernel)
set_option maxRecDepth 100000 in
theorem om_216 : okM 216 = true := okM_of 216 23 (by decide +kernel)
set_option maxRecDepth 100000 in
theorem om_217 : okM 217 = true := okM_of 217 30 (by decide +kernel)
set_option maxRecDepth 100000 in
theorem om_218 : okM 218 = true := okM_of 218 46 (by decide +kernel)
set_option maxRecDepth 100000 in
theorem om_219 : okM 219 = true := okM_of 219 25 (by decide +kernel)
set_option maxRecDepth 100000 in
theorem om_220 : okM 220 = true := okM_of 220 140 (by decide +kernel)
set_option maxRecDepth 100000 in
theorem om_221 : okM 221 = true := okM_of 221 13 (by decide +kernel)
set_option maxRecDepth 100000 in
theorem om_222 : okM 222 = true := okM_of 222 10 (by decide +kernel)
set_option maxRecDepth 100000 in
theorem om_223 : okM 223 = true := okM_of 223 23 (by decide +kernel)
set_option maxRecDepth 100000 in
theorem om_224 : okM 224 = true := okM_of 224 13 (by decide +kernel)
set_option maxRecDepth 100000 in
theorem om_225 : okM 225 = true := okM_of 225 5 (by decide +kernel)
set_option maxRecDepth 100000 in
theorem om_226 : okM 226 = true := okM_of 226 13 (by decide +kernel)
set_option maxRecDepth 100000 in
theorem om_227 : okM 227 = true := okM_of 227 22 (by decide +kernel)
set_option maxRecDepth 100000 in
theorem om_228 : okM 228 = true := okM_of 228 83 (by decide +kernel)
set_option maxRecDepth 100000 in
theorem om_229 : okM 229 = true := okM_of 229 23 (by decide +kernel)
set_option maxRecDepth 100000 in
theorem om_230 : okM 230 = true := okM_of 230 107 (by decide +kernel)
set_option maxRecDepth 100000 in
theorem om_231 : okM 231 = true := okM_of 231 47 (by decide +kernel)
set_option maxRecDepth 100000 in
theorem om_232 : okM 232 = true := okM_of 232 76 (by decide +kernel)
set_option maxRecDepth 100000 in
theorem om_233 : okM 233 = true := okM_of 233 14 (by decide +kernel)
set_option maxRecDepth 100000 in
theorem om_234 : okM 234 = true := okM_of 234 18 (by decide +kernel)
set_option maxRecDepth 100000 in
theorem om_235 : okM 235 = true := okM_of 235 37 (by decide +kernel)
set_option maxRecDepth 100000 in
theorem om_236 : okM 236 = true := okM_of 236 60 (by decide +kernel)
set_option maxRecDepth 100000 in
theorem om_237 : okM 237 = true := okM_of 237 60 (by decide +kernel)
set_option maxRecDepth 100000 in
theorem om_238 : okM 238 = true := okM_of 238 6 (by decide +kernel)
set_option maxRecDepth 100000 in
theorem om_239 : okM 239 = true := okM_of 239 59 (by decide +kernel)
set_option maxRecDepth 100000 in
theorem om_240 : okM 240 = true := okM_of 240 48 (by decide +kernel)
set_option maxRecDepth 100000 in
theorem om_241 : okM 241 = true := okM_of 241 10 (by decide +kernel)
set_option maxRecDepth 100000 in
theorem om_242 : okM 242 = true := okM_of 242 68 (by decide +kernel)
set_option maxRecDepth 100000 in
theorem om_243 : okM 243 = true := okM_of 243 5 (by decide +kernel)
set_option maxRecDepth 100000 in
theorem om_244 : okM 244 = true := okM_of 244 22 (by decide +kernel)
set_option maxRecDepth 100000 in
theorem om_245 : okM 245 = true := okM_of 245 39 (by decide +kernel)
set_option maxRecDepth 100000 in
theorem om_246 : okM 246 = true := okM_of 246 85 (by decide +kernel)
set_option maxRecDepth 100000 in
theorem om_247 : okM 247 = true := okM_of 247 41 (by decide +kernel)
set_option maxRecDepth 100000 in
theorem om_248 : okM 248 = true := okM_of 248 18 (by decide +kernel)
set_option maxRecDepth 100000 in
theorem om_249 : okM 249 = true := okM_of 249 37 (by decide +kernel)
set_option maxRecDepth 100000 in
theorem om_250 : okM 250 = true := okM_of 250 53 (by decide +kernel)
set_option maxRecDepth 100000 in
theorem om_251 : okM 251 = true := okM_of 251 101 (by decide +kernel)
set_option maxRecDepth 100000 in
theorem om_252 : okM 252 = true := okM_of 252 70 (by decide +kernel)
set_option maxRecDepth 100000 in
theorem om_253 : okM 253 = true := okM_of 253 32 (by decide +kernel)
set_option maxRecDepth 100000 in
theorem om_254 : okM 254 = true := okM_of 254 83 (by decide +kernel)
set_option maxRecDepth 100000 in
theorem om_255 : okM 255 = true := okM_of 255 20 (by decide +kernel)
set_option maxRecDepth 100000 in
theorem om_256 : okM 256 = true := okM_of 256 103 (by decide +kernel)
set_option maxRecDepth 100000 in
theorem om_257 : okM 257 = true := okM_of 257 10 (by decide +kernel)
set_option maxRecDepth 100000 in
theorem om_258 : okM 258 = true := okM_of 258 55 (by decide +kernel)
set_option maxRecDepth 100000 in
theorem om_259 : okM 259 = true := okM_of 259 10 (by decide +kernel)
set_option maxRecDepth 100000 in
theorem om_260 : okM 260 = true := okM_of 260 16 (by decide +kernel)
set_option maxRecDepth 100000 in
theorem om_261 : okM 261 = true := okM_of 261 62 (by decide +kernel)
set_option maxRecDepth 100000 in
theorem om_262 : okM 262 = true := okM_of 262 91 (by decide +kernel)
set_option maxRecDepth 100000 in
theorem om_263 : okM 263 = true := okM_of 263 53 (by decide +kernel)
set_option maxRecDepth 100000 in
theorem om_264 : okM 264 = true := okM_of 264 71 (by decide +kernel)
set_option maxRecDepth 100000 in
theorem om_265 : okM 265 = true := okM_of 265 64 (by decide +kernel)
set_option maxRecDepth 100000 in
theorem om_266 : okM 266 = true := okM_of 266 130 (by decide +kernel)
set_option maxRecDepth 100000 in
theorem om_267 : okM 267 = true := okM_of 267 100 (by decide +kernel)
set_option maxRecDepth 100000 in
theorem om_268 : okM 268 = true := okM_of 268 58 (by decide +kernel)
set_option maxRecDepth 100000 in
theorem om_269 : okM 269 = true := okM_of 269 71 (by decide +kernel)
set_option maxRecDepth 100000 in
theorem om_270 : okM 270 = true := okM_of 270 33 (by decide +kernel)
set_option maxRecDepth 100000 in
theorem om_271 : okM 271 = true := okM_of 271 66 (by decide +kernel)
set_option maxRecDepth 100000 in
theorem om_272 : okM 272 = true := okM_of 272 48 (by decide +kernel)
set_option maxRecDepth 100000 in
theorem om_273 : okM 273 = true := okM_of 273 58 (by decide +kernel)
set_option maxRecDepth 100000 in
theorem om_274 : okM 274 = true := okM_of 274 23 (by decide +kernel)
set_option maxRecDepth 100000 in
theorem om_275 : okM 275 = true := okM_of 275 29 (by decide +kernel)
set_option maxRecDepth 100000 in
theorem om_276 : okM 276 = true := okM_of 276 28 (by decide +kernel)
set_option maxRecDepth 100000 in
theorem om_277 : okM 277 = true := okM_of 277 54 (by decide +kernel)
set_option maxRecDepth 100000 in
theorem om_278 : okM 278 = true := okM_of 278 59 (by decide +kernel)
set_option maxRecDepth 100000 in
theorem om_279 : okM 279 = true := okM_of 279 7 (by decide +kernel)
set_option maxRecDepth 100000 in
theorem om_280 : okM 280 = true := okM_of 280 17 (by decide +kernel)
set_option maxRecDepth 100000 in
theorem om_281 : okM 281 = true := okM_of 281 26 (by decide +kernel)
set_option maxRecDepth 100000 in
theorem om_282 : okM 282 = true := okM_of 282 30 (by decide +kernel)
set_option maxRecDepth 100000 in
theorem om_283 : okM 283 = true := okM_of 283 111 (by decide +kernel)
set_option maxRecDepth 100000 in
theorem om_284 : okM 284 = true := okM_of 284 27 (by decide +kernel)
set_option maxRecDepth 100000 in
theorem om_285 : okM 285 = true := okM_of 285 4 (by decide +kernel)
set_option maxRecDepth 100000 in
theorem om_286 : okM 286 = true := okM_of 286 109 (by decide +kernel)
set_option maxRecDepth 100000 in
theorem om_287 : okM 287 = true := okM_of 287 59 (by decide +kernel)
set_option maxRecDepth 100000 in
theorem om_288 : okM 288 = true := okM_of 288 46 (by decide +kernel)
set_option maxRecDepth 100000 in
theorem om_289 : okM 289 = true := okM_of 289 29 (by decide +kernel)
set_option maxRecDepth 100000 in
theorem om_290 : okM 290 = true := okM_of 290 16 (by decide +kernel)
set_option maxRecDepth 100000 in
theorem om_291 : okM 291 = true := okM_of 291 30 (by decide +kernel)
set_option maxRecDepth 100000 in
theorem om_292 : okM 292 = true := okM_of 292 41 (by decide +kernel)
set_option maxRecDepth 100000 in
theorem om_293 : okM 293 = true := okM_of 293 194 (by decide +kernel)
set_option maxRecDepth 100000 in
theorem om_294 : okM 294 = true := okM_of 294 31 (by decide +kernel)
set_option maxRecDepth 100000 in
theorem om_295 : okM 295 = true := okM_of 295 28 (by decide +kernel)
set_option maxRecDepth 100000 in
theorem om_296 : okM 296 = true := okM_of 296 67 (by decide +kernel)
set_option maxRecDepth 100000 in
theorem om_297 : okM 297 = true := okM_of 297 22 (by decide +kernel)
set_option maxRecDepth 100000 in
theorem om_298 : okM 298 = true := okM_of 298 57 (by decide +kernel)
set_option maxRecDepth 100000 in
theorem om_299 : okM 299 = true := okM_of 299 111 (by decide +kernel)
set_option maxRecDepth 100000 in
theorem om_300 : okM 300 = true := okM_of 300 39 (by decide +kernel)
set_option maxRecDepth 100000 in
theorem om_301 : okM 301 = true := okM_of 301 33 (by decide +kernel)
set_option maxRecDepth 100000 in
theorem om_302 : okM 302 = true := okM_of 302 116 (by decide +kernel)
set_option maxRecDepth 100000 in
theorem om_303 : okM 303 = true := okM_of 303 24 (by decide +kernel)
set_option maxRecDepth 100000 in
theorem om_304 : okM 304 = true := okM_of 304 31 (by decide +kernel)
set_option maxRecDepth 100000 in
theorem om_305 : okM 305 = true := okM_of 305 76 (by decide +kernel)
set_option maxRecDepth 100000 in
theorem om_306 : okM 306 = true := okM_of 306 77 (by decide +kernel)
set_option maxRecDepth 100000 in
theorem om_307 : okM 307 = true := okM_of 307 11 (by decide +kernel)
set_option maxRecDepth 100000 in
theorem om_308 : okM 308 = true := okM_of 308 72 (by decide +kernel)
set_option maxRecDepth 100000 in
theorem om_309 : okM 309 = true := okM_of 309 81 (by decide +kernel)
set_option maxRecDepth 100000 in
theorem om_310 : okM 310 = true := okM_of 310 23 (by decide +kernel)
set_option maxRecDepth 100000 in
theorem om_311 : okM 311 = true := okM_of 311 107 (by decide +kernel)
set_option maxRecDepth 100000 in
theorem om_312 : okM 312 = true := okM_of 312 135 (by decide +kernel)
set_option maxRecDepth 100000 in
theorem om_313 : okM 313 = true := okM_of 313 93 (by decide +kernel)
set_option maxRecDepth 100000 in
theorem om_314 : okM 314 = true := okM_of 314 51 (by decide +kernel)
set_option maxRecDepth 100000 in
theorem om_315 : okM 315 = true := okM_of 315 26 (by decide +kernel)
set_option maxRecDepth 100000 in
theorem om_316 : okM 316 = true := okM_of 316 63 (by decide +kernel)
set_option maxRecDepth 100000 in
theorem om_317 : okM 317 = true := okM_of 317 52 (by decide +kernel)
set_option maxRecDepth 100000 in
theorem om_318 : okM 318 = true := okM_of 318 46 (by decide +kernel)
set_option maxRecDepth 100000 in
theorem om_319 : okM 319 = true := okM_of 319 65 (by decide +kernel)
set_option maxRecDepth 100000 in
theorem om_320 : okM 320 = true := okM_of 320 42 (by decide +kernel)
set_option maxRecDepth 100000 in
theorem om_321 : okM 321 = true := okM_of 321 7 (by decide +kernel)
set_option maxRecDepth 100000 in
theorem om_322 : okM 322 = true := okM_of 322 7 (by decide +kernel)
set_option maxRecDepth 100000 in
theorem om_323 : okM 323 = true := okM_of 323 5 (by decide +kernel)
set_option maxRecDepth 100000 in
theorem om_324 : okM 324 = true := okM_of 324 19 (by decide +kernel)
set_option maxRecDepth 100000 in
theorem om_325 : okM 325 = true := okM_of 325 9 (by decide +kernel)
set_option maxRecDepth 100000 in
theorem om_326 : okM 326 = true := okM_of 326 13 (by decide +kernel)
set_option maxRecDepth 100000 in
theorem om_327 : okM 327 = true := okM_of 327 25 (by decide +kernel)
set_option maxRecDepth 100000 in
theorem om_328 : okM 328 = true := okM_of 328 9 (by decide +kernel)
set_option maxRecDepth 100000 in
theorem om_329 : okM 329 = true := okM_of 329 19 (by decide +kernel)
set_option maxRecDepth 100000 in
theorem om_330 : okM 330 = true := okM_of 330 11 (by decide +kernel)
set_option maxRecDepth 100000 in
theorem om_331 : okM 331 = true := okM_of 331 6 (by decide +kernel)
set_option maxRecDepth 100000 in
theorem om_332 : okM 332 = true := okM_of 332 22 (by decide +kernel)
set_option maxRecDepth 100000 in
theorem om_333 : okM 333 = true := okM_of 333 22 (by decide +kernel)
set_option maxRecDepth 100000 in
theorem om_334 : okM 334 = true := okM_of 334 15 (by decide +kernel)
set_option maxRecDepth 100000 in
theorem om_335 : okM 335 = true := okM_of 335 16 (by decide +kernel)
set_option maxRecDepth 100000 in
theorem om_336 : okM 336 = true := okM_of 336 12 (by decide +kernel)
set_option maxRecDepth 100000 in
theorem om_337 : okM 337 = true := okM_of 337 22 (by decide +kernel)
theorem omg_0 : ∀ m ∈ [0, 1, 2, 3, 4, 5, 6, 7, 8, 9, 10, 11, 12, 13, 14, 15, 16, 17, 18, 19], okM m = true := List.forall_mem_cons.mpr ⟨om_0, List.forall_mem_cons.mpr ⟨om_1, List.forall_mem_cons.mpr ⟨om_2, List.forall_mem_cons.mpr ⟨om_3, List.forall_mem_cons.mpr ⟨om_4, List.forall_mem_cons.mpr ⟨om_5, List.forall_mem_cons.mpr ⟨om_6, List.forall_mem_cons.mpr ⟨om_7, List.forall_mem_cons.mpr ⟨om_8, List.forall_mem_cons.mpr ⟨om_9, List.forall_mem_cons.mpr ⟨om_10, List.forall_mem_cons.mpr ⟨om_11, List.forall_mem_cons.mpr ⟨om_12, List.forall_mem_cons.mpr ⟨om_13, List.forall_mem_cons.mpr ⟨om_14, List.forall_mem_cons.mpr ⟨om_15, List.forall_mem_cons.mpr ⟨om_16, List.forall_mem_cons.mpr ⟨om_17, List.forall_mem_cons.mpr ⟨om_18, List.forall_mem_cons.mpr ⟨om_19, fun _ h => absurd h List.not_mem_nil⟩⟩⟩⟩⟩⟩⟩⟩⟩⟩⟩⟩⟩⟩⟩⟩⟩⟩⟩⟩
theorem omg_1 : ∀ m ∈ [20, 21, 22, 23, 24, 25, 26, 27, 28, 29, 30, 31, 32, 33, 34, 35, 36, 37, 38, 39], okM m = true := List.forall_mem_cons.mpr ⟨om_20, List.forall_mem_cons.mpr ⟨om_21, List.forall_mem_cons.mpr ⟨om_22, List.forall_mem_cons.mpr ⟨om_23, List.forall_mem_cons.mpr ⟨om_24, List.forall_mem_cons.mpr ⟨om_25, List.forall_mem_cons.mpr ⟨om_26, List.forall_mem_cons.mpr ⟨om_27, List.forall_mem_cons.mpr ⟨om_28, List.forall_mem_cons.mpr ⟨om_29, List.forall_mem_cons.mpr ⟨om_30, List.forall_mem_cons.mpr ⟨om_31, List.forall_mem_cons.mpr ⟨om_32, List.forall_mem_cons.mpr ⟨om_33, List.forall_mem_cons.mpr ⟨om_34, List.forall_mem_cons.mpr ⟨om_35, List.forall_mem_cons.mpr ⟨om_36, List.forall_mem_cons.mpr ⟨om_37, List.forall_mem_cons.mpr ⟨om_38, List.forall_mem_cons.mpr ⟨om_39, fun _ h => absurd h List.not_mem_nil⟩⟩⟩⟩⟩⟩⟩⟩⟩⟩⟩⟩⟩⟩⟩⟩⟩⟩⟩⟩
theorem omg_2 : ∀ m ∈ [40, 41, 42, 43, 44, 45, 46, 47, 48, 49, 50, 51, 52, 53, 54, 55, 56, 57, 58, 59], okM m = true := List.forall_mem_cons.mpr ⟨om_40, List.forall_mem_cons.mpr ⟨om_41, List.forall_mem_cons.mpr ⟨om_42, List.forall_mem_cons.mpr ⟨om_43, List.forall_mem_cons.mpr ⟨om_44, List.forall_mem_cons.mpr ⟨om_45, List.forall_mem_cons.mpr ⟨om_46, List.forall_mem_cons.mpr ⟨om_47, List.forall_mem_cons.mpr ⟨om_48, List.forall_mem_cons.mpr ⟨om_49, List.forall_mem_cons.mpr ⟨om_50, List.forall_mem_cons.mpr ⟨om_51, List.forall_mem_cons.mpr ⟨om_52, List.forall_mem_cons.mpr ⟨om_53, List.forall_mem_cons.mpr ⟨om_54, List.forall_mem_cons.mpr ⟨om_55, List.forall_mem_cons.mpr ⟨om_56, List.forall_mem_cons.mpr ⟨om_57, List.forall_mem_cons.mpr ⟨om_58, List.forall_mem_cons.mpr ⟨om_59, fun _ h => absurd h List.not_mem_nil⟩⟩⟩⟩⟩⟩⟩⟩⟩⟩⟩⟩⟩⟩⟩⟩⟩⟩⟩⟩
theorem omg_3 : ∀ m ∈ [60, 61, 62, 63, 64, 65, 66, 67, 68, 69, 70, 71, 72, 73, 74, 75, 76, 77, 78, 79], okM m = true := List.forall_mem_cons.mpr ⟨om_60, List.forall_mem_cons.mpr ⟨om_61, List.forall_mem_cons.mpr ⟨om_62, List.forall_mem_cons.mpr ⟨om_63, List.forall_mem_cons.mpr ⟨om_64, List.forall_mem_cons.mpr ⟨om_65, List.forall_mem_cons.mpr ⟨om_66, List.forall_mem_cons.mpr ⟨om_67, List.forall_mem_cons.mpr ⟨om_68, List.forall_mem_cons.mpr ⟨om_69, List.forall_mem_cons.mpr ⟨om_70, List.forall_mem_cons.mpr ⟨om_71, List.forall_mem_cons.mpr ⟨om_72, List.forall_mem_cons.mpr ⟨om_73, List.forall_mem_cons.mpr ⟨om_74, List.forall_mem_cons.mpr ⟨om_75, List.forall_mem_cons.mpr ⟨om_76, List.forall_mem_cons.mpr ⟨om_77, List.forall_mem_cons.mpr ⟨om_78, List.forall_mem_cons.mpr ⟨om_79, fun _ h => absurd h List.not_mem_nil⟩⟩⟩⟩⟩⟩⟩⟩⟩⟩⟩⟩⟩⟩⟩⟩⟩⟩⟩⟩
theorem omg_4 : ∀ m ∈ [80, 81, 82, 83, 84, 85, 86, 87, 88, 89, 90, 91, 92, 93, 94, 95, 96, 97, 98, 99], okM m = true := List.forall_mem_cons.mpr ⟨om_80, List.forall_mem_cons.mpr ⟨om_81, List.forall_mem_cons.mpr ⟨om_82, List.forall_mem_cons.mpr ⟨om_83, List.forall_mem_cons.mpr ⟨om_84, List.forall_mem_cons.mpr ⟨om_85, List.forall_mem_cons.mpr ⟨om_86, List.forall_mem_cons.mpr ⟨om_87, List.forall_mem_cons.mpr ⟨om_88, List.forall_mem_cons.mpr ⟨om_89, List.forall_mem_cons.mpr ⟨om_90, List.forall_mem_cons.mpr ⟨om_91, List.forall_mem_cons.mpr ⟨om_92, List.forall_mem_cons.mpr ⟨om_93, List.forall_mem_cons.mpr ⟨om_94, List.forall_mem_cons.mpr ⟨om_95, List.forall_mem_cons.mpr ⟨om_96, List.forall_mem_cons.mpr ⟨om_97, List.forall_mem_cons.mpr ⟨om_98, List.forall_mem_cons.mpr ⟨om_99, fun _ h => absurd h List.not_mem_nil⟩⟩⟩⟩⟩⟩⟩⟩⟩⟩⟩⟩⟩⟩⟩⟩⟩⟩⟩⟩
theorem omg_5 : ∀ m ∈ [100, 101, 102, 103, 104, 105, 106, 107, 108, 109, 110, 111, 112, 113, 114, 115, 116, 117, 118, 119], okM m = true := List.forall_mem_cons.mpr ⟨om_100, List.forall_mem_cons.mpr ⟨om_101, List.forall_mem_cons.mpr ⟨om_102, List.forall_mem_cons.mpr ⟨om_103, List.forall_mem_cons.mpr ⟨om_104, List.forall_mem_cons.mpr ⟨om_105, List.forall_mem_cons.mpr ⟨om_106, List.forall_mem_cons.mpr ⟨om_107, List.forall_mem_cons.mpr ⟨om_108, List.forall_mem_cons.mpr ⟨om_109, List.forall_mem_cons.mpr ⟨om_110, List.forall_mem_cons.mpr ⟨om_111, List.forall_mem_cons.mpr ⟨om_112, List.forall_mem_cons.mpr ⟨om_113, List.forall_mem_cons.mpr ⟨om_114, List.forall_mem_cons.mpr ⟨om_115, List.forall_mem_cons.mpr ⟨om_116, List.forall_mem_cons.mpr ⟨om_117, List.forall_mem_cons.mpr ⟨om_118, List.forall_mem_cons.mpr ⟨om_119, fun _ h => absurd h List.not_mem_nil⟩⟩⟩⟩⟩⟩⟩⟩⟩⟩⟩⟩⟩⟩⟩⟩⟩⟩⟩⟩
theorem omg_6 : ∀ m ∈ [120, 121, 122, 123, 124, 125, 126, 127, 128, 129, 130, 131, 132, 133, 134, 135, 136, 137, 138, 139], okM m = true := List.forall_mem_cons.mpr ⟨om_120, List.forall_mem_cons.mpr ⟨om_121, List.forall_mem_cons.mpr ⟨om_122, List.forall_mem_cons.mpr ⟨om_123, List.forall_mem_cons.mpr ⟨om_124, List.forall_mem_cons.mpr ⟨om_125, List.forall_mem_cons.mpr ⟨om_126, List.forall_mem_cons.mpr ⟨om_127, List.forall_mem_cons.mpr ⟨om_128, List.forall_mem_cons.mpr ⟨om_129, List.forall_mem_cons.mpr ⟨om_130, List.forall_mem_cons.mpr ⟨om_131, List.forall_mem_cons.mpr ⟨om_132, List.forall_mem_cons.mpr ⟨om_133, List.forall_mem_cons.mpr ⟨om_134, List.forall_mem_cons.mpr ⟨om_135, List.forall_mem_cons.mpr ⟨om_136, List.forall_mem_cons.mpr ⟨om_137, List.forall_mem_cons.mpr ⟨om_138, List.forall_mem_cons.mpr ⟨om_139, fun _ h => absurd h List.not_mem_nil⟩⟩⟩⟩⟩⟩⟩⟩⟩⟩⟩⟩⟩⟩⟩⟩⟩⟩⟩⟩
theorem omg_7 : ∀ m ∈ [140, 141, 142, 143, 144, 145, 146, 147, 148, 149, 150, 151, 152, 153, 154, 155, 156, 157, 158, 159], okM m = true := List.forall_mem_cons.mpr ⟨om_140, List.forall_mem_cons.mpr ⟨om_141, List.forall_mem_cons.mpr ⟨om_142, List.forall_mem_cons.mpr ⟨om_143, List.forall_mem_cons.mpr ⟨om_144, List.forall_mem_cons.mpr ⟨om_145, List.forall_mem_cons.mpr ⟨om_146, List.forall_mem_cons.mpr ⟨om_147, List.forall_mem_cons.mpr ⟨om_148, List.forall_mem_cons.mpr ⟨om_149, List.forall_mem_cons.mpr ⟨om_150, List.forall_mem_cons.mpr ⟨om_151, List.forall_mem_cons.mpr ⟨om_152, List.forall_mem_cons.mpr ⟨om_153, List.forall_mem_cons.mpr ⟨om_154, List.forall_mem_cons.mpr ⟨om_155, List.forall_mem_cons.mpr ⟨om_156, List.forall_mem_cons.mpr ⟨om_157, List.forall_mem_cons.mpr ⟨om_158, List.forall_mem_cons.mpr ⟨om_159, fun _ h => absurd h List.not_mem_nil⟩⟩⟩⟩⟩⟩⟩⟩⟩⟩⟩⟩⟩⟩⟩⟩⟩⟩⟩⟩
theorem omg_8 : ∀ m ∈ [160, 161, 162, 163, 164, 165, 166, 167, 168, 169, 170, 171, 172, 173, 174, 175, 176, 177, 178, 179], okM m = true := List.forall_mem_cons.mpr ⟨om_160, List.forall_mem_cons.mpr ⟨om_161, List.forall_mem_cons.mpr ⟨om_162, List.forall_mem_cons.mpr ⟨om_163, List.forall_mem_cons.mpr ⟨om_164, List.forall_mem_cons.mpr ⟨om_165, List.forall_mem_cons.mpr ⟨om_166, List.forall_mem_cons.mpr ⟨om_167, List.forall_mem_cons.mpr ⟨om_168, List.forall_mem_cons.mpr ⟨om_169, List.forall_mem_cons.mpr ⟨om_170, List.forall_mem_cons.mpr ⟨om_171, List.forall_mem_cons.mpr ⟨om_172, List.forall_mem_cons.mpr ⟨om_173, List.forall_mem_cons.mpr ⟨om_174, List.forall_mem_cons.mpr ⟨om_175, List.forall_mem_cons.mpr ⟨om_176, List.forall_mem_cons.mpr ⟨om_177, List.forall_mem_cons.mpr ⟨om_178, List.forall_mem_cons.mpr ⟨om_179, fun _ h => absurd h List.not_mem_nil⟩⟩⟩⟩⟩⟩⟩⟩⟩⟩⟩⟩⟩⟩⟩⟩⟩⟩⟩⟩
theorem omg_9 : ∀ m ∈ [180, 181, 182, 183, 184, 185, 186, 187, 188, 189, 190, 191, 192, 193, 194, 195, 196, 197, 198, 199], okM m = true := List.forall_mem_cons.mpr ⟨om_180, List.forall_mem_cons.mpr ⟨om_181, List.forall_mem_cons.mpr ⟨om_182, List.forall_mem_cons.mpr ⟨om_183, List.forall_mem_cons.mpr ⟨om_184, List.forall_mem_cons.mpr ⟨om_185, List.forall_mem_cons.mpr ⟨om_186, List.forall_mem_cons.mpr ⟨om_187, List.forall_mem_cons.mpr ⟨om_188, List.forall_mem_cons.mpr ⟨om_189, List.forall_mem_cons.mpr ⟨om_190, List.forall_mem_cons.mpr ⟨om_191, List.forall_mem_cons.mpr ⟨om_192, List.forall_mem_cons.mpr ⟨om_193, List.forall_mem_cons.mpr ⟨om_194, List.forall_mem_cons.mpr ⟨om_195, List.forall_mem_cons.mpr ⟨om_196, List.forall_mem_cons.mpr ⟨om_197, List.forall_mem_cons.mpr ⟨om_198, List.forall_mem_cons.mpr ⟨om_199, fun _ h => absurd h List.not_mem_nil⟩⟩⟩⟩⟩⟩⟩⟩⟩⟩⟩⟩⟩⟩⟩⟩⟩⟩⟩⟩
theorem omg_10 : ∀ m ∈ [200, 201, 202, 203, 204, 205, 206, 207, 208, 209, 210, 211, 212, 213, 214, 215, 216, 217, 218, 219], okM m = true := List.forall_mem_cons.mpr ⟨om_200, List.forall_mem_cons.mpr ⟨om_201, List.forall_mem_cons.mpr ⟨om_202, List.forall_mem_cons.mpr ⟨om_203, List.forall_mem_cons.mpr ⟨om_204, List.forall_mem_cons.mpr ⟨om_205, List.forall_mem_cons.mpr ⟨om_206, List.forall_mem_cons.mpr ⟨om_207, List.forall_mem_cons.mpr ⟨om_208, List.forall_mem_cons.mpr ⟨om_209, List.forall_mem_cons.mpr ⟨om_210, List.forall_mem_cons.mpr ⟨om_211, List.forall_mem_cons.mpr ⟨om_212, List.forall_mem_cons.mpr ⟨om_213, List.forall_mem_cons.mpr ⟨om_214, List.forall_mem_cons.mpr ⟨om_215, List.forall_mem_cons.mpr ⟨om_216, List.forall_mem_cons.mpr ⟨om_217, List.forall_mem_cons.mpr ⟨om_218, List.forall_mem_cons.mpr ⟨om_219, fun _ h => absurd h List.not_mem_nil⟩⟩⟩⟩⟩⟩⟩⟩⟩⟩⟩⟩⟩⟩⟩⟩⟩⟩⟩⟩
theorem omg_11 : ∀ m ∈ [220, 221, 222, 223, 224, 225, 226, 227, 228, 229, 230, 231, 232, 233, 234, 235, 236, 237, 238, 239], okM m = true := List.forall_mem_cons.mpr ⟨om_220, List.forall_mem_cons.mpr ⟨om_221, List.forall_mem_cons.mpr ⟨om_222, List.forall_mem_cons.mpr ⟨om_223, List.forall_mem_cons.mpr ⟨om_224, List.forall_mem_cons.mpr ⟨om_225, List.forall_mem_cons.mpr ⟨om_226, List.forall_mem_cons.mpr ⟨om_227, List.forall_mem_cons.mpr ⟨om_228, List.forall_mem_cons.mpr ⟨om_229, List.forall_mem_cons.mpr ⟨om_230, List.forall_mem_cons.mpr ⟨om_231, List.forall_mem_cons.mpr ⟨om_232, List.forall_mem_cons.mpr ⟨om_233, List.forall_mem_cons.mpr ⟨om_234, List.forall_mem_cons.mpr ⟨om_235, List.forall_mem_cons.mpr ⟨om_236, List.forall_mem_cons.mpr ⟨om_237, List.forall_mem_cons.mpr ⟨om_238, List.forall_mem_cons.mpr ⟨om_239, fun _ h => absurd h List.not_mem_nil⟩⟩⟩⟩⟩⟩⟩⟩⟩⟩⟩⟩⟩⟩⟩⟩⟩⟩⟩⟩
theorem omg_12 : ∀ m ∈ [240, 241, 242, 243, 244, 245, 246, 247, 248, 249, 250, 251, 252, 253, 254, 255, 256, 257, 258, 259], okM m = true := List.forall_mem_cons.mpr ⟨om_240, List.forall_mem_cons.mpr ⟨om_241, List.forall_mem_cons.mpr ⟨om_242, List.forall_mem_cons.mpr ⟨om_243, List.forall_mem_cons.mpr ⟨om_244, List.forall_mem_cons.mpr ⟨om_245, List.forall_mem_cons.mpr ⟨om_246, List.forall_mem_cons.mpr ⟨om_247, List.forall_mem_cons.mpr ⟨om_248, List.forall_mem_cons.mpr ⟨om_249, List.forall_mem_cons.mpr ⟨om_250, List.forall_mem_cons.mpr ⟨om_251, List.forall_mem_cons.mpr ⟨om_252, List.forall_mem_cons.mpr ⟨om_253, List.forall_mem_cons.mpr ⟨om_254, List.forall_mem_cons.mpr ⟨om_255, List.forall_mem_cons.mpr ⟨om_256, List.forall_mem_cons.mpr ⟨om_257, List.forall_mem_cons.mpr ⟨om_258, List.forall_mem_cons.mpr ⟨om_259, fun _ h => absurd h List.not_mem_nil⟩⟩⟩⟩⟩⟩⟩⟩⟩⟩⟩⟩⟩⟩⟩⟩⟩⟩⟩⟩
theorem omg_13 : ∀ m ∈ [260, 261, 262, 263, 264, 265, 266, 267, 268, 269, 270, 271, 272, 273, 274, 275, 276, 277, 278, 279], okM m = true := List.forall_mem_cons.mpr ⟨om_260, List.forall_mem_cons.mpr ⟨om_261, List.forall_mem_cons.mpr ⟨om_262, List.forall_mem_cons.mpr ⟨om_263, List.forall_mem_cons.mpr ⟨om_264, List.forall_mem_cons.mpr ⟨om_265, List.forall_mem_cons.mpr ⟨om_266, List.forall_mem_cons.mpr ⟨om_267, List.forall_mem_cons.mpr ⟨om_268, List.forall_mem_cons.mpr ⟨om_269, List.forall_mem_cons.mpr ⟨om_270, List.forall_mem_cons.mpr ⟨om_271, List.forall_mem_cons.mpr ⟨om_272, List.forall_mem_cons.mpr ⟨om_273, List.forall_mem_cons.mpr ⟨om_274, List.forall_mem_cons.mpr ⟨om_275, List.forall_mem_cons.mpr ⟨om_276, List.forall_mem_cons.mpr ⟨om_277, List.forall_mem_cons.mpr ⟨om_278, List.forall_mem_cons.mpr ⟨om_279, fun _ h => absurd h List.not_mem_nil⟩⟩⟩⟩⟩⟩⟩⟩⟩⟩⟩⟩⟩⟩⟩⟩⟩⟩⟩⟩
theorem omg_14 : ∀ m ∈ [280, 281, 282, 283, 284, 285, 286, 287, 288, 289, 290, 291, 292, 293, 294, 295, 296, 297, 298, 299], okM m = true := List.forall_mem_cons.mpr ⟨om_280, List.forall_mem_cons.mpr ⟨om_281, List.forall_mem_cons.mpr ⟨om_282, List.forall_mem_cons.mpr ⟨om_283, List.forall_mem_cons.mpr ⟨om_284, List.forall_mem_cons.mpr ⟨om_285, List.forall_mem_cons.mpr ⟨om_286, List.forall_mem_cons.mpr ⟨om_287, List.forall_mem_cons.mpr ⟨om_288, List.forall_mem_cons.mpr ⟨om_289, List.forall_mem_cons.mpr ⟨om_290, List.forall_mem_cons.mpr ⟨om_291, List.forall_mem_cons.mpr ⟨om_292, List.forall_mem_cons.mpr ⟨om_293, List.forall_mem_cons.mpr ⟨om_294, List.forall_mem_cons.mpr ⟨om_295, List.forall_mem_cons.mpr ⟨om_296, List.forall_mem_cons.mpr ⟨om_297, List.forall_mem_cons.mpr ⟨om_298, List.forall_mem_cons.mpr ⟨om_299, fun _ h => absurd h List.not_mem_nil⟩⟩⟩⟩⟩⟩⟩⟩⟩⟩⟩⟩⟩⟩⟩⟩⟩⟩⟩⟩
theorem omg_15 : ∀ m ∈ [300, 301, 302, 303, 304, 305, 306, 307, 308, 309, 310, 311, 312, 313, 314, 315, 316, 317, 318, 319], okM m = true := List.forall_mem_cons.mpr ⟨om_300, List.forall_mem_cons.mpr ⟨om_301, List.forall_mem_cons.mpr ⟨om_302, List.forall_mem_cons.mpr ⟨om_303, List.forall_mem_cons.mpr ⟨om_304, List.forall_mem_cons.mpr ⟨om_305, List.forall_mem_cons.mpr ⟨om_306, List.forall_mem_cons.mpr ⟨om_307, List.forall_mem_cons.mpr ⟨om_308, List.forall_mem_cons.mpr ⟨om_309, List.forall_mem_cons.mpr ⟨om_310, List.forall_mem_cons.mpr ⟨om_311, List.forall_mem_cons.mpr ⟨om_312, List.forall_mem_cons.mpr ⟨om_313, List.forall_mem_cons.mpr ⟨om_314, List.forall_mem_cons.mpr ⟨om_315, List.forall_mem_cons.mpr ⟨om_316, List.forall_mem_cons.mpr ⟨om_317, List.forall_mem_cons.mpr ⟨om_318, List.forall_mem_cons.mpr ⟨om_319, fun _ h => absurd h List.not_mem_nil⟩⟩⟩⟩⟩⟩⟩⟩⟩⟩⟩⟩⟩⟩⟩⟩⟩⟩⟩⟩
theorem omg_16 : ∀ m ∈ [320, 321, 322, 323, 324, 325, 326, 327, 328, 329, 330, 331, 332, 333, 334, 335, 336, 337], okM m = true := List.forall_mem_cons.mpr ⟨om_320, List.forall_mem_cons.mpr ⟨om_321, List.forall_mem_cons.mpr ⟨om_322, List.forall_mem_cons.mpr ⟨om_323, List.forall_mem_cons.mpr ⟨om_324, List.forall_mem_cons.mpr ⟨om_325, List.forall_mem_cons.mpr ⟨om_326, List.forall_mem_cons.mpr ⟨om_327, List.forall_mem_cons.mpr ⟨om_328, List.forall_mem_cons.mpr ⟨om_329, List.forall_mem_cons.mpr ⟨om_330, List.forall_mem_cons.mpr ⟨om_331, List.forall_mem_cons.mpr ⟨om_332, List.forall_mem_cons.mpr ⟨om_333, List.forall_mem_cons.mpr ⟨om_334, List.forall_mem_cons.mpr ⟨om_335, List.forall_mem_cons.mpr ⟨om_336, List.forall_mem_cons.mpr ⟨om_337, fun _ h => absurd h List.not_mem_nil⟩⟩⟩⟩⟩⟩⟩⟩⟩⟩⟩⟩⟩⟩⟩⟩⟩⟩
noncomputable def mgs0 : List (List Nat) := [[0, 1, 2, 3, 4, 5, 6, 7, 8, 9, 10, 11, 12, 13, 14, 15, 16, 17, 18, 19], [20, 21, 22, 23, 24, 25, 26, 27, 28, 29, 30, 31, 32, 33, 34, 35, 36, 37, 38, 39], [40, 41, 42, 43, 44, 45, 46, 47, 48, 49, 50, 51, 52, 53, 54, 55, 56, 57, 58, 59], [60, 61, 62, 63, 64, 65, 66, 67, 68, 69, 70, 71, 72, 73, 74, 75, 76, 77, 78, 79], [80, 81, 82, 83, 84, 85, 86, 87, 88, 89, 90, 91, 92, 93, 94, 95, 96, 97, 98, 99], [100, 101, 102, 103, 104, 105, 106, 107, 108, 109, 110, 111, 112, 113, 114, 115, 116, 117, 118, 119], [120, 121, 122, 123, 124, 125, 126, 127, 128, 129, 130, 131, 132, 133, 134, 135, 136, 137, 138, 139], [140, 141, 142, 143, 144, 145, 146, 147, 148, 149, 150, 151, 152, 153, 154, 155, 156, 157, 158, 159], [160, 161, 162, 163, 164, 165, 166, 167, 168, 169, 170, 171, 172, 173, 174, 175, 176, 177, 178, 179], [180, 181, 182, 183, 184, 185, 186, 187, 188, 189, 190, 191, 192, 193, 194, 195, 196, 197, 198, 199], [200, 201, 202, 203, 204, 205, 206, 207, 208, 209, 210, 211, 212, 213, 214, 215, 216, 217, 218, 219], [220, 221, 222, 223, 224, 225, 226, 227, 228, 229, 230, 231, 232, 233, 234, 235, 236, 237, 238, 239], [240, 241, 242, 243, 244, 245, 246, 247, 248, 249, 250, 251, 252, 253, 254, 255, 256, 257, 258, 259], [260, 261, 262, 263, 264, 265, 266, 267, 268, 269, 270, 271, 272, 273, 274, 275, 276, 277, 278, 279], [280, 281, 282, 283, 284, 285, 286, 287, 288, 289, 290, 291, 292, 293, 294, 295, 296, 297, 298, 299], [300, 301, 302, 303, 304, 305, 306, 307, 308, 309, 310, 311, 312, 313, 314, 315, 316, 317, 318, 319], [320, 321, 322, 323, 324, 325, 326, 327, 328, 329, 330, 331, 332, 333, 334, 335, 336, 337]]
theorem om_all {m : Nat} (h2 : m < 338) : okM m = true := by
  have key : ∀ g ∈ mgs0, ∀ m ∈ g, okM m = true := List.forall_mem_cons.mpr ⟨omg_0, List.forall_mem_cons.mpr ⟨omg_1, List.forall_mem_cons.mpr ⟨omg_2, List.forall_mem_cons.mpr ⟨omg_3, List.forall_mem_cons.mpr ⟨omg_4, List.forall_mem_cons.mpr ⟨omg_5, List.forall_mem_cons.mpr ⟨omg_6, List.forall_mem_cons.mpr ⟨omg_7, List.forall_mem_cons.mpr ⟨omg_8, List.forall_mem_cons.mpr ⟨omg_9, List.forall_mem_cons.mpr ⟨omg_10, List.forall_mem_cons.mpr ⟨omg_11, List.forall_mem_cons.mpr ⟨omg_12, List.forall_mem_cons.mpr ⟨omg_13, List.forall_mem_cons.mpr ⟨omg_14, List.forall_mem_cons.mpr ⟨omg_15, List.forall_mem_cons.mpr ⟨omg_16, fun _ h => absurd h List.not_mem_nil⟩⟩⟩⟩⟩⟩⟩⟩⟩⟩⟩⟩⟩⟩⟩⟩⟩
  have hm : m ∈ mgs0.flatten := by
    have e : mgs0.flatten = List.range 338 := by decide +kernel
    rw [e, List.mem_range]
    omega
  obtain ⟨g, hg, hmg⟩ := List.mem_flatten.mp hm
  exact key g hg m hmg
end
