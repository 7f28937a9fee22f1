/-! all methods, one by one -/
set_option maxRecDepth 100000 in
theorem om_1 : okM 1 = true := by decide +kernel
set_option maxRecDepth 100000 in
theorem om_2 : okM 2 = true := by decide +kernel
set_option maxRecDepth 100000 in
theorem om_3 : okM 3 = true := by decide +kernel
set_option maxRecDepth 100000 in
theorem om_4 : okM 4 = true := by decide +kernel
set_option maxRecDepth 100000 in
theorem om_5 : okM 5 = true := by decide +kernel
set_option maxRecDepth 100000 in
theorem om_6 : okM 6 = true := by decide +kernel
set_option maxRecDepth 100000 in
theorem om_7 : okM 7 = true := by decide +kernel
set_option maxRecDepth 100000 in
theorem om_8 : okM 8 = true := by decide +kernel
set_option maxRecDepth 100000 in
theorem om_9 : okM 9 = true := by decide +kernel
set_option maxRecDepth 100000 in
theorem om_10 : okM 10 = true := by decide +kernel
set_option maxRecDepth 100000 in
theorem om_11 : okM 11 = true := by decide +kernel
set_option maxRecDepth 100000 in
theorem om_12 : okM 12 = true := by decide +kernel
set_option maxRecDepth 100000 in
theorem om_13 : okM 13 = true := by decide +kernel
set_option maxRecDepth 100000 in
theorem om_14 : okM 14 = true := by decide +kernel
set_option maxRecDepth 100000 in
theorem om_15 : okM 15 = true := by decide +kernel
set_option maxRecDepth 100000 in
theorem om_16 : okM 16 = true := by decide +kernel
set_option maxRecDepth 100000 in
theorem om_17 : okM 17 = true := by decide +kernel
set_option maxRecDepth 100000 in
theorem om_18 : okM 18 = true := by decide +kernel
set_option maxRecDepth 100000 in
theorem om_19 : okM 19 = true := by decide +kernel
set_option maxRecDepth 100000 in
theorem om_20 : okM 20 = true := by decide +kernel
set_option maxRecDepth 100000 in
theorem om_21 : okM 21 = true := by decide +kernel
set_option maxRecDepth 100000 in
theorem om_22 : okM 22 = true := by decide +kernel
set_option maxRecDepth 100000 in
theorem om_23 : okM 23 = true := by decide +kernel
set_option maxRecDepth 100000 in
theorem om_24 : okM 24 = true := by decide +kernel
set_option maxRecDepth 100000 in
theorem om_25 : okM 25 = true := by decide +kernel
set_option maxRecDepth 100000 in
theorem om_26 : okM 26 = true := by decide +kernel
set_option maxRecDepth 100000 in
theorem om_27 : okM 27 = true := by decide +kernel
set_option maxRecDepth 100000 in
theorem om_28 : okM 28 = true := by decide +kernel
set_option maxRecDepth 100000 in
theorem om_29 : okM 29 = true := by decide +kernel
set_option maxRecDepth 100000 in
theorem om_30 : okM 30 = true := by decide +kernel
set_option maxRecDepth 100000 in
theorem om_31 : okM 31 = true := by decide +kernel
set_option maxRecDepth 100000 in
theorem om_32 : okM 32 = true := by decide +kernel
set_option maxRecDepth 100000 in
theorem om_33 : okM 33 = true := by decide +kernel
set_option maxRecDepth 100000 in
theorem om_34 : okM 34 = true := by decide +kernel
set_option maxRecDepth 100000 in
theorem om_35 : okM 35 = true := by decide +kernel
set_option maxRecDepth 100000 in
theorem om_36 : okM 36 = true := by decide +kernel
set_option maxRecDepth 100000 in
theorem om_37 : okM 37 = true := by decide +kernel
set_option maxRecDepth 100000 in
theorem om_38 : okM 38 = true := by decide +kernel
set_option maxRecDepth 100000 in
theorem om_39 : okM 39 = true := by decide +kernel
set_option maxRecDepth 100000 in
theorem om_40 : okM 40 = true := by decide +kernel
set_option maxRecDepth 100000 in
theorem om_41 : okM 41 = true := by decide +kernel
set_option maxRecDepth 100000 in
theorem om_42 : okM 42 = true := by decide +kernel
set_option maxRecDepth 100000 in
theorem om_43 : okM 43 = true := by decide +kernel
set_option maxRecDepth 100000 in
theorem om_44 : okM 44 = true := by decide +kernel
set_option maxRecDepth 100000 in
theorem om_45 : okM 45 = true := by decide +kernel
set_option maxRecDepth 100000 in
theorem om_46 : okM 46 = true := by decide +kernel
set_option maxRecDepth 100000 in
theorem om_47 : okM 47 = true := by decide +kernel
set_option maxRecDepth 100000 in
theorem om_48 : okM 48 = true := by decide +kernel
set_option maxRecDepth 100000 in
theorem om_49 : okM 49 = true := by decide +kernel
set_option maxRecDepth 100000 in
theorem om_50 : okM 50 = true := by decide +kernel
set_option maxRecDepth 100000 in
theorem om_51 : okM 51 = true := by decide +kernel
set_option maxRecDepth 100000 in
theorem om_52 : okM 52 = true := by decide +kernel
set_option maxRecDepth 100000 in
theorem om_53 : okM 53 = true := by decide +kernel
set_option maxRecDepth 100000 in
theorem om_54 : okM 54 = true := by decide +kernel
set_option maxRecDepth 100000 in
theorem om_55 : okM 55 = true := by decide +kernel
set_option maxRecDepth 100000 in
theorem om_56 : okM 56 = true := by decide +kernel
set_option maxRecDepth 100000 in
theorem om_57 : okM 57 = true := by decide +kernel
set_option maxRecDepth 100000 in
theorem om_58 : okM 58 = true := by decide +kernel
set_option maxRecDepth 100000 in
theorem om_59 : okM 59 = true := by decide +kernel
set_option maxRecDepth 100000 in
theorem om_60 : okM 60 = true := by decide +kernel
set_option maxRecDepth 100000 in
theorem om_61 : okM 61 = true := by decide +kernel
set_option maxRecDepth 100000 in
theorem om_62 : okM 62 = true := by decide +kernel
set_option maxRecDepth 100000 in
theorem om_63 : okM 63 = true := by decide +kernel
set_option maxRecDepth 100000 in
theorem om_64 : okM 64 = true := by decide +kernel
set_option maxRecDepth 100000 in
theorem om_65 : okM 65 = true := by decide +kernel
set_option maxRecDepth 100000 in
theorem om_66 : okM 66 = true := by decide +kernel
set_option maxRecDepth 100000 in
theorem om_67 : okM 67 = true := by decide +kernel
set_option maxRecDepth 100000 in
theorem om_68 : okM 68 = true := by decide +kernel
set_option maxRecDepth 100000 in
theorem om_69 : okM 69 = true := by decide +kernel
set_option maxRecDepth 100000 in
theorem om_70 : okM 70 = true := by decide +kernel
set_option maxRecDepth 100000 in
theorem om_71 : okM 71 = true := by decide +kernel
set_option maxRecDepth 100000 in
theorem om_72 : okM 72 = true := by decide +kernel
set_option maxRecDepth 100000 in
theorem om_73 : okM 73 = true := by decide +kernel
set_option maxRecDepth 100000 in
theorem om_74 : okM 74 = true := by decide +kernel
set_option maxRecDepth 100000 in
theorem om_75 : okM 75 = true := by decide +kernel
set_option maxRecDepth 100000 in
theorem om_76 : okM 76 = true := by decide +kernel
set_option maxRecDepth 100000 in
theorem om_77 : okM 77 = true := by decide +kernel
set_option maxRecDepth 100000 in
theorem om_78 : okM 78 = true := by decide +kernel
set_option maxRecDepth 100000 in
theorem om_79 : okM 79 = true := by decide +kernel
set_option maxRecDepth 100000 in
theorem om_80 : okM 80 = true := by decide +kernel
set_option maxRecDepth 100000 in
theorem om_81 : okM 81 = true := by decide +kernel
set_option maxRecDepth 100000 in
theorem om_82 : okM 82 = true := by decide +kernel
set_option maxRecDepth 100000 in
theorem om_83 : okM 83 = true := by decide +kernel
set_option maxRecDepth 100000 in
theorem om_84 : okM 84 = true := by decide +kernel
set_option maxRecDepth 100000 in
theorem om_85 : okM 85 = true := by decide +kernel
set_option maxRecDepth 100000 in
theorem om_86 : okM 86 = true := by decide +kernel
set_option maxRecDepth 100000 in
theorem om_87 : okM 87 = true := by decide +kernel
set_option maxRecDepth 100000 in
theorem om_88 : okM 88 = true := by decide +kernel
set_option maxRecDepth 100000 in
theorem om_89 : okM 89 = true := by decide +kernel
set_option maxRecDepth 100000 in
theorem om_90 : okM 90 = true := by decide +kernel
set_option maxRecDepth 100000 in
theorem om_91 : okM 91 = true := by decide +kernel
set_option maxRecDepth 100000 in
theorem om_92 : okM 92 = true := by decide +kernel
set_option maxRecDepth 100000 in
theorem om_93 : okM 93 = true := by decide +kernel
set_option maxRecDepth 100000 in
theorem om_94 : okM 94 = true := by decide +kernel
set_option maxRecDepth 100000 in
theorem om_95 : okM 95 = true := by decide +kernel
set_option maxRecDepth 100000 in
theorem om_96 : okM 96 = true := by decide +kernel
set_option maxRecDepth 100000 in
theorem om_97 : okM 97 = true := by decide +kernel
set_option maxRecDepth 100000 in
theorem om_98 : okM 98 = true := by decide +kernel
set_option maxRecDepth 100000 in
theorem om_99 : okM 99 = true := by decide +kernel
