theorem tbs_mem : ∀ t ∈ tbs, ∀ c ∈ t, c ∈ lw_tbl := by
  intro t ht c hc
  simp only [tbs, List.mem_cons, List.not_mem_nil, or_false] at ht
  unfold lw_tbl tables_1
  simp only [List.mem_append]
  rcases ht with rfl | rfl | rfl | rfl | rfl | rfl | rfl | rfl | rfl | rfl | rfl <;> simp only [hc, true_or, or_true]
set_option maxRecDepth 100000 in
theorem cw_1 : Cond.code (ynm 1) (byo 1) (mlOf 1) (rty 1) ∈ lw_tbl := tbs_mem _ (List.mem_of_getElem? (i := 1) rfl) _ (List.mem_of_getElem? (i := 27) rfl)
set_option maxRecDepth 100000 in
theorem cw_2 : Cond.code (ynm 2) (byo 2) (mlOf 2) (rty 2) ∈ lw_tbl := tbs_mem _ (List.mem_of_getElem? (i := 2) rfl) _ (List.mem_of_getElem? (i := 167) rfl)
set_option maxRecDepth 100000 in
theorem cw_3 : Cond.code (ynm 3) (byo 3) (mlOf 3) (rty 3) ∈ lw_tbl := tbs_mem _ (List.mem_of_getElem? (i := 2) rfl) _ (List.mem_of_getElem? (i := 170) rfl)
set_option maxRecDepth 100000 in
theorem cw_4 : Cond.code (ynm 4) (byo 4) (mlOf 4) (rty 4) ∈ lw_tbl := tbs_mem _ (List.mem_of_getElem? (i := 2) rfl) _ (List.mem_of_getElem? (i := 174) rfl)
set_option maxRecDepth 100000 in
theorem cw_5 : Cond.code (ynm 5) (byo 5) (mlOf 5) (rty 5) ∈ lw_tbl := tbs_mem _ (List.mem_of_getElem? (i := 2) rfl) _ (List.mem_of_getElem? (i := 190) rfl)
set_option maxRecDepth 100000 in
theorem cw_6 : Cond.code (ynm 6) (byo 6) (mlOf 6) (rty 6) ∈ lw_tbl := tbs_mem _ (List.mem_of_getElem? (i := 2) rfl) _ (List.mem_of_getElem? (i := 199) rfl)
set_option maxRecDepth 100000 in
theorem cw_7 : Cond.code (ynm 7) (byo 7) (mlOf 7) (rty 7) ∈ lw_tbl := tbs_mem _ (List.mem_of_getElem? (i := 2) rfl) _ (List.mem_of_getElem? (i := 207) rfl)
set_option maxRecDepth 100000 in
theorem cw_8 : Cond.code (ynm 8) (byo 8) (mlOf 8) (rty 8) ∈ lw_tbl := tbs_mem _ (List.mem_of_getElem? (i := 2) rfl) _ (List.mem_of_getElem? (i := 211) rfl)
set_option maxRecDepth 100000 in
theorem cw_9 : Cond.code (ynm 9) (byo 9) (mlOf 9) (rty 9) ∈ lw_tbl := tbs_mem _ (List.mem_of_getElem? (i := 2) rfl) _ (List.mem_of_getElem? (i := 215) rfl)
set_option maxRecDepth 100000 in
theorem cw_10 : Cond.code (ynm 10) (byo 10) (mlOf 10) (rty 10) ∈ lw_tbl := tbs_mem _ (List.mem_of_getElem? (i := 3) rfl) _ (List.mem_of_getElem? (i := 174) rfl)
set_option maxRecDepth 100000 in
theorem cw_11 : Cond.code (ynm 11) (byo 11) (mlOf 11) (rty 11) ∈ lw_tbl := tbs_mem _ (List.mem_of_getElem? (i := 3) rfl) _ (List.mem_of_getElem? (i := 221) rfl)
set_option maxRecDepth 100000 in
theorem cw_12 : Cond.code (ynm 12) (byo 12) (mlOf 12) (rty 12) ∈ lw_tbl := tbs_mem _ (List.mem_of_getElem? (i := 4) rfl) _ (List.mem_of_getElem? (i := 15) rfl)
set_option maxRecDepth 100000 in
theorem cw_13 : Cond.code (ynm 13) (byo 13) (mlOf 13) (rty 13) ∈ lw_tbl := tbs_mem _ (List.mem_of_getElem? (i := 4) rfl) _ (List.mem_of_getElem? (i := 18) rfl)
set_option maxRecDepth 100000 in
theorem cw_14 : Cond.code (ynm 14) (byo 14) (mlOf 14) (rty 14) ∈ lw_tbl := tbs_mem _ (List.mem_of_getElem? (i := 4) rfl) _ (List.mem_of_getElem? (i := 22) rfl)
set_option maxRecDepth 100000 in
theorem cw_15 : Cond.code (ynm 15) (byo 15) (mlOf 15) (rty 15) ∈ lw_tbl := tbs_mem _ (List.mem_of_getElem? (i := 4) rfl) _ (List.mem_of_getElem? (i := 101) rfl)
set_option maxRecDepth 100000 in
theorem cw_16 : Cond.code (ynm 16) (byo 16) (mlOf 16) (rty 16) ∈ lw_tbl := tbs_mem _ (List.mem_of_getElem? (i := 4) rfl) _ (List.mem_of_getElem? (i := 109) rfl)
set_option maxRecDepth 100000 in
theorem cw_17 : Cond.code (ynm 17) (byo 17) (mlOf 17) (rty 17) ∈ lw_tbl := tbs_mem _ (List.mem_of_getElem? (i := 4) rfl) _ (List.mem_of_getElem? (i := 112) rfl)
set_option maxRecDepth 100000 in
theorem cw_18 : Cond.code (ynm 18) (byo 18) (mlOf 18) (rty 18) ∈ lw_tbl := tbs_mem _ (List.mem_of_getElem? (i := 4) rfl) _ (List.mem_of_getElem? (i := 122) rfl)
set_option maxRecDepth 100000 in
theorem cw_19 : Cond.code (ynm 19) (byo 19) (mlOf 19) (rty 19) ∈ lw_tbl := tbs_mem _ (List.mem_of_getElem? (i := 4) rfl) _ (List.mem_of_getElem? (i := 126) rfl)
set_option maxRecDepth 100000 in
theorem cw_20 : Cond.code (ynm 20) (byo 20) (mlOf 20) (rty 20) ∈ lw_tbl := tbs_mem _ (List.mem_of_getElem? (i := 4) rfl) _ (List.mem_of_getElem? (i := 130) rfl)
set_option maxRecDepth 100000 in
theorem cw_21 : Cond.code (ynm 21) (byo 21) (mlOf 21) (rty 21) ∈ lw_tbl := tbs_mem _ (List.mem_of_getElem? (i := 4) rfl) _ (List.mem_of_getElem? (i := 174) rfl)
set_option maxRecDepth 100000 in
theorem cw_22 : Cond.code (ynm 22) (byo 22) (mlOf 22) (rty 22) ∈ lw_tbl := tbs_mem _ (List.mem_of_getElem? (i := 4) rfl) _ (List.mem_of_getElem? (i := 178) rfl)
set_option maxRecDepth 100000 in
theorem cw_23 : Cond.code (ynm 23) (byo 23) (mlOf 23) (rty 23) ∈ lw_tbl := tbs_mem _ (List.mem_of_getElem? (i := 4) rfl) _ (List.mem_of_getElem? (i := 187) rfl)
set_option maxRecDepth 100000 in
theorem cw_24 : Cond.code (ynm 24) (byo 24) (mlOf 24) (rty 24) ∈ lw_tbl := tbs_mem _ (List.mem_of_getElem? (i := 4) rfl) _ (List.mem_of_getElem? (i := 208) rfl)
set_option maxRecDepth 100000 in
theorem cw_25 : Cond.code (ynm 25) (byo 25) (mlOf 25) (rty 25) ∈ lw_tbl := tbs_mem _ (List.mem_of_getElem? (i := 4) rfl) _ (List.mem_of_getElem? (i := 213) rfl)
set_option maxRecDepth 100000 in
theorem cw_26 : Cond.code (ynm 26) (byo 26) (mlOf 26) (rty 26) ∈ lw_tbl := tbs_mem _ (List.mem_of_getElem? (i := 5) rfl) _ (List.mem_of_getElem? (i := 73) rfl)
set_option maxRecDepth 100000 in
theorem cw_27 : Cond.code (ynm 27) (byo 27) (mlOf 27) (rty 27) ∈ lw_tbl := tbs_mem _ (List.mem_of_getElem? (i := 5) rfl) _ (List.mem_of_getElem? (i := 78) rfl)
set_option maxRecDepth 100000 in
theorem cw_28 : Cond.code (ynm 28) (byo 28) (mlOf 28) (rty 28) ∈ lw_tbl := tbs_mem _ (List.mem_of_getElem? (i := 5) rfl) _ (List.mem_of_getElem? (i := 82) rfl)
set_option maxRecDepth 100000 in
theorem cw_29 : Cond.code (ynm 29) (byo 29) (mlOf 29) (rty 29) ∈ lw_tbl := tbs_mem _ (List.mem_of_getElem? (i := 5) rfl) _ (List.mem_of_getElem? (i := 86) rfl)
set_option maxRecDepth 100000 in
theorem cw_30 : Cond.code (ynm 30) (byo 30) (mlOf 30) (rty 30) ∈ lw_tbl := tbs_mem _ (List.mem_of_getElem? (i := 5) rfl) _ (List.mem_of_getElem? (i := 113) rfl)
set_option maxRecDepth 100000 in
theorem cw_31 : Cond.code (ynm 31) (byo 31) (mlOf 31) (rty 31) ∈ lw_tbl := tbs_mem _ (List.mem_of_getElem? (i := 5) rfl) _ (List.mem_of_getElem? (i := 118) rfl)
set_option maxRecDepth 100000 in
theorem cw_32 : Cond.code (ynm 32) (byo 32) (mlOf 32) (rty 32) ∈ lw_tbl := tbs_mem _ (List.mem_of_getElem? (i := 5) rfl) _ (List.mem_of_getElem? (i := 142) rfl)
set_option maxRecDepth 100000 in
theorem cw_33 : Cond.code (ynm 33) (byo 33) (mlOf 33) (rty 33) ∈ lw_tbl := tbs_mem _ (List.mem_of_getElem? (i := 5) rfl) _ (List.mem_of_getElem? (i := 154) rfl)
set_option maxRecDepth 100000 in
theorem cw_34 : Cond.code (ynm 34) (byo 34) (mlOf 34) (rty 34) ∈ lw_tbl := tbs_mem _ (List.mem_of_getElem? (i := 5) rfl) _ (List.mem_of_getElem? (i := 163) rfl)
set_option maxRecDepth 100000 in
theorem cw_35 : Cond.code (ynm 35) (byo 35) (mlOf 35) (rty 35) ∈ lw_tbl := tbs_mem _ (List.mem_of_getElem? (i := 5) rfl) _ (List.mem_of_getElem? (i := 179) rfl)
set_option maxRecDepth 100000 in
theorem cw_36 : Cond.code (ynm 36) (byo 36) (mlOf 36) (rty 36) ∈ lw_tbl := tbs_mem _ (List.mem_of_getElem? (i := 5) rfl) _ (List.mem_of_getElem? (i := 193) rfl)
set_option maxRecDepth 100000 in
theorem cw_37 : Cond.code (ynm 37) (byo 37) (mlOf 37) (rty 37) ∈ lw_tbl := tbs_mem _ (List.mem_of_getElem? (i := 5) rfl) _ (List.mem_of_getElem? (i := 196) rfl)
set_option maxRecDepth 100000 in
theorem cw_38 : Cond.code (ynm 38) (byo 38) (mlOf 38) (rty 38) ∈ lw_tbl := tbs_mem _ (List.mem_of_getElem? (i := 5) rfl) _ (List.mem_of_getElem? (i := 206) rfl)
set_option maxRecDepth 100000 in
theorem cw_39 : Cond.code (ynm 39) (byo 39) (mlOf 39) (rty 39) ∈ lw_tbl := tbs_mem _ (List.mem_of_getElem? (i := 5) rfl) _ (List.mem_of_getElem? (i := 215) rfl)
set_option maxRecDepth 100000 in
theorem cw_40 : Cond.code (ynm 40) (byo 40) (mlOf 40) (rty 40) ∈ lw_tbl := tbs_mem _ (List.mem_of_getElem? (i := 5) rfl) _ (List.mem_of_getElem? (i := 218) rfl)
set_option maxRecDepth 100000 in
theorem cw_41 : Cond.code (ynm 41) (byo 41) (mlOf 41) (rty 41) ∈ lw_tbl := tbs_mem _ (List.mem_of_getElem? (i := 5) rfl) _ (List.mem_of_getElem? (i := 228) rfl)
set_option maxRecDepth 100000 in
theorem cw_42 : Cond.code (ynm 42) (byo 42) (mlOf 42) (rty 42) ∈ lw_tbl := tbs_mem _ (List.mem_of_getElem? (i := 6) rfl) _ (List.mem_of_getElem? (i := 5) rfl)
set_option maxRecDepth 100000 in
theorem cw_43 : Cond.code (ynm 43) (byo 43) (mlOf 43) (rty 43) ∈ lw_tbl := tbs_mem _ (List.mem_of_getElem? (i := 6) rfl) _ (List.mem_of_getElem? (i := 13) rfl)
set_option maxRecDepth 100000 in
theorem cw_44 : Cond.code (ynm 44) (byo 44) (mlOf 44) (rty 44) ∈ lw_tbl := tbs_mem _ (List.mem_of_getElem? (i := 6) rfl) _ (List.mem_of_getElem? (i := 40) rfl)
set_option maxRecDepth 100000 in
theorem cw_45 : Cond.code (ynm 45) (byo 45) (mlOf 45) (rty 45) ∈ lw_tbl := tbs_mem _ (List.mem_of_getElem? (i := 6) rfl) _ (List.mem_of_getElem? (i := 48) rfl)
set_option maxRecDepth 100000 in
theorem cw_46 : Cond.code (ynm 46) (byo 46) (mlOf 46) (rty 46) ∈ lw_tbl := tbs_mem _ (List.mem_of_getElem? (i := 6) rfl) _ (List.mem_of_getElem? (i := 62) rfl)
set_option maxRecDepth 100000 in
theorem cw_47 : Cond.code (ynm 47) (byo 47) (mlOf 47) (rty 47) ∈ lw_tbl := tbs_mem _ (List.mem_of_getElem? (i := 6) rfl) _ (List.mem_of_getElem? (i := 72) rfl)
set_option maxRecDepth 100000 in
theorem cw_48 : Cond.code (ynm 48) (byo 48) (mlOf 48) (rty 48) ∈ lw_tbl := tbs_mem _ (List.mem_of_getElem? (i := 6) rfl) _ (List.mem_of_getElem? (i := 80) rfl)
set_option maxRecDepth 100000 in
theorem cw_49 : Cond.code (ynm 49) (byo 49) (mlOf 49) (rty 49) ∈ lw_tbl := tbs_mem _ (List.mem_of_getElem? (i := 6) rfl) _ (List.mem_of_getElem? (i := 105) rfl)
set_option maxRecDepth 100000 in
theorem cw_50 : Cond.code (ynm 50) (byo 50) (mlOf 50) (rty 50) ∈ lw_tbl := tbs_mem _ (List.mem_of_getElem? (i := 6) rfl) _ (List.mem_of_getElem? (i := 132) rfl)
set_option maxRecDepth 100000 in
theorem cw_51 : Cond.code (ynm 51) (byo 51) (mlOf 51) (rty 51) ∈ lw_tbl := tbs_mem _ (List.mem_of_getElem? (i := 6) rfl) _ (List.mem_of_getElem? (i := 144) rfl)
set_option maxRecDepth 100000 in
theorem cw_52 : Cond.code (ynm 52) (byo 52) (mlOf 52) (rty 52) ∈ lw_tbl := tbs_mem _ (List.mem_of_getElem? (i := 6) rfl) _ (List.mem_of_getElem? (i := 153) rfl)
set_option maxRecDepth 100000 in
theorem cw_53 : Cond.code (ynm 53) (byo 53) (mlOf 53) (rty 53) ∈ lw_tbl := tbs_mem _ (List.mem_of_getElem? (i := 6) rfl) _ (List.mem_of_getElem? (i := 161) rfl)
set_option maxRecDepth 100000 in
theorem cw_54 : Cond.code (ynm 54) (byo 54) (mlOf 54) (rty 54) ∈ lw_tbl := tbs_mem _ (List.mem_of_getElem? (i := 6) rfl) _ (List.mem_of_getElem? (i := 165) rfl)
set_option maxRecDepth 100000 in
theorem cw_55 : Cond.code (ynm 55) (byo 55) (mlOf 55) (rty 55) ∈ lw_tbl := tbs_mem _ (List.mem_of_getElem? (i := 6) rfl) _ (List.mem_of_getElem? (i := 187) rfl)
set_option maxRecDepth 100000 in
theorem cw_56 : Cond.code (ynm 56) (byo 56) (mlOf 56) (rty 56) ∈ lw_tbl := tbs_mem _ (List.mem_of_getElem? (i := 6) rfl) _ (List.mem_of_getElem? (i := 191) rfl)
set_option maxRecDepth 100000 in
theorem cw_57 : Cond.code (ynm 57) (byo 57) (mlOf 57) (rty 57) ∈ lw_tbl := tbs_mem _ (List.mem_of_getElem? (i := 6) rfl) _ (List.mem_of_getElem? (i := 200) rfl)
set_option maxRecDepth 100000 in
theorem cw_58 : Cond.code (ynm 58) (byo 58) (mlOf 58) (rty 58) ∈ lw_tbl := tbs_mem _ (List.mem_of_getElem? (i := 6) rfl) _ (List.mem_of_getElem? (i := 204) rfl)
set_option maxRecDepth 100000 in
theorem cw_59 : Cond.code (ynm 59) (byo 59) (mlOf 59) (rty 59) ∈ lw_tbl := tbs_mem _ (List.mem_of_getElem? (i := 6) rfl) _ (List.mem_of_getElem? (i := 208) rfl)
set_option maxRecDepth 100000 in
theorem cw_60 : Cond.code (ynm 60) (byo 60) (mlOf 60) (rty 60) ∈ lw_tbl := tbs_mem _ (List.mem_of_getElem? (i := 6) rfl) _ (List.mem_of_getElem? (i := 217) rfl)
set_option maxRecDepth 100000 in
theorem cw_61 : Cond.code (ynm 61) (byo 61) (mlOf 61) (rty 61) ∈ lw_tbl := tbs_mem _ (List.mem_of_getElem? (i := 6) rfl) _ (List.mem_of_getElem? (i := 225) rfl)
set_option maxRecDepth 100000 in
theorem cw_62 : Cond.code (ynm 62) (byo 62) (mlOf 62) (rty 62) ∈ lw_tbl := tbs_mem _ (List.mem_of_getElem? (i := 6) rfl) _ (List.mem_of_getElem? (i := 233) rfl)
set_option maxRecDepth 100000 in
theorem cw_63 : Cond.code (ynm 63) (byo 63) (mlOf 63) (rty 63) ∈ lw_tbl := tbs_mem _ (List.mem_of_getElem? (i := 6) rfl) _ (List.mem_of_getElem? (i := 239) rfl)
set_option maxRecDepth 100000 in
theorem cw_64 : Cond.code (ynm 64) (byo 64) (mlOf 64) (rty 64) ∈ lw_tbl := tbs_mem _ (List.mem_of_getElem? (i := 7) rfl) _ (List.mem_of_getElem? (i := 9) rfl)
set_option maxRecDepth 100000 in
theorem cw_65 : Cond.code (ynm 65) (byo 65) (mlOf 65) (rty 65) ∈ lw_tbl := tbs_mem _ (List.mem_of_getElem? (i := 7) rfl) _ (List.mem_of_getElem? (i := 13) rfl)
set_option maxRecDepth 100000 in
theorem cw_66 : Cond.code (ynm 66) (byo 66) (mlOf 66) (rty 66) ∈ lw_tbl := tbs_mem _ (List.mem_of_getElem? (i := 7) rfl) _ (List.mem_of_getElem? (i := 17) rfl)
set_option maxRecDepth 100000 in
theorem cw_67 : Cond.code (ynm 67) (byo 67) (mlOf 67) (rty 67) ∈ lw_tbl := tbs_mem _ (List.mem_of_getElem? (i := 7) rfl) _ (List.mem_of_getElem? (i := 21) rfl)
set_option maxRecDepth 100000 in
theorem cw_68 : Cond.code (ynm 68) (byo 68) (mlOf 68) (rty 68) ∈ lw_tbl := tbs_mem _ (List.mem_of_getElem? (i := 7) rfl) _ (List.mem_of_getElem? (i := 26) rfl)
set_option maxRecDepth 100000 in
theorem cw_69 : Cond.code (ynm 69) (byo 69) (mlOf 69) (rty 69) ∈ lw_tbl := tbs_mem _ (List.mem_of_getElem? (i := 7) rfl) _ (List.mem_of_getElem? (i := 30) rfl)
set_option maxRecDepth 100000 in
theorem cw_70 : Cond.code (ynm 70) (byo 70) (mlOf 70) (rty 70) ∈ lw_tbl := tbs_mem _ (List.mem_of_getElem? (i := 4) rfl) _ (List.mem_of_getElem? (i := 31) rfl)
set_option maxRecDepth 100000 in
theorem cw_71 : Cond.code (ynm 71) (byo 71) (mlOf 71) (rty 71) ∈ lw_tbl := tbs_mem _ (List.mem_of_getElem? (i := 4) rfl) _ (List.mem_of_getElem? (i := 147) rfl)
set_option maxRecDepth 100000 in
theorem cw_72 : Cond.code (ynm 72) (byo 72) (mlOf 72) (rty 72) ∈ lw_tbl := tbs_mem _ (List.mem_of_getElem? (i := 4) rfl) _ (List.mem_of_getElem? (i := 165) rfl)
set_option maxRecDepth 100000 in
theorem cw_73 : Cond.code (ynm 73) (byo 73) (mlOf 73) (rty 73) ∈ lw_tbl := tbs_mem _ (List.mem_of_getElem? (i := 4) rfl) _ (List.mem_of_getElem? (i := 182) rfl)
set_option maxRecDepth 100000 in
theorem cw_74 : Cond.code (ynm 74) (byo 74) (mlOf 74) (rty 74) ∈ lw_tbl := tbs_mem _ (List.mem_of_getElem? (i := 4) rfl) _ (List.mem_of_getElem? (i := 191) rfl)
set_option maxRecDepth 100000 in
theorem cw_75 : Cond.code (ynm 75) (byo 75) (mlOf 75) (rty 75) ∈ lw_tbl := tbs_mem _ (List.mem_of_getElem? (i := 4) rfl) _ (List.mem_of_getElem? (i := 138) rfl)
set_option maxRecDepth 100000 in
theorem cw_76 : Cond.code (ynm 76) (byo 76) (mlOf 76) (rty 76) ∈ lw_tbl := tbs_mem _ (List.mem_of_getElem? (i := 4) rfl) _ (List.mem_of_getElem? (i := 142) rfl)
set_option maxRecDepth 100000 in
theorem cw_77 : Cond.code (ynm 77) (byo 77) (mlOf 77) (rty 77) ∈ lw_tbl := tbs_mem _ (List.mem_of_getElem? (i := 4) rfl) _ (List.mem_of_getElem? (i := 228) rfl)
set_option maxRecDepth 100000 in
theorem cw_78 : Cond.code (ynm 78) (byo 78) (mlOf 78) (rty 78) ∈ lw_tbl := tbs_mem _ (List.mem_of_getElem? (i := 6) rfl) _ (List.mem_of_getElem? (i := 173) rfl)
set_option maxRecDepth 100000 in
theorem cw_79 : Cond.code (ynm 79) (byo 79) (mlOf 79) (rty 79) ∈ lw_tbl := tbs_mem _ (List.mem_of_getElem? (i := 1) rfl) _ (List.mem_of_getElem? (i := 199) rfl)
set_option maxRecDepth 100000 in
theorem cw_80 : Cond.code (ynm 80) (byo 80) (mlOf 80) (rty 80) ∈ lw_tbl := tbs_mem _ (List.mem_of_getElem? (i := 4) rfl) _ (List.mem_of_getElem? (i := 134) rfl)
set_option maxRecDepth 100000 in
theorem cw_81 : Cond.code (ynm 81) (byo 81) (mlOf 81) (rty 81) ∈ lw_tbl := tbs_mem _ (List.mem_of_getElem? (i := 4) rfl) _ (List.mem_of_getElem? (i := 169) rfl)
set_option maxRecDepth 100000 in
theorem cw_82 : Cond.code (ynm 82) (byo 82) (mlOf 82) (rty 82) ∈ lw_tbl := tbs_mem _ (List.mem_of_getElem? (i := 5) rfl) _ (List.mem_of_getElem? (i := 69) rfl)
set_option maxRecDepth 100000 in
theorem cw_83 : Cond.code (ynm 83) (byo 83) (mlOf 83) (rty 83) ∈ lw_tbl := tbs_mem _ (List.mem_of_getElem? (i := 5) rfl) _ (List.mem_of_getElem? (i := 100) rfl)
set_option maxRecDepth 100000 in
theorem cw_84 : Cond.code (ynm 84) (byo 84) (mlOf 84) (rty 84) ∈ lw_tbl := tbs_mem _ (List.mem_of_getElem? (i := 5) rfl) _ (List.mem_of_getElem? (i := 150) rfl)
set_option maxRecDepth 100000 in
theorem cw_85 : Cond.code (ynm 85) (byo 85) (mlOf 85) (rty 85) ∈ lw_tbl := tbs_mem _ (List.mem_of_getElem? (i := 6) rfl) _ (List.mem_of_getElem? (i := 148) rfl)
set_option maxRecDepth 100000 in
theorem cw_86 : Cond.code (ynm 86) (byo 86) (mlOf 86) (rty 86) ∈ lw_tbl := tbs_mem _ (List.mem_of_getElem? (i := 6) rfl) _ (List.mem_of_getElem? (i := 157) rfl)
set_option maxRecDepth 100000 in
theorem cw_87 : Cond.code (ynm 87) (byo 87) (mlOf 87) (rty 87) ∈ lw_tbl := tbs_mem _ (List.mem_of_getElem? (i := 6) rfl) _ (List.mem_of_getElem? (i := 169) rfl)
set_option maxRecDepth 100000 in
theorem cw_88 : Cond.code (ynm 88) (byo 88) (mlOf 88) (rty 88) ∈ lw_tbl := tbs_mem _ (List.mem_of_getElem? (i := 6) rfl) _ (List.mem_of_getElem? (i := 178) rfl)
set_option maxRecDepth 100000 in
theorem cw_89 : Cond.code (ynm 89) (byo 89) (mlOf 89) (rty 89) ∈ lw_tbl := tbs_mem _ (List.mem_of_getElem? (i := 6) rfl) _ (List.mem_of_getElem? (i := 183) rfl)
set_option maxRecDepth 100000 in
theorem cw_90 : Cond.code (ynm 90) (byo 90) (mlOf 90) (rty 90) ∈ lw_tbl := tbs_mem _ (List.mem_of_getElem? (i := 6) rfl) _ (List.mem_of_getElem? (i := 221) rfl)
set_option maxRecDepth 100000 in
theorem cw_91 : Cond.code (ynm 91) (byo 91) (mlOf 91) (rty 91) ∈ lw_tbl := tbs_mem _ (List.mem_of_getElem? (i := 6) rfl) _ (List.mem_of_getElem? (i := 229) rfl)
set_option maxRecDepth 100000 in
theorem cw_92 : Cond.code (ynm 92) (byo 92) (mlOf 92) (rty 92) ∈ lw_tbl := tbs_mem _ (List.mem_of_getElem? (i := 7) rfl) _ (List.mem_of_getElem? (i := 5) rfl)
set_option maxRecDepth 100000 in
theorem cw_93 : Cond.code (ynm 93) (byo 93) (mlOf 93) (rty 93) ∈ lw_tbl := tbs_mem _ (List.mem_of_getElem? (i := 2) rfl) _ (List.mem_of_getElem? (i := 1) rfl)
set_option maxRecDepth 100000 in
theorem cw_94 : Cond.code (ynm 94) (byo 94) (mlOf 94) (rty 94) ∈ lw_tbl := tbs_mem _ (List.mem_of_getElem? (i := 5) rfl) _ (List.mem_of_getElem? (i := 159) rfl)
set_option maxRecDepth 100000 in
theorem cw_95 : Cond.code (ynm 95) (byo 95) (mlOf 95) (rty 95) ∈ lw_tbl := tbs_mem _ (List.mem_of_getElem? (i := 5) rfl) _ (List.mem_of_getElem? (i := 167) rfl)
set_option maxRecDepth 100000 in
theorem cw_96 : Cond.code (ynm 96) (byo 96) (mlOf 96) (rty 96) ∈ lw_tbl := tbs_mem _ (List.mem_of_getElem? (i := 5) rfl) _ (List.mem_of_getElem? (i := 171) rfl)
set_option maxRecDepth 100000 in
theorem cw_97 : Cond.code (ynm 97) (byo 97) (mlOf 97) (rty 97) ∈ lw_tbl := tbs_mem _ (List.mem_of_getElem? (i := 5) rfl) _ (List.mem_of_getElem? (i := 175) rfl)
set_option maxRecDepth 100000 in
theorem cw_98 : Cond.code (ynm 98) (byo 98) (mlOf 98) (rty 98) ∈ lw_tbl := tbs_mem _ (List.mem_of_getElem? (i := 5) rfl) _ (List.mem_of_getElem? (i := 183) rfl)
set_option maxRecDepth 100000 in
theorem cw_99 : Cond.code (ynm 99) (byo 99) (mlOf 99) (rty 99) ∈ lw_tbl := tbs_mem _ (List.mem_of_getElem? (i := 5) rfl) _ (List.mem_of_getElem? (i := 188) rfl)
set_option maxRecDepth 100000 in
theorem cw_100 : Cond.code (ynm 100) (byo 100) (mlOf 100) (rty 100) ∈ lw_tbl := tbs_mem _ (List.mem_of_getElem? (i := 1) rfl) _ (List.mem_of_getElem? (i := 139) rfl)
set_option maxRecDepth 100000 in
theorem cw_101 : Cond.code (ynm 101) (byo 101) (mlOf 101) (rty 101) ∈ lw_tbl := tbs_mem _ (List.mem_of_getElem? (i := 2) rfl) _ (List.mem_of_getElem? (i := 219) rfl)
set_option maxRecDepth 100000 in
theorem cw_102 : Cond.code (ynm 102) (byo 102) (mlOf 102) (rty 102) ∈ lw_tbl := tbs_mem _ (List.mem_of_getElem? (i := 3) rfl) _ (List.mem_of_getElem? (i := 169) rfl)
set_option maxRecDepth 100000 in
theorem cw_103 : Cond.code (ynm 103) (byo 103) (mlOf 103) (rty 103) ∈ lw_tbl := tbs_mem _ (List.mem_of_getElem? (i := 3) rfl) _ (List.mem_of_getElem? (i := 178) rfl)
set_option maxRecDepth 100000 in
theorem cw_104 : Cond.code (ynm 104) (byo 104) (mlOf 104) (rty 104) ∈ lw_tbl := tbs_mem _ (List.mem_of_getElem? (i := 3) rfl) _ (List.mem_of_getElem? (i := 182) rfl)
set_option maxRecDepth 100000 in
theorem cw_105 : Cond.code (ynm 105) (byo 105) (mlOf 105) (rty 105) ∈ lw_tbl := tbs_mem _ (List.mem_of_getElem? (i := 3) rfl) _ (List.mem_of_getElem? (i := 190) rfl)
set_option maxRecDepth 100000 in
theorem cw_106 : Cond.code (ynm 106) (byo 106) (mlOf 106) (rty 106) ∈ lw_tbl := tbs_mem _ (List.mem_of_getElem? (i := 3) rfl) _ (List.mem_of_getElem? (i := 194) rfl)
set_option maxRecDepth 100000 in
theorem cw_107 : Cond.code (ynm 107) (byo 107) (mlOf 107) (rty 107) ∈ lw_tbl := tbs_mem _ (List.mem_of_getElem? (i := 3) rfl) _ (List.mem_of_getElem? (i := 211) rfl)
set_option maxRecDepth 100000 in
theorem cw_108 : Cond.code (ynm 108) (byo 108) (mlOf 108) (rty 108) ∈ lw_tbl := tbs_mem _ (List.mem_of_getElem? (i := 3) rfl) _ (List.mem_of_getElem? (i := 227) rfl)
set_option maxRecDepth 100000 in
theorem cw_109 : Cond.code (ynm 109) (byo 109) (mlOf 109) (rty 109) ∈ lw_tbl := tbs_mem _ (List.mem_of_getElem? (i := 2) rfl) _ (List.mem_of_getElem? (i := 79) rfl)
set_option maxRecDepth 100000 in
theorem cw_110 : Cond.code (ynm 110) (byo 110) (mlOf 110) (rty 110) ∈ lw_tbl := tbs_mem _ (List.mem_of_getElem? (i := 6) rfl) _ (List.mem_of_getElem? (i := 76) rfl)
set_option maxRecDepth 100000 in
theorem cw_111 : Cond.code (ynm 111) (byo 111) (mlOf 111) (rty 111) ∈ lw_tbl := tbs_mem _ (List.mem_of_getElem? (i := 6) rfl) _ (List.mem_of_getElem? (i := 84) rfl)
set_option maxRecDepth 100000 in
theorem cw_112 : Cond.code (ynm 112) (byo 112) (mlOf 112) (rty 112) ∈ lw_tbl := tbs_mem _ (List.mem_of_getElem? (i := 6) rfl) _ (List.mem_of_getElem? (i := 88) rfl)
set_option maxRecDepth 100000 in
theorem cw_113 : Cond.code (ynm 113) (byo 113) (mlOf 113) (rty 113) ∈ lw_tbl := tbs_mem _ (List.mem_of_getElem? (i := 6) rfl) _ (List.mem_of_getElem? (i := 93) rfl)
set_option maxRecDepth 100000 in
theorem cw_114 : Cond.code (ynm 114) (byo 114) (mlOf 114) (rty 114) ∈ lw_tbl := tbs_mem _ (List.mem_of_getElem? (i := 6) rfl) _ (List.mem_of_getElem? (i := 97) rfl)
set_option maxRecDepth 100000 in
theorem cw_115 : Cond.code (ynm 115) (byo 115) (mlOf 115) (rty 115) ∈ lw_tbl := tbs_mem _ (List.mem_of_getElem? (i := 6) rfl) _ (List.mem_of_getElem? (i := 101) rfl)
set_option maxRecDepth 100000 in
theorem cw_116 : Cond.code (ynm 116) (byo 116) (mlOf 116) (rty 116) ∈ lw_tbl := tbs_mem _ (List.mem_of_getElem? (i := 6) rfl) _ (List.mem_of_getElem? (i := 109) rfl)
set_option maxRecDepth 100000 in
theorem cw_117 : Cond.code (ynm 117) (byo 117) (mlOf 117) (rty 117) ∈ lw_tbl := tbs_mem _ (List.mem_of_getElem? (i := 6) rfl) _ (List.mem_of_getElem? (i := 113) rfl)
set_option maxRecDepth 100000 in
theorem cw_118 : Cond.code (ynm 118) (byo 118) (mlOf 118) (rty 118) ∈ lw_tbl := tbs_mem _ (List.mem_of_getElem? (i := 6) rfl) _ (List.mem_of_getElem? (i := 118) rfl)
set_option maxRecDepth 100000 in
theorem cw_119 : Cond.code (ynm 119) (byo 119) (mlOf 119) (rty 119) ∈ lw_tbl := tbs_mem _ (List.mem_of_getElem? (i := 6) rfl) _ (List.mem_of_getElem? (i := 124) rfl)
set_option maxRecDepth 100000 in
theorem cw_120 : Cond.code (ynm 120) (byo 120) (mlOf 120) (rty 120) ∈ lw_tbl := tbs_mem _ (List.mem_of_getElem? (i := 6) rfl) _ (List.mem_of_getElem? (i := 128) rfl)
set_option maxRecDepth 100000 in
theorem cw_121 : Cond.code (ynm 121) (byo 121) (mlOf 121) (rty 121) ∈ lw_tbl := tbs_mem _ (List.mem_of_getElem? (i := 6) rfl) _ (List.mem_of_getElem? (i := 136) rfl)
set_option maxRecDepth 100000 in
theorem cw_122 : Cond.code (ynm 122) (byo 122) (mlOf 122) (rty 122) ∈ lw_tbl := tbs_mem _ (List.mem_of_getElem? (i := 6) rfl) _ (List.mem_of_getElem? (i := 140) rfl)
set_option maxRecDepth 100000 in
theorem cw_123 : Cond.code (ynm 123) (byo 123) (mlOf 123) (rty 123) ∈ lw_tbl := tbs_mem _ (List.mem_of_getElem? (i := 1) rfl) _ (List.mem_of_getElem? (i := 35) rfl)
set_option maxRecDepth 100000 in
theorem cw_124 : Cond.code (ynm 124) (byo 124) (mlOf 124) (rty 124) ∈ lw_tbl := tbs_mem _ (List.mem_of_getElem? (i := 2) rfl) _ (List.mem_of_getElem? (i := 178) rfl)
set_option maxRecDepth 100000 in
theorem cw_125 : Cond.code (ynm 125) (byo 125) (mlOf 125) (rty 125) ∈ lw_tbl := tbs_mem _ (List.mem_of_getElem? (i := 2) rfl) _ (List.mem_of_getElem? (i := 182) rfl)
set_option maxRecDepth 100000 in
theorem cw_126 : Cond.code (ynm 126) (byo 126) (mlOf 126) (rty 126) ∈ lw_tbl := tbs_mem _ (List.mem_of_getElem? (i := 2) rfl) _ (List.mem_of_getElem? (i := 186) rfl)
set_option maxRecDepth 100000 in
theorem cw_127 : Cond.code (ynm 127) (byo 127) (mlOf 127) (rty 127) ∈ lw_tbl := tbs_mem _ (List.mem_of_getElem? (i := 2) rfl) _ (List.mem_of_getElem? (i := 195) rfl)
set_option maxRecDepth 100000 in
theorem cw_128 : Cond.code (ynm 128) (byo 128) (mlOf 128) (rty 128) ∈ lw_tbl := tbs_mem _ (List.mem_of_getElem? (i := 2) rfl) _ (List.mem_of_getElem? (i := 203) rfl)
set_option maxRecDepth 100000 in
theorem cw_129 : Cond.code (ynm 129) (byo 129) (mlOf 129) (rty 129) ∈ lw_tbl := tbs_mem _ (List.mem_of_getElem? (i := 4) rfl) _ (List.mem_of_getElem? (i := 217) rfl)
set_option maxRecDepth 100000 in
theorem cw_130 : Cond.code (ynm 130) (byo 130) (mlOf 130) (rty 130) ∈ lw_tbl := tbs_mem _ (List.mem_of_getElem? (i := 4) rfl) _ (List.mem_of_getElem? (i := 221) rfl)
set_option maxRecDepth 100000 in
theorem cw_131 : Cond.code (ynm 131) (byo 131) (mlOf 131) (rty 131) ∈ lw_tbl := tbs_mem _ (List.mem_of_getElem? (i := 5) rfl) _ (List.mem_of_getElem? (i := 91) rfl)
set_option maxRecDepth 100000 in
theorem cw_132 : Cond.code (ynm 132) (byo 132) (mlOf 132) (rty 132) ∈ lw_tbl := tbs_mem _ (List.mem_of_getElem? (i := 6) rfl) _ (List.mem_of_getElem? (i := 195) rfl)
set_option maxRecDepth 100000 in
theorem cw_133 : Cond.code (ynm 133) (byo 133) (mlOf 133) (rty 133) ∈ lw_tbl := tbs_mem _ (List.mem_of_getElem? (i := 6) rfl) _ (List.mem_of_getElem? (i := 212) rfl)
set_option maxRecDepth 100000 in
theorem cw_134 : Cond.code (ynm 134) (byo 134) (mlOf 134) (rty 134) ∈ lw_tbl := tbs_mem _ (List.mem_of_getElem? (i := 1) rfl) _ (List.mem_of_getElem? (i := 65) rfl)
set_option maxRecDepth 100000 in
theorem cw_135 : Cond.code (ynm 135) (byo 135) (mlOf 135) (rty 135) ∈ lw_tbl := tbs_mem _ (List.mem_of_getElem? (i := 2) rfl) _ (List.mem_of_getElem? (i := 223) rfl)
set_option maxRecDepth 100000 in
theorem cw_136 : Cond.code (ynm 136) (byo 136) (mlOf 136) (rty 136) ∈ lw_tbl := tbs_mem _ (List.mem_of_getElem? (i := 2) rfl) _ (List.mem_of_getElem? (i := 227) rfl)
set_option maxRecDepth 100000 in
theorem cw_137 : Cond.code (ynm 137) (byo 137) (mlOf 137) (rty 137) ∈ lw_tbl := tbs_mem _ (List.mem_of_getElem? (i := 2) rfl) _ (List.mem_of_getElem? (i := 231) rfl)
set_option maxRecDepth 100000 in
theorem cw_138 : Cond.code (ynm 138) (byo 138) (mlOf 138) (rty 138) ∈ lw_tbl := tbs_mem _ (List.mem_of_getElem? (i := 2) rfl) _ (List.mem_of_getElem? (i := 235) rfl)
set_option maxRecDepth 100000 in
theorem cw_139 : Cond.code (ynm 139) (byo 139) (mlOf 139) (rty 139) ∈ lw_tbl := tbs_mem _ (List.mem_of_getElem? (i := 3) rfl) _ (List.mem_of_getElem? (i := 0) rfl)
set_option maxRecDepth 100000 in
theorem cw_140 : Cond.code (ynm 140) (byo 140) (mlOf 140) (rty 140) ∈ lw_tbl := tbs_mem _ (List.mem_of_getElem? (i := 3) rfl) _ (List.mem_of_getElem? (i := 80) rfl)
set_option maxRecDepth 100000 in
theorem cw_141 : Cond.code (ynm 141) (byo 141) (mlOf 141) (rty 141) ∈ lw_tbl := tbs_mem _ (List.mem_of_getElem? (i := 3) rfl) _ (List.mem_of_getElem? (i := 84) rfl)
set_option maxRecDepth 100000 in
theorem cw_142 : Cond.code (ynm 142) (byo 142) (mlOf 142) (rty 142) ∈ lw_tbl := tbs_mem _ (List.mem_of_getElem? (i := 3) rfl) _ (List.mem_of_getElem? (i := 88) rfl)
set_option maxRecDepth 100000 in
theorem cw_143 : Cond.code (ynm 143) (byo 143) (mlOf 143) (rty 143) ∈ lw_tbl := tbs_mem _ (List.mem_of_getElem? (i := 3) rfl) _ (List.mem_of_getElem? (i := 92) rfl)
set_option maxRecDepth 100000 in
theorem cw_144 : Cond.code (ynm 144) (byo 144) (mlOf 144) (rty 144) ∈ lw_tbl := tbs_mem _ (List.mem_of_getElem? (i := 3) rfl) _ (List.mem_of_getElem? (i := 96) rfl)
set_option maxRecDepth 100000 in
theorem cw_145 : Cond.code (ynm 145) (byo 145) (mlOf 145) (rty 145) ∈ lw_tbl := tbs_mem _ (List.mem_of_getElem? (i := 3) rfl) _ (List.mem_of_getElem? (i := 100) rfl)
set_option maxRecDepth 100000 in
theorem cw_146 : Cond.code (ynm 146) (byo 146) (mlOf 146) (rty 146) ∈ lw_tbl := tbs_mem _ (List.mem_of_getElem? (i := 3) rfl) _ (List.mem_of_getElem? (i := 105) rfl)
set_option maxRecDepth 100000 in
theorem cw_147 : Cond.code (ynm 147) (byo 147) (mlOf 147) (rty 147) ∈ lw_tbl := tbs_mem _ (List.mem_of_getElem? (i := 3) rfl) _ (List.mem_of_getElem? (i := 109) rfl)
set_option maxRecDepth 100000 in
theorem cw_148 : Cond.code (ynm 148) (byo 148) (mlOf 148) (rty 148) ∈ lw_tbl := tbs_mem _ (List.mem_of_getElem? (i := 3) rfl) _ (List.mem_of_getElem? (i := 113) rfl)
set_option maxRecDepth 100000 in
theorem cw_149 : Cond.code (ynm 149) (byo 149) (mlOf 149) (rty 149) ∈ lw_tbl := tbs_mem _ (List.mem_of_getElem? (i := 3) rfl) _ (List.mem_of_getElem? (i := 117) rfl)
set_option maxRecDepth 100000 in
theorem cw_150 : Cond.code (ynm 150) (byo 150) (mlOf 150) (rty 150) ∈ lw_tbl := tbs_mem _ (List.mem_of_getElem? (i := 3) rfl) _ (List.mem_of_getElem? (i := 121) rfl)
set_option maxRecDepth 100000 in
theorem cw_151 : Cond.code (ynm 151) (byo 151) (mlOf 151) (rty 151) ∈ lw_tbl := tbs_mem _ (List.mem_of_getElem? (i := 3) rfl) _ (List.mem_of_getElem? (i := 125) rfl)
set_option maxRecDepth 100000 in
theorem cw_152 : Cond.code (ynm 152) (byo 152) (mlOf 152) (rty 152) ∈ lw_tbl := tbs_mem _ (List.mem_of_getElem? (i := 3) rfl) _ (List.mem_of_getElem? (i := 129) rfl)
set_option maxRecDepth 100000 in
theorem cw_153 : Cond.code (ynm 153) (byo 153) (mlOf 153) (rty 153) ∈ lw_tbl := tbs_mem _ (List.mem_of_getElem? (i := 3) rfl) _ (List.mem_of_getElem? (i := 133) rfl)
set_option maxRecDepth 100000 in
theorem cw_154 : Cond.code (ynm 154) (byo 154) (mlOf 154) (rty 154) ∈ lw_tbl := tbs_mem _ (List.mem_of_getElem? (i := 3) rfl) _ (List.mem_of_getElem? (i := 139) rfl)
set_option maxRecDepth 100000 in
theorem cw_155 : Cond.code (ynm 155) (byo 155) (mlOf 155) (rty 155) ∈ lw_tbl := tbs_mem _ (List.mem_of_getElem? (i := 5) rfl) _ (List.mem_of_getElem? (i := 96) rfl)
set_option maxRecDepth 100000 in
theorem cw_156 : Cond.code (ynm 156) (byo 156) (mlOf 156) (rty 156) ∈ lw_tbl := tbs_mem _ (List.mem_of_getElem? (i := 5) rfl) _ (List.mem_of_getElem? (i := 105) rfl)
set_option maxRecDepth 100000 in
theorem cw_157 : Cond.code (ynm 157) (byo 157) (mlOf 157) (rty 157) ∈ lw_tbl := tbs_mem _ (List.mem_of_getElem? (i := 5) rfl) _ (List.mem_of_getElem? (i := 122) rfl)
set_option maxRecDepth 100000 in
theorem cw_158 : Cond.code (ynm 158) (byo 158) (mlOf 158) (rty 158) ∈ lw_tbl := tbs_mem _ (List.mem_of_getElem? (i := 5) rfl) _ (List.mem_of_getElem? (i := 126) rfl)
set_option maxRecDepth 100000 in
theorem cw_159 : Cond.code (ynm 159) (byo 159) (mlOf 159) (rty 159) ∈ lw_tbl := tbs_mem _ (List.mem_of_getElem? (i := 5) rfl) _ (List.mem_of_getElem? (i := 134) rfl)
set_option maxRecDepth 100000 in
theorem cw_160 : Cond.code (ynm 160) (byo 160) (mlOf 160) (rty 160) ∈ lw_tbl := tbs_mem _ (List.mem_of_getElem? (i := 1) rfl) _ (List.mem_of_getElem? (i := 122) rfl)
set_option maxRecDepth 100000 in
theorem cw_161 : Cond.code (ynm 161) (byo 161) (mlOf 161) (rty 161) ∈ lw_tbl := tbs_mem _ (List.mem_of_getElem? (i := 3) rfl) _ (List.mem_of_getElem? (i := 186) rfl)
set_option maxRecDepth 100000 in
theorem cw_162 : Cond.code (ynm 162) (byo 162) (mlOf 162) (rty 162) ∈ lw_tbl := tbs_mem _ (List.mem_of_getElem? (i := 3) rfl) _ (List.mem_of_getElem? (i := 199) rfl)
set_option maxRecDepth 100000 in
theorem cw_163 : Cond.code (ynm 163) (byo 163) (mlOf 163) (rty 163) ∈ lw_tbl := tbs_mem _ (List.mem_of_getElem? (i := 3) rfl) _ (List.mem_of_getElem? (i := 203) rfl)
set_option maxRecDepth 100000 in
theorem cw_164 : Cond.code (ynm 164) (byo 164) (mlOf 164) (rty 164) ∈ lw_tbl := tbs_mem _ (List.mem_of_getElem? (i := 3) rfl) _ (List.mem_of_getElem? (i := 207) rfl)
set_option maxRecDepth 100000 in
theorem cw_165 : Cond.code (ynm 165) (byo 165) (mlOf 165) (rty 165) ∈ lw_tbl := tbs_mem _ (List.mem_of_getElem? (i := 1) rfl) _ (List.mem_of_getElem? (i := 164) rfl)
set_option maxRecDepth 100000 in
theorem cw_166 : Cond.code (ynm 166) (byo 166) (mlOf 166) (rty 166) ∈ lw_tbl := tbs_mem _ (List.mem_of_getElem? (i := 4) rfl) _ (List.mem_of_getElem? (i := 26) rfl)
set_option maxRecDepth 100000 in
theorem cw_167 : Cond.code (ynm 167) (byo 167) (mlOf 167) (rty 167) ∈ lw_tbl := tbs_mem _ (List.mem_of_getElem? (i := 4) rfl) _ (List.mem_of_getElem? (i := 96) rfl)
set_option maxRecDepth 100000 in
theorem cw_168 : Cond.code (ynm 168) (byo 168) (mlOf 168) (rty 168) ∈ lw_tbl := tbs_mem _ (List.mem_of_getElem? (i := 4) rfl) _ (List.mem_of_getElem? (i := 105) rfl)
set_option maxRecDepth 100000 in
theorem cw_169 : Cond.code (ynm 169) (byo 169) (mlOf 169) (rty 169) ∈ lw_tbl := tbs_mem _ (List.mem_of_getElem? (i := 4) rfl) _ (List.mem_of_getElem? (i := 117) rfl)
set_option maxRecDepth 100000 in
theorem cw_170 : Cond.code (ynm 170) (byo 170) (mlOf 170) (rty 170) ∈ lw_tbl := tbs_mem _ (List.mem_of_getElem? (i := 4) rfl) _ (List.mem_of_getElem? (i := 152) rfl)
set_option maxRecDepth 100000 in
theorem cw_171 : Cond.code (ynm 171) (byo 171) (mlOf 171) (rty 171) ∈ lw_tbl := tbs_mem _ (List.mem_of_getElem? (i := 4) rfl) _ (List.mem_of_getElem? (i := 156) rfl)
set_option maxRecDepth 100000 in
theorem cw_172 : Cond.code (ynm 172) (byo 172) (mlOf 172) (rty 172) ∈ lw_tbl := tbs_mem _ (List.mem_of_getElem? (i := 4) rfl) _ (List.mem_of_getElem? (i := 160) rfl)
set_option maxRecDepth 100000 in
theorem cw_173 : Cond.code (ynm 173) (byo 173) (mlOf 173) (rty 173) ∈ lw_tbl := tbs_mem _ (List.mem_of_getElem? (i := 4) rfl) _ (List.mem_of_getElem? (i := 195) rfl)
set_option maxRecDepth 100000 in
theorem cw_174 : Cond.code (ynm 174) (byo 174) (mlOf 174) (rty 174) ∈ lw_tbl := tbs_mem _ (List.mem_of_getElem? (i := 4) rfl) _ (List.mem_of_getElem? (i := 199) rfl)
set_option maxRecDepth 100000 in
theorem cw_175 : Cond.code (ynm 175) (byo 175) (mlOf 175) (rty 175) ∈ lw_tbl := tbs_mem _ (List.mem_of_getElem? (i := 4) rfl) _ (List.mem_of_getElem? (i := 203) rfl)
set_option maxRecDepth 100000 in
theorem cw_176 : Cond.code (ynm 176) (byo 176) (mlOf 176) (rty 176) ∈ lw_tbl := tbs_mem _ (List.mem_of_getElem? (i := 5) rfl) _ (List.mem_of_getElem? (i := 109) rfl)
set_option maxRecDepth 100000 in
theorem cw_177 : Cond.code (ynm 177) (byo 177) (mlOf 177) (rty 177) ∈ lw_tbl := tbs_mem _ (List.mem_of_getElem? (i := 5) rfl) _ (List.mem_of_getElem? (i := 146) rfl)
set_option maxRecDepth 100000 in
theorem cw_178 : Cond.code (ynm 178) (byo 178) (mlOf 178) (rty 178) ∈ lw_tbl := tbs_mem _ (List.mem_of_getElem? (i := 2) rfl) _ (List.mem_of_getElem? (i := 37) rfl)
set_option maxRecDepth 100000 in
theorem cw_179 : Cond.code (ynm 179) (byo 179) (mlOf 179) (rty 179) ∈ lw_tbl := tbs_mem _ (List.mem_of_getElem? (i := 5) rfl) _ (List.mem_of_getElem? (i := 200) rfl)
set_option maxRecDepth 100000 in
theorem cw_180 : Cond.code (ynm 180) (byo 180) (mlOf 180) (rty 180) ∈ lw_tbl := tbs_mem _ (List.mem_of_getElem? (i := 5) rfl) _ (List.mem_of_getElem? (i := 210) rfl)
set_option maxRecDepth 100000 in
theorem cw_181 : Cond.code (ynm 181) (byo 181) (mlOf 181) (rty 181) ∈ lw_tbl := tbs_mem _ (List.mem_of_getElem? (i := 5) rfl) _ (List.mem_of_getElem? (i := 222) rfl)
set_option maxRecDepth 100000 in
theorem cw_182 : Cond.code (ynm 182) (byo 182) (mlOf 182) (rty 182) ∈ lw_tbl := tbs_mem _ (List.mem_of_getElem? (i := 5) rfl) _ (List.mem_of_getElem? (i := 233) rfl)
set_option maxRecDepth 100000 in
theorem cw_183 : Cond.code (ynm 183) (byo 183) (mlOf 183) (rty 183) ∈ lw_tbl := tbs_mem _ (List.mem_of_getElem? (i := 6) rfl) _ (List.mem_of_getElem? (i := 9) rfl)
set_option maxRecDepth 100000 in
theorem cw_184 : Cond.code (ynm 184) (byo 184) (mlOf 184) (rty 184) ∈ lw_tbl := tbs_mem _ (List.mem_of_getElem? (i := 6) rfl) _ (List.mem_of_getElem? (i := 17) rfl)
set_option maxRecDepth 100000 in
theorem cw_185 : Cond.code (ynm 185) (byo 185) (mlOf 185) (rty 185) ∈ lw_tbl := tbs_mem _ (List.mem_of_getElem? (i := 6) rfl) _ (List.mem_of_getElem? (i := 22) rfl)
set_option maxRecDepth 100000 in
theorem cw_186 : Cond.code (ynm 186) (byo 186) (mlOf 186) (rty 186) ∈ lw_tbl := tbs_mem _ (List.mem_of_getElem? (i := 6) rfl) _ (List.mem_of_getElem? (i := 26) rfl)
set_option maxRecDepth 100000 in
theorem cw_187 : Cond.code (ynm 187) (byo 187) (mlOf 187) (rty 187) ∈ lw_tbl := tbs_mem _ (List.mem_of_getElem? (i := 6) rfl) _ (List.mem_of_getElem? (i := 30) rfl)
set_option maxRecDepth 100000 in
theorem cw_188 : Cond.code (ynm 188) (byo 188) (mlOf 188) (rty 188) ∈ lw_tbl := tbs_mem _ (List.mem_of_getElem? (i := 6) rfl) _ (List.mem_of_getElem? (i := 44) rfl)
set_option maxRecDepth 100000 in
theorem cw_189 : Cond.code (ynm 189) (byo 189) (mlOf 189) (rty 189) ∈ lw_tbl := tbs_mem _ (List.mem_of_getElem? (i := 6) rfl) _ (List.mem_of_getElem? (i := 52) rfl)
set_option maxRecDepth 100000 in
theorem cw_190 : Cond.code (ynm 190) (byo 190) (mlOf 190) (rty 190) ∈ lw_tbl := tbs_mem _ (List.mem_of_getElem? (i := 6) rfl) _ (List.mem_of_getElem? (i := 56) rfl)
set_option maxRecDepth 100000 in
theorem cw_191 : Cond.code (ynm 191) (byo 191) (mlOf 191) (rty 191) ∈ lw_tbl := tbs_mem _ (List.mem_of_getElem? (i := 6) rfl) _ (List.mem_of_getElem? (i := 66) rfl)
set_option maxRecDepth 100000 in
theorem cw_192 : Cond.code (ynm 192) (byo 192) (mlOf 192) (rty 192) ∈ lw_tbl := tbs_mem _ (List.mem_of_getElem? (i := 7) rfl) _ (List.mem_of_getElem? (i := 34) rfl)
set_option maxRecDepth 100000 in
theorem cw_193 : Cond.code (ynm 193) (byo 193) (mlOf 193) (rty 193) ∈ lw_tbl := tbs_mem _ (List.mem_of_getElem? (i := 7) rfl) _ (List.mem_of_getElem? (i := 39) rfl)
set_option maxRecDepth 100000 in
theorem cw_194 : Cond.code (ynm 194) (byo 194) (mlOf 194) (rty 194) ∈ lw_tbl := tbs_mem _ (List.mem_of_getElem? (i := 8) rfl) _ (List.mem_of_getElem? (i := 127) rfl)
set_option maxRecDepth 100000 in
theorem cw_195 : Cond.code (ynm 195) (byo 195) (mlOf 195) (rty 195) ∈ lw_tbl := tbs_mem _ (List.mem_of_getElem? (i := 8) rfl) _ (List.mem_of_getElem? (i := 131) rfl)
set_option maxRecDepth 100000 in
theorem cw_196 : Cond.code (ynm 196) (byo 196) (mlOf 196) (rty 196) ∈ lw_tbl := tbs_mem _ (List.mem_of_getElem? (i := 8) rfl) _ (List.mem_of_getElem? (i := 135) rfl)
set_option maxRecDepth 100000 in
theorem cw_197 : Cond.code (ynm 197) (byo 197) (mlOf 197) (rty 197) ∈ lw_tbl := tbs_mem _ (List.mem_of_getElem? (i := 8) rfl) _ (List.mem_of_getElem? (i := 139) rfl)
set_option maxRecDepth 100000 in
theorem cw_198 : Cond.code (ynm 198) (byo 198) (mlOf 198) (rty 198) ∈ lw_tbl := tbs_mem _ (List.mem_of_getElem? (i := 8) rfl) _ (List.mem_of_getElem? (i := 143) rfl)
set_option maxRecDepth 100000 in
theorem cw_199 : Cond.code (ynm 199) (byo 199) (mlOf 199) (rty 199) ∈ lw_tbl := tbs_mem _ (List.mem_of_getElem? (i := 8) rfl) _ (List.mem_of_getElem? (i := 147) rfl)
set_option maxRecDepth 100000 in
theorem cw_200 : Cond.code (ynm 200) (byo 200) (mlOf 200) (rty 200) ∈ lw_tbl := tbs_mem _ (List.mem_of_getElem? (i := 8) rfl) _ (List.mem_of_getElem? (i := 151) rfl)
set_option maxRecDepth 100000 in
theorem cw_201 : Cond.code (ynm 201) (byo 201) (mlOf 201) (rty 201) ∈ lw_tbl := tbs_mem _ (List.mem_of_getElem? (i := 8) rfl) _ (List.mem_of_getElem? (i := 156) rfl)
set_option maxRecDepth 100000 in
theorem cw_202 : Cond.code (ynm 202) (byo 202) (mlOf 202) (rty 202) ∈ lw_tbl := tbs_mem _ (List.mem_of_getElem? (i := 8) rfl) _ (List.mem_of_getElem? (i := 160) rfl)
set_option maxRecDepth 100000 in
theorem cw_203 : Cond.code (ynm 203) (byo 203) (mlOf 203) (rty 203) ∈ lw_tbl := tbs_mem _ (List.mem_of_getElem? (i := 8) rfl) _ (List.mem_of_getElem? (i := 164) rfl)
set_option maxRecDepth 100000 in
theorem cw_204 : Cond.code (ynm 204) (byo 204) (mlOf 204) (rty 204) ∈ lw_tbl := tbs_mem _ (List.mem_of_getElem? (i := 8) rfl) _ (List.mem_of_getElem? (i := 169) rfl)
set_option maxRecDepth 100000 in
theorem cw_205 : Cond.code (ynm 205) (byo 205) (mlOf 205) (rty 205) ∈ lw_tbl := tbs_mem _ (List.mem_of_getElem? (i := 8) rfl) _ (List.mem_of_getElem? (i := 173) rfl)
set_option maxRecDepth 100000 in
theorem cw_206 : Cond.code (ynm 206) (byo 206) (mlOf 206) (rty 206) ∈ lw_tbl := tbs_mem _ (List.mem_of_getElem? (i := 8) rfl) _ (List.mem_of_getElem? (i := 177) rfl)
set_option maxRecDepth 100000 in
theorem cw_207 : Cond.code (ynm 207) (byo 207) (mlOf 207) (rty 207) ∈ lw_tbl := tbs_mem _ (List.mem_of_getElem? (i := 8) rfl) _ (List.mem_of_getElem? (i := 181) rfl)
set_option maxRecDepth 100000 in
theorem cw_208 : Cond.code (ynm 208) (byo 208) (mlOf 208) (rty 208) ∈ lw_tbl := tbs_mem _ (List.mem_of_getElem? (i := 8) rfl) _ (List.mem_of_getElem? (i := 184) rfl)
set_option maxRecDepth 100000 in
theorem cw_209 : Cond.code (ynm 209) (byo 209) (mlOf 209) (rty 209) ∈ lw_tbl := tbs_mem _ (List.mem_of_getElem? (i := 8) rfl) _ (List.mem_of_getElem? (i := 187) rfl)
set_option maxRecDepth 100000 in
theorem cw_210 : Cond.code (ynm 210) (byo 210) (mlOf 210) (rty 210) ∈ lw_tbl := tbs_mem _ (List.mem_of_getElem? (i := 8) rfl) _ (List.mem_of_getElem? (i := 191) rfl)
set_option maxRecDepth 100000 in
theorem cw_211 : Cond.code (ynm 211) (byo 211) (mlOf 211) (rty 211) ∈ lw_tbl := tbs_mem _ (List.mem_of_getElem? (i := 8) rfl) _ (List.mem_of_getElem? (i := 195) rfl)
set_option maxRecDepth 100000 in
theorem cw_212 : Cond.code (ynm 212) (byo 212) (mlOf 212) (rty 212) ∈ lw_tbl := tbs_mem _ (List.mem_of_getElem? (i := 8) rfl) _ (List.mem_of_getElem? (i := 199) rfl)
set_option maxRecDepth 100000 in
theorem cw_213 : Cond.code (ynm 213) (byo 213) (mlOf 213) (rty 213) ∈ lw_tbl := tbs_mem _ (List.mem_of_getElem? (i := 8) rfl) _ (List.mem_of_getElem? (i := 203) rfl)
set_option maxRecDepth 100000 in
theorem cw_214 : Cond.code (ynm 214) (byo 214) (mlOf 214) (rty 214) ∈ lw_tbl := tbs_mem _ (List.mem_of_getElem? (i := 8) rfl) _ (List.mem_of_getElem? (i := 207) rfl)
set_option maxRecDepth 100000 in
theorem cw_215 : Cond.code (ynm 215) (byo 215) (mlOf 215) (rty 215) ∈ lw_tbl := tbs_mem _ (List.mem_of_getElem? (i := 8) rfl) _ (List.mem_of_getElem? (i := 211) rfl)
set_option maxRecDepth 100000 in
theorem cw_216 : Cond.code (ynm 216) (byo 216) (mlOf 216) (rty 216) ∈ lw_tbl := tbs_mem _ (List.mem_of_getElem? (i := 8) rfl) _ (List.mem_of_getElem? (i := 217) rfl)
set_option maxRecDepth 100000 in
theorem cw_217 : Cond.code (ynm 217) (byo 217) (mlOf 217) (rty 217) ∈ lw_tbl := tbs_mem _ (List.mem_of_getElem? (i := 8) rfl) _ (List.mem_of_getElem? (i := 221) rfl)
set_option maxRecDepth 100000 in
theorem cw_218 : Cond.code (ynm 218) (byo 218) (mlOf 218) (rty 218) ∈ lw_tbl := tbs_mem _ (List.mem_of_getElem? (i := 8) rfl) _ (List.mem_of_getElem? (i := 225) rfl)
set_option maxRecDepth 100000 in
theorem cw_219 : Cond.code (ynm 219) (byo 219) (mlOf 219) (rty 219) ∈ lw_tbl := tbs_mem _ (List.mem_of_getElem? (i := 8) rfl) _ (List.mem_of_getElem? (i := 229) rfl)
set_option maxRecDepth 100000 in
theorem cw_220 : Cond.code (ynm 220) (byo 220) (mlOf 220) (rty 220) ∈ lw_tbl := tbs_mem _ (List.mem_of_getElem? (i := 8) rfl) _ (List.mem_of_getElem? (i := 233) rfl)
set_option maxRecDepth 100000 in
theorem cw_221 : Cond.code (ynm 221) (byo 221) (mlOf 221) (rty 221) ∈ lw_tbl := tbs_mem _ (List.mem_of_getElem? (i := 8) rfl) _ (List.mem_of_getElem? (i := 236) rfl)
set_option maxRecDepth 100000 in
theorem cw_222 : Cond.code (ynm 222) (byo 222) (mlOf 222) (rty 222) ∈ lw_tbl := tbs_mem _ (List.mem_of_getElem? (i := 8) rfl) _ (List.mem_of_getElem? (i := 239) rfl)
set_option maxRecDepth 100000 in
theorem cw_223 : Cond.code (ynm 223) (byo 223) (mlOf 223) (rty 223) ∈ lw_tbl := tbs_mem _ (List.mem_of_getElem? (i := 9) rfl) _ (List.mem_of_getElem? (i := 3) rfl)
set_option maxRecDepth 100000 in
theorem cw_224 : Cond.code (ynm 224) (byo 224) (mlOf 224) (rty 224) ∈ lw_tbl := tbs_mem _ (List.mem_of_getElem? (i := 9) rfl) _ (List.mem_of_getElem? (i := 7) rfl)
set_option maxRecDepth 100000 in
theorem cw_225 : Cond.code (ynm 225) (byo 225) (mlOf 225) (rty 225) ∈ lw_tbl := tbs_mem _ (List.mem_of_getElem? (i := 9) rfl) _ (List.mem_of_getElem? (i := 11) rfl)
set_option maxRecDepth 100000 in
theorem cw_226 : Cond.code (ynm 226) (byo 226) (mlOf 226) (rty 226) ∈ lw_tbl := tbs_mem _ (List.mem_of_getElem? (i := 9) rfl) _ (List.mem_of_getElem? (i := 14) rfl)
set_option maxRecDepth 100000 in
theorem cw_227 : Cond.code (ynm 227) (byo 227) (mlOf 227) (rty 227) ∈ lw_tbl := tbs_mem _ (List.mem_of_getElem? (i := 9) rfl) _ (List.mem_of_getElem? (i := 18) rfl)
set_option maxRecDepth 100000 in
theorem cw_228 : Cond.code (ynm 228) (byo 228) (mlOf 228) (rty 228) ∈ lw_tbl := tbs_mem _ (List.mem_of_getElem? (i := 9) rfl) _ (List.mem_of_getElem? (i := 22) rfl)
set_option maxRecDepth 100000 in
theorem cw_229 : Cond.code (ynm 229) (byo 229) (mlOf 229) (rty 229) ∈ lw_tbl := tbs_mem _ (List.mem_of_getElem? (i := 9) rfl) _ (List.mem_of_getElem? (i := 26) rfl)
set_option maxRecDepth 100000 in
theorem cw_230 : Cond.code (ynm 230) (byo 230) (mlOf 230) (rty 230) ∈ lw_tbl := tbs_mem _ (List.mem_of_getElem? (i := 9) rfl) _ (List.mem_of_getElem? (i := 31) rfl)
set_option maxRecDepth 100000 in
theorem cw_231 : Cond.code (ynm 231) (byo 231) (mlOf 231) (rty 231) ∈ lw_tbl := tbs_mem _ (List.mem_of_getElem? (i := 9) rfl) _ (List.mem_of_getElem? (i := 35) rfl)
set_option maxRecDepth 100000 in
theorem cw_232 : Cond.code (ynm 232) (byo 232) (mlOf 232) (rty 232) ∈ lw_tbl := tbs_mem _ (List.mem_of_getElem? (i := 9) rfl) _ (List.mem_of_getElem? (i := 39) rfl)
set_option maxRecDepth 100000 in
theorem cw_233 : Cond.code (ynm 233) (byo 233) (mlOf 233) (rty 233) ∈ lw_tbl := tbs_mem _ (List.mem_of_getElem? (i := 9) rfl) _ (List.mem_of_getElem? (i := 43) rfl)
set_option maxRecDepth 100000 in
theorem cw_234 : Cond.code (ynm 234) (byo 234) (mlOf 234) (rty 234) ∈ lw_tbl := tbs_mem _ (List.mem_of_getElem? (i := 9) rfl) _ (List.mem_of_getElem? (i := 47) rfl)
set_option maxRecDepth 100000 in
theorem cw_235 : Cond.code (ynm 235) (byo 235) (mlOf 235) (rty 235) ∈ lw_tbl := tbs_mem _ (List.mem_of_getElem? (i := 9) rfl) _ (List.mem_of_getElem? (i := 51) rfl)
set_option maxRecDepth 100000 in
theorem cw_236 : Cond.code (ynm 236) (byo 236) (mlOf 236) (rty 236) ∈ lw_tbl := tbs_mem _ (List.mem_of_getElem? (i := 9) rfl) _ (List.mem_of_getElem? (i := 55) rfl)
set_option maxRecDepth 100000 in
theorem cw_237 : Cond.code (ynm 237) (byo 237) (mlOf 237) (rty 237) ∈ lw_tbl := tbs_mem _ (List.mem_of_getElem? (i := 9) rfl) _ (List.mem_of_getElem? (i := 59) rfl)
set_option maxRecDepth 100000 in
theorem cw_238 : Cond.code (ynm 238) (byo 238) (mlOf 238) (rty 238) ∈ lw_tbl := tbs_mem _ (List.mem_of_getElem? (i := 9) rfl) _ (List.mem_of_getElem? (i := 62) rfl)
set_option maxRecDepth 100000 in
theorem cw_239 : Cond.code (ynm 239) (byo 239) (mlOf 239) (rty 239) ∈ lw_tbl := tbs_mem _ (List.mem_of_getElem? (i := 9) rfl) _ (List.mem_of_getElem? (i := 67) rfl)
set_option maxRecDepth 100000 in
theorem cw_240 : Cond.code (ynm 240) (byo 240) (mlOf 240) (rty 240) ∈ lw_tbl := tbs_mem _ (List.mem_of_getElem? (i := 9) rfl) _ (List.mem_of_getElem? (i := 71) rfl)
set_option maxRecDepth 100000 in
theorem cw_241 : Cond.code (ynm 241) (byo 241) (mlOf 241) (rty 241) ∈ lw_tbl := tbs_mem _ (List.mem_of_getElem? (i := 9) rfl) _ (List.mem_of_getElem? (i := 75) rfl)
set_option maxRecDepth 100000 in
theorem cw_242 : Cond.code (ynm 242) (byo 242) (mlOf 242) (rty 242) ∈ lw_tbl := tbs_mem _ (List.mem_of_getElem? (i := 9) rfl) _ (List.mem_of_getElem? (i := 79) rfl)
set_option maxRecDepth 100000 in
theorem cw_243 : Cond.code (ynm 243) (byo 243) (mlOf 243) (rty 243) ∈ lw_tbl := tbs_mem _ (List.mem_of_getElem? (i := 9) rfl) _ (List.mem_of_getElem? (i := 83) rfl)
set_option maxRecDepth 100000 in
theorem cw_244 : Cond.code (ynm 244) (byo 244) (mlOf 244) (rty 244) ∈ lw_tbl := tbs_mem _ (List.mem_of_getElem? (i := 9) rfl) _ (List.mem_of_getElem? (i := 88) rfl)
set_option maxRecDepth 100000 in
theorem cw_245 : Cond.code (ynm 245) (byo 245) (mlOf 245) (rty 245) ∈ lw_tbl := tbs_mem _ (List.mem_of_getElem? (i := 9) rfl) _ (List.mem_of_getElem? (i := 92) rfl)
set_option maxRecDepth 100000 in
theorem cw_246 : Cond.code (ynm 246) (byo 246) (mlOf 246) (rty 246) ∈ lw_tbl := tbs_mem _ (List.mem_of_getElem? (i := 9) rfl) _ (List.mem_of_getElem? (i := 96) rfl)
set_option maxRecDepth 100000 in
theorem cw_247 : Cond.code (ynm 247) (byo 247) (mlOf 247) (rty 247) ∈ lw_tbl := tbs_mem _ (List.mem_of_getElem? (i := 9) rfl) _ (List.mem_of_getElem? (i := 100) rfl)
set_option maxRecDepth 100000 in
theorem cw_248 : Cond.code (ynm 248) (byo 248) (mlOf 248) (rty 248) ∈ lw_tbl := tbs_mem _ (List.mem_of_getElem? (i := 9) rfl) _ (List.mem_of_getElem? (i := 104) rfl)
set_option maxRecDepth 100000 in
theorem cw_249 : Cond.code (ynm 249) (byo 249) (mlOf 249) (rty 249) ∈ lw_tbl := tbs_mem _ (List.mem_of_getElem? (i := 9) rfl) _ (List.mem_of_getElem? (i := 108) rfl)
set_option maxRecDepth 100000 in
theorem cw_250 : Cond.code (ynm 250) (byo 250) (mlOf 250) (rty 250) ∈ lw_tbl := tbs_mem _ (List.mem_of_getElem? (i := 9) rfl) _ (List.mem_of_getElem? (i := 112) rfl)
set_option maxRecDepth 100000 in
theorem cw_251 : Cond.code (ynm 251) (byo 251) (mlOf 251) (rty 251) ∈ lw_tbl := tbs_mem _ (List.mem_of_getElem? (i := 9) rfl) _ (List.mem_of_getElem? (i := 117) rfl)
set_option maxRecDepth 100000 in
theorem cw_252 : Cond.code (ynm 252) (byo 252) (mlOf 252) (rty 252) ∈ lw_tbl := tbs_mem _ (List.mem_of_getElem? (i := 9) rfl) _ (List.mem_of_getElem? (i := 121) rfl)
set_option maxRecDepth 100000 in
theorem cw_253 : Cond.code (ynm 253) (byo 253) (mlOf 253) (rty 253) ∈ lw_tbl := tbs_mem _ (List.mem_of_getElem? (i := 9) rfl) _ (List.mem_of_getElem? (i := 125) rfl)
set_option maxRecDepth 100000 in
theorem cw_254 : Cond.code (ynm 254) (byo 254) (mlOf 254) (rty 254) ∈ lw_tbl := tbs_mem _ (List.mem_of_getElem? (i := 9) rfl) _ (List.mem_of_getElem? (i := 130) rfl)
set_option maxRecDepth 100000 in
theorem cw_255 : Cond.code (ynm 255) (byo 255) (mlOf 255) (rty 255) ∈ lw_tbl := tbs_mem _ (List.mem_of_getElem? (i := 9) rfl) _ (List.mem_of_getElem? (i := 134) rfl)
set_option maxRecDepth 100000 in
theorem cw_256 : Cond.code (ynm 256) (byo 256) (mlOf 256) (rty 256) ∈ lw_tbl := tbs_mem _ (List.mem_of_getElem? (i := 9) rfl) _ (List.mem_of_getElem? (i := 138) rfl)
set_option maxRecDepth 100000 in
theorem cw_257 : Cond.code (ynm 257) (byo 257) (mlOf 257) (rty 257) ∈ lw_tbl := tbs_mem _ (List.mem_of_getElem? (i := 9) rfl) _ (List.mem_of_getElem? (i := 142) rfl)
set_option maxRecDepth 100000 in
theorem cw_258 : Cond.code (ynm 258) (byo 258) (mlOf 258) (rty 258) ∈ lw_tbl := tbs_mem _ (List.mem_of_getElem? (i := 9) rfl) _ (List.mem_of_getElem? (i := 147) rfl)
set_option maxRecDepth 100000 in
theorem cw_259 : Cond.code (ynm 259) (byo 259) (mlOf 259) (rty 259) ∈ lw_tbl := tbs_mem _ (List.mem_of_getElem? (i := 9) rfl) _ (List.mem_of_getElem? (i := 151) rfl)
set_option maxRecDepth 100000 in
theorem cw_260 : Cond.code (ynm 260) (byo 260) (mlOf 260) (rty 260) ∈ lw_tbl := tbs_mem _ (List.mem_of_getElem? (i := 9) rfl) _ (List.mem_of_getElem? (i := 155) rfl)
set_option maxRecDepth 100000 in
theorem cw_261 : Cond.code (ynm 261) (byo 261) (mlOf 261) (rty 261) ∈ lw_tbl := tbs_mem _ (List.mem_of_getElem? (i := 9) rfl) _ (List.mem_of_getElem? (i := 159) rfl)
set_option maxRecDepth 100000 in
theorem cw_262 : Cond.code (ynm 262) (byo 262) (mlOf 262) (rty 262) ∈ lw_tbl := tbs_mem _ (List.mem_of_getElem? (i := 9) rfl) _ (List.mem_of_getElem? (i := 163) rfl)
set_option maxRecDepth 100000 in
theorem cw_263 : Cond.code (ynm 263) (byo 263) (mlOf 263) (rty 263) ∈ lw_tbl := tbs_mem _ (List.mem_of_getElem? (i := 9) rfl) _ (List.mem_of_getElem? (i := 167) rfl)
set_option maxRecDepth 100000 in
theorem cw_264 : Cond.code (ynm 264) (byo 264) (mlOf 264) (rty 264) ∈ lw_tbl := tbs_mem _ (List.mem_of_getElem? (i := 9) rfl) _ (List.mem_of_getElem? (i := 171) rfl)
set_option maxRecDepth 100000 in
theorem cw_265 : Cond.code (ynm 265) (byo 265) (mlOf 265) (rty 265) ∈ lw_tbl := tbs_mem _ (List.mem_of_getElem? (i := 9) rfl) _ (List.mem_of_getElem? (i := 175) rfl)
set_option maxRecDepth 100000 in
theorem cw_266 : Cond.code (ynm 266) (byo 266) (mlOf 266) (rty 266) ∈ lw_tbl := tbs_mem _ (List.mem_of_getElem? (i := 9) rfl) _ (List.mem_of_getElem? (i := 179) rfl)
set_option maxRecDepth 100000 in
theorem cw_267 : Cond.code (ynm 267) (byo 267) (mlOf 267) (rty 267) ∈ lw_tbl := tbs_mem _ (List.mem_of_getElem? (i := 9) rfl) _ (List.mem_of_getElem? (i := 183) rfl)
set_option maxRecDepth 100000 in
theorem cw_268 : Cond.code (ynm 268) (byo 268) (mlOf 268) (rty 268) ∈ lw_tbl := tbs_mem _ (List.mem_of_getElem? (i := 9) rfl) _ (List.mem_of_getElem? (i := 186) rfl)
set_option maxRecDepth 100000 in
theorem cw_269 : Cond.code (ynm 269) (byo 269) (mlOf 269) (rty 269) ∈ lw_tbl := tbs_mem _ (List.mem_of_getElem? (i := 9) rfl) _ (List.mem_of_getElem? (i := 190) rfl)
set_option maxRecDepth 100000 in
theorem cw_270 : Cond.code (ynm 270) (byo 270) (mlOf 270) (rty 270) ∈ lw_tbl := tbs_mem _ (List.mem_of_getElem? (i := 9) rfl) _ (List.mem_of_getElem? (i := 194) rfl)
set_option maxRecDepth 100000 in
theorem cw_271 : Cond.code (ynm 271) (byo 271) (mlOf 271) (rty 271) ∈ lw_tbl := tbs_mem _ (List.mem_of_getElem? (i := 9) rfl) _ (List.mem_of_getElem? (i := 198) rfl)
set_option maxRecDepth 100000 in
theorem cw_272 : Cond.code (ynm 272) (byo 272) (mlOf 272) (rty 272) ∈ lw_tbl := tbs_mem _ (List.mem_of_getElem? (i := 9) rfl) _ (List.mem_of_getElem? (i := 202) rfl)
set_option maxRecDepth 100000 in
theorem cw_273 : Cond.code (ynm 273) (byo 273) (mlOf 273) (rty 273) ∈ lw_tbl := tbs_mem _ (List.mem_of_getElem? (i := 9) rfl) _ (List.mem_of_getElem? (i := 207) rfl)
set_option maxRecDepth 100000 in
theorem cw_274 : Cond.code (ynm 274) (byo 274) (mlOf 274) (rty 274) ∈ lw_tbl := tbs_mem _ (List.mem_of_getElem? (i := 9) rfl) _ (List.mem_of_getElem? (i := 211) rfl)
set_option maxRecDepth 100000 in
theorem cw_275 : Cond.code (ynm 275) (byo 275) (mlOf 275) (rty 275) ∈ lw_tbl := tbs_mem _ (List.mem_of_getElem? (i := 9) rfl) _ (List.mem_of_getElem? (i := 215) rfl)
set_option maxRecDepth 100000 in
theorem cw_276 : Cond.code (ynm 276) (byo 276) (mlOf 276) (rty 276) ∈ lw_tbl := tbs_mem _ (List.mem_of_getElem? (i := 9) rfl) _ (List.mem_of_getElem? (i := 219) rfl)
set_option maxRecDepth 100000 in
theorem cw_277 : Cond.code (ynm 277) (byo 277) (mlOf 277) (rty 277) ∈ lw_tbl := tbs_mem _ (List.mem_of_getElem? (i := 9) rfl) _ (List.mem_of_getElem? (i := 223) rfl)
set_option maxRecDepth 100000 in
theorem cw_278 : Cond.code (ynm 278) (byo 278) (mlOf 278) (rty 278) ∈ lw_tbl := tbs_mem _ (List.mem_of_getElem? (i := 9) rfl) _ (List.mem_of_getElem? (i := 228) rfl)
set_option maxRecDepth 100000 in
theorem cw_279 : Cond.code (ynm 279) (byo 279) (mlOf 279) (rty 279) ∈ lw_tbl := tbs_mem _ (List.mem_of_getElem? (i := 9) rfl) _ (List.mem_of_getElem? (i := 233) rfl)
set_option maxRecDepth 100000 in
theorem cw_280 : Cond.code (ynm 280) (byo 280) (mlOf 280) (rty 280) ∈ lw_tbl := tbs_mem _ (List.mem_of_getElem? (i := 9) rfl) _ (List.mem_of_getElem? (i := 237) rfl)
set_option maxRecDepth 100000 in
theorem cw_281 : Cond.code (ynm 281) (byo 281) (mlOf 281) (rty 281) ∈ lw_tbl := tbs_mem _ (List.mem_of_getElem? (i := 10) rfl) _ (List.mem_of_getElem? (i := 1) rfl)
set_option maxRecDepth 100000 in
theorem cw_282 : Cond.code (ynm 282) (byo 282) (mlOf 282) (rty 282) ∈ lw_tbl := tbs_mem _ (List.mem_of_getElem? (i := 10) rfl) _ (List.mem_of_getElem? (i := 6) rfl)
set_option maxRecDepth 100000 in
theorem cw_283 : Cond.code (ynm 283) (byo 283) (mlOf 283) (rty 283) ∈ lw_tbl := tbs_mem _ (List.mem_of_getElem? (i := 10) rfl) _ (List.mem_of_getElem? (i := 11) rfl)
set_option maxRecDepth 100000 in
theorem cw_284 : Cond.code (ynm 284) (byo 284) (mlOf 284) (rty 284) ∈ lw_tbl := tbs_mem _ (List.mem_of_getElem? (i := 10) rfl) _ (List.mem_of_getElem? (i := 15) rfl)
set_option maxRecDepth 100000 in
theorem cw_285 : Cond.code (ynm 285) (byo 285) (mlOf 285) (rty 285) ∈ lw_tbl := tbs_mem _ (List.mem_of_getElem? (i := 10) rfl) _ (List.mem_of_getElem? (i := 19) rfl)
set_option maxRecDepth 100000 in
theorem cw_286 : Cond.code (ynm 286) (byo 286) (mlOf 286) (rty 286) ∈ lw_tbl := tbs_mem _ (List.mem_of_getElem? (i := 10) rfl) _ (List.mem_of_getElem? (i := 23) rfl)
set_option maxRecDepth 100000 in
theorem cw_287 : Cond.code (ynm 287) (byo 287) (mlOf 287) (rty 287) ∈ lw_tbl := tbs_mem _ (List.mem_of_getElem? (i := 10) rfl) _ (List.mem_of_getElem? (i := 27) rfl)
set_option maxRecDepth 100000 in
theorem cw_288 : Cond.code (ynm 288) (byo 288) (mlOf 288) (rty 288) ∈ lw_tbl := tbs_mem _ (List.mem_of_getElem? (i := 10) rfl) _ (List.mem_of_getElem? (i := 31) rfl)
set_option maxRecDepth 100000 in
theorem cw_289 : Cond.code (ynm 289) (byo 289) (mlOf 289) (rty 289) ∈ lw_tbl := tbs_mem _ (List.mem_of_getElem? (i := 10) rfl) _ (List.mem_of_getElem? (i := 35) rfl)
set_option maxRecDepth 100000 in
theorem cw_290 : Cond.code (ynm 290) (byo 290) (mlOf 290) (rty 290) ∈ lw_tbl := tbs_mem _ (List.mem_of_getElem? (i := 10) rfl) _ (List.mem_of_getElem? (i := 38) rfl)
set_option maxRecDepth 100000 in
theorem cw_291 : Cond.code (ynm 291) (byo 291) (mlOf 291) (rty 291) ∈ lw_tbl := tbs_mem _ (List.mem_of_getElem? (i := 10) rfl) _ (List.mem_of_getElem? (i := 42) rfl)
set_option maxRecDepth 100000 in
theorem cw_292 : Cond.code (ynm 292) (byo 292) (mlOf 292) (rty 292) ∈ lw_tbl := tbs_mem _ (List.mem_of_getElem? (i := 10) rfl) _ (List.mem_of_getElem? (i := 46) rfl)
set_option maxRecDepth 100000 in
theorem cw_293 : Cond.code (ynm 293) (byo 293) (mlOf 293) (rty 293) ∈ lw_tbl := tbs_mem _ (List.mem_of_getElem? (i := 10) rfl) _ (List.mem_of_getElem? (i := 51) rfl)
set_option maxRecDepth 100000 in
theorem cw_294 : Cond.code (ynm 294) (byo 294) (mlOf 294) (rty 294) ∈ lw_tbl := tbs_mem _ (List.mem_of_getElem? (i := 10) rfl) _ (List.mem_of_getElem? (i := 55) rfl)
set_option maxRecDepth 100000 in
theorem cw_295 : Cond.code (ynm 295) (byo 295) (mlOf 295) (rty 295) ∈ lw_tbl := tbs_mem _ (List.mem_of_getElem? (i := 10) rfl) _ (List.mem_of_getElem? (i := 59) rfl)
set_option maxRecDepth 100000 in
theorem cw_296 : Cond.code (ynm 296) (byo 296) (mlOf 296) (rty 296) ∈ lw_tbl := tbs_mem _ (List.mem_of_getElem? (i := 10) rfl) _ (List.mem_of_getElem? (i := 63) rfl)
set_option maxRecDepth 100000 in
theorem cw_297 : Cond.code (ynm 297) (byo 297) (mlOf 297) (rty 297) ∈ lw_tbl := tbs_mem _ (List.mem_of_getElem? (i := 10) rfl) _ (List.mem_of_getElem? (i := 67) rfl)
set_option maxRecDepth 100000 in
theorem cw_298 : Cond.code (ynm 298) (byo 298) (mlOf 298) (rty 298) ∈ lw_tbl := tbs_mem _ (List.mem_of_getElem? (i := 10) rfl) _ (List.mem_of_getElem? (i := 72) rfl)
set_option maxRecDepth 100000 in
theorem cw_299 : Cond.code (ynm 299) (byo 299) (mlOf 299) (rty 299) ∈ lw_tbl := tbs_mem _ (List.mem_of_getElem? (i := 10) rfl) _ (List.mem_of_getElem? (i := 76) rfl)
set_option maxRecDepth 100000 in
theorem cw_300 : Cond.code (ynm 300) (byo 300) (mlOf 300) (rty 300) ∈ lw_tbl := tbs_mem _ (List.mem_of_getElem? (i := 10) rfl) _ (List.mem_of_getElem? (i := 80) rfl)
set_option maxRecDepth 100000 in
theorem cw_301 : Cond.code (ynm 301) (byo 301) (mlOf 301) (rty 301) ∈ lw_tbl := tbs_mem _ (List.mem_of_getElem? (i := 10) rfl) _ (List.mem_of_getElem? (i := 84) rfl)
set_option maxRecDepth 100000 in
theorem cw_302 : Cond.code (ynm 302) (byo 302) (mlOf 302) (rty 302) ∈ lw_tbl := tbs_mem _ (List.mem_of_getElem? (i := 10) rfl) _ (List.mem_of_getElem? (i := 88) rfl)
set_option maxRecDepth 100000 in
theorem cw_303 : Cond.code (ynm 303) (byo 303) (mlOf 303) (rty 303) ∈ lw_tbl := tbs_mem _ (List.mem_of_getElem? (i := 10) rfl) _ (List.mem_of_getElem? (i := 92) rfl)
set_option maxRecDepth 100000 in
theorem cw_304 : Cond.code (ynm 304) (byo 304) (mlOf 304) (rty 304) ∈ lw_tbl := tbs_mem _ (List.mem_of_getElem? (i := 10) rfl) _ (List.mem_of_getElem? (i := 96) rfl)
set_option maxRecDepth 100000 in
theorem cw_305 : Cond.code (ynm 305) (byo 305) (mlOf 305) (rty 305) ∈ lw_tbl := tbs_mem _ (List.mem_of_getElem? (i := 10) rfl) _ (List.mem_of_getElem? (i := 100) rfl)
set_option maxRecDepth 100000 in
theorem cw_306 : Cond.code (ynm 306) (byo 306) (mlOf 306) (rty 306) ∈ lw_tbl := tbs_mem _ (List.mem_of_getElem? (i := 10) rfl) _ (List.mem_of_getElem? (i := 104) rfl)
set_option maxRecDepth 100000 in
theorem cw_307 : Cond.code (ynm 307) (byo 307) (mlOf 307) (rty 307) ∈ lw_tbl := tbs_mem _ (List.mem_of_getElem? (i := 10) rfl) _ (List.mem_of_getElem? (i := 108) rfl)
set_option maxRecDepth 100000 in
theorem cw_308 : Cond.code (ynm 308) (byo 308) (mlOf 308) (rty 308) ∈ lw_tbl := tbs_mem _ (List.mem_of_getElem? (i := 10) rfl) _ (List.mem_of_getElem? (i := 112) rfl)
set_option maxRecDepth 100000 in
theorem cw_309 : Cond.code (ynm 309) (byo 309) (mlOf 309) (rty 309) ∈ lw_tbl := tbs_mem _ (List.mem_of_getElem? (i := 10) rfl) _ (List.mem_of_getElem? (i := 116) rfl)
set_option maxRecDepth 100000 in
theorem cw_310 : Cond.code (ynm 310) (byo 310) (mlOf 310) (rty 310) ∈ lw_tbl := tbs_mem _ (List.mem_of_getElem? (i := 10) rfl) _ (List.mem_of_getElem? (i := 120) rfl)
set_option maxRecDepth 100000 in
theorem cw_311 : Cond.code (ynm 311) (byo 311) (mlOf 311) (rty 311) ∈ lw_tbl := tbs_mem _ (List.mem_of_getElem? (i := 10) rfl) _ (List.mem_of_getElem? (i := 124) rfl)
set_option maxRecDepth 100000 in
theorem cw_312 : Cond.code (ynm 312) (byo 312) (mlOf 312) (rty 312) ∈ lw_tbl := tbs_mem _ (List.mem_of_getElem? (i := 10) rfl) _ (List.mem_of_getElem? (i := 128) rfl)
set_option maxRecDepth 100000 in
theorem cw_313 : Cond.code (ynm 313) (byo 313) (mlOf 313) (rty 313) ∈ lw_tbl := tbs_mem _ (List.mem_of_getElem? (i := 10) rfl) _ (List.mem_of_getElem? (i := 132) rfl)
set_option maxRecDepth 100000 in
theorem cw_314 : Cond.code (ynm 314) (byo 314) (mlOf 314) (rty 314) ∈ lw_tbl := tbs_mem _ (List.mem_of_getElem? (i := 10) rfl) _ (List.mem_of_getElem? (i := 136) rfl)
set_option maxRecDepth 100000 in
theorem cw_315 : Cond.code (ynm 315) (byo 315) (mlOf 315) (rty 315) ∈ lw_tbl := tbs_mem _ (List.mem_of_getElem? (i := 10) rfl) _ (List.mem_of_getElem? (i := 140) rfl)
set_option maxRecDepth 100000 in
theorem cw_316 : Cond.code (ynm 316) (byo 316) (mlOf 316) (rty 316) ∈ lw_tbl := tbs_mem _ (List.mem_of_getElem? (i := 10) rfl) _ (List.mem_of_getElem? (i := 144) rfl)
set_option maxRecDepth 100000 in
theorem cw_317 : Cond.code (ynm 317) (byo 317) (mlOf 317) (rty 317) ∈ lw_tbl := tbs_mem _ (List.mem_of_getElem? (i := 10) rfl) _ (List.mem_of_getElem? (i := 148) rfl)
set_option maxRecDepth 100000 in
theorem cw_318 : Cond.code (ynm 318) (byo 318) (mlOf 318) (rty 318) ∈ lw_tbl := tbs_mem _ (List.mem_of_getElem? (i := 10) rfl) _ (List.mem_of_getElem? (i := 152) rfl)
set_option maxRecDepth 100000 in
theorem cw_319 : Cond.code (ynm 319) (byo 319) (mlOf 319) (rty 319) ∈ lw_tbl := tbs_mem _ (List.mem_of_getElem? (i := 10) rfl) _ (List.mem_of_getElem? (i := 156) rfl)
set_option maxRecDepth 100000 in
theorem cw_320 : Cond.code (ynm 320) (byo 320) (mlOf 320) (rty 320) ∈ lw_tbl := tbs_mem _ (List.mem_of_getElem? (i := 3) rfl) _ (List.mem_of_getElem? (i := 214) rfl)
set_option maxRecDepth 100000 in
theorem cw_321 : Cond.code (ynm 321) (byo 321) (mlOf 321) (rty 321) ∈ lw_tbl := tbs_mem _ (List.mem_of_getElem? (i := 1) rfl) _ (List.mem_of_getElem? (i := 71) rfl)
set_option maxRecDepth 100000 in
theorem cw_322 : Cond.code (ynm 322) (byo 322) (mlOf 322) (rty 322) ∈ lw_tbl := tbs_mem _ (List.mem_of_getElem? (i := 1) rfl) _ (List.mem_of_getElem? (i := 75) rfl)
set_option maxRecDepth 100000 in
theorem cw_323 : Cond.code (ynm 323) (byo 323) (mlOf 323) (rty 323) ∈ lw_tbl := tbs_mem _ (List.mem_of_getElem? (i := 3) rfl) _ (List.mem_of_getElem? (i := 4) rfl)
set_option maxRecDepth 100000 in
theorem cw_324 : Cond.code (ynm 324) (byo 324) (mlOf 324) (rty 324) ∈ lw_tbl := tbs_mem _ (List.mem_of_getElem? (i := 3) rfl) _ (List.mem_of_getElem? (i := 8) rfl)
set_option maxRecDepth 100000 in
theorem cw_325 : Cond.code (ynm 325) (byo 325) (mlOf 325) (rty 325) ∈ lw_tbl := tbs_mem _ (List.mem_of_getElem? (i := 3) rfl) _ (List.mem_of_getElem? (i := 12) rfl)
set_option maxRecDepth 100000 in
theorem cw_326 : Cond.code (ynm 326) (byo 326) (mlOf 326) (rty 326) ∈ lw_tbl := tbs_mem _ (List.mem_of_getElem? (i := 3) rfl) _ (List.mem_of_getElem? (i := 235) rfl)
set_option maxRecDepth 100000 in
theorem cw_327 : Cond.code (ynm 327) (byo 327) (mlOf 327) (rty 327) ∈ lw_tbl := tbs_mem _ (List.mem_of_getElem? (i := 3) rfl) _ (List.mem_of_getElem? (i := 16) rfl)
set_option maxRecDepth 100000 in
theorem cw_328 : Cond.code (ynm 328) (byo 328) (mlOf 328) (rty 328) ∈ lw_tbl := tbs_mem _ (List.mem_of_getElem? (i := 3) rfl) _ (List.mem_of_getElem? (i := 19) rfl)
set_option maxRecDepth 100000 in
theorem cw_329 : Cond.code (ynm 329) (byo 329) (mlOf 329) (rty 329) ∈ lw_tbl := tbs_mem _ (List.mem_of_getElem? (i := 3) rfl) _ (List.mem_of_getElem? (i := 28) rfl)
set_option maxRecDepth 100000 in
theorem cw_330 : Cond.code (ynm 330) (byo 330) (mlOf 330) (rty 330) ∈ lw_tbl := tbs_mem _ (List.mem_of_getElem? (i := 3) rfl) _ (List.mem_of_getElem? (i := 238) rfl)
set_option maxRecDepth 100000 in
theorem cw_331 : Cond.code (ynm 331) (byo 331) (mlOf 331) (rty 331) ∈ lw_tbl := tbs_mem _ (List.mem_of_getElem? (i := 4) rfl) _ (List.mem_of_getElem? (i := 1) rfl)
set_option maxRecDepth 100000 in
theorem cw_332 : Cond.code (ynm 332) (byo 332) (mlOf 332) (rty 332) ∈ lw_tbl := tbs_mem _ (List.mem_of_getElem? (i := 3) rfl) _ (List.mem_of_getElem? (i := 145) rfl)
set_option maxRecDepth 100000 in
theorem cw_333 : Cond.code (ynm 333) (byo 333) (mlOf 333) (rty 333) ∈ lw_tbl := tbs_mem _ (List.mem_of_getElem? (i := 3) rfl) _ (List.mem_of_getElem? (i := 159) rfl)
set_option maxRecDepth 100000 in
theorem cw_334 : Cond.code (ynm 334) (byo 334) (mlOf 334) (rty 334) ∈ lw_tbl := tbs_mem _ (List.mem_of_getElem? (i := 6) rfl) _ (List.mem_of_getElem? (i := 33) rfl)
set_option maxRecDepth 100000 in
theorem cw_335 : Cond.code (ynm 335) (byo 335) (mlOf 335) (rty 335) ∈ lw_tbl := tbs_mem _ (List.mem_of_getElem? (i := 3) rfl) _ (List.mem_of_getElem? (i := 51) rfl)
set_option maxRecDepth 100000 in
theorem cw_336 : Cond.code (ynm 336) (byo 336) (mlOf 336) (rty 336) ∈ lw_tbl := tbs_mem _ (List.mem_of_getElem? (i := 4) rfl) _ (List.mem_of_getElem? (i := 4) rfl)
set_option maxRecDepth 100000 in
theorem cw_337 : Cond.code (ynm 337) (byo 337) (mlOf 337) (rty 337) ∈ lw_tbl := tbs_mem _ (List.mem_of_getElem? (i := 6) rfl) _ (List.mem_of_getElem? (i := 36) rfl)
theorem cwg_0 : ∀ m ∈ [1, 2, 3, 4, 5, 6, 7, 8, 9, 10, 11, 12, 13, 14, 15, 16, 17, 18, 19, 20], Cond.code (ynm m) (byo m) (mlOf m) (rty m) ∈ lw_tbl := List.forall_mem_cons.mpr ⟨cw_1, List.forall_mem_cons.mpr ⟨cw_2, List.forall_mem_cons.mpr ⟨cw_3, List.forall_mem_cons.mpr ⟨cw_4, List.forall_mem_cons.mpr ⟨cw_5, List.forall_mem_cons.mpr ⟨cw_6, List.forall_mem_cons.mpr ⟨cw_7, List.forall_mem_cons.mpr ⟨cw_8, List.forall_mem_cons.mpr ⟨cw_9, List.forall_mem_cons.mpr ⟨cw_10, List.forall_mem_cons.mpr ⟨cw_11, List.forall_mem_cons.mpr ⟨cw_12, List.forall_mem_cons.mpr ⟨cw_13, List.forall_mem_cons.mpr ⟨cw_14, List.forall_mem_cons.mpr ⟨cw_15, List.forall_mem_cons.mpr ⟨cw_16, List.forall_mem_cons.mpr ⟨cw_17, List.forall_mem_cons.mpr ⟨cw_18, List.forall_mem_cons.mpr ⟨cw_19, List.forall_mem_cons.mpr ⟨cw_20, fun _ h => absurd h List.not_mem_nil⟩⟩⟩⟩⟩⟩⟩⟩⟩⟩⟩⟩⟩⟩⟩⟩⟩⟩⟩⟩
theorem cwg_1 : ∀ m ∈ [21, 22, 23, 24, 25, 26, 27, 28, 29, 30, 31, 32, 33, 34, 35, 36, 37, 38, 39, 40], Cond.code (ynm m) (byo m) (mlOf m) (rty m) ∈ lw_tbl := List.forall_mem_cons.mpr ⟨cw_21, List.forall_mem_cons.mpr ⟨cw_22, List.forall_mem_cons.mpr ⟨cw_23, List.forall_mem_cons.mpr ⟨cw_24, List.forall_mem_cons.mpr ⟨cw_25, List.forall_mem_cons.mpr ⟨cw_26, List.forall_mem_cons.mpr ⟨cw_27, List.forall_mem_cons.mpr ⟨cw_28, List.forall_mem_cons.mpr ⟨cw_29, List.forall_mem_cons.mpr ⟨cw_30, List.forall_mem_cons.mpr ⟨cw_31, List.forall_mem_cons.mpr ⟨cw_32, List.forall_mem_cons.mpr ⟨cw_33, List.forall_mem_cons.mpr ⟨cw_34, List.forall_mem_cons.mpr ⟨cw_35, List.forall_mem_cons.mpr ⟨cw_36, List.forall_mem_cons.mpr ⟨cw_37, List.forall_mem_cons.mpr ⟨cw_38, List.forall_mem_cons.mpr ⟨cw_39, List.forall_mem_cons.mpr ⟨cw_40, fun _ h => absurd h List.not_mem_nil⟩⟩⟩⟩⟩⟩⟩⟩⟩⟩⟩⟩⟩⟩⟩⟩⟩⟩⟩⟩
theorem cwg_2 : ∀ m ∈ [41, 42, 43, 44, 45, 46, 47, 48, 49, 50, 51, 52, 53, 54, 55, 56, 57, 58, 59, 60], Cond.code (ynm m) (byo m) (mlOf m) (rty m) ∈ lw_tbl := List.forall_mem_cons.mpr ⟨cw_41, List.forall_mem_cons.mpr ⟨cw_42, List.forall_mem_cons.mpr ⟨cw_43, List.forall_mem_cons.mpr ⟨cw_44, List.forall_mem_cons.mpr ⟨cw_45, List.forall_mem_cons.mpr ⟨cw_46, List.forall_mem_cons.mpr ⟨cw_47, List.forall_mem_cons.mpr ⟨cw_48, List.forall_mem_cons.mpr ⟨cw_49, List.forall_mem_cons.mpr ⟨cw_50, List.forall_mem_cons.mpr ⟨cw_51, List.forall_mem_cons.mpr ⟨cw_52, List.forall_mem_cons.mpr ⟨cw_53, List.forall_mem_cons.mpr ⟨cw_54, List.forall_mem_cons.mpr ⟨cw_55, List.forall_mem_cons.mpr ⟨cw_56, List.forall_mem_cons.mpr ⟨cw_57, List.forall_mem_cons.mpr ⟨cw_58, List.forall_mem_cons.mpr ⟨cw_59, List.forall_mem_cons.mpr ⟨cw_60, fun _ h => absurd h List.not_mem_nil⟩⟩⟩⟩⟩⟩⟩⟩⟩⟩⟩⟩⟩⟩⟩⟩⟩⟩⟩⟩
theorem cwg_3 : ∀ m ∈ [61, 62, 63, 64, 65, 66, 67, 68, 69, 70, 71, 72, 73, 74, 75, 76, 77, 78, 79, 80], Cond.code (ynm m) (byo m) (mlOf m) (rty m) ∈ lw_tbl := List.forall_mem_cons.mpr ⟨cw_61, List.forall_mem_cons.mpr ⟨cw_62, List.forall_mem_cons.mpr ⟨cw_63, List.forall_mem_cons.mpr ⟨cw_64, List.forall_mem_cons.mpr ⟨cw_65, List.forall_mem_cons.mpr ⟨cw_66, List.forall_mem_cons.mpr ⟨cw_67, List.forall_mem_cons.mpr ⟨cw_68, List.forall_mem_cons.mpr ⟨cw_69, List.forall_mem_cons.mpr ⟨cw_70, List.forall_mem_cons.mpr ⟨cw_71, List.forall_mem_cons.mpr ⟨cw_72, List.forall_mem_cons.mpr ⟨cw_73, List.forall_mem_cons.mpr ⟨cw_74, List.forall_mem_cons.mpr ⟨cw_75, List.forall_mem_cons.mpr ⟨cw_76, List.forall_mem_cons.mpr ⟨cw_77, List.forall_mem_cons.mpr ⟨cw_78, List.forall_mem_cons.mpr ⟨cw_79, List.forall_mem_cons.mpr ⟨cw_80, fun _ h => absurd h List.not_mem_nil⟩⟩⟩⟩⟩⟩⟩⟩⟩⟩⟩⟩⟩⟩⟩⟩⟩⟩⟩⟩
theorem cwg_4 : ∀ m ∈ [81, 82, 83, 84, 85, 86, 87, 88, 89, 90, 91, 92, 93, 94, 95, 96, 97, 98, 99, 100], Cond.code (ynm m) (byo m) (mlOf m) (rty m) ∈ lw_tbl := List.forall_mem_cons.mpr ⟨cw_81, List.forall_mem_cons.mpr ⟨cw_82, List.forall_mem_cons.mpr ⟨cw_83, List.forall_mem_cons.mpr ⟨cw_84, List.forall_mem_cons.mpr ⟨cw_85, List.forall_mem_cons.mpr ⟨cw_86, List.forall_mem_cons.mpr ⟨cw_87, List.forall_mem_cons.mpr ⟨cw_88, List.forall_mem_cons.mpr ⟨cw_89, List.forall_mem_cons.mpr ⟨cw_90, List.forall_mem_cons.mpr ⟨cw_91, List.forall_mem_cons.mpr ⟨cw_92, List.forall_mem_cons.mpr ⟨cw_93, List.forall_mem_cons.mpr ⟨cw_94, List.forall_mem_cons.mpr ⟨cw_95, List.forall_mem_cons.mpr ⟨cw_96, List.forall_mem_cons.mpr ⟨cw_97, List.forall_mem_cons.mpr ⟨cw_98, List.forall_mem_cons.mpr ⟨cw_99, List.forall_mem_cons.mpr ⟨cw_100, fun _ h => absurd h List.not_mem_nil⟩⟩⟩⟩⟩⟩⟩⟩⟩⟩⟩⟩⟩⟩⟩⟩⟩⟩⟩⟩
theorem cwg_5 : ∀ m ∈ [101, 102, 103, 104, 105, 106, 107, 108, 109, 110, 111, 112, 113, 114, 115, 116, 117, 118, 119, 120], Cond.code (ynm m) (byo m) (mlOf m) (rty m) ∈ lw_tbl := List.forall_mem_cons.mpr ⟨cw_101, List.forall_mem_cons.mpr ⟨cw_102, List.forall_mem_cons.mpr ⟨cw_103, List.forall_mem_cons.mpr ⟨cw_104, List.forall_mem_cons.mpr ⟨cw_105, List.forall_mem_cons.mpr ⟨cw_106, List.forall_mem_cons.mpr ⟨cw_107, List.forall_mem_cons.mpr ⟨cw_108, List.forall_mem_cons.mpr ⟨cw_109, List.forall_mem_cons.mpr ⟨cw_110, List.forall_mem_cons.mpr ⟨cw_111, List.forall_mem_cons.mpr ⟨cw_112, List.forall_mem_cons.mpr ⟨cw_113, List.forall_mem_cons.mpr ⟨cw_114, List.forall_mem_cons.mpr ⟨cw_115, List.forall_mem_cons.mpr ⟨cw_116, List.forall_mem_cons.mpr ⟨cw_117, List.forall_mem_cons.mpr ⟨cw_118, List.forall_mem_cons.mpr ⟨cw_119, List.forall_mem_cons.mpr ⟨cw_120, fun _ h => absurd h List.not_mem_nil⟩⟩⟩⟩⟩⟩⟩⟩⟩⟩⟩⟩⟩⟩⟩⟩⟩⟩⟩⟩
theorem cwg_6 : ∀ m ∈ [121, 122, 123, 124, 125, 126, 127, 128, 129, 130, 131, 132, 133, 134, 135, 136, 137, 138, 139, 140], Cond.code (ynm m) (byo m) (mlOf m) (rty m) ∈ lw_tbl := List.forall_mem_cons.mpr ⟨cw_121, List.forall_mem_cons.mpr ⟨cw_122, List.forall_mem_cons.mpr ⟨cw_123, List.forall_mem_cons.mpr ⟨cw_124, List.forall_mem_cons.mpr ⟨cw_125, List.forall_mem_cons.mpr ⟨cw_126, List.forall_mem_cons.mpr ⟨cw_127, List.forall_mem_cons.mpr ⟨cw_128, List.forall_mem_cons.mpr ⟨cw_129, List.forall_mem_cons.mpr ⟨cw_130, List.forall_mem_cons.mpr ⟨cw_131, List.forall_mem_cons.mpr ⟨cw_132, List.forall_mem_cons.mpr ⟨cw_133, List.forall_mem_cons.mpr ⟨cw_134, List.forall_mem_cons.mpr ⟨cw_135, List.forall_mem_cons.mpr ⟨cw_136, List.forall_mem_cons.mpr ⟨cw_137, List.forall_mem_cons.mpr ⟨cw_138, List.forall_mem_cons.mpr ⟨cw_139, List.forall_mem_cons.mpr ⟨cw_140, fun _ h => absurd h List.not_mem_nil⟩⟩⟩⟩⟩⟩⟩⟩⟩⟩⟩⟩⟩⟩⟩⟩⟩⟩⟩⟩
theorem cwg_7 : ∀ m ∈ [141, 142, 143, 144, 145, 146, 147, 148, 149, 150, 151, 152, 153, 154, 155, 156, 157, 158, 159, 160], Cond.code (ynm m) (byo m) (mlOf m) (rty m) ∈ lw_tbl := List.forall_mem_cons.mpr ⟨cw_141, List.forall_mem_cons.mpr ⟨cw_142, List.forall_mem_cons.mpr ⟨cw_143, List.forall_mem_cons.mpr ⟨cw_144, List.forall_mem_cons.mpr ⟨cw_145, List.forall_mem_cons.mpr ⟨cw_146, List.forall_mem_cons.mpr ⟨cw_147, List.forall_mem_cons.mpr ⟨cw_148, List.forall_mem_cons.mpr ⟨cw_149, List.forall_mem_cons.mpr ⟨cw_150, List.forall_mem_cons.mpr ⟨cw_151, List.forall_mem_cons.mpr ⟨cw_152, List.forall_mem_cons.mpr ⟨cw_153, List.forall_mem_cons.mpr ⟨cw_154, List.forall_mem_cons.mpr ⟨cw_155, List.forall_mem_cons.mpr ⟨cw_156, List.forall_mem_cons.mpr ⟨cw_157, List.forall_mem_cons.mpr ⟨cw_158, List.forall_mem_cons.mpr ⟨cw_159, List.forall_mem_cons.mpr ⟨cw_160, fun _ h => absurd h List.not_mem_nil⟩⟩⟩⟩⟩⟩⟩⟩⟩⟩⟩⟩⟩⟩⟩⟩⟩⟩⟩⟩
theorem cwg_8 : ∀ m ∈ [161, 162, 163, 164, 165, 166, 167, 168, 169, 170, 171, 172, 173, 174, 175, 176, 177, 178, 179, 180], Cond.code (ynm m) (byo m) (mlOf m) (rty m) ∈ lw_tbl := List.forall_mem_cons.mpr ⟨cw_161, List.forall_mem_cons.mpr ⟨cw_162, List.forall_mem_cons.mpr ⟨cw_163, List.forall_mem_cons.mpr ⟨cw_164, List.forall_mem_cons.mpr ⟨cw_165, List.forall_mem_cons.mpr ⟨cw_166, List.forall_mem_cons.mpr ⟨cw_167, List.forall_mem_cons.mpr ⟨cw_168, List.forall_mem_cons.mpr ⟨cw_169, List.forall_mem_cons.mpr ⟨cw_170, List.forall_mem_cons.mpr ⟨cw_171, List.forall_mem_cons.mpr ⟨cw_172, List.forall_mem_cons.mpr ⟨cw_173, List.forall_mem_cons.mpr ⟨cw_174, List.forall_mem_cons.mpr ⟨cw_175, List.forall_mem_cons.mpr ⟨cw_176, List.forall_mem_cons.mpr ⟨cw_177, List.forall_mem_cons.mpr ⟨cw_178, List.forall_mem_cons.mpr ⟨cw_179, List.forall_mem_cons.mpr ⟨cw_180, fun _ h => absurd h List.not_mem_nil⟩⟩⟩⟩⟩⟩⟩⟩⟩⟩⟩⟩⟩⟩⟩⟩⟩⟩⟩⟩
theorem cwg_9 : ∀ m ∈ [181, 182, 183, 184, 185, 186, 187, 188, 189, 190, 191, 192, 193, 194, 195, 196, 197, 198, 199, 200], Cond.code (ynm m) (byo m) (mlOf m) (rty m) ∈ lw_tbl := List.forall_mem_cons.mpr ⟨cw_181, List.forall_mem_cons.mpr ⟨cw_182, List.forall_mem_cons.mpr ⟨cw_183, List.forall_mem_cons.mpr ⟨cw_184, List.forall_mem_cons.mpr ⟨cw_185, List.forall_mem_cons.mpr ⟨cw_186, List.forall_mem_cons.mpr ⟨cw_187, List.forall_mem_cons.mpr ⟨cw_188, List.forall_mem_cons.mpr ⟨cw_189, List.forall_mem_cons.mpr ⟨cw_190, List.forall_mem_cons.mpr ⟨cw_191, List.forall_mem_cons.mpr ⟨cw_192, List.forall_mem_cons.mpr ⟨cw_193, List.forall_mem_cons.mpr ⟨cw_194, List.forall_mem_cons.mpr ⟨cw_195, List.forall_mem_cons.mpr ⟨cw_196, List.forall_mem_cons.mpr ⟨cw_197, List.forall_mem_cons.mpr ⟨cw_198, List.forall_mem_cons.mpr ⟨cw_199, List.forall_mem_cons.mpr ⟨cw_200, fun _ h => absurd h List.not_mem_nil⟩⟩⟩⟩⟩⟩⟩⟩⟩⟩⟩⟩⟩⟩⟩⟩⟩⟩⟩⟩
theorem cwg_10 : ∀ m ∈ [201, 202, 203, 204, 205, 206, 207, 208, 209, 210, 211, 212, 213, 214, 215, 216, 217, 218, 219, 220], Cond.code (ynm m) (byo m) (mlOf m) (rty m) ∈ lw_tbl := List.forall_mem_cons.mpr ⟨cw_201, List.forall_mem_cons.mpr ⟨cw_202, List.forall_mem_cons.mpr ⟨cw_203, List.forall_mem_cons.mpr ⟨cw_204, List.forall_mem_cons.mpr ⟨cw_205, List.forall_mem_cons.mpr ⟨cw_206, List.forall_mem_cons.mpr ⟨cw_207, List.forall_mem_cons.mpr ⟨cw_208, List.forall_mem_cons.mpr ⟨cw_209, List.forall_mem_cons.mpr ⟨cw_210, List.forall_mem_cons.mpr ⟨cw_211, List.forall_mem_cons.mpr ⟨cw_212, List.forall_mem_cons.mpr ⟨cw_213, List.forall_mem_cons.mpr ⟨cw_214, List.forall_mem_cons.mpr ⟨cw_215, List.forall_mem_cons.mpr ⟨cw_216, List.forall_mem_cons.mpr ⟨cw_217, List.forall_mem_cons.mpr ⟨cw_218, List.forall_mem_cons.mpr ⟨cw_219, List.forall_mem_cons.mpr ⟨cw_220, fun _ h => absurd h List.not_mem_nil⟩⟩⟩⟩⟩⟩⟩⟩⟩⟩⟩⟩⟩⟩⟩⟩⟩⟩⟩⟩
theorem cwg_11 : ∀ m ∈ [221, 222, 223, 224, 225, 226, 227, 228, 229, 230, 231, 232, 233, 234, 235, 236, 237, 238, 239, 240], Cond.code (ynm m) (byo m) (mlOf m) (rty m) ∈ lw_tbl := List.forall_mem_cons.mpr ⟨cw_221, List.forall_mem_cons.mpr ⟨cw_222, List.forall_mem_cons.mpr ⟨cw_223, List.forall_mem_cons.mpr ⟨cw_224, List.forall_mem_cons.mpr ⟨cw_225, List.forall_mem_cons.mpr ⟨cw_226, List.forall_mem_cons.mpr ⟨cw_227, List.forall_mem_cons.mpr ⟨cw_228, List.forall_mem_cons.mpr ⟨cw_229, List.forall_mem_cons.mpr ⟨cw_230, List.forall_mem_cons.mpr ⟨cw_231, List.forall_mem_cons.mpr ⟨cw_232, List.forall_mem_cons.mpr ⟨cw_233, List.forall_mem_cons.mpr ⟨cw_234, List.forall_mem_cons.mpr ⟨cw_235, List.forall_mem_cons.mpr ⟨cw_236, List.forall_mem_cons.mpr ⟨cw_237, List.forall_mem_cons.mpr ⟨cw_238, List.forall_mem_cons.mpr ⟨cw_239, List.forall_mem_cons.mpr ⟨cw_240, fun _ h => absurd h List.not_mem_nil⟩⟩⟩⟩⟩⟩⟩⟩⟩⟩⟩⟩⟩⟩⟩⟩⟩⟩⟩⟩
theorem cwg_12 : ∀ m ∈ [241, 242, 243, 244, 245, 246, 247, 248, 249, 250, 251, 252, 253, 254, 255, 256, 257, 258, 259, 260], Cond.code (ynm m) (byo m) (mlOf m) (rty m) ∈ lw_tbl := List.forall_mem_cons.mpr ⟨cw_241, List.forall_mem_cons.mpr ⟨cw_242, List.forall_mem_cons.mpr ⟨cw_243, List.forall_mem_cons.mpr ⟨cw_244, List.forall_mem_cons.mpr ⟨cw_245, List.forall_mem_cons.mpr ⟨cw_246, List.forall_mem_cons.mpr ⟨cw_247, List.forall_mem_cons.mpr ⟨cw_248, List.forall_mem_cons.mpr ⟨cw_249, List.forall_mem_cons.mpr ⟨cw_250, List.forall_mem_cons.mpr ⟨cw_251, List.forall_mem_cons.mpr ⟨cw_252, List.forall_mem_cons.mpr ⟨cw_253, List.forall_mem_cons.mpr ⟨cw_254, List.forall_mem_cons.mpr ⟨cw_255, List.forall_mem_cons.mpr ⟨cw_256, List.forall_mem_cons.mpr ⟨cw_257, List.forall_mem_cons.mpr ⟨cw_258, List.forall_mem_cons.mpr ⟨cw_259, List.forall_mem_cons.mpr ⟨cw_260, fun _ h => absurd h List.not_mem_nil⟩⟩⟩⟩⟩⟩⟩⟩⟩⟩⟩⟩⟩⟩⟩⟩⟩⟩⟩⟩
theorem cwg_13 : ∀ m ∈ [261, 262, 263, 264, 265, 266, 267, 268, 269, 270, 271, 272, 273, 274, 275, 276, 277, 278, 279, 280], Cond.code (ynm m) (byo m) (mlOf m) (rty m) ∈ lw_tbl := List.forall_mem_cons.mpr ⟨cw_261, List.forall_mem_cons.mpr ⟨cw_262, List.forall_mem_cons.mpr ⟨cw_263, List.forall_mem_cons.mpr ⟨cw_264, List.forall_mem_cons.mpr ⟨cw_265, List.forall_mem_cons.mpr ⟨cw_266, List.forall_mem_cons.mpr ⟨cw_267, List.forall_mem_cons.mpr ⟨cw_268, List.forall_mem_cons.mpr ⟨cw_269, List.forall_mem_cons.mpr ⟨cw_270, List.forall_mem_cons.mpr ⟨cw_271, List.forall_mem_cons.mpr ⟨cw_272, List.forall_mem_cons.mpr ⟨cw_273, List.forall_mem_cons.mpr ⟨cw_274, List.forall_mem_cons.mpr ⟨cw_275, List.forall_mem_cons.mpr ⟨cw_276, List.forall_mem_cons.mpr ⟨cw_277, List.forall_mem_cons.mpr ⟨cw_278, List.forall_mem_cons.mpr ⟨cw_279, List.forall_mem_cons.mpr ⟨cw_280, fun _ h => absurd h List.not_mem_nil⟩⟩⟩⟩⟩⟩⟩⟩⟩⟩⟩⟩⟩⟩⟩⟩⟩⟩⟩⟩
theorem cwg_14 : ∀ m ∈ [281, 282, 283, 284, 285, 286, 287, 288, 289, 290, 291, 292, 293, 294, 295, 296, 297, 298, 299, 300], Cond.code (ynm m) (byo m) (mlOf m) (rty m) ∈ lw_tbl := List.forall_mem_cons.mpr ⟨cw_281, List.forall_mem_cons.mpr ⟨cw_282, List.forall_mem_cons.mpr ⟨cw_283, List.forall_mem_cons.mpr ⟨cw_284, List.forall_mem_cons.mpr ⟨cw_285, List.forall_mem_cons.mpr ⟨cw_286, List.forall_mem_cons.mpr ⟨cw_287, List.forall_mem_cons.mpr ⟨cw_288, List.forall_mem_cons.mpr ⟨cw_289, List.forall_mem_cons.mpr ⟨cw_290, List.forall_mem_cons.mpr ⟨cw_291, List.forall_mem_cons.mpr ⟨cw_292, List.forall_mem_cons.mpr ⟨cw_293, List.forall_mem_cons.mpr ⟨cw_294, List.forall_mem_cons.mpr ⟨cw_295, List.forall_mem_cons.mpr ⟨cw_296, List.forall_mem_cons.mpr ⟨cw_297, List.forall_mem_cons.mpr ⟨cw_298, List.forall_mem_cons.mpr ⟨cw_299, List.forall_mem_cons.mpr ⟨cw_300, fun _ h => absurd h List.not_mem_nil⟩⟩⟩⟩⟩⟩⟩⟩⟩⟩⟩⟩⟩⟩⟩⟩⟩⟩⟩⟩
theorem cwg_15 : ∀ m ∈ [301, 302, 303, 304, 305, 306, 307, 308, 309, 310, 311, 312, 313, 314, 315, 316, 317, 318, 319, 320], Cond.code (ynm m) (byo m) (mlOf m) (rty m) ∈ lw_tbl := List.forall_mem_cons.mpr ⟨cw_301, List.forall_mem_cons.mpr ⟨cw_302, List.forall_mem_cons.mpr ⟨cw_303, List.forall_mem_cons.mpr ⟨cw_304, List.forall_mem_cons.mpr ⟨cw_305, List.forall_mem_cons.mpr ⟨cw_306, List.forall_mem_cons.mpr ⟨cw_307, List.forall_mem_cons.mpr ⟨cw_308, List.forall_mem_cons.mpr ⟨cw_309, List.forall_mem_cons.mpr ⟨cw_310, List.forall_mem_cons.mpr ⟨cw_311, List.forall_mem_cons.mpr ⟨cw_312, List.forall_mem_cons.mpr ⟨cw_313, List.forall_mem_cons.mpr ⟨cw_314, List.forall_mem_cons.mpr ⟨cw_315, List.forall_mem_cons.mpr ⟨cw_316, List.forall_mem_cons.mpr ⟨cw_317, List.forall_mem_cons.mpr ⟨cw_318, List.forall_mem_cons.mpr ⟨cw_319, List.forall_mem_cons.mpr ⟨cw_320, fun _ h => absurd h List.not_mem_nil⟩⟩⟩⟩⟩⟩⟩⟩⟩⟩⟩⟩⟩⟩⟩⟩⟩⟩⟩⟩
theorem cwg_16 : ∀ m ∈ [321, 322, 323, 324, 325, 326, 327, 328, 329, 330, 331, 332, 333, 334, 335, 336, 337], Cond.code (ynm m) (byo m) (mlOf m) (rty m) ∈ lw_tbl := List.forall_mem_cons.mpr ⟨cw_321, List.forall_mem_cons.mpr ⟨cw_322, List.forall_mem_cons.mpr ⟨cw_323, List.forall_mem_cons.mpr ⟨cw_324, List.forall_mem_cons.mpr ⟨cw_325, List.forall_mem_cons.mpr ⟨cw_326, List.forall_mem_cons.mpr ⟨cw_327, List.forall_mem_cons.mpr ⟨cw_328, List.forall_mem_cons.mpr ⟨cw_329, List.forall_mem_cons.mpr ⟨cw_330, List.forall_mem_cons.mpr ⟨cw_331, List.forall_mem_cons.mpr ⟨cw_332, List.forall_mem_cons.mpr ⟨cw_333, List.forall_mem_cons.mpr ⟨cw_334, List.forall_mem_cons.mpr ⟨cw_335, List.forall_mem_cons.mpr ⟨cw_336, List.forall_mem_cons.mpr ⟨cw_337, fun _ h => absurd h List.not_mem_nil⟩⟩⟩⟩⟩⟩⟩⟩⟩⟩⟩⟩⟩⟩⟩⟩⟩
noncomputable def mgs : List (List Nat) := [[1, 2, 3, 4, 5, 6, 7, 8, 9, 10, 11, 12, 13, 14, 15, 16, 17, 18, 19, 20], [21, 22, 23, 24, 25, 26, 27, 28, 29, 30, 31, 32, 33, 34, 35, 36, 37, 38, 39, 40], [41, 42, 43, 44, 45, 46, 47, 48, 49, 50, 51, 52, 53, 54, 55, 56, 57, 58, 59, 60], [61, 62, 63, 64, 65, 66, 67, 68, 69, 70, 71, 72, 73, 74, 75, 76, 77, 78, 79, 80], [81, 82, 83, 84, 85, 86, 87, 88, 89, 90, 91, 92, 93, 94, 95, 96, 97, 98, 99, 100], [101, 102, 103, 104, 105, 106, 107, 108, 109, 110, 111, 112, 113, 114, 115, 116, 117, 118, 119, 120], [121, 122, 123, 124, 125, 126, 127, 128, 129, 130, 131, 132, 133, 134, 135, 136, 137, 138, 139, 140], [141, 142, 143, 144, 145, 146, 147, 148, 149, 150, 151, 152, 153, 154, 155, 156, 157, 158, 159, 160], [161, 162, 163, 164, 165, 166, 167, 168, 169, 170, 171, 172, 173, 174, 175, 176, 177, 178, 179, 180], [181, 182, 183, 184, 185, 186, 187, 188, 189, 190, 191, 192, 193, 194, 195, 196, 197, 198, 199, 200], [201, 202, 203, 204, 205, 206, 207, 208, 209, 210, 211, 212, 213, 214, 215, 216, 217, 218, 219, 220], [221, 222, 223, 224, 225, 226, 227, 228, 229, 230, 231, 232, 233, 234, 235, 236, 237, 238, 239, 240], [241, 242, 243, 244, 245, 246, 247, 248, 249, 250, 251, 252, 253, 254, 255, 256, 257, 258, 259, 260], [261, 262, 263, 264, 265, 266, 267, 268, 269, 270, 271, 272, 273, 274, 275, 276, 277, 278, 279, 280], [281, 282, 283, 284, 285, 286, 287, 288, 289, 290, 291, 292, 293, 294, 295, 296, 297, 298, 299, 300], [301, 302, 303, 304, 305, 306, 307, 308, 309, 310, 311, 312, 313, 314, 315, 316, 317, 318, 319, 320], [321, 322, 323, 324, 325, 326, 327, 328, 329, 330, 331, 332, 333, 334, 335, 336, 337]]
theorem cw_all {m : Nat} (h1 : 1 ≤ m) (h2 : m < 338) : Cond.code (ynm m) (byo m) (mlOf m) (rty m) ∈ lw_tbl := by
  have key : ∀ g ∈ mgs, ∀ m ∈ g, Cond.code (ynm m) (byo m) (mlOf m) (rty m) ∈ lw_tbl := List.forall_mem_cons.mpr ⟨cwg_0, List.forall_mem_cons.mpr ⟨cwg_1, List.forall_mem_cons.mpr ⟨cwg_2, List.forall_mem_cons.mpr ⟨cwg_3, List.forall_mem_cons.mpr ⟨cwg_4, List.forall_mem_cons.mpr ⟨cwg_5, List.forall_mem_cons.mpr ⟨cwg_6, List.forall_mem_cons.mpr ⟨cwg_7, List.forall_mem_cons.mpr ⟨cwg_8, List.forall_mem_cons.mpr ⟨cwg_9, List.forall_mem_cons.mpr ⟨cwg_10, List.forall_mem_cons.mpr ⟨cwg_11, List.forall_mem_cons.mpr ⟨cwg_12, List.forall_mem_cons.mpr ⟨cwg_13, List.forall_mem_cons.mpr ⟨cwg_14, List.forall_mem_cons.mpr ⟨cwg_15, List.forall_mem_cons.mpr ⟨cwg_16, fun _ h => absurd h List.not_mem_nil⟩⟩⟩⟩⟩⟩⟩⟩⟩⟩⟩⟩⟩⟩⟩⟩⟩
  have hm : m ∈ mgs.flatten := by
    have e : mgs.flatten = List.range' 1 337 := by decide +kernel
    rw [e, List.mem_range'_1]
    omega
  obtain ⟨g, hg, hmg⟩ := List.mem_flatten.mp hm
  exact key g hg m hmg
