/-! the words of the methods, by their places in the tables -/
theorem ipzL {α : Type} (P : α → Cond) : ∀ (l : List α) (is : List Nat), (l.zip is).all (fun q => decide (lw_tbl[q.2]? = some (P q.1))) = true → l.length ≤ is.length → ∀ q ∈ l, P q ∈ lw_tbl
  | [], _, _, _, q, hq => by cases hq
  | x :: l, [], _, h2, q, hq => by simp at h2
  | x :: l, i :: is, h1, h2, q, hq => by
    rw [List.zip_cons_cons, List.all_cons, Bool.and_eq_true] at h1
    rcases List.mem_cons.mp hq with rfl | hq
    · exact List.mem_of_getElem? (of_decide_eq_true h1.1)
    · exact ipzL P l is h1.2 (by simpa using h2) q hq
def ipVM : List Nat := [1, 2, 3, 4, 5, 7, 8, 9, 11, 12, 13, 15, 16, 17, 18, 19, 20, 21, 22, 23, 24, 25, 26, 28, 30, 31, 32, 33, 34, 36, 37, 38, 39, 40, 41, 42, 43, 44, 45, 46, 47, 48, 49, 50, 51, 52, 53, 54, 55, 56, 57, 58, 59, 60, 61, 62, 63, 64, 66, 67, 68, 69, 70, 71, 72, 74, 75, 76, 77, 78, 79, 80, 81, 82, 83, 84, 85, 86, 87, 88, 89, 90, 92, 94, 96, 97, 98, 99, 100, 101, 102, 103, 104, 105, 106, 107, 108, 109, 110, 111, 112, 113, 114, 115, 116, 117, 118, 119, 120, 121, 122, 123, 124, 125, 126, 127, 128, 129, 130, 131, 132, 133, 134, 135, 136, 137, 138, 139, 140, 141, 142, 144, 145, 146, 147, 148, 149, 150]
def ipIM : List Nat := [0, 6, 10, 14, 27, 29, 35, 65, 73, 91]
set_option maxRecDepth 100000 in
theorem ipCodeX_0 : lw_tbl[68]? = some (Cond.code (ipY 0) (ipB 0) (ipM 0) (ipR 0)) := rfl
set_option maxRecDepth 100000 in
theorem ipCodeX_1 : lw_tbl[261]? = some (Cond.code (ipY 1) (ipB 1) (ipM 1) (ipR 1)) := rfl
set_option maxRecDepth 100000 in
theorem ipCodeX_2 : lw_tbl[208]? = some (Cond.code (ipY 2) (ipB 2) (ipM 2) (ipR 2)) := rfl
set_option maxRecDepth 100000 in
theorem ipCodeX_3 : lw_tbl[331]? = some (Cond.code (ipY 3) (ipB 3) (ipM 3) (ipR 3)) := rfl
set_option maxRecDepth 100000 in
theorem ipCodeX_4 : lw_tbl[415]? = some (Cond.code (ipY 4) (ipB 4) (ipM 4) (ipR 4)) := rfl
set_option maxRecDepth 100000 in
theorem ipCodeX_5 : lw_tbl[706]? = some (Cond.code (ipY 5) (ipB 5) (ipM 5) (ipR 5)) := rfl
set_option maxRecDepth 100000 in
theorem ipCodeX_6 : lw_tbl[510]? = some (Cond.code (ipY 6) (ipB 6) (ipM 6) (ipR 6)) := rfl
set_option maxRecDepth 100000 in
theorem ipCodeX_7 : lw_tbl[648]? = some (Cond.code (ipY 7) (ipB 7) (ipM 7) (ipR 7)) := rfl
set_option maxRecDepth 100000 in
theorem ipCodeX_8 : lw_tbl[644]? = some (Cond.code (ipY 8) (ipB 8) (ipM 8) (ipR 8)) := rfl
set_option maxRecDepth 100000 in
theorem ipCodeX_9 : lw_tbl[680]? = some (Cond.code (ipY 9) (ipB 9) (ipM 9) (ipR 9)) := rfl
set_option maxRecDepth 100000 in
theorem ipCodeX_10 : lw_tbl[81]? = some (Cond.code (ipY 10) (ipB 10) (ipM 10) (ipR 10)) := rfl
set_option maxRecDepth 100000 in
theorem ipCodeX_11 : lw_tbl[378]? = some (Cond.code (ipY 11) (ipB 11) (ipM 11) (ipR 11)) := rfl
set_option maxRecDepth 100000 in
theorem ipCodeX_12 : lw_tbl[370]? = some (Cond.code (ipY 12) (ipB 12) (ipM 12) (ipR 12)) := rfl
set_option maxRecDepth 100000 in
theorem ipCodeX_13 : lw_tbl[407]? = some (Cond.code (ipY 13) (ipB 13) (ipM 13) (ipR 13)) := rfl
set_option maxRecDepth 100000 in
theorem ipCodeX_14 : lw_tbl[461]? = some (Cond.code (ipY 14) (ipB 14) (ipM 14) (ipR 14)) := rfl
set_option maxRecDepth 100000 in
theorem ipCodeX_15 : lw_tbl[586]? = some (Cond.code (ipY 15) (ipB 15) (ipM 15) (ipR 15)) := rfl
set_option maxRecDepth 100000 in
theorem ipCodeX_16 : lw_tbl[590]? = some (Cond.code (ipY 16) (ipB 16) (ipM 16) (ipR 16)) := rfl
set_option maxRecDepth 100000 in
theorem ipCodeX_17 : lw_tbl[594]? = some (Cond.code (ipY 17) (ipB 17) (ipM 17) (ipR 17)) := rfl
set_option maxRecDepth 100000 in
theorem ipCodeX_18 : lw_tbl[632]? = some (Cond.code (ipY 18) (ipB 18) (ipM 18) (ipR 18)) := rfl
set_option maxRecDepth 100000 in
theorem ipCodeX_19 : lw_tbl[602]? = some (Cond.code (ipY 19) (ipB 19) (ipM 19) (ipR 19)) := rfl
set_option maxRecDepth 100000 in
theorem ipCodeX_20 : lw_tbl[620]? = some (Cond.code (ipY 20) (ipB 20) (ipM 20) (ipR 20)) := rfl
set_option maxRecDepth 100000 in
theorem ipCodeX_21 : lw_tbl[606]? = some (Cond.code (ipY 21) (ipB 21) (ipM 21) (ipR 21)) := rfl
set_option maxRecDepth 100000 in
theorem ipCodeX_22 : lw_tbl[615]? = some (Cond.code (ipY 22) (ipB 22) (ipM 22) (ipR 22)) := rfl
set_option maxRecDepth 100000 in
theorem ipCodeX_23 : lw_tbl[610]? = some (Cond.code (ipY 23) (ipB 23) (ipM 23) (ipR 23)) := rfl
set_option maxRecDepth 100000 in
theorem ipCodeX_24 : lw_tbl[624]? = some (Cond.code (ipY 24) (ipB 24) (ipM 24) (ipR 24)) := rfl
set_option maxRecDepth 100000 in
theorem ipCodeX_25 : lw_tbl[628]? = some (Cond.code (ipY 25) (ipB 25) (ipM 25) (ipR 25)) := rfl
set_option maxRecDepth 100000 in
theorem ipCodeX_26 : lw_tbl[636]? = some (Cond.code (ipY 26) (ipB 26) (ipM 26) (ipR 26)) := rfl
set_option maxRecDepth 100000 in
theorem ipCodeX_27 : lw_tbl[74]? = some (Cond.code (ipY 27) (ipB 27) (ipM 27) (ipR 27)) := rfl
set_option maxRecDepth 100000 in
theorem ipCodeX_28 : lw_tbl[697]? = some (Cond.code (ipY 28) (ipB 28) (ipM 28) (ipR 28)) := rfl
set_option maxRecDepth 100000 in
theorem ipCodeX_29 : lw_tbl[438]? = some (Cond.code (ipY 29) (ipB 29) (ipM 29) (ipR 29)) := rfl
set_option maxRecDepth 100000 in
theorem ipCodeX_30 : lw_tbl[570]? = some (Cond.code (ipY 30) (ipB 30) (ipM 30) (ipR 30)) := rfl
set_option maxRecDepth 100000 in
theorem ipCodeX_31 : lw_tbl[574]? = some (Cond.code (ipY 31) (ipB 31) (ipM 31) (ipR 31)) := rfl
set_option maxRecDepth 100000 in
theorem ipCodeX_32 : lw_tbl[598]? = some (Cond.code (ipY 32) (ipB 32) (ipM 32) (ipR 32)) := rfl
set_option maxRecDepth 100000 in
theorem ipCodeX_33 : lw_tbl[578]? = some (Cond.code (ipY 33) (ipB 33) (ipM 33) (ipR 33)) := rfl
set_option maxRecDepth 100000 in
theorem ipCodeX_34 : lw_tbl[582]? = some (Cond.code (ipY 34) (ipB 34) (ipM 34) (ipR 34)) := rfl
set_option maxRecDepth 100000 in
theorem ipCodeX_35 : lw_tbl[135]? = some (Cond.code (ipY 35) (ipB 35) (ipM 35) (ipR 35)) := rfl
set_option maxRecDepth 100000 in
theorem ipCodeX_36 : lw_tbl[269]? = some (Cond.code (ipY 36) (ipB 36) (ipM 36) (ipR 36)) := rfl
set_option maxRecDepth 100000 in
theorem ipCodeX_37 : lw_tbl[281]? = some (Cond.code (ipY 37) (ipB 37) (ipM 37) (ipR 37)) := rfl
set_option maxRecDepth 100000 in
theorem ipCodeX_38 : lw_tbl[299]? = some (Cond.code (ipY 38) (ipB 38) (ipM 38) (ipR 38)) := rfl
set_option maxRecDepth 100000 in
theorem ipCodeX_39 : lw_tbl[273]? = some (Cond.code (ipY 39) (ipB 39) (ipM 39) (ipR 39)) := rfl
set_option maxRecDepth 100000 in
theorem ipCodeX_40 : lw_tbl[287]? = some (Cond.code (ipY 40) (ipB 40) (ipM 40) (ipR 40)) := rfl
set_option maxRecDepth 100000 in
theorem ipCodeX_41 : lw_tbl[291]? = some (Cond.code (ipY 41) (ipB 41) (ipM 41) (ipR 41)) := rfl
set_option maxRecDepth 100000 in
theorem ipCodeX_42 : lw_tbl[305]? = some (Cond.code (ipY 42) (ipB 42) (ipM 42) (ipR 42)) := rfl
set_option maxRecDepth 100000 in
theorem ipCodeX_43 : lw_tbl[327]? = some (Cond.code (ipY 43) (ipB 43) (ipM 43) (ipR 43)) := rfl
set_option maxRecDepth 100000 in
theorem ipCodeX_44 : lw_tbl[322]? = some (Cond.code (ipY 44) (ipB 44) (ipM 44) (ipR 44)) := rfl
set_option maxRecDepth 100000 in
theorem ipCodeX_45 : lw_tbl[317]? = some (Cond.code (ipY 45) (ipB 45) (ipM 45) (ipR 45)) := rfl
set_option maxRecDepth 100000 in
theorem ipCodeX_46 : lw_tbl[383]? = some (Cond.code (ipY 46) (ipB 46) (ipM 46) (ipR 46)) := rfl
set_option maxRecDepth 100000 in
theorem ipCodeX_47 : lw_tbl[387]? = some (Cond.code (ipY 47) (ipB 47) (ipM 47) (ipR 47)) := rfl
set_option maxRecDepth 100000 in
theorem ipCodeX_48 : lw_tbl[396]? = some (Cond.code (ipY 48) (ipB 48) (ipM 48) (ipR 48)) := rfl
set_option maxRecDepth 100000 in
theorem ipCodeX_49 : lw_tbl[216]? = some (Cond.code (ipY 49) (ipB 49) (ipM 49) (ipR 49)) := rfl
set_option maxRecDepth 100000 in
theorem ipCodeX_50 : lw_tbl[220]? = some (Cond.code (ipY 50) (ipB 50) (ipM 50) (ipR 50)) := rfl
set_option maxRecDepth 100000 in
theorem ipCodeX_51 : lw_tbl[212]? = some (Cond.code (ipY 51) (ipB 51) (ipM 51) (ipR 51)) := rfl
set_option maxRecDepth 100000 in
theorem ipCodeX_52 : lw_tbl[339]? = some (Cond.code (ipY 52) (ipB 52) (ipM 52) (ipR 52)) := rfl
set_option maxRecDepth 100000 in
theorem ipCodeX_53 : lw_tbl[562]? = some (Cond.code (ipY 53) (ipB 53) (ipM 53) (ipR 53)) := rfl
set_option maxRecDepth 100000 in
theorem ipCodeX_54 : lw_tbl[335]? = some (Cond.code (ipY 54) (ipB 54) (ipM 54) (ipR 54)) := rfl
set_option maxRecDepth 100000 in
theorem ipCodeX_55 : lw_tbl[346]? = some (Cond.code (ipY 55) (ipB 55) (ipM 55) (ipR 55)) := rfl
set_option maxRecDepth 100000 in
theorem ipCodeX_56 : lw_tbl[350]? = some (Cond.code (ipY 56) (ipB 56) (ipM 56) (ipR 56)) := rfl
set_option maxRecDepth 100000 in
theorem ipCodeX_57 : lw_tbl[354]? = some (Cond.code (ipY 57) (ipB 57) (ipM 57) (ipR 57)) := rfl
set_option maxRecDepth 100000 in
theorem ipCodeX_58 : lw_tbl[362]? = some (Cond.code (ipY 58) (ipB 58) (ipM 58) (ipR 58)) := rfl
set_option maxRecDepth 100000 in
theorem ipCodeX_59 : lw_tbl[358]? = some (Cond.code (ipY 59) (ipB 59) (ipM 59) (ipR 59)) := rfl
set_option maxRecDepth 100000 in
theorem ipCodeX_60 : lw_tbl[366]? = some (Cond.code (ipY 60) (ipB 60) (ipM 60) (ipR 60)) := rfl
set_option maxRecDepth 100000 in
theorem ipCodeX_61 : lw_tbl[224]? = some (Cond.code (ipY 61) (ipB 61) (ipM 61) (ipR 61)) := rfl
set_option maxRecDepth 100000 in
theorem ipCodeX_62 : lw_tbl[228]? = some (Cond.code (ipY 62) (ipB 62) (ipM 62) (ipR 62)) := rfl
set_option maxRecDepth 100000 in
theorem ipCodeX_63 : lw_tbl[232]? = some (Cond.code (ipY 63) (ipB 63) (ipM 63) (ipR 63)) := rfl
set_option maxRecDepth 100000 in
theorem ipCodeX_64 : lw_tbl[236]? = some (Cond.code (ipY 64) (ipB 64) (ipM 64) (ipR 64)) := rfl
set_option maxRecDepth 100000 in
theorem ipCodeX_65 : lw_tbl[432]? = some (Cond.code (ipY 65) (ipB 65) (ipM 65) (ipR 65)) := rfl
set_option maxRecDepth 100000 in
theorem ipCodeX_66 : lw_tbl[558]? = some (Cond.code (ipY 66) (ipB 66) (ipM 66) (ipR 66)) := rfl
set_option maxRecDepth 100000 in
theorem ipCodeX_67 : lw_tbl[688]? = some (Cond.code (ipY 67) (ipB 67) (ipM 67) (ipR 67)) := rfl
set_option maxRecDepth 100000 in
theorem ipCodeX_68 : lw_tbl[566]? = some (Cond.code (ipY 68) (ipB 68) (ipM 68) (ipR 68)) := rfl
set_option maxRecDepth 100000 in
theorem ipCodeX_69 : lw_tbl[640]? = some (Cond.code (ipY 69) (ipB 69) (ipM 69) (ipR 69)) := rfl
set_option maxRecDepth 100000 in
theorem ipCodeX_70 : lw_tbl[654]? = some (Cond.code (ipY 70) (ipB 70) (ipM 70) (ipR 70)) := rfl
set_option maxRecDepth 100000 in
theorem ipCodeX_71 : lw_tbl[659]? = some (Cond.code (ipY 71) (ipB 71) (ipM 71) (ipR 71)) := rfl
set_option maxRecDepth 100000 in
theorem ipCodeX_72 : lw_tbl[663]? = some (Cond.code (ipY 72) (ipB 72) (ipM 72) (ipR 72)) := rfl
set_option maxRecDepth 100000 in
theorem ipCodeX_73 : lw_tbl[60]? = some (Cond.code (ipY 73) (ipB 73) (ipM 73) (ipR 73)) := rfl
set_option maxRecDepth 100000 in
theorem ipCodeX_74 : lw_tbl[253]? = some (Cond.code (ipY 74) (ipB 74) (ipM 74) (ipR 74)) := rfl
set_option maxRecDepth 100000 in
theorem ipCodeX_75 : lw_tbl[257]? = some (Cond.code (ipY 75) (ipB 75) (ipM 75) (ipR 75)) := rfl
set_option maxRecDepth 100000 in
theorem ipCodeX_76 : lw_tbl[265]? = some (Cond.code (ipY 76) (ipB 76) (ipM 76) (ipR 76)) := rfl
set_option maxRecDepth 100000 in
theorem ipCodeX_77 : lw_tbl[277]? = some (Cond.code (ipY 77) (ipB 77) (ipM 77) (ipR 77)) := rfl
set_option maxRecDepth 100000 in
theorem ipCodeX_78 : lw_tbl[295]? = some (Cond.code (ipY 78) (ipB 78) (ipM 78) (ipR 78)) := rfl
set_option maxRecDepth 100000 in
theorem ipCodeX_79 : lw_tbl[309]? = some (Cond.code (ipY 79) (ipB 79) (ipM 79) (ipR 79)) := rfl
set_option maxRecDepth 100000 in
theorem ipCodeX_80 : lw_tbl[313]? = some (Cond.code (ipY 80) (ipB 80) (ipM 80) (ipR 80)) := rfl
set_option maxRecDepth 100000 in
theorem ipCodeX_81 : lw_tbl[374]? = some (Cond.code (ipY 81) (ipB 81) (ipM 81) (ipR 81)) := rfl
set_option maxRecDepth 100000 in
theorem ipCodeX_82 : lw_tbl[392]? = some (Cond.code (ipY 82) (ipB 82) (ipM 82) (ipR 82)) := rfl
set_option maxRecDepth 100000 in
theorem ipCodeX_83 : lw_tbl[403]? = some (Cond.code (ipY 83) (ipB 83) (ipM 83) (ipR 83)) := rfl
set_option maxRecDepth 100000 in
theorem ipCodeX_84 : lw_tbl[411]? = some (Cond.code (ipY 84) (ipB 84) (ipM 84) (ipR 84)) := rfl
set_option maxRecDepth 100000 in
theorem ipCodeX_85 : lw_tbl[419]? = some (Cond.code (ipY 85) (ipB 85) (ipM 85) (ipR 85)) := rfl
set_option maxRecDepth 100000 in
theorem ipCodeX_86 : lw_tbl[423]? = some (Cond.code (ipY 86) (ipB 86) (ipM 86) (ipR 86)) := rfl
set_option maxRecDepth 100000 in
theorem ipCodeX_87 : lw_tbl[684]? = some (Cond.code (ipY 87) (ipB 87) (ipM 87) (ipR 87)) := rfl
set_option maxRecDepth 100000 in
theorem ipCodeX_88 : lw_tbl[427]? = some (Cond.code (ipY 88) (ipB 88) (ipM 88) (ipR 88)) := rfl
set_option maxRecDepth 100000 in
theorem ipCodeX_89 : lw_tbl[692]? = some (Cond.code (ipY 89) (ipB 89) (ipM 89) (ipR 89)) := rfl
set_option maxRecDepth 100000 in
theorem ipCodeX_90 : lw_tbl[702]? = some (Cond.code (ipY 90) (ipB 90) (ipM 90) (ipR 90)) := rfl
set_option maxRecDepth 100000 in
theorem ipCodeX_91 : lw_tbl[713]? = some (Cond.code (ipY 91) (ipB 91) (ipM 91) (ipR 91)) := rfl
set_option maxRecDepth 100000 in
theorem ipCodeX_92 : lw_tbl[721]? = some (Cond.code (ipY 92) (ipB 92) (ipM 92) (ipR 92)) := rfl
set_option maxRecDepth 100000 in
theorem ipCodeX_93 : lw_tbl[724]? = some (Cond.code (ipY 93) (ipB 93) (ipM 93) (ipR 93)) := rfl
set_option maxRecDepth 100000 in
theorem ipCodeX_94 : lw_tbl[786]? = some (Cond.code (ipY 94) (ipB 94) (ipM 94) (ipR 94)) := rfl
set_option maxRecDepth 100000 in
theorem ipCodeX_95 : lw_tbl[809]? = some (Cond.code (ipY 95) (ipB 95) (ipM 95) (ipR 95)) := rfl
set_option maxRecDepth 100000 in
theorem ipCodeX_96 : lw_tbl[778]? = some (Cond.code (ipY 96) (ipB 96) (ipM 96) (ipR 96)) := rfl
set_option maxRecDepth 100000 in
theorem ipCodeX_97 : lw_tbl[825]? = some (Cond.code (ipY 97) (ipB 97) (ipM 97) (ipR 97)) := rfl
set_option maxRecDepth 100000 in
theorem ipCodeX_98 : lw_tbl[841]? = some (Cond.code (ipY 98) (ipB 98) (ipM 98) (ipR 98)) := rfl
set_option maxRecDepth 100000 in
theorem ipCodeX_99 : lw_tbl[877]? = some (Cond.code (ipY 99) (ipB 99) (ipM 99) (ipR 99)) := rfl
set_option maxRecDepth 100000 in
theorem ipCodeX_100 : lw_tbl[869]? = some (Cond.code (ipY 100) (ipB 100) (ipM 100) (ipR 100)) := rfl
set_option maxRecDepth 100000 in
theorem ipCodeX_101 : lw_tbl[881]? = some (Cond.code (ipY 101) (ipB 101) (ipM 101) (ipR 101)) := rfl
set_option maxRecDepth 100000 in
theorem ipCodeX_102 : lw_tbl[873]? = some (Cond.code (ipY 102) (ipB 102) (ipM 102) (ipR 102)) := rfl
set_option maxRecDepth 100000 in
theorem ipCodeX_103 : lw_tbl[893]? = some (Cond.code (ipY 103) (ipB 103) (ipM 103) (ipR 103)) := rfl
set_option maxRecDepth 100000 in
theorem ipCodeX_104 : lw_tbl[889]? = some (Cond.code (ipY 104) (ipB 104) (ipM 104) (ipR 104)) := rfl
set_option maxRecDepth 100000 in
theorem ipCodeX_105 : lw_tbl[837]? = some (Cond.code (ipY 105) (ipB 105) (ipM 105) (ipR 105)) := rfl
set_option maxRecDepth 100000 in
theorem ipCodeX_106 : lw_tbl[853]? = some (Cond.code (ipY 106) (ipB 106) (ipM 106) (ipR 106)) := rfl
set_option maxRecDepth 100000 in
theorem ipCodeX_107 : lw_tbl[865]? = some (Cond.code (ipY 107) (ipB 107) (ipM 107) (ipR 107)) := rfl
set_option maxRecDepth 100000 in
theorem ipCodeX_108 : lw_tbl[861]? = some (Cond.code (ipY 108) (ipB 108) (ipM 108) (ipR 108)) := rfl
set_option maxRecDepth 100000 in
theorem ipCodeX_109 : lw_tbl[885]? = some (Cond.code (ipY 109) (ipB 109) (ipM 109) (ipR 109)) := rfl
set_option maxRecDepth 100000 in
theorem ipCodeX_110 : lw_tbl[897]? = some (Cond.code (ipY 110) (ipB 110) (ipM 110) (ipR 110)) := rfl
set_option maxRecDepth 100000 in
theorem ipCodeX_111 : lw_tbl[901]? = some (Cond.code (ipY 111) (ipB 111) (ipM 111) (ipR 111)) := rfl
set_option maxRecDepth 100000 in
theorem ipCodeX_112 : lw_tbl[909]? = some (Cond.code (ipY 112) (ipB 112) (ipM 112) (ipR 112)) := rfl
set_option maxRecDepth 100000 in
theorem ipCodeX_113 : lw_tbl[821]? = some (Cond.code (ipY 113) (ipB 113) (ipM 113) (ipR 113)) := rfl
set_option maxRecDepth 100000 in
theorem ipCodeX_114 : lw_tbl[913]? = some (Cond.code (ipY 114) (ipB 114) (ipM 114) (ipR 114)) := rfl
set_option maxRecDepth 100000 in
theorem ipCodeX_115 : lw_tbl[921]? = some (Cond.code (ipY 115) (ipB 115) (ipM 115) (ipR 115)) := rfl
set_option maxRecDepth 100000 in
theorem ipCodeX_116 : lw_tbl[917]? = some (Cond.code (ipY 116) (ipB 116) (ipM 116) (ipR 116)) := rfl
set_option maxRecDepth 100000 in
theorem ipCodeX_117 : lw_tbl[782]? = some (Cond.code (ipY 117) (ipB 117) (ipM 117) (ipR 117)) := rfl
set_option maxRecDepth 100000 in
theorem ipCodeX_118 : lw_tbl[790]? = some (Cond.code (ipY 118) (ipB 118) (ipM 118) (ipR 118)) := rfl
set_option maxRecDepth 100000 in
theorem ipCodeX_119 : lw_tbl[794]? = some (Cond.code (ipY 119) (ipB 119) (ipM 119) (ipR 119)) := rfl
set_option maxRecDepth 100000 in
theorem ipCodeX_120 : lw_tbl[798]? = some (Cond.code (ipY 120) (ipB 120) (ipM 120) (ipR 120)) := rfl
set_option maxRecDepth 100000 in
theorem ipCodeX_121 : lw_tbl[806]? = some (Cond.code (ipY 121) (ipB 121) (ipM 121) (ipR 121)) := rfl
set_option maxRecDepth 100000 in
theorem ipCodeX_122 : lw_tbl[817]? = some (Cond.code (ipY 122) (ipB 122) (ipM 122) (ipR 122)) := rfl
set_option maxRecDepth 100000 in
theorem ipCodeX_123 : lw_tbl[833]? = some (Cond.code (ipY 123) (ipB 123) (ipM 123) (ipR 123)) := rfl
set_option maxRecDepth 100000 in
theorem ipCodeX_124 : lw_tbl[802]? = some (Cond.code (ipY 124) (ipB 124) (ipM 124) (ipR 124)) := rfl
set_option maxRecDepth 100000 in
theorem ipCodeX_125 : lw_tbl[813]? = some (Cond.code (ipY 125) (ipB 125) (ipM 125) (ipR 125)) := rfl
set_option maxRecDepth 100000 in
theorem ipCodeX_126 : lw_tbl[829]? = some (Cond.code (ipY 126) (ipB 126) (ipM 126) (ipR 126)) := rfl
set_option maxRecDepth 100000 in
theorem ipCodeX_127 : lw_tbl[845]? = some (Cond.code (ipY 127) (ipB 127) (ipM 127) (ipR 127)) := rfl
set_option maxRecDepth 100000 in
theorem ipCodeX_128 : lw_tbl[857]? = some (Cond.code (ipY 128) (ipB 128) (ipM 128) (ipR 128)) := rfl
set_option maxRecDepth 100000 in
theorem ipCodeX_129 : lw_tbl[849]? = some (Cond.code (ipY 129) (ipB 129) (ipM 129) (ipR 129)) := rfl
set_option maxRecDepth 100000 in
theorem ipCodeX_130 : lw_tbl[905]? = some (Cond.code (ipY 130) (ipB 130) (ipM 130) (ipR 130)) := rfl
set_option maxRecDepth 100000 in
theorem ipCodeX_131 : lw_tbl[929]? = some (Cond.code (ipY 131) (ipB 131) (ipM 131) (ipR 131)) := rfl
set_option maxRecDepth 100000 in
theorem ipCodeX_132 : lw_tbl[925]? = some (Cond.code (ipY 132) (ipB 132) (ipM 132) (ipR 132)) := rfl
set_option maxRecDepth 100000 in
theorem ipCodeX_133 : lw_tbl[933]? = some (Cond.code (ipY 133) (ipB 133) (ipM 133) (ipR 133)) := rfl
set_option maxRecDepth 100000 in
theorem ipCodeX_134 : lw_tbl[937]? = some (Cond.code (ipY 134) (ipB 134) (ipM 134) (ipR 134)) := rfl
set_option maxRecDepth 100000 in
theorem ipCodeX_135 : lw_tbl[941]? = some (Cond.code (ipY 135) (ipB 135) (ipM 135) (ipR 135)) := rfl
set_option maxRecDepth 100000 in
theorem ipCodeX_136 : lw_tbl[957]? = some (Cond.code (ipY 136) (ipB 136) (ipM 136) (ipR 136)) := rfl
set_option maxRecDepth 100000 in
theorem ipCodeX_137 : lw_tbl[961]? = some (Cond.code (ipY 137) (ipB 137) (ipM 137) (ipR 137)) := rfl
set_option maxRecDepth 100000 in
theorem ipCodeX_138 : lw_tbl[965]? = some (Cond.code (ipY 138) (ipB 138) (ipM 138) (ipR 138)) := rfl
set_option maxRecDepth 100000 in
theorem ipCodeX_139 : lw_tbl[969]? = some (Cond.code (ipY 139) (ipB 139) (ipM 139) (ipR 139)) := rfl
set_option maxRecDepth 100000 in
theorem ipCodeX_140 : lw_tbl[977]? = some (Cond.code (ipY 140) (ipB 140) (ipM 140) (ipR 140)) := rfl
set_option maxRecDepth 100000 in
theorem ipCodeX_141 : lw_tbl[981]? = some (Cond.code (ipY 141) (ipB 141) (ipM 141) (ipR 141)) := rfl
set_option maxRecDepth 100000 in
theorem ipCodeX_142 : lw_tbl[985]? = some (Cond.code (ipY 142) (ipB 142) (ipM 142) (ipR 142)) := rfl
set_option maxRecDepth 100000 in
theorem ipCodeX_143 : lw_tbl[952]? = some (Cond.code (ipY 143) (ipB 143) (ipM 143) (ipR 143)) := rfl
set_option maxRecDepth 100000 in
theorem ipCodeX_144 : lw_tbl[949]? = some (Cond.code (ipY 144) (ipB 144) (ipM 144) (ipR 144)) := rfl
set_option maxRecDepth 100000 in
theorem ipCodeX_145 : lw_tbl[973]? = some (Cond.code (ipY 145) (ipB 145) (ipM 145) (ipR 145)) := rfl
set_option maxRecDepth 100000 in
theorem ipCodeX_146 : lw_tbl[989]? = some (Cond.code (ipY 146) (ipB 146) (ipM 146) (ipR 146)) := rfl
set_option maxRecDepth 100000 in
theorem ipCodeX_147 : lw_tbl[945]? = some (Cond.code (ipY 147) (ipB 147) (ipM 147) (ipR 147)) := rfl
set_option maxRecDepth 100000 in
theorem ipCodeX_148 : lw_tbl[993]? = some (Cond.code (ipY 148) (ipB 148) (ipM 148) (ipR 148)) := rfl
set_option maxRecDepth 100000 in
theorem ipCodeX_149 : lw_tbl[997]? = some (Cond.code (ipY 149) (ipB 149) (ipM 149) (ipR 149)) := rfl
set_option maxRecDepth 100000 in
theorem ipCodeX_150 : lw_tbl[1001]? = some (Cond.code (ipY 150) (ipB 150) (ipM 150) (ipR 150)) := rfl
set_option maxRecDepth 100000 in
theorem ipCodeX_151 : lw_tbl[675]? = some (Cond.code (ipY 151) (ipB 151) (ipM 151) (ipR 151)) := rfl
theorem ipCodeW_0 : ∀ q ∈ ([0, 1, 2, 3, 4, 5, 6, 7, 8, 9, 10, 11, 12, 13, 14, 15, 16, 17, 18, 19, 20, 21, 22, 23, 24, 25, 26, 27, 28, 29, 30, 31, 32, 33, 34, 35, 36, 37, 38, 39] : List Nat), Cond.code (ipY q) (ipB q) (ipM q) (ipR q) ∈ lw_tbl := List.forall_mem_cons.mpr ⟨List.mem_of_getElem? ipCodeX_0, List.forall_mem_cons.mpr ⟨List.mem_of_getElem? ipCodeX_1, List.forall_mem_cons.mpr ⟨List.mem_of_getElem? ipCodeX_2, List.forall_mem_cons.mpr ⟨List.mem_of_getElem? ipCodeX_3, List.forall_mem_cons.mpr ⟨List.mem_of_getElem? ipCodeX_4, List.forall_mem_cons.mpr ⟨List.mem_of_getElem? ipCodeX_5, List.forall_mem_cons.mpr ⟨List.mem_of_getElem? ipCodeX_6, List.forall_mem_cons.mpr ⟨List.mem_of_getElem? ipCodeX_7, List.forall_mem_cons.mpr ⟨List.mem_of_getElem? ipCodeX_8, List.forall_mem_cons.mpr ⟨List.mem_of_getElem? ipCodeX_9, List.forall_mem_cons.mpr ⟨List.mem_of_getElem? ipCodeX_10, List.forall_mem_cons.mpr ⟨List.mem_of_getElem? ipCodeX_11, List.forall_mem_cons.mpr ⟨List.mem_of_getElem? ipCodeX_12, List.forall_mem_cons.mpr ⟨List.mem_of_getElem? ipCodeX_13, List.forall_mem_cons.mpr ⟨List.mem_of_getElem? ipCodeX_14, List.forall_mem_cons.mpr ⟨List.mem_of_getElem? ipCodeX_15, List.forall_mem_cons.mpr ⟨List.mem_of_getElem? ipCodeX_16, List.forall_mem_cons.mpr ⟨List.mem_of_getElem? ipCodeX_17, List.forall_mem_cons.mpr ⟨List.mem_of_getElem? ipCodeX_18, List.forall_mem_cons.mpr ⟨List.mem_of_getElem? ipCodeX_19, List.forall_mem_cons.mpr ⟨List.mem_of_getElem? ipCodeX_20, List.forall_mem_cons.mpr ⟨List.mem_of_getElem? ipCodeX_21, List.forall_mem_cons.mpr ⟨List.mem_of_getElem? ipCodeX_22, List.forall_mem_cons.mpr ⟨List.mem_of_getElem? ipCodeX_23, List.forall_mem_cons.mpr ⟨List.mem_of_getElem? ipCodeX_24, List.forall_mem_cons.mpr ⟨List.mem_of_getElem? ipCodeX_25, List.forall_mem_cons.mpr ⟨List.mem_of_getElem? ipCodeX_26, List.forall_mem_cons.mpr ⟨List.mem_of_getElem? ipCodeX_27, List.forall_mem_cons.mpr ⟨List.mem_of_getElem? ipCodeX_28, List.forall_mem_cons.mpr ⟨List.mem_of_getElem? ipCodeX_29, List.forall_mem_cons.mpr ⟨List.mem_of_getElem? ipCodeX_30, List.forall_mem_cons.mpr ⟨List.mem_of_getElem? ipCodeX_31, List.forall_mem_cons.mpr ⟨List.mem_of_getElem? ipCodeX_32, List.forall_mem_cons.mpr ⟨List.mem_of_getElem? ipCodeX_33, List.forall_mem_cons.mpr ⟨List.mem_of_getElem? ipCodeX_34, List.forall_mem_cons.mpr ⟨List.mem_of_getElem? ipCodeX_35, List.forall_mem_cons.mpr ⟨List.mem_of_getElem? ipCodeX_36, List.forall_mem_cons.mpr ⟨List.mem_of_getElem? ipCodeX_37, List.forall_mem_cons.mpr ⟨List.mem_of_getElem? ipCodeX_38, List.forall_mem_cons.mpr ⟨List.mem_of_getElem? ipCodeX_39, fun _ h => absurd h List.not_mem_nil⟩⟩⟩⟩⟩⟩⟩⟩⟩⟩⟩⟩⟩⟩⟩⟩⟩⟩⟩⟩⟩⟩⟩⟩⟩⟩⟩⟩⟩⟩⟩⟩⟩⟩⟩⟩⟩⟩⟩⟩
theorem ipCodeW_1 : ∀ q ∈ ([40, 41, 42, 43, 44, 45, 46, 47, 48, 49, 50, 51, 52, 53, 54, 55, 56, 57, 58, 59, 60, 61, 62, 63, 64, 65, 66, 67, 68, 69, 70, 71, 72, 73, 74, 75, 76, 77, 78, 79] : List Nat), Cond.code (ipY q) (ipB q) (ipM q) (ipR q) ∈ lw_tbl := List.forall_mem_cons.mpr ⟨List.mem_of_getElem? ipCodeX_40, List.forall_mem_cons.mpr ⟨List.mem_of_getElem? ipCodeX_41, List.forall_mem_cons.mpr ⟨List.mem_of_getElem? ipCodeX_42, List.forall_mem_cons.mpr ⟨List.mem_of_getElem? ipCodeX_43, List.forall_mem_cons.mpr ⟨List.mem_of_getElem? ipCodeX_44, List.forall_mem_cons.mpr ⟨List.mem_of_getElem? ipCodeX_45, List.forall_mem_cons.mpr ⟨List.mem_of_getElem? ipCodeX_46, List.forall_mem_cons.mpr ⟨List.mem_of_getElem? ipCodeX_47, List.forall_mem_cons.mpr ⟨List.mem_of_getElem? ipCodeX_48, List.forall_mem_cons.mpr ⟨List.mem_of_getElem? ipCodeX_49, List.forall_mem_cons.mpr ⟨List.mem_of_getElem? ipCodeX_50, List.forall_mem_cons.mpr ⟨List.mem_of_getElem? ipCodeX_51, List.forall_mem_cons.mpr ⟨List.mem_of_getElem? ipCodeX_52, List.forall_mem_cons.mpr ⟨List.mem_of_getElem? ipCodeX_53, List.forall_mem_cons.mpr ⟨List.mem_of_getElem? ipCodeX_54, List.forall_mem_cons.mpr ⟨List.mem_of_getElem? ipCodeX_55, List.forall_mem_cons.mpr ⟨List.mem_of_getElem? ipCodeX_56, List.forall_mem_cons.mpr ⟨List.mem_of_getElem? ipCodeX_57, List.forall_mem_cons.mpr ⟨List.mem_of_getElem? ipCodeX_58, List.forall_mem_cons.mpr ⟨List.mem_of_getElem? ipCodeX_59, List.forall_mem_cons.mpr ⟨List.mem_of_getElem? ipCodeX_60, List.forall_mem_cons.mpr ⟨List.mem_of_getElem? ipCodeX_61, List.forall_mem_cons.mpr ⟨List.mem_of_getElem? ipCodeX_62, List.forall_mem_cons.mpr ⟨List.mem_of_getElem? ipCodeX_63, List.forall_mem_cons.mpr ⟨List.mem_of_getElem? ipCodeX_64, List.forall_mem_cons.mpr ⟨List.mem_of_getElem? ipCodeX_65, List.forall_mem_cons.mpr ⟨List.mem_of_getElem? ipCodeX_66, List.forall_mem_cons.mpr ⟨List.mem_of_getElem? ipCodeX_67, List.forall_mem_cons.mpr ⟨List.mem_of_getElem? ipCodeX_68, List.forall_mem_cons.mpr ⟨List.mem_of_getElem? ipCodeX_69, List.forall_mem_cons.mpr ⟨List.mem_of_getElem? ipCodeX_70, List.forall_mem_cons.mpr ⟨List.mem_of_getElem? ipCodeX_71, List.forall_mem_cons.mpr ⟨List.mem_of_getElem? ipCodeX_72, List.forall_mem_cons.mpr ⟨List.mem_of_getElem? ipCodeX_73, List.forall_mem_cons.mpr ⟨List.mem_of_getElem? ipCodeX_74, List.forall_mem_cons.mpr ⟨List.mem_of_getElem? ipCodeX_75, List.forall_mem_cons.mpr ⟨List.mem_of_getElem? ipCodeX_76, List.forall_mem_cons.mpr ⟨List.mem_of_getElem? ipCodeX_77, List.forall_mem_cons.mpr ⟨List.mem_of_getElem? ipCodeX_78, List.forall_mem_cons.mpr ⟨List.mem_of_getElem? ipCodeX_79, fun _ h => absurd h List.not_mem_nil⟩⟩⟩⟩⟩⟩⟩⟩⟩⟩⟩⟩⟩⟩⟩⟩⟩⟩⟩⟩⟩⟩⟩⟩⟩⟩⟩⟩⟩⟩⟩⟩⟩⟩⟩⟩⟩⟩⟩⟩
theorem ipCodeW_2 : ∀ q ∈ ([80, 81, 82, 83, 84, 85, 86, 87, 88, 89, 90, 91, 92, 93, 94, 95, 96, 97, 98, 99, 100, 101, 102, 103, 104, 105, 106, 107, 108, 109, 110, 111, 112, 113, 114, 115, 116, 117, 118, 119] : List Nat), Cond.code (ipY q) (ipB q) (ipM q) (ipR q) ∈ lw_tbl := List.forall_mem_cons.mpr ⟨List.mem_of_getElem? ipCodeX_80, List.forall_mem_cons.mpr ⟨List.mem_of_getElem? ipCodeX_81, List.forall_mem_cons.mpr ⟨List.mem_of_getElem? ipCodeX_82, List.forall_mem_cons.mpr ⟨List.mem_of_getElem? ipCodeX_83, List.forall_mem_cons.mpr ⟨List.mem_of_getElem? ipCodeX_84, List.forall_mem_cons.mpr ⟨List.mem_of_getElem? ipCodeX_85, List.forall_mem_cons.mpr ⟨List.mem_of_getElem? ipCodeX_86, List.forall_mem_cons.mpr ⟨List.mem_of_getElem? ipCodeX_87, List.forall_mem_cons.mpr ⟨List.mem_of_getElem? ipCodeX_88, List.forall_mem_cons.mpr ⟨List.mem_of_getElem? ipCodeX_89, List.forall_mem_cons.mpr ⟨List.mem_of_getElem? ipCodeX_90, List.forall_mem_cons.mpr ⟨List.mem_of_getElem? ipCodeX_91, List.forall_mem_cons.mpr ⟨List.mem_of_getElem? ipCodeX_92, List.forall_mem_cons.mpr ⟨List.mem_of_getElem? ipCodeX_93, List.forall_mem_cons.mpr ⟨List.mem_of_getElem? ipCodeX_94, List.forall_mem_cons.mpr ⟨List.mem_of_getElem? ipCodeX_95, List.forall_mem_cons.mpr ⟨List.mem_of_getElem? ipCodeX_96, List.forall_mem_cons.mpr ⟨List.mem_of_getElem? ipCodeX_97, List.forall_mem_cons.mpr ⟨List.mem_of_getElem? ipCodeX_98, List.forall_mem_cons.mpr ⟨List.mem_of_getElem? ipCodeX_99, List.forall_mem_cons.mpr ⟨List.mem_of_getElem? ipCodeX_100, List.forall_mem_cons.mpr ⟨List.mem_of_getElem? ipCodeX_101, List.forall_mem_cons.mpr ⟨List.mem_of_getElem? ipCodeX_102, List.forall_mem_cons.mpr ⟨List.mem_of_getElem? ipCodeX_103, List.forall_mem_cons.mpr ⟨List.mem_of_getElem? ipCodeX_104, List.forall_mem_cons.mpr ⟨List.mem_of_getElem? ipCodeX_105, List.forall_mem_cons.mpr ⟨List.mem_of_getElem? ipCodeX_106, List.forall_mem_cons.mpr ⟨List.mem_of_getElem? ipCodeX_107, List.forall_mem_cons.mpr ⟨List.mem_of_getElem? ipCodeX_108, List.forall_mem_cons.mpr ⟨List.mem_of_getElem? ipCodeX_109, List.forall_mem_cons.mpr ⟨List.mem_of_getElem? ipCodeX_110, List.forall_mem_cons.mpr ⟨List.mem_of_getElem? ipCodeX_111, List.forall_mem_cons.mpr ⟨List.mem_of_getElem? ipCodeX_112, List.forall_mem_cons.mpr ⟨List.mem_of_getElem? ipCodeX_113, List.forall_mem_cons.mpr ⟨List.mem_of_getElem? ipCodeX_114, List.forall_mem_cons.mpr ⟨List.mem_of_getElem? ipCodeX_115, List.forall_mem_cons.mpr ⟨List.mem_of_getElem? ipCodeX_116, List.forall_mem_cons.mpr ⟨List.mem_of_getElem? ipCodeX_117, List.forall_mem_cons.mpr ⟨List.mem_of_getElem? ipCodeX_118, List.forall_mem_cons.mpr ⟨List.mem_of_getElem? ipCodeX_119, fun _ h => absurd h List.not_mem_nil⟩⟩⟩⟩⟩⟩⟩⟩⟩⟩⟩⟩⟩⟩⟩⟩⟩⟩⟩⟩⟩⟩⟩⟩⟩⟩⟩⟩⟩⟩⟩⟩⟩⟩⟩⟩⟩⟩⟩⟩
theorem ipCodeW_3 : ∀ q ∈ ([120, 121, 122, 123, 124, 125, 126, 127, 128, 129, 130, 131, 132, 133, 134, 135, 136, 137, 138, 139, 140, 141, 142, 143, 144, 145, 146, 147, 148, 149, 150, 151] : List Nat), Cond.code (ipY q) (ipB q) (ipM q) (ipR q) ∈ lw_tbl := List.forall_mem_cons.mpr ⟨List.mem_of_getElem? ipCodeX_120, List.forall_mem_cons.mpr ⟨List.mem_of_getElem? ipCodeX_121, List.forall_mem_cons.mpr ⟨List.mem_of_getElem? ipCodeX_122, List.forall_mem_cons.mpr ⟨List.mem_of_getElem? ipCodeX_123, List.forall_mem_cons.mpr ⟨List.mem_of_getElem? ipCodeX_124, List.forall_mem_cons.mpr ⟨List.mem_of_getElem? ipCodeX_125, List.forall_mem_cons.mpr ⟨List.mem_of_getElem? ipCodeX_126, List.forall_mem_cons.mpr ⟨List.mem_of_getElem? ipCodeX_127, List.forall_mem_cons.mpr ⟨List.mem_of_getElem? ipCodeX_128, List.forall_mem_cons.mpr ⟨List.mem_of_getElem? ipCodeX_129, List.forall_mem_cons.mpr ⟨List.mem_of_getElem? ipCodeX_130, List.forall_mem_cons.mpr ⟨List.mem_of_getElem? ipCodeX_131, List.forall_mem_cons.mpr ⟨List.mem_of_getElem? ipCodeX_132, List.forall_mem_cons.mpr ⟨List.mem_of_getElem? ipCodeX_133, List.forall_mem_cons.mpr ⟨List.mem_of_getElem? ipCodeX_134, List.forall_mem_cons.mpr ⟨List.mem_of_getElem? ipCodeX_135, List.forall_mem_cons.mpr ⟨List.mem_of_getElem? ipCodeX_136, List.forall_mem_cons.mpr ⟨List.mem_of_getElem? ipCodeX_137, List.forall_mem_cons.mpr ⟨List.mem_of_getElem? ipCodeX_138, List.forall_mem_cons.mpr ⟨List.mem_of_getElem? ipCodeX_139, List.forall_mem_cons.mpr ⟨List.mem_of_getElem? ipCodeX_140, List.forall_mem_cons.mpr ⟨List.mem_of_getElem? ipCodeX_141, List.forall_mem_cons.mpr ⟨List.mem_of_getElem? ipCodeX_142, List.forall_mem_cons.mpr ⟨List.mem_of_getElem? ipCodeX_143, List.forall_mem_cons.mpr ⟨List.mem_of_getElem? ipCodeX_144, List.forall_mem_cons.mpr ⟨List.mem_of_getElem? ipCodeX_145, List.forall_mem_cons.mpr ⟨List.mem_of_getElem? ipCodeX_146, List.forall_mem_cons.mpr ⟨List.mem_of_getElem? ipCodeX_147, List.forall_mem_cons.mpr ⟨List.mem_of_getElem? ipCodeX_148, List.forall_mem_cons.mpr ⟨List.mem_of_getElem? ipCodeX_149, List.forall_mem_cons.mpr ⟨List.mem_of_getElem? ipCodeX_150, List.forall_mem_cons.mpr ⟨List.mem_of_getElem? ipCodeX_151, fun _ h => absurd h List.not_mem_nil⟩⟩⟩⟩⟩⟩⟩⟩⟩⟩⟩⟩⟩⟩⟩⟩⟩⟩⟩⟩⟩⟩⟩⟩⟩⟩⟩⟩⟩⟩⟩⟩
theorem ipCodeW : ∀ q ∈ List.range 152, Cond.code (ipY q) (ipB q) (ipM q) (ipR q) ∈ lw_tbl := List.forall_mem_append.mpr ⟨ipCodeW_0, List.forall_mem_append.mpr ⟨ipCodeW_1, List.forall_mem_append.mpr ⟨ipCodeW_2, ipCodeW_3⟩⟩⟩
set_option maxRecDepth 100000 in
theorem ipIniW_0 : ∀ q ∈ ([0, 1, 2, 3, 4, 5, 6, 7, 8, 9, 10, 11, 12, 13, 14, 15, 16, 17, 18, 19, 20, 21, 22, 23, 24, 25, 26, 27, 28, 29, 30, 31, 32, 33, 34, 35, 36, 37, 38, 39] : List Nat), Cond.initialized (ipY q).cls ∈ lw_tbl := ipzL (fun q => Cond.initialized (ipY q).cls) _ [45, 45, 45, 45, 45, 45, 54, 54, 54, 54, 47, 47, 47, 47, 53, 53, 53, 53, 53, 53, 53, 53, 53, 53, 53, 53, 53, 46, 46, 52, 52, 52, 52, 52, 52, 48, 48, 48, 48, 48] (by decide +kernel) (by decide +kernel)
set_option maxRecDepth 100000 in
theorem ipIniW_1 : ∀ q ∈ ([40, 41, 42, 43, 44, 45, 46, 47, 48, 49, 50, 51, 52, 53, 54, 55, 56, 57, 58, 59, 60, 61, 62, 63, 64, 65, 66, 67, 68, 69, 70, 71, 72, 73, 74, 75, 76, 77, 78, 79] : List Nat), Cond.initialized (ipY q).cls ∈ lw_tbl := ipzL (fun q => Cond.initialized (ipY q).cls) _ [48, 48, 48, 48, 48, 48, 48, 48, 48, 48, 48, 48, 48, 48, 48, 48, 48, 48, 48, 48, 48, 48, 48, 48, 48, 51, 51, 51, 51, 51, 51, 51, 51, 44, 44, 44, 44, 44, 44, 44] (by decide +kernel) (by decide +kernel)
set_option maxRecDepth 100000 in
theorem ipIniW_2 : ∀ q ∈ ([80, 81, 82, 83, 84, 85, 86, 87, 88, 89, 90, 91, 92, 93, 94, 95, 96, 97, 98, 99, 100, 101, 102, 103, 104, 105, 106, 107, 108, 109, 110, 111, 112, 113, 114, 115, 116, 117, 118, 119] : List Nat), Cond.initialized (ipY q).cls ∈ lw_tbl := ipzL (fun q => Cond.initialized (ipY q).cls) _ [44, 44, 44, 44, 44, 44, 44, 44, 44, 44, 44, 49, 49, 49, 49, 49, 49, 49, 49, 49, 49, 49, 49, 49, 49, 49, 49, 49, 49, 49, 49, 49, 49, 49, 49, 49, 49, 49, 49, 49] (by decide +kernel) (by decide +kernel)
set_option maxRecDepth 100000 in
theorem ipIniW_3 : ∀ q ∈ ([120, 121, 122, 123, 124, 125, 126, 127, 128, 129, 130, 131, 132, 133, 134, 135, 136, 137, 138, 139, 140, 141, 142, 143, 144, 145, 146, 147, 148, 149, 150, 151] : List Nat), Cond.initialized (ipY q).cls ∈ lw_tbl := ipzL (fun q => Cond.initialized (ipY q).cls) _ [49, 49, 49, 49, 49, 49, 49, 49, 49, 49, 49, 49, 49, 49, 49, 49, 49, 49, 49, 49, 49, 49, 49, 49, 49, 49, 49, 49, 49, 49, 49, 55] (by decide +kernel) (by decide +kernel)
theorem ipIniW : ∀ q ∈ List.range 152, Cond.initialized (ipY q).cls ∈ lw_tbl := List.forall_mem_append.mpr ⟨ipIniW_0, List.forall_mem_append.mpr ⟨ipIniW_1, List.forall_mem_append.mpr ⟨ipIniW_2, ipIniW_3⟩⟩⟩
set_option maxRecDepth 100000 in
theorem ipVinW_0 : ∀ q ∈ ([1, 2, 3, 4, 5, 7, 8, 9, 11, 12, 13, 15, 16, 17, 18, 19, 20, 21, 22, 23, 24, 25, 26, 28, 30, 31, 32, 33, 34, 36, 37, 38, 39, 40, 41, 42, 43, 44, 45, 46] : List Nat), Cond.instanceMethod (ipY q) ∈ lw_tbl := ipzL (fun q => Cond.instanceMethod (ipY q)) _ [259, 206, 329, 413, 704, 646, 642, 678, 376, 368, 405, 584, 588, 592, 630, 600, 618, 604, 613, 608, 622, 626, 634, 695, 568, 572, 596, 576, 580, 267, 279, 297, 271, 285, 289, 303, 325, 320, 315, 381] (by decide +kernel) (by decide +kernel)
set_option maxRecDepth 100000 in
theorem ipVinW_1 : ∀ q ∈ ([47, 48, 49, 50, 51, 52, 53, 54, 55, 56, 57, 58, 59, 60, 61, 62, 63, 64, 66, 67, 68, 69, 70, 71, 72, 74, 75, 76, 77, 78, 79, 80, 81, 82, 83, 84, 85, 86, 87, 88] : List Nat), Cond.instanceMethod (ipY q) ∈ lw_tbl := ipzL (fun q => Cond.instanceMethod (ipY q)) _ [385, 394, 214, 218, 210, 337, 560, 333, 344, 348, 352, 360, 356, 364, 222, 226, 230, 234, 556, 686, 565, 639, 652, 657, 661, 251, 255, 263, 275, 293, 307, 311, 372, 390, 401, 409, 417, 421, 682, 426] (by decide +kernel) (by decide +kernel)
set_option maxRecDepth 100000 in
theorem ipVinW_2 : ∀ q ∈ ([89, 90, 92, 94, 96, 97, 98, 99, 100, 101, 102, 103, 104, 105, 106, 107, 108, 109, 110, 111, 112, 113, 114, 115, 116, 117, 118, 119, 120, 121, 122, 123, 124, 125, 126, 127, 128, 129, 130, 131] : List Nat), Cond.instanceMethod (ipY q) ∈ lw_tbl := ipzL (fun q => Cond.instanceMethod (ipY q)) _ [690, 700, 720, 785, 776, 824, 840, 876, 868, 880, 872, 892, 888, 836, 852, 864, 860, 884, 896, 900, 908, 820, 912, 920, 916, 780, 789, 793, 797, 805, 816, 832, 800, 811, 827, 843, 856, 847, 903, 928] (by decide +kernel) (by decide +kernel)
set_option maxRecDepth 100000 in
theorem ipVinW_3 : ∀ q ∈ ([132, 133, 134, 135, 136, 137, 138, 139, 140, 141, 142, 144, 145, 146, 147, 148, 149, 150] : List Nat), Cond.instanceMethod (ipY q) ∈ lw_tbl := ipzL (fun q => Cond.instanceMethod (ipY q)) _ [923, 931, 935, 939, 956, 960, 964, 968, 976, 980, 984, 948, 972, 988, 943, 991, 995, 999] (by decide +kernel) (by decide +kernel)
theorem ipVinW : ∀ q ∈ ipVM, Cond.instanceMethod (ipY q) ∈ lw_tbl := List.forall_mem_append.mpr ⟨ipVinW_0, List.forall_mem_append.mpr ⟨ipVinW_1, List.forall_mem_append.mpr ⟨ipVinW_2, ipVinW_3⟩⟩⟩
set_option maxRecDepth 100000 in
theorem ipIinW_0 : ∀ q ∈ ([0, 6, 10, 14, 27, 29, 35, 65, 73, 91] : List Nat), Cond.instanceMethod (ipY q) ∈ lw_tbl := ipzL (fun q => Cond.instanceMethod (ipY q)) _ [67, 509, 80, 460, 73, 437, 134, 431, 59, 712] (by decide +kernel) (by decide +kernel)
theorem ipIinW : ∀ q ∈ ipIM, Cond.instanceMethod (ipY q) ∈ lw_tbl := ipIinW_0
set_option maxRecDepth 100000 in
theorem ipSelW_0 : ∀ q ∈ ([1, 2, 3, 4, 5, 7, 8, 9, 11, 12, 13, 15, 16, 17, 18, 19, 20, 21, 22, 23, 24, 25, 26, 28, 30, 31, 32, 33, 34, 36, 37, 38, 39, 40, 41, 42, 43, 44, 45, 46] : List Nat), Cond.selects (ipCN (ipO q)) (ipY q) (ipY q) ∈ lw_tbl := ipzL (fun q => Cond.selects (ipCN (ipO q)) (ipY q) (ipY q)) _ [260, 207, 330, 414, 705, 647, 643, 679, 377, 369, 406, 585, 589, 593, 631, 601, 619, 605, 614, 609, 623, 627, 635, 696, 569, 573, 597, 577, 581, 268, 280, 298, 272, 286, 290, 304, 326, 321, 316, 382] (by decide +kernel) (by decide +kernel)
set_option maxRecDepth 100000 in
theorem ipSelW_1 : ∀ q ∈ ([47, 48, 49, 50, 51, 52, 53, 54, 55, 56, 57, 58, 59, 60, 61, 62, 63, 64, 66, 67, 68, 69, 70, 71, 72, 74, 75, 76, 77, 78, 79, 80, 81, 82, 83, 84, 85, 86, 87, 88] : List Nat), Cond.selects (ipCN (ipO q)) (ipY q) (ipY q) ∈ lw_tbl := ipzL (fun q => Cond.selects (ipCN (ipO q)) (ipY q) (ipY q)) _ [386, 395, 215, 219, 211, 338, 561, 334, 345, 349, 353, 361, 357, 365, 223, 227, 231, 235, 557, 687, 1, 2, 653, 658, 662, 252, 256, 264, 276, 294, 308, 312, 373, 391, 402, 410, 418, 422, 683, 0] (by decide +kernel) (by decide +kernel)
set_option maxRecDepth 100000 in
theorem ipSelW_2 : ∀ q ∈ ([89, 90, 92, 94, 96, 97, 98, 99, 100, 101, 102, 103, 104, 105, 106, 107, 108, 109, 110, 111, 112, 113, 114, 115, 116, 117, 118, 119, 120, 121, 122, 123, 124, 125, 126, 127, 128, 129, 130, 131] : List Nat), Cond.selects (ipCN (ipO q)) (ipY q) (ipY q) ∈ lw_tbl := ipzL (fun q => Cond.selects (ipCN (ipO q)) (ipY q) (ipY q)) _ [691, 701, 3, 4, 777, 11, 14, 21, 19, 22, 20, 25, 24, 13, 15, 18, 17, 23, 26, 27, 28, 10, 29, 31, 30, 781, 5, 6, 7, 8, 9, 12, 801, 812, 828, 844, 16, 848, 904, 32] (by decide +kernel) (by decide +kernel)
set_option maxRecDepth 100000 in
theorem ipSelW_3 : ∀ q ∈ ([132, 133, 134, 135, 136, 137, 138, 139, 140, 141, 142, 144, 145, 146, 147, 148, 149, 150] : List Nat), Cond.selects (ipCN (ipO q)) (ipY q) (ipY q) ∈ lw_tbl := ipzL (fun q => Cond.selects (ipCN (ipO q)) (ipY q) (ipY q)) _ [924, 932, 936, 940, 34, 35, 36, 37, 39, 40, 41, 33, 38, 42, 944, 992, 996, 1000] (by decide +kernel) (by decide +kernel)
theorem ipSelW : ∀ q ∈ ipVM, Cond.selects (ipCN (ipO q)) (ipY q) (ipY q) ∈ lw_tbl := List.forall_mem_append.mpr ⟨ipSelW_0, List.forall_mem_append.mpr ⟨ipSelW_1, List.forall_mem_append.mpr ⟨ipSelW_2, ipSelW_3⟩⟩⟩
set_option maxRecDepth 100000 in
theorem ipMeth0 : (List.range 152).all (fun md => decide (ipM md ≤ 16) && (decide ((ipY md).cls = ipCN (ipO md)) && (decide ((ipY md).cls ≠ "java/lang/invoke/MethodHandle") && (decide ((ipY md).cls ≠ "java/lang/invoke/VarHandle") && plainName (ipY md).cls)))) = true := by decide +kernel
theorem ipMeth {md : Nat} (h : md < 152) : Cond.code (ipY md) (ipB md) (ipM md) (ipR md) ∈ lw_tbl ∧ Cond.initialized (ipY md).cls ∈ lw_tbl ∧ ipM md ≤ 16 ∧ (ipY md).cls = ipCN (ipO md) ∧ (ipY md).cls ≠ "java/lang/invoke/MethodHandle" ∧ (ipY md).cls ≠ "java/lang/invoke/VarHandle" ∧ plainName (ipY md).cls = true := by
  have h0 := List.mem_range.mpr h
  have h1 := List.all_eq_true.mp ipMeth0 md h0
  simp only [Bool.and_eq_true, decide_eq_true_eq] at h1
  exact ⟨ipCodeW md h0, ipIniW md h0, h1⟩
set_option maxRecDepth 100000 in
theorem ipVL_m : ipVL.all (fun q => ipVM.contains q.2.2.1) = true := by decide +kernel
set_option maxRecDepth 100000 in
theorem ipIL_m : (ipIL ++ ipNL).all (fun q => ipIM.contains q.2.2.1) = true := by decide +kernel
