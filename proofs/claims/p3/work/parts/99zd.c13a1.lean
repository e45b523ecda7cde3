theorem wi13_13 : ∀ w ∈ u_ws RX13 TX13 120, w ∈ wi13 := fun _ h => List.mem_cons_of_mem _ (List.mem_append_right _ (List.mem_append_left _ h))
theorem wi13_12 : ∀ w ∈ u_ws RX12 TX12 16, w ∈ wi13 := fun _ h => List.mem_cons_of_mem _ (List.mem_append_right _ (List.mem_append_right _ (List.mem_append_left _ h)))
theorem mi13_0 : (Cond.methodLink RX13 101 objectInit) ∈ wi13 := List.mem_of_getElem? (i := 1) rfl
theorem mi13_1 : (Cond.instanceMethod objectInit) ∈ wi13 := List.mem_of_getElem? (i := 2) rfl
theorem mi13_2 : (Cond.code objectInit ⟨#[0xb1]⟩ 1 none) ∈ wi13 := List.mem_of_getElem? (i := 3) rfl
theorem mi13_3 : (Cond.arrayClass .int) ∈ wi13 := List.mem_of_getElem? (i := 4) rfl
theorem mi13_4 : (Cond.arrayClass .byte) ∈ wi13 := List.mem_of_getElem? (i := 5) rfl
theorem mi13_5 : (Cond.arrayClass .long) ∈ wi13 := List.mem_of_getElem? (i := 6) rfl
theorem mi13_6 : (Cond.arrayClass .boolean) ∈ wi13 := List.mem_of_getElem? (i := 7) rfl
theorem mi13_7 : (Cond.constant RX13 136 (86400)) ∈ wi13 := List.mem_of_getElem? (i := 8) rfl
theorem mi13_8 : (Cond.constant RX13 316 (900000)) ∈ wi13 := List.mem_of_getElem? (i := 9) rfl
theorem mi13_9 : (Cond.classLink RX13 19 RX12) ∈ wi13 := List.mem_of_getElem? (i := 10) rfl
theorem mi13_10 : (Cond.instantiable RX12 16) ∈ wi13 := List.mem_of_getElem? (i := 11) rfl
theorem mi13_11 : (Cond.initialized RX12) ∈ wi13 := List.mem_of_getElem? (i := 12) rfl
theorem mi13_12 : (Cond.instanceMethod yX12_init) ∈ wi13 := List.mem_of_getElem? (i := 13) rfl
theorem mi13_13 : (Cond.fieldLink RX13 29 "KnotHouseModel" "trial" "[I") ∈ wi13 := List.mem_of_getElem? (i := 14) rfl
theorem mi13_14 : (Cond.fieldLink RX13 7 "KnotHouseModel" "number" "[I") ∈ wi13 := List.mem_of_getElem? (i := 15) rfl
theorem mi13_15 : (Cond.fieldLink RX13 26 "KnotHouseModel" "met" "[I") ∈ wi13 := List.mem_of_getElem? (i := 16) rfl
theorem mi13_16 : (Cond.fieldLink RX13 11 "KnotHouseModel" "gone" "[Z") ∈ wi13 := List.mem_of_getElem? (i := 17) rfl
theorem mi13_17 : (Cond.fieldLink RX13 54 "KnotHouseModel" "partRow" "[I") ∈ wi13 := List.mem_of_getElem? (i := 18) rfl
theorem mi13_18 : (Cond.fieldLink RX13 85 "KnotHouseModel" "partVisits" "[I") ∈ wi13 := List.mem_of_getElem? (i := 19) rfl
theorem mi13_19 : (Cond.fieldLink RX13 88 "KnotHouseModel" "written" "[Z") ∈ wi13 := List.mem_of_getElem? (i := 20) rfl
theorem mi13_20 : (Cond.fieldLink RX13 106 "KnotHouseModel" "tape" "[B") ∈ wi13 := List.mem_of_getElem? (i := 21) rfl
theorem mi13_21 : (Cond.fieldLink RX13 110 "KnotHouseModel" "rows" "[I") ∈ wi13 := List.mem_of_getElem? (i := 22) rfl
theorem mi13_22 : (Cond.fieldLink RX13 114 "KnotHouseModel" "cur" "LKnotHouseModel$Net;") ∈ wi13 := List.mem_of_getElem? (i := 23) rfl
theorem mi13_23 : (Cond.fieldLink RX13 118 "KnotHouseModel" "other" "LKnotHouseModel$Net;") ∈ wi13 := List.mem_of_getElem? (i := 24) rfl
theorem mi13_24 : (Cond.fieldLink RX13 121 "KnotHouseModel" "made" "LKnotHouseModel$Net;") ∈ wi13 := List.mem_of_getElem? (i := 25) rfl
theorem mi13_25 : (Cond.fieldLink RX13 124 "KnotHouseModel" "name" "[I") ∈ wi13 := List.mem_of_getElem? (i := 26) rfl
theorem mi13_26 : (Cond.fieldLink RX13 127 "KnotHouseModel" "nameSign" "[I") ∈ wi13 := List.mem_of_getElem? (i := 27) rfl
theorem mi13_27 : (Cond.fieldLink RX13 130 "KnotHouseModel" "nameAt" "[I") ∈ wi13 := List.mem_of_getElem? (i := 28) rfl
theorem mi13_28 : (Cond.fieldLink RX13 133 "KnotHouseModel" "nameHas" "[I") ∈ wi13 := List.mem_of_getElem? (i := 29) rfl
theorem mi13_29 : (Cond.fieldLink RX13 137 "KnotHouseModel" "list" "[I") ∈ wi13 := List.mem_of_getElem? (i := 30) rfl
theorem mi13_30 : (Cond.fieldLink RX13 140 "KnotHouseModel" "order" "[I") ∈ wi13 := List.mem_of_getElem? (i := 31) rfl
theorem mi13_31 : (Cond.fieldLink RX13 143 "KnotHouseModel" "near" "[I") ∈ wi13 := List.mem_of_getElem? (i := 32) rfl
theorem mi13_32 : (Cond.fieldLink RX13 146 "KnotHouseModel" "seen" "[I") ∈ wi13 := List.mem_of_getElem? (i := 33) rfl
theorem mi13_33 : (Cond.fieldLink RX13 149 "KnotHouseModel" "fresh" "[I") ∈ wi13 := List.mem_of_getElem? (i := 34) rfl
theorem mi13_34 : (Cond.fieldLink RX13 152 "KnotHouseModel" "target" "[I") ∈ wi13 := List.mem_of_getElem? (i := 35) rfl
theorem mi13_35 : (Cond.fieldLink RX13 155 "KnotHouseModel" "putCross" "[I") ∈ wi13 := List.mem_of_getElem? (i := 36) rfl
theorem mi13_36 : (Cond.fieldLink RX13 158 "KnotHouseModel" "putUnder" "[I") ∈ wi13 := List.mem_of_getElem? (i := 37) rfl
theorem mi13_37 : (Cond.fieldLink RX13 161 "KnotHouseModel" "side" "[I") ∈ wi13 := List.mem_of_getElem? (i := 38) rfl
theorem mi13_38 : (Cond.fieldLink RX13 164 "KnotHouseModel" "corner" "[I") ∈ wi13 := List.mem_of_getElem? (i := 39) rfl
theorem mi13_39 : (Cond.fieldLink RX13 167 "KnotHouseModel" "summands" "[I") ∈ wi13 := List.mem_of_getElem? (i := 40) rfl
theorem mi13_40 : (Cond.fieldLink RX13 170 "KnotHouseModel" "waits" "[I") ∈ wi13 := List.mem_of_getElem? (i := 41) rfl
theorem mi13_41 : (Cond.fieldLink RX13 173 "KnotHouseModel" "reached" "[Z") ∈ wi13 := List.mem_of_getElem? (i := 42) rfl
theorem mi13_42 : (Cond.fieldLink RX13 176 "KnotHouseModel" "ordered" "[I") ∈ wi13 := List.mem_of_getElem? (i := 43) rfl
theorem mi13_43 : (Cond.fieldLink RX13 179 "KnotHouseModel" "level" "[LKnotHouseModel$Net;") ∈ wi13 := List.mem_of_getElem? (i := 44) rfl
theorem mi13_44 : (Cond.fieldLink RX13 183 "KnotHouseModel" "wasMet" "[Z") ∈ wi13 := List.mem_of_getElem? (i := 45) rfl
theorem mi13_45 : (Cond.fieldLink RX13 186 "KnotHouseModel" "conway" "[J") ∈ wi13 := List.mem_of_getElem? (i := 46) rfl
theorem mi13_46 : (Cond.fieldLink RX13 190 "KnotHouseModel" "conwayRow" "[I") ∈ wi13 := List.mem_of_getElem? (i := 47) rfl
theorem mi13_47 : (Cond.fieldLink RX13 193 "KnotHouseModel" "twice" "[J") ∈ wi13 := List.mem_of_getElem? (i := 48) rfl
theorem mi13_48 : (Cond.fieldLink RX13 196 "KnotHouseModel" "twiceRow" "[I") ∈ wi13 := List.mem_of_getElem? (i := 49) rfl
theorem mi13_49 : (Cond.fieldLink RX13 199 "KnotHouseModel" "group" "[I") ∈ wi13 := List.mem_of_getElem? (i := 50) rfl
theorem mi13_50 : (Cond.fieldLink RX13 202 "KnotHouseModel" "jones" "[J") ∈ wi13 := List.mem_of_getElem? (i := 51) rfl
theorem mi13_51 : (Cond.fieldLink RX13 205 "KnotHouseModel" "power" "[J") ∈ wi13 := List.mem_of_getElem? (i := 52) rfl
theorem mi13_52 : (Cond.fieldLink RX13 208 "KnotHouseModel" "jonesRow" "[I") ∈ wi13 := List.mem_of_getElem? (i := 53) rfl
theorem mi13_53 : (Cond.fieldLink RX13 211 "KnotHouseModel" "states" "[J") ∈ wi13 := List.mem_of_getElem? (i := 54) rfl
theorem mi13_54 : (Cond.fieldLink RX13 214 "KnotHouseModel" "colour" "[I") ∈ wi13 := List.mem_of_getElem? (i := 55) rfl
theorem mi13_55 : (Cond.fieldLink RX13 217 "KnotHouseModel" "white" "[I") ∈ wi13 := List.mem_of_getElem? (i := 56) rfl
theorem mi13_56 : (Cond.fieldLink RX13 220 "KnotHouseModel" "form" "[J") ∈ wi13 := List.mem_of_getElem? (i := 57) rfl
theorem mi13_57 : (Cond.fieldLink RX13 223 "KnotHouseModel" "product" "[J") ∈ wi13 := List.mem_of_getElem? (i := 58) rfl
theorem mi13_58 : (Cond.fieldLink RX13 226 "KnotHouseModel" "before" "[J") ∈ wi13 := List.mem_of_getElem? (i := 59) rfl
theorem mi13_59 : (Cond.fieldLink RX13 229 "KnotHouseModel" "terms" "[J") ∈ wi13 := List.mem_of_getElem? (i := 60) rfl
theorem mi13_60 : (Cond.fieldLink RX13 232 "KnotHouseModel" "arc" "[I") ∈ wi13 := List.mem_of_getElem? (i := 61) rfl
theorem mi13_61 : (Cond.fieldLink RX13 235 "KnotHouseModel" "begun" "[I") ∈ wi13 := List.mem_of_getElem? (i := 62) rfl
theorem mi13_62 : (Cond.fieldLink RX13 238 "KnotHouseModel" "over" "[I") ∈ wi13 := List.mem_of_getElem? (i := 63) rfl
theorem mi13_63 : (Cond.fieldLink RX13 241 "KnotHouseModel" "into" "[I") ∈ wi13 := List.mem_of_getElem? (i := 64) rfl
theorem mi13_64 : (Cond.fieldLink RX13 244 "KnotHouseModel" "from" "[I") ∈ wi13 := List.mem_of_getElem? (i := 65) rfl
theorem mi13_65 : (Cond.fieldLink RX13 247 "KnotHouseModel" "grid" "[J") ∈ wi13 := List.mem_of_getElem? (i := 66) rfl
theorem mi13_66 : (Cond.fieldLink RX13 250 "KnotHouseModel" "coverRow" "[I") ∈ wi13 := List.mem_of_getElem? (i := 67) rfl
theorem mi13_67 : (Cond.fieldLink RX13 253 "KnotHouseModel" "cover" "[J") ∈ wi13 := List.mem_of_getElem? (i := 68) rfl
theorem mi13_68 : (Cond.fieldLink RX13 256 "KnotHouseModel" "leftRow" "[I") ∈ wi13 := List.mem_of_getElem? (i := 69) rfl
theorem mi13_69 : (Cond.fieldLink RX13 259 "KnotHouseModel" "leftCol" "[I") ∈ wi13 := List.mem_of_getElem? (i := 70) rfl
theorem mi13_70 : (Cond.fieldLink RX13 262 "KnotHouseModel" "square" "[J") ∈ wi13 := List.mem_of_getElem? (i := 71) rfl
theorem mi13_71 : (Cond.fieldLink RX13 265 "KnotHouseModel" "things" "[I") ∈ wi13 := List.mem_of_getElem? (i := 72) rfl
theorem mi13_72 : (Cond.fieldLink RX13 268 "KnotHouseModel" "images" "[I") ∈ wi13 := List.mem_of_getElem? (i := 73) rfl
theorem mi13_73 : (Cond.fieldLink RX13 271 "KnotHouseModel" "down" "[I") ∈ wi13 := List.mem_of_getElem? (i := 74) rfl
theorem mi13_74 : (Cond.fieldLink RX13 274 "KnotHouseModel" "back" "[I") ∈ wi13 := List.mem_of_getElem? (i := 75) rfl
theorem mi13_75 : (Cond.fieldLink RX13 277 "KnotHouseModel" "given" "[I") ∈ wi13 := List.mem_of_getElem? (i := 76) rfl
theorem mi13_76 : (Cond.fieldLink RX13 280 "KnotHouseModel" "trail" "[I") ∈ wi13 := List.mem_of_getElem? (i := 77) rfl
theorem mi13_77 : (Cond.fieldLink RX13 283 "KnotHouseModel" "ofPart" "[Z") ∈ wi13 := List.mem_of_getElem? (i := 78) rfl
theorem mi13_78 : (Cond.fieldLink RX13 286 "KnotHouseModel" "loopOf" "[B") ∈ wi13 := List.mem_of_getElem? (i := 79) rfl
theorem mi13_79 : (Cond.fieldLink RX13 289 "KnotHouseModel" "loopCount" "[I") ∈ wi13 := List.mem_of_getElem? (i := 80) rfl
theorem mi13_80 : (Cond.fieldLink RX13 292 "KnotHouseModel" "base" "[I") ∈ wi13 := List.mem_of_getElem? (i := 81) rfl
theorem mi13_81 : (Cond.fieldLink RX13 295 "KnotHouseModel" "place" "[I") ∈ wi13 := List.mem_of_getElem? (i := 82) rfl
theorem mi13_82 : (Cond.fieldLink RX13 298 "KnotHouseModel" "many" "[I") ∈ wi13 := List.mem_of_getElem? (i := 83) rfl
theorem mi13_83 : (Cond.fieldLink RX13 301 "KnotHouseModel" "steps" "[I") ∈ wi13 := List.mem_of_getElem? (i := 84) rfl
theorem mi13_84 : (Cond.fieldLink RX13 304 "KnotHouseModel" "ranks" "[I") ∈ wi13 := List.mem_of_getElem? (i := 85) rfl
theorem mi13_85 : (Cond.fieldLink RX13 307 "KnotHouseModel" "work" "[I") ∈ wi13 := List.mem_of_getElem? (i := 86) rfl
theorem mi13_86 : (Cond.fieldLink RX13 310 "KnotHouseModel" "rowBegin" "[I") ∈ wi13 := List.mem_of_getElem? (i := 87) rfl
theorem mi13_87 : (Cond.fieldLink RX13 313 "KnotHouseModel" "rowEnd" "[I") ∈ wi13 := List.mem_of_getElem? (i := 88) rfl
theorem mi13_88 : (Cond.fieldLink RX13 317 "KnotHouseModel" "pool" "[I") ∈ wi13 := List.mem_of_getElem? (i := 89) rfl
theorem mi13_89 : (Cond.fieldLink RX13 320 "KnotHouseModel" "words" "[I") ∈ wi13 := List.mem_of_getElem? (i := 90) rfl
theorem mi13_90 : (Cond.fieldLink RX13 323 "KnotHouseModel" "lengths" "[I") ∈ wi13 := List.mem_of_getElem? (i := 91) rfl
theorem mi13_91 : (Cond.fieldLink RX13 326 "KnotHouseModel" "strands" "[I") ∈ wi13 := List.mem_of_getElem? (i := 92) rfl
theorem mi13_92 : (Cond.fieldLink RX13 329 "KnotHouseModel" "simples" "[I") ∈ wi13 := List.mem_of_getElem? (i := 93) rfl
theorem mi13_93 : (Cond.fieldLink RX13 332 "KnotHouseModel" "ends" "[I") ∈ wi13 := List.mem_of_getElem? (i := 94) rfl
theorem mi13_94 : (Cond.fieldLink RX13 335 "KnotHouseModel" "letters" "[I") ∈ wi13 := List.mem_of_getElem? (i := 95) rfl
theorem mi13_95 : (Cond.fieldLink RX13 338 "KnotHouseModel" "sizes" "[I") ∈ wi13 := List.mem_of_getElem? (i := 96) rfl
theorem mi13_96 : (Cond.fieldLink RX13 341 "KnotHouseModel" "more" "[I") ∈ wi13 := List.mem_of_getElem? (i := 97) rfl
theorem mi13_97 : (Cond.fieldLink RX13 344 "KnotHouseModel" "ahead" "[I") ∈ wi13 := List.mem_of_getElem? (i := 98) rfl
theorem mi13_98 : (Cond.fieldLink RX13 347 "KnotHouseModel" "over2" "[I") ∈ wi13 := List.mem_of_getElem? (i := 99) rfl
theorem mi13_99 : (Cond.fieldLink RX13 350 "KnotHouseModel" "passes" "[I") ∈ wi13 := List.mem_of_getElem? (i := 100) rfl
theorem mi13_100 : (Cond.fieldLink RX13 353 "KnotHouseModel" "leaves" "[I") ∈ wi13 := List.mem_of_getElem? (i := 101) rfl
theorem mi13_101 : (Cond.fieldLink RX13 356 "KnotHouseModel" "endRow" "[I") ∈ wi13 := List.mem_of_getElem? (i := 102) rfl
theorem mi13_102 : (Cond.fieldLink RX13 359 "KnotHouseModel" "signed" "[I") ∈ wi13 := List.mem_of_getElem? (i := 103) rfl
theorem mi13_103 : (Cond.fieldLink RX13 362 "KnotHouseModel" "word" "[I") ∈ wi13 := List.mem_of_getElem? (i := 104) rfl
theorem mi13_104 : (Cond.fieldLink RX13 365 "KnotHouseModel" "quotient" "[I") ∈ wi13 := List.mem_of_getElem? (i := 105) rfl
theorem mi13_105 : (Cond.fieldLink RX13 368 "KnotHouseModel" "formS" "[I") ∈ wi13 := List.mem_of_getElem? (i := 106) rfl
theorem mi13_106 : (Cond.fieldLink RX13 371 "KnotHouseModel" "forms" "[I") ∈ wi13 := List.mem_of_getElem? (i := 107) rfl
theorem mi13_107 : (Cond.fieldLink RX13 374 "KnotHouseModel" "one" "[I") ∈ wi13 := List.mem_of_getElem? (i := 108) rfl
theorem mi13_108 : (Cond.fieldLink RX13 377 "KnotHouseModel" "two" "[I") ∈ wi13 := List.mem_of_getElem? (i := 109) rfl
theorem mi13_109 : (Cond.fieldLink RX13 380 "KnotHouseModel" "leads" "[I") ∈ wi13 := List.mem_of_getElem? (i := 110) rfl
theorem mi13_110 : (Cond.fieldLink RX13 383 "KnotHouseModel" "closed" "[Z") ∈ wi13 := List.mem_of_getElem? (i := 111) rfl
theorem gi13_X12 : GoodIn wi13 (wsX12_init) := goodIn_sub (fun _ h => List.mem_cons_of_mem _ (List.mem_append_right _ (List.mem_append_right _ (List.mem_append_right _ (List.mem_append_left _ h))))) (by decide +kernel)
theorem gi13_S : GoodIn wi13 (wsV RX13 386 RX13 yX13_makeSimples wm_X13_makeSimples_a) := goodIn_sub (fun _ h => List.mem_cons_of_mem _ (List.mem_append_right _ (List.mem_append_right _ (List.mem_append_right _ (List.mem_append_right _ (List.mem_append_left _ h)))))) (by decide +kernel)
theorem gi13_P : GoodIn wi13 (wsV RX13 389 RX13 yX13_makePermutations wm_X13_makePermutations_a) := goodIn_sub (fun _ h => List.mem_cons_of_mem _ (List.mem_append_right _ (List.mem_append_right _ (List.mem_append_right _ (List.mem_append_right _ (List.mem_append_right _ h)))))) (by decide +kernel)
def fT13 : Nat → Int32 := upd (upd (upd (upd (upd (fun _ => 0) (0 : Int32).toNatClampNeg 1) (1 : Int32).toNatClampNeg 1) (2 : Int32).toNatClampNeg 2) (3 : Int32).toNatClampNeg 6) (4 : Int32).toNatClampNeg 24
def Z13 : ow_MS := (fun _ => 0, fun g => if g = 73 then fT13 else fun _ => 0, fun _ _ => 0)
def xl13 : List Nat := [0, 2, 4, 5, 6, 7, 8, 9, 10, 12, 1000, 1003, 1004, 1005, 1006, 1007, 1008, 1009, 1010, 1011, 1012, 1014, 1015, 2000, 2003, 2004, 2005, 2006, 2007, 2008, 2009, 2010, 2011, 2012, 2014, 2015, 3000, 3003, 3004, 3005, 3006, 3007, 3008, 3009, 3010, 3011, 3012, 3014, 3015, 16, 17, 18, 19, 20, 21, 23, 25, 27, 28, 31, 32, 33, 34, 35, 37, 38, 39, 40, 41, 42, 43, 44, 45, 47, 48, 49, 50, 51, 52, 53, 54, 55, 56, 57, 59, 60, 61, 62, 63, 64, 65, 66, 68, 69, 72, 73, 74, 75, 76, 77, 78, 80, 81, 82, 83, 84, 85, 86, 87, 89, 90, 91, 92, 94, 95, 96, 97, 98, 99, 100, 101, 102, 103, 104, 105, 106, 107, 108, 110, 114, 115, 117, 118, 119, 120, 4000, 4003, 4004, 4005, 4006, 4007, 4008, 4009, 4010, 4011, 4012, 4014, 4015, 5000, 5003, 5004, 5005, 5006, 5007, 5008, 5009, 5010, 5011, 5012, 5014, 5015, 6000, 6003, 6004, 6005, 6006, 6007, 6008, 6009, 6010, 6011, 6012, 6014, 6015, 7000, 7003, 7004, 7005, 7006, 7007, 7008, 7009, 7010, 7011, 7012, 7014, 7015, 8000, 8003, 8004, 8005, 8006, 8007, 8008, 8009, 8010, 8011, 8012, 8014, 8015, 9000, 9003, 9004, 9005, 9006, 9007, 9008, 9009, 9010, 9011, 9012, 9014, 9015, 10000, 10003, 10004, 10005, 10006, 10007, 10008, 10009, 10010, 10011, 10012, 10014, 10015, 11000, 11003, 11004, 11005, 11006, 11007, 11008, 11009, 11010, 11011, 11012, 11014, 11015, 12000, 12003, 12004, 12005, 12006, 12007, 12008, 12009, 12010, 12011, 12012, 12014, 12015, 13000, 13003, 13004, 13005, 13006, 13007, 13008, 13009, 13010, 13011, 13012, 13014, 13015, 14000, 14003, 14004, 14005, 14006, 14007, 14008, 14009, 14010, 14011, 14012, 14014, 14015, 15000, 15003, 15004, 15005, 15006, 15007, 15008, 15009, 15010, 15011, 15012, 15014, 15015, 16000, 16003, 16004, 16005, 16006, 16007, 16008, 16009, 16010, 16011, 16012, 16014, 16015, 17000, 17003, 17004, 17005, 17006, 17007, 17008, 17009, 17010, 17011, 17012, 17014, 17015, 18000, 18003, 18004, 18005, 18006, 18007, 18008, 18009, 18010, 18011, 18012, 18014, 18015]
