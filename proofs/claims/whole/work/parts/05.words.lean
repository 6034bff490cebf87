theorem tb_sub (ws : List Cond) (ps : List Nat) (hp : ws = ps.filterMap (fun i => lw_tbl[i]?)) (hg : ws.all goodWord = true) : ∀ x ∈ ws, x ∈ TB := by
  intro x hx
  have h1 := List.all_eq_true.mp hg x hx
  rw [hp] at hx
  obtain ⟨i, -, hi⟩ := List.mem_filterMap.mp hx
  exact tb_mem i hi h1
theorem j_topi {X : Mx} {w : Wt} {Q : State → Prop} {pc : Nat} {lv : List (Nat × Value)} {st : List Value} {S : St} {x : Int32} (k : ∀ y : Int32, y = x → J X w Q pc lv (.int y :: st) S) : J X w Q pc lv (.int x :: st) S := k x rfl
theorem j_topl {X : Mx} {w : Wt} {Q : State → Prop} {pc : Nat} {lv : List (Nat × Value)} {st : List Value} {S : St} {x : Int64} (k : ∀ y : Int64, y = x → J X w Q pc lv (.long y :: st) S) : J X w Q pc lv (.long x :: st) S := k x rfl
theorem j_mmaxI {X : Mx} {w : Wt} {l0 : Launch} {cc : ByteArray} {n0 : Nat} {rm : Room} {ret : Option FieldType} {Q : State → Prop} {pc : Nat} {lv : List (Nat × Value)} {st : List Value} {S : St} {own : String} {x y : Int32} {index : Nat} (C : Cx X w l0 cc n0 own rm ret) (k1 : Cond.methodLink own index Lib.Math.max.name ∈ TB) (k2 : Cond.static Lib.Math.max.name ∈ TB) (k3 : Cond.initialized "java/lang/Math" ∈ TB) (k4 : Cond.code Lib.Math.max.name Lib.Math.max.code 2 (some .int) ∈ TB) (hfr : 1 ≤ rm.frames) (hlo : (st.map fun v => v.category).sum + 13 ≤ rm.locals) (hd : decode cc pc = .ok (.invokestatic index, 3)) (h : J X w Q (pc + 3) lv (.int (if x < y then y else x) :: st) S) : J X w Q pc lv (.int y :: .int x :: st) S := by
  obtain ⟨p, l, e, R, s, m, args, below, meth, c, A, nL, cells, slots⟩ := X
  intro H locs ls hP hS hl
  obtain ⟨⟨hx, hb, hml, hown, hts⟩, hG, hW, hA, hR, hn, hrt, hlk, hc1, hc2, hl0⟩ := C
  subst hR
  exact va_mmax hx hb (by rw [hml]; exact hl.1.symm) hown (hts _ k1) (hts _ k2) (hts _ k3) (hts _ k4) hfr hlo hc1 hc2 hd (h H locs ls hP hS hl)
theorem j_mmaxJ {X : Mx} {w : Wt} {l0 : Launch} {cc : ByteArray} {n0 : Nat} {rm : Room} {ret : Option FieldType} {Q : State → Prop} {pc : Nat} {lv : List (Nat × Value)} {st : List Value} {S : St} {own : String} {x y : Int64} {index : Nat} (C : Cx X w l0 cc n0 own rm ret) (k1 : Cond.methodLink own index Lib.MathLoose.max_long.x ∈ TB) (k2 : Cond.static Lib.MathLoose.max_long.x ∈ TB) (k3 : Cond.initialized "java/lang/Math" ∈ TB) (k4 : Cond.code Lib.MathLoose.max_long.x Lib.MathLoose.max_long.code 4 (some .long) ∈ TB) (hfr : 1 ≤ rm.frames) (hlo : (st.map fun v => v.category).sum + 15 ≤ rm.locals) (hd : decode cc pc = .ok (.invokestatic index, 3)) (h : J X w Q (pc + 3) lv (.long (if y < x then x else y) :: st) S) : J X w Q pc lv (.long y :: .long x :: st) S := by
  obtain ⟨p, l, e, R, s, m, args, below, meth, c, A, nL, cells, slots⟩ := X
  intro H locs ls hP hS hl
  obtain ⟨⟨hx, hb, hml, hown, hts⟩, hG, hW, hA, hR, hn, hrt, hlk, hc1, hc2, hl0⟩ := C
  subst hR
  exact va_mmax_long hx hb (by rw [hml]; exact hl.1.symm) hown (hts _ k1) (hts _ k2) (hts _ k3) (hts _ k4) hfr hlo hc1 hc2 hd (h H locs ls hP hS hl)
set_option maxRecDepth 20000 in
theorem in_X0 : ∀ x ∈ u_ws RX0 TX0 5, x ∈ TB := tb_sub _ [137, 139, 141, 143, 145] (by decide +kernel) (by decide +kernel)
set_option maxRecDepth 20000 in
theorem in_X1 : ∀ x ∈ u_ws RX1 TX1 7, x ∈ TB := tb_sub _ [229, 231, 233, 235, 237, 239, 241] (by decide +kernel) (by decide +kernel)
set_option maxRecDepth 20000 in
theorem in_X2 : ∀ x ∈ u_ws RX2 TX2 4, x ∈ TB := tb_sub _ [162, 164, 166, 168] (by decide +kernel) (by decide +kernel)
set_option maxRecDepth 20000 in
theorem in_X3 : ∀ x ∈ u_ws RX3 TX3 4, x ∈ TB := tb_sub _ [254, 256, 258, 260] (by decide +kernel) (by decide +kernel)
set_option maxRecDepth 20000 in
theorem in_X4 : ∀ x ∈ u_ws RX4 TX4 5, x ∈ TB := tb_sub _ [210, 212, 214, 216, 218] (by decide +kernel) (by decide +kernel)
set_option maxRecDepth 20000 in
theorem in_X5 : ∀ x ∈ u_ws RX5 TX5 2, x ∈ TB := tb_sub _ [181, 183] (by decide +kernel) (by decide +kernel)
set_option maxRecDepth 20000 in
theorem in_X6 : ∀ x ∈ u_ws RX6 TX6 11, x ∈ TB := tb_sub _ [275, 277, 279, 281, 283, 285, 287, 289, 291, 293, 295] (by decide +kernel) (by decide +kernel)
set_option maxRecDepth 20000 in
theorem in_X7 : ∀ x ∈ u_ws RX7 TX7 30, x ∈ TB := tb_sub _ [747, 749, 751, 753, 755, 757, 759, 761, 763, 765, 767, 769, 771, 773, 775, 777, 779, 781, 783, 785, 787, 789, 791, 793, 795, 797, 799, 801, 803, 805] (by decide +kernel) (by decide +kernel)
theorem k_0 : Cond.selects RX2 yX2_takeCount yX2_takeCount ∈ TB := tb_mem 0 (by decide +kernel) rfl
theorem k_1 : Cond.selects RX2 yX2_moveTo yX2_moveTo ∈ TB := tb_mem 1 (by decide +kernel) rfl
theorem k_2 : Cond.selects RX2 yX2_takeBoundsEnd yX2_takeBoundsEnd ∈ TB := tb_mem 2 (by decide +kernel) rfl
theorem k_3 : Cond.selects RX2 yX2_takeBound yX2_takeBound ∈ TB := tb_mem 3 (by decide +kernel) rfl
theorem k_4 : Cond.selects RX2 yX2_takeKind yX2_takeKind ∈ TB := tb_mem 4 (by decide +kernel) rfl
theorem k_5 : Cond.selects RX2 yX2_takeInPerson yX2_takeInPerson ∈ TB := tb_mem 5 (by decide +kernel) rfl
theorem k_6 : Cond.selects RX2 yX2_canVouchOn yX2_canVouchOn ∈ TB := tb_mem 6 (by decide +kernel) rfl
theorem k_7 : Cond.selects RX2 yX2_takeWhom yX2_takeWhom ∈ TB := tb_mem 7 (by decide +kernel) rfl
theorem k_8 : Cond.selects RX5 yX5_put yX5_put ∈ TB := tb_mem 8 (by decide +kernel) rfl
theorem k_9 : Cond.selects RX5 yX5_writePerson yX5_writePerson ∈ TB := tb_mem 9 (by decide +kernel) rfl
theorem k_10 : Cond.selects RX6 yX6_prepareWeb yX6_prepareWeb ∈ TB := tb_mem 10 (by decide +kernel) rfl
theorem k_11 : Cond.selects RX6 yX6_waysTo yX6_waysTo ∈ TB := tb_mem 11 (by decide +kernel) rfl
theorem k_12 : Cond.selects RX1 yX1_search yX1_search ∈ TB := tb_mem 12 (by decide +kernel) rfl
theorem k_13 : Cond.selects RX1 yX1_note yX1_note ∈ TB := tb_mem 13 (by decide +kernel) rfl
theorem k_14 : Cond.selects RX1 yX1_nextOfComing yX1_nextOfComing ∈ TB := tb_mem 14 (by decide +kernel) rfl
theorem k_15 : Cond.selects RX1 yX1_nextOfGoing yX1_nextOfGoing ∈ TB := tb_mem 15 (by decide +kernel) rfl
theorem k_16 : Cond.selects RX1 yX1_move yX1_move ∈ TB := tb_mem 16 (by decide +kernel) rfl
theorem k_17 : Cond.selects RX1 yX1_moveFromComing yX1_moveFromComing ∈ TB := tb_mem 17 (by decide +kernel) rfl
theorem k_18 : Cond.selects RX1 yX1_moveFromGoing yX1_moveFromGoing ∈ TB := tb_mem 18 (by decide +kernel) rfl
theorem k_19 : Cond.selects RX6 yX6_admitted yX6_admitted ∈ TB := tb_mem 19 (by decide +kernel) rfl
theorem k_20 : Cond.selects RX6 yX6_takenIn yX6_takenIn ∈ TB := tb_mem 20 (by decide +kernel) rfl
theorem k_21 : Cond.selects RX6 yX6_prepareWebWithout yX6_prepareWebWithout ∈ TB := tb_mem 21 (by decide +kernel) rfl
theorem k_22 : Cond.selects RX3 yX3_share yX3_share ∈ TB := tb_mem 22 (by decide +kernel) rfl
theorem k_23 : Cond.selects RX3 yX3_step yX3_step ∈ TB := tb_mem 23 (by decide +kernel) rfl
theorem k_24 : Cond.selects RX3 yX3_commonDivisor yX3_commonDivisor ∈ TB := tb_mem 24 (by decide +kernel) rfl
theorem k_25 : Cond.selects RX3 yX3_comingBefore yX3_comingBefore ∈ TB := tb_mem 25 (by decide +kernel) rfl
theorem k_26 : Cond.selects RX6 yX6_addInk yX6_addInk ∈ TB := tb_mem 26 (by decide +kernel) rfl
theorem k_27 : Cond.selects RX6 yX6_addPersons yX6_addPersons ∈ TB := tb_mem 27 (by decide +kernel) rfl
theorem k_28 : Cond.selects RX6 yX6_addTrust yX6_addTrust ∈ TB := tb_mem 28 (by decide +kernel) rfl
theorem k_29 : Cond.selects RX6 yX6_addWalks yX6_addWalks ∈ TB := tb_mem 29 (by decide +kernel) rfl
theorem k_30 : Cond.selects RX7 yX7_read yX7_read ∈ TB := tb_mem 30 (by decide +kernel) rfl
theorem k_31 : Cond.selects RX7 yX7_takes yX7_takes ∈ TB := tb_mem 31 (by decide +kernel) rfl
theorem k_32 : Cond.selects RX7 yX7_takesBounds yX7_takesBounds ∈ TB := tb_mem 32 (by decide +kernel) rfl
theorem k_33 : Cond.selects RX7 yX7_beginPerson yX7_beginPerson ∈ TB := tb_mem 33 (by decide +kernel) rfl
theorem k_34 : Cond.selects RX7 yX7_takesWhom yX7_takesWhom ∈ TB := tb_mem 34 (by decide +kernel) rfl
theorem k_35 : Cond.selects RX7 yX7_canVouch yX7_canVouch ∈ TB := tb_mem 35 (by decide +kernel) rfl
theorem k_36 : Cond.selects RX7 yX7_takesOfPerson yX7_takesOfPerson ∈ TB := tb_mem 36 (by decide +kernel) rfl
theorem k_37 : Cond.selects RX7 yX7_takesKind yX7_takesKind ∈ TB := tb_mem 37 (by decide +kernel) rfl
theorem k_38 : Cond.selects RX7 yX7_canBegin yX7_canBegin ∈ TB := tb_mem 38 (by decide +kernel) rfl
theorem k_39 : Cond.selects RX7 yX7_isCircle yX7_isCircle ∈ TB := tb_mem 39 (by decide +kernel) rfl
theorem k_40 : Cond.selects RX7 yX7_inkNow yX7_inkNow ∈ TB := tb_mem 40 (by decide +kernel) rfl
theorem k_41 : Cond.selects RX7 yX7_ink1 yX7_ink1 ∈ TB := tb_mem 41 (by decide +kernel) rfl
theorem k_42 : Cond.selects RX7 yX7_inkPerson yX7_inkPerson ∈ TB := tb_mem 42 (by decide +kernel) rfl
theorem k_43 : Cond.selects RX7 yX7_isPerson yX7_isPerson ∈ TB := tb_mem 43 (by decide +kernel) rfl
theorem k_44 : Cond.selects RX7 yX7_ofKind yX7_ofKind ∈ TB := tb_mem 44 (by decide +kernel) rfl
theorem k_45 : Cond.selects RX7 yX7_areTwo yX7_areTwo ∈ TB := tb_mem 45 (by decide +kernel) rfl
theorem k_46 : Cond.selects RX7 yX7_aboutNow yX7_aboutNow ∈ TB := tb_mem 46 (by decide +kernel) rfl
theorem k_47 : Cond.selects RX7 yX7_layLevels yX7_layLevels ∈ TB := tb_mem 47 (by decide +kernel) rfl
theorem k_48 : Cond.selects RX7 yX7_vouchedBy yX7_vouchedBy ∈ TB := tb_mem 48 (by decide +kernel) rfl
theorem k_49 : Cond.selects RX7 yX7_vouchesAll yX7_vouchesAll ∈ TB := tb_mem 49 (by decide +kernel) rfl
theorem k_50 : Cond.selects RX7 yX7_levelsMany yX7_levelsMany ∈ TB := tb_mem 50 (by decide +kernel) rfl
theorem k_51 : Cond.selects RX7 yX7_greatestLevel yX7_greatestLevel ∈ TB := tb_mem 51 (by decide +kernel) rfl
theorem k_52 : Cond.selects RX7 yX7_mostOf yX7_mostOf ∈ TB := tb_mem 52 (by decide +kernel) rfl
theorem k_53 : Cond.selects RX7 yX7_personNow yX7_personNow ∈ TB := tb_mem 53 (by decide +kernel) rfl
theorem k_54 : Cond.selects RX7 yX7_lay yX7_lay ∈ TB := tb_mem 54 (by decide +kernel) rfl
theorem k_55 : Cond.selects RX7 yX7_wallOf yX7_wallOf ∈ TB := tb_mem 55 (by decide +kernel) rfl
theorem k_56 : Cond.selects RX7 yX7_vouchersOf yX7_vouchersOf ∈ TB := tb_mem 56 (by decide +kernel) rfl
theorem k_57 : Cond.selects RX7 yX7_allIn yX7_allIn ∈ TB := tb_mem 57 (by decide +kernel) rfl
theorem k_58 : Cond.selects RX7 yX7_canBe yX7_canBe ∈ TB := tb_mem 58 (by decide +kernel) rfl
theorem k_59 : Cond.selects RX7 yX7_takenIn yX7_takenIn ∈ TB := tb_mem 59 (by decide +kernel) rfl
theorem k_60 : Cond.selects RX7 yX7_apartNow yX7_apartNow ∈ TB := tb_mem 60 (by decide +kernel) rfl
theorem k_61 : Cond.selects RX7 yX7_isLed yX7_isLed ∈ TB := tb_mem 61 (by decide +kernel) rfl
theorem k_62 : Cond.selects RX7 yX7_generousNow yX7_generousNow ∈ TB := tb_mem 62 (by decide +kernel) rfl
theorem k_63 : Cond.selects RX7 yX7_trustNow yX7_trustNow ∈ TB := tb_mem 63 (by decide +kernel) rfl
theorem k_64 : Cond.selects RX7 yX7_flood yX7_flood ∈ TB := tb_mem 64 (by decide +kernel) rfl
theorem k_65 : Cond.selects RX7 yX7_withoutFalse yX7_withoutFalse ∈ TB := tb_mem 65 (by decide +kernel) rfl
theorem k_66 : Cond.selects RX7 yX7_togetherNow yX7_togetherNow ∈ TB := tb_mem 66 (by decide +kernel) rfl
theorem k_67 : Cond.selects RX7 yX7_cutNow yX7_cutNow ∈ TB := tb_mem 67 (by decide +kernel) rfl
theorem k_68 : Cond.selects RX7 yX7_cutSet yX7_cutSet ∈ TB := tb_mem 68 (by decide +kernel) rfl
theorem k_69 : Cond.selects RX7 yX7_costOf yX7_costOf ∈ TB := tb_mem 69 (by decide +kernel) rfl
theorem k_70 : Cond.selects RX7 yX7_withoutNow yX7_withoutNow ∈ TB := tb_mem 70 (by decide +kernel) rfl
theorem k_71 : Cond.selects RX7 yX7_dearestNow yX7_dearestNow ∈ TB := tb_mem 71 (by decide +kernel) rfl
theorem k_72 : Cond.selects RX7 yX7_areSeeds yX7_areSeeds ∈ TB := tb_mem 72 (by decide +kernel) rfl
theorem k_73 : Cond.selects RX7 yX7_chanceNow yX7_chanceNow ∈ TB := tb_mem 73 (by decide +kernel) rfl
theorem k_74 : Cond.selects RX7 yX7_layChances yX7_layChances ∈ TB := tb_mem 74 (by decide +kernel) rfl
theorem k_75 : Cond.selects RX7 yX7_goesTo yX7_goesTo ∈ TB := tb_mem 75 (by decide +kernel) rfl
theorem k_76 : Cond.selects RX7 yX7_thousandthsNow yX7_thousandthsNow ∈ TB := tb_mem 76 (by decide +kernel) rfl
theorem k_77 : Cond.selects RX7 yX7_orderNow yX7_orderNow ∈ TB := tb_mem 77 (by decide +kernel) rfl
theorem k_78 : Cond.selects RX7 yX7_placeOf yX7_placeOf ∈ TB := tb_mem 78 (by decide +kernel) rfl
theorem k_79 : Cond.selects RX7 yX7_howMany yX7_howMany ∈ TB := tb_mem 79 (by decide +kernel) rfl
theorem k_80 : Cond.selects RX7 yX7_mixInk yX7_mixInk ∈ TB := tb_mem 80 (by decide +kernel) rfl
theorem k_81 : Cond.selects RX7 yX7_mix yX7_mix ∈ TB := tb_mem 81 (by decide +kernel) rfl
theorem k_82 : Cond.selects RX7 yX7_mixPersons yX7_mixPersons ∈ TB := tb_mem 82 (by decide +kernel) rfl
theorem k_83 : Cond.selects RX7 yX7_mixTrust yX7_mixTrust ∈ TB := tb_mem 83 (by decide +kernel) rfl
theorem k_84 : Cond.selects RX7 yX7_mixWalk yX7_mixWalk ∈ TB := tb_mem 84 (by decide +kernel) rfl
theorem k_86 : Cond.initialized RX6 ∈ TB := tb_mem 86 (by decide +kernel) rfl
theorem k_87 : Cond.initialized RX0 ∈ TB := tb_mem 87 (by decide +kernel) rfl
theorem k_88 : Cond.initialized RX2 ∈ TB := tb_mem 88 (by decide +kernel) rfl
theorem k_89 : Cond.initialized RX5 ∈ TB := tb_mem 89 (by decide +kernel) rfl
theorem k_90 : Cond.initialized RX1 ∈ TB := tb_mem 90 (by decide +kernel) rfl
theorem k_91 : Cond.initialized RX4 ∈ TB := tb_mem 91 (by decide +kernel) rfl
theorem k_92 : Cond.initialized RX3 ∈ TB := tb_mem 92 (by decide +kernel) rfl
theorem k_93 : Cond.initialized RX7 ∈ TB := tb_mem 93 (by decide +kernel) rfl
theorem k_94 : Cond.initialized RJ7 ∈ TB := tb_mem 94 (by decide +kernel) rfl
theorem k_95 : Cond.initialized RJ6 ∈ TB := tb_mem 95 (by decide +kernel) rfl
theorem k_96 : Cond.initialized "java/lang/System" ∈ TB := tb_mem 96 (by decide +kernel) rfl
theorem k_112 : Cond.fieldLink RX0 21 "VouchFlow$Circle" "persons" "I" ∈ TB := tb_mem 112 (by decide +kernel) rfl
theorem k_113 : Cond.fieldLink RX4 21 "VouchFlow$Circle" "persons" "I" ∈ TB := tb_mem 113 (by decide +kernel) rfl
theorem k_114 : Cond.fieldLink RX3 24 "VouchFlow$Circle" "persons" "I" ∈ TB := tb_mem 114 (by decide +kernel) rfl
theorem k_115 : Cond.fieldLink RX5 19 "VouchFlow$Circle" "persons" "I" ∈ TB := tb_mem 115 (by decide +kernel) rfl
theorem k_116 : Cond.fieldLink RX2 31 "VouchFlow$Circle" "persons" "I" ∈ TB := tb_mem 116 (by decide +kernel) rfl
theorem k_117 : Cond.fieldLink RX6 82 "VouchFlow$Circle" "persons" "I" ∈ TB := tb_mem 117 (by decide +kernel) rfl
theorem k_118 : Cond.fieldLink RX0 25 "VouchFlow$Circle" "boundCount" "I" ∈ TB := tb_mem 118 (by decide +kernel) rfl
theorem k_119 : Cond.fieldLink RX5 28 "VouchFlow$Circle" "boundCount" "I" ∈ TB := tb_mem 119 (by decide +kernel) rfl
theorem k_120 : Cond.fieldLink RX4 52 "VouchFlow$Circle" "boundCount" "I" ∈ TB := tb_mem 120 (by decide +kernel) rfl
theorem k_121 : Cond.fieldLink RX2 56 "VouchFlow$Circle" "boundCount" "I" ∈ TB := tb_mem 121 (by decide +kernel) rfl
theorem k_122 : Cond.fieldLink RX6 131 "VouchFlow$Circle" "boundCount" "I" ∈ TB := tb_mem 122 (by decide +kernel) rfl
theorem k_123 : Cond.fieldLink RX0 9 "VouchFlow$Circle" "bounds" "[I" ∈ TB := tb_mem 123 (by decide +kernel) rfl
theorem k_124 : Cond.fieldLink RX5 31 "VouchFlow$Circle" "bounds" "[I" ∈ TB := tb_mem 124 (by decide +kernel) rfl
theorem k_125 : Cond.fieldLink RX4 55 "VouchFlow$Circle" "bounds" "[I" ∈ TB := tb_mem 125 (by decide +kernel) rfl
theorem k_126 : Cond.fieldLink RX2 59 "VouchFlow$Circle" "bounds" "[I" ∈ TB := tb_mem 126 (by decide +kernel) rfl
theorem k_127 : Cond.fieldLink RX6 134 "VouchFlow$Circle" "bounds" "[I" ∈ TB := tb_mem 127 (by decide +kernel) rfl
theorem k_128 : Cond.fieldLink RX0 15 "VouchFlow$Circle" "kinds" "[I" ∈ TB := tb_mem 128 (by decide +kernel) rfl
theorem k_129 : Cond.fieldLink RX5 38 "VouchFlow$Circle" "kinds" "[I" ∈ TB := tb_mem 129 (by decide +kernel) rfl
theorem k_130 : Cond.fieldLink RX6 103 "VouchFlow$Circle" "kinds" "[I" ∈ TB := tb_mem 130 (by decide +kernel) rfl
theorem k_131 : Cond.fieldLink RX2 72 "VouchFlow$Circle" "kinds" "[I" ∈ TB := tb_mem 131 (by decide +kernel) rfl
theorem k_132 : Cond.fieldLink RX0 18 "VouchFlow$Circle" "vouched" "[I" ∈ TB := tb_mem 132 (by decide +kernel) rfl
theorem k_133 : Cond.fieldLink RX4 35 "VouchFlow$Circle" "vouched" "[I" ∈ TB := tb_mem 133 (by decide +kernel) rfl
theorem k_134 : Cond.fieldLink RX3 55 "VouchFlow$Circle" "vouched" "[I" ∈ TB := tb_mem 134 (by decide +kernel) rfl
theorem k_135 : Cond.fieldLink RX6 122 "VouchFlow$Circle" "vouched" "[I" ∈ TB := tb_mem 135 (by decide +kernel) rfl
theorem k_136 : Cond.fieldLink RX2 79 "VouchFlow$Circle" "vouched" "[I" ∈ TB := tb_mem 136 (by decide +kernel) rfl
theorem k_157 : Cond.fieldLink RX2 12 "VouchFlow$Reader" "draft" "LVouchFlow$Circle;" ∈ TB := tb_mem 157 (by decide +kernel) rfl
theorem k_158 : Cond.fieldLink RX6 72 "VouchFlow$Reader" "draft" "LVouchFlow$Circle;" ∈ TB := tb_mem 158 (by decide +kernel) rfl
theorem k_159 : Cond.fieldLink RX2 21 "VouchFlow$Reader" "state" "I" ∈ TB := tb_mem 159 (by decide +kernel) rfl
theorem k_160 : Cond.fieldLink RX2 25 "VouchFlow$Reader" "current" "I" ∈ TB := tb_mem 160 (by decide +kernel) rfl
theorem k_161 : Cond.fieldLink RX2 28 "VouchFlow$Reader" "lastWhom" "I" ∈ TB := tb_mem 161 (by decide +kernel) rfl
theorem k_177 : Cond.fieldLink RX5 11 "VouchFlow$Writer" "text" "[I" ∈ TB := tb_mem 177 (by decide +kernel) rfl
theorem k_178 : Cond.fieldLink RX6 94 "VouchFlow$Writer" "text" "[I" ∈ TB := tb_mem 178 (by decide +kernel) rfl
theorem k_179 : Cond.fieldLink RX5 15 "VouchFlow$Writer" "length" "I" ∈ TB := tb_mem 179 (by decide +kernel) rfl
theorem k_180 : Cond.fieldLink RX6 91 "VouchFlow$Writer" "length" "I" ∈ TB := tb_mem 180 (by decide +kernel) rfl
theorem k_198 : Cond.fieldLink RX4 27 "VouchFlow$Web" "persons" "I" ∈ TB := tb_mem 198 (by decide +kernel) rfl
theorem k_199 : Cond.fieldLink RX1 72 "VouchFlow$Web" "persons" "I" ∈ TB := tb_mem 199 (by decide +kernel) rfl
theorem k_200 : Cond.fieldLink RX4 32 "VouchFlow$Web" "seeds" "I" ∈ TB := tb_mem 200 (by decide +kernel) rfl
theorem k_201 : Cond.fieldLink RX1 56 "VouchFlow$Web" "seeds" "I" ∈ TB := tb_mem 201 (by decide +kernel) rfl
theorem k_202 : Cond.fieldLink RX6 192 "VouchFlow$Web" "seeds" "I" ∈ TB := tb_mem 202 (by decide +kernel) rfl
theorem k_203 : Cond.fieldLink RX4 9 "VouchFlow$Web" "vouched" "[I" ∈ TB := tb_mem 203 (by decide +kernel) rfl
theorem k_204 : Cond.fieldLink RX1 75 "VouchFlow$Web" "vouched" "[I" ∈ TB := tb_mem 204 (by decide +kernel) rfl
theorem k_205 : Cond.fieldLink RX4 15 "VouchFlow$Web" "levels" "[I" ∈ TB := tb_mem 205 (by decide +kernel) rfl
theorem k_206 : Cond.fieldLink RX6 163 "VouchFlow$Web" "levels" "[I" ∈ TB := tb_mem 206 (by decide +kernel) rfl
theorem k_207 : Cond.fieldLink RX4 18 "VouchFlow$Web" "limits" "[I" ∈ TB := tb_mem 207 (by decide +kernel) rfl
theorem k_208 : Cond.fieldLink RX1 69 "VouchFlow$Web" "limits" "[I" ∈ TB := tb_mem 208 (by decide +kernel) rfl
theorem k_209 : Cond.fieldLink RX6 166 "VouchFlow$Web" "limits" "[I" ∈ TB := tb_mem 209 (by decide +kernel) rfl
theorem k_221 : Cond.fieldLink RX1 12 "VouchFlow$Flow" "web" "LVouchFlow$Web;" ∈ TB := tb_mem 221 (by decide +kernel) rfl
theorem k_223 : Cond.fieldLink RX1 18 "VouchFlow$Flow" "coming" "[I" ∈ TB := tb_mem 223 (by decide +kernel) rfl
theorem k_224 : Cond.fieldLink RX1 22 "VouchFlow$Flow" "along" "[I" ∈ TB := tb_mem 224 (by decide +kernel) rfl
theorem k_225 : Cond.fieldLink RX1 25 "VouchFlow$Flow" "before" "[I" ∈ TB := tb_mem 225 (by decide +kernel) rfl
theorem k_226 : Cond.fieldLink RX1 28 "VouchFlow$Flow" "found" "[I" ∈ TB := tb_mem 226 (by decide +kernel) rfl
theorem k_227 : Cond.fieldLink RX1 53 "VouchFlow$Flow" "foundCount" "I" ∈ TB := tb_mem 227 (by decide +kernel) rfl
theorem k_228 : Cond.fieldLink RX1 41 "VouchFlow$Flow" "seen" "I" ∈ TB := tb_mem 228 (by decide +kernel) rfl
theorem k_250 : Cond.fieldLink RX3 28 "VouchFlow$Walk" "persons" "I" ∈ TB := tb_mem 250 (by decide +kernel) rfl
theorem k_251 : Cond.fieldLink RX3 31 "VouchFlow$Walk" "whole" "J" ∈ TB := tb_mem 251 (by decide +kernel) rfl
theorem k_252 : Cond.fieldLink RX3 9 "VouchFlow$Walk" "parts" "[J" ∈ TB := tb_mem 252 (by decide +kernel) rfl
theorem k_253 : Cond.fieldLink RX3 15 "VouchFlow$Walk" "next" "[J" ∈ TB := tb_mem 253 (by decide +kernel) rfl
theorem k_264 : Cond.fieldLink RX6 9 "VouchFlow" "page" "[I" ∈ TB := tb_mem 264 (by decide +kernel) rfl
theorem k_265 : Cond.fieldLink RX6 53 "VouchFlow" "pageLength" "I" ∈ TB := tb_mem 265 (by decide +kernel) rfl
theorem k_266 : Cond.fieldLink RX6 16 "VouchFlow" "present" "LVouchFlow$Circle;" ∈ TB := tb_mem 266 (by decide +kernel) rfl
theorem k_267 : Cond.fieldLink RX6 23 "VouchFlow" "reader" "LVouchFlow$Reader;" ∈ TB := tb_mem 267 (by decide +kernel) rfl
theorem k_268 : Cond.fieldLink RX6 30 "VouchFlow" "writer" "LVouchFlow$Writer;" ∈ TB := tb_mem 268 (by decide +kernel) rfl
theorem k_269 : Cond.fieldLink RX6 37 "VouchFlow" "flow" "LVouchFlow$Flow;" ∈ TB := tb_mem 269 (by decide +kernel) rfl
theorem k_270 : Cond.fieldLink RX6 45 "VouchFlow" "web" "LVouchFlow$Web;" ∈ TB := tb_mem 270 (by decide +kernel) rfl
theorem k_271 : Cond.fieldLink RX6 49 "VouchFlow" "walk" "LVouchFlow$Walk;" ∈ TB := tb_mem 271 (by decide +kernel) rfl
theorem k_272 : Cond.fieldLink RX6 79 "VouchFlow" "circlesRead" "I" ∈ TB := tb_mem 272 (by decide +kernel) rfl
theorem k_273 : Cond.fieldLink RX6 125 "VouchFlow" "vouchesAdded" "I" ∈ TB := tb_mem 273 (by decide +kernel) rfl
theorem k_274 : Cond.fieldLink RX6 128 "VouchFlow" "vouchesRemoved" "I" ∈ TB := tb_mem 274 (by decide +kernel) rfl
theorem k_298 : Cond.methodLink RL 13 yX6_letter ∈ TB := tb_mem 298 (by decide +kernel) rfl
theorem k_299 : Cond.instanceMethod yX6_letter ∈ TB := tb_mem 299 (by decide +kernel) rfl
theorem k_300 : Cond.selects RX6 yX6_letter yX6_letter ∈ TB := tb_mem 300 (by decide +kernel) rfl
theorem k_301 : Cond.code yX6_letter cX6_letter 2 (some .int) ∈ TB := tb_mem 301 (by decide +kernel) rfl
theorem k_302 : Cond.methodLink RL 18 yX6_blank ∈ TB := tb_mem 302 (by decide +kernel) rfl
theorem k_303 : Cond.instanceMethod yX6_blank ∈ TB := tb_mem 303 (by decide +kernel) rfl
theorem k_304 : Cond.selects RX6 yX6_blank yX6_blank ∈ TB := tb_mem 304 (by decide +kernel) rfl
theorem k_305 : Cond.code yX6_blank cX6_blank 2 (some .int) ∈ TB := tb_mem 305 (by decide +kernel) rfl
theorem k_306 : Cond.methodLink RL 23 yX6_fault ∈ TB := tb_mem 306 (by decide +kernel) rfl
theorem k_307 : Cond.instanceMethod yX6_fault ∈ TB := tb_mem 307 (by decide +kernel) rfl
theorem k_308 : Cond.selects RX6 yX6_fault yX6_fault ∈ TB := tb_mem 308 (by decide +kernel) rfl
theorem k_309 : Cond.code yX6_fault cX6_fault 2 (some .int) ∈ TB := tb_mem 309 (by decide +kernel) rfl
theorem k_310 : Cond.methodLink RX6 57 yX2_begin ∈ TB := tb_mem 310 (by decide +kernel) rfl
theorem k_311 : Cond.instanceMethod yX2_begin ∈ TB := tb_mem 311 (by decide +kernel) rfl
theorem k_312 : Cond.selects RX2 yX2_begin yX2_begin ∈ TB := tb_mem 312 (by decide +kernel) rfl
theorem k_313 : Cond.code yX2_begin cX2_begin 1 none ∈ TB := tb_mem 313 (by decide +kernel) rfl
theorem k_314 : Cond.methodLink RX2 18 yX0_clear ∈ TB := tb_mem 314 (by decide +kernel) rfl
theorem k_315 : Cond.instanceMethod yX0_clear ∈ TB := tb_mem 315 (by decide +kernel) rfl
theorem k_316 : Cond.selects RX0 yX0_clear yX0_clear ∈ TB := tb_mem 316 (by decide +kernel) rfl
theorem k_317 : Cond.code yX0_clear cX0_clear 1 none ∈ TB := tb_mem 317 (by decide +kernel) rfl
theorem k_318 : Cond.methodLink RX0 28 yJ7_fill_53178 ∈ TB := tb_mem 318 (by decide +kernel) rfl
theorem k_319 : Cond.static yJ7_fill_53178 ∈ TB := tb_mem 319 (by decide +kernel) rfl
theorem k_320 : Cond.code yJ7_fill_53178 cJ7_fill_53178 4 none ∈ TB := tb_mem 320 (by decide +kernel) rfl
theorem k_321 : Cond.methodLink RX6 60 yX2_take ∈ TB := tb_mem 321 (by decide +kernel) rfl
theorem k_322 : Cond.instanceMethod yX2_take ∈ TB := tb_mem 322 (by decide +kernel) rfl
theorem k_323 : Cond.selects RX2 yX2_take yX2_take ∈ TB := tb_mem 323 (by decide +kernel) rfl
theorem k_324 : Cond.code yX2_take cX2_take 2 (some .boolean) ∈ TB := tb_mem 324 (by decide +kernel) rfl
theorem k_325 : Cond.methodLink RX2 34 yX2_takeCount ∈ TB := tb_mem 325 (by decide +kernel) rfl
theorem k_327 : Cond.instanceMethod yX2_takeCount ∈ TB := tb_mem 327 (by decide +kernel) rfl
theorem k_328 : Cond.code yX2_takeCount cX2_takeCount 2 (some .boolean) ∈ TB := tb_mem 328 (by decide +kernel) rfl
theorem k_329 : Cond.methodLink RX2 38 yX2_moveTo ∈ TB := tb_mem 329 (by decide +kernel) rfl
theorem k_331 : Cond.instanceMethod yX2_moveTo ∈ TB := tb_mem 331 (by decide +kernel) rfl
theorem k_332 : Cond.code yX2_moveTo cX2_moveTo 2 (some .boolean) ∈ TB := tb_mem 332 (by decide +kernel) rfl
theorem k_333 : Cond.methodLink RX2 41 yX2_takeBoundsEnd ∈ TB := tb_mem 333 (by decide +kernel) rfl
theorem k_335 : Cond.instanceMethod yX2_takeBoundsEnd ∈ TB := tb_mem 335 (by decide +kernel) rfl
theorem k_336 : Cond.code yX2_takeBoundsEnd cX2_takeBoundsEnd 2 (some .boolean) ∈ TB := tb_mem 336 (by decide +kernel) rfl
theorem k_337 : Cond.methodLink RX2 44 yX2_takeBound ∈ TB := tb_mem 337 (by decide +kernel) rfl
theorem k_339 : Cond.instanceMethod yX2_takeBound ∈ TB := tb_mem 339 (by decide +kernel) rfl
theorem k_340 : Cond.code yX2_takeBound cX2_takeBound 2 (some .boolean) ∈ TB := tb_mem 340 (by decide +kernel) rfl
theorem k_341 : Cond.methodLink RX2 47 yX2_takeKind ∈ TB := tb_mem 341 (by decide +kernel) rfl
theorem k_343 : Cond.instanceMethod yX2_takeKind ∈ TB := tb_mem 343 (by decide +kernel) rfl
theorem k_344 : Cond.code yX2_takeKind cX2_takeKind 3 (some .boolean) ∈ TB := tb_mem 344 (by decide +kernel) rfl
theorem k_345 : Cond.methodLink RX2 63 yX0_ofKind ∈ TB := tb_mem 345 (by decide +kernel) rfl
theorem k_346 : Cond.instanceMethod yX0_ofKind ∈ TB := tb_mem 346 (by decide +kernel) rfl
theorem k_347 : Cond.selects RX0 yX0_ofKind yX0_ofKind ∈ TB := tb_mem 347 (by decide +kernel) rfl
theorem k_348 : Cond.code yX0_ofKind cX0_ofKind 4 (some .int) ∈ TB := tb_mem 348 (by decide +kernel) rfl
theorem k_349 : Cond.methodLink RX2 67 yJ6_bitCount_0f7a4 ∈ TB := tb_mem 349 (by decide +kernel) rfl
theorem k_350 : Cond.static yJ6_bitCount_0f7a4 ∈ TB := tb_mem 350 (by decide +kernel) rfl
theorem k_351 : Cond.code yJ6_bitCount_0f7a4 cJ6_bitCount_0f7a4 1 (some .int) ∈ TB := tb_mem 351 (by decide +kernel) rfl
theorem k_352 : Cond.constant RJ6 265 1431655765 ∈ TB := tb_mem 352 (by decide +kernel) rfl
theorem k_353 : Cond.constant RJ6 266 858993459 ∈ TB := tb_mem 353 (by decide +kernel) rfl
theorem k_354 : Cond.constant RJ6 267 252645135 ∈ TB := tb_mem 354 (by decide +kernel) rfl
theorem k_355 : Cond.methodLink RX2 50 yX2_takeInPerson ∈ TB := tb_mem 355 (by decide +kernel) rfl
theorem k_357 : Cond.instanceMethod yX2_takeInPerson ∈ TB := tb_mem 357 (by decide +kernel) rfl
theorem k_358 : Cond.code yX2_takeInPerson cX2_takeInPerson 2 (some .boolean) ∈ TB := tb_mem 358 (by decide +kernel) rfl
theorem k_359 : Cond.methodLink RX2 75 yX2_canVouchOn ∈ TB := tb_mem 359 (by decide +kernel) rfl
theorem k_361 : Cond.instanceMethod yX2_canVouchOn ∈ TB := tb_mem 361 (by decide +kernel) rfl
theorem k_362 : Cond.code yX2_canVouchOn cX2_canVouchOn 2 (some .boolean) ∈ TB := tb_mem 362 (by decide +kernel) rfl
theorem k_363 : Cond.methodLink RX2 53 yX2_takeWhom ∈ TB := tb_mem 363 (by decide +kernel) rfl
theorem k_365 : Cond.instanceMethod yX2_takeWhom ∈ TB := tb_mem 365 (by decide +kernel) rfl
theorem k_366 : Cond.code yX2_takeWhom cX2_takeWhom 2 (some .boolean) ∈ TB := tb_mem 366 (by decide +kernel) rfl
theorem k_367 : Cond.methodLink RL 27 yX6_circle ∈ TB := tb_mem 367 (by decide +kernel) rfl
theorem k_368 : Cond.instanceMethod yX6_circle ∈ TB := tb_mem 368 (by decide +kernel) rfl
theorem k_369 : Cond.selects RX6 yX6_circle yX6_circle ∈ TB := tb_mem 369 (by decide +kernel) rfl
theorem k_370 : Cond.code yX6_circle cX6_circle 1 (some .int) ∈ TB := tb_mem 370 (by decide +kernel) rfl
theorem k_371 : Cond.methodLink RX6 64 yX6_fault ∈ TB := tb_mem 371 (by decide +kernel) rfl
theorem k_372 : Cond.methodLink RX6 68 yX2_isComplete ∈ TB := tb_mem 372 (by decide +kernel) rfl
theorem k_373 : Cond.instanceMethod yX2_isComplete ∈ TB := tb_mem 373 (by decide +kernel) rfl
theorem k_374 : Cond.selects RX2 yX2_isComplete yX2_isComplete ∈ TB := tb_mem 374 (by decide +kernel) rfl
theorem k_375 : Cond.code yX2_isComplete cX2_isComplete 1 (some .boolean) ∈ TB := tb_mem 375 (by decide +kernel) rfl
theorem k_376 : Cond.methodLink RX6 75 yX0_become ∈ TB := tb_mem 376 (by decide +kernel) rfl
theorem k_377 : Cond.instanceMethod yX0_become ∈ TB := tb_mem 377 (by decide +kernel) rfl
theorem k_378 : Cond.selects RX0 yX0_become yX0_become ∈ TB := tb_mem 378 (by decide +kernel) rfl
theorem k_379 : Cond.code yX0_become cX0_become 2 none ∈ TB := tb_mem 379 (by decide +kernel) rfl
theorem k_380 : Cond.methodLink RX0 34 arraycopyName ∈ TB := tb_mem 380 (by decide +kernel) rfl
theorem k_381 : Cond.static arraycopyName ∈ TB := tb_mem 381 (by decide +kernel) rfl
theorem k_382 : Cond.native arraycopyName ∈ TB := tb_mem 382 (by decide +kernel) rfl
theorem k_383 : Cond.methodLink RL 31 yX6_ink ∈ TB := tb_mem 383 (by decide +kernel) rfl
theorem k_384 : Cond.instanceMethod yX6_ink ∈ TB := tb_mem 384 (by decide +kernel) rfl
theorem k_385 : Cond.selects RX6 yX6_ink yX6_ink ∈ TB := tb_mem 385 (by decide +kernel) rfl
theorem k_386 : Cond.code yX6_ink cX6_ink 2 (some .int) ∈ TB := tb_mem 386 (by decide +kernel) rfl
theorem k_387 : Cond.methodLink RX6 85 yX0_exists ∈ TB := tb_mem 387 (by decide +kernel) rfl
theorem k_388 : Cond.instanceMethod yX0_exists ∈ TB := tb_mem 388 (by decide +kernel) rfl
theorem k_389 : Cond.selects RX0 yX0_exists yX0_exists ∈ TB := tb_mem 389 (by decide +kernel) rfl
theorem k_390 : Cond.code yX0_exists cX0_exists 1 (some .boolean) ∈ TB := tb_mem 390 (by decide +kernel) rfl
theorem k_391 : Cond.methodLink RX6 88 yX5_write ∈ TB := tb_mem 391 (by decide +kernel) rfl
theorem k_392 : Cond.instanceMethod yX5_write ∈ TB := tb_mem 392 (by decide +kernel) rfl
theorem k_393 : Cond.selects RX5 yX5_write yX5_write ∈ TB := tb_mem 393 (by decide +kernel) rfl
theorem k_394 : Cond.code yX5_write cX5_write 3 none ∈ TB := tb_mem 394 (by decide +kernel) rfl
theorem k_395 : Cond.methodLink RX5 24 yX5_put ∈ TB := tb_mem 395 (by decide +kernel) rfl
theorem k_397 : Cond.instanceMethod yX5_put ∈ TB := tb_mem 397 (by decide +kernel) rfl
theorem k_398 : Cond.code yX5_put cX5_put 2 none ∈ TB := tb_mem 398 (by decide +kernel) rfl
theorem k_399 : Cond.methodLink RX5 34 yX5_writePerson ∈ TB := tb_mem 399 (by decide +kernel) rfl
theorem k_401 : Cond.instanceMethod yX5_writePerson ∈ TB := tb_mem 401 (by decide +kernel) rfl
theorem k_402 : Cond.code yX5_writePerson cX5_writePerson 4 none ∈ TB := tb_mem 402 (by decide +kernel) rfl
theorem k_403 : Cond.methodLink RX5 41 yX0_hasVouch ∈ TB := tb_mem 403 (by decide +kernel) rfl
theorem k_404 : Cond.instanceMethod yX0_hasVouch ∈ TB := tb_mem 404 (by decide +kernel) rfl
theorem k_405 : Cond.selects RX0 yX0_hasVouch yX0_hasVouch ∈ TB := tb_mem 405 (by decide +kernel) rfl
theorem k_406 : Cond.code yX0_hasVouch cX0_hasVouch 3 (some .boolean) ∈ TB := tb_mem 406 (by decide +kernel) rfl
theorem k_408 : Cond.static yX6_bit ∈ TB := tb_mem 408 (by decide +kernel) rfl
theorem k_409 : Cond.code yX6_bit cX6_bit 2 (some .int) ∈ TB := tb_mem 409 (by decide +kernel) rfl
theorem k_410 : Cond.methodLink RL 35 yX6_kind ∈ TB := tb_mem 410 (by decide +kernel) rfl
theorem k_411 : Cond.instanceMethod yX6_kind ∈ TB := tb_mem 411 (by decide +kernel) rfl
theorem k_412 : Cond.selects RX6 yX6_kind yX6_kind ∈ TB := tb_mem 412 (by decide +kernel) rfl
theorem k_413 : Cond.code yX6_kind cX6_kind 4 (some .int) ∈ TB := tb_mem 413 (by decide +kernel) rfl
theorem k_414 : Cond.methodLink RX6 97 yX0_has ∈ TB := tb_mem 414 (by decide +kernel) rfl
theorem k_415 : Cond.instanceMethod yX0_has ∈ TB := tb_mem 415 (by decide +kernel) rfl
theorem k_416 : Cond.selects RX0 yX0_has yX0_has ∈ TB := tb_mem 416 (by decide +kernel) rfl
theorem k_417 : Cond.code yX0_has cX0_has 2 (some .boolean) ∈ TB := tb_mem 417 (by decide +kernel) rfl
theorem k_418 : Cond.methodLink RX6 100 yX6_isKind ∈ TB := tb_mem 418 (by decide +kernel) rfl
theorem k_419 : Cond.static yX6_isKind ∈ TB := tb_mem 419 (by decide +kernel) rfl
theorem k_420 : Cond.code yX6_isKind cX6_isKind 1 (some .boolean) ∈ TB := tb_mem 420 (by decide +kernel) rfl
theorem k_421 : Cond.methodLink RX6 106 yX0_ofKind ∈ TB := tb_mem 421 (by decide +kernel) rfl
theorem k_422 : Cond.methodLink RX6 110 yJ6_bitCount_0f7a4 ∈ TB := tb_mem 422 (by decide +kernel) rfl
theorem k_423 : Cond.methodLink RL 40 yX6_as ∈ TB := tb_mem 423 (by decide +kernel) rfl
theorem k_424 : Cond.instanceMethod yX6_as ∈ TB := tb_mem 424 (by decide +kernel) rfl
theorem k_425 : Cond.selects RX6 yX6_as yX6_as ∈ TB := tb_mem 425 (by decide +kernel) rfl
theorem k_426 : Cond.code yX6_as cX6_as 4 (some .int) ∈ TB := tb_mem 426 (by decide +kernel) rfl
theorem k_427 : Cond.methodLink RL 44 yX6_vouch ∈ TB := tb_mem 427 (by decide +kernel) rfl
theorem k_428 : Cond.instanceMethod yX6_vouch ∈ TB := tb_mem 428 (by decide +kernel) rfl
theorem k_429 : Cond.selects RX6 yX6_vouch yX6_vouch ∈ TB := tb_mem 429 (by decide +kernel) rfl
theorem k_430 : Cond.code yX6_vouch cX6_vouch 4 (some .int) ∈ TB := tb_mem 430 (by decide +kernel) rfl
theorem k_431 : Cond.methodLink RX6 115 yX0_hasPair ∈ TB := tb_mem 431 (by decide +kernel) rfl
theorem k_432 : Cond.instanceMethod yX0_hasPair ∈ TB := tb_mem 432 (by decide +kernel) rfl
theorem k_433 : Cond.selects RX0 yX0_hasPair yX0_hasPair ∈ TB := tb_mem 433 (by decide +kernel) rfl
theorem k_434 : Cond.code yX0_hasPair cX0_hasPair 3 (some .boolean) ∈ TB := tb_mem 434 (by decide +kernel) rfl
theorem k_435 : Cond.methodLink RX0 40 yX0_has ∈ TB := tb_mem 435 (by decide +kernel) rfl
theorem k_436 : Cond.methodLink RX6 119 yX0_hasVouch ∈ TB := tb_mem 436 (by decide +kernel) rfl
theorem k_437 : Cond.methodLink RL 48 yX6_recall ∈ TB := tb_mem 437 (by decide +kernel) rfl
theorem k_438 : Cond.instanceMethod yX6_recall ∈ TB := tb_mem 438 (by decide +kernel) rfl
theorem k_439 : Cond.selects RX6 yX6_recall yX6_recall ∈ TB := tb_mem 439 (by decide +kernel) rfl
theorem k_440 : Cond.code yX6_recall cX6_recall 3 (some .int) ∈ TB := tb_mem 440 (by decide +kernel) rfl
theorem k_441 : Cond.methodLink RL 52 yX6_bound ∈ TB := tb_mem 441 (by decide +kernel) rfl
theorem k_442 : Cond.instanceMethod yX6_bound ∈ TB := tb_mem 442 (by decide +kernel) rfl
theorem k_443 : Cond.selects RX6 yX6_bound yX6_bound ∈ TB := tb_mem 443 (by decide +kernel) rfl
theorem k_444 : Cond.code yX6_bound cX6_bound 4 (some .int) ∈ TB := tb_mem 444 (by decide +kernel) rfl
theorem k_445 : Cond.methodLink RL 56 yX6_about ∈ TB := tb_mem 445 (by decide +kernel) rfl
theorem k_446 : Cond.instanceMethod yX6_about ∈ TB := tb_mem 446 (by decide +kernel) rfl
theorem k_447 : Cond.selects RX6 yX6_about yX6_about ∈ TB := tb_mem 447 (by decide +kernel) rfl
theorem k_448 : Cond.code yX6_about cX6_about 2 (some .int) ∈ TB := tb_mem 448 (by decide +kernel) rfl
theorem k_449 : Cond.methodLink RX6 137 yX0_vouchCount ∈ TB := tb_mem 449 (by decide +kernel) rfl
theorem k_450 : Cond.instanceMethod yX0_vouchCount ∈ TB := tb_mem 450 (by decide +kernel) rfl
theorem k_451 : Cond.selects RX0 yX0_vouchCount yX0_vouchCount ∈ TB := tb_mem 451 (by decide +kernel) rfl
theorem k_452 : Cond.code yX0_vouchCount cX0_vouchCount 3 (some .int) ∈ TB := tb_mem 452 (by decide +kernel) rfl
theorem k_453 : Cond.methodLink RX0 52 yJ6_bitCount_0f7a4 ∈ TB := tb_mem 453 (by decide +kernel) rfl
theorem k_454 : Cond.methodLink RX6 140 yX6_prepareWeb ∈ TB := tb_mem 454 (by decide +kernel) rfl
theorem k_456 : Cond.instanceMethod yX6_prepareWeb ∈ TB := tb_mem 456 (by decide +kernel) rfl
theorem k_457 : Cond.code yX6_prepareWeb cX6_prepareWeb 1 none ∈ TB := tb_mem 457 (by decide +kernel) rfl
theorem k_458 : Cond.methodLink RX6 179 yX4_copy ∈ TB := tb_mem 458 (by decide +kernel) rfl
theorem k_459 : Cond.instanceMethod yX4_copy ∈ TB := tb_mem 459 (by decide +kernel) rfl
theorem k_460 : Cond.selects RX4 yX4_copy yX4_copy ∈ TB := tb_mem 460 (by decide +kernel) rfl
theorem k_461 : Cond.code yX4_copy cX4_copy 2 none ∈ TB := tb_mem 461 (by decide +kernel) rfl
theorem k_462 : Cond.methodLink RX4 28 yX0_ofKind ∈ TB := tb_mem 462 (by decide +kernel) rfl
theorem k_463 : Cond.methodLink RX4 36 arraycopyName ∈ TB := tb_mem 463 (by decide +kernel) rfl
theorem k_464 : Cond.methodLink RX6 186 yX4_settle ∈ TB := tb_mem 464 (by decide +kernel) rfl
theorem k_465 : Cond.instanceMethod yX4_settle ∈ TB := tb_mem 465 (by decide +kernel) rfl
theorem k_466 : Cond.selects RX4 yX4_settle yX4_settle ∈ TB := tb_mem 466 (by decide +kernel) rfl
theorem k_467 : Cond.code yX4_settle cX4_settle 7 none ∈ TB := tb_mem 467 (by decide +kernel) rfl
theorem k_468 : Cond.methodLink RX4 46 yJ7_fill_53178 ∈ TB := tb_mem 468 (by decide +kernel) rfl
theorem k_470 : Cond.methodLink RX4 58 yX4_vouchedBy ∈ TB := tb_mem 470 (by decide +kernel) rfl
theorem k_471 : Cond.instanceMethod yX4_vouchedBy ∈ TB := tb_mem 471 (by decide +kernel) rfl
theorem k_472 : Cond.selects RX4 yX4_vouchedBy yX4_vouchedBy ∈ TB := tb_mem 472 (by decide +kernel) rfl
theorem k_473 : Cond.code yX4_vouchedBy cX4_vouchedBy 4 (some .int) ∈ TB := tb_mem 473 (by decide +kernel) rfl
theorem k_474 : Cond.methodLink RX6 143 yX4_personsWithLevel ∈ TB := tb_mem 474 (by decide +kernel) rfl
theorem k_475 : Cond.instanceMethod yX4_personsWithLevel ∈ TB := tb_mem 475 (by decide +kernel) rfl
theorem k_476 : Cond.selects RX4 yX4_personsWithLevel yX4_personsWithLevel ∈ TB := tb_mem 476 (by decide +kernel) rfl
theorem k_477 : Cond.code yX4_personsWithLevel cX4_personsWithLevel 3 (some .int) ∈ TB := tb_mem 477 (by decide +kernel) rfl
theorem k_478 : Cond.methodLink RX6 148 yX4_greatestLevel ∈ TB := tb_mem 478 (by decide +kernel) rfl
theorem k_479 : Cond.instanceMethod yX4_greatestLevel ∈ TB := tb_mem 479 (by decide +kernel) rfl
theorem k_480 : Cond.selects RX4 yX4_greatestLevel yX4_greatestLevel ∈ TB := tb_mem 480 (by decide +kernel) rfl
theorem k_481 : Cond.code yX4_greatestLevel cX4_greatestLevel 3 (some .int) ∈ TB := tb_mem 481 (by decide +kernel) rfl
theorem k_485 : Cond.methodLink RX6 151 yX0_everyone ∈ TB := tb_mem 485 (by decide +kernel) rfl
theorem k_486 : Cond.instanceMethod yX0_everyone ∈ TB := tb_mem 486 (by decide +kernel) rfl
theorem k_487 : Cond.selects RX0 yX0_everyone yX0_everyone ∈ TB := tb_mem 487 (by decide +kernel) rfl
theorem k_488 : Cond.code yX0_everyone cX0_everyone 1 (some .int) ∈ TB := tb_mem 488 (by decide +kernel) rfl
theorem k_489 : Cond.methodLink RX6 154 yX4_limitsOf ∈ TB := tb_mem 489 (by decide +kernel) rfl
theorem k_490 : Cond.instanceMethod yX4_limitsOf ∈ TB := tb_mem 490 (by decide +kernel) rfl
theorem k_491 : Cond.selects RX4 yX4_limitsOf yX4_limitsOf ∈ TB := tb_mem 491 (by decide +kernel) rfl
theorem k_492 : Cond.code yX4_limitsOf cX4_limitsOf 4 (some .int) ∈ TB := tb_mem 492 (by decide +kernel) rfl
theorem k_493 : Cond.methodLink RL 60 yX6_person ∈ TB := tb_mem 493 (by decide +kernel) rfl
theorem k_494 : Cond.instanceMethod yX6_person ∈ TB := tb_mem 494 (by decide +kernel) rfl
theorem k_495 : Cond.selects RX6 yX6_person yX6_person ∈ TB := tb_mem 495 (by decide +kernel) rfl
theorem k_496 : Cond.code yX6_person cX6_person 3 (some .int) ∈ TB := tb_mem 496 (by decide +kernel) rfl
theorem k_497 : Cond.methodLink RX6 157 yX0_vouchersOf ∈ TB := tb_mem 497 (by decide +kernel) rfl
theorem k_498 : Cond.instanceMethod yX0_vouchersOf ∈ TB := tb_mem 498 (by decide +kernel) rfl
theorem k_499 : Cond.selects RX0 yX0_vouchersOf yX0_vouchersOf ∈ TB := tb_mem 499 (by decide +kernel) rfl
theorem k_500 : Cond.code yX0_vouchersOf cX0_vouchersOf 4 (some .int) ∈ TB := tb_mem 500 (by decide +kernel) rfl
theorem k_501 : Cond.methodLink RX0 48 yX0_hasVouch ∈ TB := tb_mem 501 (by decide +kernel) rfl
theorem k_502 : Cond.methodLink RX6 160 yX6_waysTo ∈ TB := tb_mem 502 (by decide +kernel) rfl
theorem k_504 : Cond.instanceMethod yX6_waysTo ∈ TB := tb_mem 504 (by decide +kernel) rfl
theorem k_505 : Cond.code yX6_waysTo cX6_waysTo 4 (some .int) ∈ TB := tb_mem 505 (by decide +kernel) rfl
theorem k_506 : Cond.methodLink RX6 280 yX4_allowOnePathThroughAllBut ∈ TB := tb_mem 506 (by decide +kernel) rfl
theorem k_507 : Cond.instanceMethod yX4_allowOnePathThroughAllBut ∈ TB := tb_mem 507 (by decide +kernel) rfl
theorem k_508 : Cond.selects RX4 yX4_allowOnePathThroughAllBut yX4_allowOnePathThroughAllBut ∈ TB := tb_mem 508 (by decide +kernel) rfl
theorem k_509 : Cond.code yX4_allowOnePathThroughAllBut cX4_allowOnePathThroughAllBut 2 none ∈ TB := tb_mem 509 (by decide +kernel) rfl
theorem k_510 : Cond.methodLink RX6 276 yX1_begin ∈ TB := tb_mem 510 (by decide +kernel) rfl
theorem k_511 : Cond.instanceMethod yX1_begin ∈ TB := tb_mem 511 (by decide +kernel) rfl
theorem k_512 : Cond.selects RX1 yX1_begin yX1_begin ∈ TB := tb_mem 512 (by decide +kernel) rfl
theorem k_513 : Cond.code yX1_begin cX1_begin 1 none ∈ TB := tb_mem 513 (by decide +kernel) rfl
theorem k_514 : Cond.methodLink RX1 31 yJ7_fill_53178 ∈ TB := tb_mem 514 (by decide +kernel) rfl
theorem k_515 : Cond.methodLink RX6 277 yX1_sendTo ∈ TB := tb_mem 515 (by decide +kernel) rfl
theorem k_516 : Cond.instanceMethod yX1_sendTo ∈ TB := tb_mem 516 (by decide +kernel) rfl
theorem k_517 : Cond.selects RX1 yX1_sendTo yX1_sendTo ∈ TB := tb_mem 517 (by decide +kernel) rfl
theorem k_518 : Cond.code yX1_sendTo cX1_sendTo 4 (some .boolean) ∈ TB := tb_mem 518 (by decide +kernel) rfl
theorem k_519 : Cond.methodLink RX1 37 yX1_search ∈ TB := tb_mem 519 (by decide +kernel) rfl
theorem k_521 : Cond.instanceMethod yX1_search ∈ TB := tb_mem 521 (by decide +kernel) rfl
theorem k_522 : Cond.code yX1_search cX1_search 4 none ∈ TB := tb_mem 522 (by decide +kernel) rfl
theorem k_523 : Cond.methodLink RX1 59 yX1_note ∈ TB := tb_mem 523 (by decide +kernel) rfl
theorem k_525 : Cond.instanceMethod yX1_note ∈ TB := tb_mem 525 (by decide +kernel) rfl
theorem k_526 : Cond.code yX1_note cX1_note 5 none ∈ TB := tb_mem 526 (by decide +kernel) rfl
theorem k_527 : Cond.methodLink RX1 62 yX1_nextOfComing ∈ TB := tb_mem 527 (by decide +kernel) rfl
theorem k_529 : Cond.instanceMethod yX1_nextOfComing ∈ TB := tb_mem 529 (by decide +kernel) rfl
theorem k_530 : Cond.code yX1_nextOfComing cX1_nextOfComing 4 (some .int) ∈ TB := tb_mem 530 (by decide +kernel) rfl
theorem k_531 : Cond.methodLink RX1 66 yX1_nextOfGoing ∈ TB := tb_mem 531 (by decide +kernel) rfl
theorem k_533 : Cond.instanceMethod yX1_nextOfGoing ∈ TB := tb_mem 533 (by decide +kernel) rfl
theorem k_534 : Cond.code yX1_nextOfGoing cX1_nextOfGoing 2 (some .int) ∈ TB := tb_mem 534 (by decide +kernel) rfl
theorem k_536 : Cond.methodLink RX1 49 yX1_move ∈ TB := tb_mem 536 (by decide +kernel) rfl
theorem k_538 : Cond.instanceMethod yX1_move ∈ TB := tb_mem 538 (by decide +kernel) rfl
theorem k_539 : Cond.code yX1_move cX1_move 3 none ∈ TB := tb_mem 539 (by decide +kernel) rfl
theorem k_540 : Cond.methodLink RX1 78 yX1_moveFromComing ∈ TB := tb_mem 540 (by decide +kernel) rfl
theorem k_542 : Cond.instanceMethod yX1_moveFromComing ∈ TB := tb_mem 542 (by decide +kernel) rfl
theorem k_543 : Cond.code yX1_moveFromComing cX1_moveFromComing 3 none ∈ TB := tb_mem 543 (by decide +kernel) rfl
theorem k_544 : Cond.methodLink RX1 81 yX1_moveFromGoing ∈ TB := tb_mem 544 (by decide +kernel) rfl
theorem k_546 : Cond.instanceMethod yX1_moveFromGoing ∈ TB := tb_mem 546 (by decide +kernel) rfl
theorem k_547 : Cond.code yX1_moveFromGoing cX1_moveFromGoing 3 none ∈ TB := tb_mem 547 (by decide +kernel) rfl
theorem k_548 : Cond.methodLink RX6 169 yX6_admitted ∈ TB := tb_mem 548 (by decide +kernel) rfl
theorem k_550 : Cond.instanceMethod yX6_admitted ∈ TB := tb_mem 550 (by decide +kernel) rfl
theorem k_551 : Cond.code yX6_admitted cX6_admitted 4 (some .int) ∈ TB := tb_mem 551 (by decide +kernel) rfl
theorem k_552 : Cond.methodLink RX6 172 yX6_bit ∈ TB := tb_mem 552 (by decide +kernel) rfl
theorem k_553 : Cond.methodLink RX6 176 yX6_takenIn ∈ TB := tb_mem 553 (by decide +kernel) rfl
theorem k_555 : Cond.instanceMethod yX6_takenIn ∈ TB := tb_mem 555 (by decide +kernel) rfl
theorem k_556 : Cond.code yX6_takenIn cX6_takenIn 4 (some .int) ∈ TB := tb_mem 556 (by decide +kernel) rfl
theorem k_557 : Cond.methodLink RL 64 yX6_vouches ∈ TB := tb_mem 557 (by decide +kernel) rfl
theorem k_558 : Cond.instanceMethod yX6_vouches ∈ TB := tb_mem 558 (by decide +kernel) rfl
theorem k_559 : Cond.selects RX6 yX6_vouches yX6_vouches ∈ TB := tb_mem 559 (by decide +kernel) rfl
theorem k_560 : Cond.code yX6_vouches cX6_vouches 3 (some .int) ∈ TB := tb_mem 560 (by decide +kernel) rfl
theorem k_561 : Cond.methodLink RL 68 yX6_generous ∈ TB := tb_mem 561 (by decide +kernel) rfl
theorem k_562 : Cond.instanceMethod yX6_generous ∈ TB := tb_mem 562 (by decide +kernel) rfl
theorem k_563 : Cond.selects RX6 yX6_generous yX6_generous ∈ TB := tb_mem 563 (by decide +kernel) rfl
theorem k_564 : Cond.code yX6_generous cX6_generous 7 (some .int) ∈ TB := tb_mem 564 (by decide +kernel) rfl
theorem k_565 : Cond.methodLink RL 72 yX6_trust ∈ TB := tb_mem 565 (by decide +kernel) rfl
theorem k_566 : Cond.instanceMethod yX6_trust ∈ TB := tb_mem 566 (by decide +kernel) rfl
theorem k_567 : Cond.selects RX6 yX6_trust yX6_trust ∈ TB := tb_mem 567 (by decide +kernel) rfl
theorem k_568 : Cond.code yX6_trust cX6_trust 3 (some .int) ∈ TB := tb_mem 568 (by decide +kernel) rfl
theorem k_569 : Cond.methodLink RX6 182 yX4_silence ∈ TB := tb_mem 569 (by decide +kernel) rfl
theorem k_570 : Cond.instanceMethod yX4_silence ∈ TB := tb_mem 570 (by decide +kernel) rfl
theorem k_571 : Cond.selects RX4 yX4_silence yX4_silence ∈ TB := tb_mem 571 (by decide +kernel) rfl
theorem k_572 : Cond.code yX4_silence cX4_silence 3 none ∈ TB := tb_mem 572 (by decide +kernel) rfl
theorem k_573 : Cond.methodLink RL 76 yX6_together ∈ TB := tb_mem 573 (by decide +kernel) rfl
theorem k_574 : Cond.instanceMethod yX6_together ∈ TB := tb_mem 574 (by decide +kernel) rfl
theorem k_575 : Cond.selects RX6 yX6_together yX6_together ∈ TB := tb_mem 575 (by decide +kernel) rfl
theorem k_576 : Cond.code yX6_together cX6_together 2 (some .int) ∈ TB := tb_mem 576 (by decide +kernel) rfl
theorem k_577 : Cond.methodLink RL 80 yX6_cut ∈ TB := tb_mem 577 (by decide +kernel) rfl
theorem k_578 : Cond.instanceMethod yX6_cut ∈ TB := tb_mem 578 (by decide +kernel) rfl
theorem k_579 : Cond.selects RX6 yX6_cut yX6_cut ∈ TB := tb_mem 579 (by decide +kernel) rfl
theorem k_580 : Cond.code yX6_cut cX6_cut 5 (some .int) ∈ TB := tb_mem 580 (by decide +kernel) rfl
theorem k_581 : Cond.methodLink RX6 189 yX1_reached ∈ TB := tb_mem 581 (by decide +kernel) rfl
theorem k_582 : Cond.instanceMethod yX1_reached ∈ TB := tb_mem 582 (by decide +kernel) rfl
theorem k_583 : Cond.selects RX1 yX1_reached yX1_reached ∈ TB := tb_mem 583 (by decide +kernel) rfl
theorem k_584 : Cond.code yX1_reached cX1_reached 1 (some .int) ∈ TB := tb_mem 584 (by decide +kernel) rfl
theorem k_585 : Cond.methodLink RX6 195 yX4_vouchedBy ∈ TB := tb_mem 585 (by decide +kernel) rfl
theorem k_586 : Cond.methodLink RL 84 yX6_apart ∈ TB := tb_mem 586 (by decide +kernel) rfl
theorem k_587 : Cond.instanceMethod yX6_apart ∈ TB := tb_mem 587 (by decide +kernel) rfl
theorem k_588 : Cond.selects RX6 yX6_apart yX6_apart ∈ TB := tb_mem 588 (by decide +kernel) rfl
theorem k_589 : Cond.code yX6_apart cX6_apart 5 (some .int) ∈ TB := tb_mem 589 (by decide +kernel) rfl
theorem k_590 : Cond.methodLink RX6 198 yX4_reachedWithout ∈ TB := tb_mem 590 (by decide +kernel) rfl
theorem k_591 : Cond.instanceMethod yX4_reachedWithout ∈ TB := tb_mem 591 (by decide +kernel) rfl
theorem k_592 : Cond.selects RX4 yX4_reachedWithout yX4_reachedWithout ∈ TB := tb_mem 592 (by decide +kernel) rfl
theorem k_593 : Cond.code yX4_reachedWithout cX4_reachedWithout 5 (some .int) ∈ TB := tb_mem 593 (by decide +kernel) rfl
theorem k_594 : Cond.methodLink RL 88 yX6_without ∈ TB := tb_mem 594 (by decide +kernel) rfl
theorem k_595 : Cond.instanceMethod yX6_without ∈ TB := tb_mem 595 (by decide +kernel) rfl
theorem k_596 : Cond.selects RX6 yX6_without yX6_without ∈ TB := tb_mem 596 (by decide +kernel) rfl
theorem k_597 : Cond.code yX6_without cX6_without 4 (some .int) ∈ TB := tb_mem 597 (by decide +kernel) rfl
theorem k_598 : Cond.methodLink RX6 201 yX6_prepareWebWithout ∈ TB := tb_mem 598 (by decide +kernel) rfl
theorem k_600 : Cond.instanceMethod yX6_prepareWebWithout ∈ TB := tb_mem 600 (by decide +kernel) rfl
theorem k_601 : Cond.code yX6_prepareWebWithout cX6_prepareWebWithout 3 none ∈ TB := tb_mem 601 (by decide +kernel) rfl
theorem k_602 : Cond.methodLink RX6 273 yX4_leaveOut ∈ TB := tb_mem 602 (by decide +kernel) rfl
theorem k_603 : Cond.instanceMethod yX4_leaveOut ∈ TB := tb_mem 603 (by decide +kernel) rfl
theorem k_604 : Cond.selects RX4 yX4_leaveOut yX4_leaveOut ∈ TB := tb_mem 604 (by decide +kernel) rfl
theorem k_605 : Cond.code yX4_leaveOut cX4_leaveOut 3 none ∈ TB := tb_mem 605 (by decide +kernel) rfl
theorem k_606 : Cond.methodLink RL 93 yX6_dearest ∈ TB := tb_mem 606 (by decide +kernel) rfl
theorem k_607 : Cond.instanceMethod yX6_dearest ∈ TB := tb_mem 607 (by decide +kernel) rfl
theorem k_608 : Cond.selects RX6 yX6_dearest yX6_dearest ∈ TB := tb_mem 608 (by decide +kernel) rfl
theorem k_609 : Cond.code yX6_dearest cX6_dearest 6 (some .int) ∈ TB := tb_mem 609 (by decide +kernel) rfl
theorem k_610 : Cond.methodLink RL 97 yX6_chance ∈ TB := tb_mem 610 (by decide +kernel) rfl
theorem k_611 : Cond.instanceMethod yX6_chance ∈ TB := tb_mem 611 (by decide +kernel) rfl
theorem k_612 : Cond.selects RX6 yX6_chance yX6_chance ∈ TB := tb_mem 612 (by decide +kernel) rfl
theorem k_613 : Cond.code yX6_chance cX6_chance 4 (some .int) ∈ TB := tb_mem 613 (by decide +kernel) rfl
theorem k_614 : Cond.methodLink RX6 205 yX6_isStepCount ∈ TB := tb_mem 614 (by decide +kernel) rfl
theorem k_615 : Cond.static yX6_isStepCount ∈ TB := tb_mem 615 (by decide +kernel) rfl
theorem k_616 : Cond.code yX6_isStepCount cX6_isStepCount 1 (some .boolean) ∈ TB := tb_mem 616 (by decide +kernel) rfl
theorem k_617 : Cond.methodLink RX6 208 yX3_go ∈ TB := tb_mem 617 (by decide +kernel) rfl
theorem k_618 : Cond.instanceMethod yX3_go ∈ TB := tb_mem 618 (by decide +kernel) rfl
theorem k_619 : Cond.selects RX3 yX3_go yX3_go ∈ TB := tb_mem 619 (by decide +kernel) rfl
theorem k_620 : Cond.code yX3_go cX3_go 5 none ∈ TB := tb_mem 620 (by decide +kernel) rfl
theorem k_621 : Cond.methodLink RX3 18 yX0_ofKind ∈ TB := tb_mem 621 (by decide +kernel) rfl
theorem k_622 : Cond.constantLong RX3 29 60 ∈ TB := tb_mem 622 (by decide +kernel) rfl
theorem k_623 : Cond.methodLink RX3 35 yJ7_fill_d0a16 ∈ TB := tb_mem 623 (by decide +kernel) rfl
theorem k_624 : Cond.static yJ7_fill_d0a16 ∈ TB := tb_mem 624 (by decide +kernel) rfl
theorem k_625 : Cond.code yJ7_fill_d0a16 cJ7_fill_d0a16 5 none ∈ TB := tb_mem 625 (by decide +kernel) rfl
theorem k_626 : Cond.methodLink RX3 41 yX3_share ∈ TB := tb_mem 626 (by decide +kernel) rfl
theorem k_628 : Cond.instanceMethod yX3_share ∈ TB := tb_mem 628 (by decide +kernel) rfl
theorem k_629 : Cond.code yX3_share cX3_share 8 none ∈ TB := tb_mem 629 (by decide +kernel) rfl
theorem k_630 : Cond.methodLink RX3 59 yJ6_bitCount_0f7a4 ∈ TB := tb_mem 630 (by decide +kernel) rfl
theorem k_632 : Cond.methodLink RX3 45 arraycopyName ∈ TB := tb_mem 632 (by decide +kernel) rfl
theorem k_633 : Cond.methodLink RX3 51 yX3_step ∈ TB := tb_mem 633 (by decide +kernel) rfl
theorem k_635 : Cond.instanceMethod yX3_step ∈ TB := tb_mem 635 (by decide +kernel) rfl
theorem k_636 : Cond.code yX3_step cX3_step 4 none ∈ TB := tb_mem 636 (by decide +kernel) rfl
theorem k_637 : Cond.methodLink RX6 212 yX3_numerator ∈ TB := tb_mem 637 (by decide +kernel) rfl
theorem k_638 : Cond.instanceMethod yX3_numerator ∈ TB := tb_mem 638 (by decide +kernel) rfl
theorem k_639 : Cond.selects RX3 yX3_numerator yX3_numerator ∈ TB := tb_mem 639 (by decide +kernel) rfl
theorem k_640 : Cond.code yX3_numerator cX3_numerator 2 (some .int) ∈ TB := tb_mem 640 (by decide +kernel) rfl
theorem k_641 : Cond.methodLink RX3 68 yX3_commonDivisor ∈ TB := tb_mem 641 (by decide +kernel) rfl
theorem k_643 : Cond.instanceMethod yX3_commonDivisor ∈ TB := tb_mem 643 (by decide +kernel) rfl
theorem k_644 : Cond.code yX3_commonDivisor cX3_commonDivisor 9 (some .long) ∈ TB := tb_mem 644 (by decide +kernel) rfl
theorem k_648 : Cond.methodLink RX6 215 yX3_denominator ∈ TB := tb_mem 648 (by decide +kernel) rfl
theorem k_649 : Cond.instanceMethod yX3_denominator ∈ TB := tb_mem 649 (by decide +kernel) rfl
theorem k_650 : Cond.selects RX3 yX3_denominator yX3_denominator ∈ TB := tb_mem 650 (by decide +kernel) rfl
theorem k_651 : Cond.code yX3_denominator cX3_denominator 2 (some .int) ∈ TB := tb_mem 651 (by decide +kernel) rfl
theorem k_652 : Cond.methodLink RL 101 yX6_thousandths ∈ TB := tb_mem 652 (by decide +kernel) rfl
theorem k_653 : Cond.instanceMethod yX6_thousandths ∈ TB := tb_mem 653 (by decide +kernel) rfl
theorem k_654 : Cond.selects RX6 yX6_thousandths yX6_thousandths ∈ TB := tb_mem 654 (by decide +kernel) rfl
theorem k_655 : Cond.code yX6_thousandths cX6_thousandths 3 (some .int) ∈ TB := tb_mem 655 (by decide +kernel) rfl
theorem k_656 : Cond.methodLink RX6 218 yX3_thousandPart ∈ TB := tb_mem 656 (by decide +kernel) rfl
theorem k_657 : Cond.instanceMethod yX3_thousandPart ∈ TB := tb_mem 657 (by decide +kernel) rfl
theorem k_658 : Cond.selects RX3 yX3_thousandPart yX3_thousandPart ∈ TB := tb_mem 658 (by decide +kernel) rfl
theorem k_659 : Cond.code yX3_thousandPart cX3_thousandPart 2 (some .int) ∈ TB := tb_mem 659 (by decide +kernel) rfl
theorem k_660 : Cond.constantLong RX3 72 1000 ∈ TB := tb_mem 660 (by decide +kernel) rfl
theorem k_661 : Cond.methodLink RL 105 yX6_order ∈ TB := tb_mem 661 (by decide +kernel) rfl
theorem k_662 : Cond.instanceMethod yX6_order ∈ TB := tb_mem 662 (by decide +kernel) rfl
theorem k_663 : Cond.selects RX6 yX6_order yX6_order ∈ TB := tb_mem 663 (by decide +kernel) rfl
theorem k_664 : Cond.code yX6_order cX6_order 3 (some .int) ∈ TB := tb_mem 664 (by decide +kernel) rfl
theorem k_665 : Cond.methodLink RX6 221 yX3_personAt ∈ TB := tb_mem 665 (by decide +kernel) rfl
theorem k_666 : Cond.instanceMethod yX3_personAt ∈ TB := tb_mem 666 (by decide +kernel) rfl
theorem k_667 : Cond.selects RX3 yX3_personAt yX3_personAt ∈ TB := tb_mem 667 (by decide +kernel) rfl
theorem k_668 : Cond.code yX3_personAt cX3_personAt 3 (some .int) ∈ TB := tb_mem 668 (by decide +kernel) rfl
theorem k_669 : Cond.methodLink RX3 74 yX3_comingBefore ∈ TB := tb_mem 669 (by decide +kernel) rfl
theorem k_671 : Cond.instanceMethod yX3_comingBefore ∈ TB := tb_mem 671 (by decide +kernel) rfl
theorem k_672 : Cond.code yX3_comingBefore cX3_comingBefore 4 (some .int) ∈ TB := tb_mem 672 (by decide +kernel) rfl
theorem k_673 : Cond.methodLink RL 109 yX6_count ∈ TB := tb_mem 673 (by decide +kernel) rfl
theorem k_674 : Cond.instanceMethod yX6_count ∈ TB := tb_mem 674 (by decide +kernel) rfl
theorem k_675 : Cond.selects RX6 yX6_count yX6_count ∈ TB := tb_mem 675 (by decide +kernel) rfl
theorem k_676 : Cond.code yX6_count cX6_count 2 (some .int) ∈ TB := tb_mem 676 (by decide +kernel) rfl
theorem k_677 : Cond.methodLink RL 113 yX6_digest ∈ TB := tb_mem 677 (by decide +kernel) rfl
theorem k_678 : Cond.instanceMethod yX6_digest ∈ TB := tb_mem 678 (by decide +kernel) rfl
theorem k_679 : Cond.selects RX6 yX6_digest yX6_digest ∈ TB := tb_mem 679 (by decide +kernel) rfl
theorem k_680 : Cond.code yX6_digest cX6_digest 4 (some .long) ∈ TB := tb_mem 680 (by decide +kernel) rfl
theorem k_681 : Cond.constantLong RX6 224 1553 ∈ TB := tb_mem 681 (by decide +kernel) rfl
theorem k_682 : Cond.methodLink RX6 226 yX6_addInk ∈ TB := tb_mem 682 (by decide +kernel) rfl
theorem k_684 : Cond.instanceMethod yX6_addInk ∈ TB := tb_mem 684 (by decide +kernel) rfl
theorem k_685 : Cond.code yX6_addInk cX6_addInk 6 (some .long) ∈ TB := tb_mem 685 (by decide +kernel) rfl
theorem k_686 : Cond.methodLink RX6 239 yX6_add ∈ TB := tb_mem 686 (by decide +kernel) rfl
theorem k_687 : Cond.static yX6_add ∈ TB := tb_mem 687 (by decide +kernel) rfl
theorem k_688 : Cond.code yX6_add cX6_add 3 (some .long) ∈ TB := tb_mem 688 (by decide +kernel) rfl
theorem k_689 : Cond.constantLong RX6 246 31 ∈ TB := tb_mem 689 (by decide +kernel) rfl
theorem k_690 : Cond.methodLink RX6 230 yX6_addPersons ∈ TB := tb_mem 690 (by decide +kernel) rfl
theorem k_692 : Cond.instanceMethod yX6_addPersons ∈ TB := tb_mem 692 (by decide +kernel) rfl
theorem k_693 : Cond.code yX6_addPersons cX6_addPersons 7 (some .long) ∈ TB := tb_mem 693 (by decide +kernel) rfl
theorem k_694 : Cond.methodLink RX6 248 yX6_about ∈ TB := tb_mem 694 (by decide +kernel) rfl
theorem k_695 : Cond.methodLink RX6 251 yX6_person ∈ TB := tb_mem 695 (by decide +kernel) rfl
theorem k_696 : Cond.methodLink RX6 254 yX6_apart ∈ TB := tb_mem 696 (by decide +kernel) rfl
theorem k_697 : Cond.methodLink RX6 257 yX6_generous ∈ TB := tb_mem 697 (by decide +kernel) rfl
theorem k_698 : Cond.methodLink RX6 233 yX6_addTrust ∈ TB := tb_mem 698 (by decide +kernel) rfl
theorem k_700 : Cond.instanceMethod yX6_addTrust ∈ TB := tb_mem 700 (by decide +kernel) rfl
theorem k_701 : Cond.code yX6_addTrust cX6_addTrust 7 (some .long) ∈ TB := tb_mem 701 (by decide +kernel) rfl
theorem k_702 : Cond.methodLink RX6 260 yX6_trust ∈ TB := tb_mem 702 (by decide +kernel) rfl
theorem k_703 : Cond.methodLink RX6 263 yX6_cut ∈ TB := tb_mem 703 (by decide +kernel) rfl
theorem k_704 : Cond.methodLink RX6 266 yX6_dearest ∈ TB := tb_mem 704 (by decide +kernel) rfl
theorem k_705 : Cond.methodLink RX6 269 yX6_without ∈ TB := tb_mem 705 (by decide +kernel) rfl
theorem k_706 : Cond.methodLink RX6 236 yX6_addWalks ∈ TB := tb_mem 706 (by decide +kernel) rfl
theorem k_708 : Cond.instanceMethod yX6_addWalks ∈ TB := tb_mem 708 (by decide +kernel) rfl
theorem k_709 : Cond.code yX6_addWalks cX6_addWalks 7 (some .long) ∈ TB := tb_mem 709 (by decide +kernel) rfl
theorem k_710 : Cond.methodLink RX6 243 yX6_count ∈ TB := tb_mem 710 (by decide +kernel) rfl
theorem k_717 : Cond.fieldLink RX7 111 "VouchFlowModel" "persons" "I" ∈ TB := tb_mem 717 (by decide +kernel) rfl
theorem k_718 : Cond.fieldLink RX7 7 "VouchFlowModel" "kind" "[I" ∈ TB := tb_mem 718 (by decide +kernel) rfl
theorem k_719 : Cond.fieldLink RX7 13 "VouchFlowModel" "vouched" "[I" ∈ TB := tb_mem 719 (by decide +kernel) rfl
theorem k_720 : Cond.fieldLink RX7 114 "VouchFlowModel" "bounds" "I" ∈ TB := tb_mem 720 (by decide +kernel) rfl
theorem k_721 : Cond.fieldLink RX7 16 "VouchFlowModel" "bound" "[I" ∈ TB := tb_mem 721 (by decide +kernel) rfl
theorem k_722 : Cond.fieldLink RX7 117 "VouchFlowModel" "circles" "I" ∈ TB := tb_mem 722 (by decide +kernel) rfl
theorem k_723 : Cond.fieldLink RX7 154 "VouchFlowModel" "came" "I" ∈ TB := tb_mem 723 (by decide +kernel) rfl
theorem k_724 : Cond.fieldLink RX7 157 "VouchFlowModel" "gone" "I" ∈ TB := tb_mem 724 (by decide +kernel) rfl
theorem k_725 : Cond.fieldLink RX7 54 "VouchFlowModel" "pageLength" "I" ∈ TB := tb_mem 725 (by decide +kernel) rfl
theorem k_726 : Cond.fieldLink RX7 19 "VouchFlowModel" "page" "[I" ∈ TB := tb_mem 726 (by decide +kernel) rfl
theorem k_727 : Cond.fieldLink RX7 75 "VouchFlowModel" "stage" "I" ∈ TB := tb_mem 727 (by decide +kernel) rfl
theorem k_728 : Cond.fieldLink RX7 61 "VouchFlowModel" "newPersons" "I" ∈ TB := tb_mem 728 (by decide +kernel) rfl
theorem k_729 : Cond.fieldLink RX7 78 "VouchFlowModel" "newBounds" "I" ∈ TB := tb_mem 729 (by decide +kernel) rfl
theorem k_730 : Cond.fieldLink RX7 22 "VouchFlowModel" "newBound" "[I" ∈ TB := tb_mem 730 (by decide +kernel) rfl
theorem k_731 : Cond.fieldLink RX7 64 "VouchFlowModel" "newAt" "I" ∈ TB := tb_mem 731 (by decide +kernel) rfl
theorem k_732 : Cond.fieldLink RX7 58 "VouchFlowModel" "newLast" "I" ∈ TB := tb_mem 732 (by decide +kernel) rfl
theorem k_733 : Cond.fieldLink RX7 85 "VouchFlowModel" "newSeeds" "I" ∈ TB := tb_mem 733 (by decide +kernel) rfl
theorem k_734 : Cond.fieldLink RX7 25 "VouchFlowModel" "newKind" "[I" ∈ TB := tb_mem 734 (by decide +kernel) rfl
theorem k_735 : Cond.fieldLink RX7 28 "VouchFlowModel" "newVouched" "[I" ∈ TB := tb_mem 735 (by decide +kernel) rfl
theorem k_736 : Cond.fieldLink RX7 123 "VouchFlowModel" "inkAsked" "I" ∈ TB := tb_mem 736 (by decide +kernel) rfl
theorem k_737 : Cond.fieldLink RX7 120 "VouchFlowModel" "inkMany" "I" ∈ TB := tb_mem 737 (by decide +kernel) rfl
theorem k_738 : Cond.fieldLink RX7 126 "VouchFlowModel" "inkTold" "I" ∈ TB := tb_mem 738 (by decide +kernel) rfl
theorem k_739 : Cond.fieldLink RX7 31 "VouchFlowModel" "level" "[I" ∈ TB := tb_mem 739 (by decide +kernel) rfl
theorem k_740 : Cond.fieldLink RX7 34 "VouchFlowModel" "most" "[I" ∈ TB := tb_mem 740 (by decide +kernel) rfl
theorem k_741 : Cond.fieldLink RX7 37 "VouchFlowModel" "wallMost" "[I" ∈ TB := tb_mem 741 (by decide +kernel) rfl
theorem k_742 : Cond.fieldLink RX7 40 "VouchFlowModel" "kept" "[I" ∈ TB := tb_mem 742 (by decide +kernel) rfl
theorem k_743 : Cond.fieldLink RX7 43 "VouchFlowModel" "chance" "[J" ∈ TB := tb_mem 743 (by decide +kernel) rfl
theorem k_744 : Cond.fieldLink RX7 47 "VouchFlowModel" "chanceNext" "[J" ∈ TB := tb_mem 744 (by decide +kernel) rfl
theorem k_745 : Cond.fieldLink RX7 240 "VouchFlowModel" "below" "J" ∈ TB := tb_mem 745 (by decide +kernel) rfl
theorem k_746 : Cond.fieldLink RX7 279 "VouchFlowModel" "h" "J" ∈ TB := tb_mem 746 (by decide +kernel) rfl
theorem k_808 : Cond.methodLink RL 17 yX7_letter ∈ TB := tb_mem 808 (by decide +kernel) rfl
theorem k_809 : Cond.instanceMethod yX7_letter ∈ TB := tb_mem 809 (by decide +kernel) rfl
theorem k_810 : Cond.selects RX7 yX7_letter yX7_letter ∈ TB := tb_mem 810 (by decide +kernel) rfl
theorem k_811 : Cond.code yX7_letter cX7_letter 2 (some .int) ∈ TB := tb_mem 811 (by decide +kernel) rfl
theorem k_812 : Cond.methodLink RX7 50 yX7_within ∈ TB := tb_mem 812 (by decide +kernel) rfl
theorem k_813 : Cond.static yX7_within ∈ TB := tb_mem 813 (by decide +kernel) rfl
theorem k_814 : Cond.code yX7_within cX7_within 3 (some .boolean) ∈ TB := tb_mem 814 (by decide +kernel) rfl
theorem k_815 : Cond.methodLink RL 22 yX7_blank ∈ TB := tb_mem 815 (by decide +kernel) rfl
theorem k_816 : Cond.instanceMethod yX7_blank ∈ TB := tb_mem 816 (by decide +kernel) rfl
theorem k_817 : Cond.selects RX7 yX7_blank yX7_blank ∈ TB := tb_mem 817 (by decide +kernel) rfl
theorem k_818 : Cond.code yX7_blank cX7_blank 2 (some .int) ∈ TB := tb_mem 818 (by decide +kernel) rfl
theorem k_819 : Cond.methodLink RL 26 yX7_fault ∈ TB := tb_mem 819 (by decide +kernel) rfl
theorem k_820 : Cond.instanceMethod yX7_fault ∈ TB := tb_mem 820 (by decide +kernel) rfl
theorem k_821 : Cond.selects RX7 yX7_fault yX7_fault ∈ TB := tb_mem 821 (by decide +kernel) rfl
theorem k_822 : Cond.code yX7_fault cX7_fault 1 (some .int) ∈ TB := tb_mem 822 (by decide +kernel) rfl
theorem k_823 : Cond.methodLink RX7 107 yX7_read ∈ TB := tb_mem 823 (by decide +kernel) rfl
theorem k_825 : Cond.instanceMethod yX7_read ∈ TB := tb_mem 825 (by decide +kernel) rfl
theorem k_826 : Cond.code yX7_read cX7_read 2 (some .int) ∈ TB := tb_mem 826 (by decide +kernel) rfl
theorem k_827 : Cond.methodLink RX7 104 yX7_takes ∈ TB := tb_mem 827 (by decide +kernel) rfl
theorem k_829 : Cond.instanceMethod yX7_takes ∈ TB := tb_mem 829 (by decide +kernel) rfl
theorem k_830 : Cond.code yX7_takes cX7_takes 2 (some .boolean) ∈ TB := tb_mem 830 (by decide +kernel) rfl
theorem k_831 : Cond.methodLink RX7 95 yX7_takesBounds ∈ TB := tb_mem 831 (by decide +kernel) rfl
theorem k_833 : Cond.instanceMethod yX7_takesBounds ∈ TB := tb_mem 833 (by decide +kernel) rfl
theorem k_834 : Cond.code yX7_takesBounds cX7_takesBounds 3 (some .boolean) ∈ TB := tb_mem 834 (by decide +kernel) rfl
theorem k_835 : Cond.methodLink RX7 81 yX7_beginPerson ∈ TB := tb_mem 835 (by decide +kernel) rfl
theorem k_837 : Cond.instanceMethod yX7_beginPerson ∈ TB := tb_mem 837 (by decide +kernel) rfl
theorem k_838 : Cond.code yX7_beginPerson cX7_beginPerson 2 none ∈ TB := tb_mem 838 (by decide +kernel) rfl
theorem k_839 : Cond.methodLink RX7 98 yX7_takesWhom ∈ TB := tb_mem 839 (by decide +kernel) rfl
theorem k_841 : Cond.instanceMethod yX7_takesWhom ∈ TB := tb_mem 841 (by decide +kernel) rfl
theorem k_842 : Cond.code yX7_takesWhom cX7_takesWhom 3 (some .boolean) ∈ TB := tb_mem 842 (by decide +kernel) rfl
theorem k_843 : Cond.methodLink RX7 67 yX7_canVouch ∈ TB := tb_mem 843 (by decide +kernel) rfl
theorem k_845 : Cond.instanceMethod yX7_canVouch ∈ TB := tb_mem 845 (by decide +kernel) rfl
theorem k_846 : Cond.code yX7_canVouch cX7_canVouch 2 (some .boolean) ∈ TB := tb_mem 846 (by decide +kernel) rfl
theorem k_847 : Cond.methodLink RX7 101 yX7_takesOfPerson ∈ TB := tb_mem 847 (by decide +kernel) rfl
theorem k_849 : Cond.instanceMethod yX7_takesOfPerson ∈ TB := tb_mem 849 (by decide +kernel) rfl
theorem k_850 : Cond.code yX7_takesOfPerson cX7_takesOfPerson 2 (some .boolean) ∈ TB := tb_mem 850 (by decide +kernel) rfl
theorem k_851 : Cond.methodLink RX7 88 yX7_takesKind ∈ TB := tb_mem 851 (by decide +kernel) rfl
theorem k_853 : Cond.instanceMethod yX7_takesKind ∈ TB := tb_mem 853 (by decide +kernel) rfl
theorem k_854 : Cond.code yX7_takesKind cX7_takesKind 3 (some .boolean) ∈ TB := tb_mem 854 (by decide +kernel) rfl
theorem k_855 : Cond.methodLink RX7 91 yX7_canBegin ∈ TB := tb_mem 855 (by decide +kernel) rfl
theorem k_857 : Cond.instanceMethod yX7_canBegin ∈ TB := tb_mem 857 (by decide +kernel) rfl
theorem k_858 : Cond.code yX7_canBegin cX7_canBegin 3 (some .boolean) ∈ TB := tb_mem 858 (by decide +kernel) rfl
theorem k_859 : Cond.methodLink RX7 71 yX7_size ∈ TB := tb_mem 859 (by decide +kernel) rfl
theorem k_860 : Cond.static yX7_size ∈ TB := tb_mem 860 (by decide +kernel) rfl
theorem k_861 : Cond.code yX7_size cX7_size 3 (some .int) ∈ TB := tb_mem 861 (by decide +kernel) rfl
theorem k_862 : Cond.methodLink RL 30 yX7_circle ∈ TB := tb_mem 862 (by decide +kernel) rfl
theorem k_863 : Cond.instanceMethod yX7_circle ∈ TB := tb_mem 863 (by decide +kernel) rfl
theorem k_864 : Cond.selects RX7 yX7_circle yX7_circle ∈ TB := tb_mem 864 (by decide +kernel) rfl
theorem k_865 : Cond.code yX7_circle cX7_circle 2 (some .int) ∈ TB := tb_mem 865 (by decide +kernel) rfl
theorem k_866 : Cond.methodLink RL 34 yX7_ink ∈ TB := tb_mem 866 (by decide +kernel) rfl
theorem k_867 : Cond.instanceMethod yX7_ink ∈ TB := tb_mem 867 (by decide +kernel) rfl
theorem k_868 : Cond.selects RX7 yX7_ink yX7_ink ∈ TB := tb_mem 868 (by decide +kernel) rfl
theorem k_869 : Cond.code yX7_ink cX7_ink 2 (some .int) ∈ TB := tb_mem 869 (by decide +kernel) rfl
theorem k_870 : Cond.methodLink RX7 139 yX7_isCircle ∈ TB := tb_mem 870 (by decide +kernel) rfl
theorem k_872 : Cond.instanceMethod yX7_isCircle ∈ TB := tb_mem 872 (by decide +kernel) rfl
theorem k_873 : Cond.code yX7_isCircle cX7_isCircle 1 (some .boolean) ∈ TB := tb_mem 873 (by decide +kernel) rfl
theorem k_874 : Cond.methodLink RX7 142 yX7_inkNow ∈ TB := tb_mem 874 (by decide +kernel) rfl
theorem k_876 : Cond.instanceMethod yX7_inkNow ∈ TB := tb_mem 876 (by decide +kernel) rfl
theorem k_877 : Cond.code yX7_inkNow cX7_inkNow 3 (some .int) ∈ TB := tb_mem 877 (by decide +kernel) rfl
theorem k_878 : Cond.methodLink RX7 129 yX7_ink1 ∈ TB := tb_mem 878 (by decide +kernel) rfl
theorem k_880 : Cond.instanceMethod yX7_ink1 ∈ TB := tb_mem 880 (by decide +kernel) rfl
theorem k_881 : Cond.code yX7_ink1 cX7_ink1 2 none ∈ TB := tb_mem 881 (by decide +kernel) rfl
theorem k_882 : Cond.methodLink RX7 136 yX7_inkPerson ∈ TB := tb_mem 882 (by decide +kernel) rfl
theorem k_884 : Cond.instanceMethod yX7_inkPerson ∈ TB := tb_mem 884 (by decide +kernel) rfl
theorem k_885 : Cond.code yX7_inkPerson cX7_inkPerson 3 none ∈ TB := tb_mem 885 (by decide +kernel) rfl
theorem k_886 : Cond.methodLink RX7 132 yX7_has ∈ TB := tb_mem 886 (by decide +kernel) rfl
theorem k_887 : Cond.static yX7_has ∈ TB := tb_mem 887 (by decide +kernel) rfl
theorem k_888 : Cond.code yX7_has cX7_has 2 (some .boolean) ∈ TB := tb_mem 888 (by decide +kernel) rfl
theorem k_889 : Cond.methodLink RL 39 yX7_kind ∈ TB := tb_mem 889 (by decide +kernel) rfl
theorem k_890 : Cond.instanceMethod yX7_kind ∈ TB := tb_mem 890 (by decide +kernel) rfl
theorem k_891 : Cond.selects RX7 yX7_kind yX7_kind ∈ TB := tb_mem 891 (by decide +kernel) rfl
theorem k_892 : Cond.code yX7_kind cX7_kind 4 (some .int) ∈ TB := tb_mem 892 (by decide +kernel) rfl
theorem k_893 : Cond.methodLink RX7 145 yX7_isPerson ∈ TB := tb_mem 893 (by decide +kernel) rfl
theorem k_895 : Cond.instanceMethod yX7_isPerson ∈ TB := tb_mem 895 (by decide +kernel) rfl
theorem k_896 : Cond.code yX7_isPerson cX7_isPerson 2 (some .boolean) ∈ TB := tb_mem 896 (by decide +kernel) rfl
theorem k_897 : Cond.methodLink RX7 148 yX7_ofKind ∈ TB := tb_mem 897 (by decide +kernel) rfl
theorem k_899 : Cond.instanceMethod yX7_ofKind ∈ TB := tb_mem 899 (by decide +kernel) rfl
theorem k_900 : Cond.code yX7_ofKind cX7_ofKind 4 (some .int) ∈ TB := tb_mem 900 (by decide +kernel) rfl
theorem k_901 : Cond.methodLink RL 43 yX7_as ∈ TB := tb_mem 901 (by decide +kernel) rfl
theorem k_902 : Cond.instanceMethod yX7_as ∈ TB := tb_mem 902 (by decide +kernel) rfl
theorem k_903 : Cond.selects RX7 yX7_as yX7_as ∈ TB := tb_mem 903 (by decide +kernel) rfl
theorem k_904 : Cond.code yX7_as cX7_as 3 (some .int) ∈ TB := tb_mem 904 (by decide +kernel) rfl
theorem k_905 : Cond.methodLink RL 47 yX7_vouch ∈ TB := tb_mem 905 (by decide +kernel) rfl
theorem k_906 : Cond.instanceMethod yX7_vouch ∈ TB := tb_mem 906 (by decide +kernel) rfl
theorem k_907 : Cond.selects RX7 yX7_vouch yX7_vouch ∈ TB := tb_mem 907 (by decide +kernel) rfl
theorem k_908 : Cond.code yX7_vouch cX7_vouch 3 (some .int) ∈ TB := tb_mem 908 (by decide +kernel) rfl
theorem k_909 : Cond.methodLink RX7 151 yX7_areTwo ∈ TB := tb_mem 909 (by decide +kernel) rfl
theorem k_911 : Cond.instanceMethod yX7_areTwo ∈ TB := tb_mem 911 (by decide +kernel) rfl
theorem k_912 : Cond.code yX7_areTwo cX7_areTwo 3 (some .boolean) ∈ TB := tb_mem 912 (by decide +kernel) rfl
theorem k_913 : Cond.methodLink RL 51 yX7_recall ∈ TB := tb_mem 913 (by decide +kernel) rfl
theorem k_914 : Cond.instanceMethod yX7_recall ∈ TB := tb_mem 914 (by decide +kernel) rfl
theorem k_915 : Cond.selects RX7 yX7_recall yX7_recall ∈ TB := tb_mem 915 (by decide +kernel) rfl
theorem k_916 : Cond.code yX7_recall cX7_recall 3 (some .int) ∈ TB := tb_mem 916 (by decide +kernel) rfl
theorem k_917 : Cond.methodLink RL 55 yX7_bound ∈ TB := tb_mem 917 (by decide +kernel) rfl
theorem k_918 : Cond.instanceMethod yX7_bound ∈ TB := tb_mem 918 (by decide +kernel) rfl
theorem k_919 : Cond.selects RX7 yX7_bound yX7_bound ∈ TB := tb_mem 919 (by decide +kernel) rfl
theorem k_920 : Cond.code yX7_bound cX7_bound 4 (some .int) ∈ TB := tb_mem 920 (by decide +kernel) rfl
theorem k_921 : Cond.methodLink RL 59 yX7_about ∈ TB := tb_mem 921 (by decide +kernel) rfl
theorem k_922 : Cond.instanceMethod yX7_about ∈ TB := tb_mem 922 (by decide +kernel) rfl
theorem k_923 : Cond.selects RX7 yX7_about yX7_about ∈ TB := tb_mem 923 (by decide +kernel) rfl
theorem k_924 : Cond.code yX7_about cX7_about 2 (some .int) ∈ TB := tb_mem 924 (by decide +kernel) rfl
theorem k_925 : Cond.methodLink RX7 184 yX7_aboutNow ∈ TB := tb_mem 925 (by decide +kernel) rfl
theorem k_927 : Cond.instanceMethod yX7_aboutNow ∈ TB := tb_mem 927 (by decide +kernel) rfl
theorem k_928 : Cond.code yX7_aboutNow cX7_aboutNow 2 (some .int) ∈ TB := tb_mem 928 (by decide +kernel) rfl
theorem k_929 : Cond.methodLink RX7 163 yX7_layLevels ∈ TB := tb_mem 929 (by decide +kernel) rfl
theorem k_931 : Cond.instanceMethod yX7_layLevels ∈ TB := tb_mem 931 (by decide +kernel) rfl
theorem k_932 : Cond.code yX7_layLevels cX7_layLevels 5 none ∈ TB := tb_mem 932 (by decide +kernel) rfl
theorem k_933 : Cond.methodLink RX7 160 yX7_vouchedBy ∈ TB := tb_mem 933 (by decide +kernel) rfl
theorem k_935 : Cond.instanceMethod yX7_vouchedBy ∈ TB := tb_mem 935 (by decide +kernel) rfl
theorem k_936 : Cond.code yX7_vouchedBy cX7_vouchedBy 4 (some .int) ∈ TB := tb_mem 936 (by decide +kernel) rfl
theorem k_937 : Cond.methodLink RX7 175 yX7_vouchesAll ∈ TB := tb_mem 937 (by decide +kernel) rfl
theorem k_939 : Cond.instanceMethod yX7_vouchesAll ∈ TB := tb_mem 939 (by decide +kernel) rfl
theorem k_940 : Cond.code yX7_vouchesAll cX7_vouchesAll 3 (some .int) ∈ TB := tb_mem 940 (by decide +kernel) rfl
theorem k_941 : Cond.methodLink RX7 178 yX7_levelsMany ∈ TB := tb_mem 941 (by decide +kernel) rfl
theorem k_943 : Cond.instanceMethod yX7_levelsMany ∈ TB := tb_mem 943 (by decide +kernel) rfl
theorem k_944 : Cond.code yX7_levelsMany cX7_levelsMany 3 (some .int) ∈ TB := tb_mem 944 (by decide +kernel) rfl
theorem k_945 : Cond.methodLink RX7 181 yX7_greatestLevel ∈ TB := tb_mem 945 (by decide +kernel) rfl
theorem k_947 : Cond.instanceMethod yX7_greatestLevel ∈ TB := tb_mem 947 (by decide +kernel) rfl
theorem k_948 : Cond.code yX7_greatestLevel cX7_greatestLevel 3 (some .int) ∈ TB := tb_mem 948 (by decide +kernel) rfl
theorem k_949 : Cond.methodLink RX7 169 yX7_mostOf ∈ TB := tb_mem 949 (by decide +kernel) rfl
theorem k_951 : Cond.instanceMethod yX7_mostOf ∈ TB := tb_mem 951 (by decide +kernel) rfl
theorem k_952 : Cond.code yX7_mostOf cX7_mostOf 4 (some .int) ∈ TB := tb_mem 952 (by decide +kernel) rfl
theorem k_953 : Cond.methodLink RL 63 yX7_person ∈ TB := tb_mem 953 (by decide +kernel) rfl
theorem k_954 : Cond.instanceMethod yX7_person ∈ TB := tb_mem 954 (by decide +kernel) rfl
theorem k_955 : Cond.selects RX7 yX7_person yX7_person ∈ TB := tb_mem 955 (by decide +kernel) rfl
theorem k_956 : Cond.code yX7_person cX7_person 3 (some .int) ∈ TB := tb_mem 956 (by decide +kernel) rfl
theorem k_957 : Cond.methodLink RX7 202 yX7_personNow ∈ TB := tb_mem 957 (by decide +kernel) rfl
theorem k_959 : Cond.instanceMethod yX7_personNow ∈ TB := tb_mem 959 (by decide +kernel) rfl
theorem k_960 : Cond.code yX7_personNow cX7_personNow 3 (some .int) ∈ TB := tb_mem 960 (by decide +kernel) rfl
theorem k_961 : Cond.methodLink RX7 187 yX7_lay ∈ TB := tb_mem 961 (by decide +kernel) rfl
theorem k_963 : Cond.instanceMethod yX7_lay ∈ TB := tb_mem 963 (by decide +kernel) rfl
theorem k_964 : Cond.code yX7_lay cX7_lay 2 none ∈ TB := tb_mem 964 (by decide +kernel) rfl
theorem k_965 : Cond.methodLink RX7 166 yX7_wallOf ∈ TB := tb_mem 965 (by decide +kernel) rfl
theorem k_967 : Cond.instanceMethod yX7_wallOf ∈ TB := tb_mem 967 (by decide +kernel) rfl
theorem k_968 : Cond.code yX7_wallOf cX7_wallOf 2 (some .int) ∈ TB := tb_mem 968 (by decide +kernel) rfl
theorem k_969 : Cond.methodLink RX7 190 yX7_vouchersOf ∈ TB := tb_mem 969 (by decide +kernel) rfl
theorem k_971 : Cond.instanceMethod yX7_vouchersOf ∈ TB := tb_mem 971 (by decide +kernel) rfl
theorem k_972 : Cond.code yX7_vouchersOf cX7_vouchersOf 4 (some .int) ∈ TB := tb_mem 972 (by decide +kernel) rfl
theorem k_973 : Cond.methodLink RX7 193 yX7_allIn ∈ TB := tb_mem 973 (by decide +kernel) rfl
theorem k_975 : Cond.instanceMethod yX7_allIn ∈ TB := tb_mem 975 (by decide +kernel) rfl
theorem k_976 : Cond.code yX7_allIn cX7_allIn 3 (some .int) ∈ TB := tb_mem 976 (by decide +kernel) rfl
theorem k_977 : Cond.methodLink RX7 172 yX7_canBe ∈ TB := tb_mem 977 (by decide +kernel) rfl
theorem k_979 : Cond.instanceMethod yX7_canBe ∈ TB := tb_mem 979 (by decide +kernel) rfl
theorem k_980 : Cond.code yX7_canBe cX7_canBe 4 (some .boolean) ∈ TB := tb_mem 980 (by decide +kernel) rfl
theorem k_981 : Cond.methodLink RX7 196 yX7_takenIn ∈ TB := tb_mem 981 (by decide +kernel) rfl
theorem k_983 : Cond.instanceMethod yX7_takenIn ∈ TB := tb_mem 983 (by decide +kernel) rfl
theorem k_984 : Cond.code yX7_takenIn cX7_takenIn 4 (some .int) ∈ TB := tb_mem 984 (by decide +kernel) rfl
theorem k_985 : Cond.methodLink RX7 199 yX7_apartNow ∈ TB := tb_mem 985 (by decide +kernel) rfl
theorem k_987 : Cond.instanceMethod yX7_apartNow ∈ TB := tb_mem 987 (by decide +kernel) rfl
theorem k_988 : Cond.code yX7_apartNow cX7_apartNow 5 (some .int) ∈ TB := tb_mem 988 (by decide +kernel) rfl
theorem k_989 : Cond.methodLink RX7 230 yX7_isLed ∈ TB := tb_mem 989 (by decide +kernel) rfl
theorem k_991 : Cond.instanceMethod yX7_isLed ∈ TB := tb_mem 991 (by decide +kernel) rfl
theorem k_992 : Cond.code yX7_isLed cX7_isLed 5 (some .boolean) ∈ TB := tb_mem 992 (by decide +kernel) rfl
theorem k_993 : Cond.methodLink RL 67 yX7_vouches ∈ TB := tb_mem 993 (by decide +kernel) rfl
theorem k_994 : Cond.instanceMethod yX7_vouches ∈ TB := tb_mem 994 (by decide +kernel) rfl
theorem k_995 : Cond.selects RX7 yX7_vouches yX7_vouches ∈ TB := tb_mem 995 (by decide +kernel) rfl
theorem k_996 : Cond.code yX7_vouches cX7_vouches 3 (some .int) ∈ TB := tb_mem 996 (by decide +kernel) rfl
theorem k_997 : Cond.methodLink RL 71 yX7_generous ∈ TB := tb_mem 997 (by decide +kernel) rfl
theorem k_998 : Cond.instanceMethod yX7_generous ∈ TB := tb_mem 998 (by decide +kernel) rfl
theorem k_999 : Cond.selects RX7 yX7_generous yX7_generous ∈ TB := tb_mem 999 (by decide +kernel) rfl
theorem k_1000 : Cond.code yX7_generous cX7_generous 1 (some .int) ∈ TB := tb_mem 1000 (by decide +kernel) rfl
theorem k_1001 : Cond.methodLink RX7 206 yX7_generousNow ∈ TB := tb_mem 1001 (by decide +kernel) rfl
theorem k_1003 : Cond.instanceMethod yX7_generousNow ∈ TB := tb_mem 1003 (by decide +kernel) rfl
theorem k_1004 : Cond.code yX7_generousNow cX7_generousNow 4 (some .int) ∈ TB := tb_mem 1004 (by decide +kernel) rfl
theorem k_1005 : Cond.methodLink RL 75 yX7_trust ∈ TB := tb_mem 1005 (by decide +kernel) rfl
theorem k_1006 : Cond.instanceMethod yX7_trust ∈ TB := tb_mem 1006 (by decide +kernel) rfl
theorem k_1007 : Cond.selects RX7 yX7_trust yX7_trust ∈ TB := tb_mem 1007 (by decide +kernel) rfl
theorem k_1008 : Cond.code yX7_trust cX7_trust 2 (some .int) ∈ TB := tb_mem 1008 (by decide +kernel) rfl
theorem k_1009 : Cond.methodLink RX7 215 yX7_trustNow ∈ TB := tb_mem 1009 (by decide +kernel) rfl
theorem k_1011 : Cond.instanceMethod yX7_trustNow ∈ TB := tb_mem 1011 (by decide +kernel) rfl
theorem k_1012 : Cond.code yX7_trustNow cX7_trustNow 2 (some .int) ∈ TB := tb_mem 1012 (by decide +kernel) rfl
theorem k_1013 : Cond.methodLink RX7 209 yX7_flood ∈ TB := tb_mem 1013 (by decide +kernel) rfl
theorem k_1015 : Cond.instanceMethod yX7_flood ∈ TB := tb_mem 1015 (by decide +kernel) rfl
theorem k_1016 : Cond.code yX7_flood cX7_flood 5 (some .int) ∈ TB := tb_mem 1016 (by decide +kernel) rfl
theorem k_1017 : Cond.methodLink RX7 212 yX7_withoutFalse ∈ TB := tb_mem 1017 (by decide +kernel) rfl
theorem k_1019 : Cond.instanceMethod yX7_withoutFalse ∈ TB := tb_mem 1019 (by decide +kernel) rfl
theorem k_1020 : Cond.code yX7_withoutFalse cX7_withoutFalse 3 (some .int) ∈ TB := tb_mem 1020 (by decide +kernel) rfl
theorem k_1021 : Cond.methodLink RL 79 yX7_together ∈ TB := tb_mem 1021 (by decide +kernel) rfl
theorem k_1022 : Cond.instanceMethod yX7_together ∈ TB := tb_mem 1022 (by decide +kernel) rfl
theorem k_1023 : Cond.selects RX7 yX7_together yX7_together ∈ TB := tb_mem 1023 (by decide +kernel) rfl
theorem k_1024 : Cond.code yX7_together cX7_together 2 (some .int) ∈ TB := tb_mem 1024 (by decide +kernel) rfl
theorem k_1025 : Cond.methodLink RX7 218 yX7_togetherNow ∈ TB := tb_mem 1025 (by decide +kernel) rfl
theorem k_1027 : Cond.instanceMethod yX7_togetherNow ∈ TB := tb_mem 1027 (by decide +kernel) rfl
theorem k_1028 : Cond.code yX7_togetherNow cX7_togetherNow 2 (some .int) ∈ TB := tb_mem 1028 (by decide +kernel) rfl
theorem k_1029 : Cond.methodLink RL 83 yX7_cut ∈ TB := tb_mem 1029 (by decide +kernel) rfl
theorem k_1030 : Cond.instanceMethod yX7_cut ∈ TB := tb_mem 1030 (by decide +kernel) rfl
theorem k_1031 : Cond.selects RX7 yX7_cut yX7_cut ∈ TB := tb_mem 1031 (by decide +kernel) rfl
theorem k_1032 : Cond.code yX7_cut cX7_cut 2 (some .int) ∈ TB := tb_mem 1032 (by decide +kernel) rfl
theorem k_1033 : Cond.methodLink RX7 227 yX7_cutNow ∈ TB := tb_mem 1033 (by decide +kernel) rfl
theorem k_1035 : Cond.instanceMethod yX7_cutNow ∈ TB := tb_mem 1035 (by decide +kernel) rfl
theorem k_1036 : Cond.code yX7_cutNow cX7_cutNow 3 (some .int) ∈ TB := tb_mem 1036 (by decide +kernel) rfl
theorem k_1037 : Cond.methodLink RX7 224 yX7_cutSet ∈ TB := tb_mem 1037 (by decide +kernel) rfl
theorem k_1039 : Cond.instanceMethod yX7_cutSet ∈ TB := tb_mem 1039 (by decide +kernel) rfl
theorem k_1040 : Cond.code yX7_cutSet cX7_cutSet 4 (some .int) ∈ TB := tb_mem 1040 (by decide +kernel) rfl
theorem k_1041 : Cond.methodLink RX7 221 yX7_costOf ∈ TB := tb_mem 1041 (by decide +kernel) rfl
theorem k_1043 : Cond.instanceMethod yX7_costOf ∈ TB := tb_mem 1043 (by decide +kernel) rfl
theorem k_1044 : Cond.code yX7_costOf cX7_costOf 2 (some .int) ∈ TB := tb_mem 1044 (by decide +kernel) rfl
theorem k_1045 : Cond.methodLink RL 87 yX7_apart ∈ TB := tb_mem 1045 (by decide +kernel) rfl
theorem k_1046 : Cond.instanceMethod yX7_apart ∈ TB := tb_mem 1046 (by decide +kernel) rfl
theorem k_1047 : Cond.selects RX7 yX7_apart yX7_apart ∈ TB := tb_mem 1047 (by decide +kernel) rfl
theorem k_1048 : Cond.code yX7_apart cX7_apart 2 (some .int) ∈ TB := tb_mem 1048 (by decide +kernel) rfl
theorem k_1049 : Cond.methodLink RL 92 yX7_without ∈ TB := tb_mem 1049 (by decide +kernel) rfl
theorem k_1050 : Cond.instanceMethod yX7_without ∈ TB := tb_mem 1050 (by decide +kernel) rfl
theorem k_1051 : Cond.selects RX7 yX7_without yX7_without ∈ TB := tb_mem 1051 (by decide +kernel) rfl
theorem k_1052 : Cond.code yX7_without cX7_without 4 (some .int) ∈ TB := tb_mem 1052 (by decide +kernel) rfl
theorem k_1053 : Cond.methodLink RX7 233 yX7_withoutNow ∈ TB := tb_mem 1053 (by decide +kernel) rfl
theorem k_1055 : Cond.instanceMethod yX7_withoutNow ∈ TB := tb_mem 1055 (by decide +kernel) rfl
theorem k_1056 : Cond.code yX7_withoutNow cX7_withoutNow 6 (some .int) ∈ TB := tb_mem 1056 (by decide +kernel) rfl
theorem k_1057 : Cond.methodLink RL 96 yX7_dearest ∈ TB := tb_mem 1057 (by decide +kernel) rfl
theorem k_1058 : Cond.instanceMethod yX7_dearest ∈ TB := tb_mem 1058 (by decide +kernel) rfl
theorem k_1059 : Cond.selects RX7 yX7_dearest yX7_dearest ∈ TB := tb_mem 1059 (by decide +kernel) rfl
theorem k_1060 : Cond.code yX7_dearest cX7_dearest 1 (some .int) ∈ TB := tb_mem 1060 (by decide +kernel) rfl
theorem k_1061 : Cond.methodLink RX7 237 yX7_dearestNow ∈ TB := tb_mem 1061 (by decide +kernel) rfl
theorem k_1063 : Cond.instanceMethod yX7_dearestNow ∈ TB := tb_mem 1063 (by decide +kernel) rfl
theorem k_1064 : Cond.code yX7_dearestNow cX7_dearestNow 8 (some .int) ∈ TB := tb_mem 1064 (by decide +kernel) rfl
theorem k_1065 : Cond.methodLink RL 100 yX7_chance ∈ TB := tb_mem 1065 (by decide +kernel) rfl
theorem k_1066 : Cond.instanceMethod yX7_chance ∈ TB := tb_mem 1066 (by decide +kernel) rfl
theorem k_1067 : Cond.selects RX7 yX7_chance yX7_chance ∈ TB := tb_mem 1067 (by decide +kernel) rfl
theorem k_1068 : Cond.code yX7_chance cX7_chance 4 (some .int) ∈ TB := tb_mem 1068 (by decide +kernel) rfl
theorem k_1069 : Cond.methodLink RX7 257 yX7_areSeeds ∈ TB := tb_mem 1069 (by decide +kernel) rfl
theorem k_1071 : Cond.instanceMethod yX7_areSeeds ∈ TB := tb_mem 1071 (by decide +kernel) rfl
theorem k_1072 : Cond.code yX7_areSeeds cX7_areSeeds 1 (some .boolean) ∈ TB := tb_mem 1072 (by decide +kernel) rfl
theorem k_1073 : Cond.methodLink RX7 260 yX7_chanceNow ∈ TB := tb_mem 1073 (by decide +kernel) rfl
theorem k_1075 : Cond.instanceMethod yX7_chanceNow ∈ TB := tb_mem 1075 (by decide +kernel) rfl
theorem k_1076 : Cond.code yX7_chanceNow cX7_chanceNow 6 (some .int) ∈ TB := tb_mem 1076 (by decide +kernel) rfl
theorem k_1077 : Cond.methodLink RX7 250 yX7_layChances ∈ TB := tb_mem 1077 (by decide +kernel) rfl
theorem k_1079 : Cond.instanceMethod yX7_layChances ∈ TB := tb_mem 1079 (by decide +kernel) rfl
theorem k_1080 : Cond.code yX7_layChances cX7_layChances 6 none ∈ TB := tb_mem 1080 (by decide +kernel) rfl
theorem k_1081 : Cond.methodLink RX7 244 yX7_goesTo ∈ TB := tb_mem 1081 (by decide +kernel) rfl
theorem k_1083 : Cond.instanceMethod yX7_goesTo ∈ TB := tb_mem 1083 (by decide +kernel) rfl
theorem k_1084 : Cond.code yX7_goesTo cX7_goesTo 5 none ∈ TB := tb_mem 1084 (by decide +kernel) rfl
theorem k_1085 : Cond.constantLong RX7 248 60 ∈ TB := tb_mem 1085 (by decide +kernel) rfl
theorem k_1086 : Cond.methodLink RX7 253 yX7_common ∈ TB := tb_mem 1086 (by decide +kernel) rfl
theorem k_1087 : Cond.static yX7_common ∈ TB := tb_mem 1087 (by decide +kernel) rfl
theorem k_1088 : Cond.code yX7_common cX7_common 10 (some .long) ∈ TB := tb_mem 1088 (by decide +kernel) rfl
theorem k_1089 : Cond.methodLink RL 104 yX7_thousandths ∈ TB := tb_mem 1089 (by decide +kernel) rfl
theorem k_1090 : Cond.instanceMethod yX7_thousandths ∈ TB := tb_mem 1090 (by decide +kernel) rfl
theorem k_1091 : Cond.selects RX7 yX7_thousandths yX7_thousandths ∈ TB := tb_mem 1091 (by decide +kernel) rfl
theorem k_1092 : Cond.code yX7_thousandths cX7_thousandths 3 (some .int) ∈ TB := tb_mem 1092 (by decide +kernel) rfl
theorem k_1093 : Cond.methodLink RX7 265 yX7_thousandthsNow ∈ TB := tb_mem 1093 (by decide +kernel) rfl
theorem k_1095 : Cond.instanceMethod yX7_thousandthsNow ∈ TB := tb_mem 1095 (by decide +kernel) rfl
theorem k_1096 : Cond.code yX7_thousandthsNow cX7_thousandthsNow 3 (some .int) ∈ TB := tb_mem 1096 (by decide +kernel) rfl
theorem k_1097 : Cond.constantLong RX7 263 1000 ∈ TB := tb_mem 1097 (by decide +kernel) rfl
theorem k_1098 : Cond.methodLink RL 108 yX7_order ∈ TB := tb_mem 1098 (by decide +kernel) rfl
theorem k_1099 : Cond.instanceMethod yX7_order ∈ TB := tb_mem 1099 (by decide +kernel) rfl
theorem k_1100 : Cond.selects RX7 yX7_order yX7_order ∈ TB := tb_mem 1100 (by decide +kernel) rfl
theorem k_1101 : Cond.code yX7_order cX7_order 3 (some .int) ∈ TB := tb_mem 1101 (by decide +kernel) rfl
theorem k_1102 : Cond.methodLink RX7 271 yX7_orderNow ∈ TB := tb_mem 1102 (by decide +kernel) rfl
theorem k_1104 : Cond.instanceMethod yX7_orderNow ∈ TB := tb_mem 1104 (by decide +kernel) rfl
theorem k_1105 : Cond.code yX7_orderNow cX7_orderNow 4 (some .int) ∈ TB := tb_mem 1105 (by decide +kernel) rfl
theorem k_1106 : Cond.methodLink RX7 268 yX7_placeOf ∈ TB := tb_mem 1106 (by decide +kernel) rfl
theorem k_1108 : Cond.instanceMethod yX7_placeOf ∈ TB := tb_mem 1108 (by decide +kernel) rfl
theorem k_1109 : Cond.code yX7_placeOf cX7_placeOf 5 (some .int) ∈ TB := tb_mem 1109 (by decide +kernel) rfl
theorem k_1110 : Cond.methodLink RL 112 yX7_count ∈ TB := tb_mem 1110 (by decide +kernel) rfl
theorem k_1111 : Cond.instanceMethod yX7_count ∈ TB := tb_mem 1111 (by decide +kernel) rfl
theorem k_1112 : Cond.selects RX7 yX7_count yX7_count ∈ TB := tb_mem 1112 (by decide +kernel) rfl
theorem k_1113 : Cond.code yX7_count cX7_count 2 (some .int) ∈ TB := tb_mem 1113 (by decide +kernel) rfl
theorem k_1114 : Cond.methodLink RX7 274 yX7_howMany ∈ TB := tb_mem 1114 (by decide +kernel) rfl
theorem k_1116 : Cond.instanceMethod yX7_howMany ∈ TB := tb_mem 1116 (by decide +kernel) rfl
theorem k_1117 : Cond.code yX7_howMany cX7_howMany 2 (some .int) ∈ TB := tb_mem 1117 (by decide +kernel) rfl
theorem k_1118 : Cond.methodLink RL 117 yX7_digest ∈ TB := tb_mem 1118 (by decide +kernel) rfl
theorem k_1119 : Cond.instanceMethod yX7_digest ∈ TB := tb_mem 1119 (by decide +kernel) rfl
theorem k_1120 : Cond.selects RX7 yX7_digest yX7_digest ∈ TB := tb_mem 1120 (by decide +kernel) rfl
theorem k_1121 : Cond.code yX7_digest cX7_digest 2 (some .long) ∈ TB := tb_mem 1121 (by decide +kernel) rfl
theorem k_1122 : Cond.constantLong RX7 286 1553 ∈ TB := tb_mem 1122 (by decide +kernel) rfl
theorem k_1123 : Cond.methodLink RX7 288 yX7_mixInk ∈ TB := tb_mem 1123 (by decide +kernel) rfl
theorem k_1125 : Cond.instanceMethod yX7_mixInk ∈ TB := tb_mem 1125 (by decide +kernel) rfl
theorem k_1126 : Cond.code yX7_mixInk cX7_mixInk 2 none ∈ TB := tb_mem 1126 (by decide +kernel) rfl
theorem k_1127 : Cond.methodLink RX7 282 yX7_mix ∈ TB := tb_mem 1127 (by decide +kernel) rfl
theorem k_1129 : Cond.instanceMethod yX7_mix ∈ TB := tb_mem 1129 (by decide +kernel) rfl
theorem k_1130 : Cond.code yX7_mix cX7_mix 3 none ∈ TB := tb_mem 1130 (by decide +kernel) rfl
theorem k_1131 : Cond.constantLong RX7 277 31 ∈ TB := tb_mem 1131 (by decide +kernel) rfl
theorem k_1132 : Cond.methodLink RX7 291 yX7_mixPersons ∈ TB := tb_mem 1132 (by decide +kernel) rfl
theorem k_1134 : Cond.instanceMethod yX7_mixPersons ∈ TB := tb_mem 1134 (by decide +kernel) rfl
theorem k_1135 : Cond.code yX7_mixPersons cX7_mixPersons 3 none ∈ TB := tb_mem 1135 (by decide +kernel) rfl
theorem k_1136 : Cond.methodLink RX7 294 yX7_mixTrust ∈ TB := tb_mem 1136 (by decide +kernel) rfl
theorem k_1138 : Cond.instanceMethod yX7_mixTrust ∈ TB := tb_mem 1138 (by decide +kernel) rfl
theorem k_1139 : Cond.code yX7_mixTrust cX7_mixTrust 3 none ∈ TB := tb_mem 1139 (by decide +kernel) rfl
theorem k_1140 : Cond.methodLink RX7 297 yX7_mixWalk ∈ TB := tb_mem 1140 (by decide +kernel) rfl
theorem k_1142 : Cond.instanceMethod yX7_mixWalk ∈ TB := tb_mem 1142 (by decide +kernel) rfl
theorem k_1143 : Cond.code yX7_mixWalk cX7_mixWalk 3 none ∈ TB := tb_mem 1143 (by decide +kernel) rfl
theorem gf_RX6_53_0 {X : Mx} {w : Wt} {l0 : Launch} {cc : ByteArray} {n0 : Nat} {rm : Room} {ret : Option FieldType} {Q : State → Prop} {pc : Nat} {lv : List (Nat × Value)} {st : List Value} {S : St} (C : Cx X w l0 cc n0 RX6 rm ret) (hd : decode cc pc = .ok (.getfield 53, 3)) (h : J X w Q (pc + 3) lv (.int (S.1 0 1) :: st) S) : J X w Q pc lv (rr w 0 :: st) S := j_get C 0 1 rfl (ci := 6) rfl (by decide) in_X6 k_265 rfl hd h
theorem gf_RX6_9_0 {X : Mx} {w : Wt} {l0 : Launch} {cc : ByteArray} {n0 : Nat} {rm : Room} {ret : Option FieldType} {Q : State → Prop} {pc : Nat} {lv : List (Nat × Value)} {st : List Value} {S : St} (C : Cx X w l0 cc n0 RX6 rm ret) (hd : decode cc pc = .ok (.getfield 9, 3)) (h : J X w Q (pc + 3) lv (rr w 1 :: st) S) : J X w Q pc lv (rr w 0 :: st) S := j_get C 0 0 rfl (ci := 6) rfl (by decide) in_X6 k_264 rfl hd h
theorem as_1 {X : Mx} {w : Wt} {l0 : Launch} {cc : ByteArray} {n0 : Nat} {rm : Room} {ret : Option FieldType} {Q : State → Prop} {pc : Nat} {lv : List (Nat × Value)} {st : List Value} {S : St} {own : String} {i x : Int32} (C : Cx X w l0 cc n0 own rm ret) (hd : decode cc pc = .ok (.iastore, 1)) (hin : vp_in i 110) (h : ∀ S1 : St, S1 = si S 1 i.toNatClampNeg x → J X w Q (pc + 1) lv st S1) : J X w Q pc lv (.int x :: .int i :: rr w 1 :: st) S := j_iast C 1 rfl (fun _ => rfl) hin hd (h _ rfl)
theorem pf_RX6_53_0 {X : Mx} {w : Wt} {l0 : Launch} {cc : ByteArray} {n0 : Nat} {rm : Room} {ret : Option FieldType} {Q : State → Prop} {pc : Nat} {lv : List (Nat × Value)} {st : List Value} {S : St} {v : Int32} (C : Cx X w l0 cc n0 RX6 rm ret) (hd : decode cc pc = .ok (.putfield 53, 3)) (h : ∀ S1 : St, S1 = si S 0 1 v → J X w Q (pc + 3) lv st S1) : J X w Q pc lv (.int v :: rr w 0 :: st) S := j_put C 0 1 rfl (ci := 6) rfl (by decide) in_X6 tyX6 tyX6_ok nmX6 k_265 rfl (ty := .int) (by decide +kernel) rfl rfl (Nat.le_of_ble_eq_true rfl) rfl hd (h _ rfl)
theorem cv_RX7_50 : CS RX7 50 yX7_within cX7_within 3 (some .boolean) 3 := ⟨k_814, k_812, k_813, k_93, by decide +kernel⟩
theorem gf_RX7_54_25 {X : Mx} {w : Wt} {l0 : Launch} {cc : ByteArray} {n0 : Nat} {rm : Room} {ret : Option FieldType} {Q : State → Prop} {pc : Nat} {lv : List (Nat × Value)} {st : List Value} {S : St} (C : Cx X w l0 cc n0 RX7 rm ret) (hd : decode cc pc = .ok (.getfield 54, 3)) (h : J X w Q (pc + 3) lv (.int (S.1 25 8) :: st) S) : J X w Q pc lv (rr w 25 :: st) S := j_get C 25 8 rfl (ci := 7) rfl (by decide) in_X7 k_725 rfl hd h
theorem gf_RX7_19_25 {X : Mx} {w : Wt} {l0 : Launch} {cc : ByteArray} {n0 : Nat} {rm : Room} {ret : Option FieldType} {Q : State → Prop} {pc : Nat} {lv : List (Nat × Value)} {st : List Value} {S : St} (C : Cx X w l0 cc n0 RX7 rm ret) (hd : decode cc pc = .ok (.getfield 19, 3)) (h : J X w Q (pc + 3) lv (rr w 29 :: st) S) : J X w Q pc lv (rr w 25 :: st) S := j_get C 25 9 rfl (ci := 7) rfl (by decide) in_X7 k_726 rfl hd h
theorem as_29 {X : Mx} {w : Wt} {l0 : Launch} {cc : ByteArray} {n0 : Nat} {rm : Room} {ret : Option FieldType} {Q : State → Prop} {pc : Nat} {lv : List (Nat × Value)} {st : List Value} {S : St} {own : String} {i x : Int32} (C : Cx X w l0 cc n0 own rm ret) (hd : decode cc pc = .ok (.iastore, 1)) (hin : vp_in i 110) (h : ∀ S1 : St, S1 = si S 29 i.toNatClampNeg x → J X w Q (pc + 1) lv st S1) : J X w Q pc lv (.int x :: .int i :: rr w 29 :: st) S := j_iast C 29 rfl (fun _ => rfl) hin hd (h _ rfl)
theorem pf_RX7_54_25 {X : Mx} {w : Wt} {l0 : Launch} {cc : ByteArray} {n0 : Nat} {rm : Room} {ret : Option FieldType} {Q : State → Prop} {pc : Nat} {lv : List (Nat × Value)} {st : List Value} {S : St} {v : Int32} (C : Cx X w l0 cc n0 RX7 rm ret) (hd : decode cc pc = .ok (.putfield 54, 3)) (h : ∀ S1 : St, S1 = si S 25 8 v → J X w Q (pc + 3) lv st S1) : J X w Q pc lv (.int v :: rr w 25 :: st) S := j_put C 25 8 rfl (ci := 7) rfl (by decide) in_X7 tyX7 tyX7_ok nmX7 k_725 rfl (ty := .int) (by decide +kernel) rfl rfl (Nat.le_of_ble_eq_true rfl) rfl hd (h _ rfl)
theorem gf_RX6_23_0 {X : Mx} {w : Wt} {l0 : Launch} {cc : ByteArray} {n0 : Nat} {rm : Room} {ret : Option FieldType} {Q : State → Prop} {pc : Nat} {lv : List (Nat × Value)} {st : List Value} {S : St} (C : Cx X w l0 cc n0 RX6 rm ret) (hd : decode cc pc = .ok (.getfield 23, 3)) (h : J X w Q (pc + 3) lv (rr w 6 :: st) S) : J X w Q pc lv (rr w 0 :: st) S := j_get C 0 3 rfl (ci := 6) rfl (by decide) in_X6 k_267 rfl hd h
theorem gf_RX2_12_6 {X : Mx} {w : Wt} {l0 : Launch} {cc : ByteArray} {n0 : Nat} {rm : Room} {ret : Option FieldType} {Q : State → Prop} {pc : Nat} {lv : List (Nat × Value)} {st : List Value} {S : St} (C : Cx X w l0 cc n0 RX2 rm ret) (hd : decode cc pc = .ok (.getfield 12, 3)) (h : J X w Q (pc + 3) lv (rr w 7 :: st) S) : J X w Q pc lv (rr w 6 :: st) S := j_get C 6 0 rfl (ci := 2) rfl (by decide) in_X2 k_157 rfl hd h
theorem pf_RX0_21_7 {X : Mx} {w : Wt} {l0 : Launch} {cc : ByteArray} {n0 : Nat} {rm : Room} {ret : Option FieldType} {Q : State → Prop} {pc : Nat} {lv : List (Nat × Value)} {st : List Value} {S : St} {v : Int32} (C : Cx X w l0 cc n0 RX0 rm ret) (hd : decode cc pc = .ok (.putfield 21, 3)) (h : ∀ S1 : St, S1 = si S 7 0 v → J X w Q (pc + 3) lv st S1) : J X w Q pc lv (.int v :: rr w 7 :: st) S := j_put C 7 0 rfl (ci := 0) rfl (by decide) in_X0 tyX0 tyX0_ok nmX0 k_112 rfl (ty := .int) (by decide +kernel) rfl rfl (Nat.le_of_ble_eq_true rfl) rfl hd (h _ rfl)
theorem pf_RX0_25_7 {X : Mx} {w : Wt} {l0 : Launch} {cc : ByteArray} {n0 : Nat} {rm : Room} {ret : Option FieldType} {Q : State → Prop} {pc : Nat} {lv : List (Nat × Value)} {st : List Value} {S : St} {v : Int32} (C : Cx X w l0 cc n0 RX0 rm ret) (hd : decode cc pc = .ok (.putfield 25, 3)) (h : ∀ S1 : St, S1 = si S 7 1 v → J X w Q (pc + 3) lv st S1) : J X w Q pc lv (.int v :: rr w 7 :: st) S := j_put C 7 1 rfl (ci := 0) rfl (by decide) in_X0 tyX0 tyX0_ok nmX0 k_118 rfl (ty := .int) (by decide +kernel) rfl rfl (Nat.le_of_ble_eq_true rfl) rfl hd (h _ rfl)
theorem gf_RX0_9_7 {X : Mx} {w : Wt} {l0 : Launch} {cc : ByteArray} {n0 : Nat} {rm : Room} {ret : Option FieldType} {Q : State → Prop} {pc : Nat} {lv : List (Nat × Value)} {st : List Value} {S : St} (C : Cx X w l0 cc n0 RX0 rm ret) (hd : decode cc pc = .ok (.getfield 9, 3)) (h : J X w Q (pc + 3) lv (rr w 8 :: st) S) : J X w Q pc lv (rr w 7 :: st) S := j_get C 7 2 rfl (ci := 0) rfl (by decide) in_X0 k_123 rfl hd h
theorem as_8 {X : Mx} {w : Wt} {l0 : Launch} {cc : ByteArray} {n0 : Nat} {rm : Room} {ret : Option FieldType} {Q : State → Prop} {pc : Nat} {lv : List (Nat × Value)} {st : List Value} {S : St} {own : String} {i x : Int32} (C : Cx X w l0 cc n0 own rm ret) (hd : decode cc pc = .ok (.iastore, 1)) (hin : vp_in i 5) (h : ∀ S1 : St, S1 = si S 8 i.toNatClampNeg x → J X w Q (pc + 1) lv st S1) : J X w Q pc lv (.int x :: .int i :: rr w 8 :: st) S := j_iast C 8 rfl (fun _ => rfl) hin hd (h _ rfl)
theorem cv_RX0_28 : CS RX0 28 yJ7_fill_53178 cJ7_fill_53178 4 none 2 := ⟨k_320, k_318, k_319, k_94, by decide +kernel⟩
theorem gf_RX0_15_7 {X : Mx} {w : Wt} {l0 : Launch} {cc : ByteArray} {n0 : Nat} {rm : Room} {ret : Option FieldType} {Q : State → Prop} {pc : Nat} {lv : List (Nat × Value)} {st : List Value} {S : St} (C : Cx X w l0 cc n0 RX0 rm ret) (hd : decode cc pc = .ok (.getfield 15, 3)) (h : J X w Q (pc + 3) lv (rr w 9 :: st) S) : J X w Q pc lv (rr w 7 :: st) S := j_get C 7 3 rfl (ci := 0) rfl (by decide) in_X0 k_128 rfl hd h
theorem as_9 {X : Mx} {w : Wt} {l0 : Launch} {cc : ByteArray} {n0 : Nat} {rm : Room} {ret : Option FieldType} {Q : State → Prop} {pc : Nat} {lv : List (Nat × Value)} {st : List Value} {S : St} {own : String} {i x : Int32} (C : Cx X w l0 cc n0 own rm ret) (hd : decode cc pc = .ok (.iastore, 1)) (hin : vp_in i 9) (h : ∀ S1 : St, S1 = si S 9 i.toNatClampNeg x → J X w Q (pc + 1) lv st S1) : J X w Q pc lv (.int x :: .int i :: rr w 9 :: st) S := j_iast C 9 rfl (fun _ => rfl) hin hd (h _ rfl)
theorem gf_RX0_18_7 {X : Mx} {w : Wt} {l0 : Launch} {cc : ByteArray} {n0 : Nat} {rm : Room} {ret : Option FieldType} {Q : State → Prop} {pc : Nat} {lv : List (Nat × Value)} {st : List Value} {S : St} (C : Cx X w l0 cc n0 RX0 rm ret) (hd : decode cc pc = .ok (.getfield 18, 3)) (h : J X w Q (pc + 3) lv (rr w 10 :: st) S) : J X w Q pc lv (rr w 7 :: st) S := j_get C 7 4 rfl (ci := 0) rfl (by decide) in_X0 k_132 rfl hd h
theorem as_10 {X : Mx} {w : Wt} {l0 : Launch} {cc : ByteArray} {n0 : Nat} {rm : Room} {ret : Option FieldType} {Q : State → Prop} {pc : Nat} {lv : List (Nat × Value)} {st : List Value} {S : St} {own : String} {i x : Int32} (C : Cx X w l0 cc n0 own rm ret) (hd : decode cc pc = .ok (.iastore, 1)) (hin : vp_in i 9) (h : ∀ S1 : St, S1 = si S 10 i.toNatClampNeg x → J X w Q (pc + 1) lv st S1) : J X w Q pc lv (.int x :: .int i :: rr w 10 :: st) S := j_iast C 10 rfl (fun _ => rfl) hin hd (h _ rfl)
theorem cv_RX2_18 : CV RX2 18 yX0_clear cX0_clear 1 none 0 := ⟨k_317, k_314, k_315, k_316, k_87, by decide +kernel⟩
theorem rc_7 (w : Wt) : RC w 7 RX0 := fun S => ⟨0, _, _, rfl, rfl, rfl⟩
theorem pf_RX2_21_6 {X : Mx} {w : Wt} {l0 : Launch} {cc : ByteArray} {n0 : Nat} {rm : Room} {ret : Option FieldType} {Q : State → Prop} {pc : Nat} {lv : List (Nat × Value)} {st : List Value} {S : St} {v : Int32} (C : Cx X w l0 cc n0 RX2 rm ret) (hd : decode cc pc = .ok (.putfield 21, 3)) (h : ∀ S1 : St, S1 = si S 6 1 v → J X w Q (pc + 3) lv st S1) : J X w Q pc lv (.int v :: rr w 6 :: st) S := j_put C 6 1 rfl (ci := 2) rfl (by decide) in_X2 tyX2 tyX2_ok nmX2 k_159 rfl (ty := .int) (by decide +kernel) rfl rfl (Nat.le_of_ble_eq_true rfl) rfl hd (h _ rfl)
theorem pf_RX2_25_6 {X : Mx} {w : Wt} {l0 : Launch} {cc : ByteArray} {n0 : Nat} {rm : Room} {ret : Option FieldType} {Q : State → Prop} {pc : Nat} {lv : List (Nat × Value)} {st : List Value} {S : St} {v : Int32} (C : Cx X w l0 cc n0 RX2 rm ret) (hd : decode cc pc = .ok (.putfield 25, 3)) (h : ∀ S1 : St, S1 = si S 6 2 v → J X w Q (pc + 3) lv st S1) : J X w Q pc lv (.int v :: rr w 6 :: st) S := j_put C 6 2 rfl (ci := 2) rfl (by decide) in_X2 tyX2 tyX2_ok nmX2 k_160 rfl (ty := .int) (by decide +kernel) rfl rfl (Nat.le_of_ble_eq_true rfl) rfl hd (h _ rfl)
theorem pf_RX2_28_6 {X : Mx} {w : Wt} {l0 : Launch} {cc : ByteArray} {n0 : Nat} {rm : Room} {ret : Option FieldType} {Q : State → Prop} {pc : Nat} {lv : List (Nat × Value)} {st : List Value} {S : St} {v : Int32} (C : Cx X w l0 cc n0 RX2 rm ret) (hd : decode cc pc = .ok (.putfield 28, 3)) (h : ∀ S1 : St, S1 = si S 6 3 v → J X w Q (pc + 3) lv st S1) : J X w Q pc lv (.int v :: rr w 6 :: st) S := j_put C 6 3 rfl (ci := 2) rfl (by decide) in_X2 tyX2 tyX2_ok nmX2 k_161 rfl (ty := .int) (by decide +kernel) rfl rfl (Nat.le_of_ble_eq_true rfl) rfl hd (h _ rfl)
theorem cv_RX6_57 : CV RX6 57 yX2_begin cX2_begin 1 none 0 := ⟨k_313, k_310, k_311, k_312, k_88, by decide +kernel⟩
theorem rc_6 (w : Wt) : RC w 6 RX2 := fun S => ⟨2, _, _, rfl, rfl, rfl⟩
theorem al_1 {X : Mx} {w : Wt} {l0 : Launch} {cc : ByteArray} {n0 : Nat} {rm : Room} {ret : Option FieldType} {Q : State → Prop} {pc : Nat} {lv : List (Nat × Value)} {st : List Value} {S : St} {own : String} {i : Int32} (C : Cx X w l0 cc n0 own rm ret) (hd : decode cc pc = .ok (.iaload, 1)) (hin : vp_in i 110) (h : J X w Q (pc + 1) lv (.int (S.1 1 i.toNatClampNeg) :: st) S) : J X w Q pc lv (.int i :: rr w 1 :: st) S := j_iald C 1 rfl hin hd h
theorem gf_RX2_21_6 {X : Mx} {w : Wt} {l0 : Launch} {cc : ByteArray} {n0 : Nat} {rm : Room} {ret : Option FieldType} {Q : State → Prop} {pc : Nat} {lv : List (Nat × Value)} {st : List Value} {S : St} (C : Cx X w l0 cc n0 RX2 rm ret) (hd : decode cc pc = .ok (.getfield 21, 3)) (h : J X w Q (pc + 3) lv (.int (S.1 6 1) :: st) S) : J X w Q pc lv (rr w 6 :: st) S := j_get C 6 1 rfl (ci := 2) rfl (by decide) in_X2 k_159 rfl hd h
theorem pf_RX2_31_7 {X : Mx} {w : Wt} {l0 : Launch} {cc : ByteArray} {n0 : Nat} {rm : Room} {ret : Option FieldType} {Q : State → Prop} {pc : Nat} {lv : List (Nat × Value)} {st : List Value} {S : St} {v : Int32} (C : Cx X w l0 cc n0 RX2 rm ret) (hd : decode cc pc = .ok (.putfield 31, 3)) (h : ∀ S1 : St, S1 = si S 7 0 v → J X w Q (pc + 3) lv st S1) : J X w Q pc lv (.int v :: rr w 7 :: st) S := j_put C 7 0 rfl (ci := 0) rfl (by decide) in_X0 tyX0 tyX0_ok nmX0 k_116 rfl (ty := .int) (by decide +kernel) rfl rfl (Nat.le_of_ble_eq_true rfl) rfl hd (h _ rfl)
theorem cv_RX2_38 : CV RX2 38 yX2_moveTo cX2_moveTo 2 (some .boolean) 1 := ⟨k_332, k_329, k_331, k_1, k_88, by decide +kernel⟩
theorem cv_RX2_34 : CV RX2 34 yX2_takeCount cX2_takeCount 2 (some .boolean) 1 := ⟨k_328, k_325, k_327, k_0, k_88, by decide +kernel⟩
theorem gf_RX2_56_7 {X : Mx} {w : Wt} {l0 : Launch} {cc : ByteArray} {n0 : Nat} {rm : Room} {ret : Option FieldType} {Q : State → Prop} {pc : Nat} {lv : List (Nat × Value)} {st : List Value} {S : St} (C : Cx X w l0 cc n0 RX2 rm ret) (hd : decode cc pc = .ok (.getfield 56, 3)) (h : J X w Q (pc + 3) lv (.int (S.1 7 1) :: st) S) : J X w Q pc lv (rr w 7 :: st) S := j_get C 7 1 rfl (ci := 0) rfl (by decide) in_X0 k_121 rfl hd h
theorem cv_RX2_41 : CV RX2 41 yX2_takeBoundsEnd cX2_takeBoundsEnd 2 (some .boolean) 1 := ⟨k_336, k_333, k_335, k_2, k_88, by decide +kernel⟩
theorem gf_RX2_59_7 {X : Mx} {w : Wt} {l0 : Launch} {cc : ByteArray} {n0 : Nat} {rm : Room} {ret : Option FieldType} {Q : State → Prop} {pc : Nat} {lv : List (Nat × Value)} {st : List Value} {S : St} (C : Cx X w l0 cc n0 RX2 rm ret) (hd : decode cc pc = .ok (.getfield 59, 3)) (h : J X w Q (pc + 3) lv (rr w 8 :: st) S) : J X w Q pc lv (rr w 7 :: st) S := j_get C 7 2 rfl (ci := 0) rfl (by decide) in_X0 k_126 rfl hd h
theorem pf_RX2_56_7 {X : Mx} {w : Wt} {l0 : Launch} {cc : ByteArray} {n0 : Nat} {rm : Room} {ret : Option FieldType} {Q : State → Prop} {pc : Nat} {lv : List (Nat × Value)} {st : List Value} {S : St} {v : Int32} (C : Cx X w l0 cc n0 RX2 rm ret) (hd : decode cc pc = .ok (.putfield 56, 3)) (h : ∀ S1 : St, S1 = si S 7 1 v → J X w Q (pc + 3) lv st S1) : J X w Q pc lv (.int v :: rr w 7 :: st) S := j_put C 7 1 rfl (ci := 0) rfl (by decide) in_X0 tyX0 tyX0_ok nmX0 k_121 rfl (ty := .int) (by decide +kernel) rfl rfl (Nat.le_of_ble_eq_true rfl) rfl hd (h _ rfl)
theorem cv_RX2_44 : CV RX2 44 yX2_takeBound cX2_takeBound 2 (some .boolean) 1 := ⟨k_340, k_337, k_339, k_3, k_88, by decide +kernel⟩
theorem gf_RX2_72_7 {X : Mx} {w : Wt} {l0 : Launch} {cc : ByteArray} {n0 : Nat} {rm : Room} {ret : Option FieldType} {Q : State → Prop} {pc : Nat} {lv : List (Nat × Value)} {st : List Value} {S : St} (C : Cx X w l0 cc n0 RX2 rm ret) (hd : decode cc pc = .ok (.getfield 72, 3)) (h : J X w Q (pc + 3) lv (rr w 9 :: st) S) : J X w Q pc lv (rr w 7 :: st) S := j_get C 7 3 rfl (ci := 0) rfl (by decide) in_X0 k_131 rfl hd h
theorem gf_RX2_25_6 {X : Mx} {w : Wt} {l0 : Launch} {cc : ByteArray} {n0 : Nat} {rm : Room} {ret : Option FieldType} {Q : State → Prop} {pc : Nat} {lv : List (Nat × Value)} {st : List Value} {S : St} (C : Cx X w l0 cc n0 RX2 rm ret) (hd : decode cc pc = .ok (.getfield 25, 3)) (h : J X w Q (pc + 3) lv (.int (S.1 6 2) :: st) S) : J X w Q pc lv (rr w 6 :: st) S := j_get C 6 2 rfl (ci := 2) rfl (by decide) in_X2 k_160 rfl hd h
theorem gf_RX0_21_7 {X : Mx} {w : Wt} {l0 : Launch} {cc : ByteArray} {n0 : Nat} {rm : Room} {ret : Option FieldType} {Q : State → Prop} {pc : Nat} {lv : List (Nat × Value)} {st : List Value} {S : St} (C : Cx X w l0 cc n0 RX0 rm ret) (hd : decode cc pc = .ok (.getfield 21, 3)) (h : J X w Q (pc + 3) lv (.int (S.1 7 0) :: st) S) : J X w Q pc lv (rr w 7 :: st) S := j_get C 7 0 rfl (ci := 0) rfl (by decide) in_X0 k_112 rfl hd h
theorem al_9 {X : Mx} {w : Wt} {l0 : Launch} {cc : ByteArray} {n0 : Nat} {rm : Room} {ret : Option FieldType} {Q : State → Prop} {pc : Nat} {lv : List (Nat × Value)} {st : List Value} {S : St} {own : String} {i : Int32} (C : Cx X w l0 cc n0 own rm ret) (hd : decode cc pc = .ok (.iaload, 1)) (hin : vp_in i 9) (h : J X w Q (pc + 1) lv (.int (S.1 9 i.toNatClampNeg) :: st) S) : J X w Q pc lv (.int i :: rr w 9 :: st) S := j_iald C 9 rfl hin hd h
theorem cv_RX2_63 : CV RX2 63 yX0_ofKind cX0_ofKind 4 (some .int) 1 := ⟨k_348, k_345, k_346, k_347, k_87, by decide +kernel⟩
theorem cv_RX2_67 : CS RX2 67 yJ6_bitCount_0f7a4 cJ6_bitCount_0f7a4 1 (some .int) 1 := ⟨k_351, k_349, k_350, k_95, by decide +kernel⟩
theorem cv_RX2_47 : CV RX2 47 yX2_takeKind cX2_takeKind 3 (some .boolean) 1 := ⟨k_344, k_341, k_343, k_4, k_88, by decide +kernel⟩
theorem gf_RX2_31_7 {X : Mx} {w : Wt} {l0 : Launch} {cc : ByteArray} {n0 : Nat} {rm : Room} {ret : Option FieldType} {Q : State → Prop} {pc : Nat} {lv : List (Nat × Value)} {st : List Value} {S : St} (C : Cx X w l0 cc n0 RX2 rm ret) (hd : decode cc pc = .ok (.getfield 31, 3)) (h : J X w Q (pc + 3) lv (.int (S.1 7 0) :: st) S) : J X w Q pc lv (rr w 7 :: st) S := j_get C 7 0 rfl (ci := 0) rfl (by decide) in_X0 k_116 rfl hd h
theorem gf_RX2_28_6 {X : Mx} {w : Wt} {l0 : Launch} {cc : ByteArray} {n0 : Nat} {rm : Room} {ret : Option FieldType} {Q : State → Prop} {pc : Nat} {lv : List (Nat × Value)} {st : List Value} {S : St} (C : Cx X w l0 cc n0 RX2 rm ret) (hd : decode cc pc = .ok (.getfield 28, 3)) (h : J X w Q (pc + 3) lv (.int (S.1 6 3) :: st) S) : J X w Q pc lv (rr w 6 :: st) S := j_get C 6 3 rfl (ci := 2) rfl (by decide) in_X2 k_161 rfl hd h
theorem gf_RX2_79_7 {X : Mx} {w : Wt} {l0 : Launch} {cc : ByteArray} {n0 : Nat} {rm : Room} {ret : Option FieldType} {Q : State → Prop} {pc : Nat} {lv : List (Nat × Value)} {st : List Value} {S : St} (C : Cx X w l0 cc n0 RX2 rm ret) (hd : decode cc pc = .ok (.getfield 79, 3)) (h : J X w Q (pc + 3) lv (rr w 10 :: st) S) : J X w Q pc lv (rr w 7 :: st) S := j_get C 7 4 rfl (ci := 0) rfl (by decide) in_X0 k_136 rfl hd h
theorem al_10 {X : Mx} {w : Wt} {l0 : Launch} {cc : ByteArray} {n0 : Nat} {rm : Room} {ret : Option FieldType} {Q : State → Prop} {pc : Nat} {lv : List (Nat × Value)} {st : List Value} {S : St} {own : String} {i : Int32} (C : Cx X w l0 cc n0 own rm ret) (hd : decode cc pc = .ok (.iaload, 1)) (hin : vp_in i 9) (h : J X w Q (pc + 1) lv (.int (S.1 10 i.toNatClampNeg) :: st) S) : J X w Q pc lv (.int i :: rr w 10 :: st) S := j_iald C 10 rfl hin hd h
theorem cv_RX2_75 : CV RX2 75 yX2_canVouchOn cX2_canVouchOn 2 (some .boolean) 0 := ⟨k_362, k_359, k_361, k_6, k_88, by decide +kernel⟩
theorem cv_RX2_50 : CV RX2 50 yX2_takeInPerson cX2_takeInPerson 2 (some .boolean) 1 := ⟨k_358, k_355, k_357, k_5, k_88, by decide +kernel⟩
theorem cv_RX2_53 : CV RX2 53 yX2_takeWhom cX2_takeWhom 2 (some .boolean) 1 := ⟨k_366, k_363, k_365, k_7, k_88, by decide +kernel⟩
theorem cv_RX6_60 : CV RX6 60 yX2_take cX2_take 2 (some .boolean) 1 := ⟨k_324, k_321, k_322, k_323, k_88, by decide +kernel⟩
theorem pf_RX7_75_25 {X : Mx} {w : Wt} {l0 : Launch} {cc : ByteArray} {n0 : Nat} {rm : Room} {ret : Option FieldType} {Q : State → Prop} {pc : Nat} {lv : List (Nat × Value)} {st : List Value} {S : St} {v : Int32} (C : Cx X w l0 cc n0 RX7 rm ret) (hd : decode cc pc = .ok (.putfield 75, 3)) (h : ∀ S1 : St, S1 = si S 25 10 v → J X w Q (pc + 3) lv st S1) : J X w Q pc lv (.int v :: rr w 25 :: st) S := j_put C 25 10 rfl (ci := 7) rfl (by decide) in_X7 tyX7 tyX7_ok nmX7 k_727 rfl (ty := .int) (by decide +kernel) rfl rfl (Nat.le_of_ble_eq_true rfl) rfl hd (h _ rfl)
theorem pf_RX7_78_25 {X : Mx} {w : Wt} {l0 : Launch} {cc : ByteArray} {n0 : Nat} {rm : Room} {ret : Option FieldType} {Q : State → Prop} {pc : Nat} {lv : List (Nat × Value)} {st : List Value} {S : St} {v : Int32} (C : Cx X w l0 cc n0 RX7 rm ret) (hd : decode cc pc = .ok (.putfield 78, 3)) (h : ∀ S1 : St, S1 = si S 25 12 v → J X w Q (pc + 3) lv st S1) : J X w Q pc lv (.int v :: rr w 25 :: st) S := j_put C 25 12 rfl (ci := 7) rfl (by decide) in_X7 tyX7 tyX7_ok nmX7 k_729 rfl (ty := .int) (by decide +kernel) rfl rfl (Nat.le_of_ble_eq_true rfl) rfl hd (h _ rfl)
theorem pf_RX7_85_25 {X : Mx} {w : Wt} {l0 : Launch} {cc : ByteArray} {n0 : Nat} {rm : Room} {ret : Option FieldType} {Q : State → Prop} {pc : Nat} {lv : List (Nat × Value)} {st : List Value} {S : St} {v : Int32} (C : Cx X w l0 cc n0 RX7 rm ret) (hd : decode cc pc = .ok (.putfield 85, 3)) (h : ∀ S1 : St, S1 = si S 25 16 v → J X w Q (pc + 3) lv st S1) : J X w Q pc lv (.int v :: rr w 25 :: st) S := j_put C 25 16 rfl (ci := 7) rfl (by decide) in_X7 tyX7 tyX7_ok nmX7 k_733 rfl (ty := .int) (by decide +kernel) rfl rfl (Nat.le_of_ble_eq_true rfl) rfl hd (h _ rfl)
theorem al_29 {X : Mx} {w : Wt} {l0 : Launch} {cc : ByteArray} {n0 : Nat} {rm : Room} {ret : Option FieldType} {Q : State → Prop} {pc : Nat} {lv : List (Nat × Value)} {st : List Value} {S : St} {own : String} {i : Int32} (C : Cx X w l0 cc n0 own rm ret) (hd : decode cc pc = .ok (.iaload, 1)) (hin : vp_in i 110) (h : J X w Q (pc + 1) lv (.int (S.1 29 i.toNatClampNeg) :: st) S) : J X w Q pc lv (.int i :: rr w 29 :: st) S := j_iald C 29 rfl hin hd h
theorem gf_RX7_75_25 {X : Mx} {w : Wt} {l0 : Launch} {cc : ByteArray} {n0 : Nat} {rm : Room} {ret : Option FieldType} {Q : State → Prop} {pc : Nat} {lv : List (Nat × Value)} {st : List Value} {S : St} (C : Cx X w l0 cc n0 RX7 rm ret) (hd : decode cc pc = .ok (.getfield 75, 3)) (h : J X w Q (pc + 3) lv (.int (S.1 25 10) :: st) S) : J X w Q pc lv (rr w 25 :: st) S := j_get C 25 10 rfl (ci := 7) rfl (by decide) in_X7 k_727 rfl hd h
theorem pf_RX7_61_25 {X : Mx} {w : Wt} {l0 : Launch} {cc : ByteArray} {n0 : Nat} {rm : Room} {ret : Option FieldType} {Q : State → Prop} {pc : Nat} {lv : List (Nat × Value)} {st : List Value} {S : St} {v : Int32} (C : Cx X w l0 cc n0 RX7 rm ret) (hd : decode cc pc = .ok (.putfield 61, 3)) (h : ∀ S1 : St, S1 = si S 25 11 v → J X w Q (pc + 3) lv st S1) : J X w Q pc lv (.int v :: rr w 25 :: st) S := j_put C 25 11 rfl (ci := 7) rfl (by decide) in_X7 tyX7 tyX7_ok nmX7 k_728 rfl (ty := .int) (by decide +kernel) rfl rfl (Nat.le_of_ble_eq_true rfl) rfl hd (h _ rfl)
theorem gf_RX7_61_25 {X : Mx} {w : Wt} {l0 : Launch} {cc : ByteArray} {n0 : Nat} {rm : Room} {ret : Option FieldType} {Q : State → Prop} {pc : Nat} {lv : List (Nat × Value)} {st : List Value} {S : St} (C : Cx X w l0 cc n0 RX7 rm ret) (hd : decode cc pc = .ok (.getfield 61, 3)) (h : J X w Q (pc + 3) lv (.int (S.1 25 11) :: st) S) : J X w Q pc lv (rr w 25 :: st) S := j_get C 25 11 rfl (ci := 7) rfl (by decide) in_X7 k_728 rfl hd h
theorem gf_RX7_22_25 {X : Mx} {w : Wt} {l0 : Launch} {cc : ByteArray} {n0 : Nat} {rm : Room} {ret : Option FieldType} {Q : State → Prop} {pc : Nat} {lv : List (Nat × Value)} {st : List Value} {S : St} (C : Cx X w l0 cc n0 RX7 rm ret) (hd : decode cc pc = .ok (.getfield 22, 3)) (h : J X w Q (pc + 3) lv (rr w 30 :: st) S) : J X w Q pc lv (rr w 25 :: st) S := j_get C 25 13 rfl (ci := 7) rfl (by decide) in_X7 k_730 rfl hd h
theorem gf_RX7_78_25 {X : Mx} {w : Wt} {l0 : Launch} {cc : ByteArray} {n0 : Nat} {rm : Room} {ret : Option FieldType} {Q : State → Prop} {pc : Nat} {lv : List (Nat × Value)} {st : List Value} {S : St} (C : Cx X w l0 cc n0 RX7 rm ret) (hd : decode cc pc = .ok (.getfield 78, 3)) (h : J X w Q (pc + 3) lv (.int (S.1 25 12) :: st) S) : J X w Q pc lv (rr w 25 :: st) S := j_get C 25 12 rfl (ci := 7) rfl (by decide) in_X7 k_729 rfl hd h
theorem as_30 {X : Mx} {w : Wt} {l0 : Launch} {cc : ByteArray} {n0 : Nat} {rm : Room} {ret : Option FieldType} {Q : State → Prop} {pc : Nat} {lv : List (Nat × Value)} {st : List Value} {S : St} {own : String} {i x : Int32} (C : Cx X w l0 cc n0 own rm ret) (hd : decode cc pc = .ok (.iastore, 1)) (hin : vp_in i 5) (h : ∀ S1 : St, S1 = si S 30 i.toNatClampNeg x → J X w Q (pc + 1) lv st S1) : J X w Q pc lv (.int x :: .int i :: rr w 30 :: st) S := j_iast C 30 rfl (fun _ => rfl) hin hd (h _ rfl)
theorem pf_RX7_64_25 {X : Mx} {w : Wt} {l0 : Launch} {cc : ByteArray} {n0 : Nat} {rm : Room} {ret : Option FieldType} {Q : State → Prop} {pc : Nat} {lv : List (Nat × Value)} {st : List Value} {S : St} {v : Int32} (C : Cx X w l0 cc n0 RX7 rm ret) (hd : decode cc pc = .ok (.putfield 64, 3)) (h : ∀ S1 : St, S1 = si S 25 14 v → J X w Q (pc + 3) lv st S1) : J X w Q pc lv (.int v :: rr w 25 :: st) S := j_put C 25 14 rfl (ci := 7) rfl (by decide) in_X7 tyX7 tyX7_ok nmX7 k_731 rfl (ty := .int) (by decide +kernel) rfl rfl (Nat.le_of_ble_eq_true rfl) rfl hd (h _ rfl)
theorem pf_RX7_58_25 {X : Mx} {w : Wt} {l0 : Launch} {cc : ByteArray} {n0 : Nat} {rm : Room} {ret : Option FieldType} {Q : State → Prop} {pc : Nat} {lv : List (Nat × Value)} {st : List Value} {S : St} {v : Int32} (C : Cx X w l0 cc n0 RX7 rm ret) (hd : decode cc pc = .ok (.putfield 58, 3)) (h : ∀ S1 : St, S1 = si S 25 15 v → J X w Q (pc + 3) lv st S1) : J X w Q pc lv (.int v :: rr w 25 :: st) S := j_put C 25 15 rfl (ci := 7) rfl (by decide) in_X7 tyX7 tyX7_ok nmX7 k_732 rfl (ty := .int) (by decide +kernel) rfl rfl (Nat.le_of_ble_eq_true rfl) rfl hd (h _ rfl)
theorem gf_RX7_25_25 {X : Mx} {w : Wt} {l0 : Launch} {cc : ByteArray} {n0 : Nat} {rm : Room} {ret : Option FieldType} {Q : State → Prop} {pc : Nat} {lv : List (Nat × Value)} {st : List Value} {S : St} (C : Cx X w l0 cc n0 RX7 rm ret) (hd : decode cc pc = .ok (.getfield 25, 3)) (h : J X w Q (pc + 3) lv (rr w 31 :: st) S) : J X w Q pc lv (rr w 25 :: st) S := j_get C 25 17 rfl (ci := 7) rfl (by decide) in_X7 k_734 rfl hd h
theorem as_31 {X : Mx} {w : Wt} {l0 : Launch} {cc : ByteArray} {n0 : Nat} {rm : Room} {ret : Option FieldType} {Q : State → Prop} {pc : Nat} {lv : List (Nat × Value)} {st : List Value} {S : St} {own : String} {i x : Int32} (C : Cx X w l0 cc n0 own rm ret) (hd : decode cc pc = .ok (.iastore, 1)) (hin : vp_in i 9) (h : ∀ S1 : St, S1 = si S 31 i.toNatClampNeg x → J X w Q (pc + 1) lv st S1) : J X w Q pc lv (.int x :: .int i :: rr w 31 :: st) S := j_iast C 31 rfl (fun _ => rfl) hin hd (h _ rfl)
theorem gf_RX7_28_25 {X : Mx} {w : Wt} {l0 : Launch} {cc : ByteArray} {n0 : Nat} {rm : Room} {ret : Option FieldType} {Q : State → Prop} {pc : Nat} {lv : List (Nat × Value)} {st : List Value} {S : St} (C : Cx X w l0 cc n0 RX7 rm ret) (hd : decode cc pc = .ok (.getfield 28, 3)) (h : J X w Q (pc + 3) lv (rr w 32 :: st) S) : J X w Q pc lv (rr w 25 :: st) S := j_get C 25 18 rfl (ci := 7) rfl (by decide) in_X7 k_735 rfl hd h
theorem as_32 {X : Mx} {w : Wt} {l0 : Launch} {cc : ByteArray} {n0 : Nat} {rm : Room} {ret : Option FieldType} {Q : State → Prop} {pc : Nat} {lv : List (Nat × Value)} {st : List Value} {S : St} {own : String} {i x : Int32} (C : Cx X w l0 cc n0 own rm ret) (hd : decode cc pc = .ok (.iastore, 1)) (hin : vp_in i 9) (h : ∀ S1 : St, S1 = si S 32 i.toNatClampNeg x → J X w Q (pc + 1) lv st S1) : J X w Q pc lv (.int x :: .int i :: rr w 32 :: st) S := j_iast C 32 rfl (fun _ => rfl) hin hd (h _ rfl)
theorem cv_RX7_81 : CV RX7 81 yX7_beginPerson cX7_beginPerson 2 none 1 := ⟨k_838, k_835, k_837, k_33, k_93, by decide +kernel⟩
theorem rc_25 (w : Wt) : RC w 25 RX7 := fun S => ⟨7, _, _, rfl, rfl, rfl⟩
theorem cv_RX7_95 : CV RX7 95 yX7_takesBounds cX7_takesBounds 3 (some .boolean) 1 := ⟨k_834, k_831, k_833, k_32, k_93, by decide +kernel⟩
theorem gf_RX7_64_25 {X : Mx} {w : Wt} {l0 : Launch} {cc : ByteArray} {n0 : Nat} {rm : Room} {ret : Option FieldType} {Q : State → Prop} {pc : Nat} {lv : List (Nat × Value)} {st : List Value} {S : St} (C : Cx X w l0 cc n0 RX7 rm ret) (hd : decode cc pc = .ok (.getfield 64, 3)) (h : J X w Q (pc + 3) lv (.int (S.1 25 14) :: st) S) : J X w Q pc lv (rr w 25 :: st) S := j_get C 25 14 rfl (ci := 7) rfl (by decide) in_X7 k_731 rfl hd h
theorem gf_RX7_85_25 {X : Mx} {w : Wt} {l0 : Launch} {cc : ByteArray} {n0 : Nat} {rm : Room} {ret : Option FieldType} {Q : State → Prop} {pc : Nat} {lv : List (Nat × Value)} {st : List Value} {S : St} (C : Cx X w l0 cc n0 RX7 rm ret) (hd : decode cc pc = .ok (.getfield 85, 3)) (h : J X w Q (pc + 3) lv (.int (S.1 25 16) :: st) S) : J X w Q pc lv (rr w 25 :: st) S := j_get C 25 16 rfl (ci := 7) rfl (by decide) in_X7 k_733 rfl hd h
theorem cv_RX7_88 : CV RX7 88 yX7_takesKind cX7_takesKind 3 (some .boolean) 1 := ⟨k_854, k_851, k_853, k_37, k_93, by decide +kernel⟩
theorem al_32 {X : Mx} {w : Wt} {l0 : Launch} {cc : ByteArray} {n0 : Nat} {rm : Room} {ret : Option FieldType} {Q : State → Prop} {pc : Nat} {lv : List (Nat × Value)} {st : List Value} {S : St} {own : String} {i : Int32} (C : Cx X w l0 cc n0 own rm ret) (hd : decode cc pc = .ok (.iaload, 1)) (hin : vp_in i 9) (h : J X w Q (pc + 1) lv (.int (S.1 32 i.toNatClampNeg) :: st) S) : J X w Q pc lv (.int i :: rr w 32 :: st) S := j_iald C 32 rfl hin hd h
theorem cv_RX7_71 : CS RX7 71 yX7_size cX7_size 3 (some .int) 1 := ⟨k_861, k_859, k_860, k_93, by decide +kernel⟩
theorem gf_RX7_58_25 {X : Mx} {w : Wt} {l0 : Launch} {cc : ByteArray} {n0 : Nat} {rm : Room} {ret : Option FieldType} {Q : State → Prop} {pc : Nat} {lv : List (Nat × Value)} {st : List Value} {S : St} (C : Cx X w l0 cc n0 RX7 rm ret) (hd : decode cc pc = .ok (.getfield 58, 3)) (h : J X w Q (pc + 3) lv (.int (S.1 25 15) :: st) S) : J X w Q pc lv (rr w 25 :: st) S := j_get C 25 15 rfl (ci := 7) rfl (by decide) in_X7 k_732 rfl hd h
theorem cv_RX7_67 : CV RX7 67 yX7_canVouch cX7_canVouch 2 (some .boolean) 1 := ⟨k_846, k_843, k_845, k_35, k_93, by decide +kernel⟩
theorem cv_RX7_91 : CV RX7 91 yX7_canBegin cX7_canBegin 3 (some .boolean) 0 := ⟨k_858, k_855, k_857, k_38, k_93, by decide +kernel⟩
theorem cv_RX7_101 : CV RX7 101 yX7_takesOfPerson cX7_takesOfPerson 2 (some .boolean) 1 := ⟨k_850, k_847, k_849, k_36, k_93, by decide +kernel⟩
theorem cv_RX7_98 : CV RX7 98 yX7_takesWhom cX7_takesWhom 3 (some .boolean) 1 := ⟨k_842, k_839, k_841, k_34, k_93, by decide +kernel⟩
theorem cv_RX7_104 : CV RX7 104 yX7_takes cX7_takes 2 (some .boolean) 1 := ⟨k_830, k_827, k_829, k_31, k_93, by decide +kernel⟩
theorem cv_RX7_107 : CV RX7 107 yX7_read cX7_read 2 (some .int) 0 := ⟨k_826, k_823, k_825, k_30, k_93, by decide +kernel⟩
theorem cv_RX6_64 : CV RX6 64 yX6_fault cX6_fault 2 (some .int) 0 := ⟨k_309, k_371, k_307, k_308, k_86, by decide +kernel⟩
theorem rc_0 (w : Wt) : RC w 0 RX6 := fun S => ⟨6, _, _, rfl, rfl, rfl⟩
theorem cv_RX6_68 : CV RX6 68 yX2_isComplete cX2_isComplete 1 (some .boolean) 0 := ⟨k_375, k_372, k_373, k_374, k_88, by decide +kernel⟩
theorem gf_RX6_16_0 {X : Mx} {w : Wt} {l0 : Launch} {cc : ByteArray} {n0 : Nat} {rm : Room} {ret : Option FieldType} {Q : State → Prop} {pc : Nat} {lv : List (Nat × Value)} {st : List Value} {S : St} (C : Cx X w l0 cc n0 RX6 rm ret) (hd : decode cc pc = .ok (.getfield 16, 3)) (h : J X w Q (pc + 3) lv (rr w 2 :: st) S) : J X w Q pc lv (rr w 0 :: st) S := j_get C 0 2 rfl (ci := 6) rfl (by decide) in_X6 k_266 rfl hd h
theorem gf_RX6_72_6 {X : Mx} {w : Wt} {l0 : Launch} {cc : ByteArray} {n0 : Nat} {rm : Room} {ret : Option FieldType} {Q : State → Prop} {pc : Nat} {lv : List (Nat × Value)} {st : List Value} {S : St} (C : Cx X w l0 cc n0 RX6 rm ret) (hd : decode cc pc = .ok (.getfield 72, 3)) (h : J X w Q (pc + 3) lv (rr w 7 :: st) S) : J X w Q pc lv (rr w 6 :: st) S := j_get C 6 0 rfl (ci := 2) rfl (by decide) in_X2 k_158 rfl hd h
theorem pf_RX0_21_2 {X : Mx} {w : Wt} {l0 : Launch} {cc : ByteArray} {n0 : Nat} {rm : Room} {ret : Option FieldType} {Q : State → Prop} {pc : Nat} {lv : List (Nat × Value)} {st : List Value} {S : St} {v : Int32} (C : Cx X w l0 cc n0 RX0 rm ret) (hd : decode cc pc = .ok (.putfield 21, 3)) (h : ∀ S1 : St, S1 = si S 2 0 v → J X w Q (pc + 3) lv st S1) : J X w Q pc lv (.int v :: rr w 2 :: st) S := j_put C 2 0 rfl (ci := 0) rfl (by decide) in_X0 tyX0 tyX0_ok nmX0 k_112 rfl (ty := .int) (by decide +kernel) rfl rfl (Nat.le_of_ble_eq_true rfl) rfl hd (h _ rfl)
theorem gf_RX0_25_7 {X : Mx} {w : Wt} {l0 : Launch} {cc : ByteArray} {n0 : Nat} {rm : Room} {ret : Option FieldType} {Q : State → Prop} {pc : Nat} {lv : List (Nat × Value)} {st : List Value} {S : St} (C : Cx X w l0 cc n0 RX0 rm ret) (hd : decode cc pc = .ok (.getfield 25, 3)) (h : J X w Q (pc + 3) lv (.int (S.1 7 1) :: st) S) : J X w Q pc lv (rr w 7 :: st) S := j_get C 7 1 rfl (ci := 0) rfl (by decide) in_X0 k_118 rfl hd h
theorem pf_RX0_25_2 {X : Mx} {w : Wt} {l0 : Launch} {cc : ByteArray} {n0 : Nat} {rm : Room} {ret : Option FieldType} {Q : State → Prop} {pc : Nat} {lv : List (Nat × Value)} {st : List Value} {S : St} {v : Int32} (C : Cx X w l0 cc n0 RX0 rm ret) (hd : decode cc pc = .ok (.putfield 25, 3)) (h : ∀ S1 : St, S1 = si S 2 1 v → J X w Q (pc + 3) lv st S1) : J X w Q pc lv (.int v :: rr w 2 :: st) S := j_put C 2 1 rfl (ci := 0) rfl (by decide) in_X0 tyX0 tyX0_ok nmX0 k_118 rfl (ty := .int) (by decide +kernel) rfl rfl (Nat.le_of_ble_eq_true rfl) rfl hd (h _ rfl)
theorem gf_RX0_9_2 {X : Mx} {w : Wt} {l0 : Launch} {cc : ByteArray} {n0 : Nat} {rm : Room} {ret : Option FieldType} {Q : State → Prop} {pc : Nat} {lv : List (Nat × Value)} {st : List Value} {S : St} (C : Cx X w l0 cc n0 RX0 rm ret) (hd : decode cc pc = .ok (.getfield 9, 3)) (h : J X w Q (pc + 3) lv (rr w 3 :: st) S) : J X w Q pc lv (rr w 2 :: st) S := j_get C 2 2 rfl (ci := 0) rfl (by decide) in_X0 k_123 rfl hd h
theorem cp_RX0_34_8_3_5 {X : Mx} {w : Wt} {l0 : Launch} {cc : ByteArray} {n0 : Nat} {rm : Room} {ret : Option FieldType} {Q : State → Prop} {pc : Nat} {lv : List (Nat × Value)} {st : List Value} {S : St} (C : Cx X w l0 cc n0 RX0 rm ret) (hd : decode cc pc = .ok (.invokestatic 34, 3)) (hfr : 1 ≤ rm.frames) (hlo : (st.map fun v => v.category).sum + 18 ≤ rm.locals) (h : ∀ S1 : St, S1 = cI S 3 (va_cpy (S.1 8) (S.1 3) 0 0 5) → J X w Q (pc + 3) lv st S1) : J X w Q pc lv (.int 5 :: .int 0 :: rr w 3 :: .int 0 :: rr w 8 :: st) S := j_copyI C 8 3 rfl rfl (fun _ => rfl) (by decide) (by decide) (by decide) k_380 k_382 k_381 k_96 hfr hlo hd (h _ rfl)
theorem gf_RX0_15_2 {X : Mx} {w : Wt} {l0 : Launch} {cc : ByteArray} {n0 : Nat} {rm : Room} {ret : Option FieldType} {Q : State → Prop} {pc : Nat} {lv : List (Nat × Value)} {st : List Value} {S : St} (C : Cx X w l0 cc n0 RX0 rm ret) (hd : decode cc pc = .ok (.getfield 15, 3)) (h : J X w Q (pc + 3) lv (rr w 4 :: st) S) : J X w Q pc lv (rr w 2 :: st) S := j_get C 2 3 rfl (ci := 0) rfl (by decide) in_X0 k_128 rfl hd h
theorem cp_RX0_34_9_4_9 {X : Mx} {w : Wt} {l0 : Launch} {cc : ByteArray} {n0 : Nat} {rm : Room} {ret : Option FieldType} {Q : State → Prop} {pc : Nat} {lv : List (Nat × Value)} {st : List Value} {S : St} (C : Cx X w l0 cc n0 RX0 rm ret) (hd : decode cc pc = .ok (.invokestatic 34, 3)) (hfr : 1 ≤ rm.frames) (hlo : (st.map fun v => v.category).sum + 18 ≤ rm.locals) (h : ∀ S1 : St, S1 = cI S 4 (va_cpy (S.1 9) (S.1 4) 0 0 9) → J X w Q (pc + 3) lv st S1) : J X w Q pc lv (.int 9 :: .int 0 :: rr w 4 :: .int 0 :: rr w 9 :: st) S := j_copyI C 9 4 rfl rfl (fun _ => rfl) (by decide) (by decide) (by decide) k_380 k_382 k_381 k_96 hfr hlo hd (h _ rfl)
theorem gf_RX0_18_2 {X : Mx} {w : Wt} {l0 : Launch} {cc : ByteArray} {n0 : Nat} {rm : Room} {ret : Option FieldType} {Q : State → Prop} {pc : Nat} {lv : List (Nat × Value)} {st : List Value} {S : St} (C : Cx X w l0 cc n0 RX0 rm ret) (hd : decode cc pc = .ok (.getfield 18, 3)) (h : J X w Q (pc + 3) lv (rr w 5 :: st) S) : J X w Q pc lv (rr w 2 :: st) S := j_get C 2 4 rfl (ci := 0) rfl (by decide) in_X0 k_132 rfl hd h
theorem cp_RX0_34_10_5_9 {X : Mx} {w : Wt} {l0 : Launch} {cc : ByteArray} {n0 : Nat} {rm : Room} {ret : Option FieldType} {Q : State → Prop} {pc : Nat} {lv : List (Nat × Value)} {st : List Value} {S : St} (C : Cx X w l0 cc n0 RX0 rm ret) (hd : decode cc pc = .ok (.invokestatic 34, 3)) (hfr : 1 ≤ rm.frames) (hlo : (st.map fun v => v.category).sum + 18 ≤ rm.locals) (h : ∀ S1 : St, S1 = cI S 5 (va_cpy (S.1 10) (S.1 5) 0 0 9) → J X w Q (pc + 3) lv st S1) : J X w Q pc lv (.int 9 :: .int 0 :: rr w 5 :: .int 0 :: rr w 10 :: st) S := j_copyI C 10 5 rfl rfl (fun _ => rfl) (by decide) (by decide) (by decide) k_380 k_382 k_381 k_96 hfr hlo hd (h _ rfl)
theorem cv_RX6_75 : CV RX6 75 yX0_become cX0_become 2 none 1 := ⟨k_379, k_376, k_377, k_378, k_87, by decide +kernel⟩
theorem rc_2 (w : Wt) : RC w 2 RX0 := fun S => ⟨0, _, _, rfl, rfl, rfl⟩
theorem gf_RX6_79_0 {X : Mx} {w : Wt} {l0 : Launch} {cc : ByteArray} {n0 : Nat} {rm : Room} {ret : Option FieldType} {Q : State → Prop} {pc : Nat} {lv : List (Nat × Value)} {st : List Value} {S : St} (C : Cx X w l0 cc n0 RX6 rm ret) (hd : decode cc pc = .ok (.getfield 79, 3)) (h : J X w Q (pc + 3) lv (.int (S.1 0 8) :: st) S) : J X w Q pc lv (rr w 0 :: st) S := j_get C 0 8 rfl (ci := 6) rfl (by decide) in_X6 k_272 rfl hd h
theorem pf_RX6_79_0 {X : Mx} {w : Wt} {l0 : Launch} {cc : ByteArray} {n0 : Nat} {rm : Room} {ret : Option FieldType} {Q : State → Prop} {pc : Nat} {lv : List (Nat × Value)} {st : List Value} {S : St} {v : Int32} (C : Cx X w l0 cc n0 RX6 rm ret) (hd : decode cc pc = .ok (.putfield 79, 3)) (h : ∀ S1 : St, S1 = si S 0 8 v → J X w Q (pc + 3) lv st S1) : J X w Q pc lv (.int v :: rr w 0 :: st) S := j_put C 0 8 rfl (ci := 6) rfl (by decide) in_X6 tyX6 tyX6_ok nmX6 k_272 rfl (ty := .int) (by decide +kernel) rfl rfl (Nat.le_of_ble_eq_true rfl) rfl hd (h _ rfl)
theorem gf_RX6_82_2 {X : Mx} {w : Wt} {l0 : Launch} {cc : ByteArray} {n0 : Nat} {rm : Room} {ret : Option FieldType} {Q : State → Prop} {pc : Nat} {lv : List (Nat × Value)} {st : List Value} {S : St} (C : Cx X w l0 cc n0 RX6 rm ret) (hd : decode cc pc = .ok (.getfield 82, 3)) (h : J X w Q (pc + 3) lv (.int (S.1 2 0) :: st) S) : J X w Q pc lv (rr w 2 :: st) S := j_get C 2 0 rfl (ci := 0) rfl (by decide) in_X0 k_117 rfl hd h
theorem pf_RX7_111_25 {X : Mx} {w : Wt} {l0 : Launch} {cc : ByteArray} {n0 : Nat} {rm : Room} {ret : Option FieldType} {Q : State → Prop} {pc : Nat} {lv : List (Nat × Value)} {st : List Value} {S : St} {v : Int32} (C : Cx X w l0 cc n0 RX7 rm ret) (hd : decode cc pc = .ok (.putfield 111, 3)) (h : ∀ S1 : St, S1 = si S 25 0 v → J X w Q (pc + 3) lv st S1) : J X w Q pc lv (.int v :: rr w 25 :: st) S := j_put C 25 0 rfl (ci := 7) rfl (by decide) in_X7 tyX7 tyX7_ok nmX7 k_717 rfl (ty := .int) (by decide +kernel) rfl rfl (Nat.le_of_ble_eq_true rfl) rfl hd (h _ rfl)
theorem pf_RX7_114_25 {X : Mx} {w : Wt} {l0 : Launch} {cc : ByteArray} {n0 : Nat} {rm : Room} {ret : Option FieldType} {Q : State → Prop} {pc : Nat} {lv : List (Nat × Value)} {st : List Value} {S : St} {v : Int32} (C : Cx X w l0 cc n0 RX7 rm ret) (hd : decode cc pc = .ok (.putfield 114, 3)) (h : ∀ S1 : St, S1 = si S 25 3 v → J X w Q (pc + 3) lv st S1) : J X w Q pc lv (.int v :: rr w 25 :: st) S := j_put C 25 3 rfl (ci := 7) rfl (by decide) in_X7 tyX7 tyX7_ok nmX7 k_720 rfl (ty := .int) (by decide +kernel) rfl rfl (Nat.le_of_ble_eq_true rfl) rfl hd (h _ rfl)
theorem gf_RX7_111_25 {X : Mx} {w : Wt} {l0 : Launch} {cc : ByteArray} {n0 : Nat} {rm : Room} {ret : Option FieldType} {Q : State → Prop} {pc : Nat} {lv : List (Nat × Value)} {st : List Value} {S : St} (C : Cx X w l0 cc n0 RX7 rm ret) (hd : decode cc pc = .ok (.getfield 111, 3)) (h : J X w Q (pc + 3) lv (.int (S.1 25 0) :: st) S) : J X w Q pc lv (rr w 25 :: st) S := j_get C 25 0 rfl (ci := 7) rfl (by decide) in_X7 k_717 rfl hd h
theorem gf_RX7_117_25 {X : Mx} {w : Wt} {l0 : Launch} {cc : ByteArray} {n0 : Nat} {rm : Room} {ret : Option FieldType} {Q : State → Prop} {pc : Nat} {lv : List (Nat × Value)} {st : List Value} {S : St} (C : Cx X w l0 cc n0 RX7 rm ret) (hd : decode cc pc = .ok (.getfield 117, 3)) (h : J X w Q (pc + 3) lv (.int (S.1 25 5) :: st) S) : J X w Q pc lv (rr w 25 :: st) S := j_get C 25 5 rfl (ci := 7) rfl (by decide) in_X7 k_722 rfl hd h
theorem pf_RX7_117_25 {X : Mx} {w : Wt} {l0 : Launch} {cc : ByteArray} {n0 : Nat} {rm : Room} {ret : Option FieldType} {Q : State → Prop} {pc : Nat} {lv : List (Nat × Value)} {st : List Value} {S : St} {v : Int32} (C : Cx X w l0 cc n0 RX7 rm ret) (hd : decode cc pc = .ok (.putfield 117, 3)) (h : ∀ S1 : St, S1 = si S 25 5 v → J X w Q (pc + 3) lv st S1) : J X w Q pc lv (.int v :: rr w 25 :: st) S := j_put C 25 5 rfl (ci := 7) rfl (by decide) in_X7 tyX7 tyX7_ok nmX7 k_722 rfl (ty := .int) (by decide +kernel) rfl rfl (Nat.le_of_ble_eq_true rfl) rfl hd (h _ rfl)
theorem gf_RX7_7_25 {X : Mx} {w : Wt} {l0 : Launch} {cc : ByteArray} {n0 : Nat} {rm : Room} {ret : Option FieldType} {Q : State → Prop} {pc : Nat} {lv : List (Nat × Value)} {st : List Value} {S : St} (C : Cx X w l0 cc n0 RX7 rm ret) (hd : decode cc pc = .ok (.getfield 7, 3)) (h : J X w Q (pc + 3) lv (rr w 26 :: st) S) : J X w Q pc lv (rr w 25 :: st) S := j_get C 25 1 rfl (ci := 7) rfl (by decide) in_X7 k_718 rfl hd h
theorem al_31 {X : Mx} {w : Wt} {l0 : Launch} {cc : ByteArray} {n0 : Nat} {rm : Room} {ret : Option FieldType} {Q : State → Prop} {pc : Nat} {lv : List (Nat × Value)} {st : List Value} {S : St} {own : String} {i : Int32} (C : Cx X w l0 cc n0 own rm ret) (hd : decode cc pc = .ok (.iaload, 1)) (hin : vp_in i 9) (h : J X w Q (pc + 1) lv (.int (S.1 31 i.toNatClampNeg) :: st) S) : J X w Q pc lv (.int i :: rr w 31 :: st) S := j_iald C 31 rfl hin hd h
theorem as_26 {X : Mx} {w : Wt} {l0 : Launch} {cc : ByteArray} {n0 : Nat} {rm : Room} {ret : Option FieldType} {Q : State → Prop} {pc : Nat} {lv : List (Nat × Value)} {st : List Value} {S : St} {own : String} {i x : Int32} (C : Cx X w l0 cc n0 own rm ret) (hd : decode cc pc = .ok (.iastore, 1)) (hin : vp_in i 9) (h : ∀ S1 : St, S1 = si S 26 i.toNatClampNeg x → J X w Q (pc + 1) lv st S1) : J X w Q pc lv (.int x :: .int i :: rr w 26 :: st) S := j_iast C 26 rfl (fun _ => rfl) hin hd (h _ rfl)
theorem gf_RX7_13_25 {X : Mx} {w : Wt} {l0 : Launch} {cc : ByteArray} {n0 : Nat} {rm : Room} {ret : Option FieldType} {Q : State → Prop} {pc : Nat} {lv : List (Nat × Value)} {st : List Value} {S : St} (C : Cx X w l0 cc n0 RX7 rm ret) (hd : decode cc pc = .ok (.getfield 13, 3)) (h : J X w Q (pc + 3) lv (rr w 27 :: st) S) : J X w Q pc lv (rr w 25 :: st) S := j_get C 25 2 rfl (ci := 7) rfl (by decide) in_X7 k_719 rfl hd h
theorem as_27 {X : Mx} {w : Wt} {l0 : Launch} {cc : ByteArray} {n0 : Nat} {rm : Room} {ret : Option FieldType} {Q : State → Prop} {pc : Nat} {lv : List (Nat × Value)} {st : List Value} {S : St} {own : String} {i x : Int32} (C : Cx X w l0 cc n0 own rm ret) (hd : decode cc pc = .ok (.iastore, 1)) (hin : vp_in i 9) (h : ∀ S1 : St, S1 = si S 27 i.toNatClampNeg x → J X w Q (pc + 1) lv st S1) : J X w Q pc lv (.int x :: .int i :: rr w 27 :: st) S := j_iast C 27 rfl (fun _ => rfl) hin hd (h _ rfl)
theorem gf_RX7_16_25 {X : Mx} {w : Wt} {l0 : Launch} {cc : ByteArray} {n0 : Nat} {rm : Room} {ret : Option FieldType} {Q : State → Prop} {pc : Nat} {lv : List (Nat × Value)} {st : List Value} {S : St} (C : Cx X w l0 cc n0 RX7 rm ret) (hd : decode cc pc = .ok (.getfield 16, 3)) (h : J X w Q (pc + 3) lv (rr w 28 :: st) S) : J X w Q pc lv (rr w 25 :: st) S := j_get C 25 4 rfl (ci := 7) rfl (by decide) in_X7 k_721 rfl hd h
theorem al_30 {X : Mx} {w : Wt} {l0 : Launch} {cc : ByteArray} {n0 : Nat} {rm : Room} {ret : Option FieldType} {Q : State → Prop} {pc : Nat} {lv : List (Nat × Value)} {st : List Value} {S : St} {own : String} {i : Int32} (C : Cx X w l0 cc n0 own rm ret) (hd : decode cc pc = .ok (.iaload, 1)) (hin : vp_in i 5) (h : J X w Q (pc + 1) lv (.int (S.1 30 i.toNatClampNeg) :: st) S) : J X w Q pc lv (.int i :: rr w 30 :: st) S := j_iald C 30 rfl hin hd h
theorem as_28 {X : Mx} {w : Wt} {l0 : Launch} {cc : ByteArray} {n0 : Nat} {rm : Room} {ret : Option FieldType} {Q : State → Prop} {pc : Nat} {lv : List (Nat × Value)} {st : List Value} {S : St} {own : String} {i x : Int32} (C : Cx X w l0 cc n0 own rm ret) (hd : decode cc pc = .ok (.iastore, 1)) (hin : vp_in i 5) (h : ∀ S1 : St, S1 = si S 28 i.toNatClampNeg x → J X w Q (pc + 1) lv st S1) : J X w Q pc lv (.int x :: .int i :: rr w 28 :: st) S := j_iast C 28 rfl (fun _ => rfl) hin hd (h _ rfl)
theorem gf_RX0_21_2 {X : Mx} {w : Wt} {l0 : Launch} {cc : ByteArray} {n0 : Nat} {rm : Room} {ret : Option FieldType} {Q : State → Prop} {pc : Nat} {lv : List (Nat × Value)} {st : List Value} {S : St} (C : Cx X w l0 cc n0 RX0 rm ret) (hd : decode cc pc = .ok (.getfield 21, 3)) (h : J X w Q (pc + 3) lv (.int (S.1 2 0) :: st) S) : J X w Q pc lv (rr w 2 :: st) S := j_get C 2 0 rfl (ci := 0) rfl (by decide) in_X0 k_112 rfl hd h
theorem cv_RX6_85 : CV RX6 85 yX0_exists cX0_exists 1 (some .boolean) 0 := ⟨k_390, k_387, k_388, k_389, k_87, by decide +kernel⟩
theorem gf_RX6_30_0 {X : Mx} {w : Wt} {l0 : Launch} {cc : ByteArray} {n0 : Nat} {rm : Room} {ret : Option FieldType} {Q : State → Prop} {pc : Nat} {lv : List (Nat × Value)} {st : List Value} {S : St} (C : Cx X w l0 cc n0 RX6 rm ret) (hd : decode cc pc = .ok (.getfield 30, 3)) (h : J X w Q (pc + 3) lv (rr w 11 :: st) S) : J X w Q pc lv (rr w 0 :: st) S := j_get C 0 4 rfl (ci := 6) rfl (by decide) in_X6 k_268 rfl hd h
theorem pf_RX5_15_11 {X : Mx} {w : Wt} {l0 : Launch} {cc : ByteArray} {n0 : Nat} {rm : Room} {ret : Option FieldType} {Q : State → Prop} {pc : Nat} {lv : List (Nat × Value)} {st : List Value} {S : St} {v : Int32} (C : Cx X w l0 cc n0 RX5 rm ret) (hd : decode cc pc = .ok (.putfield 15, 3)) (h : ∀ S1 : St, S1 = si S 11 1 v → J X w Q (pc + 3) lv st S1) : J X w Q pc lv (.int v :: rr w 11 :: st) S := j_put C 11 1 rfl (ci := 5) rfl (by decide) in_X5 tyX5 tyX5_ok nmX5 k_179 rfl (ty := .int) (by decide +kernel) rfl rfl (Nat.le_of_ble_eq_true rfl) rfl hd (h _ rfl)
theorem gf_RX5_19_2 {X : Mx} {w : Wt} {l0 : Launch} {cc : ByteArray} {n0 : Nat} {rm : Room} {ret : Option FieldType} {Q : State → Prop} {pc : Nat} {lv : List (Nat × Value)} {st : List Value} {S : St} (C : Cx X w l0 cc n0 RX5 rm ret) (hd : decode cc pc = .ok (.getfield 19, 3)) (h : J X w Q (pc + 3) lv (.int (S.1 2 0) :: st) S) : J X w Q pc lv (rr w 2 :: st) S := j_get C 2 0 rfl (ci := 0) rfl (by decide) in_X0 k_115 rfl hd h
theorem gf_RX5_15_11 {X : Mx} {w : Wt} {l0 : Launch} {cc : ByteArray} {n0 : Nat} {rm : Room} {ret : Option FieldType} {Q : State → Prop} {pc : Nat} {lv : List (Nat × Value)} {st : List Value} {S : St} (C : Cx X w l0 cc n0 RX5 rm ret) (hd : decode cc pc = .ok (.getfield 15, 3)) (h : J X w Q (pc + 3) lv (.int (S.1 11 1) :: st) S) : J X w Q pc lv (rr w 11 :: st) S := j_get C 11 1 rfl (ci := 5) rfl (by decide) in_X5 k_179 rfl hd h
theorem gf_RX5_11_11 {X : Mx} {w : Wt} {l0 : Launch} {cc : ByteArray} {n0 : Nat} {rm : Room} {ret : Option FieldType} {Q : State → Prop} {pc : Nat} {lv : List (Nat × Value)} {st : List Value} {S : St} (C : Cx X w l0 cc n0 RX5 rm ret) (hd : decode cc pc = .ok (.getfield 11, 3)) (h : J X w Q (pc + 3) lv (rr w 12 :: st) S) : J X w Q pc lv (rr w 11 :: st) S := j_get C 11 0 rfl (ci := 5) rfl (by decide) in_X5 k_177 rfl hd h
theorem as_12 {X : Mx} {w : Wt} {l0 : Launch} {cc : ByteArray} {n0 : Nat} {rm : Room} {ret : Option FieldType} {Q : State → Prop} {pc : Nat} {lv : List (Nat × Value)} {st : List Value} {S : St} {own : String} {i x : Int32} (C : Cx X w l0 cc n0 own rm ret) (hd : decode cc pc = .ok (.iastore, 1)) (hin : vp_in i 115) (h : ∀ S1 : St, S1 = si S 12 i.toNatClampNeg x → J X w Q (pc + 1) lv st S1) : J X w Q pc lv (.int x :: .int i :: rr w 12 :: st) S := j_iast C 12 rfl (fun _ => rfl) hin hd (h _ rfl)
theorem cv_RX5_24 : CV RX5 24 yX5_put cX5_put 2 none 1 := ⟨k_398, k_395, k_397, k_8, k_89, by decide +kernel⟩
theorem rc_11 (w : Wt) : RC w 11 RX5 := fun S => ⟨5, _, _, rfl, rfl, rfl⟩
theorem gf_RX5_28_2 {X : Mx} {w : Wt} {l0 : Launch} {cc : ByteArray} {n0 : Nat} {rm : Room} {ret : Option FieldType} {Q : State → Prop} {pc : Nat} {lv : List (Nat × Value)} {st : List Value} {S : St} (C : Cx X w l0 cc n0 RX5 rm ret) (hd : decode cc pc = .ok (.getfield 28, 3)) (h : J X w Q (pc + 3) lv (.int (S.1 2 1) :: st) S) : J X w Q pc lv (rr w 2 :: st) S := j_get C 2 1 rfl (ci := 0) rfl (by decide) in_X0 k_119 rfl hd h
theorem gf_RX5_38_2 {X : Mx} {w : Wt} {l0 : Launch} {cc : ByteArray} {n0 : Nat} {rm : Room} {ret : Option FieldType} {Q : State → Prop} {pc : Nat} {lv : List (Nat × Value)} {st : List Value} {S : St} (C : Cx X w l0 cc n0 RX5 rm ret) (hd : decode cc pc = .ok (.getfield 38, 3)) (h : J X w Q (pc + 3) lv (rr w 4 :: st) S) : J X w Q pc lv (rr w 2 :: st) S := j_get C 2 3 rfl (ci := 0) rfl (by decide) in_X0 k_129 rfl hd h
theorem al_4 {X : Mx} {w : Wt} {l0 : Launch} {cc : ByteArray} {n0 : Nat} {rm : Room} {ret : Option FieldType} {Q : State → Prop} {pc : Nat} {lv : List (Nat × Value)} {st : List Value} {S : St} {own : String} {i : Int32} (C : Cx X w l0 cc n0 own rm ret) (hd : decode cc pc = .ok (.iaload, 1)) (hin : vp_in i 9) (h : J X w Q (pc + 1) lv (.int (S.1 4 i.toNatClampNeg) :: st) S) : J X w Q pc lv (.int i :: rr w 4 :: st) S := j_iald C 4 rfl hin hd h
theorem al_5 {X : Mx} {w : Wt} {l0 : Launch} {cc : ByteArray} {n0 : Nat} {rm : Room} {ret : Option FieldType} {Q : State → Prop} {pc : Nat} {lv : List (Nat × Value)} {st : List Value} {S : St} {own : String} {i : Int32} (C : Cx X w l0 cc n0 own rm ret) (hd : decode cc pc = .ok (.iaload, 1)) (hin : vp_in i 9) (h : J X w Q (pc + 1) lv (.int (S.1 5 i.toNatClampNeg) :: st) S) : J X w Q pc lv (.int i :: rr w 5 :: st) S := j_iald C 5 rfl hin hd h
theorem cv_RX0_44 : CN RX0 44 yX6_bit cX6_bit 2 (some .int) 2 := ⟨k_409, by decide +kernel, k_408, k_86, by decide +kernel⟩
theorem cv_RX5_41 : CV RX5 41 yX0_hasVouch cX0_hasVouch 3 (some .boolean) 2 := ⟨k_406, k_403, k_404, k_405, k_87, by decide +kernel⟩
theorem cv_RX5_34 : CV RX5 34 yX5_writePerson cX5_writePerson 4 none 2 := ⟨k_402, k_399, k_401, k_9, k_89, by decide +kernel⟩
theorem gf_RX5_31_2 {X : Mx} {w : Wt} {l0 : Launch} {cc : ByteArray} {n0 : Nat} {rm : Room} {ret : Option FieldType} {Q : State → Prop} {pc : Nat} {lv : List (Nat × Value)} {st : List Value} {S : St} (C : Cx X w l0 cc n0 RX5 rm ret) (hd : decode cc pc = .ok (.getfield 31, 3)) (h : J X w Q (pc + 3) lv (rr w 3 :: st) S) : J X w Q pc lv (rr w 2 :: st) S := j_get C 2 2 rfl (ci := 0) rfl (by decide) in_X0 k_124 rfl hd h
theorem al_3 {X : Mx} {w : Wt} {l0 : Launch} {cc : ByteArray} {n0 : Nat} {rm : Room} {ret : Option FieldType} {Q : State → Prop} {pc : Nat} {lv : List (Nat × Value)} {st : List Value} {S : St} {own : String} {i : Int32} (C : Cx X w l0 cc n0 own rm ret) (hd : decode cc pc = .ok (.iaload, 1)) (hin : vp_in i 5) (h : J X w Q (pc + 1) lv (.int (S.1 3 i.toNatClampNeg) :: st) S) : J X w Q pc lv (.int i :: rr w 3 :: st) S := j_iald C 3 rfl hin hd h
theorem cv_RX6_88 : CV RX6 88 yX5_write cX5_write 3 none 1 := ⟨k_394, k_391, k_392, k_393, k_89, by decide +kernel⟩
theorem gf_RX6_91_11 {X : Mx} {w : Wt} {l0 : Launch} {cc : ByteArray} {n0 : Nat} {rm : Room} {ret : Option FieldType} {Q : State → Prop} {pc : Nat} {lv : List (Nat × Value)} {st : List Value} {S : St} (C : Cx X w l0 cc n0 RX6 rm ret) (hd : decode cc pc = .ok (.getfield 91, 3)) (h : J X w Q (pc + 3) lv (.int (S.1 11 1) :: st) S) : J X w Q pc lv (rr w 11 :: st) S := j_get C 11 1 rfl (ci := 5) rfl (by decide) in_X5 k_180 rfl hd h
theorem gf_RX6_94_11 {X : Mx} {w : Wt} {l0 : Launch} {cc : ByteArray} {n0 : Nat} {rm : Room} {ret : Option FieldType} {Q : State → Prop} {pc : Nat} {lv : List (Nat × Value)} {st : List Value} {S : St} (C : Cx X w l0 cc n0 RX6 rm ret) (hd : decode cc pc = .ok (.getfield 94, 3)) (h : J X w Q (pc + 3) lv (rr w 12 :: st) S) : J X w Q pc lv (rr w 11 :: st) S := j_get C 11 0 rfl (ci := 5) rfl (by decide) in_X5 k_178 rfl hd h
theorem al_12 {X : Mx} {w : Wt} {l0 : Launch} {cc : ByteArray} {n0 : Nat} {rm : Room} {ret : Option FieldType} {Q : State → Prop} {pc : Nat} {lv : List (Nat × Value)} {st : List Value} {S : St} {own : String} {i : Int32} (C : Cx X w l0 cc n0 own rm ret) (hd : decode cc pc = .ok (.iaload, 1)) (hin : vp_in i 115) (h : J X w Q (pc + 1) lv (.int (S.1 12 i.toNatClampNeg) :: st) S) : J X w Q pc lv (.int i :: rr w 12 :: st) S := j_iald C 12 rfl hin hd h
theorem cv_RX7_139 : CV RX7 139 yX7_isCircle cX7_isCircle 1 (some .boolean) 0 := ⟨k_873, k_870, k_872, k_39, k_93, by decide +kernel⟩
theorem pf_RX7_123_25 {X : Mx} {w : Wt} {l0 : Launch} {cc : ByteArray} {n0 : Nat} {rm : Room} {ret : Option FieldType} {Q : State → Prop} {pc : Nat} {lv : List (Nat × Value)} {st : List Value} {S : St} {v : Int32} (C : Cx X w l0 cc n0 RX7 rm ret) (hd : decode cc pc = .ok (.putfield 123, 3)) (h : ∀ S1 : St, S1 = si S 25 19 v → J X w Q (pc + 3) lv st S1) : J X w Q pc lv (.int v :: rr w 25 :: st) S := j_put C 25 19 rfl (ci := 7) rfl (by decide) in_X7 tyX7 tyX7_ok nmX7 k_736 rfl (ty := .int) (by decide +kernel) rfl rfl (Nat.le_of_ble_eq_true rfl) rfl hd (h _ rfl)
theorem pf_RX7_120_25 {X : Mx} {w : Wt} {l0 : Launch} {cc : ByteArray} {n0 : Nat} {rm : Room} {ret : Option FieldType} {Q : State → Prop} {pc : Nat} {lv : List (Nat × Value)} {st : List Value} {S : St} {v : Int32} (C : Cx X w l0 cc n0 RX7 rm ret) (hd : decode cc pc = .ok (.putfield 120, 3)) (h : ∀ S1 : St, S1 = si S 25 20 v → J X w Q (pc + 3) lv st S1) : J X w Q pc lv (.int v :: rr w 25 :: st) S := j_put C 25 20 rfl (ci := 7) rfl (by decide) in_X7 tyX7 tyX7_ok nmX7 k_737 rfl (ty := .int) (by decide +kernel) rfl rfl (Nat.le_of_ble_eq_true rfl) rfl hd (h _ rfl)
theorem pf_RX7_126_25 {X : Mx} {w : Wt} {l0 : Launch} {cc : ByteArray} {n0 : Nat} {rm : Room} {ret : Option FieldType} {Q : State → Prop} {pc : Nat} {lv : List (Nat × Value)} {st : List Value} {S : St} {v : Int32} (C : Cx X w l0 cc n0 RX7 rm ret) (hd : decode cc pc = .ok (.putfield 126, 3)) (h : ∀ S1 : St, S1 = si S 25 21 v → J X w Q (pc + 3) lv st S1) : J X w Q pc lv (.int v :: rr w 25 :: st) S := j_put C 25 21 rfl (ci := 7) rfl (by decide) in_X7 tyX7 tyX7_ok nmX7 k_738 rfl (ty := .int) (by decide +kernel) rfl rfl (Nat.le_of_ble_eq_true rfl) rfl hd (h _ rfl)
theorem gf_RX7_120_25 {X : Mx} {w : Wt} {l0 : Launch} {cc : ByteArray} {n0 : Nat} {rm : Room} {ret : Option FieldType} {Q : State → Prop} {pc : Nat} {lv : List (Nat × Value)} {st : List Value} {S : St} (C : Cx X w l0 cc n0 RX7 rm ret) (hd : decode cc pc = .ok (.getfield 120, 3)) (h : J X w Q (pc + 3) lv (.int (S.1 25 20) :: st) S) : J X w Q pc lv (rr w 25 :: st) S := j_get C 25 20 rfl (ci := 7) rfl (by decide) in_X7 k_737 rfl hd h
theorem gf_RX7_123_25 {X : Mx} {w : Wt} {l0 : Launch} {cc : ByteArray} {n0 : Nat} {rm : Room} {ret : Option FieldType} {Q : State → Prop} {pc : Nat} {lv : List (Nat × Value)} {st : List Value} {S : St} (C : Cx X w l0 cc n0 RX7 rm ret) (hd : decode cc pc = .ok (.getfield 123, 3)) (h : J X w Q (pc + 3) lv (.int (S.1 25 19) :: st) S) : J X w Q pc lv (rr w 25 :: st) S := j_get C 25 19 rfl (ci := 7) rfl (by decide) in_X7 k_736 rfl hd h
theorem gf_RX7_126_25 {X : Mx} {w : Wt} {l0 : Launch} {cc : ByteArray} {n0 : Nat} {rm : Room} {ret : Option FieldType} {Q : State → Prop} {pc : Nat} {lv : List (Nat × Value)} {st : List Value} {S : St} (C : Cx X w l0 cc n0 RX7 rm ret) (hd : decode cc pc = .ok (.getfield 126, 3)) (h : J X w Q (pc + 3) lv (.int (S.1 25 21) :: st) S) : J X w Q pc lv (rr w 25 :: st) S := j_get C 25 21 rfl (ci := 7) rfl (by decide) in_X7 k_738 rfl hd h
theorem cv_RX7_129 : CV RX7 129 yX7_ink1 cX7_ink1 2 none 1 := ⟨k_881, k_878, k_880, k_41, k_93, by decide +kernel⟩
theorem gf_RX7_114_25 {X : Mx} {w : Wt} {l0 : Launch} {cc : ByteArray} {n0 : Nat} {rm : Room} {ret : Option FieldType} {Q : State → Prop} {pc : Nat} {lv : List (Nat × Value)} {st : List Value} {S : St} (C : Cx X w l0 cc n0 RX7 rm ret) (hd : decode cc pc = .ok (.getfield 114, 3)) (h : J X w Q (pc + 3) lv (.int (S.1 25 3) :: st) S) : J X w Q pc lv (rr w 25 :: st) S := j_get C 25 3 rfl (ci := 7) rfl (by decide) in_X7 k_720 rfl hd h
theorem al_26 {X : Mx} {w : Wt} {l0 : Launch} {cc : ByteArray} {n0 : Nat} {rm : Room} {ret : Option FieldType} {Q : State → Prop} {pc : Nat} {lv : List (Nat × Value)} {st : List Value} {S : St} {own : String} {i : Int32} (C : Cx X w l0 cc n0 own rm ret) (hd : decode cc pc = .ok (.iaload, 1)) (hin : vp_in i 9) (h : J X w Q (pc + 1) lv (.int (S.1 26 i.toNatClampNeg) :: st) S) : J X w Q pc lv (.int i :: rr w 26 :: st) S := j_iald C 26 rfl hin hd h
theorem al_27 {X : Mx} {w : Wt} {l0 : Launch} {cc : ByteArray} {n0 : Nat} {rm : Room} {ret : Option FieldType} {Q : State → Prop} {pc : Nat} {lv : List (Nat × Value)} {st : List Value} {S : St} {own : String} {i : Int32} (C : Cx X w l0 cc n0 own rm ret) (hd : decode cc pc = .ok (.iaload, 1)) (hin : vp_in i 9) (h : J X w Q (pc + 1) lv (.int (S.1 27 i.toNatClampNeg) :: st) S) : J X w Q pc lv (.int i :: rr w 27 :: st) S := j_iald C 27 rfl hin hd h
theorem cv_RX7_132 : CS RX7 132 yX7_has cX7_has 2 (some .boolean) 2 := ⟨k_888, k_886, k_887, k_93, by decide +kernel⟩
theorem cv_RX7_136 : CV RX7 136 yX7_inkPerson cX7_inkPerson 3 none 1 := ⟨k_885, k_882, k_884, k_42, k_93, by decide +kernel⟩
theorem al_28 {X : Mx} {w : Wt} {l0 : Launch} {cc : ByteArray} {n0 : Nat} {rm : Room} {ret : Option FieldType} {Q : State → Prop} {pc : Nat} {lv : List (Nat × Value)} {st : List Value} {S : St} {own : String} {i : Int32} (C : Cx X w l0 cc n0 own rm ret) (hd : decode cc pc = .ok (.iaload, 1)) (hin : vp_in i 5) (h : J X w Q (pc + 1) lv (.int (S.1 28 i.toNatClampNeg) :: st) S) : J X w Q pc lv (.int i :: rr w 28 :: st) S := j_iald C 28 rfl hin hd h
theorem cv_RX7_142 : CV RX7 142 yX7_inkNow cX7_inkNow 3 (some .int) 1 := ⟨k_877, k_874, k_876, k_40, k_93, by decide +kernel⟩
theorem cv_RX6_97 : CV RX6 97 yX0_has cX0_has 2 (some .boolean) 1 := ⟨k_417, k_414, k_415, k_416, k_87, by decide +kernel⟩
theorem cv_RX6_100 : CS RX6 100 yX6_isKind cX6_isKind 1 (some .boolean) 1 := ⟨k_420, k_418, k_419, k_86, by decide +kernel⟩
theorem gf_RX6_103_2 {X : Mx} {w : Wt} {l0 : Launch} {cc : ByteArray} {n0 : Nat} {rm : Room} {ret : Option FieldType} {Q : State → Prop} {pc : Nat} {lv : List (Nat × Value)} {st : List Value} {S : St} (C : Cx X w l0 cc n0 RX6 rm ret) (hd : decode cc pc = .ok (.getfield 103, 3)) (h : J X w Q (pc + 3) lv (rr w 4 :: st) S) : J X w Q pc lv (rr w 2 :: st) S := j_get C 2 3 rfl (ci := 0) rfl (by decide) in_X0 k_130 rfl hd h
theorem as_4 {X : Mx} {w : Wt} {l0 : Launch} {cc : ByteArray} {n0 : Nat} {rm : Room} {ret : Option FieldType} {Q : State → Prop} {pc : Nat} {lv : List (Nat × Value)} {st : List Value} {S : St} {own : String} {i x : Int32} (C : Cx X w l0 cc n0 own rm ret) (hd : decode cc pc = .ok (.iastore, 1)) (hin : vp_in i 9) (h : ∀ S1 : St, S1 = si S 4 i.toNatClampNeg x → J X w Q (pc + 1) lv st S1) : J X w Q pc lv (.int x :: .int i :: rr w 4 :: st) S := j_iast C 4 rfl (fun _ => rfl) hin hd (h _ rfl)
theorem cv_RX6_106 : CV RX6 106 yX0_ofKind cX0_ofKind 4 (some .int) 1 := ⟨k_348, k_421, k_346, k_347, k_87, by decide +kernel⟩
theorem cv_RX6_110 : CS RX6 110 yJ6_bitCount_0f7a4 cJ6_bitCount_0f7a4 1 (some .int) 1 := ⟨k_351, k_422, k_350, k_95, by decide +kernel⟩
theorem cv_RX7_145 : CV RX7 145 yX7_isPerson cX7_isPerson 2 (some .boolean) 1 := ⟨k_896, k_893, k_895, k_43, k_93, by decide +kernel⟩
theorem cv_RX7_148 : CV RX7 148 yX7_ofKind cX7_ofKind 4 (some .int) 1 := ⟨k_900, k_897, k_899, k_44, k_93, by decide +kernel⟩
theorem cv_RX0_40 : CV RX0 40 yX0_has cX0_has 2 (some .boolean) 1 := ⟨k_417, k_435, k_415, k_416, k_87, by decide +kernel⟩
theorem cv_RX6_115 : CV RX6 115 yX0_hasPair cX0_hasPair 3 (some .boolean) 2 := ⟨k_434, k_431, k_432, k_433, k_87, by decide +kernel⟩
theorem cv_RX6_119 : CV RX6 119 yX0_hasVouch cX0_hasVouch 3 (some .boolean) 2 := ⟨k_406, k_436, k_404, k_405, k_87, by decide +kernel⟩
theorem gf_RX6_122_2 {X : Mx} {w : Wt} {l0 : Launch} {cc : ByteArray} {n0 : Nat} {rm : Room} {ret : Option FieldType} {Q : State → Prop} {pc : Nat} {lv : List (Nat × Value)} {st : List Value} {S : St} (C : Cx X w l0 cc n0 RX6 rm ret) (hd : decode cc pc = .ok (.getfield 122, 3)) (h : J X w Q (pc + 3) lv (rr w 5 :: st) S) : J X w Q pc lv (rr w 2 :: st) S := j_get C 2 4 rfl (ci := 0) rfl (by decide) in_X0 k_135 rfl hd h
theorem as_5 {X : Mx} {w : Wt} {l0 : Launch} {cc : ByteArray} {n0 : Nat} {rm : Room} {ret : Option FieldType} {Q : State → Prop} {pc : Nat} {lv : List (Nat × Value)} {st : List Value} {S : St} {own : String} {i x : Int32} (C : Cx X w l0 cc n0 own rm ret) (hd : decode cc pc = .ok (.iastore, 1)) (hin : vp_in i 9) (h : ∀ S1 : St, S1 = si S 5 i.toNatClampNeg x → J X w Q (pc + 1) lv st S1) : J X w Q pc lv (.int x :: .int i :: rr w 5 :: st) S := j_iast C 5 rfl (fun _ => rfl) hin hd (h _ rfl)
theorem gf_RX6_125_0 {X : Mx} {w : Wt} {l0 : Launch} {cc : ByteArray} {n0 : Nat} {rm : Room} {ret : Option FieldType} {Q : State → Prop} {pc : Nat} {lv : List (Nat × Value)} {st : List Value} {S : St} (C : Cx X w l0 cc n0 RX6 rm ret) (hd : decode cc pc = .ok (.getfield 125, 3)) (h : J X w Q (pc + 3) lv (.int (S.1 0 9) :: st) S) : J X w Q pc lv (rr w 0 :: st) S := j_get C 0 9 rfl (ci := 6) rfl (by decide) in_X6 k_273 rfl hd h
theorem pf_RX6_125_0 {X : Mx} {w : Wt} {l0 : Launch} {cc : ByteArray} {n0 : Nat} {rm : Room} {ret : Option FieldType} {Q : State → Prop} {pc : Nat} {lv : List (Nat × Value)} {st : List Value} {S : St} {v : Int32} (C : Cx X w l0 cc n0 RX6 rm ret) (hd : decode cc pc = .ok (.putfield 125, 3)) (h : ∀ S1 : St, S1 = si S 0 9 v → J X w Q (pc + 3) lv st S1) : J X w Q pc lv (.int v :: rr w 0 :: st) S := j_put C 0 9 rfl (ci := 6) rfl (by decide) in_X6 tyX6 tyX6_ok nmX6 k_273 rfl (ty := .int) (by decide +kernel) rfl rfl (Nat.le_of_ble_eq_true rfl) rfl hd (h _ rfl)
theorem cv_RX7_151 : CV RX7 151 yX7_areTwo cX7_areTwo 3 (some .boolean) 2 := ⟨k_912, k_909, k_911, k_45, k_93, by decide +kernel⟩
theorem gf_RX7_154_25 {X : Mx} {w : Wt} {l0 : Launch} {cc : ByteArray} {n0 : Nat} {rm : Room} {ret : Option FieldType} {Q : State → Prop} {pc : Nat} {lv : List (Nat × Value)} {st : List Value} {S : St} (C : Cx X w l0 cc n0 RX7 rm ret) (hd : decode cc pc = .ok (.getfield 154, 3)) (h : J X w Q (pc + 3) lv (.int (S.1 25 6) :: st) S) : J X w Q pc lv (rr w 25 :: st) S := j_get C 25 6 rfl (ci := 7) rfl (by decide) in_X7 k_723 rfl hd h
theorem pf_RX7_154_25 {X : Mx} {w : Wt} {l0 : Launch} {cc : ByteArray} {n0 : Nat} {rm : Room} {ret : Option FieldType} {Q : State → Prop} {pc : Nat} {lv : List (Nat × Value)} {st : List Value} {S : St} {v : Int32} (C : Cx X w l0 cc n0 RX7 rm ret) (hd : decode cc pc = .ok (.putfield 154, 3)) (h : ∀ S1 : St, S1 = si S 25 6 v → J X w Q (pc + 3) lv st S1) : J X w Q pc lv (.int v :: rr w 25 :: st) S := j_put C 25 6 rfl (ci := 7) rfl (by decide) in_X7 tyX7 tyX7_ok nmX7 k_723 rfl (ty := .int) (by decide +kernel) rfl rfl (Nat.le_of_ble_eq_true rfl) rfl hd (h _ rfl)
theorem gf_RX6_128_0 {X : Mx} {w : Wt} {l0 : Launch} {cc : ByteArray} {n0 : Nat} {rm : Room} {ret : Option FieldType} {Q : State → Prop} {pc : Nat} {lv : List (Nat × Value)} {st : List Value} {S : St} (C : Cx X w l0 cc n0 RX6 rm ret) (hd : decode cc pc = .ok (.getfield 128, 3)) (h : J X w Q (pc + 3) lv (.int (S.1 0 10) :: st) S) : J X w Q pc lv (rr w 0 :: st) S := j_get C 0 10 rfl (ci := 6) rfl (by decide) in_X6 k_274 rfl hd h
theorem pf_RX6_128_0 {X : Mx} {w : Wt} {l0 : Launch} {cc : ByteArray} {n0 : Nat} {rm : Room} {ret : Option FieldType} {Q : State → Prop} {pc : Nat} {lv : List (Nat × Value)} {st : List Value} {S : St} {v : Int32} (C : Cx X w l0 cc n0 RX6 rm ret) (hd : decode cc pc = .ok (.putfield 128, 3)) (h : ∀ S1 : St, S1 = si S 0 10 v → J X w Q (pc + 3) lv st S1) : J X w Q pc lv (.int v :: rr w 0 :: st) S := j_put C 0 10 rfl (ci := 6) rfl (by decide) in_X6 tyX6 tyX6_ok nmX6 k_274 rfl (ty := .int) (by decide +kernel) rfl rfl (Nat.le_of_ble_eq_true rfl) rfl hd (h _ rfl)
theorem gf_RX7_157_25 {X : Mx} {w : Wt} {l0 : Launch} {cc : ByteArray} {n0 : Nat} {rm : Room} {ret : Option FieldType} {Q : State → Prop} {pc : Nat} {lv : List (Nat × Value)} {st : List Value} {S : St} (C : Cx X w l0 cc n0 RX7 rm ret) (hd : decode cc pc = .ok (.getfield 157, 3)) (h : J X w Q (pc + 3) lv (.int (S.1 25 7) :: st) S) : J X w Q pc lv (rr w 25 :: st) S := j_get C 25 7 rfl (ci := 7) rfl (by decide) in_X7 k_724 rfl hd h
theorem pf_RX7_157_25 {X : Mx} {w : Wt} {l0 : Launch} {cc : ByteArray} {n0 : Nat} {rm : Room} {ret : Option FieldType} {Q : State → Prop} {pc : Nat} {lv : List (Nat × Value)} {st : List Value} {S : St} {v : Int32} (C : Cx X w l0 cc n0 RX7 rm ret) (hd : decode cc pc = .ok (.putfield 157, 3)) (h : ∀ S1 : St, S1 = si S 25 7 v → J X w Q (pc + 3) lv st S1) : J X w Q pc lv (.int v :: rr w 25 :: st) S := j_put C 25 7 rfl (ci := 7) rfl (by decide) in_X7 tyX7 tyX7_ok nmX7 k_724 rfl (ty := .int) (by decide +kernel) rfl rfl (Nat.le_of_ble_eq_true rfl) rfl hd (h _ rfl)
theorem gf_RX6_131_2 {X : Mx} {w : Wt} {l0 : Launch} {cc : ByteArray} {n0 : Nat} {rm : Room} {ret : Option FieldType} {Q : State → Prop} {pc : Nat} {lv : List (Nat × Value)} {st : List Value} {S : St} (C : Cx X w l0 cc n0 RX6 rm ret) (hd : decode cc pc = .ok (.getfield 131, 3)) (h : J X w Q (pc + 3) lv (.int (S.1 2 1) :: st) S) : J X w Q pc lv (rr w 2 :: st) S := j_get C 2 1 rfl (ci := 0) rfl (by decide) in_X0 k_122 rfl hd h
theorem gf_RX6_134_2 {X : Mx} {w : Wt} {l0 : Launch} {cc : ByteArray} {n0 : Nat} {rm : Room} {ret : Option FieldType} {Q : State → Prop} {pc : Nat} {lv : List (Nat × Value)} {st : List Value} {S : St} (C : Cx X w l0 cc n0 RX6 rm ret) (hd : decode cc pc = .ok (.getfield 134, 3)) (h : J X w Q (pc + 3) lv (rr w 3 :: st) S) : J X w Q pc lv (rr w 2 :: st) S := j_get C 2 2 rfl (ci := 0) rfl (by decide) in_X0 k_127 rfl hd h
theorem as_3 {X : Mx} {w : Wt} {l0 : Launch} {cc : ByteArray} {n0 : Nat} {rm : Room} {ret : Option FieldType} {Q : State → Prop} {pc : Nat} {lv : List (Nat × Value)} {st : List Value} {S : St} {own : String} {i x : Int32} (C : Cx X w l0 cc n0 own rm ret) (hd : decode cc pc = .ok (.iastore, 1)) (hin : vp_in i 5) (h : ∀ S1 : St, S1 = si S 3 i.toNatClampNeg x → J X w Q (pc + 1) lv st S1) : J X w Q pc lv (.int x :: .int i :: rr w 3 :: st) S := j_iast C 3 rfl (fun _ => rfl) hin hd (h _ rfl)
theorem cv_RX0_52 : CS RX0 52 yJ6_bitCount_0f7a4 cJ6_bitCount_0f7a4 1 (some .int) 1 := ⟨k_351, k_453, k_350, k_95, by decide +kernel⟩
theorem cv_RX6_137 : CV RX6 137 yX0_vouchCount cX0_vouchCount 3 (some .int) 0 := ⟨k_452, k_449, k_450, k_451, k_87, by decide +kernel⟩
theorem gf_RX6_45_0 {X : Mx} {w : Wt} {l0 : Launch} {cc : ByteArray} {n0 : Nat} {rm : Room} {ret : Option FieldType} {Q : State → Prop} {pc : Nat} {lv : List (Nat × Value)} {st : List Value} {S : St} (C : Cx X w l0 cc n0 RX6 rm ret) (hd : decode cc pc = .ok (.getfield 45, 3)) (h : J X w Q (pc + 3) lv (rr w 14 :: st) S) : J X w Q pc lv (rr w 0 :: st) S := j_get C 0 6 rfl (ci := 6) rfl (by decide) in_X6 k_270 rfl hd h
theorem gf_RX4_21_2 {X : Mx} {w : Wt} {l0 : Launch} {cc : ByteArray} {n0 : Nat} {rm : Room} {ret : Option FieldType} {Q : State → Prop} {pc : Nat} {lv : List (Nat × Value)} {st : List Value} {S : St} (C : Cx X w l0 cc n0 RX4 rm ret) (hd : decode cc pc = .ok (.getfield 21, 3)) (h : J X w Q (pc + 3) lv (.int (S.1 2 0) :: st) S) : J X w Q pc lv (rr w 2 :: st) S := j_get C 2 0 rfl (ci := 0) rfl (by decide) in_X0 k_113 rfl hd h
theorem pf_RX4_27_14 {X : Mx} {w : Wt} {l0 : Launch} {cc : ByteArray} {n0 : Nat} {rm : Room} {ret : Option FieldType} {Q : State → Prop} {pc : Nat} {lv : List (Nat × Value)} {st : List Value} {S : St} {v : Int32} (C : Cx X w l0 cc n0 RX4 rm ret) (hd : decode cc pc = .ok (.putfield 27, 3)) (h : ∀ S1 : St, S1 = si S 14 0 v → J X w Q (pc + 3) lv st S1) : J X w Q pc lv (.int v :: rr w 14 :: st) S := j_put C 14 0 rfl (ci := 4) rfl (by decide) in_X4 tyX4 tyX4_ok nmX4 k_198 rfl (ty := .int) (by decide +kernel) rfl rfl (Nat.le_of_ble_eq_true rfl) rfl hd (h _ rfl)
theorem cv_RX4_28 : CV RX4 28 yX0_ofKind cX0_ofKind 4 (some .int) 1 := ⟨k_348, k_462, k_346, k_347, k_87, by decide +kernel⟩
theorem pf_RX4_32_14 {X : Mx} {w : Wt} {l0 : Launch} {cc : ByteArray} {n0 : Nat} {rm : Room} {ret : Option FieldType} {Q : State → Prop} {pc : Nat} {lv : List (Nat × Value)} {st : List Value} {S : St} {v : Int32} (C : Cx X w l0 cc n0 RX4 rm ret) (hd : decode cc pc = .ok (.putfield 32, 3)) (h : ∀ S1 : St, S1 = si S 14 1 v → J X w Q (pc + 3) lv st S1) : J X w Q pc lv (.int v :: rr w 14 :: st) S := j_put C 14 1 rfl (ci := 4) rfl (by decide) in_X4 tyX4 tyX4_ok nmX4 k_200 rfl (ty := .int) (by decide +kernel) rfl rfl (Nat.le_of_ble_eq_true rfl) rfl hd (h _ rfl)
theorem gf_RX4_35_2 {X : Mx} {w : Wt} {l0 : Launch} {cc : ByteArray} {n0 : Nat} {rm : Room} {ret : Option FieldType} {Q : State → Prop} {pc : Nat} {lv : List (Nat × Value)} {st : List Value} {S : St} (C : Cx X w l0 cc n0 RX4 rm ret) (hd : decode cc pc = .ok (.getfield 35, 3)) (h : J X w Q (pc + 3) lv (rr w 5 :: st) S) : J X w Q pc lv (rr w 2 :: st) S := j_get C 2 4 rfl (ci := 0) rfl (by decide) in_X0 k_133 rfl hd h
theorem gf_RX4_9_14 {X : Mx} {w : Wt} {l0 : Launch} {cc : ByteArray} {n0 : Nat} {rm : Room} {ret : Option FieldType} {Q : State → Prop} {pc : Nat} {lv : List (Nat × Value)} {st : List Value} {S : St} (C : Cx X w l0 cc n0 RX4 rm ret) (hd : decode cc pc = .ok (.getfield 9, 3)) (h : J X w Q (pc + 3) lv (rr w 15 :: st) S) : J X w Q pc lv (rr w 14 :: st) S := j_get C 14 2 rfl (ci := 4) rfl (by decide) in_X4 k_203 rfl hd h
theorem cp_RX4_36_5_15_9 {X : Mx} {w : Wt} {l0 : Launch} {cc : ByteArray} {n0 : Nat} {rm : Room} {ret : Option FieldType} {Q : State → Prop} {pc : Nat} {lv : List (Nat × Value)} {st : List Value} {S : St} (C : Cx X w l0 cc n0 RX4 rm ret) (hd : decode cc pc = .ok (.invokestatic 36, 3)) (hfr : 1 ≤ rm.frames) (hlo : (st.map fun v => v.category).sum + 18 ≤ rm.locals) (h : ∀ S1 : St, S1 = cI S 15 (va_cpy (S.1 5) (S.1 15) 0 0 9) → J X w Q (pc + 3) lv st S1) : J X w Q pc lv (.int 9 :: .int 0 :: rr w 15 :: .int 0 :: rr w 5 :: st) S := j_copyI C 5 15 rfl rfl (fun _ => rfl) (by decide) (by decide) (by decide) k_463 k_382 k_381 k_96 hfr hlo hd (h _ rfl)
theorem cv_RX6_179 : CV RX6 179 yX4_copy cX4_copy 2 none 1 := ⟨k_461, k_458, k_459, k_460, k_91, by decide +kernel⟩
theorem rc_14 (w : Wt) : RC w 14 RX4 := fun S => ⟨4, _, _, rfl, rfl, rfl⟩
theorem gf_RX4_15_14 {X : Mx} {w : Wt} {l0 : Launch} {cc : ByteArray} {n0 : Nat} {rm : Room} {ret : Option FieldType} {Q : State → Prop} {pc : Nat} {lv : List (Nat × Value)} {st : List Value} {S : St} (C : Cx X w l0 cc n0 RX4 rm ret) (hd : decode cc pc = .ok (.getfield 15, 3)) (h : J X w Q (pc + 3) lv (rr w 16 :: st) S) : J X w Q pc lv (rr w 14 :: st) S := j_get C 14 3 rfl (ci := 4) rfl (by decide) in_X4 k_205 rfl hd h
theorem as_16 {X : Mx} {w : Wt} {l0 : Launch} {cc : ByteArray} {n0 : Nat} {rm : Room} {ret : Option FieldType} {Q : State → Prop} {pc : Nat} {lv : List (Nat × Value)} {st : List Value} {S : St} {own : String} {i x : Int32} (C : Cx X w l0 cc n0 own rm ret) (hd : decode cc pc = .ok (.iastore, 1)) (hin : vp_in i 9) (h : ∀ S1 : St, S1 = si S 16 i.toNatClampNeg x → J X w Q (pc + 1) lv st S1) : J X w Q pc lv (.int x :: .int i :: rr w 16 :: st) S := j_iast C 16 rfl (fun _ => rfl) hin hd (h _ rfl)
theorem cv_RX4_46 : CS RX4 46 yJ7_fill_53178 cJ7_fill_53178 4 none 2 := ⟨k_320, k_468, k_319, k_94, by decide +kernel⟩
theorem gf_RX4_18_14 {X : Mx} {w : Wt} {l0 : Launch} {cc : ByteArray} {n0 : Nat} {rm : Room} {ret : Option FieldType} {Q : State → Prop} {pc : Nat} {lv : List (Nat × Value)} {st : List Value} {S : St} (C : Cx X w l0 cc n0 RX4 rm ret) (hd : decode cc pc = .ok (.getfield 18, 3)) (h : J X w Q (pc + 3) lv (rr w 17 :: st) S) : J X w Q pc lv (rr w 14 :: st) S := j_get C 14 4 rfl (ci := 4) rfl (by decide) in_X4 k_207 rfl hd h
theorem as_17 {X : Mx} {w : Wt} {l0 : Launch} {cc : ByteArray} {n0 : Nat} {rm : Room} {ret : Option FieldType} {Q : State → Prop} {pc : Nat} {lv : List (Nat × Value)} {st : List Value} {S : St} {own : String} {i x : Int32} (C : Cx X w l0 cc n0 own rm ret) (hd : decode cc pc = .ok (.iastore, 1)) (hin : vp_in i 9) (h : ∀ S1 : St, S1 = si S 17 i.toNatClampNeg x → J X w Q (pc + 1) lv st S1) : J X w Q pc lv (.int x :: .int i :: rr w 17 :: st) S := j_iast C 17 rfl (fun _ => rfl) hin hd (h _ rfl)
theorem gf_RX4_32_14 {X : Mx} {w : Wt} {l0 : Launch} {cc : ByteArray} {n0 : Nat} {rm : Room} {ret : Option FieldType} {Q : State → Prop} {pc : Nat} {lv : List (Nat × Value)} {st : List Value} {S : St} (C : Cx X w l0 cc n0 RX4 rm ret) (hd : decode cc pc = .ok (.getfield 32, 3)) (h : J X w Q (pc + 3) lv (.int (S.1 14 1) :: st) S) : J X w Q pc lv (rr w 14 :: st) S := j_get C 14 1 rfl (ci := 4) rfl (by decide) in_X4 k_200 rfl hd h
theorem gf_RX4_27_14 {X : Mx} {w : Wt} {l0 : Launch} {cc : ByteArray} {n0 : Nat} {rm : Room} {ret : Option FieldType} {Q : State → Prop} {pc : Nat} {lv : List (Nat × Value)} {st : List Value} {S : St} (C : Cx X w l0 cc n0 RX4 rm ret) (hd : decode cc pc = .ok (.getfield 27, 3)) (h : J X w Q (pc + 3) lv (.int (S.1 14 0) :: st) S) : J X w Q pc lv (rr w 14 :: st) S := j_get C 14 0 rfl (ci := 4) rfl (by decide) in_X4 k_198 rfl hd h
theorem gf_RX4_52_2 {X : Mx} {w : Wt} {l0 : Launch} {cc : ByteArray} {n0 : Nat} {rm : Room} {ret : Option FieldType} {Q : State → Prop} {pc : Nat} {lv : List (Nat × Value)} {st : List Value} {S : St} (C : Cx X w l0 cc n0 RX4 rm ret) (hd : decode cc pc = .ok (.getfield 52, 3)) (h : J X w Q (pc + 3) lv (.int (S.1 2 1) :: st) S) : J X w Q pc lv (rr w 2 :: st) S := j_get C 2 1 rfl (ci := 0) rfl (by decide) in_X0 k_120 rfl hd h
theorem cv_RX4_42 : CN RX4 42 yX6_bit cX6_bit 2 (some .int) 2 := ⟨k_409, by decide +kernel, k_408, k_86, by decide +kernel⟩
theorem al_15 {X : Mx} {w : Wt} {l0 : Launch} {cc : ByteArray} {n0 : Nat} {rm : Room} {ret : Option FieldType} {Q : State → Prop} {pc : Nat} {lv : List (Nat × Value)} {st : List Value} {S : St} {own : String} {i : Int32} (C : Cx X w l0 cc n0 own rm ret) (hd : decode cc pc = .ok (.iaload, 1)) (hin : vp_in i 9) (h : J X w Q (pc + 1) lv (.int (S.1 15 i.toNatClampNeg) :: st) S) : J X w Q pc lv (.int i :: rr w 15 :: st) S := j_iald C 15 rfl hin hd h
theorem cv_RX4_58 : CV RX4 58 yX4_vouchedBy cX4_vouchedBy 4 (some .int) 1 := ⟨k_473, k_470, k_471, k_472, k_91, by decide +kernel⟩
theorem gf_RX4_55_2 {X : Mx} {w : Wt} {l0 : Launch} {cc : ByteArray} {n0 : Nat} {rm : Room} {ret : Option FieldType} {Q : State → Prop} {pc : Nat} {lv : List (Nat × Value)} {st : List Value} {S : St} (C : Cx X w l0 cc n0 RX4 rm ret) (hd : decode cc pc = .ok (.getfield 55, 3)) (h : J X w Q (pc + 3) lv (rr w 3 :: st) S) : J X w Q pc lv (rr w 2 :: st) S := j_get C 2 2 rfl (ci := 0) rfl (by decide) in_X0 k_125 rfl hd h
theorem cv_RX6_186 : CV RX6 186 yX4_settle cX4_settle 7 none 1 := ⟨k_467, k_464, k_465, k_466, k_91, by decide +kernel⟩
theorem cv_RX6_140 : CV RX6 140 yX6_prepareWeb cX6_prepareWeb 1 none 0 := ⟨k_457, k_454, k_456, k_10, k_86, by decide +kernel⟩
theorem al_16 {X : Mx} {w : Wt} {l0 : Launch} {cc : ByteArray} {n0 : Nat} {rm : Room} {ret : Option FieldType} {Q : State → Prop} {pc : Nat} {lv : List (Nat × Value)} {st : List Value} {S : St} {own : String} {i : Int32} (C : Cx X w l0 cc n0 own rm ret) (hd : decode cc pc = .ok (.iaload, 1)) (hin : vp_in i 9) (h : J X w Q (pc + 1) lv (.int (S.1 16 i.toNatClampNeg) :: st) S) : J X w Q pc lv (.int i :: rr w 16 :: st) S := j_iald C 16 rfl hin hd h
theorem cv_RX6_143 : CV RX6 143 yX4_personsWithLevel cX4_personsWithLevel 3 (some .int) 0 := ⟨k_477, k_474, k_475, k_476, k_91, by decide +kernel⟩
theorem mx_RX4_61 {X : Mx} {w : Wt} {l0 : Launch} {cc : ByteArray} {n0 : Nat} {rm : Room} {ret : Option FieldType} {Q : State → Prop} {pc : Nat} {lv : List (Nat × Value)} {st : List Value} {S : St} {x y : Int32} (C : Cx X w l0 cc n0 RX4 rm ret) (hd : decode cc pc = .ok (.invokestatic 61, 3)) (hfr : 1 ≤ rm.frames) (hlo : (st.map fun v => v.category).sum + 18 ≤ rm.locals) (h : J X w Q (pc + 3) lv (.int (if x < y then y else x) :: st) S) : J X w Q pc lv (.int y :: .int x :: st) S := j_mmaxI C (tb_mem 482 (by decide +kernel) rfl) (tb_mem 483 (by decide +kernel) rfl) (tb_mem 97 (by decide +kernel) rfl) (tb_mem 484 (by decide +kernel) rfl) hfr (by omega) hd h
theorem cv_RX6_148 : CV RX6 148 yX4_greatestLevel cX4_greatestLevel 3 (some .int) 0 := ⟨k_481, k_478, k_479, k_480, k_91, by decide +kernel⟩
theorem cv_RX6_151 : CV RX6 151 yX0_everyone cX0_everyone 1 (some .int) 0 := ⟨k_488, k_485, k_486, k_487, k_87, by decide +kernel⟩
theorem al_17 {X : Mx} {w : Wt} {l0 : Launch} {cc : ByteArray} {n0 : Nat} {rm : Room} {ret : Option FieldType} {Q : State → Prop} {pc : Nat} {lv : List (Nat × Value)} {st : List Value} {S : St} {own : String} {i : Int32} (C : Cx X w l0 cc n0 own rm ret) (hd : decode cc pc = .ok (.iaload, 1)) (hin : vp_in i 9) (h : J X w Q (pc + 1) lv (.int (S.1 17 i.toNatClampNeg) :: st) S) : J X w Q pc lv (.int i :: rr w 17 :: st) S := j_iald C 17 rfl hin hd h
theorem cv_RX6_154 : CV RX6 154 yX4_limitsOf cX4_limitsOf 4 (some .int) 1 := ⟨k_492, k_489, k_490, k_491, k_91, by decide +kernel⟩
theorem gf_RX7_34_25 {X : Mx} {w : Wt} {l0 : Launch} {cc : ByteArray} {n0 : Nat} {rm : Room} {ret : Option FieldType} {Q : State → Prop} {pc : Nat} {lv : List (Nat × Value)} {st : List Value} {S : St} (C : Cx X w l0 cc n0 RX7 rm ret) (hd : decode cc pc = .ok (.getfield 34, 3)) (h : J X w Q (pc + 3) lv (rr w 34 :: st) S) : J X w Q pc lv (rr w 25 :: st) S := j_get C 25 23 rfl (ci := 7) rfl (by decide) in_X7 k_740 rfl hd h
theorem gf_RX7_31_25 {X : Mx} {w : Wt} {l0 : Launch} {cc : ByteArray} {n0 : Nat} {rm : Room} {ret : Option FieldType} {Q : State → Prop} {pc : Nat} {lv : List (Nat × Value)} {st : List Value} {S : St} (C : Cx X w l0 cc n0 RX7 rm ret) (hd : decode cc pc = .ok (.getfield 31, 3)) (h : J X w Q (pc + 3) lv (rr w 33 :: st) S) : J X w Q pc lv (rr w 25 :: st) S := j_get C 25 22 rfl (ci := 7) rfl (by decide) in_X7 k_739 rfl hd h
theorem al_33 {X : Mx} {w : Wt} {l0 : Launch} {cc : ByteArray} {n0 : Nat} {rm : Room} {ret : Option FieldType} {Q : State → Prop} {pc : Nat} {lv : List (Nat × Value)} {st : List Value} {S : St} {own : String} {i : Int32} (C : Cx X w l0 cc n0 own rm ret) (hd : decode cc pc = .ok (.iaload, 1)) (hin : vp_in i 9) (h : J X w Q (pc + 1) lv (.int (S.1 33 i.toNatClampNeg) :: st) S) : J X w Q pc lv (.int i :: rr w 33 :: st) S := j_iald C 33 rfl hin hd h
theorem as_34 {X : Mx} {w : Wt} {l0 : Launch} {cc : ByteArray} {n0 : Nat} {rm : Room} {ret : Option FieldType} {Q : State → Prop} {pc : Nat} {lv : List (Nat × Value)} {st : List Value} {S : St} {own : String} {i x : Int32} (C : Cx X w l0 cc n0 own rm ret) (hd : decode cc pc = .ok (.iastore, 1)) (hin : vp_in i 9) (h : ∀ S1 : St, S1 = si S 34 i.toNatClampNeg x → J X w Q (pc + 1) lv st S1) : J X w Q pc lv (.int x :: .int i :: rr w 34 :: st) S := j_iast C 34 rfl (fun _ => rfl) hin hd (h _ rfl)
theorem cv_RX7_160 : CV RX7 160 yX7_vouchedBy cX7_vouchedBy 4 (some .int) 1 := ⟨k_936, k_933, k_935, k_48, k_93, by decide +kernel⟩
theorem as_33 {X : Mx} {w : Wt} {l0 : Launch} {cc : ByteArray} {n0 : Nat} {rm : Room} {ret : Option FieldType} {Q : State → Prop} {pc : Nat} {lv : List (Nat × Value)} {st : List Value} {S : St} {own : String} {i x : Int32} (C : Cx X w l0 cc n0 own rm ret) (hd : decode cc pc = .ok (.iastore, 1)) (hin : vp_in i 9) (h : ∀ S1 : St, S1 = si S 33 i.toNatClampNeg x → J X w Q (pc + 1) lv st S1) : J X w Q pc lv (.int x :: .int i :: rr w 33 :: st) S := j_iast C 33 rfl (fun _ => rfl) hin hd (h _ rfl)
theorem cv_RX7_163 : CV RX7 163 yX7_layLevels cX7_layLevels 5 none 0 := ⟨k_932, k_929, k_931, k_47, k_93, by decide +kernel⟩
theorem cv_RX7_175 : CV RX7 175 yX7_vouchesAll cX7_vouchesAll 3 (some .int) 0 := ⟨k_940, k_937, k_939, k_49, k_93, by decide +kernel⟩
theorem cv_RX7_178 : CV RX7 178 yX7_levelsMany cX7_levelsMany 3 (some .int) 0 := ⟨k_944, k_941, k_943, k_50, k_93, by decide +kernel⟩
theorem cv_RX7_181 : CV RX7 181 yX7_greatestLevel cX7_greatestLevel 3 (some .int) 0 := ⟨k_948, k_945, k_947, k_51, k_93, by decide +kernel⟩
theorem al_34 {X : Mx} {w : Wt} {l0 : Launch} {cc : ByteArray} {n0 : Nat} {rm : Room} {ret : Option FieldType} {Q : State → Prop} {pc : Nat} {lv : List (Nat × Value)} {st : List Value} {S : St} {own : String} {i : Int32} (C : Cx X w l0 cc n0 own rm ret) (hd : decode cc pc = .ok (.iaload, 1)) (hin : vp_in i 9) (h : J X w Q (pc + 1) lv (.int (S.1 34 i.toNatClampNeg) :: st) S) : J X w Q pc lv (.int i :: rr w 34 :: st) S := j_iald C 34 rfl hin hd h
theorem cv_RX7_169 : CV RX7 169 yX7_mostOf cX7_mostOf 4 (some .int) 1 := ⟨k_952, k_949, k_951, k_52, k_93, by decide +kernel⟩
theorem cv_RX7_184 : CV RX7 184 yX7_aboutNow cX7_aboutNow 2 (some .int) 1 := ⟨k_928, k_925, k_927, k_46, k_93, by decide +kernel⟩
theorem gf_RX6_163_14 {X : Mx} {w : Wt} {l0 : Launch} {cc : ByteArray} {n0 : Nat} {rm : Room} {ret : Option FieldType} {Q : State → Prop} {pc : Nat} {lv : List (Nat × Value)} {st : List Value} {S : St} (C : Cx X w l0 cc n0 RX6 rm ret) (hd : decode cc pc = .ok (.getfield 163, 3)) (h : J X w Q (pc + 3) lv (rr w 16 :: st) S) : J X w Q pc lv (rr w 14 :: st) S := j_get C 14 3 rfl (ci := 4) rfl (by decide) in_X4 k_206 rfl hd h
theorem gf_RX6_166_14 {X : Mx} {w : Wt} {l0 : Launch} {cc : ByteArray} {n0 : Nat} {rm : Room} {ret : Option FieldType} {Q : State → Prop} {pc : Nat} {lv : List (Nat × Value)} {st : List Value} {S : St} (C : Cx X w l0 cc n0 RX6 rm ret) (hd : decode cc pc = .ok (.getfield 166, 3)) (h : J X w Q (pc + 3) lv (rr w 17 :: st) S) : J X w Q pc lv (rr w 14 :: st) S := j_get C 14 4 rfl (ci := 4) rfl (by decide) in_X4 k_209 rfl hd h
theorem cv_RX6_176 : CV RX6 176 yX6_takenIn cX6_takenIn 4 (some .int) 0 := ⟨k_556, k_553, k_555, k_20, k_86, by decide +kernel⟩
theorem cv_RX6_172 : CS RX6 172 yX6_bit cX6_bit 2 (some .int) 2 := ⟨k_409, k_552, k_408, k_86, by decide +kernel⟩
theorem gf_RX6_37_0 {X : Mx} {w : Wt} {l0 : Launch} {cc : ByteArray} {n0 : Nat} {rm : Room} {ret : Option FieldType} {Q : State → Prop} {pc : Nat} {lv : List (Nat × Value)} {st : List Value} {S : St} (C : Cx X w l0 cc n0 RX6 rm ret) (hd : decode cc pc = .ok (.getfield 37, 3)) (h : J X w Q (pc + 3) lv (rr w 13 :: st) S) : J X w Q pc lv (rr w 0 :: st) S := j_get C 0 5 rfl (ci := 6) rfl (by decide) in_X6 k_269 rfl hd h
theorem gf_RX1_18_13 {X : Mx} {w : Wt} {l0 : Launch} {cc : ByteArray} {n0 : Nat} {rm : Room} {ret : Option FieldType} {Q : State → Prop} {pc : Nat} {lv : List (Nat × Value)} {st : List Value} {S : St} (C : Cx X w l0 cc n0 RX1 rm ret) (hd : decode cc pc = .ok (.getfield 18, 3)) (h : J X w Q (pc + 3) lv (rr w 18 :: st) S) : J X w Q pc lv (rr w 13 :: st) S := j_get C 13 1 rfl (ci := 1) rfl (by decide) in_X1 k_223 rfl hd h
theorem as_18 {X : Mx} {w : Wt} {l0 : Launch} {cc : ByteArray} {n0 : Nat} {rm : Room} {ret : Option FieldType} {Q : State → Prop} {pc : Nat} {lv : List (Nat × Value)} {st : List Value} {S : St} {own : String} {i x : Int32} (C : Cx X w l0 cc n0 own rm ret) (hd : decode cc pc = .ok (.iastore, 1)) (hin : vp_in i 9) (h : ∀ S1 : St, S1 = si S 18 i.toNatClampNeg x → J X w Q (pc + 1) lv st S1) : J X w Q pc lv (.int x :: .int i :: rr w 18 :: st) S := j_iast C 18 rfl (fun _ => rfl) hin hd (h _ rfl)
theorem cv_RX1_31 : CS RX1 31 yJ7_fill_53178 cJ7_fill_53178 4 none 2 := ⟨k_320, k_514, k_319, k_94, by decide +kernel⟩
theorem gf_RX1_22_13 {X : Mx} {w : Wt} {l0 : Launch} {cc : ByteArray} {n0 : Nat} {rm : Room} {ret : Option FieldType} {Q : State → Prop} {pc : Nat} {lv : List (Nat × Value)} {st : List Value} {S : St} (C : Cx X w l0 cc n0 RX1 rm ret) (hd : decode cc pc = .ok (.getfield 22, 3)) (h : J X w Q (pc + 3) lv (rr w 19 :: st) S) : J X w Q pc lv (rr w 13 :: st) S := j_get C 13 2 rfl (ci := 1) rfl (by decide) in_X1 k_224 rfl hd h
theorem as_19 {X : Mx} {w : Wt} {l0 : Launch} {cc : ByteArray} {n0 : Nat} {rm : Room} {ret : Option FieldType} {Q : State → Prop} {pc : Nat} {lv : List (Nat × Value)} {st : List Value} {S : St} {own : String} {i x : Int32} (C : Cx X w l0 cc n0 own rm ret) (hd : decode cc pc = .ok (.iastore, 1)) (hin : vp_in i 81) (h : ∀ S1 : St, S1 = si S 19 i.toNatClampNeg x → J X w Q (pc + 1) lv st S1) : J X w Q pc lv (.int x :: .int i :: rr w 19 :: st) S := j_iast C 19 rfl (fun _ => rfl) hin hd (h _ rfl)
theorem cv_RX6_276 : CV RX6 276 yX1_begin cX1_begin 1 none 0 := ⟨k_513, k_510, k_511, k_512, k_90, by decide +kernel⟩
theorem rc_13 (w : Wt) : RC w 13 RX1 := fun S => ⟨1, _, _, rfl, rfl, rfl⟩
theorem pf_RX1_41_13 {X : Mx} {w : Wt} {l0 : Launch} {cc : ByteArray} {n0 : Nat} {rm : Room} {ret : Option FieldType} {Q : State → Prop} {pc : Nat} {lv : List (Nat × Value)} {st : List Value} {S : St} {v : Int32} (C : Cx X w l0 cc n0 RX1 rm ret) (hd : decode cc pc = .ok (.putfield 41, 3)) (h : ∀ S1 : St, S1 = si S 13 6 v → J X w Q (pc + 3) lv st S1) : J X w Q pc lv (.int v :: rr w 13 :: st) S := j_put C 13 6 rfl (ci := 1) rfl (by decide) in_X1 tyX1 tyX1_ok nmX1 k_228 rfl (ty := .int) (by decide +kernel) rfl rfl (Nat.le_of_ble_eq_true rfl) rfl hd (h _ rfl)
theorem pf_RX1_53_13 {X : Mx} {w : Wt} {l0 : Launch} {cc : ByteArray} {n0 : Nat} {rm : Room} {ret : Option FieldType} {Q : State → Prop} {pc : Nat} {lv : List (Nat × Value)} {st : List Value} {S : St} {v : Int32} (C : Cx X w l0 cc n0 RX1 rm ret) (hd : decode cc pc = .ok (.putfield 53, 3)) (h : ∀ S1 : St, S1 = si S 13 5 v → J X w Q (pc + 3) lv st S1) : J X w Q pc lv (.int v :: rr w 13 :: st) S := j_put C 13 5 rfl (ci := 1) rfl (by decide) in_X1 tyX1 tyX1_ok nmX1 k_227 rfl (ty := .int) (by decide +kernel) rfl rfl (Nat.le_of_ble_eq_true rfl) rfl hd (h _ rfl)
theorem gf_RX1_12_13 {X : Mx} {w : Wt} {l0 : Launch} {cc : ByteArray} {n0 : Nat} {rm : Room} {ret : Option FieldType} {Q : State → Prop} {pc : Nat} {lv : List (Nat × Value)} {st : List Value} {S : St} (C : Cx X w l0 cc n0 RX1 rm ret) (hd : decode cc pc = .ok (.getfield 12, 3)) (h : J X w Q (pc + 3) lv (rr w 14 :: st) S) : J X w Q pc lv (rr w 13 :: st) S := j_get C 13 0 rfl (ci := 1) rfl (by decide) in_X1 k_221 rfl hd h
theorem gf_RX1_56_14 {X : Mx} {w : Wt} {l0 : Launch} {cc : ByteArray} {n0 : Nat} {rm : Room} {ret : Option FieldType} {Q : State → Prop} {pc : Nat} {lv : List (Nat × Value)} {st : List Value} {S : St} (C : Cx X w l0 cc n0 RX1 rm ret) (hd : decode cc pc = .ok (.getfield 56, 3)) (h : J X w Q (pc + 3) lv (.int (S.1 14 1) :: st) S) : J X w Q pc lv (rr w 14 :: st) S := j_get C 14 1 rfl (ci := 4) rfl (by decide) in_X4 k_201 rfl hd h
theorem gf_RX1_41_13 {X : Mx} {w : Wt} {l0 : Launch} {cc : ByteArray} {n0 : Nat} {rm : Room} {ret : Option FieldType} {Q : State → Prop} {pc : Nat} {lv : List (Nat × Value)} {st : List Value} {S : St} (C : Cx X w l0 cc n0 RX1 rm ret) (hd : decode cc pc = .ok (.getfield 41, 3)) (h : J X w Q (pc + 3) lv (.int (S.1 13 6) :: st) S) : J X w Q pc lv (rr w 13 :: st) S := j_get C 13 6 rfl (ci := 1) rfl (by decide) in_X1 k_228 rfl hd h
theorem gf_RX1_53_13 {X : Mx} {w : Wt} {l0 : Launch} {cc : ByteArray} {n0 : Nat} {rm : Room} {ret : Option FieldType} {Q : State → Prop} {pc : Nat} {lv : List (Nat × Value)} {st : List Value} {S : St} (C : Cx X w l0 cc n0 RX1 rm ret) (hd : decode cc pc = .ok (.getfield 53, 3)) (h : J X w Q (pc + 3) lv (.int (S.1 13 5) :: st) S) : J X w Q pc lv (rr w 13 :: st) S := j_get C 13 5 rfl (ci := 1) rfl (by decide) in_X1 k_227 rfl hd h
theorem gf_RX1_25_13 {X : Mx} {w : Wt} {l0 : Launch} {cc : ByteArray} {n0 : Nat} {rm : Room} {ret : Option FieldType} {Q : State → Prop} {pc : Nat} {lv : List (Nat × Value)} {st : List Value} {S : St} (C : Cx X w l0 cc n0 RX1 rm ret) (hd : decode cc pc = .ok (.getfield 25, 3)) (h : J X w Q (pc + 3) lv (rr w 20 :: st) S) : J X w Q pc lv (rr w 13 :: st) S := j_get C 13 3 rfl (ci := 1) rfl (by decide) in_X1 k_225 rfl hd h
theorem as_20 {X : Mx} {w : Wt} {l0 : Launch} {cc : ByteArray} {n0 : Nat} {rm : Room} {ret : Option FieldType} {Q : State → Prop} {pc : Nat} {lv : List (Nat × Value)} {st : List Value} {S : St} {own : String} {i x : Int32} (C : Cx X w l0 cc n0 own rm ret) (hd : decode cc pc = .ok (.iastore, 1)) (hin : vp_in i 18) (h : ∀ S1 : St, S1 = si S 20 i.toNatClampNeg x → J X w Q (pc + 1) lv st S1) : J X w Q pc lv (.int x :: .int i :: rr w 20 :: st) S := j_iast C 20 rfl (fun _ => rfl) hin hd (h _ rfl)
theorem gf_RX1_28_13 {X : Mx} {w : Wt} {l0 : Launch} {cc : ByteArray} {n0 : Nat} {rm : Room} {ret : Option FieldType} {Q : State → Prop} {pc : Nat} {lv : List (Nat × Value)} {st : List Value} {S : St} (C : Cx X w l0 cc n0 RX1 rm ret) (hd : decode cc pc = .ok (.getfield 28, 3)) (h : J X w Q (pc + 3) lv (rr w 21 :: st) S) : J X w Q pc lv (rr w 13 :: st) S := j_get C 13 4 rfl (ci := 1) rfl (by decide) in_X1 k_226 rfl hd h
theorem as_21 {X : Mx} {w : Wt} {l0 : Launch} {cc : ByteArray} {n0 : Nat} {rm : Room} {ret : Option FieldType} {Q : State → Prop} {pc : Nat} {lv : List (Nat × Value)} {st : List Value} {S : St} {own : String} {i x : Int32} (C : Cx X w l0 cc n0 own rm ret) (hd : decode cc pc = .ok (.iastore, 1)) (hin : vp_in i 18) (h : ∀ S1 : St, S1 = si S 21 i.toNatClampNeg x → J X w Q (pc + 1) lv st S1) : J X w Q pc lv (.int x :: .int i :: rr w 21 :: st) S := j_iast C 21 rfl (fun _ => rfl) hin hd (h _ rfl)
theorem cv_RX1_59 : CV RX1 59 yX1_note cX1_note 5 none 2 := ⟨k_526, k_523, k_525, k_13, k_90, by decide +kernel⟩
theorem al_21 {X : Mx} {w : Wt} {l0 : Launch} {cc : ByteArray} {n0 : Nat} {rm : Room} {ret : Option FieldType} {Q : State → Prop} {pc : Nat} {lv : List (Nat × Value)} {st : List Value} {S : St} {own : String} {i : Int32} (C : Cx X w l0 cc n0 own rm ret) (hd : decode cc pc = .ok (.iaload, 1)) (hin : vp_in i 18) (h : J X w Q (pc + 1) lv (.int (S.1 21 i.toNatClampNeg) :: st) S) : J X w Q pc lv (.int i :: rr w 21 :: st) S := j_iald C 21 rfl hin hd h
theorem gf_RX1_75_14 {X : Mx} {w : Wt} {l0 : Launch} {cc : ByteArray} {n0 : Nat} {rm : Room} {ret : Option FieldType} {Q : State → Prop} {pc : Nat} {lv : List (Nat × Value)} {st : List Value} {S : St} (C : Cx X w l0 cc n0 RX1 rm ret) (hd : decode cc pc = .ok (.getfield 75, 3)) (h : J X w Q (pc + 3) lv (rr w 15 :: st) S) : J X w Q pc lv (rr w 14 :: st) S := j_get C 14 2 rfl (ci := 4) rfl (by decide) in_X4 k_204 rfl hd h
theorem al_18 {X : Mx} {w : Wt} {l0 : Launch} {cc : ByteArray} {n0 : Nat} {rm : Room} {ret : Option FieldType} {Q : State → Prop} {pc : Nat} {lv : List (Nat × Value)} {st : List Value} {S : St} {own : String} {i : Int32} (C : Cx X w l0 cc n0 own rm ret) (hd : decode cc pc = .ok (.iaload, 1)) (hin : vp_in i 9) (h : J X w Q (pc + 1) lv (.int (S.1 18 i.toNatClampNeg) :: st) S) : J X w Q pc lv (.int i :: rr w 18 :: st) S := j_iald C 18 rfl hin hd h
theorem cv_RX1_66 : CV RX1 66 yX1_nextOfGoing cX1_nextOfGoing 2 (some .int) 1 := ⟨k_534, k_531, k_533, k_15, k_90, by decide +kernel⟩
theorem gf_RX1_69_14 {X : Mx} {w : Wt} {l0 : Launch} {cc : ByteArray} {n0 : Nat} {rm : Room} {ret : Option FieldType} {Q : State → Prop} {pc : Nat} {lv : List (Nat × Value)} {st : List Value} {S : St} (C : Cx X w l0 cc n0 RX1 rm ret) (hd : decode cc pc = .ok (.getfield 69, 3)) (h : J X w Q (pc + 3) lv (rr w 17 :: st) S) : J X w Q pc lv (rr w 14 :: st) S := j_get C 14 4 rfl (ci := 4) rfl (by decide) in_X4 k_208 rfl hd h
theorem gf_RX1_72_14 {X : Mx} {w : Wt} {l0 : Launch} {cc : ByteArray} {n0 : Nat} {rm : Room} {ret : Option FieldType} {Q : State → Prop} {pc : Nat} {lv : List (Nat × Value)} {st : List Value} {S : St} (C : Cx X w l0 cc n0 RX1 rm ret) (hd : decode cc pc = .ok (.getfield 72, 3)) (h : J X w Q (pc + 3) lv (.int (S.1 14 0) :: st) S) : J X w Q pc lv (rr w 14 :: st) S := j_get C 14 0 rfl (ci := 4) rfl (by decide) in_X4 k_199 rfl hd h
theorem al_19 {X : Mx} {w : Wt} {l0 : Launch} {cc : ByteArray} {n0 : Nat} {rm : Room} {ret : Option FieldType} {Q : State → Prop} {pc : Nat} {lv : List (Nat × Value)} {st : List Value} {S : St} {own : String} {i : Int32} (C : Cx X w l0 cc n0 own rm ret) (hd : decode cc pc = .ok (.iaload, 1)) (hin : vp_in i 81) (h : J X w Q (pc + 1) lv (.int (S.1 19 i.toNatClampNeg) :: st) S) : J X w Q pc lv (.int i :: rr w 19 :: st) S := j_iald C 19 rfl hin hd h
theorem cv_RX1_62 : CV RX1 62 yX1_nextOfComing cX1_nextOfComing 4 (some .int) 1 := ⟨k_530, k_527, k_529, k_14, k_90, by decide +kernel⟩
theorem cv_RX1_37 : CV RX1 37 yX1_search cX1_search 4 none 1 := ⟨k_522, k_519, k_521, k_12, k_90, by decide +kernel⟩
theorem cv_RX1_45 : CN RX1 45 yX6_bit cX6_bit 2 (some .int) 2 := ⟨k_409, by decide +kernel, k_408, k_86, by decide +kernel⟩
theorem al_20 {X : Mx} {w : Wt} {l0 : Launch} {cc : ByteArray} {n0 : Nat} {rm : Room} {ret : Option FieldType} {Q : State → Prop} {pc : Nat} {lv : List (Nat × Value)} {st : List Value} {S : St} {own : String} {i : Int32} (C : Cx X w l0 cc n0 own rm ret) (hd : decode cc pc = .ok (.iaload, 1)) (hin : vp_in i 18) (h : J X w Q (pc + 1) lv (.int (S.1 20 i.toNatClampNeg) :: st) S) : J X w Q pc lv (.int i :: rr w 20 :: st) S := j_iald C 20 rfl hin hd h
theorem cv_RX1_81 : CV RX1 81 yX1_moveFromGoing cX1_moveFromGoing 3 none 2 := ⟨k_547, k_544, k_546, k_18, k_90, by decide +kernel⟩
theorem cv_RX1_78 : CV RX1 78 yX1_moveFromComing cX1_moveFromComing 3 none 2 := ⟨k_543, k_540, k_542, k_17, k_90, by decide +kernel⟩
theorem cv_RX1_49 : CV RX1 49 yX1_move cX1_move 3 none 2 := ⟨k_539, k_536, k_538, k_16, k_90, by decide +kernel⟩
theorem cv_RX6_277 : CV RX6 277 yX1_sendTo cX1_sendTo 4 (some .boolean) 1 := ⟨k_518, k_515, k_516, k_517, k_90, by decide +kernel⟩
theorem cv_RX6_169 : CV RX6 169 yX6_admitted cX6_admitted 4 (some .int) 1 := ⟨k_551, k_548, k_550, k_19, k_86, by decide +kernel⟩
theorem cv_RX0_48 : CV RX0 48 yX0_hasVouch cX0_hasVouch 3 (some .boolean) 2 := ⟨k_406, k_501, k_404, k_405, k_87, by decide +kernel⟩
theorem cv_RX6_157 : CV RX6 157 yX0_vouchersOf cX0_vouchersOf 4 (some .int) 1 := ⟨k_500, k_497, k_498, k_499, k_87, by decide +kernel⟩
theorem cv_RX6_280 : CV RX6 280 yX4_allowOnePathThroughAllBut cX4_allowOnePathThroughAllBut 2 none 1 := ⟨k_509, k_506, k_507, k_508, k_91, by decide +kernel⟩
theorem cv_RX6_160 : CV RX6 160 yX6_waysTo cX6_waysTo 4 (some .int) 1 := ⟨k_505, k_502, k_504, k_11, k_86, by decide +kernel⟩
theorem gf_RX7_37_25 {X : Mx} {w : Wt} {l0 : Launch} {cc : ByteArray} {n0 : Nat} {rm : Room} {ret : Option FieldType} {Q : State → Prop} {pc : Nat} {lv : List (Nat × Value)} {st : List Value} {S : St} (C : Cx X w l0 cc n0 RX7 rm ret) (hd : decode cc pc = .ok (.getfield 37, 3)) (h : J X w Q (pc + 3) lv (rr w 35 :: st) S) : J X w Q pc lv (rr w 25 :: st) S := j_get C 25 24 rfl (ci := 7) rfl (by decide) in_X7 k_741 rfl hd h
theorem cv_RX7_166 : CV RX7 166 yX7_wallOf cX7_wallOf 2 (some .int) 1 := ⟨k_968, k_965, k_967, k_55, k_93, by decide +kernel⟩
theorem as_35 {X : Mx} {w : Wt} {l0 : Launch} {cc : ByteArray} {n0 : Nat} {rm : Room} {ret : Option FieldType} {Q : State → Prop} {pc : Nat} {lv : List (Nat × Value)} {st : List Value} {S : St} {own : String} {i x : Int32} (C : Cx X w l0 cc n0 own rm ret) (hd : decode cc pc = .ok (.iastore, 1)) (hin : vp_in i 512) (h : ∀ S1 : St, S1 = si S 35 i.toNatClampNeg x → J X w Q (pc + 1) lv st S1) : J X w Q pc lv (.int x :: .int i :: rr w 35 :: st) S := j_iast C 35 rfl (fun _ => rfl) hin hd (h _ rfl)
theorem cv_RX7_187 : CV RX7 187 yX7_lay cX7_lay 2 none 0 := ⟨k_964, k_961, k_963, k_54, k_93, by decide +kernel⟩
theorem cv_RX7_190 : CV RX7 190 yX7_vouchersOf cX7_vouchersOf 4 (some .int) 1 := ⟨k_972, k_969, k_971, k_56, k_93, by decide +kernel⟩
theorem al_35 {X : Mx} {w : Wt} {l0 : Launch} {cc : ByteArray} {n0 : Nat} {rm : Room} {ret : Option FieldType} {Q : State → Prop} {pc : Nat} {lv : List (Nat × Value)} {st : List Value} {S : St} {own : String} {i : Int32} (C : Cx X w l0 cc n0 own rm ret) (hd : decode cc pc = .ok (.iaload, 1)) (hin : vp_in i 512) (h : J X w Q (pc + 1) lv (.int (S.1 35 i.toNatClampNeg) :: st) S) : J X w Q pc lv (.int i :: rr w 35 :: st) S := j_iald C 35 rfl hin hd h
theorem cv_RX7_172 : CV RX7 172 yX7_canBe cX7_canBe 4 (some .boolean) 1 := ⟨k_980, k_977, k_979, k_58, k_93, by decide +kernel⟩
theorem cv_RX7_193 : CV RX7 193 yX7_allIn cX7_allIn 3 (some .int) 0 := ⟨k_976, k_973, k_975, k_57, k_93, by decide +kernel⟩
theorem cv_RX7_196 : CV RX7 196 yX7_takenIn cX7_takenIn 4 (some .int) 0 := ⟨k_984, k_981, k_983, k_59, k_93, by decide +kernel⟩
theorem cv_RX7_230 : CV RX7 230 yX7_isLed cX7_isLed 5 (some .boolean) 2 := ⟨k_992, k_989, k_991, k_61, k_93, by decide +kernel⟩
theorem cv_RX7_199 : CV RX7 199 yX7_apartNow cX7_apartNow 5 (some .int) 1 := ⟨k_988, k_985, k_987, k_60, k_93, by decide +kernel⟩
theorem cv_RX7_202 : CV RX7 202 yX7_personNow cX7_personNow 3 (some .int) 2 := ⟨k_960, k_957, k_959, k_53, k_93, by decide +kernel⟩
theorem cv_RX7_206 : CV RX7 206 yX7_generousNow cX7_generousNow 4 (some .int) 0 := ⟨k_1004, k_1001, k_1003, k_62, k_93, by decide +kernel⟩
theorem as_15 {X : Mx} {w : Wt} {l0 : Launch} {cc : ByteArray} {n0 : Nat} {rm : Room} {ret : Option FieldType} {Q : State → Prop} {pc : Nat} {lv : List (Nat × Value)} {st : List Value} {S : St} {own : String} {i x : Int32} (C : Cx X w l0 cc n0 own rm ret) (hd : decode cc pc = .ok (.iastore, 1)) (hin : vp_in i 9) (h : ∀ S1 : St, S1 = si S 15 i.toNatClampNeg x → J X w Q (pc + 1) lv st S1) : J X w Q pc lv (.int x :: .int i :: rr w 15 :: st) S := j_iast C 15 rfl (fun _ => rfl) hin hd (h _ rfl)
theorem cv_RX6_182 : CV RX6 182 yX4_silence cX4_silence 3 none 1 := ⟨k_572, k_569, k_570, k_571, k_91, by decide +kernel⟩
theorem cv_RX7_209 : CV RX7 209 yX7_flood cX7_flood 5 (some .int) 0 := ⟨k_1016, k_1013, k_1015, k_64, k_93, by decide +kernel⟩
theorem gf_RX7_40_25 {X : Mx} {w : Wt} {l0 : Launch} {cc : ByteArray} {n0 : Nat} {rm : Room} {ret : Option FieldType} {Q : State → Prop} {pc : Nat} {lv : List (Nat × Value)} {st : List Value} {S : St} (C : Cx X w l0 cc n0 RX7 rm ret) (hd : decode cc pc = .ok (.getfield 40, 3)) (h : J X w Q (pc + 3) lv (rr w 36 :: st) S) : J X w Q pc lv (rr w 25 :: st) S := j_get C 25 25 rfl (ci := 7) rfl (by decide) in_X7 k_742 rfl hd h
theorem al_36 {X : Mx} {w : Wt} {l0 : Launch} {cc : ByteArray} {n0 : Nat} {rm : Room} {ret : Option FieldType} {Q : State → Prop} {pc : Nat} {lv : List (Nat × Value)} {st : List Value} {S : St} {own : String} {i : Int32} (C : Cx X w l0 cc n0 own rm ret) (hd : decode cc pc = .ok (.iaload, 1)) (hin : vp_in i 9) (h : J X w Q (pc + 1) lv (.int (S.1 36 i.toNatClampNeg) :: st) S) : J X w Q pc lv (.int i :: rr w 36 :: st) S := j_iald C 36 rfl hin hd h
theorem as_36 {X : Mx} {w : Wt} {l0 : Launch} {cc : ByteArray} {n0 : Nat} {rm : Room} {ret : Option FieldType} {Q : State → Prop} {pc : Nat} {lv : List (Nat × Value)} {st : List Value} {S : St} {own : String} {i x : Int32} (C : Cx X w l0 cc n0 own rm ret) (hd : decode cc pc = .ok (.iastore, 1)) (hin : vp_in i 9) (h : ∀ S1 : St, S1 = si S 36 i.toNatClampNeg x → J X w Q (pc + 1) lv st S1) : J X w Q pc lv (.int x :: .int i :: rr w 36 :: st) S := j_iast C 36 rfl (fun _ => rfl) hin hd (h _ rfl)
theorem cv_RX7_212 : CV RX7 212 yX7_withoutFalse cX7_withoutFalse 3 (some .int) 0 := ⟨k_1020, k_1017, k_1019, k_65, k_93, by decide +kernel⟩
theorem cv_RX7_215 : CV RX7 215 yX7_trustNow cX7_trustNow 2 (some .int) 1 := ⟨k_1012, k_1009, k_1011, k_63, k_93, by decide +kernel⟩
theorem cv_RX7_218 : CV RX7 218 yX7_togetherNow cX7_togetherNow 2 (some .int) 1 := ⟨k_1028, k_1025, k_1027, k_66, k_93, by decide +kernel⟩
theorem cv_RX6_189 : CV RX6 189 yX1_reached cX1_reached 1 (some .int) 0 := ⟨k_584, k_581, k_582, k_583, k_90, by decide +kernel⟩
theorem gf_RX6_192_14 {X : Mx} {w : Wt} {l0 : Launch} {cc : ByteArray} {n0 : Nat} {rm : Room} {ret : Option FieldType} {Q : State → Prop} {pc : Nat} {lv : List (Nat × Value)} {st : List Value} {S : St} (C : Cx X w l0 cc n0 RX6 rm ret) (hd : decode cc pc = .ok (.getfield 192, 3)) (h : J X w Q (pc + 3) lv (.int (S.1 14 1) :: st) S) : J X w Q pc lv (rr w 14 :: st) S := j_get C 14 1 rfl (ci := 4) rfl (by decide) in_X4 k_202 rfl hd h
theorem cv_RX6_195 : CV RX6 195 yX4_vouchedBy cX4_vouchedBy 4 (some .int) 1 := ⟨k_473, k_585, k_471, k_472, k_91, by decide +kernel⟩
theorem cv_RX7_221 : CV RX7 221 yX7_costOf cX7_costOf 2 (some .int) 1 := ⟨k_1044, k_1041, k_1043, k_69, k_93, by decide +kernel⟩
theorem cv_RX7_224 : CV RX7 224 yX7_cutSet cX7_cutSet 4 (some .int) 0 := ⟨k_1040, k_1037, k_1039, k_68, k_93, by decide +kernel⟩
theorem cv_RX7_227 : CV RX7 227 yX7_cutNow cX7_cutNow 3 (some .int) 1 := ⟨k_1036, k_1033, k_1035, k_67, k_93, by decide +kernel⟩
theorem cv_RX6_198 : CV RX6 198 yX4_reachedWithout cX4_reachedWithout 5 (some .int) 1 := ⟨k_593, k_590, k_591, k_592, k_91, by decide +kernel⟩
theorem cv_RX6_273 : CV RX6 273 yX4_leaveOut cX4_leaveOut 3 none 2 := ⟨k_605, k_602, k_603, k_604, k_91, by decide +kernel⟩
theorem cv_RX6_201 : CV RX6 201 yX6_prepareWebWithout cX6_prepareWebWithout 3 none 2 := ⟨k_601, k_598, k_600, k_21, k_86, by decide +kernel⟩
theorem cv_RX7_233 : CV RX7 233 yX7_withoutNow cX7_withoutNow 6 (some .int) 3 := ⟨k_1056, k_1053, k_1055, k_70, k_93, by decide +kernel⟩
theorem cv_RX7_237 : CV RX7 237 yX7_dearestNow cX7_dearestNow 8 (some .int) 0 := ⟨k_1064, k_1061, k_1063, k_71, k_93, by decide +kernel⟩
theorem cv_RX6_205 : CS RX6 205 yX6_isStepCount cX6_isStepCount 1 (some .boolean) 1 := ⟨k_616, k_614, k_615, k_86, by decide +kernel⟩
theorem gf_RX6_49_0 {X : Mx} {w : Wt} {l0 : Launch} {cc : ByteArray} {n0 : Nat} {rm : Room} {ret : Option FieldType} {Q : State → Prop} {pc : Nat} {lv : List (Nat × Value)} {st : List Value} {S : St} (C : Cx X w l0 cc n0 RX6 rm ret) (hd : decode cc pc = .ok (.getfield 49, 3)) (h : J X w Q (pc + 3) lv (rr w 22 :: st) S) : J X w Q pc lv (rr w 0 :: st) S := j_get C 0 7 rfl (ci := 6) rfl (by decide) in_X6 k_271 rfl hd h
theorem cv_RX3_18 : CV RX3 18 yX0_ofKind cX0_ofKind 4 (some .int) 1 := ⟨k_348, k_621, k_346, k_347, k_87, by decide +kernel⟩
theorem gf_RX3_24_2 {X : Mx} {w : Wt} {l0 : Launch} {cc : ByteArray} {n0 : Nat} {rm : Room} {ret : Option FieldType} {Q : State → Prop} {pc : Nat} {lv : List (Nat × Value)} {st : List Value} {S : St} (C : Cx X w l0 cc n0 RX3 rm ret) (hd : decode cc pc = .ok (.getfield 24, 3)) (h : J X w Q (pc + 3) lv (.int (S.1 2 0) :: st) S) : J X w Q pc lv (rr w 2 :: st) S := j_get C 2 0 rfl (ci := 0) rfl (by decide) in_X0 k_114 rfl hd h
theorem pf_RX3_28_22 {X : Mx} {w : Wt} {l0 : Launch} {cc : ByteArray} {n0 : Nat} {rm : Room} {ret : Option FieldType} {Q : State → Prop} {pc : Nat} {lv : List (Nat × Value)} {st : List Value} {S : St} {v : Int32} (C : Cx X w l0 cc n0 RX3 rm ret) (hd : decode cc pc = .ok (.putfield 28, 3)) (h : ∀ S1 : St, S1 = si S 22 0 v → J X w Q (pc + 3) lv st S1) : J X w Q pc lv (.int v :: rr w 22 :: st) S := j_put C 22 0 rfl (ci := 3) rfl (by decide) in_X3 tyX3 tyX3_ok nmX3 k_250 rfl (ty := .int) (by decide +kernel) rfl rfl (Nat.le_of_ble_eq_true rfl) rfl hd (h _ rfl)
theorem pf_RX3_31_22 {X : Mx} {w : Wt} {l0 : Launch} {cc : ByteArray} {n0 : Nat} {rm : Room} {ret : Option FieldType} {Q : State → Prop} {pc : Nat} {lv : List (Nat × Value)} {st : List Value} {S : St} {v : Int64} (C : Cx X w l0 cc n0 RX3 rm ret) (hd : decode cc pc = .ok (.putfield 31, 3)) (h : ∀ S1 : St, S1 = sj S 22 1 v → J X w Q (pc + 3) lv st S1) : J X w Q pc lv (.long v :: rr w 22 :: st) S := j_put C 22 1 rfl (ci := 3) rfl (by decide) in_X3 tyX3 tyX3_ok nmX3 k_251 rfl (ty := .long) (by decide +kernel) rfl rfl (Nat.le_of_ble_eq_true rfl) rfl hd (h _ rfl)
theorem gf_RX3_15_22 {X : Mx} {w : Wt} {l0 : Launch} {cc : ByteArray} {n0 : Nat} {rm : Room} {ret : Option FieldType} {Q : State → Prop} {pc : Nat} {lv : List (Nat × Value)} {st : List Value} {S : St} (C : Cx X w l0 cc n0 RX3 rm ret) (hd : decode cc pc = .ok (.getfield 15, 3)) (h : J X w Q (pc + 3) lv (rr w 24 :: st) S) : J X w Q pc lv (rr w 22 :: st) S := j_get C 22 3 rfl (ci := 3) rfl (by decide) in_X3 k_253 rfl hd h
theorem as_24 {X : Mx} {w : Wt} {l0 : Launch} {cc : ByteArray} {n0 : Nat} {rm : Room} {ret : Option FieldType} {Q : State → Prop} {pc : Nat} {lv : List (Nat × Value)} {st : List Value} {S : St} {own : String} {i : Int32} {x : Int64} (C : Cx X w l0 cc n0 own rm ret) (hd : decode cc pc = .ok (.lastore, 1)) (hin : vp_in i 9) (h : ∀ S1 : St, S1 = sj S 24 i.toNatClampNeg x → J X w Q (pc + 1) lv st S1) : J X w Q pc lv (.long x :: .int i :: rr w 24 :: st) S := j_last C 24 rfl (fun _ => rfl) hin hd (h _ rfl)
theorem cv_RX3_35 : CS RX3 35 yJ7_fill_d0a16 cJ7_fill_d0a16 5 none 2 := ⟨k_625, k_623, k_624, k_94, by decide +kernel⟩
theorem cv_RX3_59 : CS RX3 59 yJ6_bitCount_0f7a4 cJ6_bitCount_0f7a4 1 (some .int) 1 := ⟨k_351, k_630, k_350, k_95, by decide +kernel⟩
theorem gf_RX3_28_22 {X : Mx} {w : Wt} {l0 : Launch} {cc : ByteArray} {n0 : Nat} {rm : Room} {ret : Option FieldType} {Q : State → Prop} {pc : Nat} {lv : List (Nat × Value)} {st : List Value} {S : St} (C : Cx X w l0 cc n0 RX3 rm ret) (hd : decode cc pc = .ok (.getfield 28, 3)) (h : J X w Q (pc + 3) lv (.int (S.1 22 0) :: st) S) : J X w Q pc lv (rr w 22 :: st) S := j_get C 22 0 rfl (ci := 3) rfl (by decide) in_X3 k_250 rfl hd h
theorem cv_RX3_64 : CN RX3 64 yX6_bit cX6_bit 2 (some .int) 2 := ⟨k_409, by decide +kernel, k_408, k_86, by decide +kernel⟩
theorem al_24 {X : Mx} {w : Wt} {l0 : Launch} {cc : ByteArray} {n0 : Nat} {rm : Room} {ret : Option FieldType} {Q : State → Prop} {pc : Nat} {lv : List (Nat × Value)} {st : List Value} {S : St} {own : String} {i : Int32} (C : Cx X w l0 cc n0 own rm ret) (hd : decode cc pc = .ok (.laload, 1)) (hin : vp_in i 9) (h : J X w Q (pc + 1) lv (.long (S.2 24 i.toNatClampNeg) :: st) S) : J X w Q pc lv (.int i :: rr w 24 :: st) S := j_lald C 24 rfl hin hd h
theorem cv_RX3_41 : CV RX3 41 yX3_share cX3_share 8 none 2 := ⟨k_629, k_626, k_628, k_22, k_92, by decide +kernel⟩
theorem rc_22 (w : Wt) : RC w 22 RX3 := fun S => ⟨3, _, _, rfl, rfl, rfl⟩
theorem gf_RX3_9_22 {X : Mx} {w : Wt} {l0 : Launch} {cc : ByteArray} {n0 : Nat} {rm : Room} {ret : Option FieldType} {Q : State → Prop} {pc : Nat} {lv : List (Nat × Value)} {st : List Value} {S : St} (C : Cx X w l0 cc n0 RX3 rm ret) (hd : decode cc pc = .ok (.getfield 9, 3)) (h : J X w Q (pc + 3) lv (rr w 23 :: st) S) : J X w Q pc lv (rr w 22 :: st) S := j_get C 22 2 rfl (ci := 3) rfl (by decide) in_X3 k_252 rfl hd h
theorem cp_RX3_45_24_23_9 {X : Mx} {w : Wt} {l0 : Launch} {cc : ByteArray} {n0 : Nat} {rm : Room} {ret : Option FieldType} {Q : State → Prop} {pc : Nat} {lv : List (Nat × Value)} {st : List Value} {S : St} (C : Cx X w l0 cc n0 RX3 rm ret) (hd : decode cc pc = .ok (.invokestatic 45, 3)) (hfr : 1 ≤ rm.frames) (hlo : (st.map fun v => v.category).sum + 18 ≤ rm.locals) (h : ∀ S1 : St, S1 = cJ S 23 (va_cpy (S.2 24) (S.2 23) 0 0 9) → J X w Q (pc + 3) lv st S1) : J X w Q pc lv (.int 9 :: .int 0 :: rr w 23 :: .int 0 :: rr w 24 :: st) S := j_copyJ C 24 23 rfl rfl (fun _ => rfl) (by decide) (by decide) (by decide) k_632 k_382 k_381 k_96 hfr hlo hd (h _ rfl)
theorem gf_RX3_31_22 {X : Mx} {w : Wt} {l0 : Launch} {cc : ByteArray} {n0 : Nat} {rm : Room} {ret : Option FieldType} {Q : State → Prop} {pc : Nat} {lv : List (Nat × Value)} {st : List Value} {S : St} (C : Cx X w l0 cc n0 RX3 rm ret) (hd : decode cc pc = .ok (.getfield 31, 3)) (h : J X w Q (pc + 3) lv (.long (S.2 22 1) :: st) S) : J X w Q pc lv (rr w 22 :: st) S := j_get C 22 1 rfl (ci := 3) rfl (by decide) in_X3 k_251 rfl hd h
theorem al_23 {X : Mx} {w : Wt} {l0 : Launch} {cc : ByteArray} {n0 : Nat} {rm : Room} {ret : Option FieldType} {Q : State → Prop} {pc : Nat} {lv : List (Nat × Value)} {st : List Value} {S : St} {own : String} {i : Int32} (C : Cx X w l0 cc n0 own rm ret) (hd : decode cc pc = .ok (.laload, 1)) (hin : vp_in i 9) (h : J X w Q (pc + 1) lv (.long (S.2 23 i.toNatClampNeg) :: st) S) : J X w Q pc lv (.int i :: rr w 23 :: st) S := j_lald C 23 rfl hin hd h
theorem gf_RX3_55_2 {X : Mx} {w : Wt} {l0 : Launch} {cc : ByteArray} {n0 : Nat} {rm : Room} {ret : Option FieldType} {Q : State → Prop} {pc : Nat} {lv : List (Nat × Value)} {st : List Value} {S : St} (C : Cx X w l0 cc n0 RX3 rm ret) (hd : decode cc pc = .ok (.getfield 55, 3)) (h : J X w Q (pc + 3) lv (rr w 5 :: st) S) : J X w Q pc lv (rr w 2 :: st) S := j_get C 2 4 rfl (ci := 0) rfl (by decide) in_X0 k_134 rfl hd h
theorem cv_RX3_51 : CV RX3 51 yX3_step cX3_step 4 none 2 := ⟨k_636, k_633, k_635, k_23, k_92, by decide +kernel⟩
theorem cv_RX6_208 : CV RX6 208 yX3_go cX3_go 5 none 2 := ⟨k_620, k_617, k_618, k_619, k_92, by decide +kernel⟩
theorem mx_RX3_77 {X : Mx} {w : Wt} {l0 : Launch} {cc : ByteArray} {n0 : Nat} {rm : Room} {ret : Option FieldType} {Q : State → Prop} {pc : Nat} {lv : List (Nat × Value)} {st : List Value} {S : St} {x y : Int64} (C : Cx X w l0 cc n0 RX3 rm ret) (hd : decode cc pc = .ok (.invokestatic 77, 3)) (hfr : 1 ≤ rm.frames) (hlo : (st.map fun v => v.category).sum + 18 ≤ rm.locals) (h : J X w Q (pc + 3) lv (.long (if y < x then x else y) :: st) S) : J X w Q pc lv (.long y :: .long x :: st) S := j_mmaxJ C (tb_mem 645 (by decide +kernel) rfl) (tb_mem 646 (by decide +kernel) rfl) (tb_mem 97 (by decide +kernel) rfl) (tb_mem 647 (by decide +kernel) rfl) hfr (by omega) hd h
theorem cv_RX3_68 : CV RX3 68 yX3_commonDivisor cX3_commonDivisor 9 (some .long) 1 := ⟨k_644, k_641, k_643, k_24, k_92, by decide +kernel⟩
theorem cv_RX6_215 : CV RX6 215 yX3_denominator cX3_denominator 2 (some .int) 1 := ⟨k_651, k_648, k_649, k_650, k_92, by decide +kernel⟩
theorem cv_RX6_212 : CV RX6 212 yX3_numerator cX3_numerator 2 (some .int) 1 := ⟨k_640, k_637, k_638, k_639, k_92, by decide +kernel⟩
theorem cv_RX7_257 : CV RX7 257 yX7_areSeeds cX7_areSeeds 1 (some .boolean) 0 := ⟨k_1072, k_1069, k_1071, k_72, k_93, by decide +kernel⟩
theorem pf_RX7_240_25 {X : Mx} {w : Wt} {l0 : Launch} {cc : ByteArray} {n0 : Nat} {rm : Room} {ret : Option FieldType} {Q : State → Prop} {pc : Nat} {lv : List (Nat × Value)} {st : List Value} {S : St} {v : Int64} (C : Cx X w l0 cc n0 RX7 rm ret) (hd : decode cc pc = .ok (.putfield 240, 3)) (h : ∀ S1 : St, S1 = sj S 25 28 v → J X w Q (pc + 3) lv st S1) : J X w Q pc lv (.long v :: rr w 25 :: st) S := j_put C 25 28 rfl (ci := 7) rfl (by decide) in_X7 tyX7 tyX7_ok nmX7 k_745 rfl (ty := .long) (by decide +kernel) rfl rfl (Nat.le_of_ble_eq_true rfl) rfl hd (h _ rfl)
theorem gf_RX7_240_25 {X : Mx} {w : Wt} {l0 : Launch} {cc : ByteArray} {n0 : Nat} {rm : Room} {ret : Option FieldType} {Q : State → Prop} {pc : Nat} {lv : List (Nat × Value)} {st : List Value} {S : St} (C : Cx X w l0 cc n0 RX7 rm ret) (hd : decode cc pc = .ok (.getfield 240, 3)) (h : J X w Q (pc + 3) lv (.long (S.2 25 28) :: st) S) : J X w Q pc lv (rr w 25 :: st) S := j_get C 25 28 rfl (ci := 7) rfl (by decide) in_X7 k_745 rfl hd h
theorem gf_RX7_43_25 {X : Mx} {w : Wt} {l0 : Launch} {cc : ByteArray} {n0 : Nat} {rm : Room} {ret : Option FieldType} {Q : State → Prop} {pc : Nat} {lv : List (Nat × Value)} {st : List Value} {S : St} (C : Cx X w l0 cc n0 RX7 rm ret) (hd : decode cc pc = .ok (.getfield 43, 3)) (h : J X w Q (pc + 3) lv (rr w 37 :: st) S) : J X w Q pc lv (rr w 25 :: st) S := j_get C 25 26 rfl (ci := 7) rfl (by decide) in_X7 k_743 rfl hd h
theorem gf_RX7_47_25 {X : Mx} {w : Wt} {l0 : Launch} {cc : ByteArray} {n0 : Nat} {rm : Room} {ret : Option FieldType} {Q : State → Prop} {pc : Nat} {lv : List (Nat × Value)} {st : List Value} {S : St} (C : Cx X w l0 cc n0 RX7 rm ret) (hd : decode cc pc = .ok (.getfield 47, 3)) (h : J X w Q (pc + 3) lv (rr w 38 :: st) S) : J X w Q pc lv (rr w 25 :: st) S := j_get C 25 27 rfl (ci := 7) rfl (by decide) in_X7 k_744 rfl hd h
theorem al_38 {X : Mx} {w : Wt} {l0 : Launch} {cc : ByteArray} {n0 : Nat} {rm : Room} {ret : Option FieldType} {Q : State → Prop} {pc : Nat} {lv : List (Nat × Value)} {st : List Value} {S : St} {own : String} {i : Int32} (C : Cx X w l0 cc n0 own rm ret) (hd : decode cc pc = .ok (.laload, 1)) (hin : vp_in i 9) (h : J X w Q (pc + 1) lv (.long (S.2 38 i.toNatClampNeg) :: st) S) : J X w Q pc lv (.int i :: rr w 38 :: st) S := j_lald C 38 rfl hin hd h
theorem as_37 {X : Mx} {w : Wt} {l0 : Launch} {cc : ByteArray} {n0 : Nat} {rm : Room} {ret : Option FieldType} {Q : State → Prop} {pc : Nat} {lv : List (Nat × Value)} {st : List Value} {S : St} {own : String} {i : Int32} {x : Int64} (C : Cx X w l0 cc n0 own rm ret) (hd : decode cc pc = .ok (.lastore, 1)) (hin : vp_in i 9) (h : ∀ S1 : St, S1 = sj S 37 i.toNatClampNeg x → J X w Q (pc + 1) lv st S1) : J X w Q pc lv (.long x :: .int i :: rr w 37 :: st) S := j_last C 37 rfl (fun _ => rfl) hin hd (h _ rfl)
theorem as_38 {X : Mx} {w : Wt} {l0 : Launch} {cc : ByteArray} {n0 : Nat} {rm : Room} {ret : Option FieldType} {Q : State → Prop} {pc : Nat} {lv : List (Nat × Value)} {st : List Value} {S : St} {own : String} {i : Int32} {x : Int64} (C : Cx X w l0 cc n0 own rm ret) (hd : decode cc pc = .ok (.lastore, 1)) (hin : vp_in i 9) (h : ∀ S1 : St, S1 = sj S 38 i.toNatClampNeg x → J X w Q (pc + 1) lv st S1) : J X w Q pc lv (.long x :: .int i :: rr w 38 :: st) S := j_last C 38 rfl (fun _ => rfl) hin hd (h _ rfl)
theorem al_37 {X : Mx} {w : Wt} {l0 : Launch} {cc : ByteArray} {n0 : Nat} {rm : Room} {ret : Option FieldType} {Q : State → Prop} {pc : Nat} {lv : List (Nat × Value)} {st : List Value} {S : St} {own : String} {i : Int32} (C : Cx X w l0 cc n0 own rm ret) (hd : decode cc pc = .ok (.laload, 1)) (hin : vp_in i 9) (h : J X w Q (pc + 1) lv (.long (S.2 37 i.toNatClampNeg) :: st) S) : J X w Q pc lv (.int i :: rr w 37 :: st) S := j_lald C 37 rfl hin hd h
theorem cv_RX7_244 : CV RX7 244 yX7_goesTo cX7_goesTo 5 none 3 := ⟨k_1084, k_1081, k_1083, k_75, k_93, by decide +kernel⟩
theorem cv_RX7_250 : CV RX7 250 yX7_layChances cX7_layChances 6 none 1 := ⟨k_1080, k_1077, k_1079, k_74, k_93, by decide +kernel⟩
theorem cv_RX7_253 : CS RX7 253 yX7_common cX7_common 10 (some .long) 2 := ⟨k_1088, k_1086, k_1087, k_93, by decide +kernel⟩
theorem cv_RX7_260 : CV RX7 260 yX7_chanceNow cX7_chanceNow 6 (some .int) 3 := ⟨k_1076, k_1073, k_1075, k_73, k_93, by decide +kernel⟩
theorem cv_RX6_218 : CV RX6 218 yX3_thousandPart cX3_thousandPart 2 (some .int) 1 := ⟨k_659, k_656, k_657, k_658, k_92, by decide +kernel⟩
theorem cv_RX7_265 : CV RX7 265 yX7_thousandthsNow cX7_thousandthsNow 3 (some .int) 2 := ⟨k_1096, k_1093, k_1095, k_76, k_93, by decide +kernel⟩
theorem cv_RX3_74 : CV RX3 74 yX3_comingBefore cX3_comingBefore 4 (some .int) 1 := ⟨k_672, k_669, k_671, k_25, k_92, by decide +kernel⟩
theorem cv_RX6_221 : CV RX6 221 yX3_personAt cX3_personAt 3 (some .int) 1 := ⟨k_668, k_665, k_666, k_667, k_92, by decide +kernel⟩
theorem cv_RX7_268 : CV RX7 268 yX7_placeOf cX7_placeOf 5 (some .int) 1 := ⟨k_1109, k_1106, k_1108, k_78, k_93, by decide +kernel⟩
theorem cv_RX7_271 : CV RX7 271 yX7_orderNow cX7_orderNow 4 (some .int) 2 := ⟨k_1105, k_1102, k_1104, k_77, k_93, by decide +kernel⟩
theorem cv_RX7_274 : CV RX7 274 yX7_howMany cX7_howMany 2 (some .int) 1 := ⟨k_1117, k_1114, k_1116, k_79, k_93, by decide +kernel⟩
theorem cv_RX6_243 : CV RX6 243 yX6_count cX6_count 2 (some .int) 1 := ⟨k_676, k_710, k_674, k_675, k_86, by decide +kernel⟩
theorem cv_RX6_239 : CS RX6 239 yX6_add cX6_add 3 (some .long) 2 := ⟨k_688, k_686, k_687, k_86, by decide +kernel⟩
theorem cv_RX6_236 : CV RX6 236 yX6_addWalks cX6_addWalks 7 (some .long) 1 := ⟨k_709, k_706, k_708, k_29, k_86, by decide +kernel⟩
theorem cv_RX6_226 : CV RX6 226 yX6_addInk cX6_addInk 6 (some .long) 1 := ⟨k_685, k_682, k_684, k_26, k_86, by decide +kernel⟩
theorem cv_RX6_257 : CV RX6 257 yX6_generous cX6_generous 7 (some .int) 0 := ⟨k_564, k_697, k_562, k_563, k_86, by decide +kernel⟩
theorem cv_RX6_254 : CV RX6 254 yX6_apart cX6_apart 5 (some .int) 1 := ⟨k_589, k_696, k_587, k_588, k_86, by decide +kernel⟩
theorem cv_RX6_251 : CV RX6 251 yX6_person cX6_person 3 (some .int) 2 := ⟨k_496, k_695, k_494, k_495, k_86, by decide +kernel⟩
theorem cv_RX6_248 : CV RX6 248 yX6_about cX6_about 2 (some .int) 1 := ⟨k_448, k_694, k_446, k_447, k_86, by decide +kernel⟩
theorem cv_RX6_230 : CV RX6 230 yX6_addPersons cX6_addPersons 7 (some .long) 1 := ⟨k_693, k_690, k_692, k_27, k_86, by decide +kernel⟩
theorem cv_RX6_266 : CV RX6 266 yX6_dearest cX6_dearest 6 (some .int) 0 := ⟨k_609, k_704, k_607, k_608, k_86, by decide +kernel⟩
theorem cv_RX6_269 : CV RX6 269 yX6_without cX6_without 4 (some .int) 3 := ⟨k_597, k_705, k_595, k_596, k_86, by decide +kernel⟩
theorem cv_RX6_263 : CV RX6 263 yX6_cut cX6_cut 5 (some .int) 1 := ⟨k_580, k_703, k_578, k_579, k_86, by decide +kernel⟩
theorem cv_RX6_260 : CV RX6 260 yX6_trust cX6_trust 3 (some .int) 1 := ⟨k_568, k_702, k_566, k_567, k_86, by decide +kernel⟩
theorem cv_RX6_233 : CV RX6 233 yX6_addTrust cX6_addTrust 7 (some .long) 1 := ⟨k_701, k_698, k_700, k_28, k_86, by decide +kernel⟩
theorem pf_RX7_279_25 {X : Mx} {w : Wt} {l0 : Launch} {cc : ByteArray} {n0 : Nat} {rm : Room} {ret : Option FieldType} {Q : State → Prop} {pc : Nat} {lv : List (Nat × Value)} {st : List Value} {S : St} {v : Int64} (C : Cx X w l0 cc n0 RX7 rm ret) (hd : decode cc pc = .ok (.putfield 279, 3)) (h : ∀ S1 : St, S1 = sj S 25 29 v → J X w Q (pc + 3) lv st S1) : J X w Q pc lv (.long v :: rr w 25 :: st) S := j_put C 25 29 rfl (ci := 7) rfl (by decide) in_X7 tyX7 tyX7_ok nmX7 k_746 rfl (ty := .long) (by decide +kernel) rfl rfl (Nat.le_of_ble_eq_true rfl) rfl hd (h _ rfl)
theorem gf_RX7_279_25 {X : Mx} {w : Wt} {l0 : Launch} {cc : ByteArray} {n0 : Nat} {rm : Room} {ret : Option FieldType} {Q : State → Prop} {pc : Nat} {lv : List (Nat × Value)} {st : List Value} {S : St} (C : Cx X w l0 cc n0 RX7 rm ret) (hd : decode cc pc = .ok (.getfield 279, 3)) (h : J X w Q (pc + 3) lv (.long (S.2 25 29) :: st) S) : J X w Q pc lv (rr w 25 :: st) S := j_get C 25 29 rfl (ci := 7) rfl (by decide) in_X7 k_746 rfl hd h
theorem cv_RX7_282 : CV RX7 282 yX7_mix cX7_mix 3 none 1 := ⟨k_1130, k_1127, k_1129, k_81, k_93, by decide +kernel⟩
theorem cv_RX7_297 : CV RX7 297 yX7_mixWalk cX7_mixWalk 3 none 1 := ⟨k_1143, k_1140, k_1142, k_84, k_93, by decide +kernel⟩
theorem cv_RX7_288 : CV RX7 288 yX7_mixInk cX7_mixInk 2 none 0 := ⟨k_1126, k_1123, k_1125, k_80, k_93, by decide +kernel⟩
theorem cv_RX7_291 : CV RX7 291 yX7_mixPersons cX7_mixPersons 3 none 0 := ⟨k_1135, k_1132, k_1134, k_82, k_93, by decide +kernel⟩
theorem cv_RX7_294 : CV RX7 294 yX7_mixTrust cX7_mixTrust 3 none 0 := ⟨k_1139, k_1136, k_1138, k_83, k_93, by decide +kernel⟩
theorem cv_RL_13 : CV RL 13 yX6_letter cX6_letter 2 (some .int) 1 := ⟨k_301, k_298, k_299, k_300, k_86, by decide +kernel⟩
theorem cv_RL_17 : CV RL 17 yX7_letter cX7_letter 2 (some .int) 1 := ⟨k_811, k_808, k_809, k_810, k_93, by decide +kernel⟩
theorem cv_RL_18 : CV RL 18 yX6_blank cX6_blank 2 (some .int) 0 := ⟨k_305, k_302, k_303, k_304, k_86, by decide +kernel⟩
theorem cv_RL_22 : CV RL 22 yX7_blank cX7_blank 2 (some .int) 0 := ⟨k_818, k_815, k_816, k_817, k_93, by decide +kernel⟩
theorem cv_RL_23 : CV RL 23 yX6_fault cX6_fault 2 (some .int) 0 := ⟨k_309, k_306, k_307, k_308, k_86, by decide +kernel⟩
theorem cv_RL_26 : CV RL 26 yX7_fault cX7_fault 1 (some .int) 0 := ⟨k_822, k_819, k_820, k_821, k_93, by decide +kernel⟩
theorem cv_RL_27 : CV RL 27 yX6_circle cX6_circle 1 (some .int) 0 := ⟨k_370, k_367, k_368, k_369, k_86, by decide +kernel⟩
theorem cv_RL_30 : CV RL 30 yX7_circle cX7_circle 2 (some .int) 0 := ⟨k_865, k_862, k_863, k_864, k_93, by decide +kernel⟩
theorem cv_RL_31 : CV RL 31 yX6_ink cX6_ink 2 (some .int) 1 := ⟨k_386, k_383, k_384, k_385, k_86, by decide +kernel⟩
theorem cv_RL_34 : CV RL 34 yX7_ink cX7_ink 2 (some .int) 1 := ⟨k_869, k_866, k_867, k_868, k_93, by decide +kernel⟩
theorem cv_RL_35 : CV RL 35 yX6_kind cX6_kind 4 (some .int) 2 := ⟨k_413, k_410, k_411, k_412, k_86, by decide +kernel⟩
theorem cv_RL_39 : CV RL 39 yX7_kind cX7_kind 4 (some .int) 2 := ⟨k_892, k_889, k_890, k_891, k_93, by decide +kernel⟩
theorem cv_RL_40 : CV RL 40 yX6_as cX6_as 4 (some .int) 2 := ⟨k_426, k_423, k_424, k_425, k_86, by decide +kernel⟩
theorem cv_RL_43 : CV RL 43 yX7_as cX7_as 3 (some .int) 2 := ⟨k_904, k_901, k_902, k_903, k_93, by decide +kernel⟩
theorem cv_RL_44 : CV RL 44 yX6_vouch cX6_vouch 4 (some .int) 2 := ⟨k_430, k_427, k_428, k_429, k_86, by decide +kernel⟩
theorem cv_RL_47 : CV RL 47 yX7_vouch cX7_vouch 3 (some .int) 2 := ⟨k_908, k_905, k_906, k_907, k_93, by decide +kernel⟩
theorem cv_RL_48 : CV RL 48 yX6_recall cX6_recall 3 (some .int) 2 := ⟨k_440, k_437, k_438, k_439, k_86, by decide +kernel⟩
theorem cv_RL_51 : CV RL 51 yX7_recall cX7_recall 3 (some .int) 2 := ⟨k_916, k_913, k_914, k_915, k_93, by decide +kernel⟩
theorem cv_RL_52 : CV RL 52 yX6_bound cX6_bound 4 (some .int) 2 := ⟨k_444, k_441, k_442, k_443, k_86, by decide +kernel⟩
theorem cv_RL_55 : CV RL 55 yX7_bound cX7_bound 4 (some .int) 2 := ⟨k_920, k_917, k_918, k_919, k_93, by decide +kernel⟩
theorem cv_RL_56 : CV RL 56 yX6_about cX6_about 2 (some .int) 1 := ⟨k_448, k_445, k_446, k_447, k_86, by decide +kernel⟩
theorem cv_RL_59 : CV RL 59 yX7_about cX7_about 2 (some .int) 1 := ⟨k_924, k_921, k_922, k_923, k_93, by decide +kernel⟩
theorem cv_RL_60 : CV RL 60 yX6_person cX6_person 3 (some .int) 2 := ⟨k_496, k_493, k_494, k_495, k_86, by decide +kernel⟩
theorem cv_RL_63 : CV RL 63 yX7_person cX7_person 3 (some .int) 2 := ⟨k_956, k_953, k_954, k_955, k_93, by decide +kernel⟩
theorem cv_RL_64 : CV RL 64 yX6_vouches cX6_vouches 3 (some .int) 2 := ⟨k_560, k_557, k_558, k_559, k_86, by decide +kernel⟩
theorem cv_RL_67 : CV RL 67 yX7_vouches cX7_vouches 3 (some .int) 2 := ⟨k_996, k_993, k_994, k_995, k_93, by decide +kernel⟩
theorem cv_RL_68 : CV RL 68 yX6_generous cX6_generous 7 (some .int) 0 := ⟨k_564, k_561, k_562, k_563, k_86, by decide +kernel⟩
theorem cv_RL_71 : CV RL 71 yX7_generous cX7_generous 1 (some .int) 0 := ⟨k_1000, k_997, k_998, k_999, k_93, by decide +kernel⟩
theorem cv_RL_72 : CV RL 72 yX6_trust cX6_trust 3 (some .int) 1 := ⟨k_568, k_565, k_566, k_567, k_86, by decide +kernel⟩
theorem cv_RL_75 : CV RL 75 yX7_trust cX7_trust 2 (some .int) 1 := ⟨k_1008, k_1005, k_1006, k_1007, k_93, by decide +kernel⟩
theorem cv_RL_76 : CV RL 76 yX6_together cX6_together 2 (some .int) 1 := ⟨k_576, k_573, k_574, k_575, k_86, by decide +kernel⟩
theorem cv_RL_79 : CV RL 79 yX7_together cX7_together 2 (some .int) 1 := ⟨k_1024, k_1021, k_1022, k_1023, k_93, by decide +kernel⟩
theorem cv_RL_80 : CV RL 80 yX6_cut cX6_cut 5 (some .int) 1 := ⟨k_580, k_577, k_578, k_579, k_86, by decide +kernel⟩
theorem cv_RL_83 : CV RL 83 yX7_cut cX7_cut 2 (some .int) 1 := ⟨k_1032, k_1029, k_1030, k_1031, k_93, by decide +kernel⟩
theorem cv_RL_84 : CV RL 84 yX6_apart cX6_apart 5 (some .int) 1 := ⟨k_589, k_586, k_587, k_588, k_86, by decide +kernel⟩
theorem cv_RL_87 : CV RL 87 yX7_apart cX7_apart 2 (some .int) 1 := ⟨k_1048, k_1045, k_1046, k_1047, k_93, by decide +kernel⟩
theorem cv_RL_88 : CV RL 88 yX6_without cX6_without 4 (some .int) 3 := ⟨k_597, k_594, k_595, k_596, k_86, by decide +kernel⟩
theorem cv_RL_92 : CV RL 92 yX7_without cX7_without 4 (some .int) 3 := ⟨k_1052, k_1049, k_1050, k_1051, k_93, by decide +kernel⟩
theorem cv_RL_93 : CV RL 93 yX6_dearest cX6_dearest 6 (some .int) 0 := ⟨k_609, k_606, k_607, k_608, k_86, by decide +kernel⟩
theorem cv_RL_96 : CV RL 96 yX7_dearest cX7_dearest 1 (some .int) 0 := ⟨k_1060, k_1057, k_1058, k_1059, k_93, by decide +kernel⟩
theorem cv_RL_97 : CV RL 97 yX6_chance cX6_chance 4 (some .int) 3 := ⟨k_613, k_610, k_611, k_612, k_86, by decide +kernel⟩
theorem cv_RL_100 : CV RL 100 yX7_chance cX7_chance 4 (some .int) 3 := ⟨k_1068, k_1065, k_1066, k_1067, k_93, by decide +kernel⟩
theorem cv_RL_101 : CV RL 101 yX6_thousandths cX6_thousandths 3 (some .int) 2 := ⟨k_655, k_652, k_653, k_654, k_86, by decide +kernel⟩
theorem cv_RL_104 : CV RL 104 yX7_thousandths cX7_thousandths 3 (some .int) 2 := ⟨k_1092, k_1089, k_1090, k_1091, k_93, by decide +kernel⟩
theorem cv_RL_105 : CV RL 105 yX6_order cX6_order 3 (some .int) 2 := ⟨k_664, k_661, k_662, k_663, k_86, by decide +kernel⟩
theorem cv_RL_108 : CV RL 108 yX7_order cX7_order 3 (some .int) 2 := ⟨k_1101, k_1098, k_1099, k_1100, k_93, by decide +kernel⟩
theorem cv_RL_109 : CV RL 109 yX6_count cX6_count 2 (some .int) 1 := ⟨k_676, k_673, k_674, k_675, k_86, by decide +kernel⟩
theorem cv_RL_112 : CV RL 112 yX7_count cX7_count 2 (some .int) 1 := ⟨k_1113, k_1110, k_1111, k_1112, k_93, by decide +kernel⟩
theorem cv_RL_113 : CV RL 113 yX6_digest cX6_digest 4 (some .long) 0 := ⟨k_680, k_677, k_678, k_679, k_86, by decide +kernel⟩
theorem cv_RL_117 : CV RL 117 yX7_digest cX7_digest 2 (some .long) 0 := ⟨k_1121, k_1118, k_1119, k_1120, k_93, by decide +kernel⟩
