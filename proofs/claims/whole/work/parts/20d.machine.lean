def rm_X0_vouchersOf : Room := { frames := 2, cells := 0, slots := 0, locals := 43 }
theorem rk_X0_vouchersOf_X0_hasVouch : roomOk rm_X0_hasVouch rm_X0_vouchersOf 3 := ⟨⟨rfl, rfl⟩, Nat.le_of_ble_eq_true rfl, Nat.le_of_ble_eq_true rfl⟩
set_option maxRecDepth 20000 in
theorem t_X0_vouchersOf_27 {X : Mx} {w : Wt} {l0 : Launch} {Q0 : Int32 → St → Prop} {K4 : Int32 × Int32 × Int32 × St → Prop} (C : Cx X w l0 cX0_vouchersOf 4 RX0 rm_X0_vouchersOf (some .int)) (hK4 : ∀ (x1 : Int32) (x2 : Int32) (x3 : Int32) (S : St), K4 (x1, x2, x3, S) → J X w (QI X w Q0) 4 [(0, rr w 2), (1, .int x1), (2, .int x2), (3, .int x3)] [] S) {x1 : Int32} {x2 : Int32} {x3 : Int32} {S : St} (h : p_X0_vouchersOf_27 Q0 K4 x1 x2 x3 S) : J X w (QI X w Q0) 27 [(0, rr w 2), (1, .int x1), (2, .int x2), (3, .int x3)] [] S := by
  refine j_iinc (lv' := [(3, .int (x3 + 1)), (0, rr w 2), (1, .int x1), (2, .int x2)]) C dX0_vouchersOf_27 3 rfl rfl (by decide) rfl ?_
  refine j_goto (tgt := 4) C dX0_vouchersOf_30 (by decide) ?_
  refine j_sub [1, 2, 3, 0] rfl ?_
  exact hK4 _ _ _ _ h
set_option maxRecDepth 20000 in
theorem t_X0_vouchersOf_4 {X : Mx} {w : Wt} {l0 : Launch} {Q0 : Int32 → St → Prop} (C : Cx X w l0 cX0_vouchersOf 4 RX0 rm_X0_vouchersOf (some .int)) {x1 : Int32} {x2 : Int32} {x3 : Int32} {S : St} (h : Lq (p_X0_vouchersOf_4 Q0) (x1, x2, x3, S)) : J X w (QI X w Q0) 4 [(0, rr w 2), (1, .int x1), (2, .int x2), (3, .int x3)] [] S := by
  have key : ∀ a : Int32 × Int32 × Int32 × St, Lq (p_X0_vouchersOf_4 Q0) a → J X w (QI X w Q0) 4 [(0, rr w 2), (1, .int a.1), (2, .int a.2.1), (3, .int a.2.2.1)] [] a.2.2.2 := by
    intro a ha
    refine Lq_use (G := fun a => J X w (QI X w Q0) 4 [(0, rr w 2), (1, .int a.1), (2, .int a.2.1), (3, .int a.2.2.1)] [] a.2.2.2) ?_ ha
    intro K4 hK a h
    obtain ⟨x1, x2, x3, S⟩ := a
    have hK4 : ∀ (x1 : Int32) (x2 : Int32) (x3 : Int32) (S : St), K4 (x1, x2, x3, S) → J X w (QI X w Q0) 4 [(0, rr w 2), (1, .int x1), (2, .int x2), (3, .int x3)] [] S := fun x1 x2 x3 S h => hK (x1, x2, x3, S) h
    show J X w (QI X w Q0) 4 [(0, rr w 2), (1, .int x1), (2, .int x2), (3, .int x3)] [] S
    refine j_iload_n C dX0_vouchersOf_4 3 rfl rfl ?_
    refine j_aload_n C dX0_vouchersOf_5 0 rfl rfl ?_
    refine gf_RX0_21_2 C dX0_vouchersOf_6 ?_
    refine j_icmp_ge (tgt := 33) C dX0_vouchersOf_9 (by decide) (fun c1 => ?_) (fun c1 => ?_)
    · have h := And.left h c1
      refine j_iload_n C dX0_vouchersOf_33 2 rfl rfl ?_
      exact j_iret C dX0_vouchersOf_34 h
    · have h := And.right h c1
      refine j_aload_n C dX0_vouchersOf_12 0 rfl rfl ?_
      refine j_iload_n C dX0_vouchersOf_13 3 rfl rfl ?_
      refine j_iload_n C dX0_vouchersOf_14 1 rfl rfl ?_
      refine j_callVi (st := []) C 2 [.int x3, .int x1] (m_X0_hasVouch C.wok h) cv_RX0_48 rk_X0_vouchersOf_X0_hasVouch rfl (rc_2 w) rfl (Nat.le_of_ble_eq_true rfl) dX0_vouchersOf_15 (fun r3 S2 h => ?_)
      refine j_if_eq (tgt := 27) C dX0_vouchersOf_18 (by decide) (fun c4 => ?_) (fun c4 => ?_)
      · have h := And.left h c4
        exact t_X0_vouchersOf_27 C hK4 h
      · have h := And.right h c4
        refine j_iload_n C dX0_vouchersOf_21 2 rfl rfl ?_
        refine j_iconst C dX0_vouchersOf_22 (v := 1) (by decide) ?_
        refine j_iload_n C dX0_vouchersOf_23 3 rfl rfl ?_
        refine j_ishl C dX0_vouchersOf_24 ?_
        refine j_ior C dX0_vouchersOf_25 ?_
        refine j_istore_n (lv' := [(2, .int (x2 ||| (1 <<< (x3 &&& 31)))), (0, rr w 2), (1, .int x1), (3, .int x3)]) C dX0_vouchersOf_26 rfl (by decide) rfl ?_
        refine j_sub [1, 2, 0, 3] rfl ?_
        exact t_X0_vouchersOf_27 C hK4 h
  exact key (x1, x2, x3, S) h
set_option maxRecDepth 20000 in
theorem m_X0_vouchersOf {l : Launch} {w : Wt} (hw : WOK w) {x1 : Int32} {S : St} {Q0 : Int32 → St → Prop} (h : p_X0_vouchersOf x1 S Q0) : MI l w yX0_vouchersOf cX0_vouchersOf 4 .int rm_X0_vouchersOf [rr w 2, .int x1] S Q0 := by
  refine m_MI (own := RX0) (lv := [(0, rr w 2), (1, .int x1)]) hw (by decide) rfl (Nat.le_of_ble_eq_true rfl) rfl (fun X C => ?_)
  refine j_iconst C dX0_vouchersOf_0 (v := 0) (by decide) ?_
  refine j_istore_n (lv' := [(2, .int 0), (0, rr w 2), (1, .int x1)]) C dX0_vouchersOf_1 rfl (by decide) rfl ?_
  refine j_iconst C dX0_vouchersOf_2 (v := 0) (by decide) ?_
  refine j_istore_n (lv' := [(3, .int 0), (2, .int 0), (0, rr w 2), (1, .int x1)]) C dX0_vouchersOf_3 rfl (by decide) rfl ?_
  refine j_sub [2, 3, 1, 0] rfl ?_
  exact t_X0_vouchersOf_4 C h
def rm_X4_allowOnePathThroughAllBut : Room := { frames := 1, cells := 0, slots := 0, locals := 23 }
theorem rk_X4_allowOnePathThroughAllBut_J7_fill_53178_c17 : roomOk rm_J7_fill_53178_c17 rm_X4_allowOnePathThroughAllBut 4 := ⟨⟨rfl, rfl⟩, Nat.le_of_ble_eq_true rfl, Nat.le_of_ble_eq_true rfl⟩
set_option maxRecDepth 20000 in
theorem m_X4_allowOnePathThroughAllBut {l : Launch} {w : Wt} (hw : WOK w) {x1 : Int32} {S : St} {Q0 : St → Prop} (h : p_X4_allowOnePathThroughAllBut x1 S Q0) : MV l w yX4_allowOnePathThroughAllBut cX4_allowOnePathThroughAllBut 2 rm_X4_allowOnePathThroughAllBut [rr w 14, .int x1] S Q0 := by
  refine m_MV (own := RX4) (lv := [(0, rr w 14), (1, .int x1)]) hw (by decide) rfl (Nat.le_of_ble_eq_true rfl) rfl (fun X C => ?_)
  refine j_aload_n C dX4_allowOnePathThroughAllBut_0 0 rfl rfl ?_
  refine gf_RX4_18_14 C dX4_allowOnePathThroughAllBut_1 ?_
  refine j_iconst C dX4_allowOnePathThroughAllBut_4 (v := 1) (by decide) ?_
  refine j_callSv (st := []) C [rr w 17, .int 1] (m_J7_fill_53178_c17 C.wok h) cv_RX4_46 rk_X4_allowOnePathThroughAllBut_J7_fill_53178_c17 rfl rfl (Nat.le_of_ble_eq_true rfl) dX4_allowOnePathThroughAllBut_5 (fun S1 h => ?_)
  refine j_aload_n C dX4_allowOnePathThroughAllBut_8 0 rfl rfl ?_
  refine gf_RX4_18_14 C dX4_allowOnePathThroughAllBut_9 ?_
  refine j_iload_n C dX4_allowOnePathThroughAllBut_12 1 rfl rfl ?_
  refine j_bipush C dX4_allowOnePathThroughAllBut_13 (v := 9) (by decide) ?_
  refine as_17 C dX4_allowOnePathThroughAllBut_15 (And.left h) (fun S2 eS2 => ?_)
  have h := And.right h S2 eS2
  exact j_vret C dX4_allowOnePathThroughAllBut_16 h
def rm_X6_waysTo : Room := { frames := 3, cells := 0, slots := 0, locals := 70 }
theorem rk_X6_waysTo_X1_begin : roomOk rm_X1_begin rm_X6_waysTo 1 := ⟨⟨rfl, rfl⟩, Nat.le_of_ble_eq_true rfl, Nat.le_of_ble_eq_true rfl⟩
theorem rk_X6_waysTo_X1_sendTo : roomOk rm_X1_sendTo rm_X6_waysTo 4 := ⟨⟨rfl, rfl⟩, Nat.le_of_ble_eq_true rfl, Nat.le_of_ble_eq_true rfl⟩
theorem rk_X6_waysTo_X4_allowOnePathThroughAllBut : roomOk rm_X4_allowOnePathThroughAllBut rm_X6_waysTo 2 := ⟨⟨rfl, rfl⟩, Nat.le_of_ble_eq_true rfl, Nat.le_of_ble_eq_true rfl⟩
theorem rk_X6_waysTo_X4_copy : roomOk rm_X4_copy rm_X6_waysTo 2 := ⟨⟨rfl, rfl⟩, Nat.le_of_ble_eq_true rfl, Nat.le_of_ble_eq_true rfl⟩
set_option maxRecDepth 20000 in
theorem t_X6_waysTo_45 {X : Mx} {w : Wt} {l0 : Launch} {Q0 : Int32 → St → Prop} (C : Cx X w l0 cX6_waysTo 4 RX6 rm_X6_waysTo (some .int)) {x1 : Int32} {x2 : Int32} {x3 : Int32} {S : St} (h : Lq (p_X6_waysTo_45 Q0) (x1, x2, x3, S)) : J X w (QI X w Q0) 45 [(0, rr w 0), (1, .int x1), (2, .int x2), (3, .int x3)] [] S := by
  have key : ∀ a : Int32 × Int32 × Int32 × St, Lq (p_X6_waysTo_45 Q0) a → J X w (QI X w Q0) 45 [(0, rr w 0), (1, .int a.1), (2, .int a.2.1), (3, .int a.2.2.1)] [] a.2.2.2 := by
    intro a ha
    refine Lq_use (G := fun a => J X w (QI X w Q0) 45 [(0, rr w 0), (1, .int a.1), (2, .int a.2.1), (3, .int a.2.2.1)] [] a.2.2.2) ?_ ha
    intro K45 hK a h
    obtain ⟨x1, x2, x3, S⟩ := a
    have hK45 : ∀ (x1 : Int32) (x2 : Int32) (x3 : Int32) (S : St), K45 (x1, x2, x3, S) → J X w (QI X w Q0) 45 [(0, rr w 0), (1, .int x1), (2, .int x2), (3, .int x3)] [] S := fun x1 x2 x3 S h => hK (x1, x2, x3, S) h
    show J X w (QI X w Q0) 45 [(0, rr w 0), (1, .int x1), (2, .int x2), (3, .int x3)] [] S
    refine j_iload_n C dX6_waysTo_45 3 rfl rfl ?_
    refine j_bipush C dX6_waysTo_46 (v := 9) (by decide) ?_
    refine j_icmp_ge (tgt := 71) C dX6_waysTo_48 (by decide) (fun c5 => ?_) (fun c5 => ?_)
    · have h := And.left h c5
      refine j_iload_n C dX6_waysTo_71 2 rfl rfl ?_
      exact j_iret C dX6_waysTo_72 h
    · have h := And.right h c5
      refine j_aload_n C dX6_waysTo_51 0 rfl rfl ?_
      refine gf_RX6_37_0 C dX6_waysTo_52 ?_
      refine j_iload_n C dX6_waysTo_55 1 rfl rfl ?_
      refine j_callVi (st := []) C 13 [.int x1] (m_X1_sendTo C.wok h) cv_RX6_277 rk_X6_waysTo_X1_sendTo rfl (rc_13 w) rfl (Nat.le_of_ble_eq_true rfl) dX6_waysTo_56 (fun r7 S6 h => ?_)
      refine j_if_eq (tgt := 71) C dX6_waysTo_59 (by decide) (fun c8 => ?_) (fun c8 => ?_)
      · have h := And.left h c8
        refine j_iload_n C dX6_waysTo_71 2 rfl rfl ?_
        exact j_iret C dX6_waysTo_72 h
      · have h := And.right h c8
        refine j_iinc (lv' := [(2, .int (x2 + 1)), (0, rr w 0), (1, .int x1), (3, .int x3)]) C dX6_waysTo_62 2 rfl rfl (by decide) rfl ?_
        refine j_iinc (lv' := [(3, .int (x3 + 1)), (2, .int (x2 + 1)), (0, rr w 0), (1, .int x1)]) C dX6_waysTo_65 3 rfl rfl (by decide) rfl ?_
        refine j_goto (tgt := 45) C dX6_waysTo_68 (by decide) ?_
        refine j_sub [2, 3, 1, 0] rfl ?_
        exact hK45 _ _ _ _ h
  exact key (x1, x2, x3, S) h
set_option maxRecDepth 20000 in
theorem m_X6_waysTo {l : Launch} {w : Wt} (hw : WOK w) {x1 : Int32} {S : St} {Q0 : Int32 → St → Prop} (h : p_X6_waysTo x1 S Q0) : MI l w yX6_waysTo cX6_waysTo 4 .int rm_X6_waysTo [rr w 0, .int x1] S Q0 := by
  refine m_MI (own := RX6) (lv := [(0, rr w 0), (1, .int x1)]) hw (by decide) rfl (Nat.le_of_ble_eq_true rfl) rfl (fun X C => ?_)
  refine j_aload_n C dX6_waysTo_0 0 rfl rfl ?_
  refine gf_RX6_16_0 C dX6_waysTo_1 ?_
  refine gf_RX6_103_2 C dX6_waysTo_4 ?_
  refine j_iload_n C dX6_waysTo_7 1 rfl rfl ?_
  refine al_4 C dX6_waysTo_8 (And.left h) ?_
  have h := And.right h
  refine j_iconst C dX6_waysTo_9 (v := 1) (by decide) ?_
  refine j_icmp_ne (tgt := 15) C dX6_waysTo_10 (by decide) (fun c1 => ?_) (fun c1 => ?_)
  · have h := And.left h c1
    refine j_aload_n C dX6_waysTo_15 0 rfl rfl ?_
    refine gf_RX6_45_0 C dX6_waysTo_16 ?_
    refine j_aload_n C dX6_waysTo_19 0 rfl rfl ?_
    refine gf_RX6_16_0 C dX6_waysTo_20 ?_
    refine j_callVv (st := []) C 14 [rr w 2] (m_X4_copy C.wok h) cv_RX6_179 rk_X6_waysTo_X4_copy rfl (rc_14 w) rfl (Nat.le_of_ble_eq_true rfl) dX6_waysTo_23 (fun S2 h => ?_)
    refine j_aload_n C dX6_waysTo_26 0 rfl rfl ?_
    refine gf_RX6_45_0 C dX6_waysTo_27 ?_
    refine j_iload_n C dX6_waysTo_30 1 rfl rfl ?_
    refine j_callVv (st := []) C 14 [.int x1] (m_X4_allowOnePathThroughAllBut C.wok h) cv_RX6_280 rk_X6_waysTo_X4_allowOnePathThroughAllBut rfl (rc_14 w) rfl (Nat.le_of_ble_eq_true rfl) dX6_waysTo_31 (fun S3 h => ?_)
    refine j_aload_n C dX6_waysTo_34 0 rfl rfl ?_
    refine gf_RX6_37_0 C dX6_waysTo_35 ?_
    refine j_callVv (st := []) C 13 [] (m_X1_begin C.wok h) cv_RX6_276 rk_X6_waysTo_X1_begin rfl (rc_13 w) rfl (Nat.le_of_ble_eq_true rfl) dX6_waysTo_38 (fun S4 h => ?_)
    refine j_iconst C dX6_waysTo_41 (v := 0) (by decide) ?_
    refine j_istore_n (lv' := [(2, .int 0), (0, rr w 0), (1, .int x1)]) C dX6_waysTo_42 rfl (by decide) rfl ?_
    refine j_iconst C dX6_waysTo_43 (v := 0) (by decide) ?_
    refine j_istore_n (lv' := [(3, .int 0), (2, .int 0), (0, rr w 0), (1, .int x1)]) C dX6_waysTo_44 rfl (by decide) rfl ?_
    refine j_sub [2, 3, 1, 0] rfl ?_
    exact t_X6_waysTo_45 C h
  · have h := And.right h c1
    refine j_iconst C dX6_waysTo_13 (v := (-1)) (by decide) ?_
    exact j_iret C dX6_waysTo_14 h
def rm_X6_person : Room := { frames := 4, cells := 0, slots := 0, locals := 93 }
theorem rk_X6_person_J6_bitCount_0f7a4 : roomOk rm_J6_bitCount_0f7a4 rm_X6_person 1 := ⟨⟨rfl, rfl⟩, Nat.le_of_ble_eq_true rfl, Nat.le_of_ble_eq_true rfl⟩
theorem rk_X6_person_X0_everyone : roomOk rm_X0_everyone rm_X6_person 1 := ⟨⟨rfl, rfl⟩, Nat.le_of_ble_eq_true rfl, Nat.le_of_ble_eq_true rfl⟩
theorem rk_X6_person_X0_has : roomOk rm_X0_has rm_X6_person 2 := ⟨⟨rfl, rfl⟩, Nat.le_of_ble_eq_true rfl, Nat.le_of_ble_eq_true rfl⟩
theorem rk_X6_person_X0_vouchersOf : roomOk rm_X0_vouchersOf rm_X6_person 4 := ⟨⟨rfl, rfl⟩, Nat.le_of_ble_eq_true rfl, Nat.le_of_ble_eq_true rfl⟩
theorem rk_X6_person_X6_admitted : roomOk rm_X6_admitted rm_X6_person 4 := ⟨⟨rfl, rfl⟩, Nat.le_of_ble_eq_true rfl, Nat.le_of_ble_eq_true rfl⟩
theorem rk_X6_person_X6_bit : roomOk rm_X6_bit rm_X6_person 2 := ⟨⟨rfl, rfl⟩, Nat.le_of_ble_eq_true rfl, Nat.le_of_ble_eq_true rfl⟩
theorem rk_X6_person_X6_prepareWeb : roomOk rm_X6_prepareWeb rm_X6_person 1 := ⟨⟨rfl, rfl⟩, Nat.le_of_ble_eq_true rfl, Nat.le_of_ble_eq_true rfl⟩
theorem rk_X6_person_X6_takenIn : roomOk rm_X6_takenIn rm_X6_person 4 := ⟨⟨rfl, rfl⟩, Nat.le_of_ble_eq_true rfl, Nat.le_of_ble_eq_true rfl⟩
theorem rk_X6_person_X6_waysTo : roomOk rm_X6_waysTo rm_X6_person 4 := ⟨⟨rfl, rfl⟩, Nat.le_of_ble_eq_true rfl, Nat.le_of_ble_eq_true rfl⟩
set_option maxRecDepth 20000 in
theorem t_X6_person_192 {X : Mx} {w : Wt} {l0 : Launch} {Q0 : Int32 → St → Prop} (C : Cx X w l0 cX6_person 3 RX6 rm_X6_person (some .int)) {x1 : Int32} {S : St} (h : p_X6_person_192 Q0 x1 S) : J X w (QI X w Q0) 192 [(0, rr w 0), (1, .int x1)] [] S := by
  refine j_aload_n C dX6_person_192 0 rfl rfl ?_
  refine j_callVi (st := []) C 0 [] (m_X6_takenIn C.wok h) cv_RX6_176 rk_X6_person_X6_takenIn rfl (rc_0 w) rfl (Nat.le_of_ble_eq_true rfl) dX6_person_193 (fun r13 S12 h => ?_)
  refine j_iload_n C dX6_person_196 1 rfl rfl ?_
  refine j_callSi (st := []) C [.int r13, .int x1] (m_X6_bit C.wok h) cv_RX6_172 rk_X6_person_X6_bit rfl rfl (Nat.le_of_ble_eq_true rfl) dX6_person_197 (fun r15 S14 h => ?_)
  exact j_iret C dX6_person_200 h
set_option maxRecDepth 20000 in
theorem t_X6_person_117 {X : Mx} {w : Wt} {l0 : Launch} {Q0 : Int32 → St → Prop} (C : Cx X w l0 cX6_person 3 RX6 rm_X6_person (some .int)) {x1 : Int32} {x2 : Int32} {S : St} (h : p_X6_person_117 Q0 x1 x2 S) : J X w (QI X w Q0) 117 [(0, rr w 0), (1, .int x1), (2, .int x2)] [] S := by
  refine j_aload_n C dX6_person_117 0 rfl rfl ?_
  refine j_callVv (st := []) C 0 [] (m_X6_prepareWeb C.wok h) cv_RX6_140 rk_X6_person_X6_prepareWeb rfl (rc_0 w) rfl (Nat.le_of_ble_eq_true rfl) dX6_person_118 (fun S8 h => ?_)
  refine j_iload_n C dX6_person_121 2 rfl rfl ?_
  by_cases c9 : x2 = 1
  · have h := And.left h c9
    refine j_tableIn (tgt := 156) (off := 34) C dX6_person_122 (by rw [c9]; decide) (by rw [c9]; decide) (by rw [c9]; decide) (by decide) ?_
    refine j_aload_n C dX6_person_156 0 rfl rfl ?_
    refine gf_RX6_45_0 C dX6_person_157 ?_
    refine gf_RX6_163_14 C dX6_person_160 ?_
    refine j_iload_n C dX6_person_163 1 rfl rfl ?_
    refine al_16 C dX6_person_164 (And.left h) ?_
    have h := And.right h
    exact j_iret C dX6_person_165 h
  · have h := And.right h c9
    by_cases c10 : x2 = 2
    · have h := And.left h c10
      refine j_tableIn (tgt := 166) (off := 44) C dX6_person_122 (by rw [c10]; decide) (by rw [c10]; decide) (by rw [c10]; decide) (by decide) ?_
      refine j_aload_n C dX6_person_166 0 rfl rfl ?_
      refine gf_RX6_45_0 C dX6_person_167 ?_
      refine gf_RX6_166_14 C dX6_person_170 ?_
      refine j_iload_n C dX6_person_173 1 rfl rfl ?_
      refine al_17 C dX6_person_174 (And.left h) ?_
      have h := And.right h
      exact j_iret C dX6_person_175 h
    · have h := And.right h c10
      by_cases c11 : x2 = 3
      · have h := And.left h c11
        refine j_tableIn (tgt := 192) (off := 70) C dX6_person_122 (by rw [c11]; decide) (by rw [c11]; decide) (by rw [c11]; decide) (by decide) ?_
        refine j_sub [0, 1] rfl ?_
        exact t_X6_person_192 C h
      · have h := And.right h c11
        by_cases c16 : x2 = 4
        · have h := And.left h c16
          refine j_tableIn (tgt := 192) (off := 70) C dX6_person_122 (by rw [c16]; decide) (by rw [c16]; decide) (by rw [c16]; decide) (by decide) ?_
          refine j_sub [0, 1] rfl ?_
          exact t_X6_person_192 C h
        · have h := And.right h c16
          by_cases c17 : x2 = 5
          · have h := And.left h c17
            refine j_tableIn (tgt := 176) (off := 54) C dX6_person_122 (by rw [c17]; decide) (by rw [c17]; decide) (by rw [c17]; decide) (by decide) ?_
            refine j_aload_n C dX6_person_176 0 rfl rfl ?_
            refine j_aload_n C dX6_person_177 0 rfl rfl ?_
            refine gf_RX6_16_0 C dX6_person_178 ?_
            refine j_callVi (st := [rr w 0]) C 2 [] (m_X0_everyone C.wok h) cv_RX6_151 rk_X6_person_X0_everyone rfl (rc_2 w) rfl (Nat.le_of_ble_eq_true rfl) dX6_person_181 (fun r19 S18 h => ?_)
            refine j_callVi (st := []) C 0 [.int r19] (m_X6_admitted C.wok h) cv_RX6_169 rk_X6_person_X6_admitted rfl (rc_0 w) rfl (Nat.le_of_ble_eq_true rfl) dX6_person_184 (fun r21 S20 h => ?_)
            refine j_iload_n C dX6_person_187 1 rfl rfl ?_
            refine j_callSi (st := []) C [.int r21, .int x1] (m_X6_bit C.wok h) cv_RX6_172 rk_X6_person_X6_bit rfl rfl (Nat.le_of_ble_eq_true rfl) dX6_person_188 (fun r23 S22 h => ?_)
            exact j_iret C dX6_person_191 h
          · have h := And.right h c17
            have nc9 := lv_neT (a := 1) c9 (by decide)
            have nc10 := lv_neT (a := 2) c10 (by decide)
            have nc11 := lv_neT (a := 3) c11 (by decide)
            have nc16 := lv_neT (a := 4) c16 (by decide)
            have nc17 := lv_neT (a := 5) c17 (by decide)
            refine j_tableOut (tgt := 192) C dX6_person_122 (by omega) (by decide) ?_
            refine j_sub [0, 1] rfl ?_
            exact t_X6_person_192 C h
set_option maxRecDepth 20000 in
theorem m_X6_person {l : Launch} {w : Wt} (hw : WOK w) {x1 : Int32} {x2 : Int32} {S : St} {Q0 : Int32 → St → Prop} (h : p_X6_person x1 x2 S Q0) : MI l w yX6_person cX6_person 3 .int rm_X6_person [rr w 0, .int x1, .int x2] S Q0 := by
  refine m_MI (own := RX6) (lv := [(0, rr w 0), (1, .int x1), (2, .int x2)]) hw (by decide) rfl (Nat.le_of_ble_eq_true rfl) rfl (fun X C => ?_)
  refine j_aload_n C dX6_person_0 0 rfl rfl ?_
  refine gf_RX6_16_0 C dX6_person_1 ?_
  refine j_iload_n C dX6_person_4 1 rfl rfl ?_
  refine j_callVi (st := []) C 2 [.int x1] (m_X0_has C.wok h) cv_RX6_97 rk_X6_person_X0_has rfl (rc_2 w) rfl (Nat.le_of_ble_eq_true rfl) dX6_person_5 (fun r2 S1 h => ?_)
  refine j_if_ne (tgt := 14) C dX6_person_8 (by decide) (fun c3 => ?_) (fun c3 => ?_)
  · have h := And.left h c3
    refine j_iload_n C dX6_person_14 2 rfl rfl ?_
    refine j_if_lt (tgt := 24) C dX6_person_15 (by decide) (fun c4 => ?_) (fun c4 => ?_)
    · have h := And.left h c4
      refine j_bipush C dX6_person_24 (v := (-102)) (by decide) ?_
      exact j_iret C dX6_person_26 h
    · have h := And.right h c4
      refine j_iload_n C dX6_person_18 2 rfl rfl ?_
      refine j_bipush C dX6_person_19 (v := 7) (by decide) ?_
      refine j_icmp_le (tgt := 27) C dX6_person_21 (by decide) (fun c5 => ?_) (fun c5 => ?_)
      · have h := And.left h c5
        refine j_iload_n C dX6_person_27 2 rfl rfl ?_
        by_cases c6 : x2 = 0
        · have h := And.left h c6
          refine j_tableIn (tgt := 76) (off := 48) C dX6_person_28 (by rw [c6]; decide) (by rw [c6]; decide) (by rw [c6]; decide) (by decide) ?_
          refine j_aload_n C dX6_person_76 0 rfl rfl ?_
          refine gf_RX6_16_0 C dX6_person_77 ?_
          refine gf_RX6_103_2 C dX6_person_80 ?_
          refine j_iload_n C dX6_person_83 1 rfl rfl ?_
          refine al_4 C dX6_person_84 (And.left h) ?_
          have h := And.right h
          exact j_iret C dX6_person_85 h
        · have h := And.right h c6
          by_cases c7 : x2 = 1
          · have h := And.left h c7
            refine j_tableIn (tgt := 117) (off := 89) C dX6_person_28 (by rw [c7]; decide) (by rw [c7]; decide) (by rw [c7]; decide) (by decide) ?_
            exact t_X6_person_117 C h
          · have h := And.right h c7
            by_cases c24 : x2 = 2
            · have h := And.left h c24
              refine j_tableIn (tgt := 117) (off := 89) C dX6_person_28 (by rw [c24]; decide) (by rw [c24]; decide) (by rw [c24]; decide) (by decide) ?_
              exact t_X6_person_117 C h
            · have h := And.right h c24
              by_cases c25 : x2 = 3
              · have h := And.left h c25
                refine j_tableIn (tgt := 86) (off := 58) C dX6_person_28 (by rw [c25]; decide) (by rw [c25]; decide) (by rw [c25]; decide) (by decide) ?_
                refine j_aload_n C dX6_person_86 0 rfl rfl ?_
                refine gf_RX6_16_0 C dX6_person_87 ?_
                refine gf_RX6_122_2 C dX6_person_90 ?_
                refine j_iload_n C dX6_person_93 1 rfl rfl ?_
                refine al_5 C dX6_person_94 (And.left h) ?_
                have h := And.right h
                refine j_callSi (st := []) C [.int (S1.1 5 x1.toNatClampNeg)] (m_J6_bitCount_0f7a4 C.wok h) cv_RX6_110 rk_X6_person_J6_bitCount_0f7a4 rfl rfl (Nat.le_of_ble_eq_true rfl) dX6_person_95 (fun r27 S26 h => ?_)
                exact j_iret C dX6_person_98 h
              · have h := And.right h c25
                by_cases c28 : x2 = 4
                · have h := And.left h c28
                  refine j_tableIn (tgt := 99) (off := 71) C dX6_person_28 (by rw [c28]; decide) (by rw [c28]; decide) (by rw [c28]; decide) (by decide) ?_
                  refine j_aload_n C dX6_person_99 0 rfl rfl ?_
                  refine gf_RX6_16_0 C dX6_person_100 ?_
                  refine j_iload_n C dX6_person_103 1 rfl rfl ?_
                  refine j_callVi (st := []) C 2 [.int x1] (m_X0_vouchersOf C.wok h) cv_RX6_157 rk_X6_person_X0_vouchersOf rfl (rc_2 w) rfl (Nat.le_of_ble_eq_true rfl) dX6_person_104 (fun r30 S29 h => ?_)
                  refine j_callSi (st := []) C [.int r30] (m_J6_bitCount_0f7a4 C.wok h) cv_RX6_110 rk_X6_person_J6_bitCount_0f7a4 rfl rfl (Nat.le_of_ble_eq_true rfl) dX6_person_107 (fun r32 S31 h => ?_)
                  exact j_iret C dX6_person_110 h
                · have h := And.right h c28
                  by_cases c33 : x2 = 5
                  · have h := And.left h c33
                    refine j_tableIn (tgt := 117) (off := 89) C dX6_person_28 (by rw [c33]; decide) (by rw [c33]; decide) (by rw [c33]; decide) (by decide) ?_
                    exact t_X6_person_117 C h
                  · have h := And.right h c33
                    by_cases c34 : x2 = 6
                    · have h := And.left h c34
                      refine j_tableIn (tgt := 117) (off := 89) C dX6_person_28 (by rw [c34]; decide) (by rw [c34]; decide) (by rw [c34]; decide) (by decide) ?_
                      exact t_X6_person_117 C h
                    · have h := And.right h c34
                      by_cases c35 : x2 = 7
                      · have h := And.left h c35
                        refine j_tableIn (tgt := 111) (off := 83) C dX6_person_28 (by rw [c35]; decide) (by rw [c35]; decide) (by rw [c35]; decide) (by decide) ?_
                        refine j_aload_n C dX6_person_111 0 rfl rfl ?_
                        refine j_iload_n C dX6_person_112 1 rfl rfl ?_
                        refine j_callVi (st := []) C 0 [.int x1] (m_X6_waysTo C.wok h) cv_RX6_160 rk_X6_person_X6_waysTo rfl (rc_0 w) rfl (Nat.le_of_ble_eq_true rfl) dX6_person_113 (fun r37 S36 h => ?_)
                        exact j_iret C dX6_person_116 h
                      · have h := And.right h c35
                        have nc6 := lv_neT (a := 0) c6 (by decide)
                        have nc7 := lv_neT (a := 1) c7 (by decide)
                        have nc24 := lv_neT (a := 2) c24 (by decide)
                        have nc25 := lv_neT (a := 3) c25 (by decide)
                        have nc28 := lv_neT (a := 4) c28 (by decide)
                        have nc33 := lv_neT (a := 5) c33 (by decide)
                        have nc34 := lv_neT (a := 6) c34 (by decide)
                        have nc35 := lv_neT (a := 7) c35 (by decide)
                        refine j_tableOut (tgt := 117) C dX6_person_28 (by omega) (by decide) ?_
                        exact t_X6_person_117 C h
      · have h := And.right h c5
        refine j_bipush C dX6_person_24 (v := (-102)) (by decide) ?_
        exact j_iret C dX6_person_26 h
  · have h := And.right h c3
    refine j_bipush C dX6_person_11 (v := (-101)) (by decide) ?_
    exact j_iret C dX6_person_13 h
def rm_X7_wallOf : Room := { frames := 2, cells := 0, slots := 0, locals := 44 }
theorem rk_X7_wallOf_X7_ofKind : roomOk rm_X7_ofKind rm_X7_wallOf 4 := ⟨⟨rfl, rfl⟩, Nat.le_of_ble_eq_true rfl, Nat.le_of_ble_eq_true rfl⟩
theorem rk_X7_wallOf_X7_vouchedBy : roomOk rm_X7_vouchedBy rm_X7_wallOf 4 := ⟨⟨rfl, rfl⟩, Nat.le_of_ble_eq_true rfl, Nat.le_of_ble_eq_true rfl⟩
set_option maxRecDepth 20000 in
theorem m_X7_wallOf {l : Launch} {w : Wt} (hw : WOK w) {x1 : Int32} {S : St} {Q0 : Int32 → St → Prop} (h : p_X7_wallOf x1 S Q0) : MI l w yX7_wallOf cX7_wallOf 2 .int rm_X7_wallOf [rr w 25, .int x1] S Q0 := by
  refine m_MI (own := RX7) (lv := [(0, rr w 25), (1, .int x1)]) hw (by decide) rfl (Nat.le_of_ble_eq_true rfl) rfl (fun X C => ?_)
  refine j_aload_n C dX7_wallOf_0 0 rfl rfl ?_
  refine j_iconst C dX7_wallOf_1 (v := 1) (by decide) ?_
  refine j_callVi (st := []) C 25 [.int 1] (m_X7_ofKind C.wok h) cv_RX7_148 rk_X7_wallOf_X7_ofKind rfl (rc_25 w) rfl (Nat.le_of_ble_eq_true rfl) dX7_wallOf_2 (fun r2 S1 h => ?_)
  refine j_aload_n C dX7_wallOf_5 0 rfl rfl ?_
  refine j_iload_n C dX7_wallOf_6 1 rfl rfl ?_
  refine j_callVi (st := [.int r2]) C 25 [.int x1] (m_X7_vouchedBy C.wok h) cv_RX7_160 rk_X7_wallOf_X7_vouchedBy rfl (rc_25 w) rfl (Nat.le_of_ble_eq_true rfl) dX7_wallOf_7 (fun r4 S3 h => ?_)
  refine j_ior C dX7_wallOf_10 ?_
  refine j_iload_n C dX7_wallOf_11 1 rfl rfl ?_
  refine j_iconst C dX7_wallOf_12 (v := (-1)) (by decide) ?_
  refine j_ixor C dX7_wallOf_13 ?_
  refine j_iand C dX7_wallOf_14 ?_
  exact j_iret C dX7_wallOf_15 h
def rm_X7_lay : Room := { frames := 3, cells := 0, slots := 0, locals := 68 }
theorem rk_X7_lay_X7_layLevels : roomOk rm_X7_layLevels rm_X7_lay 5 := ⟨⟨rfl, rfl⟩, Nat.le_of_ble_eq_true rfl, Nat.le_of_ble_eq_true rfl⟩
theorem rk_X7_lay_X7_mostOf : roomOk rm_X7_mostOf rm_X7_lay 4 := ⟨⟨rfl, rfl⟩, Nat.le_of_ble_eq_true rfl, Nat.le_of_ble_eq_true rfl⟩
theorem rk_X7_lay_X7_wallOf : roomOk rm_X7_wallOf rm_X7_lay 2 := ⟨⟨rfl, rfl⟩, Nat.le_of_ble_eq_true rfl, Nat.le_of_ble_eq_true rfl⟩
set_option maxRecDepth 20000 in
theorem t_X7_lay_6 {X : Mx} {w : Wt} {l0 : Launch} {Q0 : St → Prop} (C : Cx X w l0 cX7_lay 2 RX7 rm_X7_lay none) {x1 : Int32} {S : St} (h : Lq (p_X7_lay_6 Q0) (x1, S)) : J X w (QV X w Q0) 6 [(0, rr w 25), (1, .int x1)] [] S := by
  have key : ∀ a : Int32 × St, Lq (p_X7_lay_6 Q0) a → J X w (QV X w Q0) 6 [(0, rr w 25), (1, .int a.1)] [] a.2 := by
    intro a ha
    refine Lq_use (G := fun a => J X w (QV X w Q0) 6 [(0, rr w 25), (1, .int a.1)] [] a.2) ?_ ha
    intro K6 hK a h
    obtain ⟨x1, S⟩ := a
    have hK6 : ∀ (x1 : Int32) (S : St), K6 (x1, S) → J X w (QV X w Q0) 6 [(0, rr w 25), (1, .int x1)] [] S := fun x1 S h => hK (x1, S) h
    show J X w (QV X w Q0) 6 [(0, rr w 25), (1, .int x1)] [] S
    refine j_iload_n C dX7_lay_6 1 rfl rfl ?_
    refine j_iconst C dX7_lay_7 (v := 1) (by decide) ?_
    refine j_aload_n C dX7_lay_8 0 rfl rfl ?_
    refine gf_RX7_111_25 C dX7_lay_9 ?_
    refine j_ishl C dX7_lay_12 ?_
    refine j_icmp_ge (tgt := 37) C dX7_lay_13 (by decide) (fun c2 => ?_) (fun c2 => ?_)
    · have h := And.left h c2
      exact j_vret C dX7_lay_37 h
    · have h := And.right h c2
      refine j_aload_n C dX7_lay_16 0 rfl rfl ?_
      refine gf_RX7_37_25 C dX7_lay_17 ?_
      refine j_iload_n C dX7_lay_20 1 rfl rfl ?_
      refine j_aload_n C dX7_lay_21 0 rfl rfl ?_
      refine j_aload_n C dX7_lay_22 0 rfl rfl ?_
      refine j_iload_n C dX7_lay_23 1 rfl rfl ?_
      refine j_callVi (st := [rr w 25, .int x1, rr w 35]) C 25 [.int x1] (m_X7_wallOf C.wok h) cv_RX7_166 rk_X7_lay_X7_wallOf rfl (rc_25 w) rfl (Nat.le_of_ble_eq_true rfl) dX7_lay_24 (fun r4 S3 h => ?_)
      refine j_callVi (st := [.int x1, rr w 35]) C 25 [.int r4] (m_X7_mostOf C.wok h) cv_RX7_169 rk_X7_lay_X7_mostOf rfl (rc_25 w) rfl (Nat.le_of_ble_eq_true rfl) dX7_lay_27 (fun r6 S5 h => ?_)
      refine as_35 C dX7_lay_30 (And.left h) (fun S7 eS7 => ?_)
      have h := And.right h S7 eS7
      refine j_iinc (lv' := [(1, .int (x1 + 1)), (0, rr w 25)]) C dX7_lay_31 1 rfl rfl (by decide) rfl ?_
      refine j_goto (tgt := 6) C dX7_lay_34 (by decide) ?_
      refine j_sub [1, 0] rfl ?_
      exact hK6 _ _ h
  exact key (x1, S) h
set_option maxRecDepth 20000 in
theorem m_X7_lay {l : Launch} {w : Wt} (hw : WOK w) {S : St} {Q0 : St → Prop} (h : p_X7_lay S Q0) : MV l w yX7_lay cX7_lay 2 rm_X7_lay [rr w 25] S Q0 := by
  refine m_MV (own := RX7) (lv := [(0, rr w 25)]) hw (by decide) rfl (Nat.le_of_ble_eq_true rfl) rfl (fun X C => ?_)
  refine j_aload_n C dX7_lay_0 0 rfl rfl ?_
  refine j_callVv (st := []) C 25 [] (m_X7_layLevels C.wok h) cv_RX7_163 rk_X7_lay_X7_layLevels rfl (rc_25 w) rfl (Nat.le_of_ble_eq_true rfl) dX7_lay_1 (fun S1 h => ?_)
  refine j_iconst C dX7_lay_4 (v := 0) (by decide) ?_
  refine j_istore_n (lv' := [(1, .int 0), (0, rr w 25)]) C dX7_lay_5 rfl (by decide) rfl ?_
  refine j_sub [1, 0] rfl ?_
  exact t_X7_lay_6 C h
def rm_X7_vouchersOf : Room := { frames := 1, cells := 0, slots := 0, locals := 21 }
theorem rk_X7_vouchersOf_X7_has : roomOk rm_X7_has rm_X7_vouchersOf 2 := ⟨⟨rfl, rfl⟩, Nat.le_of_ble_eq_true rfl, Nat.le_of_ble_eq_true rfl⟩
set_option maxRecDepth 20000 in
theorem t_X7_vouchersOf_31 {X : Mx} {w : Wt} {l0 : Launch} {Q0 : Int32 → St → Prop} {K4 : Int32 × Int32 × Int32 × St → Prop} (C : Cx X w l0 cX7_vouchersOf 4 RX7 rm_X7_vouchersOf (some .int)) (hK4 : ∀ (x1 : Int32) (x2 : Int32) (x3 : Int32) (S : St), K4 (x1, x2, x3, S) → J X w (QI X w Q0) 4 [(0, rr w 25), (1, .int x1), (2, .int x2), (3, .int x3)] [] S) {x1 : Int32} {x3 : Int32} {t0 : Int32} {t1 : Int32} {S : St} (h : p_X7_vouchersOf_31 Q0 K4 x1 x3 t0 t1 S) : J X w (QI X w Q0) 31 [(0, rr w 25), (1, .int x1), (3, .int x3)] [.int t0, .int t1] S := by
  refine j_iadd C dX7_vouchersOf_31 ?_
  refine j_istore_n (lv' := [(2, .int (t1 + t0)), (0, rr w 25), (1, .int x1), (3, .int x3)]) C dX7_vouchersOf_32 rfl (by decide) rfl ?_
  refine j_iinc (lv' := [(3, .int (x3 + 1)), (2, .int (t1 + t0)), (0, rr w 25), (1, .int x1)]) C dX7_vouchersOf_33 3 rfl rfl (by decide) rfl ?_
  refine j_goto (tgt := 4) C dX7_vouchersOf_36 (by decide) ?_
  refine j_sub [2, 3, 1, 0] rfl ?_
  exact hK4 _ _ _ _ h
set_option maxRecDepth 20000 in
theorem t_X7_vouchersOf_4 {X : Mx} {w : Wt} {l0 : Launch} {Q0 : Int32 → St → Prop} (C : Cx X w l0 cX7_vouchersOf 4 RX7 rm_X7_vouchersOf (some .int)) {x1 : Int32} {x2 : Int32} {x3 : Int32} {S : St} (h : Lq (p_X7_vouchersOf_4 Q0) (x1, x2, x3, S)) : J X w (QI X w Q0) 4 [(0, rr w 25), (1, .int x1), (2, .int x2), (3, .int x3)] [] S := by
  have key : ∀ a : Int32 × Int32 × Int32 × St, Lq (p_X7_vouchersOf_4 Q0) a → J X w (QI X w Q0) 4 [(0, rr w 25), (1, .int a.1), (2, .int a.2.1), (3, .int a.2.2.1)] [] a.2.2.2 := by
    intro a ha
    refine Lq_use (G := fun a => J X w (QI X w Q0) 4 [(0, rr w 25), (1, .int a.1), (2, .int a.2.1), (3, .int a.2.2.1)] [] a.2.2.2) ?_ ha
    intro K4 hK a h
    obtain ⟨x1, x2, x3, S⟩ := a
    have hK4 : ∀ (x1 : Int32) (x2 : Int32) (x3 : Int32) (S : St), K4 (x1, x2, x3, S) → J X w (QI X w Q0) 4 [(0, rr w 25), (1, .int x1), (2, .int x2), (3, .int x3)] [] S := fun x1 x2 x3 S h => hK (x1, x2, x3, S) h
    show J X w (QI X w Q0) 4 [(0, rr w 25), (1, .int x1), (2, .int x2), (3, .int x3)] [] S
    refine j_iload_n C dX7_vouchersOf_4 3 rfl rfl ?_
    refine j_aload_n C dX7_vouchersOf_5 0 rfl rfl ?_
    refine gf_RX7_111_25 C dX7_vouchersOf_6 ?_
    refine j_icmp_ge (tgt := 39) C dX7_vouchersOf_9 (by decide) (fun c1 => ?_) (fun c1 => ?_)
    · have h := And.left h c1
      refine j_iload_n C dX7_vouchersOf_39 2 rfl rfl ?_
      exact j_iret C dX7_vouchersOf_40 h
    · have h := And.right h c1
      refine j_iload_n C dX7_vouchersOf_12 2 rfl rfl ?_
      refine j_aload_n C dX7_vouchersOf_13 0 rfl rfl ?_
      refine gf_RX7_13_25 C dX7_vouchersOf_14 ?_
      refine j_iload_n C dX7_vouchersOf_17 3 rfl rfl ?_
      refine al_27 C dX7_vouchersOf_18 (And.left h) ?_
      have h := And.right h
      refine j_iload_n C dX7_vouchersOf_19 1 rfl rfl ?_
      refine j_callSi (st := [.int x2]) C [.int (S.1 27 x3.toNatClampNeg), .int x1] (m_X7_has C.wok h) cv_RX7_132 rk_X7_vouchersOf_X7_has rfl rfl (Nat.le_of_ble_eq_true rfl) dX7_vouchersOf_20 (fun r3 S2 h => ?_)
      refine j_if_eq (tgt := 30) C dX7_vouchersOf_23 (by decide) (fun c4 => ?_) (fun c4 => ?_)
      · have h := And.left h c4
        refine j_iconst C dX7_vouchersOf_30 (v := 0) (by decide) ?_
        refine j_sub [0, 1, 3] rfl ?_
        exact t_X7_vouchersOf_31 C hK4 h
      · have h := And.right h c4
        refine j_iconst C dX7_vouchersOf_26 (v := 1) (by decide) ?_
        refine j_goto (tgt := 31) C dX7_vouchersOf_27 (by decide) ?_
        refine j_sub [0, 1, 3] rfl ?_
        exact t_X7_vouchersOf_31 C hK4 h
  exact key (x1, x2, x3, S) h
set_option maxRecDepth 20000 in
theorem m_X7_vouchersOf {l : Launch} {w : Wt} (hw : WOK w) {x1 : Int32} {S : St} {Q0 : Int32 → St → Prop} (h : p_X7_vouchersOf x1 S Q0) : MI l w yX7_vouchersOf cX7_vouchersOf 4 .int rm_X7_vouchersOf [rr w 25, .int x1] S Q0 := by
  refine m_MI (own := RX7) (lv := [(0, rr w 25), (1, .int x1)]) hw (by decide) rfl (Nat.le_of_ble_eq_true rfl) rfl (fun X C => ?_)
  refine j_iconst C dX7_vouchersOf_0 (v := 0) (by decide) ?_
  refine j_istore_n (lv' := [(2, .int 0), (0, rr w 25), (1, .int x1)]) C dX7_vouchersOf_1 rfl (by decide) rfl ?_
  refine j_iconst C dX7_vouchersOf_2 (v := 0) (by decide) ?_
  refine j_istore_n (lv' := [(3, .int 0), (2, .int 0), (0, rr w 25), (1, .int x1)]) C dX7_vouchersOf_3 rfl (by decide) rfl ?_
  refine j_sub [2, 3, 1, 0] rfl ?_
  exact t_X7_vouchersOf_4 C h
def rm_X7_canBe : Room := { frames := 1, cells := 0, slots := 0, locals := 22 }
theorem rk_X7_canBe_X7_size : roomOk rm_X7_size rm_X7_canBe 3 := ⟨⟨rfl, rfl⟩, Nat.le_of_ble_eq_true rfl, Nat.le_of_ble_eq_true rfl⟩
set_option maxRecDepth 20000 in
theorem t_X7_canBe_40 {X : Mx} {w : Wt} {l0 : Launch} {Q0 : Int32 → St → Prop} {K4 : Int32 × Int32 × Int32 × St → Prop} (C : Cx X w l0 cX7_canBe 4 RX7 rm_X7_canBe (some .boolean)) (hK4 : ∀ (x1 : Int32) (x2 : Int32) (x3 : Int32) (S : St), K4 (x1, x2, x3, S) → J X w (QI X w Q0) 4 [(0, rr w 25), (1, .int x1), (2, .int x2), (3, .int x3)] [] S) {x1 : Int32} {x3 : Int32} {t0 : Int32} {S : St} (h : p_X7_canBe_40 Q0 K4 x1 x3 t0 S) : J X w (QI X w Q0) 40 [(0, rr w 25), (1, .int x1), (3, .int x3)] [.int t0] S := by
  refine j_istore_n (lv' := [(2, .int t0), (0, rr w 25), (1, .int x1), (3, .int x3)]) C dX7_canBe_40 rfl (by decide) rfl ?_
  refine j_iinc (lv' := [(3, .int (x3 + 1)), (2, .int t0), (0, rr w 25), (1, .int x1)]) C dX7_canBe_41 3 rfl rfl (by decide) rfl ?_
  refine j_goto (tgt := 4) C dX7_canBe_44 (by decide) ?_
  refine j_sub [2, 3, 1, 0] rfl ?_
  exact hK4 _ _ _ _ h
set_option maxRecDepth 20000 in
theorem t_X7_canBe_4 {X : Mx} {w : Wt} {l0 : Launch} {Q0 : Int32 → St → Prop} (C : Cx X w l0 cX7_canBe 4 RX7 rm_X7_canBe (some .boolean)) {x1 : Int32} {x2 : Int32} {x3 : Int32} {S : St} (h : Lq (p_X7_canBe_4 Q0) (x1, x2, x3, S)) : J X w (QI X w Q0) 4 [(0, rr w 25), (1, .int x1), (2, .int x2), (3, .int x3)] [] S := by
  have key : ∀ a : Int32 × Int32 × Int32 × St, Lq (p_X7_canBe_4 Q0) a → J X w (QI X w Q0) 4 [(0, rr w 25), (1, .int a.1), (2, .int a.2.1), (3, .int a.2.2.1)] [] a.2.2.2 := by
    intro a ha
    refine Lq_use (G := fun a => J X w (QI X w Q0) 4 [(0, rr w 25), (1, .int a.1), (2, .int a.2.1), (3, .int a.2.2.1)] [] a.2.2.2) ?_ ha
    intro K4 hK a h
    obtain ⟨x1, x2, x3, S⟩ := a
    have hK4 : ∀ (x1 : Int32) (x2 : Int32) (x3 : Int32) (S : St), K4 (x1, x2, x3, S) → J X w (QI X w Q0) 4 [(0, rr w 25), (1, .int x1), (2, .int x2), (3, .int x3)] [] S := fun x1 x2 x3 S h => hK (x1, x2, x3, S) h
    show J X w (QI X w Q0) 4 [(0, rr w 25), (1, .int x1), (2, .int x2), (3, .int x3)] [] S
    refine j_iload_n C dX7_canBe_4 3 rfl rfl ?_
    refine j_iconst C dX7_canBe_5 (v := 1) (by decide) ?_
    refine j_aload_n C dX7_canBe_6 0 rfl rfl ?_
    refine gf_RX7_111_25 C dX7_canBe_7 ?_
    refine j_ishl C dX7_canBe_10 ?_
    refine j_icmp_ge (tgt := 47) C dX7_canBe_11 (by decide) (fun c1 => ?_) (fun c1 => ?_)
    · have h := And.left h c1
      refine j_iload_n C dX7_canBe_47 2 rfl rfl ?_
      exact j_zret C dX7_canBe_48 h
    · have h := And.right h c1
      refine j_iload_n C dX7_canBe_14 2 rfl rfl ?_
      refine j_if_eq (tgt := 47) C dX7_canBe_15 (by decide) (fun c2 => ?_) (fun c2 => ?_)
      · have h := And.left h c2
        refine j_iload_n C dX7_canBe_47 2 rfl rfl ?_
        exact j_zret C dX7_canBe_48 h
      · have h := And.right h c2
        refine j_aload_n C dX7_canBe_18 0 rfl rfl ?_
        refine gf_RX7_37_25 C dX7_canBe_19 ?_
        refine j_iload_n C dX7_canBe_22 3 rfl rfl ?_
        refine al_35 C dX7_canBe_23 (And.left h) ?_
        have h := And.right h
        refine j_iload_n C dX7_canBe_24 1 rfl rfl ?_
        refine j_iload_n C dX7_canBe_25 3 rfl rfl ?_
        refine j_iconst C dX7_canBe_26 (v := (-1)) (by decide) ?_
        refine j_ixor C dX7_canBe_27 ?_
        refine j_iand C dX7_canBe_28 ?_
        refine j_callSi (st := [.int (S.1 35 x3.toNatClampNeg)]) C [.int (x1 &&& (x3 ^^^ (-1)))] (m_X7_size C.wok h) cv_RX7_71 rk_X7_canBe_X7_size rfl rfl (Nat.le_of_ble_eq_true rfl) dX7_canBe_29 (fun r4 S3 h => ?_)
        refine j_icmp_lt (tgt := 39) C dX7_canBe_32 (by decide) (fun c5 => ?_) (fun c5 => ?_)
        · have h := And.left h c5
          refine j_iconst C dX7_canBe_39 (v := 0) (by decide) ?_
          refine j_sub [0, 1, 3] rfl ?_
          exact t_X7_canBe_40 C hK4 h
        · have h := And.right h c5
          refine j_iconst C dX7_canBe_35 (v := 1) (by decide) ?_
          refine j_goto (tgt := 40) C dX7_canBe_36 (by decide) ?_
          refine j_sub [0, 1, 3] rfl ?_
          exact t_X7_canBe_40 C hK4 h
  exact key (x1, x2, x3, S) h
set_option maxRecDepth 20000 in
theorem m_X7_canBe {l : Launch} {w : Wt} (hw : WOK w) {x1 : Int32} {S : St} {Q0 : Int32 → St → Prop} (h : p_X7_canBe x1 S Q0) : MI l w yX7_canBe cX7_canBe 4 .boolean rm_X7_canBe [rr w 25, .int x1] S Q0 := by
  refine m_MI (own := RX7) (lv := [(0, rr w 25), (1, .int x1)]) hw (by decide) rfl (Nat.le_of_ble_eq_true rfl) rfl (fun X C => ?_)
  refine j_iconst C dX7_canBe_0 (v := 1) (by decide) ?_
  refine j_istore_n (lv' := [(2, .int 1), (0, rr w 25), (1, .int x1)]) C dX7_canBe_1 rfl (by decide) rfl ?_
  refine j_iconst C dX7_canBe_2 (v := 0) (by decide) ?_
  refine j_istore_n (lv' := [(3, .int 0), (2, .int 1), (0, rr w 25), (1, .int x1)]) C dX7_canBe_3 rfl (by decide) rfl ?_
  refine j_sub [2, 3, 1, 0] rfl ?_
  exact t_X7_canBe_4 C h
def rm_X7_allIn : Room := { frames := 2, cells := 0, slots := 0, locals := 45 }
theorem rk_X7_allIn_X7_canBe : roomOk rm_X7_canBe rm_X7_allIn 4 := ⟨⟨rfl, rfl⟩, Nat.le_of_ble_eq_true rfl, Nat.le_of_ble_eq_true rfl⟩
set_option maxRecDepth 20000 in
theorem t_X7_allIn_32 {X : Mx} {w : Wt} {l0 : Launch} {Q0 : Int32 → St → Prop} {K4 : Int32 × Int32 × St → Prop} (C : Cx X w l0 cX7_allIn 3 RX7 rm_X7_allIn (some .int)) (hK4 : ∀ (x1 : Int32) (x2 : Int32) (S : St), K4 (x1, x2, S) → J X w (QI X w Q0) 4 [(0, rr w 25), (1, .int x1), (2, .int x2)] [] S) {x2 : Int32} {t0 : Int32} {t1 : Int32} {S : St} (h : p_X7_allIn_32 Q0 K4 x2 t0 t1 S) : J X w (QI X w Q0) 32 [(0, rr w 25), (2, .int x2)] [.int t0, .int t1] S := by
  refine j_ior C dX7_allIn_32 ?_
  refine j_istore_n (lv' := [(1, .int (t1 ||| t0)), (0, rr w 25), (2, .int x2)]) C dX7_allIn_33 rfl (by decide) rfl ?_
  refine j_iinc (lv' := [(2, .int (x2 + 1)), (1, .int (t1 ||| t0)), (0, rr w 25)]) C dX7_allIn_34 2 rfl rfl (by decide) rfl ?_
  refine j_goto (tgt := 4) C dX7_allIn_37 (by decide) ?_
  refine j_sub [2, 1, 0] rfl ?_
  exact hK4 _ _ _ h
set_option maxRecDepth 20000 in
theorem t_X7_allIn_4 {X : Mx} {w : Wt} {l0 : Launch} {Q0 : Int32 → St → Prop} (C : Cx X w l0 cX7_allIn 3 RX7 rm_X7_allIn (some .int)) {x1 : Int32} {x2 : Int32} {S : St} (h : Lq (p_X7_allIn_4 Q0) (x1, x2, S)) : J X w (QI X w Q0) 4 [(0, rr w 25), (1, .int x1), (2, .int x2)] [] S := by
  have key : ∀ a : Int32 × Int32 × St, Lq (p_X7_allIn_4 Q0) a → J X w (QI X w Q0) 4 [(0, rr w 25), (1, .int a.1), (2, .int a.2.1)] [] a.2.2 := by
    intro a ha
    refine Lq_use (G := fun a => J X w (QI X w Q0) 4 [(0, rr w 25), (1, .int a.1), (2, .int a.2.1)] [] a.2.2) ?_ ha
    intro K4 hK a h
    obtain ⟨x1, x2, S⟩ := a
    have hK4 : ∀ (x1 : Int32) (x2 : Int32) (S : St), K4 (x1, x2, S) → J X w (QI X w Q0) 4 [(0, rr w 25), (1, .int x1), (2, .int x2)] [] S := fun x1 x2 S h => hK (x1, x2, S) h
    show J X w (QI X w Q0) 4 [(0, rr w 25), (1, .int x1), (2, .int x2)] [] S
    refine j_iload_n C dX7_allIn_4 2 rfl rfl ?_
    refine j_aload_n C dX7_allIn_5 0 rfl rfl ?_
    refine gf_RX7_111_25 C dX7_allIn_6 ?_
    refine j_icmp_ge (tgt := 40) C dX7_allIn_9 (by decide) (fun c1 => ?_) (fun c1 => ?_)
    · have h := And.left h c1
      refine j_iload_n C dX7_allIn_40 1 rfl rfl ?_
      exact j_iret C dX7_allIn_41 h
    · have h := And.right h c1
      refine j_iload_n C dX7_allIn_12 1 rfl rfl ?_
      refine j_aload_n C dX7_allIn_13 0 rfl rfl ?_
      refine j_iload_n C dX7_allIn_14 1 rfl rfl ?_
      refine j_iconst C dX7_allIn_15 (v := 1) (by decide) ?_
      refine j_iload_n C dX7_allIn_16 2 rfl rfl ?_
      refine j_ishl C dX7_allIn_17 ?_
      refine j_ior C dX7_allIn_18 ?_
      refine j_callVi (st := [.int x1]) C 25 [.int (x1 ||| (1 <<< (x2 &&& 31)))] (m_X7_canBe C.wok h) cv_RX7_172 rk_X7_allIn_X7_canBe rfl (rc_25 w) rfl (Nat.le_of_ble_eq_true rfl) dX7_allIn_19 (fun r3 S2 h => ?_)
      refine j_if_eq (tgt := 31) C dX7_allIn_22 (by decide) (fun c4 => ?_) (fun c4 => ?_)
      · have h := And.left h c4
        refine j_iconst C dX7_allIn_31 (v := 0) (by decide) ?_
        refine j_sub [0, 2] rfl ?_
        exact t_X7_allIn_32 C hK4 h
      · have h := And.right h c4
        refine j_iconst C dX7_allIn_25 (v := 1) (by decide) ?_
        refine j_iload_n C dX7_allIn_26 2 rfl rfl ?_
        refine j_ishl C dX7_allIn_27 ?_
        refine j_goto (tgt := 32) C dX7_allIn_28 (by decide) ?_
        refine j_sub [0, 2] rfl ?_
        exact t_X7_allIn_32 C hK4 h
  exact key (x1, x2, S) h
set_option maxRecDepth 20000 in
theorem m_X7_allIn {l : Launch} {w : Wt} (hw : WOK w) {S : St} {Q0 : Int32 → St → Prop} (h : p_X7_allIn S Q0) : MI l w yX7_allIn cX7_allIn 3 .int rm_X7_allIn [rr w 25] S Q0 := by
  refine m_MI (own := RX7) (lv := [(0, rr w 25)]) hw (by decide) rfl (Nat.le_of_ble_eq_true rfl) rfl (fun X C => ?_)
  refine j_iconst C dX7_allIn_0 (v := 0) (by decide) ?_
  refine j_istore_n (lv' := [(1, .int 0), (0, rr w 25)]) C dX7_allIn_1 rfl (by decide) rfl ?_
  refine j_iconst C dX7_allIn_2 (v := 0) (by decide) ?_
  refine j_istore_n (lv' := [(2, .int 0), (1, .int 0), (0, rr w 25)]) C dX7_allIn_3 rfl (by decide) rfl ?_
  refine j_sub [2, 1, 0] rfl ?_
  exact t_X7_allIn_4 C h
def rm_X7_takenIn : Room := { frames := 1, cells := 0, slots := 0, locals := 23 }
theorem rk_X7_takenIn_X7_ofKind : roomOk rm_X7_ofKind rm_X7_takenIn 4 := ⟨⟨rfl, rfl⟩, Nat.le_of_ble_eq_true rfl, Nat.le_of_ble_eq_true rfl⟩
set_option maxRecDepth 20000 in
theorem t_X7_takenIn_64 {X : Mx} {w : Wt} {l0 : Launch} {Q0 : Int32 → St → Prop} {K4 : Int32 × Int32 × St → Prop} (C : Cx X w l0 cX7_takenIn 4 RX7 rm_X7_takenIn (some .int)) (hK4 : ∀ (x1 : Int32) (x2 : Int32) (S : St), K4 (x1, x2, S) → J X w (QI X w Q0) 4 [(0, rr w 25), (1, .int x1), (2, .int x2)] [] S) {x2 : Int32} {t0 : Int32} {t1 : Int32} {S : St} (h : p_X7_takenIn_64 Q0 K4 x2 t0 t1 S) : J X w (QI X w Q0) 64 [(0, rr w 25), (2, .int x2)] [.int t0, .int t1] S := by
  refine j_ior C dX7_takenIn_64 ?_
  refine j_istore_n (lv' := [(1, .int (t1 ||| t0)), (0, rr w 25), (2, .int x2)]) C dX7_takenIn_65 rfl (by decide) rfl ?_
  refine j_iinc (lv' := [(2, .int (x2 + 1)), (1, .int (t1 ||| t0)), (0, rr w 25)]) C dX7_takenIn_66 2 rfl rfl (by decide) rfl ?_
  refine j_goto (tgt := 4) C dX7_takenIn_69 (by decide) ?_
  refine j_sub [2, 1, 0] rfl ?_
  exact hK4 _ _ _ h
set_option maxRecDepth 20000 in
theorem t_X7_takenIn_51 {X : Mx} {w : Wt} {l0 : Launch} {Q0 : Int32 → St → Prop} {K4 : Int32 × Int32 × St → Prop} (C : Cx X w l0 cX7_takenIn 4 RX7 rm_X7_takenIn (some .int)) (hK4 : ∀ (x1 : Int32) (x2 : Int32) (S : St), K4 (x1, x2, S) → J X w (QI X w Q0) 4 [(0, rr w 25), (1, .int x1), (2, .int x2)] [] S) {x1 : Int32} {x2 : Int32} {t0 : Int32} {S : St} (h : p_X7_takenIn_51 Q0 K4 x1 x2 t0 S) : J X w (QI X w Q0) 51 [(0, rr w 25), (1, .int x1), (2, .int x2)] [.int t0] S := by
  refine j_istore_n (lv' := [(3, .int t0), (0, rr w 25), (1, .int x1), (2, .int x2)]) C dX7_takenIn_51 rfl (by decide) rfl ?_
  refine j_iload_n C dX7_takenIn_52 2 rfl rfl ?_
  refine j_iload_n C dX7_takenIn_53 0 rfl rfl ?_
  refine j_if_eq (tgt := 63) C dX7_takenIn_54 (by decide) (fun c3 => ?_) (fun c3 => ?_)
  · have h := And.left h c3
    refine j_iconst C dX7_takenIn_63 (v := 0) (by decide) ?_
    refine j_sub [1, 3] rfl ?_
    exact t_X7_takenIn_64 C hK4 h
  · have h := And.right h c3
    refine j_iconst C dX7_takenIn_57 (v := 1) (by decide) ?_
    refine j_iload_n C dX7_takenIn_58 3 rfl rfl ?_
    refine j_ishl C dX7_takenIn_59 ?_
    refine j_goto (tgt := 64) C dX7_takenIn_60 (by decide) ?_
    refine j_sub [1, 3] rfl ?_
    exact t_X7_takenIn_64 C hK4 h
set_option maxRecDepth 20000 in
theorem t_X7_takenIn_50 {X : Mx} {w : Wt} {l0 : Launch} {Q0 : Int32 → St → Prop} {K4 : Int32 × Int32 × St → Prop} (C : Cx X w l0 cX7_takenIn 4 RX7 rm_X7_takenIn (some .int)) (hK4 : ∀ (x1 : Int32) (x2 : Int32) (S : St), K4 (x1, x2, S) → J X w (QI X w Q0) 4 [(0, rr w 25), (1, .int x1), (2, .int x2)] [] S) {x1 : Int32} {x2 : Int32} {S : St} (h : p_X7_takenIn_50 Q0 K4 x1 x2 S) : J X w (QI X w Q0) 50 [(0, rr w 25), (1, .int x1), (2, .int x2)] [] S := by
  refine j_iconst C dX7_takenIn_50 (v := 0) (by decide) ?_
  exact t_X7_takenIn_51 C hK4 h
set_option maxRecDepth 20000 in
theorem t_X7_takenIn_4 {X : Mx} {w : Wt} {l0 : Launch} {Q0 : Int32 → St → Prop} (C : Cx X w l0 cX7_takenIn 4 RX7 rm_X7_takenIn (some .int)) {x1 : Int32} {x2 : Int32} {S : St} (h : Lq (p_X7_takenIn_4 Q0) (x1, x2, S)) : J X w (QI X w Q0) 4 [(0, rr w 25), (1, .int x1), (2, .int x2)] [] S := by
  have key : ∀ a : Int32 × Int32 × St, Lq (p_X7_takenIn_4 Q0) a → J X w (QI X w Q0) 4 [(0, rr w 25), (1, .int a.1), (2, .int a.2.1)] [] a.2.2 := by
    intro a ha
    refine Lq_use (G := fun a => J X w (QI X w Q0) 4 [(0, rr w 25), (1, .int a.1), (2, .int a.2.1)] [] a.2.2) ?_ ha
    intro K4 hK a h
    obtain ⟨x1, x2, S⟩ := a
    have hK4 : ∀ (x1 : Int32) (x2 : Int32) (S : St), K4 (x1, x2, S) → J X w (QI X w Q0) 4 [(0, rr w 25), (1, .int x1), (2, .int x2)] [] S := fun x1 x2 S h => hK (x1, x2, S) h
    show J X w (QI X w Q0) 4 [(0, rr w 25), (1, .int x1), (2, .int x2)] [] S
    refine j_iload_n C dX7_takenIn_4 2 rfl rfl ?_
    refine j_aload_n C dX7_takenIn_5 0 rfl rfl ?_
    refine gf_RX7_111_25 C dX7_takenIn_6 ?_
    refine j_icmp_ge (tgt := 72) C dX7_takenIn_9 (by decide) (fun c1 => ?_) (fun c1 => ?_)
    · have h := And.left h c1
      refine j_iload_n C dX7_takenIn_72 1 rfl rfl ?_
      exact j_iret C dX7_takenIn_73 h
    · have h := And.right h c1
      refine j_aload_n C dX7_takenIn_12 0 rfl rfl ?_
      refine gf_RX7_7_25 C dX7_takenIn_13 ?_
      refine j_iload_n C dX7_takenIn_16 2 rfl rfl ?_
      refine al_26 C dX7_takenIn_17 (And.left h) ?_
      have h := And.right h
      refine j_iconst C dX7_takenIn_18 (v := 2) (by decide) ?_
      refine j_icmp_eq (tgt := 50) C dX7_takenIn_19 (by decide) (fun c2 => ?_) (fun c2 => ?_)
      · have h := And.left h c2
        exact t_X7_takenIn_50 C hK4 h
      · have h := And.right h c2
        refine j_aload_n C dX7_takenIn_22 0 rfl rfl ?_
        refine gf_RX7_34_25 C dX7_takenIn_23 ?_
        refine j_iload_n C dX7_takenIn_26 2 rfl rfl ?_
        refine al_34 C dX7_takenIn_27 (And.left h) ?_
        have h := And.right h
        refine j_if_le (tgt := 50) C dX7_takenIn_28 (by decide) (fun c4 => ?_) (fun c4 => ?_)
        · have h := And.left h c4
          exact t_X7_takenIn_50 C hK4 h
        · have h := And.right h c4
          refine j_aload_n C dX7_takenIn_31 0 rfl rfl ?_
          refine gf_RX7_13_25 C dX7_takenIn_32 ?_
          refine j_iload_n C dX7_takenIn_35 2 rfl rfl ?_
          refine al_27 C dX7_takenIn_36 (And.left h) ?_
          have h := And.right h
          refine j_aload_n C dX7_takenIn_37 0 rfl rfl ?_
          refine j_iconst C dX7_takenIn_38 (v := 2) (by decide) ?_
          refine j_callVi (st := [.int (S.1 27 x2.toNatClampNeg)]) C 25 [.int 2] (m_X7_ofKind C.wok h) cv_RX7_148 rk_X7_takenIn_X7_ofKind rfl (rc_25 w) rfl (Nat.le_of_ble_eq_true rfl) dX7_takenIn_39 (fun r6 S5 h => ?_)
          refine j_iand C dX7_takenIn_42 ?_
          refine j_if_eq (tgt := 50) C dX7_takenIn_43 (by decide) (fun c7 => ?_) (fun c7 => ?_)
          · have h := And.left h c7
            exact t_X7_takenIn_50 C hK4 h
          · have h := And.right h c7
            refine j_iconst C dX7_takenIn_46 (v := 1) (by decide) ?_
            refine j_goto (tgt := 51) C dX7_takenIn_47 (by decide) ?_
            exact t_X7_takenIn_51 C hK4 h
  exact key (x1, x2, S) h
set_option maxRecDepth 20000 in
theorem m_X7_takenIn {l : Launch} {w : Wt} (hw : WOK w) {S : St} {Q0 : Int32 → St → Prop} (h : p_X7_takenIn S Q0) : MI l w yX7_takenIn cX7_takenIn 4 .int rm_X7_takenIn [rr w 25] S Q0 := by
  refine m_MI (own := RX7) (lv := [(0, rr w 25)]) hw (by decide) rfl (Nat.le_of_ble_eq_true rfl) rfl (fun X C => ?_)
  refine j_iconst C dX7_takenIn_0 (v := 0) (by decide) ?_
  refine j_istore_n (lv' := [(1, .int 0), (0, rr w 25)]) C dX7_takenIn_1 rfl (by decide) rfl ?_
  refine j_iconst C dX7_takenIn_2 (v := 0) (by decide) ?_
  refine j_istore_n (lv' := [(2, .int 0), (1, .int 0), (0, rr w 25)]) C dX7_takenIn_3 rfl (by decide) rfl ?_
  refine j_sub [2, 1, 0] rfl ?_
  exact t_X7_takenIn_4 C h
def rm_X7_isLed : Room := { frames := 2, cells := 0, slots := 0, locals := 44 }
theorem rk_X7_isLed_X7_has : roomOk rm_X7_has rm_X7_isLed 2 := ⟨⟨rfl, rfl⟩, Nat.le_of_ble_eq_true rfl, Nat.le_of_ble_eq_true rfl⟩
theorem rk_X7_isLed_X7_ofKind : roomOk rm_X7_ofKind rm_X7_isLed 4 := ⟨⟨rfl, rfl⟩, Nat.le_of_ble_eq_true rfl, Nat.le_of_ble_eq_true rfl⟩
theorem rk_X7_isLed_X7_vouchedBy : roomOk rm_X7_vouchedBy rm_X7_isLed 4 := ⟨⟨rfl, rfl⟩, Nat.le_of_ble_eq_true rfl, Nat.le_of_ble_eq_true rfl⟩
set_option maxRecDepth 20000 in
theorem t_X7_isLed_13 {X : Mx} {w : Wt} {l0 : Launch} {Q0 : Int32 → St → Prop} (C : Cx X w l0 cX7_isLed 5 RX7 rm_X7_isLed (some .boolean)) {x1 : Int32} {x2 : Int32} {x3 : Int32} {x4 : Int32} {S : St} (h : Lq (p_X7_isLed_13 Q0) (x1, x2, x3, x4, S)) : J X w (QI X w Q0) 13 [(0, rr w 25), (1, .int x1), (2, .int x2), (3, .int x3), (4, .int x4)] [] S := by
  have key : ∀ a : Int32 × Int32 × Int32 × Int32 × St, Lq (p_X7_isLed_13 Q0) a → J X w (QI X w Q0) 13 [(0, rr w 25), (1, .int a.1), (2, .int a.2.1), (3, .int a.2.2.1), (4, .int a.2.2.2.1)] [] a.2.2.2.2 := by
    intro a ha
    refine Lq_use (G := fun a => J X w (QI X w Q0) 13 [(0, rr w 25), (1, .int a.1), (2, .int a.2.1), (3, .int a.2.2.1), (4, .int a.2.2.2.1)] [] a.2.2.2.2) ?_ ha
    intro K13 hK a h
    obtain ⟨x1, x2, x3, x4, S⟩ := a
    have hK13 : ∀ (x1 : Int32) (x2 : Int32) (x3 : Int32) (x4 : Int32) (S : St), K13 (x1, x2, x3, x4, S) → J X w (QI X w Q0) 13 [(0, rr w 25), (1, .int x1), (2, .int x2), (3, .int x3), (4, .int x4)] [] S := fun x1 x2 x3 x4 S h => hK (x1, x2, x3, x4, S) h
    show J X w (QI X w Q0) 13 [(0, rr w 25), (1, .int x1), (2, .int x2), (3, .int x3), (4, .int x4)] [] S
    refine j_iload C dX7_isLed_13 4 rfl ?_
    refine j_aload_n C dX7_isLed_15 0 rfl rfl ?_
    refine gf_RX7_111_25 C dX7_isLed_16 ?_
    refine j_icmp_ge (tgt := 40) C dX7_isLed_19 (by decide) (fun c3 => ?_) (fun c3 => ?_)
    · have h := And.left h c3
      refine j_iload_n C dX7_isLed_40 3 rfl rfl ?_
      refine j_iload_n C dX7_isLed_41 1 rfl rfl ?_
      refine j_callSi (st := []) C [.int x3, .int x1] (m_X7_has C.wok h) cv_RX7_132 rk_X7_isLed_X7_has rfl rfl (Nat.le_of_ble_eq_true rfl) dX7_isLed_42 (fun r5 S4 h => ?_)
      exact j_zret C dX7_isLed_45 h
    · have h := And.right h c3
      refine j_iload_n C dX7_isLed_22 3 rfl rfl ?_
      refine j_aload_n C dX7_isLed_23 0 rfl rfl ?_
      refine j_iload_n C dX7_isLed_24 3 rfl rfl ?_
      refine j_callVi (st := [.int x3]) C 25 [.int x3] (m_X7_vouchedBy C.wok h) cv_RX7_160 rk_X7_isLed_X7_vouchedBy rfl (rc_25 w) rfl (Nat.le_of_ble_eq_true rfl) dX7_isLed_25 (fun r7 S6 h => ?_)
      refine j_iload_n C dX7_isLed_28 2 rfl rfl ?_
      refine j_iconst C dX7_isLed_29 (v := (-1)) (by decide) ?_
      refine j_ixor C dX7_isLed_30 ?_
      refine j_iand C dX7_isLed_31 ?_
      refine j_ior C dX7_isLed_32 ?_
      refine j_istore_n (lv' := [(3, .int (x3 ||| (r7 &&& (x2 ^^^ (-1))))), (0, rr w 25), (1, .int x1), (2, .int x2), (4, .int x4)]) C dX7_isLed_33 rfl (by decide) rfl ?_
      refine j_iinc (lv' := [(4, .int (x4 + 1)), (3, .int (x3 ||| (r7 &&& (x2 ^^^ (-1))))), (0, rr w 25), (1, .int x1), (2, .int x2)]) C dX7_isLed_34 4 rfl rfl (by decide) rfl ?_
      refine j_goto (tgt := 13) C dX7_isLed_37 (by decide) ?_
      refine j_sub [2, 3, 4, 1, 0] rfl ?_
      exact hK13 _ _ _ _ _ h
  exact key (x1, x2, x3, x4, S) h
set_option maxRecDepth 20000 in
theorem m_X7_isLed {l : Launch} {w : Wt} (hw : WOK w) {x1 : Int32} {x2 : Int32} {S : St} {Q0 : Int32 → St → Prop} (h : p_X7_isLed x1 x2 S Q0) : MI l w yX7_isLed cX7_isLed 5 .boolean rm_X7_isLed [rr w 25, .int x1, .int x2] S Q0 := by
  refine m_MI (own := RX7) (lv := [(0, rr w 25), (1, .int x1), (2, .int x2)]) hw (by decide) rfl (Nat.le_of_ble_eq_true rfl) rfl (fun X C => ?_)
  refine j_aload_n C dX7_isLed_0 0 rfl rfl ?_
  refine j_iconst C dX7_isLed_1 (v := 1) (by decide) ?_
  refine j_callVi (st := []) C 25 [.int 1] (m_X7_ofKind C.wok h) cv_RX7_148 rk_X7_isLed_X7_ofKind rfl (rc_25 w) rfl (Nat.le_of_ble_eq_true rfl) dX7_isLed_2 (fun r2 S1 h => ?_)
  refine j_iload_n C dX7_isLed_5 2 rfl rfl ?_
  refine j_iconst C dX7_isLed_6 (v := (-1)) (by decide) ?_
  refine j_ixor C dX7_isLed_7 ?_
  refine j_iand C dX7_isLed_8 ?_
  refine j_istore_n (lv' := [(3, .int (r2 &&& (x2 ^^^ (-1)))), (0, rr w 25), (1, .int x1), (2, .int x2)]) C dX7_isLed_9 rfl (by decide) rfl ?_
  refine j_iconst C dX7_isLed_10 (v := 0) (by decide) ?_
  refine j_istore (lv' := [(4, .int 0), (3, .int (r2 &&& (x2 ^^^ (-1)))), (0, rr w 25), (1, .int x1), (2, .int x2)]) C dX7_isLed_11 (by decide) rfl ?_
  refine j_sub [2, 3, 4, 1, 0] rfl ?_
  exact t_X7_isLed_13 C h
def rm_X7_apartNow : Room := { frames := 3, cells := 0, slots := 0, locals := 68 }
theorem rk_X7_apartNow_X7_has : roomOk rm_X7_has rm_X7_apartNow 2 := ⟨⟨rfl, rfl⟩, Nat.le_of_ble_eq_true rfl, Nat.le_of_ble_eq_true rfl⟩
theorem rk_X7_apartNow_X7_isLed : roomOk rm_X7_isLed rm_X7_apartNow 5 := ⟨⟨rfl, rfl⟩, Nat.le_of_ble_eq_true rfl, Nat.le_of_ble_eq_true rfl⟩
theorem rk_X7_apartNow_X7_size : roomOk rm_X7_size rm_X7_apartNow 3 := ⟨⟨rfl, rfl⟩, Nat.le_of_ble_eq_true rfl, Nat.le_of_ble_eq_true rfl⟩
set_option maxRecDepth 20000 in
theorem t_X7_apartNow_76 {X : Mx} {w : Wt} {l0 : Launch} {Q0 : Int32 → St → Prop} {K16 : Int32 × Int32 × Int32 × St → Prop} (C : Cx X w l0 cX7_apartNow 5 RX7 rm_X7_apartNow (some .int)) (hK16 : ∀ (x1 : Int32) (x2 : Int32) (x3 : Int32) (S : St), K16 (x1, x2, x3, S) → J X w (QI X w Q0) 16 [(0, rr w 25), (1, .int x1), (2, .int x2), (3, .int x3)] [] S) {x1 : Int32} {x3 : Int32} {t0 : Int32} {S : St} (h : p_X7_apartNow_76 Q0 K16 x1 x3 t0 S) : J X w (QI X w Q0) 76 [(0, rr w 25), (1, .int x1), (3, .int x3)] [.int t0] S := by
  refine j_istore_n (lv' := [(2, .int t0), (0, rr w 25), (1, .int x1), (3, .int x3)]) C dX7_apartNow_76 rfl (by decide) rfl ?_
  refine j_iinc (lv' := [(3, .int (x3 + 1)), (2, .int t0), (0, rr w 25), (1, .int x1)]) C dX7_apartNow_77 3 rfl rfl (by decide) rfl ?_
  refine j_goto (tgt := 16) C dX7_apartNow_80 (by decide) ?_
  refine j_sub [2, 3, 1, 0] rfl ?_
  exact hK16 _ _ _ _ h
set_option maxRecDepth 20000 in
theorem t_X7_apartNow_75 {X : Mx} {w : Wt} {l0 : Launch} {Q0 : Int32 → St → Prop} {K16 : Int32 × Int32 × Int32 × St → Prop} (C : Cx X w l0 cX7_apartNow 5 RX7 rm_X7_apartNow (some .int)) (hK16 : ∀ (x1 : Int32) (x2 : Int32) (x3 : Int32) (S : St), K16 (x1, x2, x3, S) → J X w (QI X w Q0) 16 [(0, rr w 25), (1, .int x1), (2, .int x2), (3, .int x3)] [] S) {x1 : Int32} {x2 : Int32} {x3 : Int32} {S : St} (h : p_X7_apartNow_75 Q0 K16 x1 x2 x3 S) : J X w (QI X w Q0) 75 [(0, rr w 25), (1, .int x1), (2, .int x2), (3, .int x3)] [] S := by
  refine j_iload_n C dX7_apartNow_75 2 rfl rfl ?_
  refine j_sub [0, 1, 3] rfl ?_
  exact t_X7_apartNow_76 C hK16 h
set_option maxRecDepth 20000 in
theorem t_X7_apartNow_55 {X : Mx} {w : Wt} {l0 : Launch} {Q0 : Int32 → St → Prop} {K16 : Int32 × Int32 × Int32 × St → Prop} (C : Cx X w l0 cX7_apartNow 5 RX7 rm_X7_apartNow (some .int)) (hK16 : ∀ (x1 : Int32) (x2 : Int32) (x3 : Int32) (S : St), K16 (x1, x2, x3, S) → J X w (QI X w Q0) 16 [(0, rr w 25), (1, .int x1), (2, .int x2), (3, .int x3)] [] S) {x1 : Int32} {x2 : Int32} {x3 : Int32} {t0 : Int32} {S : St} (h : p_X7_apartNow_55 Q0 K16 x1 x2 x3 t0 S) : J X w (QI X w Q0) 55 [(0, rr w 25), (1, .int x1), (2, .int x2), (3, .int x3)] [.int t0] S := by
  refine j_istore (lv' := [(4, .int t0), (0, rr w 25), (1, .int x1), (2, .int x2), (3, .int x3)]) C dX7_apartNow_55 (by decide) rfl ?_
  refine j_iload C dX7_apartNow_57 0 rfl ?_
  refine j_if_eq (tgt := 75) C dX7_apartNow_59 (by decide) (fun c6 => ?_) (fun c6 => ?_)
  · have h := And.left h c6
    refine j_sub [1, 2, 3, 4] rfl ?_
    exact t_X7_apartNow_75 C hK16 h
  · have h := And.right h c6
    refine j_aload_n C dX7_apartNow_62 1 rfl rfl ?_
    refine j_iload_n C dX7_apartNow_63 2 rfl rfl ?_
    refine j_iload_n C dX7_apartNow_64 4 rfl rfl ?_
    refine j_callVi (st := []) C 25 [.int x1, .int x3] (m_X7_isLed C.wok h) cv_RX7_230 rk_X7_apartNow_X7_isLed rfl (rc_25 w) rfl (Nat.le_of_ble_eq_true rfl) dX7_apartNow_65 (fun r8 S7 h => ?_)
    refine j_if_ne (tgt := 75) C dX7_apartNow_68 (by decide) (fun c9 => ?_) (fun c9 => ?_)
    · have h := And.left h c9
      refine j_sub [1, 2, 3, 4] rfl ?_
      exact t_X7_apartNow_75 C hK16 h
    · have h := And.right h c9
      refine j_iload_n C dX7_apartNow_71 4 rfl rfl ?_
      refine j_goto (tgt := 76) C dX7_apartNow_72 (by decide) ?_
      refine j_sub [1, 2, 4] rfl ?_
      exact t_X7_apartNow_76 C hK16 h
set_option maxRecDepth 20000 in
theorem t_X7_apartNow_54 {X : Mx} {w : Wt} {l0 : Launch} {Q0 : Int32 → St → Prop} {K16 : Int32 × Int32 × Int32 × St → Prop} (C : Cx X w l0 cX7_apartNow 5 RX7 rm_X7_apartNow (some .int)) (hK16 : ∀ (x1 : Int32) (x2 : Int32) (x3 : Int32) (S : St), K16 (x1, x2, x3, S) → J X w (QI X w Q0) 16 [(0, rr w 25), (1, .int x1), (2, .int x2), (3, .int x3)] [] S) {x1 : Int32} {x2 : Int32} {x3 : Int32} {S : St} (h : p_X7_apartNow_54 Q0 K16 x1 x2 x3 S) : J X w (QI X w Q0) 54 [(0, rr w 25), (1, .int x1), (2, .int x2), (3, .int x3)] [] S := by
  refine j_iconst C dX7_apartNow_54 (v := 0) (by decide) ?_
  exact t_X7_apartNow_55 C hK16 h
set_option maxRecDepth 20000 in
theorem t_X7_apartNow_50 {X : Mx} {w : Wt} {l0 : Launch} {Q0 : Int32 → St → Prop} {K16 : Int32 × Int32 × Int32 × St → Prop} (C : Cx X w l0 cX7_apartNow 5 RX7 rm_X7_apartNow (some .int)) (hK16 : ∀ (x1 : Int32) (x2 : Int32) (x3 : Int32) (S : St), K16 (x1, x2, x3, S) → J X w (QI X w Q0) 16 [(0, rr w 25), (1, .int x1), (2, .int x2), (3, .int x3)] [] S) {x1 : Int32} {x2 : Int32} {x3 : Int32} {S : St} (h : p_X7_apartNow_50 Q0 K16 x1 x2 x3 S) : J X w (QI X w Q0) 50 [(0, rr w 25), (1, .int x1), (2, .int x2), (3, .int x3)] [] S := by
  refine j_iconst C dX7_apartNow_50 (v := 1) (by decide) ?_
  refine j_goto (tgt := 55) C dX7_apartNow_51 (by decide) ?_
  exact t_X7_apartNow_55 C hK16 h
set_option maxRecDepth 20000 in
theorem t_X7_apartNow_16 {X : Mx} {w : Wt} {l0 : Launch} {Q0 : Int32 → St → Prop} (C : Cx X w l0 cX7_apartNow 5 RX7 rm_X7_apartNow (some .int)) {x1 : Int32} {x2 : Int32} {x3 : Int32} {S : St} (h : Lq (p_X7_apartNow_16 Q0) (x1, x2, x3, S)) : J X w (QI X w Q0) 16 [(0, rr w 25), (1, .int x1), (2, .int x2), (3, .int x3)] [] S := by
  have key : ∀ a : Int32 × Int32 × Int32 × St, Lq (p_X7_apartNow_16 Q0) a → J X w (QI X w Q0) 16 [(0, rr w 25), (1, .int a.1), (2, .int a.2.1), (3, .int a.2.2.1)] [] a.2.2.2 := by
    intro a ha
    refine Lq_use (G := fun a => J X w (QI X w Q0) 16 [(0, rr w 25), (1, .int a.1), (2, .int a.2.1), (3, .int a.2.2.1)] [] a.2.2.2) ?_ ha
    intro K16 hK a h
    obtain ⟨x1, x2, x3, S⟩ := a
    have hK16 : ∀ (x1 : Int32) (x2 : Int32) (x3 : Int32) (S : St), K16 (x1, x2, x3, S) → J X w (QI X w Q0) 16 [(0, rr w 25), (1, .int x1), (2, .int x2), (3, .int x3)] [] S := fun x1 x2 x3 S h => hK (x1, x2, x3, S) h
    show J X w (QI X w Q0) 16 [(0, rr w 25), (1, .int x1), (2, .int x2), (3, .int x3)] [] S
    refine j_iload_n C dX7_apartNow_16 3 rfl rfl ?_
    refine j_iconst C dX7_apartNow_17 (v := 1) (by decide) ?_
    refine j_aload_n C dX7_apartNow_18 0 rfl rfl ?_
    refine gf_RX7_111_25 C dX7_apartNow_19 ?_
    refine j_ishl C dX7_apartNow_22 ?_
    refine j_icmp_ge (tgt := 83) C dX7_apartNow_23 (by decide) (fun c2 => ?_) (fun c2 => ?_)
    · have h := And.left h c2
      refine j_iload_n C dX7_apartNow_83 2 rfl rfl ?_
      exact j_iret C dX7_apartNow_84 h
    · have h := And.right h c2
      refine j_iload_n C dX7_apartNow_26 3 rfl rfl ?_
      refine j_iload_n C dX7_apartNow_27 1 rfl rfl ?_
      refine j_callSi (st := []) C [.int x3, .int x1] (m_X7_has C.wok h) cv_RX7_132 rk_X7_apartNow_X7_has rfl rfl (Nat.le_of_ble_eq_true rfl) dX7_apartNow_28 (fun r4 S3 h => ?_)
      refine j_if_ne (tgt := 54) C dX7_apartNow_31 (by decide) (fun c5 => ?_) (fun c5 => ?_)
      · have h := And.left h c5
        exact t_X7_apartNow_54 C hK16 h
      · have h := And.right h c5
        refine j_iload_n C dX7_apartNow_34 2 rfl rfl ?_
        refine j_iconst C dX7_apartNow_35 (v := (-1)) (by decide) ?_
        refine j_icmp_eq (tgt := 50) C dX7_apartNow_36 (by decide) (fun c10 => ?_) (fun c10 => ?_)
        · have h := And.left h c10
          exact t_X7_apartNow_50 C hK16 h
        · have h := And.right h c10
          refine j_iload_n C dX7_apartNow_39 3 rfl rfl ?_
          refine j_callSi (st := []) C [.int x3] (m_X7_size C.wok h) cv_RX7_71 rk_X7_apartNow_X7_size rfl rfl (Nat.le_of_ble_eq_true rfl) dX7_apartNow_40 (fun r12 S11 h => ?_)
          refine j_iload_n C dX7_apartNow_43 2 rfl rfl ?_
          refine j_callSi (st := [.int r12]) C [.int x2] (m_X7_size C.wok h) cv_RX7_71 rk_X7_apartNow_X7_size rfl rfl (Nat.le_of_ble_eq_true rfl) dX7_apartNow_44 (fun r14 S13 h => ?_)
          refine j_icmp_ge (tgt := 54) C dX7_apartNow_47 (by decide) (fun c15 => ?_) (fun c15 => ?_)
          · have h := And.left h c15
            exact t_X7_apartNow_54 C hK16 h
          · have h := And.right h c15
            exact t_X7_apartNow_50 C hK16 h
  exact key (x1, x2, x3, S) h
set_option maxRecDepth 20000 in
theorem m_X7_apartNow {l : Launch} {w : Wt} (hw : WOK w) {x1 : Int32} {S : St} {Q0 : Int32 → St → Prop} (h : p_X7_apartNow x1 S Q0) : MI l w yX7_apartNow cX7_apartNow 5 .int rm_X7_apartNow [rr w 25, .int x1] S Q0 := by
  refine m_MI (own := RX7) (lv := [(0, rr w 25), (1, .int x1)]) hw (by decide) rfl (Nat.le_of_ble_eq_true rfl) rfl (fun X C => ?_)
  refine j_aload_n C dX7_apartNow_0 0 rfl rfl ?_
  refine gf_RX7_7_25 C dX7_apartNow_1 ?_
  refine j_iload_n C dX7_apartNow_4 1 rfl rfl ?_
  refine al_26 C dX7_apartNow_5 (And.left h) ?_
  have h := And.right h
  refine j_iconst C dX7_apartNow_6 (v := 1) (by decide) ?_
  refine j_icmp_ne (tgt := 12) C dX7_apartNow_7 (by decide) (fun c1 => ?_) (fun c1 => ?_)
  · have h := And.left h c1
    refine j_iconst C dX7_apartNow_12 (v := (-1)) (by decide) ?_
    refine j_istore_n (lv' := [(2, .int (-1)), (0, rr w 25), (1, .int x1)]) C dX7_apartNow_13 rfl (by decide) rfl ?_
    refine j_iconst C dX7_apartNow_14 (v := 0) (by decide) ?_
    refine j_istore_n (lv' := [(3, .int 0), (2, .int (-1)), (0, rr w 25), (1, .int x1)]) C dX7_apartNow_15 rfl (by decide) rfl ?_
    refine j_sub [2, 3, 1, 0] rfl ?_
    exact t_X7_apartNow_16 C h
  · have h := And.right h c1
    refine j_iconst C dX7_apartNow_10 (v := (-1)) (by decide) ?_
    exact j_iret C dX7_apartNow_11 h
def rm_X7_personNow : Room := { frames := 4, cells := 0, slots := 0, locals := 92 }
theorem rk_X7_personNow_X7_allIn : roomOk rm_X7_allIn rm_X7_personNow 3 := ⟨⟨rfl, rfl⟩, Nat.le_of_ble_eq_true rfl, Nat.le_of_ble_eq_true rfl⟩
theorem rk_X7_personNow_X7_apartNow : roomOk rm_X7_apartNow rm_X7_personNow 5 := ⟨⟨rfl, rfl⟩, Nat.le_of_ble_eq_true rfl, Nat.le_of_ble_eq_true rfl⟩
theorem rk_X7_personNow_X7_has : roomOk rm_X7_has rm_X7_personNow 2 := ⟨⟨rfl, rfl⟩, Nat.le_of_ble_eq_true rfl, Nat.le_of_ble_eq_true rfl⟩
theorem rk_X7_personNow_X7_lay : roomOk rm_X7_lay rm_X7_personNow 2 := ⟨⟨rfl, rfl⟩, Nat.le_of_ble_eq_true rfl, Nat.le_of_ble_eq_true rfl⟩
theorem rk_X7_personNow_X7_size : roomOk rm_X7_size rm_X7_personNow 3 := ⟨⟨rfl, rfl⟩, Nat.le_of_ble_eq_true rfl, Nat.le_of_ble_eq_true rfl⟩
theorem rk_X7_personNow_X7_takenIn : roomOk rm_X7_takenIn rm_X7_personNow 4 := ⟨⟨rfl, rfl⟩, Nat.le_of_ble_eq_true rfl, Nat.le_of_ble_eq_true rfl⟩
theorem rk_X7_personNow_X7_vouchersOf : roomOk rm_X7_vouchersOf rm_X7_personNow 4 := ⟨⟨rfl, rfl⟩, Nat.le_of_ble_eq_true rfl, Nat.le_of_ble_eq_true rfl⟩
set_option maxRecDepth 20000 in
theorem m_X7_personNow {l : Launch} {w : Wt} (hw : WOK w) {x1 : Int32} {x2 : Int32} {S : St} {Q0 : Int32 → St → Prop} (h : p_X7_personNow x1 x2 S Q0) : MI l w yX7_personNow cX7_personNow 3 .int rm_X7_personNow [rr w 25, .int x1, .int x2] S Q0 := by
  refine m_MI (own := RX7) (lv := [(0, rr w 25), (1, .int x1), (2, .int x2)]) hw (by decide) rfl (Nat.le_of_ble_eq_true rfl) rfl (fun X C => ?_)
  refine j_aload_n C dX7_personNow_0 0 rfl rfl ?_
  refine j_callVv (st := []) C 25 [] (m_X7_lay C.wok h) cv_RX7_187 rk_X7_personNow_X7_lay rfl (rc_25 w) rfl (Nat.le_of_ble_eq_true rfl) dX7_personNow_1 (fun S1 h => ?_)
  refine j_iload_n C dX7_personNow_4 2 rfl rfl ?_
  by_cases c2 : x2 = 0
  · have h := And.left h c2
    refine j_tableIn (tgt := 48) (off := 43) C dX7_personNow_5 (by rw [c2]; decide) (by rw [c2]; decide) (by rw [c2]; decide) (by decide) ?_
    refine j_aload_n C dX7_personNow_48 0 rfl rfl ?_
    refine gf_RX7_7_25 C dX7_personNow_49 ?_
    refine j_iload_n C dX7_personNow_52 1 rfl rfl ?_
    refine al_26 C dX7_personNow_53 (And.left h) ?_
    have h := And.right h
    exact j_iret C dX7_personNow_54 h
  · have h := And.right h c2
    by_cases c3 : x2 = 1
    · have h := And.left h c3
      refine j_tableIn (tgt := 55) (off := 50) C dX7_personNow_5 (by rw [c3]; decide) (by rw [c3]; decide) (by rw [c3]; decide) (by decide) ?_
      refine j_aload_n C dX7_personNow_55 0 rfl rfl ?_
      refine gf_RX7_31_25 C dX7_personNow_56 ?_
      refine j_iload_n C dX7_personNow_59 1 rfl rfl ?_
      refine al_33 C dX7_personNow_60 (And.left h) ?_
      have h := And.right h
      exact j_iret C dX7_personNow_61 h
    · have h := And.right h c3
      by_cases c4 : x2 = 2
      · have h := And.left h c4
        refine j_tableIn (tgt := 62) (off := 57) C dX7_personNow_5 (by rw [c4]; decide) (by rw [c4]; decide) (by rw [c4]; decide) (by decide) ?_
        refine j_aload_n C dX7_personNow_62 0 rfl rfl ?_
        refine gf_RX7_34_25 C dX7_personNow_63 ?_
        refine j_iload_n C dX7_personNow_66 1 rfl rfl ?_
        refine al_34 C dX7_personNow_67 (And.left h) ?_
        have h := And.right h
        exact j_iret C dX7_personNow_68 h
      · have h := And.right h c4
        by_cases c5 : x2 = 3
        · have h := And.left h c5
          refine j_tableIn (tgt := 69) (off := 64) C dX7_personNow_5 (by rw [c5]; decide) (by rw [c5]; decide) (by rw [c5]; decide) (by decide) ?_
          refine j_aload_n C dX7_personNow_69 0 rfl rfl ?_
          refine gf_RX7_13_25 C dX7_personNow_70 ?_
          refine j_iload_n C dX7_personNow_73 1 rfl rfl ?_
          refine al_27 C dX7_personNow_74 (And.left h) ?_
          have h := And.right h
          refine j_callSi (st := []) C [.int (S1.1 27 x1.toNatClampNeg)] (m_X7_size C.wok h) cv_RX7_71 rk_X7_personNow_X7_size rfl rfl (Nat.le_of_ble_eq_true rfl) dX7_personNow_75 (fun r7 S6 h => ?_)
          exact j_iret C dX7_personNow_78 h
        · have h := And.right h c5
          by_cases c8 : x2 = 4
          · have h := And.left h c8
            refine j_tableIn (tgt := 79) (off := 74) C dX7_personNow_5 (by rw [c8]; decide) (by rw [c8]; decide) (by rw [c8]; decide) (by decide) ?_
            refine j_aload_n C dX7_personNow_79 0 rfl rfl ?_
            refine j_iload_n C dX7_personNow_80 1 rfl rfl ?_
            refine j_callVi (st := []) C 25 [.int x1] (m_X7_vouchersOf C.wok h) cv_RX7_190 rk_X7_personNow_X7_vouchersOf rfl (rc_25 w) rfl (Nat.le_of_ble_eq_true rfl) dX7_personNow_81 (fun r10 S9 h => ?_)
            exact j_iret C dX7_personNow_84 h
          · have h := And.right h c8
            by_cases c11 : x2 = 5
            · have h := And.left h c11
              refine j_tableIn (tgt := 85) (off := 80) C dX7_personNow_5 (by rw [c11]; decide) (by rw [c11]; decide) (by rw [c11]; decide) (by decide) ?_
              refine j_aload_n C dX7_personNow_85 0 rfl rfl ?_
              refine j_callVi (st := []) C 25 [] (m_X7_allIn C.wok h) cv_RX7_193 rk_X7_personNow_X7_allIn rfl (rc_25 w) rfl (Nat.le_of_ble_eq_true rfl) dX7_personNow_86 (fun r13 S12 h => ?_)
              refine j_iload_n C dX7_personNow_89 1 rfl rfl ?_
              refine j_callSi (st := []) C [.int r13, .int x1] (m_X7_has C.wok h) cv_RX7_132 rk_X7_personNow_X7_has rfl rfl (Nat.le_of_ble_eq_true rfl) dX7_personNow_90 (fun r15 S14 h => ?_)
              refine j_if_eq (tgt := 100) C dX7_personNow_93 (by decide) (fun c16 => ?_) (fun c16 => ?_)
              · have h := And.left h c16
                refine j_iconst C dX7_personNow_100 (v := 0) (by decide) ?_
                exact j_iret C dX7_personNow_101 h
              · have h := And.right h c16
                refine j_iconst C dX7_personNow_96 (v := 1) (by decide) ?_
                refine j_goto (tgt := 101) C dX7_personNow_97 (by decide) ?_
                exact j_iret C dX7_personNow_101 h
            · have h := And.right h c11
              by_cases c17 : x2 = 6
              · have h := And.left h c17
                refine j_tableIn (tgt := 102) (off := 97) C dX7_personNow_5 (by rw [c17]; decide) (by rw [c17]; decide) (by rw [c17]; decide) (by decide) ?_
                refine j_aload_n C dX7_personNow_102 0 rfl rfl ?_
                refine j_callVi (st := []) C 25 [] (m_X7_takenIn C.wok h) cv_RX7_196 rk_X7_personNow_X7_takenIn rfl (rc_25 w) rfl (Nat.le_of_ble_eq_true rfl) dX7_personNow_103 (fun r19 S18 h => ?_)
                refine j_iload_n C dX7_personNow_106 1 rfl rfl ?_
                refine j_callSi (st := []) C [.int r19, .int x1] (m_X7_has C.wok h) cv_RX7_132 rk_X7_personNow_X7_has rfl rfl (Nat.le_of_ble_eq_true rfl) dX7_personNow_107 (fun r21 S20 h => ?_)
                refine j_if_eq (tgt := 117) C dX7_personNow_110 (by decide) (fun c22 => ?_) (fun c22 => ?_)
                · have h := And.left h c22
                  refine j_iconst C dX7_personNow_117 (v := 0) (by decide) ?_
                  exact j_iret C dX7_personNow_118 h
                · have h := And.right h c22
                  refine j_iconst C dX7_personNow_113 (v := 1) (by decide) ?_
                  refine j_goto (tgt := 118) C dX7_personNow_114 (by decide) ?_
                  exact j_iret C dX7_personNow_118 h
              · have h := And.right h c17
                have nc2 := lv_neT (a := 0) c2 (by decide)
                have nc3 := lv_neT (a := 1) c3 (by decide)
                have nc4 := lv_neT (a := 2) c4 (by decide)
                have nc5 := lv_neT (a := 3) c5 (by decide)
                have nc8 := lv_neT (a := 4) c8 (by decide)
                have nc11 := lv_neT (a := 5) c11 (by decide)
                have nc17 := lv_neT (a := 6) c17 (by decide)
                refine j_tableOut (tgt := 119) C dX7_personNow_5 (by omega) (by decide) ?_
                refine j_aload_n C dX7_personNow_119 0 rfl rfl ?_
                refine gf_RX7_7_25 C dX7_personNow_120 ?_
                refine j_iload_n C dX7_personNow_123 1 rfl rfl ?_
                refine al_26 C dX7_personNow_124 (And.left h) ?_
                have h := And.right h
                refine j_iconst C dX7_personNow_125 (v := 1) (by decide) ?_
                refine j_icmp_ne (tgt := 133) C dX7_personNow_126 (by decide) (fun c23 => ?_) (fun c23 => ?_)
                · have h := And.left h c23
                  refine j_aload_n C dX7_personNow_133 0 rfl rfl ?_
                  refine j_iload_n C dX7_personNow_134 1 rfl rfl ?_
                  refine j_callVi (st := []) C 25 [.int x1] (m_X7_apartNow C.wok h) cv_RX7_199 rk_X7_personNow_X7_apartNow rfl (rc_25 w) rfl (Nat.le_of_ble_eq_true rfl) dX7_personNow_135 (fun r25 S24 h => ?_)
                  refine j_callSi (st := []) C [.int r25] (m_X7_size C.wok h) cv_RX7_71 rk_X7_personNow_X7_size rfl rfl (Nat.le_of_ble_eq_true rfl) dX7_personNow_138 (fun r27 S26 h => ?_)
                  exact j_iret C dX7_personNow_141 h
                · have h := And.right h c23
                  refine j_iconst C dX7_personNow_129 (v := (-1)) (by decide) ?_
                  refine j_goto (tgt := 141) C dX7_personNow_130 (by decide) ?_
                  exact j_iret C dX7_personNow_141 h
def rm_X7_person : Room := { frames := 5, cells := 0, slots := 0, locals := 114 }
theorem rk_X7_person_X7_isPerson : roomOk rm_X7_isPerson rm_X7_person 2 := ⟨⟨rfl, rfl⟩, Nat.le_of_ble_eq_true rfl, Nat.le_of_ble_eq_true rfl⟩
theorem rk_X7_person_X7_personNow : roomOk rm_X7_personNow rm_X7_person 3 := ⟨⟨rfl, rfl⟩, Nat.le_of_ble_eq_true rfl, Nat.le_of_ble_eq_true rfl⟩
theorem rk_X7_person_X7_within : roomOk rm_X7_within rm_X7_person 3 := ⟨⟨rfl, rfl⟩, Nat.le_of_ble_eq_true rfl, Nat.le_of_ble_eq_true rfl⟩
set_option maxRecDepth 20000 in
theorem m_X7_person {l : Launch} {w : Wt} (hw : WOK w) {x1 : Int32} {x2 : Int32} {S : St} {Q0 : Int32 → St → Prop} (h : p_X7_person x1 x2 S Q0) : MI l w yX7_person cX7_person 3 .int rm_X7_person [rr w 25, .int x1, .int x2] S Q0 := by
  refine m_MI (own := RX7) (lv := [(0, rr w 25), (1, .int x1), (2, .int x2)]) hw (by decide) rfl (Nat.le_of_ble_eq_true rfl) rfl (fun X C => ?_)
  refine j_aload_n C dX7_person_0 0 rfl rfl ?_
  refine j_iload_n C dX7_person_1 1 rfl rfl ?_
  refine j_callVi (st := []) C 25 [.int x1] (m_X7_isPerson C.wok h) cv_RX7_145 rk_X7_person_X7_isPerson rfl (rc_25 w) rfl (Nat.le_of_ble_eq_true rfl) dX7_person_2 (fun r2 S1 h => ?_)
  refine j_if_ne (tgt := 13) C dX7_person_5 (by decide) (fun c3 => ?_) (fun c3 => ?_)
  · have h := And.left h c3
    refine j_iload_n C dX7_person_13 2 rfl rfl ?_
    refine j_iconst C dX7_person_14 (v := 0) (by decide) ?_
    refine j_bipush C dX7_person_15 (v := 7) (by decide) ?_
    refine j_callSi (st := []) C [.int x2, .int 0, .int 7] (m_X7_within C.wok h) cv_RX7_50 rk_X7_person_X7_within rfl rfl (Nat.le_of_ble_eq_true rfl) dX7_person_17 (fun r5 S4 h => ?_)
    refine j_if_eq (tgt := 32) C dX7_person_20 (by decide) (fun c6 => ?_) (fun c6 => ?_)
    · have h := And.left h c6
      refine j_bipush C dX7_person_32 (v := (-102)) (by decide) ?_
      exact j_iret C dX7_person_34 h
    · have h := And.right h c6
      refine j_aload_n C dX7_person_23 0 rfl rfl ?_
      refine j_iload_n C dX7_person_24 1 rfl rfl ?_
      refine j_iload_n C dX7_person_25 2 rfl rfl ?_
      refine j_callVi (st := []) C 25 [.int x1, .int x2] (m_X7_personNow C.wok h) cv_RX7_202 rk_X7_person_X7_personNow rfl (rc_25 w) rfl (Nat.le_of_ble_eq_true rfl) dX7_person_26 (fun r8 S7 h => ?_)
      refine j_goto (tgt := 34) C dX7_person_29 (by decide) ?_
      exact j_iret C dX7_person_34 h
  · have h := And.right h c3
    refine j_bipush C dX7_person_8 (v := (-101)) (by decide) ?_
    refine j_goto (tgt := 34) C dX7_person_10 (by decide) ?_
    exact j_iret C dX7_person_34 h
def rm_X6_vouches : Room := { frames := 2, cells := 0, slots := 0, locals := 43 }
theorem rk_X6_vouches_X0_hasPair : roomOk rm_X0_hasPair rm_X6_vouches 3 := ⟨⟨rfl, rfl⟩, Nat.le_of_ble_eq_true rfl, Nat.le_of_ble_eq_true rfl⟩
theorem rk_X6_vouches_X6_bit : roomOk rm_X6_bit rm_X6_vouches 2 := ⟨⟨rfl, rfl⟩, Nat.le_of_ble_eq_true rfl, Nat.le_of_ble_eq_true rfl⟩
set_option maxRecDepth 20000 in
theorem m_X6_vouches {l : Launch} {w : Wt} (hw : WOK w) {x1 : Int32} {x2 : Int32} {S : St} {Q0 : Int32 → St → Prop} (h : p_X6_vouches x1 x2 S Q0) : MI l w yX6_vouches cX6_vouches 3 .int rm_X6_vouches [rr w 0, .int x1, .int x2] S Q0 := by
  refine m_MI (own := RX6) (lv := [(0, rr w 0), (1, .int x1), (2, .int x2)]) hw (by decide) rfl (Nat.le_of_ble_eq_true rfl) rfl (fun X C => ?_)
  refine j_aload_n C dX6_vouches_0 0 rfl rfl ?_
  refine gf_RX6_16_0 C dX6_vouches_1 ?_
  refine j_iload_n C dX6_vouches_4 1 rfl rfl ?_
  refine j_iload_n C dX6_vouches_5 2 rfl rfl ?_
  refine j_callVi (st := []) C 2 [.int x1, .int x2] (m_X0_hasPair C.wok h) cv_RX6_115 rk_X6_vouches_X0_hasPair rfl (rc_2 w) rfl (Nat.le_of_ble_eq_true rfl) dX6_vouches_6 (fun r2 S1 h => ?_)
  refine j_if_ne (tgt := 15) C dX6_vouches_9 (by decide) (fun c3 => ?_) (fun c3 => ?_)
  · have h := And.left h c3
    refine j_aload_n C dX6_vouches_15 0 rfl rfl ?_
    refine gf_RX6_16_0 C dX6_vouches_16 ?_
    refine gf_RX6_122_2 C dX6_vouches_19 ?_
    refine j_iload_n C dX6_vouches_22 1 rfl rfl ?_
    refine al_5 C dX6_vouches_23 (And.left h) ?_
    have h := And.right h
    refine j_iload_n C dX6_vouches_24 2 rfl rfl ?_
    refine j_callSi (st := []) C [.int (S1.1 5 x1.toNatClampNeg), .int x2] (m_X6_bit C.wok h) cv_RX6_172 rk_X6_vouches_X6_bit rfl rfl (Nat.le_of_ble_eq_true rfl) dX6_vouches_25 (fun r5 S4 h => ?_)
    exact j_iret C dX6_vouches_28 h
  · have h := And.right h c3
    refine j_bipush C dX6_vouches_12 (v := (-101)) (by decide) ?_
    exact j_iret C dX6_vouches_14 h
def rm_X7_vouches : Room := { frames := 3, cells := 0, slots := 0, locals := 65 }
theorem rk_X7_vouches_X7_areTwo : roomOk rm_X7_areTwo rm_X7_vouches 3 := ⟨⟨rfl, rfl⟩, Nat.le_of_ble_eq_true rfl, Nat.le_of_ble_eq_true rfl⟩
theorem rk_X7_vouches_X7_has : roomOk rm_X7_has rm_X7_vouches 2 := ⟨⟨rfl, rfl⟩, Nat.le_of_ble_eq_true rfl, Nat.le_of_ble_eq_true rfl⟩
set_option maxRecDepth 20000 in
theorem m_X7_vouches {l : Launch} {w : Wt} (hw : WOK w) {x1 : Int32} {x2 : Int32} {S : St} {Q0 : Int32 → St → Prop} (h : p_X7_vouches x1 x2 S Q0) : MI l w yX7_vouches cX7_vouches 3 .int rm_X7_vouches [rr w 25, .int x1, .int x2] S Q0 := by
  refine m_MI (own := RX7) (lv := [(0, rr w 25), (1, .int x1), (2, .int x2)]) hw (by decide) rfl (Nat.le_of_ble_eq_true rfl) rfl (fun X C => ?_)
  refine j_aload_n C dX7_vouches_0 0 rfl rfl ?_
  refine j_iload_n C dX7_vouches_1 1 rfl rfl ?_
  refine j_iload_n C dX7_vouches_2 2 rfl rfl ?_
  refine j_callVi (st := []) C 25 [.int x1, .int x2] (m_X7_areTwo C.wok h) cv_RX7_151 rk_X7_vouches_X7_areTwo rfl (rc_25 w) rfl (Nat.le_of_ble_eq_true rfl) dX7_vouches_3 (fun r2 S1 h => ?_)
  refine j_if_ne (tgt := 14) C dX7_vouches_6 (by decide) (fun c3 => ?_) (fun c3 => ?_)
  · have h := And.left h c3
    refine j_aload_n C dX7_vouches_14 0 rfl rfl ?_
    refine gf_RX7_13_25 C dX7_vouches_15 ?_
    refine j_iload_n C dX7_vouches_18 1 rfl rfl ?_
    refine al_27 C dX7_vouches_19 (And.left h) ?_
    have h := And.right h
    refine j_iload_n C dX7_vouches_20 2 rfl rfl ?_
    refine j_callSi (st := []) C [.int (S1.1 27 x1.toNatClampNeg), .int x2] (m_X7_has C.wok h) cv_RX7_132 rk_X7_vouches_X7_has rfl rfl (Nat.le_of_ble_eq_true rfl) dX7_vouches_21 (fun r5 S4 h => ?_)
    refine j_if_eq (tgt := 31) C dX7_vouches_24 (by decide) (fun c6 => ?_) (fun c6 => ?_)
    · have h := And.left h c6
      refine j_iconst C dX7_vouches_31 (v := 0) (by decide) ?_
      exact j_iret C dX7_vouches_32 h
    · have h := And.right h c6
      refine j_iconst C dX7_vouches_27 (v := 1) (by decide) ?_
      refine j_goto (tgt := 32) C dX7_vouches_28 (by decide) ?_
      exact j_iret C dX7_vouches_32 h
  · have h := And.right h c3
    refine j_bipush C dX7_vouches_9 (v := (-101)) (by decide) ?_
    refine j_goto (tgt := 32) C dX7_vouches_11 (by decide) ?_
    exact j_iret C dX7_vouches_32 h
def rm_X6_generous : Room := { frames := 3, cells := 0, slots := 0, locals := 66 }
theorem rk_X6_generous_J6_bitCount_0f7a4 : roomOk rm_J6_bitCount_0f7a4 rm_X6_generous 1 := ⟨⟨rfl, rfl⟩, Nat.le_of_ble_eq_true rfl, Nat.le_of_ble_eq_true rfl⟩
theorem rk_X6_generous_X0_exists : roomOk rm_X0_exists rm_X6_generous 1 := ⟨⟨rfl, rfl⟩, Nat.le_of_ble_eq_true rfl, Nat.le_of_ble_eq_true rfl⟩
theorem rk_X6_generous_X0_vouchersOf : roomOk rm_X0_vouchersOf rm_X6_generous 4 := ⟨⟨rfl, rfl⟩, Nat.le_of_ble_eq_true rfl, Nat.le_of_ble_eq_true rfl⟩
set_option maxRecDepth 20000 in
theorem t_X6_generous_93 {X : Mx} {w : Wt} {l0 : Launch} {Q0 : Int32 → St → Prop} {K22 : Int32 × Int32 × Int32 × Int32 × St → Prop} (C : Cx X w l0 cX6_generous 7 RX6 rm_X6_generous (some .int)) (hK22 : ∀ (x1 : Int32) (x2 : Int32) (x3 : Int32) (x4 : Int32) (S : St), K22 (x1, x2, x3, x4, S) → J X w (QI X w Q0) 22 [(0, rr w 0), (1, .int x1), (2, .int x2), (3, .int x3), (4, .int x4)] [] S) {x1 : Int32} {x2 : Int32} {x3 : Int32} {x4 : Int32} {S : St} (h : p_X6_generous_93 Q0 K22 x1 x2 x3 x4 S) : J X w (QI X w Q0) 93 [(0, rr w 0), (1, .int x1), (2, .int x2), (3, .int x3), (4, .int x4)] [] S := by
  refine j_iinc (lv' := [(4, .int (x4 + 1)), (0, rr w 0), (1, .int x1), (2, .int x2), (3, .int x3)]) C dX6_generous_93 4 rfl rfl (by decide) rfl ?_
  refine j_goto (tgt := 22) C dX6_generous_96 (by decide) ?_
  refine j_sub [1, 2, 3, 4, 0] rfl ?_
  exact hK22 _ _ _ _ _ h
set_option maxRecDepth 20000 in
theorem t_X6_generous_84 {X : Mx} {w : Wt} {l0 : Launch} {Q0 : Int32 → St → Prop} {K22 : Int32 × Int32 × Int32 × Int32 × St → Prop} (C : Cx X w l0 cX6_generous 7 RX6 rm_X6_generous (some .int)) (hK22 : ∀ (x1 : Int32) (x2 : Int32) (x3 : Int32) (x4 : Int32) (S : St), K22 (x1, x2, x3, x4, S) → J X w (QI X w Q0) 22 [(0, rr w 0), (1, .int x1), (2, .int x2), (3, .int x3), (4, .int x4)] [] S) {x4 : Int32} {x5 : Int32} {x6 : Int32} {S : St} (h : p_X6_generous_84 Q0 K22 x4 x5 x6 S) : J X w (QI X w Q0) 84 [(0, rr w 0), (4, .int x4), (5, .int x5), (6, .int x6)] [] S := by
  refine j_iload C dX6_generous_84 1 rfl ?_
  refine j_istore_n (lv' := [(1, .int x4), (0, rr w 0), (4, .int x4), (5, .int x5), (6, .int x6)]) C dX6_generous_86 rfl (by decide) rfl ?_
  refine j_iload C dX6_generous_87 3 rfl ?_
  refine j_istore_n (lv' := [(2, .int x5), (1, .int x4), (0, rr w 0), (4, .int x4), (5, .int x5), (6, .int x6)]) C dX6_generous_89 rfl (by decide) rfl ?_
  refine j_iload C dX6_generous_90 5 rfl ?_
  refine j_istore_n (lv' := [(3, .int x6), (2, .int x5), (1, .int x4), (0, rr w 0), (4, .int x4), (5, .int x5), (6, .int x6)]) C dX6_generous_92 rfl (by decide) rfl ?_
  refine j_sub [3, 2, 1, 0, 4] rfl ?_
  exact t_X6_generous_93 C hK22 h
set_option maxRecDepth 20000 in
theorem t_X6_generous_22 {X : Mx} {w : Wt} {l0 : Launch} {Q0 : Int32 → St → Prop} (C : Cx X w l0 cX6_generous 7 RX6 rm_X6_generous (some .int)) {x1 : Int32} {x2 : Int32} {x3 : Int32} {x4 : Int32} {S : St} (h : Lq (p_X6_generous_22 Q0) (x1, x2, x3, x4, S)) : J X w (QI X w Q0) 22 [(0, rr w 0), (1, .int x1), (2, .int x2), (3, .int x3), (4, .int x4)] [] S := by
  have key : ∀ a : Int32 × Int32 × Int32 × Int32 × St, Lq (p_X6_generous_22 Q0) a → J X w (QI X w Q0) 22 [(0, rr w 0), (1, .int a.1), (2, .int a.2.1), (3, .int a.2.2.1), (4, .int a.2.2.2.1)] [] a.2.2.2.2 := by
    intro a ha
    refine Lq_use (G := fun a => J X w (QI X w Q0) 22 [(0, rr w 0), (1, .int a.1), (2, .int a.2.1), (3, .int a.2.2.1), (4, .int a.2.2.2.1)] [] a.2.2.2.2) ?_ ha
    intro K22 hK a h
    obtain ⟨x1, x2, x3, x4, S⟩ := a
    have hK22 : ∀ (x1 : Int32) (x2 : Int32) (x3 : Int32) (x4 : Int32) (S : St), K22 (x1, x2, x3, x4, S) → J X w (QI X w Q0) 22 [(0, rr w 0), (1, .int x1), (2, .int x2), (3, .int x3), (4, .int x4)] [] S := fun x1 x2 x3 x4 S h => hK (x1, x2, x3, x4, S) h
    show J X w (QI X w Q0) 22 [(0, rr w 0), (1, .int x1), (2, .int x2), (3, .int x3), (4, .int x4)] [] S
    refine j_iload C dX6_generous_22 4 rfl ?_
    refine j_aload_n C dX6_generous_24 0 rfl rfl ?_
    refine gf_RX6_16_0 C dX6_generous_25 ?_
    refine gf_RX6_82_2 C dX6_generous_28 ?_
    refine j_icmp_ge (tgt := 99) C dX6_generous_31 (by decide) (fun c4 => ?_) (fun c4 => ?_)
    · have h := And.left h c4
      refine j_iload_n C dX6_generous_99 1 rfl rfl ?_
      exact j_iret C dX6_generous_100 h
    · have h := And.right h c4
      refine j_aload_n C dX6_generous_34 0 rfl rfl ?_
      refine gf_RX6_16_0 C dX6_generous_35 ?_
      refine gf_RX6_122_2 C dX6_generous_38 ?_
      refine j_iload C dX6_generous_41 4 rfl ?_
      refine al_5 C dX6_generous_43 (And.left h) ?_
      have h := And.right h
      refine j_callSi (st := []) C [.int (S.1 5 x4.toNatClampNeg)] (m_J6_bitCount_0f7a4 C.wok h) cv_RX6_110 rk_X6_generous_J6_bitCount_0f7a4 rfl rfl (Nat.le_of_ble_eq_true rfl) dX6_generous_44 (fun r6 S5 h => ?_)
      refine j_istore (lv' := [(5, .int r6), (0, rr w 0), (1, .int x1), (2, .int x2), (3, .int x3), (4, .int x4)]) C dX6_generous_47 (by decide) rfl ?_
      refine j_aload_n C dX6_generous_49 1 rfl rfl ?_
      refine gf_RX6_16_0 C dX6_generous_50 ?_
      refine j_iload C dX6_generous_53 5 rfl ?_
      refine j_callVi (st := []) C 2 [.int x4] (m_X0_vouchersOf C.wok h) cv_RX6_157 rk_X6_generous_X0_vouchersOf rfl (rc_2 w) rfl (Nat.le_of_ble_eq_true rfl) dX6_generous_55 (fun r8 S7 h => ?_)
      refine j_callSi (st := []) C [.int r8] (m_J6_bitCount_0f7a4 C.wok h) cv_RX6_110 rk_X6_generous_J6_bitCount_0f7a4 rfl rfl (Nat.le_of_ble_eq_true rfl) dX6_generous_58 (fun r10 S9 h => ?_)
      refine j_istore (lv' := [(6, .int r10), (5, .int r6), (0, rr w 0), (1, .int x1), (2, .int x2), (3, .int x3), (4, .int x4)]) C dX6_generous_61 (by decide) rfl ?_
      refine j_iload C dX6_generous_63 0 rfl ?_
      refine j_if_le (tgt := 93) C dX6_generous_65 (by decide) (fun c11 => ?_) (fun c11 => ?_)
      · have h := And.left h c11
        refine j_sub [2, 3, 4, 5, 6] rfl ?_
        exact t_X6_generous_93 C hK22 h
      · have h := And.right h c11
        refine j_iload_n C dX6_generous_68 3 rfl rfl ?_
        refine j_iconst C dX6_generous_69 (v := (-1)) (by decide) ?_
        refine j_icmp_eq (tgt := 84) C dX6_generous_70 (by decide) (fun c12 => ?_) (fun c12 => ?_)
        · have h := And.left h c12
          refine j_sub [2, 6, 1, 0] rfl ?_
          exact t_X6_generous_84 C hK22 h
        · have h := And.right h c12
          refine j_iload C dX6_generous_73 1 rfl ?_
          refine j_iload_n C dX6_generous_75 5 rfl rfl ?_
          refine j_imul C dX6_generous_76 ?_
          refine j_iload_n C dX6_generous_77 4 rfl rfl ?_
          refine j_iload C dX6_generous_78 0 rfl ?_
          refine j_imul C dX6_generous_80 ?_
          refine j_icmp_le (tgt := 93) C dX6_generous_81 (by decide) (fun c13 => ?_) (fun c13 => ?_)
          · have h := And.left h c13
            refine j_sub [2, 3, 4, 5, 6] rfl ?_
            exact t_X6_generous_93 C hK22 h
          · have h := And.right h c13
            refine j_sub [2, 6, 1, 0] rfl ?_
            exact t_X6_generous_84 C hK22 h
  exact key (x1, x2, x3, x4, S) h
set_option maxRecDepth 20000 in
theorem m_X6_generous {l : Launch} {w : Wt} (hw : WOK w) {S : St} {Q0 : Int32 → St → Prop} (h : p_X6_generous S Q0) : MI l w yX6_generous cX6_generous 7 .int rm_X6_generous [rr w 0] S Q0 := by
  refine m_MI (own := RX6) (lv := [(0, rr w 0)]) hw (by decide) rfl (Nat.le_of_ble_eq_true rfl) rfl (fun X C => ?_)
  refine j_aload_n C dX6_generous_0 0 rfl rfl ?_
  refine gf_RX6_16_0 C dX6_generous_1 ?_
  refine j_callVi (st := []) C 2 [] (m_X0_exists C.wok h) cv_RX6_85 rk_X6_generous_X0_exists rfl (rc_2 w) rfl (Nat.le_of_ble_eq_true rfl) dX6_generous_4 (fun r2 S1 h => ?_)
  refine j_if_ne (tgt := 13) C dX6_generous_7 (by decide) (fun c3 => ?_) (fun c3 => ?_)
  · have h := And.left h c3
    refine j_iconst C dX6_generous_13 (v := (-1)) (by decide) ?_
    refine j_istore_n (lv' := [(1, .int (-1)), (0, rr w 0)]) C dX6_generous_14 rfl (by decide) rfl ?_
    refine j_iconst C dX6_generous_15 (v := 0) (by decide) ?_
    refine j_istore_n (lv' := [(2, .int 0), (1, .int (-1)), (0, rr w 0)]) C dX6_generous_16 rfl (by decide) rfl ?_
    refine j_iconst C dX6_generous_17 (v := 0) (by decide) ?_
    refine j_istore_n (lv' := [(3, .int 0), (2, .int 0), (1, .int (-1)), (0, rr w 0)]) C dX6_generous_18 rfl (by decide) rfl ?_
    refine j_iconst C dX6_generous_19 (v := 0) (by decide) ?_
    refine j_istore (lv' := [(4, .int 0), (3, .int 0), (2, .int 0), (1, .int (-1)), (0, rr w 0)]) C dX6_generous_20 (by decide) rfl ?_
    refine j_sub [4, 3, 2, 1, 0] rfl ?_
    exact t_X6_generous_22 C h
  · have h := And.right h c3
    refine j_bipush C dX6_generous_10 (v := (-103)) (by decide) ?_
    exact j_iret C dX6_generous_12 h
def rm_X7_generousNow : Room := { frames := 2, cells := 0, slots := 0, locals := 44 }
theorem rk_X7_generousNow_X7_size : roomOk rm_X7_size rm_X7_generousNow 3 := ⟨⟨rfl, rfl⟩, Nat.le_of_ble_eq_true rfl, Nat.le_of_ble_eq_true rfl⟩
theorem rk_X7_generousNow_X7_vouchersOf : roomOk rm_X7_vouchersOf rm_X7_generousNow 4 := ⟨⟨rfl, rfl⟩, Nat.le_of_ble_eq_true rfl, Nat.le_of_ble_eq_true rfl⟩
set_option maxRecDepth 20000 in
theorem t_X7_generousNow_70 {X : Mx} {w : Wt} {l0 : Launch} {Q0 : Int32 → St → Prop} {K4 : Int32 × Int32 × St → Prop} (C : Cx X w l0 cX7_generousNow 4 RX7 rm_X7_generousNow (some .int)) (hK4 : ∀ (x1 : Int32) (x2 : Int32) (S : St), K4 (x1, x2, S) → J X w (QI X w Q0) 4 [(0, rr w 25), (1, .int x1), (2, .int x2)] [] S) {x1 : Int32} {x2 : Int32} {S : St} (h : p_X7_generousNow_70 Q0 K4 x1 x2 S) : J X w (QI X w Q0) 70 [(0, rr w 25), (1, .int x1), (2, .int x2)] [] S := by
  refine j_iinc (lv' := [(2, .int (x2 + 1)), (0, rr w 25), (1, .int x1)]) C dX7_generousNow_70 2 rfl rfl (by decide) rfl ?_
  refine j_goto (tgt := 4) C dX7_generousNow_73 (by decide) ?_
  refine j_sub [1, 2, 0] rfl ?_
  exact hK4 _ _ _ h
set_option maxRecDepth 20000 in
theorem t_X7_generousNow_68 {X : Mx} {w : Wt} {l0 : Launch} {Q0 : Int32 → St → Prop} {K4 : Int32 × Int32 × St → Prop} (C : Cx X w l0 cX7_generousNow 4 RX7 rm_X7_generousNow (some .int)) (hK4 : ∀ (x1 : Int32) (x2 : Int32) (S : St), K4 (x1, x2, S) → J X w (QI X w Q0) 4 [(0, rr w 25), (1, .int x1), (2, .int x2)] [] S) {x2 : Int32} {S : St} (h : p_X7_generousNow_68 Q0 K4 x2 S) : J X w (QI X w Q0) 68 [(0, rr w 25), (2, .int x2)] [] S := by
  refine j_iload_n C dX7_generousNow_68 1 rfl rfl ?_
  refine j_istore_n (lv' := [(1, .int x2), (0, rr w 25), (2, .int x2)]) C dX7_generousNow_69 rfl (by decide) rfl ?_
  refine j_sub [1, 0, 2] rfl ?_
  exact t_X7_generousNow_70 C hK4 h
set_option maxRecDepth 20000 in
theorem t_X7_generousNow_25 {X : Mx} {w : Wt} {l0 : Launch} {Q0 : Int32 → St → Prop} {K4 : Int32 × Int32 × St → Prop} (C : Cx X w l0 cX7_generousNow 4 RX7 rm_X7_generousNow (some .int)) (hK4 : ∀ (x1 : Int32) (x2 : Int32) (S : St), K4 (x1, x2, S) → J X w (QI X w Q0) 4 [(0, rr w 25), (1, .int x1), (2, .int x2)] [] S) {x1 : Int32} {x2 : Int32} {t0 : Int32} {S : St} (h : p_X7_generousNow_25 Q0 K4 x1 x2 t0 S) : J X w (QI X w Q0) 25 [(0, rr w 25), (1, .int x1), (2, .int x2)] [.int t0] S := by
  refine j_istore_n (lv' := [(3, .int t0), (0, rr w 25), (1, .int x1), (2, .int x2)]) C dX7_generousNow_25 rfl (by decide) rfl ?_
  refine j_iload_n C dX7_generousNow_26 0 rfl rfl ?_
  refine j_if_eq (tgt := 70) C dX7_generousNow_27 (by decide) (fun c5 => ?_) (fun c5 => ?_)
  · have h := And.left h c5
    refine j_sub [1, 2, 3] rfl ?_
    exact t_X7_generousNow_70 C hK4 h
  · have h := And.right h c5
    refine j_iload_n C dX7_generousNow_30 2 rfl rfl ?_
    refine j_iconst C dX7_generousNow_31 (v := (-1)) (by decide) ?_
    refine j_icmp_eq (tgt := 68) C dX7_generousNow_32 (by decide) (fun c6 => ?_) (fun c6 => ?_)
    · have h := And.left h c6
      refine j_sub [1, 3] rfl ?_
      exact t_X7_generousNow_68 C hK4 h
    · have h := And.right h c6
      refine j_aload_n C dX7_generousNow_35 1 rfl rfl ?_
      refine gf_RX7_13_25 C dX7_generousNow_36 ?_
      refine j_iload_n C dX7_generousNow_39 3 rfl rfl ?_
      refine al_27 C dX7_generousNow_40 (And.left h) ?_
      have h := And.right h
      refine j_callSi (st := []) C [.int (S.1 27 x2.toNatClampNeg)] (m_X7_size C.wok h) cv_RX7_71 rk_X7_generousNow_X7_size rfl rfl (Nat.le_of_ble_eq_true rfl) dX7_generousNow_41 (fun r8 S7 h => ?_)
      refine j_aload_n C dX7_generousNow_44 1 rfl rfl ?_
      refine j_iload_n C dX7_generousNow_45 2 rfl rfl ?_
      refine j_callVi (st := [.int r8]) C 25 [.int x1] (m_X7_vouchersOf C.wok h) cv_RX7_190 rk_X7_generousNow_X7_vouchersOf rfl (rc_25 w) rfl (Nat.le_of_ble_eq_true rfl) dX7_generousNow_46 (fun r10 S9 h => ?_)
      refine j_imul C dX7_generousNow_49 ?_
      refine j_aload_n C dX7_generousNow_50 1 rfl rfl ?_
      refine gf_RX7_13_25 C dX7_generousNow_51 ?_
      refine j_iload_n C dX7_generousNow_54 2 rfl rfl ?_
      refine al_27 C dX7_generousNow_55 (And.left h) ?_
      have h := And.right h
      refine j_callSi (st := [.int (r8 * r10)]) C [.int (S9.1 27 x1.toNatClampNeg)] (m_X7_size C.wok h) cv_RX7_71 rk_X7_generousNow_X7_size rfl rfl (Nat.le_of_ble_eq_true rfl) dX7_generousNow_56 (fun r12 S11 h => ?_)
      refine j_aload_n C dX7_generousNow_59 1 rfl rfl ?_
      refine j_iload_n C dX7_generousNow_60 3 rfl rfl ?_
      refine j_callVi (st := [.int r12, .int (r8 * r10)]) C 25 [.int x2] (m_X7_vouchersOf C.wok h) cv_RX7_190 rk_X7_generousNow_X7_vouchersOf rfl (rc_25 w) rfl (Nat.le_of_ble_eq_true rfl) dX7_generousNow_61 (fun r14 S13 h => ?_)
      refine j_imul C dX7_generousNow_64 ?_
      refine j_icmp_le (tgt := 70) C dX7_generousNow_65 (by decide) (fun c15 => ?_) (fun c15 => ?_)
      · have h := And.left h c15
        refine j_sub [1, 2, 3] rfl ?_
        exact t_X7_generousNow_70 C hK4 h
      · have h := And.right h c15
        refine j_sub [1, 3] rfl ?_
        exact t_X7_generousNow_68 C hK4 h
set_option maxRecDepth 20000 in
theorem t_X7_generousNow_4 {X : Mx} {w : Wt} {l0 : Launch} {Q0 : Int32 → St → Prop} (C : Cx X w l0 cX7_generousNow 4 RX7 rm_X7_generousNow (some .int)) {x1 : Int32} {x2 : Int32} {S : St} (h : Lq (p_X7_generousNow_4 Q0) (x1, x2, S)) : J X w (QI X w Q0) 4 [(0, rr w 25), (1, .int x1), (2, .int x2)] [] S := by
  have key : ∀ a : Int32 × Int32 × St, Lq (p_X7_generousNow_4 Q0) a → J X w (QI X w Q0) 4 [(0, rr w 25), (1, .int a.1), (2, .int a.2.1)] [] a.2.2 := by
    intro a ha
    refine Lq_use (G := fun a => J X w (QI X w Q0) 4 [(0, rr w 25), (1, .int a.1), (2, .int a.2.1)] [] a.2.2) ?_ ha
    intro K4 hK a h
    obtain ⟨x1, x2, S⟩ := a
    have hK4 : ∀ (x1 : Int32) (x2 : Int32) (S : St), K4 (x1, x2, S) → J X w (QI X w Q0) 4 [(0, rr w 25), (1, .int x1), (2, .int x2)] [] S := fun x1 x2 S h => hK (x1, x2, S) h
    show J X w (QI X w Q0) 4 [(0, rr w 25), (1, .int x1), (2, .int x2)] [] S
    refine j_iload_n C dX7_generousNow_4 2 rfl rfl ?_
    refine j_aload_n C dX7_generousNow_5 0 rfl rfl ?_
    refine gf_RX7_111_25 C dX7_generousNow_6 ?_
    refine j_icmp_ge (tgt := 76) C dX7_generousNow_9 (by decide) (fun c1 => ?_) (fun c1 => ?_)
    · have h := And.left h c1
      refine j_iload_n C dX7_generousNow_76 1 rfl rfl ?_
      exact j_iret C dX7_generousNow_77 h
    · have h := And.right h c1
      refine j_aload_n C dX7_generousNow_12 0 rfl rfl ?_
      refine j_iload_n C dX7_generousNow_13 2 rfl rfl ?_
      refine j_callVi (st := []) C 25 [.int x2] (m_X7_vouchersOf C.wok h) cv_RX7_190 rk_X7_generousNow_X7_vouchersOf rfl (rc_25 w) rfl (Nat.le_of_ble_eq_true rfl) dX7_generousNow_14 (fun r3 S2 h => ?_)
      refine j_if_le (tgt := 24) C dX7_generousNow_17 (by decide) (fun c4 => ?_) (fun c4 => ?_)
      · have h := And.left h c4
        refine j_iconst C dX7_generousNow_24 (v := 0) (by decide) ?_
        exact t_X7_generousNow_25 C hK4 h
      · have h := And.right h c4
        refine j_iconst C dX7_generousNow_20 (v := 1) (by decide) ?_
        refine j_goto (tgt := 25) C dX7_generousNow_21 (by decide) ?_
        exact t_X7_generousNow_25 C hK4 h
  exact key (x1, x2, S) h
set_option maxRecDepth 20000 in
theorem m_X7_generousNow {l : Launch} {w : Wt} (hw : WOK w) {S : St} {Q0 : Int32 → St → Prop} (h : p_X7_generousNow S Q0) : MI l w yX7_generousNow cX7_generousNow 4 .int rm_X7_generousNow [rr w 25] S Q0 := by
  refine m_MI (own := RX7) (lv := [(0, rr w 25)]) hw (by decide) rfl (Nat.le_of_ble_eq_true rfl) rfl (fun X C => ?_)
  refine j_iconst C dX7_generousNow_0 (v := (-1)) (by decide) ?_
  refine j_istore_n (lv' := [(1, .int (-1)), (0, rr w 25)]) C dX7_generousNow_1 rfl (by decide) rfl ?_
  refine j_iconst C dX7_generousNow_2 (v := 0) (by decide) ?_
  refine j_istore_n (lv' := [(2, .int 0), (1, .int (-1)), (0, rr w 25)]) C dX7_generousNow_3 rfl (by decide) rfl ?_
  refine j_sub [2, 1, 0] rfl ?_
  exact t_X7_generousNow_4 C h
def rm_X7_generous : Room := { frames := 3, cells := 0, slots := 0, locals := 67 }
theorem rk_X7_generous_X7_generousNow : roomOk rm_X7_generousNow rm_X7_generous 4 := ⟨⟨rfl, rfl⟩, Nat.le_of_ble_eq_true rfl, Nat.le_of_ble_eq_true rfl⟩
theorem rk_X7_generous_X7_isCircle : roomOk rm_X7_isCircle rm_X7_generous 1 := ⟨⟨rfl, rfl⟩, Nat.le_of_ble_eq_true rfl, Nat.le_of_ble_eq_true rfl⟩
set_option maxRecDepth 20000 in
theorem m_X7_generous {l : Launch} {w : Wt} (hw : WOK w) {S : St} {Q0 : Int32 → St → Prop} (h : p_X7_generous S Q0) : MI l w yX7_generous cX7_generous 1 .int rm_X7_generous [rr w 25] S Q0 := by
  refine m_MI (own := RX7) (lv := [(0, rr w 25)]) hw (by decide) rfl (Nat.le_of_ble_eq_true rfl) rfl (fun X C => ?_)
  refine j_aload_n C dX7_generous_0 0 rfl rfl ?_
  refine j_callVi (st := []) C 25 [] (m_X7_isCircle C.wok h) cv_RX7_139 rk_X7_generous_X7_isCircle rfl (rc_25 w) rfl (Nat.le_of_ble_eq_true rfl) dX7_generous_1 (fun r2 S1 h => ?_)
  refine j_if_eq (tgt := 14) C dX7_generous_4 (by decide) (fun c3 => ?_) (fun c3 => ?_)
  · have h := And.left h c3
    refine j_bipush C dX7_generous_14 (v := (-103)) (by decide) ?_
    exact j_iret C dX7_generous_16 h
  · have h := And.right h c3
    refine j_aload_n C dX7_generous_7 0 rfl rfl ?_
    refine j_callVi (st := []) C 25 [] (m_X7_generousNow C.wok h) cv_RX7_206 rk_X7_generous_X7_generousNow rfl (rc_25 w) rfl (Nat.le_of_ble_eq_true rfl) dX7_generous_8 (fun r5 S4 h => ?_)
    refine j_goto (tgt := 16) C dX7_generous_11 (by decide) ?_
    exact j_iret C dX7_generous_16 h
def rm_X4_silence : Room := { frames := 1, cells := 0, slots := 0, locals := 21 }
theorem rk_X4_silence_X6_bit : roomOk rm_X6_bit rm_X4_silence 2 := ⟨⟨rfl, rfl⟩, Nat.le_of_ble_eq_true rfl, Nat.le_of_ble_eq_true rfl⟩
set_option maxRecDepth 20000 in
theorem t_X4_silence_26 {X : Mx} {w : Wt} {l0 : Launch} {Q0 : St → Prop} {K2 : Int32 × Int32 × St → Prop} (C : Cx X w l0 cX4_silence 3 RX4 rm_X4_silence none) (hK2 : ∀ (x1 : Int32) (x2 : Int32) (S : St), K2 (x1, x2, S) → J X w (QV X w Q0) 2 [(0, rr w 14), (1, .int x1), (2, .int x2)] [] S) {x1 : Int32} {x2 : Int32} {S : St} (h : p_X4_silence_26 Q0 K2 x1 x2 S) : J X w (QV X w Q0) 26 [(0, rr w 14), (1, .int x1), (2, .int x2)] [] S := by
  refine j_iinc (lv' := [(2, .int (x2 + 1)), (0, rr w 14), (1, .int x1)]) C dX4_silence_26 2 rfl rfl (by decide) rfl ?_
  refine j_goto (tgt := 2) C dX4_silence_29 (by decide) ?_
  refine j_sub [1, 2, 0] rfl ?_
  exact hK2 _ _ _ h
set_option maxRecDepth 20000 in
theorem t_X4_silence_2 {X : Mx} {w : Wt} {l0 : Launch} {Q0 : St → Prop} (C : Cx X w l0 cX4_silence 3 RX4 rm_X4_silence none) {x1 : Int32} {x2 : Int32} {S : St} (h : Lq (p_X4_silence_2 Q0) (x1, x2, S)) : J X w (QV X w Q0) 2 [(0, rr w 14), (1, .int x1), (2, .int x2)] [] S := by
  have key : ∀ a : Int32 × Int32 × St, Lq (p_X4_silence_2 Q0) a → J X w (QV X w Q0) 2 [(0, rr w 14), (1, .int a.1), (2, .int a.2.1)] [] a.2.2 := by
    intro a ha
    refine Lq_use (G := fun a => J X w (QV X w Q0) 2 [(0, rr w 14), (1, .int a.1), (2, .int a.2.1)] [] a.2.2) ?_ ha
    intro K2 hK a h
    obtain ⟨x1, x2, S⟩ := a
    have hK2 : ∀ (x1 : Int32) (x2 : Int32) (S : St), K2 (x1, x2, S) → J X w (QV X w Q0) 2 [(0, rr w 14), (1, .int x1), (2, .int x2)] [] S := fun x1 x2 S h => hK (x1, x2, S) h
    show J X w (QV X w Q0) 2 [(0, rr w 14), (1, .int x1), (2, .int x2)] [] S
    refine j_iload_n C dX4_silence_2 2 rfl rfl ?_
    refine j_aload_n C dX4_silence_3 0 rfl rfl ?_
    refine gf_RX4_27_14 C dX4_silence_4 ?_
    refine j_icmp_ge (tgt := 32) C dX4_silence_7 (by decide) (fun c1 => ?_) (fun c1 => ?_)
    · have h := And.left h c1
      exact j_vret C dX4_silence_32 h
    · have h := And.right h c1
      refine j_iload_n C dX4_silence_10 1 rfl rfl ?_
      refine j_iload_n C dX4_silence_11 2 rfl rfl ?_
      refine j_callNi (st := []) C [.int x1, .int x2] (m_X6_bit C.wok h) cv_RX4_42 rk_X4_silence_X6_bit rfl rfl (Nat.le_of_ble_eq_true rfl) dX4_silence_12 (fun r3 S2 h => ?_)
      refine j_iconst C dX4_silence_15 (v := 1) (by decide) ?_
      refine j_icmp_ne (tgt := 26) C dX4_silence_16 (by decide) (fun c4 => ?_) (fun c4 => ?_)
      · have h := And.left h c4
        exact t_X4_silence_26 C hK2 h
      · have h := And.right h c4
        refine j_aload_n C dX4_silence_19 0 rfl rfl ?_
        refine gf_RX4_9_14 C dX4_silence_20 ?_
        refine j_iload_n C dX4_silence_23 2 rfl rfl ?_
        refine j_iconst C dX4_silence_24 (v := 0) (by decide) ?_
        refine as_15 C dX4_silence_25 (And.left h) (fun S5 eS5 => ?_)
        have h := And.right h S5 eS5
        exact t_X4_silence_26 C hK2 h
  exact key (x1, x2, S) h
set_option maxRecDepth 20000 in
theorem m_X4_silence {l : Launch} {w : Wt} (hw : WOK w) {x1 : Int32} {S : St} {Q0 : St → Prop} (h : p_X4_silence x1 S Q0) : MV l w yX4_silence cX4_silence 3 rm_X4_silence [rr w 14, .int x1] S Q0 := by
  refine m_MV (own := RX4) (lv := [(0, rr w 14), (1, .int x1)]) hw (by decide) rfl (Nat.le_of_ble_eq_true rfl) rfl (fun X C => ?_)
  refine j_iconst C dX4_silence_0 (v := 0) (by decide) ?_
  refine j_istore_n (lv' := [(2, .int 0), (0, rr w 14), (1, .int x1)]) C dX4_silence_1 rfl (by decide) rfl ?_
  refine j_sub [1, 2, 0] rfl ?_
  exact t_X4_silence_2 C h
def rm_X6_trust : Room := { frames := 4, cells := 0, slots := 0, locals := 93 }
theorem rk_X6_trust_J6_bitCount_0f7a4 : roomOk rm_J6_bitCount_0f7a4 rm_X6_trust 1 := ⟨⟨rfl, rfl⟩, Nat.le_of_ble_eq_true rfl, Nat.le_of_ble_eq_true rfl⟩
theorem rk_X6_trust_X0_everyone : roomOk rm_X0_everyone rm_X6_trust 1 := ⟨⟨rfl, rfl⟩, Nat.le_of_ble_eq_true rfl, Nat.le_of_ble_eq_true rfl⟩
theorem rk_X6_trust_X0_exists : roomOk rm_X0_exists rm_X6_trust 1 := ⟨⟨rfl, rfl⟩, Nat.le_of_ble_eq_true rfl, Nat.le_of_ble_eq_true rfl⟩
theorem rk_X6_trust_X0_ofKind : roomOk rm_X0_ofKind rm_X6_trust 4 := ⟨⟨rfl, rfl⟩, Nat.le_of_ble_eq_true rfl, Nat.le_of_ble_eq_true rfl⟩
theorem rk_X6_trust_X4_copy : roomOk rm_X4_copy rm_X6_trust 2 := ⟨⟨rfl, rfl⟩, Nat.le_of_ble_eq_true rfl, Nat.le_of_ble_eq_true rfl⟩
theorem rk_X6_trust_X4_limitsOf : roomOk rm_X4_limitsOf rm_X6_trust 4 := ⟨⟨rfl, rfl⟩, Nat.le_of_ble_eq_true rfl, Nat.le_of_ble_eq_true rfl⟩
theorem rk_X6_trust_X4_settle : roomOk rm_X4_settle rm_X6_trust 7 := ⟨⟨rfl, rfl⟩, Nat.le_of_ble_eq_true rfl, Nat.le_of_ble_eq_true rfl⟩
theorem rk_X6_trust_X4_silence : roomOk rm_X4_silence rm_X6_trust 3 := ⟨⟨rfl, rfl⟩, Nat.le_of_ble_eq_true rfl, Nat.le_of_ble_eq_true rfl⟩
theorem rk_X6_trust_X6_admitted : roomOk rm_X6_admitted rm_X6_trust 4 := ⟨⟨rfl, rfl⟩, Nat.le_of_ble_eq_true rfl, Nat.le_of_ble_eq_true rfl⟩
theorem rk_X6_trust_X6_prepareWeb : roomOk rm_X6_prepareWeb rm_X6_trust 1 := ⟨⟨rfl, rfl⟩, Nat.le_of_ble_eq_true rfl, Nat.le_of_ble_eq_true rfl⟩
theorem rk_X6_trust_X6_takenIn : roomOk rm_X6_takenIn rm_X6_trust 4 := ⟨⟨rfl, rfl⟩, Nat.le_of_ble_eq_true rfl, Nat.le_of_ble_eq_true rfl⟩
set_option maxRecDepth 20000 in
theorem t_X6_trust_76 {X : Mx} {w : Wt} {l0 : Launch} {Q0 : Int32 → St → Prop} (C : Cx X w l0 cX6_trust 3 RX6 rm_X6_trust (some .int)) {x1 : Int32} {x2 : Int32} {S : St} (h : p_X6_trust_76 Q0 x1 x2 S) : J X w (QI X w Q0) 76 [(0, rr w 0), (1, .int x1), (2, .int x2)] [] S := by
  refine j_iload_n C dX6_trust_76 1 rfl rfl ?_
  by_cases c10 : x1 = 1
  · have h := And.left h c10
    refine j_tableIn (tgt := 104) (off := 27) C dX6_trust_77 (by rw [c10]; decide) (by rw [c10]; decide) (by rw [c10]; decide) (by decide) ?_
    refine j_aload_n C dX6_trust_104 0 rfl rfl ?_
    refine j_aload_n C dX6_trust_105 0 rfl rfl ?_
    refine gf_RX6_16_0 C dX6_trust_106 ?_
    refine j_callVi (st := [rr w 0]) C 2 [] (m_X0_everyone C.wok h) cv_RX6_151 rk_X6_trust_X0_everyone rfl (rc_2 w) rfl (Nat.le_of_ble_eq_true rfl) dX6_trust_109 (fun r12 S11 h => ?_)
    refine j_callVi (st := []) C 0 [.int r12] (m_X6_admitted C.wok h) cv_RX6_169 rk_X6_trust_X6_admitted rfl (rc_0 w) rfl (Nat.le_of_ble_eq_true rfl) dX6_trust_112 (fun r14 S13 h => ?_)
    refine j_iload_n C dX6_trust_115 2 rfl rfl ?_
    refine j_iand C dX6_trust_116 ?_
    refine j_callSi (st := []) C [.int (r14 &&& x2)] (m_J6_bitCount_0f7a4 C.wok h) cv_RX6_110 rk_X6_trust_J6_bitCount_0f7a4 rfl rfl (Nat.le_of_ble_eq_true rfl) dX6_trust_117 (fun r16 S15 h => ?_)
    exact j_iret C dX6_trust_120 h
  · have h := And.right h c10
    by_cases c17 : x1 = 2
    · have h := And.left h c17
      refine j_tableIn (tgt := 121) (off := 44) C dX6_trust_77 (by rw [c17]; decide) (by rw [c17]; decide) (by rw [c17]; decide) (by decide) ?_
      refine j_aload_n C dX6_trust_121 0 rfl rfl ?_
      refine j_iload_n C dX6_trust_122 2 rfl rfl ?_
      refine j_callVi (st := []) C 0 [.int x2] (m_X6_admitted C.wok h) cv_RX6_169 rk_X6_trust_X6_admitted rfl (rc_0 w) rfl (Nat.le_of_ble_eq_true rfl) dX6_trust_123 (fun r19 S18 h => ?_)
      refine j_callSi (st := []) C [.int r19] (m_J6_bitCount_0f7a4 C.wok h) cv_RX6_110 rk_X6_trust_J6_bitCount_0f7a4 rfl rfl (Nat.le_of_ble_eq_true rfl) dX6_trust_126 (fun r21 S20 h => ?_)
      exact j_iret C dX6_trust_129 h
    · have h := And.right h c17
      by_cases c22 : x1 = 3
      · have h := And.left h c22
        refine j_tableIn (tgt := 130) (off := 53) C dX6_trust_77 (by rw [c22]; decide) (by rw [c22]; decide) (by rw [c22]; decide) (by decide) ?_
        refine j_aload_n C dX6_trust_130 0 rfl rfl ?_
        refine gf_RX6_45_0 C dX6_trust_131 ?_
        refine j_aload_n C dX6_trust_134 0 rfl rfl ?_
        refine j_callVi (st := [rr w 14]) C 0 [] (m_X6_takenIn C.wok h) cv_RX6_176 rk_X6_trust_X6_takenIn rfl (rc_0 w) rfl (Nat.le_of_ble_eq_true rfl) dX6_trust_135 (fun r24 S23 h => ?_)
        refine j_callVi (st := []) C 14 [.int r24] (m_X4_limitsOf C.wok h) cv_RX6_154 rk_X6_trust_X4_limitsOf rfl (rc_14 w) rfl (Nat.le_of_ble_eq_true rfl) dX6_trust_138 (fun r26 S25 h => ?_)
        exact j_iret C dX6_trust_141 h
      · have h := And.right h c22
        have nc10 := lv_neT (a := 1) c10 (by decide)
        have nc17 := lv_neT (a := 2) c17 (by decide)
        have nc22 := lv_neT (a := 3) c22 (by decide)
        refine j_tableOut (tgt := 142) C dX6_trust_77 (by omega) (by decide) ?_
        refine j_aload_n C dX6_trust_142 0 rfl rfl ?_
        refine j_aload_n C dX6_trust_143 0 rfl rfl ?_
        refine gf_RX6_16_0 C dX6_trust_144 ?_
        refine j_callVi (st := [rr w 0]) C 2 [] (m_X0_everyone C.wok h) cv_RX6_151 rk_X6_trust_X0_everyone rfl (rc_2 w) rfl (Nat.le_of_ble_eq_true rfl) dX6_trust_147 (fun r28 S27 h => ?_)
        refine j_callVi (st := []) C 0 [.int r28] (m_X6_admitted C.wok h) cv_RX6_169 rk_X6_trust_X6_admitted rfl (rc_0 w) rfl (Nat.le_of_ble_eq_true rfl) dX6_trust_150 (fun r30 S29 h => ?_)
        refine j_callSi (st := []) C [.int r30] (m_J6_bitCount_0f7a4 C.wok h) cv_RX6_110 rk_X6_trust_J6_bitCount_0f7a4 rfl rfl (Nat.le_of_ble_eq_true rfl) dX6_trust_153 (fun r32 S31 h => ?_)
        exact j_iret C dX6_trust_156 h
set_option maxRecDepth 20000 in
theorem m_X6_trust {l : Launch} {w : Wt} (hw : WOK w) {x1 : Int32} {S : St} {Q0 : Int32 → St → Prop} (h : p_X6_trust x1 S Q0) : MI l w yX6_trust cX6_trust 3 .int rm_X6_trust [rr w 0, .int x1] S Q0 := by
  refine m_MI (own := RX6) (lv := [(0, rr w 0), (1, .int x1)]) hw (by decide) rfl (Nat.le_of_ble_eq_true rfl) rfl (fun X C => ?_)
  refine j_iload_n C dX6_trust_0 1 rfl rfl ?_
  refine j_if_lt (tgt := 9) C dX6_trust_1 (by decide) (fun c1 => ?_) (fun c1 => ?_)
  · have h := And.left h c1
    refine j_bipush C dX6_trust_9 (v := (-102)) (by decide) ?_
    exact j_iret C dX6_trust_11 h
  · have h := And.right h c1
    refine j_iload_n C dX6_trust_4 1 rfl rfl ?_
    refine j_iconst C dX6_trust_5 (v := 4) (by decide) ?_
    refine j_icmp_le (tgt := 12) C dX6_trust_6 (by decide) (fun c2 => ?_) (fun c2 => ?_)
    · have h := And.left h c2
      refine j_aload_n C dX6_trust_12 0 rfl rfl ?_
      refine gf_RX6_16_0 C dX6_trust_13 ?_
      refine j_callVi (st := []) C 2 [] (m_X0_exists C.wok h) cv_RX6_85 rk_X6_trust_X0_exists rfl (rc_2 w) rfl (Nat.le_of_ble_eq_true rfl) dX6_trust_16 (fun r4 S3 h => ?_)
      refine j_if_ne (tgt := 25) C dX6_trust_19 (by decide) (fun c5 => ?_) (fun c5 => ?_)
      · have h := And.left h c5
        refine j_aload_n C dX6_trust_25 0 rfl rfl ?_
        refine gf_RX6_16_0 C dX6_trust_26 ?_
        refine j_iconst C dX6_trust_29 (v := 2) (by decide) ?_
        refine j_callVi (st := []) C 2 [.int 2] (m_X0_ofKind C.wok h) cv_RX6_106 rk_X6_trust_X0_ofKind rfl (rc_2 w) rfl (Nat.le_of_ble_eq_true rfl) dX6_trust_30 (fun r7 S6 h => ?_)
        refine j_istore_n (lv' := [(2, .int r7), (0, rr w 0), (1, .int x1)]) C dX6_trust_33 rfl (by decide) rfl ?_
        refine j_iload_n C dX6_trust_34 2 rfl rfl ?_
        refine j_iconst C dX6_trust_35 (v := 4) (by decide) ?_
        refine j_icmp_ne (tgt := 72) C dX6_trust_36 (by decide) (fun c8 => ?_) (fun c8 => ?_)
        · have h := And.left h c8
          refine j_aload_n C dX6_trust_72 1 rfl rfl ?_
          refine j_callVv (st := []) C 0 [] (m_X6_prepareWeb C.wok h) cv_RX6_140 rk_X6_trust_X6_prepareWeb rfl (rc_0 w) rfl (Nat.le_of_ble_eq_true rfl) dX6_trust_73 (fun S9 h => ?_)
          refine j_sub [1, 2, 0] rfl ?_
          exact t_X6_trust_76 C h
        · have h := And.right h c8
          refine j_aload_n C dX6_trust_39 1 rfl rfl ?_
          refine gf_RX6_45_0 C dX6_trust_40 ?_
          refine j_aload_n C dX6_trust_43 1 rfl rfl ?_
          refine gf_RX6_16_0 C dX6_trust_44 ?_
          refine j_callVv (st := []) C 14 [rr w 2] (m_X4_copy C.wok h) cv_RX6_179 rk_X6_trust_X4_copy rfl (rc_14 w) rfl (Nat.le_of_ble_eq_true rfl) dX6_trust_47 (fun S33 h => ?_)
          refine j_aload_n C dX6_trust_50 1 rfl rfl ?_
          refine gf_RX6_45_0 C dX6_trust_51 ?_
          refine j_iload_n C dX6_trust_54 0 rfl rfl ?_
          refine j_callVv (st := []) C 14 [.int r7] (m_X4_silence C.wok h) cv_RX6_182 rk_X6_trust_X4_silence rfl (rc_14 w) rfl (Nat.le_of_ble_eq_true rfl) dX6_trust_55 (fun S34 h => ?_)
          refine j_aload_n C dX6_trust_58 1 rfl rfl ?_
          refine gf_RX6_45_0 C dX6_trust_59 ?_
          refine j_aload_n C dX6_trust_62 1 rfl rfl ?_
          refine gf_RX6_16_0 C dX6_trust_63 ?_
          refine j_callVv (st := []) C 14 [rr w 2] (m_X4_settle C.wok h) cv_RX6_186 rk_X6_trust_X4_settle rfl (rc_14 w) rfl (Nat.le_of_ble_eq_true rfl) dX6_trust_66 (fun S35 h => ?_)
          refine j_goto (tgt := 76) C dX6_trust_69 (by decide) ?_
          refine j_sub [1, 2, 0] rfl ?_
          exact t_X6_trust_76 C h
      · have h := And.right h c5
        refine j_bipush C dX6_trust_22 (v := (-103)) (by decide) ?_
        exact j_iret C dX6_trust_24 h
    · have h := And.right h c2
      refine j_bipush C dX6_trust_9 (v := (-102)) (by decide) ?_
      exact j_iret C dX6_trust_11 h
def rm_X7_flood : Room := { frames := 2, cells := 0, slots := 0, locals := 45 }
theorem rk_X7_flood_X7_canBe : roomOk rm_X7_canBe rm_X7_flood 4 := ⟨⟨rfl, rfl⟩, Nat.le_of_ble_eq_true rfl, Nat.le_of_ble_eq_true rfl⟩
theorem rk_X7_flood_X7_ofKind : roomOk rm_X7_ofKind rm_X7_flood 4 := ⟨⟨rfl, rfl⟩, Nat.le_of_ble_eq_true rfl, Nat.le_of_ble_eq_true rfl⟩
theorem rk_X7_flood_X7_size : roomOk rm_X7_size rm_X7_flood 3 := ⟨⟨rfl, rfl⟩, Nat.le_of_ble_eq_true rfl, Nat.le_of_ble_eq_true rfl⟩
set_option maxRecDepth 20000 in
theorem t_X7_flood_64 {X : Mx} {w : Wt} {l0 : Launch} {Q0 : Int32 → St → Prop} {K10 : Int32 × Int32 × Int32 × St → Prop} (C : Cx X w l0 cX7_flood 5 RX7 rm_X7_flood (some .int)) (hK10 : ∀ (x1 : Int32) (x2 : Int32) (x3 : Int32) (S : St), K10 (x1, x2, x3, S) → J X w (QI X w Q0) 10 [(0, rr w 25), (1, .int x1), (2, .int x2), (3, .int x3)] [] S) {x1 : Int32} {x3 : Int32} {t0 : Int32} {S : St} (h : p_X7_flood_64 Q0 K10 x1 x3 t0 S) : J X w (QI X w Q0) 64 [(0, rr w 25), (1, .int x1), (3, .int x3)] [.int t0] S := by
  refine j_istore_n (lv' := [(2, .int t0), (0, rr w 25), (1, .int x1), (3, .int x3)]) C dX7_flood_64 rfl (by decide) rfl ?_
  refine j_iinc (lv' := [(3, .int (x3 + 1)), (2, .int t0), (0, rr w 25), (1, .int x1)]) C dX7_flood_65 3 rfl rfl (by decide) rfl ?_
  refine j_goto (tgt := 10) C dX7_flood_68 (by decide) ?_
  refine j_sub [2, 3, 1, 0] rfl ?_
  exact hK10 _ _ _ _ h
set_option maxRecDepth 20000 in
theorem t_X7_flood_63 {X : Mx} {w : Wt} {l0 : Launch} {Q0 : Int32 → St → Prop} {K10 : Int32 × Int32 × Int32 × St → Prop} (C : Cx X w l0 cX7_flood 5 RX7 rm_X7_flood (some .int)) (hK10 : ∀ (x1 : Int32) (x2 : Int32) (x3 : Int32) (S : St), K10 (x1, x2, x3, S) → J X w (QI X w Q0) 10 [(0, rr w 25), (1, .int x1), (2, .int x2), (3, .int x3)] [] S) {x1 : Int32} {x2 : Int32} {x3 : Int32} {S : St} (h : p_X7_flood_63 Q0 K10 x1 x2 x3 S) : J X w (QI X w Q0) 63 [(0, rr w 25), (1, .int x1), (2, .int x2), (3, .int x3)] [] S := by
  refine j_iload_n C dX7_flood_63 2 rfl rfl ?_
  refine j_sub [0, 1, 3] rfl ?_
  exact t_X7_flood_64 C hK10 h
set_option maxRecDepth 20000 in
theorem t_X7_flood_41 {X : Mx} {w : Wt} {l0 : Launch} {Q0 : Int32 → St → Prop} {K10 : Int32 × Int32 × Int32 × St → Prop} (C : Cx X w l0 cX7_flood 5 RX7 rm_X7_flood (some .int)) (hK10 : ∀ (x1 : Int32) (x2 : Int32) (x3 : Int32) (S : St), K10 (x1, x2, x3, S) → J X w (QI X w Q0) 10 [(0, rr w 25), (1, .int x1), (2, .int x2), (3, .int x3)] [] S) {x1 : Int32} {x2 : Int32} {x3 : Int32} {t0 : Int32} {S : St} (h : p_X7_flood_41 Q0 K10 x1 x2 x3 t0 S) : J X w (QI X w Q0) 41 [(0, rr w 25), (1, .int x1), (2, .int x2), (3, .int x3)] [.int t0] S := by
  refine j_istore (lv' := [(4, .int t0), (0, rr w 25), (1, .int x1), (2, .int x2), (3, .int x3)]) C dX7_flood_41 (by decide) rfl ?_
  refine j_iload C dX7_flood_43 0 rfl ?_
  refine j_if_eq (tgt := 63) C dX7_flood_45 (by decide) (fun c5 => ?_) (fun c5 => ?_)
  · have h := And.left h c5
    refine j_sub [1, 2, 3, 4] rfl ?_
    exact t_X7_flood_63 C hK10 h
  · have h := And.right h c5
    refine j_aload_n C dX7_flood_48 1 rfl rfl ?_
    refine j_iload_n C dX7_flood_49 4 rfl rfl ?_
    refine j_callVi (st := []) C 25 [.int x3] (m_X7_canBe C.wok h) cv_RX7_172 rk_X7_flood_X7_canBe rfl (rc_25 w) rfl (Nat.le_of_ble_eq_true rfl) dX7_flood_50 (fun r7 S6 h => ?_)
    refine j_if_eq (tgt := 63) C dX7_flood_53 (by decide) (fun c8 => ?_) (fun c8 => ?_)
    · have h := And.left h c8
      refine j_sub [1, 2, 3, 4] rfl ?_
      exact t_X7_flood_63 C hK10 h
    · have h := And.right h c8
      refine j_iload_n C dX7_flood_56 4 rfl rfl ?_
      refine j_callSi (st := []) C [.int x3] (m_X7_size C.wok h) cv_RX7_71 rk_X7_flood_X7_size rfl rfl (Nat.le_of_ble_eq_true rfl) dX7_flood_57 (fun r10 S9 h => ?_)
      refine j_goto (tgt := 64) C dX7_flood_60 (by decide) ?_
      refine j_sub [1, 2, 4] rfl ?_
      exact t_X7_flood_64 C hK10 h
set_option maxRecDepth 20000 in
theorem t_X7_flood_40 {X : Mx} {w : Wt} {l0 : Launch} {Q0 : Int32 → St → Prop} {K10 : Int32 × Int32 × Int32 × St → Prop} (C : Cx X w l0 cX7_flood 5 RX7 rm_X7_flood (some .int)) (hK10 : ∀ (x1 : Int32) (x2 : Int32) (x3 : Int32) (S : St), K10 (x1, x2, x3, S) → J X w (QI X w Q0) 10 [(0, rr w 25), (1, .int x1), (2, .int x2), (3, .int x3)] [] S) {x1 : Int32} {x2 : Int32} {x3 : Int32} {S : St} (h : p_X7_flood_40 Q0 K10 x1 x2 x3 S) : J X w (QI X w Q0) 40 [(0, rr w 25), (1, .int x1), (2, .int x2), (3, .int x3)] [] S := by
  refine j_iconst C dX7_flood_40 (v := 0) (by decide) ?_
  exact t_X7_flood_41 C hK10 h
set_option maxRecDepth 20000 in
theorem t_X7_flood_10 {X : Mx} {w : Wt} {l0 : Launch} {Q0 : Int32 → St → Prop} (C : Cx X w l0 cX7_flood 5 RX7 rm_X7_flood (some .int)) {x1 : Int32} {x2 : Int32} {x3 : Int32} {S : St} (h : Lq (p_X7_flood_10 Q0) (x1, x2, x3, S)) : J X w (QI X w Q0) 10 [(0, rr w 25), (1, .int x1), (2, .int x2), (3, .int x3)] [] S := by
  have key : ∀ a : Int32 × Int32 × Int32 × St, Lq (p_X7_flood_10 Q0) a → J X w (QI X w Q0) 10 [(0, rr w 25), (1, .int a.1), (2, .int a.2.1), (3, .int a.2.2.1)] [] a.2.2.2 := by
    intro a ha
    refine Lq_use (G := fun a => J X w (QI X w Q0) 10 [(0, rr w 25), (1, .int a.1), (2, .int a.2.1), (3, .int a.2.2.1)] [] a.2.2.2) ?_ ha
    intro K10 hK a h
    obtain ⟨x1, x2, x3, S⟩ := a
    have hK10 : ∀ (x1 : Int32) (x2 : Int32) (x3 : Int32) (S : St), K10 (x1, x2, x3, S) → J X w (QI X w Q0) 10 [(0, rr w 25), (1, .int x1), (2, .int x2), (3, .int x3)] [] S := fun x1 x2 x3 S h => hK (x1, x2, x3, S) h
    show J X w (QI X w Q0) 10 [(0, rr w 25), (1, .int x1), (2, .int x2), (3, .int x3)] [] S
    refine j_iload_n C dX7_flood_10 3 rfl rfl ?_
    refine j_iconst C dX7_flood_11 (v := 1) (by decide) ?_
    refine j_aload_n C dX7_flood_12 0 rfl rfl ?_
    refine gf_RX7_111_25 C dX7_flood_13 ?_
    refine j_ishl C dX7_flood_16 ?_
    refine j_icmp_ge (tgt := 71) C dX7_flood_17 (by decide) (fun c3 => ?_) (fun c3 => ?_)
    · have h := And.left h c3
      refine j_iload_n C dX7_flood_71 2 rfl rfl ?_
      exact j_iret C dX7_flood_72 h
    · have h := And.right h c3
      refine j_iload_n C dX7_flood_20 3 rfl rfl ?_
      refine j_iload_n C dX7_flood_21 1 rfl rfl ?_
      refine j_iconst C dX7_flood_22 (v := (-1)) (by decide) ?_
      refine j_ixor C dX7_flood_23 ?_
      refine j_iand C dX7_flood_24 ?_
      refine j_if_ne (tgt := 40) C dX7_flood_25 (by decide) (fun c4 => ?_) (fun c4 => ?_)
      · have h := And.left h c4
        exact t_X7_flood_40 C hK10 h
      · have h := And.right h c4
        refine j_iload_n C dX7_flood_28 3 rfl rfl ?_
        refine j_callSi (st := []) C [.int x3] (m_X7_size C.wok h) cv_RX7_71 rk_X7_flood_X7_size rfl rfl (Nat.le_of_ble_eq_true rfl) dX7_flood_29 (fun r12 S11 h => ?_)
        refine j_iload_n C dX7_flood_32 2 rfl rfl ?_
        refine j_icmp_le (tgt := 40) C dX7_flood_33 (by decide) (fun c13 => ?_) (fun c13 => ?_)
        · have h := And.left h c13
          exact t_X7_flood_40 C hK10 h
        · have h := And.right h c13
          refine j_iconst C dX7_flood_36 (v := 1) (by decide) ?_
          refine j_goto (tgt := 41) C dX7_flood_37 (by decide) ?_
          exact t_X7_flood_41 C hK10 h
  exact key (x1, x2, x3, S) h
set_option maxRecDepth 20000 in
theorem m_X7_flood {l : Launch} {w : Wt} (hw : WOK w) {S : St} {Q0 : Int32 → St → Prop} (h : p_X7_flood S Q0) : MI l w yX7_flood cX7_flood 5 .int rm_X7_flood [rr w 25] S Q0 := by
  refine m_MI (own := RX7) (lv := [(0, rr w 25)]) hw (by decide) rfl (Nat.le_of_ble_eq_true rfl) rfl (fun X C => ?_)
  refine j_aload_n C dX7_flood_0 0 rfl rfl ?_
  refine j_iconst C dX7_flood_1 (v := 2) (by decide) ?_
  refine j_callVi (st := []) C 25 [.int 2] (m_X7_ofKind C.wok h) cv_RX7_148 rk_X7_flood_X7_ofKind rfl (rc_25 w) rfl (Nat.le_of_ble_eq_true rfl) dX7_flood_2 (fun r2 S1 h => ?_)
  refine j_istore_n (lv' := [(1, .int r2), (0, rr w 25)]) C dX7_flood_5 rfl (by decide) rfl ?_
  refine j_iconst C dX7_flood_6 (v := 0) (by decide) ?_
  refine j_istore_n (lv' := [(2, .int 0), (1, .int r2), (0, rr w 25)]) C dX7_flood_7 rfl (by decide) rfl ?_
  refine j_iconst C dX7_flood_8 (v := 0) (by decide) ?_
  refine j_istore_n (lv' := [(3, .int 0), (2, .int 0), (1, .int r2), (0, rr w 25)]) C dX7_flood_9 rfl (by decide) rfl ?_
  refine j_sub [3, 2, 1, 0] rfl ?_
  exact t_X7_flood_10 C h
def rm_X7_withoutFalse : Room := { frames := 4, cells := 0, slots := 0, locals := 89 }
theorem rk_X7_withoutFalse_X7_allIn : roomOk rm_X7_allIn rm_X7_withoutFalse 3 := ⟨⟨rfl, rfl⟩, Nat.le_of_ble_eq_true rfl, Nat.le_of_ble_eq_true rfl⟩
theorem rk_X7_withoutFalse_X7_lay : roomOk rm_X7_lay rm_X7_withoutFalse 2 := ⟨⟨rfl, rfl⟩, Nat.le_of_ble_eq_true rfl, Nat.le_of_ble_eq_true rfl⟩
theorem rk_X7_withoutFalse_X7_size : roomOk rm_X7_size rm_X7_withoutFalse 3 := ⟨⟨rfl, rfl⟩, Nat.le_of_ble_eq_true rfl, Nat.le_of_ble_eq_true rfl⟩
set_option maxRecDepth 20000 in
theorem t_X7_withoutFalse_70 {X : Mx} {w : Wt} {l0 : Launch} {Q0 : Int32 → St → Prop} (C : Cx X w l0 cX7_withoutFalse 3 RX7 rm_X7_withoutFalse (some .int)) {x1 : Int32} {x2 : Int32} {S : St} (h : Lq (p_X7_withoutFalse_70 Q0) (x1, x2, S)) : J X w (QI X w Q0) 70 [(0, rr w 25), (1, .int x1), (2, .int x2)] [] S := by
  have key : ∀ a : Int32 × Int32 × St, Lq (p_X7_withoutFalse_70 Q0) a → J X w (QI X w Q0) 70 [(0, rr w 25), (1, .int a.1), (2, .int a.2.1)] [] a.2.2 := by
    intro a ha
    refine Lq_use (G := fun a => J X w (QI X w Q0) 70 [(0, rr w 25), (1, .int a.1), (2, .int a.2.1)] [] a.2.2) ?_ ha
    intro K70 hK a h
    obtain ⟨x1, x2, S⟩ := a
    have hK70 : ∀ (x1 : Int32) (x2 : Int32) (S : St), K70 (x1, x2, S) → J X w (QI X w Q0) 70 [(0, rr w 25), (1, .int x1), (2, .int x2)] [] S := fun x1 x2 S h => hK (x1, x2, S) h
    show J X w (QI X w Q0) 70 [(0, rr w 25), (1, .int x1), (2, .int x2)] [] S
    refine j_iload_n C dX7_withoutFalse_70 2 rfl rfl ?_
    refine j_aload_n C dX7_withoutFalse_71 0 rfl rfl ?_
    refine gf_RX7_111_25 C dX7_withoutFalse_72 ?_
    refine j_icmp_ge (tgt := 96) C dX7_withoutFalse_75 (by decide) (fun c7 => ?_) (fun c7 => ?_)
    · have h := And.left h c7
      refine j_iload_n C dX7_withoutFalse_96 1 rfl rfl ?_
      exact j_iret C dX7_withoutFalse_97 h
    · have h := And.right h c7
      refine j_aload_n C dX7_withoutFalse_78 0 rfl rfl ?_
      refine gf_RX7_13_25 C dX7_withoutFalse_79 ?_
      refine j_iload_n C dX7_withoutFalse_82 2 rfl rfl ?_
      refine j_aload_n C dX7_withoutFalse_83 0 rfl rfl ?_
      refine gf_RX7_40_25 C dX7_withoutFalse_84 ?_
      refine j_iload_n C dX7_withoutFalse_87 2 rfl rfl ?_
      refine al_36 C dX7_withoutFalse_88 (And.left h) ?_
      have h := And.right h
      refine as_27 C dX7_withoutFalse_89 (And.left h) (fun S8 eS8 => ?_)
      have h := And.right h S8 eS8
      refine j_iinc (lv' := [(2, .int (x2 + 1)), (0, rr w 25), (1, .int x1)]) C dX7_withoutFalse_90 2 rfl rfl (by decide) rfl ?_
      refine j_goto (tgt := 70) C dX7_withoutFalse_93 (by decide) ?_
      refine j_sub [1, 2, 0] rfl ?_
      exact hK70 _ _ _ h
  exact key (x1, x2, S) h
set_option maxRecDepth 20000 in
theorem t_X7_withoutFalse_49 {X : Mx} {w : Wt} {l0 : Launch} {Q0 : Int32 → St → Prop} {K4 : Int32 × St → Prop} (C : Cx X w l0 cX7_withoutFalse 3 RX7 rm_X7_withoutFalse (some .int)) (hK4 : ∀ (x2 : Int32) (S : St), K4 (x2, S) → J X w (QI X w Q0) 4 [(0, rr w 25), (2, .int x2)] [] S) {x2 : Int32} {t0 : Int32} {t1 : Int32} {S : St} (h : p_X7_withoutFalse_49 Q0 K4 x2 t0 t1 S) : J X w (QI X w Q0) 49 [(0, rr w 25), (2, .int x2)] [.int t0, .int t1, rr w 27] S := by
  refine as_27 C dX7_withoutFalse_49 (And.left h) (fun S11 eS11 => ?_)
  have h := And.right h S11 eS11
  refine j_iinc (lv' := [(2, .int (x2 + 1)), (0, rr w 25)]) C dX7_withoutFalse_50 1 rfl rfl (by decide) rfl ?_
  refine j_goto (tgt := 4) C dX7_withoutFalse_53 (by decide) ?_
  refine j_sub [1, 0] rfl ?_
  exact hK4 _ _ h
set_option maxRecDepth 20000 in
theorem t_X7_withoutFalse_4 {X : Mx} {w : Wt} {l0 : Launch} {Q0 : Int32 → St → Prop} (C : Cx X w l0 cX7_withoutFalse 3 RX7 rm_X7_withoutFalse (some .int)) {x2 : Int32} {S : St} (h : Lq (p_X7_withoutFalse_4 Q0) (x2, S)) : J X w (QI X w Q0) 4 [(0, rr w 25), (2, .int x2)] [] S := by
  have key : ∀ a : Int32 × St, Lq (p_X7_withoutFalse_4 Q0) a → J X w (QI X w Q0) 4 [(0, rr w 25), (2, .int a.1)] [] a.2 := by
    intro a ha
    refine Lq_use (G := fun a => J X w (QI X w Q0) 4 [(0, rr w 25), (2, .int a.1)] [] a.2) ?_ ha
    intro K4 hK a h
    obtain ⟨x2, S⟩ := a
    have hK4 : ∀ (x2 : Int32) (S : St), K4 (x2, S) → J X w (QI X w Q0) 4 [(0, rr w 25), (2, .int x2)] [] S := fun x2 S h => hK (x2, S) h
    show J X w (QI X w Q0) 4 [(0, rr w 25), (2, .int x2)] [] S
    refine j_iload_n C dX7_withoutFalse_4 1 rfl rfl ?_
    refine j_aload_n C dX7_withoutFalse_5 0 rfl rfl ?_
    refine gf_RX7_111_25 C dX7_withoutFalse_6 ?_
    refine j_icmp_ge (tgt := 56) C dX7_withoutFalse_9 (by decide) (fun c1 => ?_) (fun c1 => ?_)
    · have h := And.left h c1
      refine j_aload_n C dX7_withoutFalse_56 0 rfl rfl ?_
      refine j_callVv (st := []) C 25 [] (m_X7_lay C.wok h) cv_RX7_187 rk_X7_withoutFalse_X7_lay rfl (rc_25 w) rfl (Nat.le_of_ble_eq_true rfl) dX7_withoutFalse_57 (fun S2 h => ?_)
      refine j_aload_n C dX7_withoutFalse_60 0 rfl rfl ?_
      refine j_callVi (st := []) C 25 [] (m_X7_allIn C.wok h) cv_RX7_193 rk_X7_withoutFalse_X7_allIn rfl (rc_25 w) rfl (Nat.le_of_ble_eq_true rfl) dX7_withoutFalse_61 (fun r4 S3 h => ?_)
      refine j_callSi (st := []) C [.int r4] (m_X7_size C.wok h) cv_RX7_71 rk_X7_withoutFalse_X7_size rfl rfl (Nat.le_of_ble_eq_true rfl) dX7_withoutFalse_64 (fun r6 S5 h => ?_)
      refine j_istore_n (lv' := [(1, .int r6), (0, rr w 25), (2, .int x2)]) C dX7_withoutFalse_67 rfl (by decide) rfl ?_
      refine j_iconst C dX7_withoutFalse_68 (v := 0) (by decide) ?_
      refine j_istore_n (lv' := [(2, .int 0), (1, .int r6), (0, rr w 25)]) C dX7_withoutFalse_69 rfl (by decide) rfl ?_
      refine j_sub [2, 1, 0] rfl ?_
      exact t_X7_withoutFalse_70 C h
    · have h := And.right h c1
      refine j_aload_n C dX7_withoutFalse_12 0 rfl rfl ?_
      refine gf_RX7_40_25 C dX7_withoutFalse_13 ?_
      refine j_iload_n C dX7_withoutFalse_16 1 rfl rfl ?_
      refine j_aload_n C dX7_withoutFalse_17 0 rfl rfl ?_
      refine gf_RX7_13_25 C dX7_withoutFalse_18 ?_
      refine j_iload_n C dX7_withoutFalse_21 1 rfl rfl ?_
      refine al_27 C dX7_withoutFalse_22 (And.left h) ?_
      have h := And.right h
      refine as_36 C dX7_withoutFalse_23 (And.left h) (fun S9 eS9 => ?_)
      have h := And.right h S9 eS9
      refine j_aload_n C dX7_withoutFalse_24 0 rfl rfl ?_
      refine gf_RX7_13_25 C dX7_withoutFalse_25 ?_
      refine j_iload_n C dX7_withoutFalse_28 1 rfl rfl ?_
      refine j_aload_n C dX7_withoutFalse_29 0 rfl rfl ?_
      refine gf_RX7_7_25 C dX7_withoutFalse_30 ?_
      refine j_iload_n C dX7_withoutFalse_33 1 rfl rfl ?_
      refine al_26 C dX7_withoutFalse_34 (And.left h) ?_
      have h := And.right h
      refine j_iconst C dX7_withoutFalse_35 (v := 2) (by decide) ?_
      refine j_icmp_ne (tgt := 43) C dX7_withoutFalse_36 (by decide) (fun c10 => ?_) (fun c10 => ?_)
      · have h := And.left h c10
        refine j_aload_n C dX7_withoutFalse_43 0 rfl rfl ?_
        refine gf_RX7_13_25 C dX7_withoutFalse_44 ?_
        refine j_iload_n C dX7_withoutFalse_47 1 rfl rfl ?_
        refine al_27 C dX7_withoutFalse_48 (And.left h) ?_
        have h := And.right h
        exact t_X7_withoutFalse_49 C hK4 h
      · have h := And.right h c10
        refine j_iconst C dX7_withoutFalse_39 (v := 0) (by decide) ?_
        refine j_goto (tgt := 49) C dX7_withoutFalse_40 (by decide) ?_
        exact t_X7_withoutFalse_49 C hK4 h
  exact key (x2, S) h
set_option maxRecDepth 20000 in
theorem m_X7_withoutFalse {l : Launch} {w : Wt} (hw : WOK w) {S : St} {Q0 : Int32 → St → Prop} (h : p_X7_withoutFalse S Q0) : MI l w yX7_withoutFalse cX7_withoutFalse 3 .int rm_X7_withoutFalse [rr w 25] S Q0 := by
  refine m_MI (own := RX7) (lv := [(0, rr w 25)]) hw (by decide) rfl (Nat.le_of_ble_eq_true rfl) rfl (fun X C => ?_)
  refine j_iconst C dX7_withoutFalse_0 (v := 0) (by decide) ?_
  refine j_istore_n (lv' := [(1, .int 0), (0, rr w 25)]) C dX7_withoutFalse_1 rfl (by decide) rfl ?_
  refine j_iconst C dX7_withoutFalse_2 (v := 0) (by decide) ?_
  refine j_istore_n (lv' := [(2, .int 0), (1, .int 0), (0, rr w 25)]) C dX7_withoutFalse_3 rfl (by decide) rfl ?_
  refine j_sub [2, 0] rfl ?_
  exact t_X7_withoutFalse_4 C h
def rm_X7_trustNow : Room := { frames := 5, cells := 0, slots := 0, locals := 111 }
theorem rk_X7_trustNow_X7_allIn : roomOk rm_X7_allIn rm_X7_trustNow 3 := ⟨⟨rfl, rfl⟩, Nat.le_of_ble_eq_true rfl, Nat.le_of_ble_eq_true rfl⟩
theorem rk_X7_trustNow_X7_flood : roomOk rm_X7_flood rm_X7_trustNow 5 := ⟨⟨rfl, rfl⟩, Nat.le_of_ble_eq_true rfl, Nat.le_of_ble_eq_true rfl⟩
theorem rk_X7_trustNow_X7_lay : roomOk rm_X7_lay rm_X7_trustNow 2 := ⟨⟨rfl, rfl⟩, Nat.le_of_ble_eq_true rfl, Nat.le_of_ble_eq_true rfl⟩
theorem rk_X7_trustNow_X7_mostOf : roomOk rm_X7_mostOf rm_X7_trustNow 4 := ⟨⟨rfl, rfl⟩, Nat.le_of_ble_eq_true rfl, Nat.le_of_ble_eq_true rfl⟩
theorem rk_X7_trustNow_X7_ofKind : roomOk rm_X7_ofKind rm_X7_trustNow 4 := ⟨⟨rfl, rfl⟩, Nat.le_of_ble_eq_true rfl, Nat.le_of_ble_eq_true rfl⟩
theorem rk_X7_trustNow_X7_size : roomOk rm_X7_size rm_X7_trustNow 3 := ⟨⟨rfl, rfl⟩, Nat.le_of_ble_eq_true rfl, Nat.le_of_ble_eq_true rfl⟩
theorem rk_X7_trustNow_X7_takenIn : roomOk rm_X7_takenIn rm_X7_trustNow 4 := ⟨⟨rfl, rfl⟩, Nat.le_of_ble_eq_true rfl, Nat.le_of_ble_eq_true rfl⟩
theorem rk_X7_trustNow_X7_withoutFalse : roomOk rm_X7_withoutFalse rm_X7_trustNow 3 := ⟨⟨rfl, rfl⟩, Nat.le_of_ble_eq_true rfl, Nat.le_of_ble_eq_true rfl⟩
set_option maxRecDepth 20000 in
theorem m_X7_trustNow {l : Launch} {w : Wt} (hw : WOK w) {x1 : Int32} {S : St} {Q0 : Int32 → St → Prop} (h : p_X7_trustNow x1 S Q0) : MI l w yX7_trustNow cX7_trustNow 2 .int rm_X7_trustNow [rr w 25, .int x1] S Q0 := by
  refine m_MI (own := RX7) (lv := [(0, rr w 25), (1, .int x1)]) hw (by decide) rfl (Nat.le_of_ble_eq_true rfl) rfl (fun X C => ?_)
  refine j_aload_n C dX7_trustNow_0 0 rfl rfl ?_
  refine j_callVv (st := []) C 25 [] (m_X7_lay C.wok h) cv_RX7_187 rk_X7_trustNow_X7_lay rfl (rc_25 w) rfl (Nat.le_of_ble_eq_true rfl) dX7_trustNow_1 (fun S1 h => ?_)
  refine j_iload_n C dX7_trustNow_4 1 rfl rfl ?_
  by_cases c2 : x1 = 0
  · have h := And.left h c2
    refine j_tableIn (tgt := 36) (off := 31) C dX7_trustNow_5 (by rw [c2]; decide) (by rw [c2]; decide) (by rw [c2]; decide) (by decide) ?_
    refine j_aload_n C dX7_trustNow_36 0 rfl rfl ?_
    refine j_callVi (st := []) C 25 [] (m_X7_allIn C.wok h) cv_RX7_193 rk_X7_trustNow_X7_allIn rfl (rc_25 w) rfl (Nat.le_of_ble_eq_true rfl) dX7_trustNow_37 (fun r4 S3 h => ?_)
    refine j_callSi (st := []) C [.int r4] (m_X7_size C.wok h) cv_RX7_71 rk_X7_trustNow_X7_size rfl rfl (Nat.le_of_ble_eq_true rfl) dX7_trustNow_40 (fun r6 S5 h => ?_)
    exact j_iret C dX7_trustNow_43 h
  · have h := And.right h c2
    by_cases c7 : x1 = 1
    · have h := And.left h c7
      refine j_tableIn (tgt := 44) (off := 39) C dX7_trustNow_5 (by rw [c7]; decide) (by rw [c7]; decide) (by rw [c7]; decide) (by decide) ?_
      refine j_aload_n C dX7_trustNow_44 0 rfl rfl ?_
      refine j_callVi (st := []) C 25 [] (m_X7_allIn C.wok h) cv_RX7_193 rk_X7_trustNow_X7_allIn rfl (rc_25 w) rfl (Nat.le_of_ble_eq_true rfl) dX7_trustNow_45 (fun r9 S8 h => ?_)
      refine j_aload_n C dX7_trustNow_48 0 rfl rfl ?_
      refine j_iconst C dX7_trustNow_49 (v := 2) (by decide) ?_
      refine j_callVi (st := [.int r9]) C 25 [.int 2] (m_X7_ofKind C.wok h) cv_RX7_148 rk_X7_trustNow_X7_ofKind rfl (rc_25 w) rfl (Nat.le_of_ble_eq_true rfl) dX7_trustNow_50 (fun r11 S10 h => ?_)
      refine j_iand C dX7_trustNow_53 ?_
      refine j_callSi (st := []) C [.int (r9 &&& r11)] (m_X7_size C.wok h) cv_RX7_71 rk_X7_trustNow_X7_size rfl rfl (Nat.le_of_ble_eq_true rfl) dX7_trustNow_54 (fun r13 S12 h => ?_)
      exact j_iret C dX7_trustNow_57 h
    · have h := And.right h c7
      by_cases c14 : x1 = 2
      · have h := And.left h c14
        refine j_tableIn (tgt := 58) (off := 53) C dX7_trustNow_5 (by rw [c14]; decide) (by rw [c14]; decide) (by rw [c14]; decide) (by decide) ?_
        refine j_aload_n C dX7_trustNow_58 0 rfl rfl ?_
        refine j_callVi (st := []) C 25 [] (m_X7_flood C.wok h) cv_RX7_209 rk_X7_trustNow_X7_flood rfl (rc_25 w) rfl (Nat.le_of_ble_eq_true rfl) dX7_trustNow_59 (fun r16 S15 h => ?_)
        exact j_iret C dX7_trustNow_62 h
      · have h := And.right h c14
        by_cases c17 : x1 = 3
        · have h := And.left h c17
          refine j_tableIn (tgt := 63) (off := 58) C dX7_trustNow_5 (by rw [c17]; decide) (by rw [c17]; decide) (by rw [c17]; decide) (by decide) ?_
          refine j_aload_n C dX7_trustNow_63 0 rfl rfl ?_
          refine j_aload_n C dX7_trustNow_64 0 rfl rfl ?_
          refine j_callVi (st := [rr w 25]) C 25 [] (m_X7_takenIn C.wok h) cv_RX7_196 rk_X7_trustNow_X7_takenIn rfl (rc_25 w) rfl (Nat.le_of_ble_eq_true rfl) dX7_trustNow_65 (fun r19 S18 h => ?_)
          refine j_callVi (st := []) C 25 [.int r19] (m_X7_mostOf C.wok h) cv_RX7_169 rk_X7_trustNow_X7_mostOf rfl (rc_25 w) rfl (Nat.le_of_ble_eq_true rfl) dX7_trustNow_68 (fun r21 S20 h => ?_)
          exact j_iret C dX7_trustNow_71 h
        · have h := And.right h c17
          have nc2 := lv_neT (a := 0) c2 (by decide)
          have nc7 := lv_neT (a := 1) c7 (by decide)
          have nc14 := lv_neT (a := 2) c14 (by decide)
          have nc17 := lv_neT (a := 3) c17 (by decide)
          refine j_tableOut (tgt := 72) C dX7_trustNow_5 (by omega) (by decide) ?_
          refine j_aload_n C dX7_trustNow_72 0 rfl rfl ?_
          refine j_callVi (st := []) C 25 [] (m_X7_withoutFalse C.wok h) cv_RX7_212 rk_X7_trustNow_X7_withoutFalse rfl (rc_25 w) rfl (Nat.le_of_ble_eq_true rfl) dX7_trustNow_73 (fun r23 S22 h => ?_)
          exact j_iret C dX7_trustNow_76 h
def rm_X7_trust : Room := { frames := 6, cells := 0, slots := 0, locals := 132 }
theorem rk_X7_trust_X7_isCircle : roomOk rm_X7_isCircle rm_X7_trust 1 := ⟨⟨rfl, rfl⟩, Nat.le_of_ble_eq_true rfl, Nat.le_of_ble_eq_true rfl⟩
theorem rk_X7_trust_X7_trustNow : roomOk rm_X7_trustNow rm_X7_trust 2 := ⟨⟨rfl, rfl⟩, Nat.le_of_ble_eq_true rfl, Nat.le_of_ble_eq_true rfl⟩
theorem rk_X7_trust_X7_within : roomOk rm_X7_within rm_X7_trust 3 := ⟨⟨rfl, rfl⟩, Nat.le_of_ble_eq_true rfl, Nat.le_of_ble_eq_true rfl⟩
set_option maxRecDepth 20000 in
theorem m_X7_trust {l : Launch} {w : Wt} (hw : WOK w) {x1 : Int32} {S : St} {Q0 : Int32 → St → Prop} (h : p_X7_trust x1 S Q0) : MI l w yX7_trust cX7_trust 2 .int rm_X7_trust [rr w 25, .int x1] S Q0 := by
  refine m_MI (own := RX7) (lv := [(0, rr w 25), (1, .int x1)]) hw (by decide) rfl (Nat.le_of_ble_eq_true rfl) rfl (fun X C => ?_)
  refine j_iload_n C dX7_trust_0 1 rfl rfl ?_
  refine j_iconst C dX7_trust_1 (v := 0) (by decide) ?_
  refine j_iconst C dX7_trust_2 (v := 4) (by decide) ?_
  refine j_callSi (st := []) C [.int x1, .int 0, .int 4] (m_X7_within C.wok h) cv_RX7_50 rk_X7_trust_X7_within rfl rfl (Nat.le_of_ble_eq_true rfl) dX7_trust_3 (fun r2 S1 h => ?_)
  refine j_if_ne (tgt := 12) C dX7_trust_6 (by decide) (fun c3 => ?_) (fun c3 => ?_)
  · have h := And.left h c3
    refine j_aload_n C dX7_trust_12 0 rfl rfl ?_
    refine j_callVi (st := []) C 25 [] (m_X7_isCircle C.wok h) cv_RX7_139 rk_X7_trust_X7_isCircle rfl (rc_25 w) rfl (Nat.le_of_ble_eq_true rfl) dX7_trust_13 (fun r5 S4 h => ?_)
    refine j_if_eq (tgt := 27) C dX7_trust_16 (by decide) (fun c6 => ?_) (fun c6 => ?_)
    · have h := And.left h c6
      refine j_bipush C dX7_trust_27 (v := (-103)) (by decide) ?_
      exact j_iret C dX7_trust_29 h
    · have h := And.right h c6
      refine j_aload_n C dX7_trust_19 0 rfl rfl ?_
      refine j_iload_n C dX7_trust_20 1 rfl rfl ?_
      refine j_callVi (st := []) C 25 [.int x1] (m_X7_trustNow C.wok h) cv_RX7_215 rk_X7_trust_X7_trustNow rfl (rc_25 w) rfl (Nat.le_of_ble_eq_true rfl) dX7_trust_21 (fun r8 S7 h => ?_)
      refine j_goto (tgt := 29) C dX7_trust_24 (by decide) ?_
      exact j_iret C dX7_trust_29 h
  · have h := And.right h c3
    refine j_bipush C dX7_trust_9 (v := (-102)) (by decide) ?_
    exact j_iret C dX7_trust_11 h
def rm_X6_together : Room := { frames := 4, cells := 0, slots := 0, locals := 93 }
theorem rk_X6_together_X0_everyone : roomOk rm_X0_everyone rm_X6_together 1 := ⟨⟨rfl, rfl⟩, Nat.le_of_ble_eq_true rfl, Nat.le_of_ble_eq_true rfl⟩
theorem rk_X6_together_X0_exists : roomOk rm_X0_exists rm_X6_together 1 := ⟨⟨rfl, rfl⟩, Nat.le_of_ble_eq_true rfl, Nat.le_of_ble_eq_true rfl⟩
theorem rk_X6_together_X6_admitted : roomOk rm_X6_admitted rm_X6_together 4 := ⟨⟨rfl, rfl⟩, Nat.le_of_ble_eq_true rfl, Nat.le_of_ble_eq_true rfl⟩
theorem rk_X6_together_X6_prepareWeb : roomOk rm_X6_prepareWeb rm_X6_together 1 := ⟨⟨rfl, rfl⟩, Nat.le_of_ble_eq_true rfl, Nat.le_of_ble_eq_true rfl⟩
set_option maxRecDepth 20000 in
theorem m_X6_together {l : Launch} {w : Wt} (hw : WOK w) {x1 : Int32} {S : St} {Q0 : Int32 → St → Prop} (h : p_X6_together x1 S Q0) : MI l w yX6_together cX6_together 2 .int rm_X6_together [rr w 0, .int x1] S Q0 := by
  refine m_MI (own := RX6) (lv := [(0, rr w 0), (1, .int x1)]) hw (by decide) rfl (Nat.le_of_ble_eq_true rfl) rfl (fun X C => ?_)
  refine j_aload_n C dX6_together_0 0 rfl rfl ?_
  refine gf_RX6_16_0 C dX6_together_1 ?_
  refine j_callVi (st := []) C 2 [] (m_X0_exists C.wok h) cv_RX6_85 rk_X6_together_X0_exists rfl (rc_2 w) rfl (Nat.le_of_ble_eq_true rfl) dX6_together_4 (fun r2 S1 h => ?_)
  refine j_if_ne (tgt := 13) C dX6_together_7 (by decide) (fun c3 => ?_) (fun c3 => ?_)
  · have h := And.left h c3
    refine j_iload_n C dX6_together_13 1 rfl rfl ?_
    refine j_aload_n C dX6_together_14 0 rfl rfl ?_
    refine gf_RX6_16_0 C dX6_together_15 ?_
    refine j_callVi (st := [.int x1]) C 2 [] (m_X0_everyone C.wok h) cv_RX6_151 rk_X6_together_X0_everyone rfl (rc_2 w) rfl (Nat.le_of_ble_eq_true rfl) dX6_together_18 (fun r5 S4 h => ?_)
    refine j_iconst C dX6_together_21 (v := (-1)) (by decide) ?_
    refine j_ixor C dX6_together_22 ?_
    refine j_iand C dX6_together_23 ?_
    refine j_if_eq (tgt := 30) C dX6_together_24 (by decide) (fun c6 => ?_) (fun c6 => ?_)
    · have h := And.left h c6
      refine j_aload_n C dX6_together_30 0 rfl rfl ?_
      refine j_callVv (st := []) C 0 [] (m_X6_prepareWeb C.wok h) cv_RX6_140 rk_X6_together_X6_prepareWeb rfl (rc_0 w) rfl (Nat.le_of_ble_eq_true rfl) dX6_together_31 (fun S7 h => ?_)
      refine j_aload_n C dX6_together_34 0 rfl rfl ?_
      refine j_iload_n C dX6_together_35 1 rfl rfl ?_
      refine j_callVi (st := []) C 0 [.int x1] (m_X6_admitted C.wok h) cv_RX6_169 rk_X6_together_X6_admitted rfl (rc_0 w) rfl (Nat.le_of_ble_eq_true rfl) dX6_together_36 (fun r9 S8 h => ?_)
      refine j_iload_n C dX6_together_39 1 rfl rfl ?_
      refine j_icmp_ne (tgt := 47) C dX6_together_40 (by decide) (fun c10 => ?_) (fun c10 => ?_)
      · have h := And.left h c10
        refine j_iconst C dX6_together_47 (v := 0) (by decide) ?_
        exact j_iret C dX6_together_48 h
      · have h := And.right h c10
        refine j_iconst C dX6_together_43 (v := 1) (by decide) ?_
        refine j_goto (tgt := 48) C dX6_together_44 (by decide) ?_
        exact j_iret C dX6_together_48 h
    · have h := And.right h c6
      refine j_bipush C dX6_together_27 (v := (-101)) (by decide) ?_
      exact j_iret C dX6_together_29 h
  · have h := And.right h c3
    refine j_bipush C dX6_together_10 (v := (-103)) (by decide) ?_
    exact j_iret C dX6_together_12 h
def rm_X7_togetherNow : Room := { frames := 4, cells := 0, slots := 0, locals := 89 }
theorem rk_X7_togetherNow_X7_canBe : roomOk rm_X7_canBe rm_X7_togetherNow 4 := ⟨⟨rfl, rfl⟩, Nat.le_of_ble_eq_true rfl, Nat.le_of_ble_eq_true rfl⟩
theorem rk_X7_togetherNow_X7_lay : roomOk rm_X7_lay rm_X7_togetherNow 2 := ⟨⟨rfl, rfl⟩, Nat.le_of_ble_eq_true rfl, Nat.le_of_ble_eq_true rfl⟩
set_option maxRecDepth 20000 in
theorem m_X7_togetherNow {l : Launch} {w : Wt} (hw : WOK w) {x1 : Int32} {S : St} {Q0 : Int32 → St → Prop} (h : p_X7_togetherNow x1 S Q0) : MI l w yX7_togetherNow cX7_togetherNow 2 .int rm_X7_togetherNow [rr w 25, .int x1] S Q0 := by
  refine m_MI (own := RX7) (lv := [(0, rr w 25), (1, .int x1)]) hw (by decide) rfl (Nat.le_of_ble_eq_true rfl) rfl (fun X C => ?_)
  refine j_aload_n C dX7_togetherNow_0 0 rfl rfl ?_
  refine j_callVv (st := []) C 25 [] (m_X7_lay C.wok h) cv_RX7_187 rk_X7_togetherNow_X7_lay rfl (rc_25 w) rfl (Nat.le_of_ble_eq_true rfl) dX7_togetherNow_1 (fun S1 h => ?_)
  refine j_aload_n C dX7_togetherNow_4 0 rfl rfl ?_
  refine j_iload_n C dX7_togetherNow_5 1 rfl rfl ?_
  refine j_callVi (st := []) C 25 [.int x1] (m_X7_canBe C.wok h) cv_RX7_172 rk_X7_togetherNow_X7_canBe rfl (rc_25 w) rfl (Nat.le_of_ble_eq_true rfl) dX7_togetherNow_6 (fun r3 S2 h => ?_)
  refine j_if_eq (tgt := 16) C dX7_togetherNow_9 (by decide) (fun c4 => ?_) (fun c4 => ?_)
  · have h := And.left h c4
    refine j_iconst C dX7_togetherNow_16 (v := 0) (by decide) ?_
    exact j_iret C dX7_togetherNow_17 h
  · have h := And.right h c4
    refine j_iconst C dX7_togetherNow_12 (v := 1) (by decide) ?_
    refine j_goto (tgt := 17) C dX7_togetherNow_13 (by decide) ?_
    exact j_iret C dX7_togetherNow_17 h
def rm_X7_together : Room := { frames := 5, cells := 0, slots := 0, locals := 110 }
theorem rk_X7_together_X7_isCircle : roomOk rm_X7_isCircle rm_X7_together 1 := ⟨⟨rfl, rfl⟩, Nat.le_of_ble_eq_true rfl, Nat.le_of_ble_eq_true rfl⟩
theorem rk_X7_together_X7_togetherNow : roomOk rm_X7_togetherNow rm_X7_together 2 := ⟨⟨rfl, rfl⟩, Nat.le_of_ble_eq_true rfl, Nat.le_of_ble_eq_true rfl⟩
set_option maxRecDepth 20000 in
theorem t_X7_together_24 {X : Mx} {w : Wt} {l0 : Launch} {Q0 : Int32 → St → Prop} (C : Cx X w l0 cX7_together 2 RX7 rm_X7_together (some .int)) {S : St} (h : p_X7_together_24 Q0 S) : J X w (QI X w Q0) 24 [] [] S := by
  refine j_bipush C dX7_together_24 (v := (-101)) (by decide) ?_
  refine j_goto (tgt := 34) C dX7_together_26 (by decide) ?_
  exact j_iret C dX7_together_34 h
set_option maxRecDepth 20000 in
theorem m_X7_together {l : Launch} {w : Wt} (hw : WOK w) {x1 : Int32} {S : St} {Q0 : Int32 → St → Prop} (h : p_X7_together x1 S Q0) : MI l w yX7_together cX7_together 2 .int rm_X7_together [rr w 25, .int x1] S Q0 := by
  refine m_MI (own := RX7) (lv := [(0, rr w 25), (1, .int x1)]) hw (by decide) rfl (Nat.le_of_ble_eq_true rfl) rfl (fun X C => ?_)
  refine j_aload_n C dX7_together_0 0 rfl rfl ?_
  refine j_callVi (st := []) C 25 [] (m_X7_isCircle C.wok h) cv_RX7_139 rk_X7_together_X7_isCircle rfl (rc_25 w) rfl (Nat.le_of_ble_eq_true rfl) dX7_together_1 (fun r2 S1 h => ?_)
  refine j_if_ne (tgt := 10) C dX7_together_4 (by decide) (fun c3 => ?_) (fun c3 => ?_)
  · have h := And.left h c3
    refine j_iload_n C dX7_together_10 1 rfl rfl ?_
    refine j_if_lt (tgt := 24) C dX7_together_11 (by decide) (fun c4 => ?_) (fun c4 => ?_)
    · have h := And.left h c4
      refine j_sub [] rfl ?_
      exact t_X7_together_24 C h
    · have h := And.right h c4
      refine j_iload_n C dX7_together_14 1 rfl rfl ?_
      refine j_iconst C dX7_together_15 (v := 1) (by decide) ?_
      refine j_aload_n C dX7_together_16 0 rfl rfl ?_
      refine gf_RX7_111_25 C dX7_together_17 ?_
      refine j_ishl C dX7_together_20 ?_
      refine j_icmp_lt (tgt := 29) C dX7_together_21 (by decide) (fun c5 => ?_) (fun c5 => ?_)
      · have h := And.left h c5
        refine j_aload_n C dX7_together_29 0 rfl rfl ?_
        refine j_iload_n C dX7_together_30 1 rfl rfl ?_
        refine j_callVi (st := []) C 25 [.int x1] (m_X7_togetherNow C.wok h) cv_RX7_218 rk_X7_together_X7_togetherNow rfl (rc_25 w) rfl (Nat.le_of_ble_eq_true rfl) dX7_together_31 (fun r7 S6 h => ?_)
        exact j_iret C dX7_together_34 h
      · have h := And.right h c5
        refine j_sub [] rfl ?_
        exact t_X7_together_24 C h
  · have h := And.right h c3
    refine j_bipush C dX7_together_7 (v := (-103)) (by decide) ?_
    exact j_iret C dX7_together_9 h
def rm_X1_reached : Room := { frames := 2, cells := 0, slots := 0, locals := 47 }
theorem rk_X1_reached_X1_search : roomOk rm_X1_search rm_X1_reached 4 := ⟨⟨rfl, rfl⟩, Nat.le_of_ble_eq_true rfl, Nat.le_of_ble_eq_true rfl⟩
set_option maxRecDepth 20000 in
theorem m_X1_reached {l : Launch} {w : Wt} (hw : WOK w) {S : St} {Q0 : Int32 → St → Prop} (h : p_X1_reached S Q0) : MI l w yX1_reached cX1_reached 1 .int rm_X1_reached [rr w 13] S Q0 := by
  refine m_MI (own := RX1) (lv := [(0, rr w 13)]) hw (by decide) rfl (Nat.le_of_ble_eq_true rfl) rfl (fun X C => ?_)
  refine j_aload_n C dX1_reached_0 0 rfl rfl ?_
  refine j_bipush C dX1_reached_1 (v := (-2)) (by decide) ?_
  refine j_callVv (st := []) C 13 [.int (-2)] (m_X1_search C.wok h) cv_RX1_37 rk_X1_reached_X1_search rfl (rc_13 w) rfl (Nat.le_of_ble_eq_true rfl) dX1_reached_3 (fun S1 h => ?_)
  refine j_aload_n C dX1_reached_6 0 rfl rfl ?_
  refine gf_RX1_41_13 C dX1_reached_7 ?_
  refine j_bipush C dX1_reached_10 (v := 9) (by decide) ?_
  refine j_ishr C dX1_reached_12 ?_
  exact j_iret C dX1_reached_13 h
def rm_X6_cut : Room := { frames := 4, cells := 0, slots := 0, locals := 93 }
theorem rk_X6_cut_J6_bitCount_0f7a4 : roomOk rm_J6_bitCount_0f7a4 rm_X6_cut 1 := ⟨⟨rfl, rfl⟩, Nat.le_of_ble_eq_true rfl, Nat.le_of_ble_eq_true rfl⟩
theorem rk_X6_cut_X0_exists : roomOk rm_X0_exists rm_X6_cut 1 := ⟨⟨rfl, rfl⟩, Nat.le_of_ble_eq_true rfl, Nat.le_of_ble_eq_true rfl⟩
theorem rk_X6_cut_X0_ofKind : roomOk rm_X0_ofKind rm_X6_cut 4 := ⟨⟨rfl, rfl⟩, Nat.le_of_ble_eq_true rfl, Nat.le_of_ble_eq_true rfl⟩
theorem rk_X6_cut_X1_reached : roomOk rm_X1_reached rm_X6_cut 1 := ⟨⟨rfl, rfl⟩, Nat.le_of_ble_eq_true rfl, Nat.le_of_ble_eq_true rfl⟩
theorem rk_X6_cut_X4_limitsOf : roomOk rm_X4_limitsOf rm_X6_cut 4 := ⟨⟨rfl, rfl⟩, Nat.le_of_ble_eq_true rfl, Nat.le_of_ble_eq_true rfl⟩
theorem rk_X6_cut_X4_vouchedBy : roomOk rm_X4_vouchedBy rm_X6_cut 4 := ⟨⟨rfl, rfl⟩, Nat.le_of_ble_eq_true rfl, Nat.le_of_ble_eq_true rfl⟩
theorem rk_X6_cut_X6_admitted : roomOk rm_X6_admitted rm_X6_cut 4 := ⟨⟨rfl, rfl⟩, Nat.le_of_ble_eq_true rfl, Nat.le_of_ble_eq_true rfl⟩
theorem rk_X6_cut_X6_prepareWeb : roomOk rm_X6_prepareWeb rm_X6_cut 1 := ⟨⟨rfl, rfl⟩, Nat.le_of_ble_eq_true rfl, Nat.le_of_ble_eq_true rfl⟩
set_option maxRecDepth 20000 in
theorem m_X6_cut {l : Launch} {w : Wt} (hw : WOK w) {x1 : Int32} {S : St} {Q0 : Int32 → St → Prop} (h : p_X6_cut x1 S Q0) : MI l w yX6_cut cX6_cut 5 .int rm_X6_cut [rr w 0, .int x1] S Q0 := by
  refine m_MI (own := RX6) (lv := [(0, rr w 0), (1, .int x1)]) hw (by decide) rfl (Nat.le_of_ble_eq_true rfl) rfl (fun X C => ?_)
  refine j_iload_n C dX6_cut_0 1 rfl rfl ?_
  refine j_if_lt (tgt := 9) C dX6_cut_1 (by decide) (fun c1 => ?_) (fun c1 => ?_)
  · have h := And.left h c1
    refine j_bipush C dX6_cut_9 (v := (-102)) (by decide) ?_
    exact j_iret C dX6_cut_11 h
  · have h := And.right h c1
    refine j_iload_n C dX6_cut_4 1 rfl rfl ?_
    refine j_iconst C dX6_cut_5 (v := 2) (by decide) ?_
    refine j_icmp_le (tgt := 12) C dX6_cut_6 (by decide) (fun c2 => ?_) (fun c2 => ?_)
    · have h := And.left h c2
      refine j_aload_n C dX6_cut_12 0 rfl rfl ?_
      refine gf_RX6_16_0 C dX6_cut_13 ?_
      refine j_callVi (st := []) C 2 [] (m_X0_exists C.wok h) cv_RX6_85 rk_X6_cut_X0_exists rfl (rc_2 w) rfl (Nat.le_of_ble_eq_true rfl) dX6_cut_16 (fun r4 S3 h => ?_)
      refine j_if_ne (tgt := 25) C dX6_cut_19 (by decide) (fun c5 => ?_) (fun c5 => ?_)
      · have h := And.left h c5
        refine j_aload_n C dX6_cut_25 0 rfl rfl ?_
        refine gf_RX6_16_0 C dX6_cut_26 ?_
        refine j_iconst C dX6_cut_29 (v := 2) (by decide) ?_
        refine j_callVi (st := []) C 2 [.int 2] (m_X0_ofKind C.wok h) cv_RX6_106 rk_X6_cut_X0_ofKind rfl (rc_2 w) rfl (Nat.le_of_ble_eq_true rfl) dX6_cut_30 (fun r7 S6 h => ?_)
        refine j_istore_n (lv' := [(2, .int r7), (0, rr w 0), (1, .int x1)]) C dX6_cut_33 rfl (by decide) rfl ?_
        refine j_aload_n C dX6_cut_34 1 rfl rfl ?_
        refine j_callVv (st := []) C 0 [] (m_X6_prepareWeb C.wok h) cv_RX6_140 rk_X6_cut_X6_prepareWeb rfl (rc_0 w) rfl (Nat.le_of_ble_eq_true rfl) dX6_cut_35 (fun S8 h => ?_)
        refine j_aload_n C dX6_cut_38 1 rfl rfl ?_
        refine j_iload_n C dX6_cut_39 0 rfl rfl ?_
        refine j_callVi (st := []) C 0 [.int r7] (m_X6_admitted C.wok h) cv_RX6_169 rk_X6_cut_X6_admitted rfl (rc_0 w) rfl (Nat.le_of_ble_eq_true rfl) dX6_cut_40 (fun r10 S9 h => ?_)
        refine j_pop C dX6_cut_43 rfl ?_
        refine j_aload_n C dX6_cut_44 1 rfl rfl ?_
        refine gf_RX6_37_0 C dX6_cut_45 ?_
        refine j_callVi (st := []) C 13 [] (m_X1_reached C.wok h) cv_RX6_189 rk_X6_cut_X1_reached rfl (rc_13 w) rfl (Nat.le_of_ble_eq_true rfl) dX6_cut_48 (fun r12 S11 h => ?_)
        refine j_istore_n (lv' := [(3, .int r12), (2, .int r7), (0, rr w 0), (1, .int x1)]) C dX6_cut_51 rfl (by decide) rfl ?_
        refine j_aload_n C dX6_cut_52 2 rfl rfl ?_
        refine gf_RX6_45_0 C dX6_cut_53 ?_
        refine gf_RX6_192_14 C dX6_cut_56 ?_
        refine j_aload_n C dX6_cut_59 2 rfl rfl ?_
        refine gf_RX6_45_0 C dX6_cut_60 ?_
        refine j_iload_n C dX6_cut_63 0 rfl rfl ?_
        refine j_callVi (st := [.int (S11.1 14 1)]) C 14 [.int r12] (m_X4_vouchedBy C.wok h) cv_RX6_195 rk_X6_cut_X4_vouchedBy rfl (rc_14 w) rfl (Nat.le_of_ble_eq_true rfl) dX6_cut_64 (fun r14 S13 h => ?_)
        refine j_ior C dX6_cut_67 ?_
        refine j_iload_n C dX6_cut_68 0 rfl rfl ?_
        refine j_iconst C dX6_cut_69 (v := (-1)) (by decide) ?_
        refine j_ixor C dX6_cut_70 ?_
        refine j_iand C dX6_cut_71 ?_
        refine j_istore (lv' := [(4, .int (((S11.1 14 1) ||| r14) &&& (r12 ^^^ (-1)))), (3, .int r12), (2, .int r7), (0, rr w 0), (1, .int x1)]) C dX6_cut_72 (by decide) rfl ?_
        refine j_iload_n C dX6_cut_74 4 rfl rfl ?_
        by_cases c15 : x1 = 0
        · have h := And.left h c15
          refine j_lookup (tgt := 100) (off := 25) C dX6_cut_75 (by decide) (by rw [c15]; decide) (by decide) ?_
          refine j_aload_n C dX6_cut_100 3 rfl rfl ?_
          refine gf_RX6_45_0 C dX6_cut_101 ?_
          refine j_iload C dX6_cut_104 0 rfl ?_
          refine j_callVi (st := []) C 14 [.int (((S11.1 14 1) ||| r14) &&& (r12 ^^^ (-1)))] (m_X4_limitsOf C.wok h) cv_RX6_154 rk_X6_cut_X4_limitsOf rfl (rc_14 w) rfl (Nat.le_of_ble_eq_true rfl) dX6_cut_106 (fun r17 S16 h => ?_)
          refine j_iload_n C dX6_cut_109 1 rfl rfl ?_
          refine j_iload_n C dX6_cut_110 2 rfl rfl ?_
          refine j_iand C dX6_cut_111 ?_
          refine j_callSi (st := [.int r17]) C [.int (r12 &&& r7)] (m_J6_bitCount_0f7a4 C.wok h) cv_RX6_110 rk_X6_cut_J6_bitCount_0f7a4 rfl rfl (Nat.le_of_ble_eq_true rfl) dX6_cut_112 (fun r19 S18 h => ?_)
          refine j_iadd C dX6_cut_115 ?_
          exact j_iret C dX6_cut_116 h
        · have h := And.right h c15
          by_cases c20 : x1 = 1
          · have h := And.left h c20
            refine j_lookup (tgt := 117) (off := 42) C dX6_cut_75 (by decide) (by rw [c20]; decide) (by decide) ?_
            refine j_iload C dX6_cut_117 0 rfl ?_
            exact j_iret C dX6_cut_119 h
          · have h := And.right h c20
            refine j_lookup (tgt := 120) (off := 45) C dX6_cut_75 (by decide) (by show Op.lookupswitch.offset [(0, 25), (1, 42)] 45 _ = _; rw [lv_osw c15 (by decide), lv_osw c20 (by decide)]; rfl) (by decide) ?_
            refine j_iload_n C dX6_cut_120 1 rfl rfl ?_
            exact j_iret C dX6_cut_121 h
      · have h := And.right h c5
        refine j_bipush C dX6_cut_22 (v := (-103)) (by decide) ?_
        exact j_iret C dX6_cut_24 h
    · have h := And.right h c2
      refine j_bipush C dX6_cut_9 (v := (-102)) (by decide) ?_
      exact j_iret C dX6_cut_11 h
