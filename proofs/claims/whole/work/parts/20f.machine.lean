def rm_X3_thousandPart : Room := { frames := 0, cells := 0, slots := 0, locals := 0 }
set_option maxRecDepth 20000 in
theorem m_X3_thousandPart {l : Launch} {w : Wt} (hw : WOK w) {x1 : Int32} {S : St} {Q0 : Int32 → St → Prop} (h : p_X3_thousandPart x1 S Q0) : MI l w yX3_thousandPart cX3_thousandPart 2 .int rm_X3_thousandPart [rr w 22, .int x1] S Q0 := by
  refine m_MI (own := RX3) (lv := [(0, rr w 22), (1, .int x1)]) hw (by decide) rfl (Nat.le_of_ble_eq_true rfl) rfl (fun X C => ?_)
  refine j_aload_n C dX3_thousandPart_0 0 rfl rfl ?_
  refine gf_RX3_31_22 C dX3_thousandPart_1 ?_
  refine j_lconst C dX3_thousandPart_4 (v := 0) (by decide) ?_
  refine j_lcmp C dX3_thousandPart_5 ?_
  refine j_if_ne (tgt := 13) C dX3_thousandPart_6 (by decide) (fun c1 => ?_) (fun c1 => ?_)
  · have h := And.left h c1
    refine j_ldc2 C dX3_thousandPart_13 k_660 ?_
    refine j_aload_n C dX3_thousandPart_16 0 rfl rfl ?_
    refine gf_RX3_9_22 C dX3_thousandPart_17 ?_
    refine j_iload_n C dX3_thousandPart_20 1 rfl rfl ?_
    refine al_23 C dX3_thousandPart_21 (And.left h) ?_
    have h := And.right h
    refine j_lmul C dX3_thousandPart_22 ?_
    refine j_aload_n C dX3_thousandPart_23 0 rfl rfl ?_
    refine gf_RX3_31_22 C dX3_thousandPart_24 ?_
    refine j_ldiv C dX3_thousandPart_27 (And.left h) ?_
    have h := And.right h
    refine j_l2i C dX3_thousandPart_28 ?_
    exact j_iret C dX3_thousandPart_29 h
  · have h := And.right h c1
    refine j_iconst C dX3_thousandPart_9 (v := 0) (by decide) ?_
    refine j_goto (tgt := 29) C dX3_thousandPart_10 (by decide) ?_
    exact j_iret C dX3_thousandPart_29 h
def rm_X6_thousandths : Room := { frames := 4, cells := 0, slots := 0, locals := 95 }
theorem rk_X6_thousandths_X0_has : roomOk rm_X0_has rm_X6_thousandths 2 := ⟨⟨rfl, rfl⟩, Nat.le_of_ble_eq_true rfl, Nat.le_of_ble_eq_true rfl⟩
theorem rk_X6_thousandths_X0_ofKind : roomOk rm_X0_ofKind rm_X6_thousandths 4 := ⟨⟨rfl, rfl⟩, Nat.le_of_ble_eq_true rfl, Nat.le_of_ble_eq_true rfl⟩
theorem rk_X6_thousandths_X3_go : roomOk rm_X3_go rm_X6_thousandths 5 := ⟨⟨rfl, rfl⟩, Nat.le_of_ble_eq_true rfl, Nat.le_of_ble_eq_true rfl⟩
theorem rk_X6_thousandths_X3_thousandPart : roomOk rm_X3_thousandPart rm_X6_thousandths 2 := ⟨⟨rfl, rfl⟩, Nat.le_of_ble_eq_true rfl, Nat.le_of_ble_eq_true rfl⟩
theorem rk_X6_thousandths_X6_isStepCount : roomOk rm_X6_isStepCount rm_X6_thousandths 1 := ⟨⟨rfl, rfl⟩, Nat.le_of_ble_eq_true rfl, Nat.le_of_ble_eq_true rfl⟩
set_option maxRecDepth 20000 in
theorem m_X6_thousandths {l : Launch} {w : Wt} (hw : WOK w) {x1 : Int32} {x2 : Int32} {S : St} {Q0 : Int32 → St → Prop} (h : p_X6_thousandths x1 x2 S Q0) : MI l w yX6_thousandths cX6_thousandths 3 .int rm_X6_thousandths [rr w 0, .int x1, .int x2] S Q0 := by
  refine m_MI (own := RX6) (lv := [(0, rr w 0), (1, .int x1), (2, .int x2)]) hw (by decide) rfl (Nat.le_of_ble_eq_true rfl) rfl (fun X C => ?_)
  refine j_aload_n C dX6_thousandths_0 0 rfl rfl ?_
  refine gf_RX6_16_0 C dX6_thousandths_1 ?_
  refine j_iload_n C dX6_thousandths_4 1 rfl rfl ?_
  refine j_callVi (st := []) C 2 [.int x1] (m_X0_has C.wok h) cv_RX6_97 rk_X6_thousandths_X0_has rfl (rc_2 w) rfl (Nat.le_of_ble_eq_true rfl) dX6_thousandths_5 (fun r2 S1 h => ?_)
  refine j_if_ne (tgt := 14) C dX6_thousandths_8 (by decide) (fun c3 => ?_) (fun c3 => ?_)
  · have h := And.left h c3
    refine j_iload_n C dX6_thousandths_14 2 rfl rfl ?_
    refine j_callSi (st := []) C [.int x2] (m_X6_isStepCount C.wok h) cv_RX6_205 rk_X6_thousandths_X6_isStepCount rfl rfl (Nat.le_of_ble_eq_true rfl) dX6_thousandths_15 (fun r5 S4 h => ?_)
    refine j_if_ne (tgt := 24) C dX6_thousandths_18 (by decide) (fun c6 => ?_) (fun c6 => ?_)
    · have h := And.left h c6
      refine j_aload_n C dX6_thousandths_24 0 rfl rfl ?_
      refine gf_RX6_16_0 C dX6_thousandths_25 ?_
      refine j_iconst C dX6_thousandths_28 (v := 1) (by decide) ?_
      refine j_callVi (st := []) C 2 [.int 1] (m_X0_ofKind C.wok h) cv_RX6_106 rk_X6_thousandths_X0_ofKind rfl (rc_2 w) rfl (Nat.le_of_ble_eq_true rfl) dX6_thousandths_29 (fun r8 S7 h => ?_)
      refine j_if_ne (tgt := 38) C dX6_thousandths_32 (by decide) (fun c9 => ?_) (fun c9 => ?_)
      · have h := And.left h c9
        refine j_aload_n C dX6_thousandths_38 0 rfl rfl ?_
        refine gf_RX6_49_0 C dX6_thousandths_39 ?_
        refine j_aload_n C dX6_thousandths_42 0 rfl rfl ?_
        refine gf_RX6_16_0 C dX6_thousandths_43 ?_
        refine j_iload_n C dX6_thousandths_46 2 rfl rfl ?_
        refine j_callVv (st := []) C 22 [rr w 2, .int x2] (m_X3_go C.wok h) cv_RX6_208 rk_X6_thousandths_X3_go rfl (rc_22 w) rfl (Nat.le_of_ble_eq_true rfl) dX6_thousandths_47 (fun S10 h => ?_)
        refine j_aload_n C dX6_thousandths_50 0 rfl rfl ?_
        refine gf_RX6_49_0 C dX6_thousandths_51 ?_
        refine j_iload_n C dX6_thousandths_54 1 rfl rfl ?_
        refine j_callVi (st := []) C 22 [.int x1] (m_X3_thousandPart C.wok h) cv_RX6_218 rk_X6_thousandths_X3_thousandPart rfl (rc_22 w) rfl (Nat.le_of_ble_eq_true rfl) dX6_thousandths_55 (fun r12 S11 h => ?_)
        exact j_iret C dX6_thousandths_58 h
      · have h := And.right h c9
        refine j_bipush C dX6_thousandths_35 (v := (-103)) (by decide) ?_
        exact j_iret C dX6_thousandths_37 h
    · have h := And.right h c6
      refine j_bipush C dX6_thousandths_21 (v := (-102)) (by decide) ?_
      exact j_iret C dX6_thousandths_23 h
  · have h := And.right h c3
    refine j_bipush C dX6_thousandths_11 (v := (-101)) (by decide) ?_
    exact j_iret C dX6_thousandths_13 h
def rm_X7_thousandthsNow : Room := { frames := 3, cells := 0, slots := 0, locals := 70 }
theorem rk_X7_thousandthsNow_X7_layChances : roomOk rm_X7_layChances rm_X7_thousandthsNow 6 := ⟨⟨rfl, rfl⟩, Nat.le_of_ble_eq_true rfl, Nat.le_of_ble_eq_true rfl⟩
set_option maxRecDepth 20000 in
theorem m_X7_thousandthsNow {l : Launch} {w : Wt} (hw : WOK w) {x1 : Int32} {x2 : Int32} {S : St} {Q0 : Int32 → St → Prop} (h : p_X7_thousandthsNow x1 x2 S Q0) : MI l w yX7_thousandthsNow cX7_thousandthsNow 3 .int rm_X7_thousandthsNow [rr w 25, .int x1, .int x2] S Q0 := by
  refine m_MI (own := RX7) (lv := [(0, rr w 25), (1, .int x1), (2, .int x2)]) hw (by decide) rfl (Nat.le_of_ble_eq_true rfl) rfl (fun X C => ?_)
  refine j_aload_n C dX7_thousandthsNow_0 0 rfl rfl ?_
  refine j_iload_n C dX7_thousandthsNow_1 2 rfl rfl ?_
  refine j_callVv (st := []) C 25 [.int x2] (m_X7_layChances C.wok h) cv_RX7_250 rk_X7_thousandthsNow_X7_layChances rfl (rc_25 w) rfl (Nat.le_of_ble_eq_true rfl) dX7_thousandthsNow_2 (fun S1 h => ?_)
  refine j_ldc2 C dX7_thousandthsNow_5 k_1097 ?_
  refine j_aload_n C dX7_thousandthsNow_8 0 rfl rfl ?_
  refine gf_RX7_43_25 C dX7_thousandthsNow_9 ?_
  refine j_iload_n C dX7_thousandthsNow_12 1 rfl rfl ?_
  refine al_37 C dX7_thousandthsNow_13 (And.left h) ?_
  have h := And.right h
  refine j_lmul C dX7_thousandthsNow_14 ?_
  refine j_aload_n C dX7_thousandthsNow_15 0 rfl rfl ?_
  refine gf_RX7_240_25 C dX7_thousandthsNow_16 ?_
  refine j_ldiv C dX7_thousandthsNow_19 (And.left h) ?_
  have h := And.right h
  refine j_l2i C dX7_thousandthsNow_20 ?_
  exact j_iret C dX7_thousandthsNow_21 h
def rm_X7_thousandths : Room := { frames := 4, cells := 0, slots := 0, locals := 92 }
theorem rk_X7_thousandths_X7_areSeeds : roomOk rm_X7_areSeeds rm_X7_thousandths 1 := ⟨⟨rfl, rfl⟩, Nat.le_of_ble_eq_true rfl, Nat.le_of_ble_eq_true rfl⟩
theorem rk_X7_thousandths_X7_isPerson : roomOk rm_X7_isPerson rm_X7_thousandths 2 := ⟨⟨rfl, rfl⟩, Nat.le_of_ble_eq_true rfl, Nat.le_of_ble_eq_true rfl⟩
theorem rk_X7_thousandths_X7_thousandthsNow : roomOk rm_X7_thousandthsNow rm_X7_thousandths 3 := ⟨⟨rfl, rfl⟩, Nat.le_of_ble_eq_true rfl, Nat.le_of_ble_eq_true rfl⟩
theorem rk_X7_thousandths_X7_within : roomOk rm_X7_within rm_X7_thousandths 3 := ⟨⟨rfl, rfl⟩, Nat.le_of_ble_eq_true rfl, Nat.le_of_ble_eq_true rfl⟩
set_option maxRecDepth 20000 in
theorem m_X7_thousandths {l : Launch} {w : Wt} (hw : WOK w) {x1 : Int32} {x2 : Int32} {S : St} {Q0 : Int32 → St → Prop} (h : p_X7_thousandths x1 x2 S Q0) : MI l w yX7_thousandths cX7_thousandths 3 .int rm_X7_thousandths [rr w 25, .int x1, .int x2] S Q0 := by
  refine m_MI (own := RX7) (lv := [(0, rr w 25), (1, .int x1), (2, .int x2)]) hw (by decide) rfl (Nat.le_of_ble_eq_true rfl) rfl (fun X C => ?_)
  refine j_aload_n C dX7_thousandths_0 0 rfl rfl ?_
  refine j_iload_n C dX7_thousandths_1 1 rfl rfl ?_
  refine j_callVi (st := []) C 25 [.int x1] (m_X7_isPerson C.wok h) cv_RX7_145 rk_X7_thousandths_X7_isPerson rfl (rc_25 w) rfl (Nat.le_of_ble_eq_true rfl) dX7_thousandths_2 (fun r2 S1 h => ?_)
  refine j_if_ne (tgt := 11) C dX7_thousandths_5 (by decide) (fun c3 => ?_) (fun c3 => ?_)
  · have h := And.left h c3
    refine j_iload_n C dX7_thousandths_11 2 rfl rfl ?_
    refine j_iconst C dX7_thousandths_12 (v := 0) (by decide) ?_
    refine j_iconst C dX7_thousandths_13 (v := 4) (by decide) ?_
    refine j_callSi (st := []) C [.int x2, .int 0, .int 4] (m_X7_within C.wok h) cv_RX7_50 rk_X7_thousandths_X7_within rfl rfl (Nat.le_of_ble_eq_true rfl) dX7_thousandths_14 (fun r5 S4 h => ?_)
    refine j_if_ne (tgt := 23) C dX7_thousandths_17 (by decide) (fun c6 => ?_) (fun c6 => ?_)
    · have h := And.left h c6
      refine j_aload_n C dX7_thousandths_23 0 rfl rfl ?_
      refine j_callVi (st := []) C 25 [] (m_X7_areSeeds C.wok h) cv_RX7_257 rk_X7_thousandths_X7_areSeeds rfl (rc_25 w) rfl (Nat.le_of_ble_eq_true rfl) dX7_thousandths_24 (fun r8 S7 h => ?_)
      refine j_if_eq (tgt := 39) C dX7_thousandths_27 (by decide) (fun c9 => ?_) (fun c9 => ?_)
      · have h := And.left h c9
        refine j_bipush C dX7_thousandths_39 (v := (-103)) (by decide) ?_
        exact j_iret C dX7_thousandths_41 h
      · have h := And.right h c9
        refine j_aload_n C dX7_thousandths_30 0 rfl rfl ?_
        refine j_iload_n C dX7_thousandths_31 1 rfl rfl ?_
        refine j_iload_n C dX7_thousandths_32 2 rfl rfl ?_
        refine j_callVi (st := []) C 25 [.int x1, .int x2] (m_X7_thousandthsNow C.wok h) cv_RX7_265 rk_X7_thousandths_X7_thousandthsNow rfl (rc_25 w) rfl (Nat.le_of_ble_eq_true rfl) dX7_thousandths_33 (fun r11 S10 h => ?_)
        refine j_goto (tgt := 41) C dX7_thousandths_36 (by decide) ?_
        exact j_iret C dX7_thousandths_41 h
    · have h := And.right h c6
      refine j_bipush C dX7_thousandths_20 (v := (-102)) (by decide) ?_
      exact j_iret C dX7_thousandths_22 h
  · have h := And.right h c3
    refine j_bipush C dX7_thousandths_8 (v := (-101)) (by decide) ?_
    exact j_iret C dX7_thousandths_10 h
def rm_X3_comingBefore : Room := { frames := 0, cells := 0, slots := 0, locals := 0 }
set_option maxRecDepth 20000 in
theorem t_X3_comingBefore_52 {X : Mx} {w : Wt} {l0 : Launch} {Q0 : Int32 → St → Prop} {K4 : Int32 × Int32 × Int32 × St → Prop} (C : Cx X w l0 cX3_comingBefore 4 RX3 rm_X3_comingBefore (some .int)) (hK4 : ∀ (x1 : Int32) (x2 : Int32) (x3 : Int32) (S : St), K4 (x1, x2, x3, S) → J X w (QI X w Q0) 4 [(0, rr w 22), (1, .int x1), (2, .int x2), (3, .int x3)] [] S) {x1 : Int32} {x2 : Int32} {x3 : Int32} {S : St} (h : p_X3_comingBefore_52 Q0 K4 x1 x2 x3 S) : J X w (QI X w Q0) 52 [(0, rr w 22), (1, .int x1), (2, .int x2), (3, .int x3)] [] S := by
  refine j_iinc (lv' := [(3, .int (x3 + 1)), (0, rr w 22), (1, .int x1), (2, .int x2)]) C dX3_comingBefore_52 3 rfl rfl (by decide) rfl ?_
  refine j_goto (tgt := 4) C dX3_comingBefore_55 (by decide) ?_
  refine j_sub [1, 2, 3, 0] rfl ?_
  exact hK4 _ _ _ _ h
set_option maxRecDepth 20000 in
theorem t_X3_comingBefore_49 {X : Mx} {w : Wt} {l0 : Launch} {Q0 : Int32 → St → Prop} {K4 : Int32 × Int32 × Int32 × St → Prop} (C : Cx X w l0 cX3_comingBefore 4 RX3 rm_X3_comingBefore (some .int)) (hK4 : ∀ (x1 : Int32) (x2 : Int32) (x3 : Int32) (S : St), K4 (x1, x2, x3, S) → J X w (QI X w Q0) 4 [(0, rr w 22), (1, .int x1), (2, .int x2), (3, .int x3)] [] S) {x1 : Int32} {x2 : Int32} {x3 : Int32} {S : St} (h : p_X3_comingBefore_49 Q0 K4 x1 x2 x3 S) : J X w (QI X w Q0) 49 [(0, rr w 22), (1, .int x1), (2, .int x2), (3, .int x3)] [] S := by
  refine j_iinc (lv' := [(2, .int (x2 + 1)), (0, rr w 22), (1, .int x1), (3, .int x3)]) C dX3_comingBefore_49 2 rfl rfl (by decide) rfl ?_
  refine j_sub [1, 2, 0, 3] rfl ?_
  exact t_X3_comingBefore_52 C hK4 h
set_option maxRecDepth 20000 in
theorem t_X3_comingBefore_4 {X : Mx} {w : Wt} {l0 : Launch} {Q0 : Int32 → St → Prop} (C : Cx X w l0 cX3_comingBefore 4 RX3 rm_X3_comingBefore (some .int)) {x1 : Int32} {x2 : Int32} {x3 : Int32} {S : St} (h : Lq (p_X3_comingBefore_4 Q0) (x1, x2, x3, S)) : J X w (QI X w Q0) 4 [(0, rr w 22), (1, .int x1), (2, .int x2), (3, .int x3)] [] S := by
  have key : ∀ a : Int32 × Int32 × Int32 × St, Lq (p_X3_comingBefore_4 Q0) a → J X w (QI X w Q0) 4 [(0, rr w 22), (1, .int a.1), (2, .int a.2.1), (3, .int a.2.2.1)] [] a.2.2.2 := by
    intro a ha
    refine Lq_use (G := fun a => J X w (QI X w Q0) 4 [(0, rr w 22), (1, .int a.1), (2, .int a.2.1), (3, .int a.2.2.1)] [] a.2.2.2) ?_ ha
    intro K4 hK a h
    obtain ⟨x1, x2, x3, S⟩ := a
    have hK4 : ∀ (x1 : Int32) (x2 : Int32) (x3 : Int32) (S : St), K4 (x1, x2, x3, S) → J X w (QI X w Q0) 4 [(0, rr w 22), (1, .int x1), (2, .int x2), (3, .int x3)] [] S := fun x1 x2 x3 S h => hK (x1, x2, x3, S) h
    show J X w (QI X w Q0) 4 [(0, rr w 22), (1, .int x1), (2, .int x2), (3, .int x3)] [] S
    refine j_iload_n C dX3_comingBefore_4 3 rfl rfl ?_
    refine j_aload_n C dX3_comingBefore_5 0 rfl rfl ?_
    refine gf_RX3_28_22 C dX3_comingBefore_6 ?_
    refine j_icmp_ge (tgt := 58) C dX3_comingBefore_9 (by decide) (fun c1 => ?_) (fun c1 => ?_)
    · have h := And.left h c1
      refine j_iload_n C dX3_comingBefore_58 2 rfl rfl ?_
      exact j_iret C dX3_comingBefore_59 h
    · have h := And.right h c1
      refine j_aload_n C dX3_comingBefore_12 0 rfl rfl ?_
      refine gf_RX3_9_22 C dX3_comingBefore_13 ?_
      refine j_iload_n C dX3_comingBefore_16 3 rfl rfl ?_
      refine al_23 C dX3_comingBefore_17 (And.left h) ?_
      have h := And.right h
      refine j_aload_n C dX3_comingBefore_18 0 rfl rfl ?_
      refine gf_RX3_9_22 C dX3_comingBefore_19 ?_
      refine j_iload_n C dX3_comingBefore_22 1 rfl rfl ?_
      refine al_23 C dX3_comingBefore_23 (And.left h) ?_
      have h := And.right h
      refine j_lcmp C dX3_comingBefore_24 ?_
      refine j_if_gt (tgt := 49) C dX3_comingBefore_25 (by decide) (fun c2 => ?_) (fun c2 => ?_)
      · have h := And.left h c2
        exact t_X3_comingBefore_49 C hK4 h
      · have h := And.right h c2
        refine j_aload_n C dX3_comingBefore_28 0 rfl rfl ?_
        refine gf_RX3_9_22 C dX3_comingBefore_29 ?_
        refine j_iload_n C dX3_comingBefore_32 3 rfl rfl ?_
        refine al_23 C dX3_comingBefore_33 (And.left h) ?_
        have h := And.right h
        refine j_aload_n C dX3_comingBefore_34 0 rfl rfl ?_
        refine gf_RX3_9_22 C dX3_comingBefore_35 ?_
        refine j_iload_n C dX3_comingBefore_38 1 rfl rfl ?_
        refine al_23 C dX3_comingBefore_39 (And.left h) ?_
        have h := And.right h
        refine j_lcmp C dX3_comingBefore_40 ?_
        refine j_if_ne (tgt := 52) C dX3_comingBefore_41 (by decide) (fun c3 => ?_) (fun c3 => ?_)
        · have h := And.left h c3
          exact t_X3_comingBefore_52 C hK4 h
        · have h := And.right h c3
          refine j_iload_n C dX3_comingBefore_44 3 rfl rfl ?_
          refine j_iload_n C dX3_comingBefore_45 1 rfl rfl ?_
          refine j_icmp_ge (tgt := 52) C dX3_comingBefore_46 (by decide) (fun c4 => ?_) (fun c4 => ?_)
          · have h := And.left h c4
            exact t_X3_comingBefore_52 C hK4 h
          · have h := And.right h c4
            exact t_X3_comingBefore_49 C hK4 h
  exact key (x1, x2, x3, S) h
set_option maxRecDepth 20000 in
theorem m_X3_comingBefore {l : Launch} {w : Wt} (hw : WOK w) {x1 : Int32} {S : St} {Q0 : Int32 → St → Prop} (h : p_X3_comingBefore x1 S Q0) : MI l w yX3_comingBefore cX3_comingBefore 4 .int rm_X3_comingBefore [rr w 22, .int x1] S Q0 := by
  refine m_MI (own := RX3) (lv := [(0, rr w 22), (1, .int x1)]) hw (by decide) rfl (Nat.le_of_ble_eq_true rfl) rfl (fun X C => ?_)
  refine j_iconst C dX3_comingBefore_0 (v := 0) (by decide) ?_
  refine j_istore_n (lv' := [(2, .int 0), (0, rr w 22), (1, .int x1)]) C dX3_comingBefore_1 rfl (by decide) rfl ?_
  refine j_iconst C dX3_comingBefore_2 (v := 0) (by decide) ?_
  refine j_istore_n (lv' := [(3, .int 0), (2, .int 0), (0, rr w 22), (1, .int x1)]) C dX3_comingBefore_3 rfl (by decide) rfl ?_
  refine j_sub [2, 3, 1, 0] rfl ?_
  exact t_X3_comingBefore_4 C h
def rm_X3_personAt : Room := { frames := 1, cells := 0, slots := 0, locals := 23 }
theorem rk_X3_personAt_X3_comingBefore : roomOk rm_X3_comingBefore rm_X3_personAt 4 := ⟨⟨rfl, rfl⟩, Nat.le_of_ble_eq_true rfl, Nat.le_of_ble_eq_true rfl⟩
set_option maxRecDepth 20000 in
theorem t_X3_personAt_2 {X : Mx} {w : Wt} {l0 : Launch} {Q0 : Int32 → St → Prop} (C : Cx X w l0 cX3_personAt 3 RX3 rm_X3_personAt (some .int)) {x1 : Int32} {x2 : Int32} {S : St} (h : Lq (p_X3_personAt_2 Q0) (x1, x2, S)) : J X w (QI X w Q0) 2 [(0, rr w 22), (1, .int x1), (2, .int x2)] [] S := by
  have key : ∀ a : Int32 × Int32 × St, Lq (p_X3_personAt_2 Q0) a → J X w (QI X w Q0) 2 [(0, rr w 22), (1, .int a.1), (2, .int a.2.1)] [] a.2.2 := by
    intro a ha
    refine Lq_use (G := fun a => J X w (QI X w Q0) 2 [(0, rr w 22), (1, .int a.1), (2, .int a.2.1)] [] a.2.2) ?_ ha
    intro K2 hK a h
    obtain ⟨x1, x2, S⟩ := a
    have hK2 : ∀ (x1 : Int32) (x2 : Int32) (S : St), K2 (x1, x2, S) → J X w (QI X w Q0) 2 [(0, rr w 22), (1, .int x1), (2, .int x2)] [] S := fun x1 x2 S h => hK (x1, x2, S) h
    show J X w (QI X w Q0) 2 [(0, rr w 22), (1, .int x1), (2, .int x2)] [] S
    refine j_iload_n C dX3_personAt_2 2 rfl rfl ?_
    refine j_aload_n C dX3_personAt_3 0 rfl rfl ?_
    refine gf_RX3_28_22 C dX3_personAt_4 ?_
    refine j_icmp_ge (tgt := 27) C dX3_personAt_7 (by decide) (fun c1 => ?_) (fun c1 => ?_)
    · have h := And.left h c1
      refine j_bipush C dX3_personAt_27 (v := (-101)) (by decide) ?_
      exact j_iret C dX3_personAt_29 h
    · have h := And.right h c1
      refine j_aload_n C dX3_personAt_10 0 rfl rfl ?_
      refine j_iload_n C dX3_personAt_11 2 rfl rfl ?_
      refine j_callVi (st := []) C 22 [.int x2] (m_X3_comingBefore C.wok h) cv_RX3_74 rk_X3_personAt_X3_comingBefore rfl (rc_22 w) rfl (Nat.le_of_ble_eq_true rfl) dX3_personAt_12 (fun r3 S2 h => ?_)
      refine j_iload_n C dX3_personAt_15 1 rfl rfl ?_
      refine j_icmp_ne (tgt := 21) C dX3_personAt_16 (by decide) (fun c4 => ?_) (fun c4 => ?_)
      · have h := And.left h c4
        refine j_iinc (lv' := [(2, .int (x2 + 1)), (0, rr w 22), (1, .int x1)]) C dX3_personAt_21 2 rfl rfl (by decide) rfl ?_
        refine j_goto (tgt := 2) C dX3_personAt_24 (by decide) ?_
        refine j_sub [1, 2, 0] rfl ?_
        exact hK2 _ _ _ h
      · have h := And.right h c4
        refine j_iload_n C dX3_personAt_19 2 rfl rfl ?_
        exact j_iret C dX3_personAt_20 h
  exact key (x1, x2, S) h
set_option maxRecDepth 20000 in
theorem m_X3_personAt {l : Launch} {w : Wt} (hw : WOK w) {x1 : Int32} {S : St} {Q0 : Int32 → St → Prop} (h : p_X3_personAt x1 S Q0) : MI l w yX3_personAt cX3_personAt 3 .int rm_X3_personAt [rr w 22, .int x1] S Q0 := by
  refine m_MI (own := RX3) (lv := [(0, rr w 22), (1, .int x1)]) hw (by decide) rfl (Nat.le_of_ble_eq_true rfl) rfl (fun X C => ?_)
  refine j_iconst C dX3_personAt_0 (v := 0) (by decide) ?_
  refine j_istore_n (lv' := [(2, .int 0), (0, rr w 22), (1, .int x1)]) C dX3_personAt_1 rfl (by decide) rfl ?_
  refine j_sub [1, 2, 0] rfl ?_
  exact t_X3_personAt_2 C h
def rm_X6_order : Room := { frames := 4, cells := 0, slots := 0, locals := 95 }
theorem rk_X6_order_X0_has : roomOk rm_X0_has rm_X6_order 2 := ⟨⟨rfl, rfl⟩, Nat.le_of_ble_eq_true rfl, Nat.le_of_ble_eq_true rfl⟩
theorem rk_X6_order_X0_ofKind : roomOk rm_X0_ofKind rm_X6_order 4 := ⟨⟨rfl, rfl⟩, Nat.le_of_ble_eq_true rfl, Nat.le_of_ble_eq_true rfl⟩
theorem rk_X6_order_X3_go : roomOk rm_X3_go rm_X6_order 5 := ⟨⟨rfl, rfl⟩, Nat.le_of_ble_eq_true rfl, Nat.le_of_ble_eq_true rfl⟩
theorem rk_X6_order_X3_personAt : roomOk rm_X3_personAt rm_X6_order 3 := ⟨⟨rfl, rfl⟩, Nat.le_of_ble_eq_true rfl, Nat.le_of_ble_eq_true rfl⟩
theorem rk_X6_order_X6_isStepCount : roomOk rm_X6_isStepCount rm_X6_order 1 := ⟨⟨rfl, rfl⟩, Nat.le_of_ble_eq_true rfl, Nat.le_of_ble_eq_true rfl⟩
set_option maxRecDepth 20000 in
theorem m_X6_order {l : Launch} {w : Wt} (hw : WOK w) {x1 : Int32} {x2 : Int32} {S : St} {Q0 : Int32 → St → Prop} (h : p_X6_order x1 x2 S Q0) : MI l w yX6_order cX6_order 3 .int rm_X6_order [rr w 0, .int x1, .int x2] S Q0 := by
  refine m_MI (own := RX6) (lv := [(0, rr w 0), (1, .int x1), (2, .int x2)]) hw (by decide) rfl (Nat.le_of_ble_eq_true rfl) rfl (fun X C => ?_)
  refine j_iload_n C dX6_order_0 1 rfl rfl ?_
  refine j_callSi (st := []) C [.int x1] (m_X6_isStepCount C.wok h) cv_RX6_205 rk_X6_order_X6_isStepCount rfl rfl (Nat.le_of_ble_eq_true rfl) dX6_order_1 (fun r2 S1 h => ?_)
  refine j_if_ne (tgt := 10) C dX6_order_4 (by decide) (fun c3 => ?_) (fun c3 => ?_)
  · have h := And.left h c3
    refine j_aload_n C dX6_order_10 0 rfl rfl ?_
    refine gf_RX6_16_0 C dX6_order_11 ?_
    refine j_iconst C dX6_order_14 (v := 1) (by decide) ?_
    refine j_callVi (st := []) C 2 [.int 1] (m_X0_ofKind C.wok h) cv_RX6_106 rk_X6_order_X0_ofKind rfl (rc_2 w) rfl (Nat.le_of_ble_eq_true rfl) dX6_order_15 (fun r5 S4 h => ?_)
    refine j_if_ne (tgt := 24) C dX6_order_18 (by decide) (fun c6 => ?_) (fun c6 => ?_)
    · have h := And.left h c6
      refine j_aload_n C dX6_order_24 0 rfl rfl ?_
      refine gf_RX6_16_0 C dX6_order_25 ?_
      refine j_iload_n C dX6_order_28 2 rfl rfl ?_
      refine j_callVi (st := []) C 2 [.int x2] (m_X0_has C.wok h) cv_RX6_97 rk_X6_order_X0_has rfl (rc_2 w) rfl (Nat.le_of_ble_eq_true rfl) dX6_order_29 (fun r8 S7 h => ?_)
      refine j_if_ne (tgt := 38) C dX6_order_32 (by decide) (fun c9 => ?_) (fun c9 => ?_)
      · have h := And.left h c9
        refine j_aload_n C dX6_order_38 0 rfl rfl ?_
        refine gf_RX6_49_0 C dX6_order_39 ?_
        refine j_aload_n C dX6_order_42 0 rfl rfl ?_
        refine gf_RX6_16_0 C dX6_order_43 ?_
        refine j_iload_n C dX6_order_46 1 rfl rfl ?_
        refine j_callVv (st := []) C 22 [rr w 2, .int x1] (m_X3_go C.wok h) cv_RX6_208 rk_X6_order_X3_go rfl (rc_22 w) rfl (Nat.le_of_ble_eq_true rfl) dX6_order_47 (fun S10 h => ?_)
        refine j_aload_n C dX6_order_50 0 rfl rfl ?_
        refine gf_RX6_49_0 C dX6_order_51 ?_
        refine j_iload_n C dX6_order_54 2 rfl rfl ?_
        refine j_callVi (st := []) C 22 [.int x2] (m_X3_personAt C.wok h) cv_RX6_221 rk_X6_order_X3_personAt rfl (rc_22 w) rfl (Nat.le_of_ble_eq_true rfl) dX6_order_55 (fun r12 S11 h => ?_)
        exact j_iret C dX6_order_58 h
      · have h := And.right h c9
        refine j_bipush C dX6_order_35 (v := (-101)) (by decide) ?_
        exact j_iret C dX6_order_37 h
    · have h := And.right h c6
      refine j_bipush C dX6_order_21 (v := (-103)) (by decide) ?_
      exact j_iret C dX6_order_23 h
  · have h := And.right h c3
    refine j_bipush C dX6_order_7 (v := (-102)) (by decide) ?_
    exact j_iret C dX6_order_9 h
def rm_X7_placeOf : Room := { frames := 0, cells := 0, slots := 0, locals := 0 }
set_option maxRecDepth 20000 in
theorem t_X7_placeOf_67 {X : Mx} {w : Wt} {l0 : Launch} {Q0 : Int32 → St → Prop} {K4 : Int32 × Int32 × Int32 × St → Prop} (C : Cx X w l0 cX7_placeOf 5 RX7 rm_X7_placeOf (some .int)) (hK4 : ∀ (x1 : Int32) (x2 : Int32) (x3 : Int32) (S : St), K4 (x1, x2, x3, S) → J X w (QI X w Q0) 4 [(0, rr w 25), (1, .int x1), (2, .int x2), (3, .int x3)] [] S) {x1 : Int32} {x3 : Int32} {t0 : Int32} {t1 : Int32} {S : St} (h : p_X7_placeOf_67 Q0 K4 x1 x3 t0 t1 S) : J X w (QI X w Q0) 67 [(0, rr w 25), (1, .int x1), (3, .int x3)] [.int t0, .int t1] S := by
  refine j_iadd C dX7_placeOf_67 ?_
  refine j_istore_n (lv' := [(2, .int (t1 + t0)), (0, rr w 25), (1, .int x1), (3, .int x3)]) C dX7_placeOf_68 rfl (by decide) rfl ?_
  refine j_iinc (lv' := [(3, .int (x3 + 1)), (2, .int (t1 + t0)), (0, rr w 25), (1, .int x1)]) C dX7_placeOf_69 3 rfl rfl (by decide) rfl ?_
  refine j_goto (tgt := 4) C dX7_placeOf_72 (by decide) ?_
  refine j_sub [2, 3, 1, 0] rfl ?_
  exact hK4 _ _ _ _ h
set_option maxRecDepth 20000 in
theorem t_X7_placeOf_54 {X : Mx} {w : Wt} {l0 : Launch} {Q0 : Int32 → St → Prop} {K4 : Int32 × Int32 × Int32 × St → Prop} (C : Cx X w l0 cX7_placeOf 5 RX7 rm_X7_placeOf (some .int)) (hK4 : ∀ (x1 : Int32) (x2 : Int32) (x3 : Int32) (S : St), K4 (x1, x2, x3, S) → J X w (QI X w Q0) 4 [(0, rr w 25), (1, .int x1), (2, .int x2), (3, .int x3)] [] S) {x1 : Int32} {x2 : Int32} {x3 : Int32} {t0 : Int32} {S : St} (h : p_X7_placeOf_54 Q0 K4 x1 x2 x3 t0 S) : J X w (QI X w Q0) 54 [(0, rr w 25), (1, .int x1), (2, .int x2), (3, .int x3)] [.int t0] S := by
  refine j_istore (lv' := [(4, .int t0), (0, rr w 25), (1, .int x1), (2, .int x2), (3, .int x3)]) C dX7_placeOf_54 (by decide) rfl ?_
  refine j_iload_n C dX7_placeOf_56 3 rfl rfl ?_
  refine j_iload C dX7_placeOf_57 0 rfl ?_
  refine j_if_eq (tgt := 66) C dX7_placeOf_59 (by decide) (fun c3 => ?_) (fun c3 => ?_)
  · have h := And.left h c3
    refine j_iconst C dX7_placeOf_66 (v := 0) (by decide) ?_
    refine j_sub [1, 2, 4] rfl ?_
    exact t_X7_placeOf_67 C hK4 h
  · have h := And.right h c3
    refine j_iconst C dX7_placeOf_62 (v := 1) (by decide) ?_
    refine j_goto (tgt := 67) C dX7_placeOf_63 (by decide) ?_
    refine j_sub [1, 2, 4] rfl ?_
    exact t_X7_placeOf_67 C hK4 h
set_option maxRecDepth 20000 in
theorem t_X7_placeOf_49 {X : Mx} {w : Wt} {l0 : Launch} {Q0 : Int32 → St → Prop} {K4 : Int32 × Int32 × Int32 × St → Prop} (C : Cx X w l0 cX7_placeOf 5 RX7 rm_X7_placeOf (some .int)) (hK4 : ∀ (x1 : Int32) (x2 : Int32) (x3 : Int32) (S : St), K4 (x1, x2, x3, S) → J X w (QI X w Q0) 4 [(0, rr w 25), (1, .int x1), (2, .int x2), (3, .int x3)] [] S) {x1 : Int32} {x2 : Int32} {x3 : Int32} {S : St} (h : p_X7_placeOf_49 Q0 K4 x1 x2 x3 S) : J X w (QI X w Q0) 49 [(0, rr w 25), (1, .int x1), (2, .int x2), (3, .int x3)] [] S := by
  refine j_iconst C dX7_placeOf_49 (v := 1) (by decide) ?_
  refine j_goto (tgt := 54) C dX7_placeOf_50 (by decide) ?_
  exact t_X7_placeOf_54 C hK4 h
set_option maxRecDepth 20000 in
theorem t_X7_placeOf_53 {X : Mx} {w : Wt} {l0 : Launch} {Q0 : Int32 → St → Prop} {K4 : Int32 × Int32 × Int32 × St → Prop} (C : Cx X w l0 cX7_placeOf 5 RX7 rm_X7_placeOf (some .int)) (hK4 : ∀ (x1 : Int32) (x2 : Int32) (x3 : Int32) (S : St), K4 (x1, x2, x3, S) → J X w (QI X w Q0) 4 [(0, rr w 25), (1, .int x1), (2, .int x2), (3, .int x3)] [] S) {x1 : Int32} {x2 : Int32} {x3 : Int32} {S : St} (h : p_X7_placeOf_53 Q0 K4 x1 x2 x3 S) : J X w (QI X w Q0) 53 [(0, rr w 25), (1, .int x1), (2, .int x2), (3, .int x3)] [] S := by
  refine j_iconst C dX7_placeOf_53 (v := 0) (by decide) ?_
  exact t_X7_placeOf_54 C hK4 h
set_option maxRecDepth 20000 in
theorem t_X7_placeOf_4 {X : Mx} {w : Wt} {l0 : Launch} {Q0 : Int32 → St → Prop} (C : Cx X w l0 cX7_placeOf 5 RX7 rm_X7_placeOf (some .int)) {x1 : Int32} {x2 : Int32} {x3 : Int32} {S : St} (h : Lq (p_X7_placeOf_4 Q0) (x1, x2, x3, S)) : J X w (QI X w Q0) 4 [(0, rr w 25), (1, .int x1), (2, .int x2), (3, .int x3)] [] S := by
  have key : ∀ a : Int32 × Int32 × Int32 × St, Lq (p_X7_placeOf_4 Q0) a → J X w (QI X w Q0) 4 [(0, rr w 25), (1, .int a.1), (2, .int a.2.1), (3, .int a.2.2.1)] [] a.2.2.2 := by
    intro a ha
    refine Lq_use (G := fun a => J X w (QI X w Q0) 4 [(0, rr w 25), (1, .int a.1), (2, .int a.2.1), (3, .int a.2.2.1)] [] a.2.2.2) ?_ ha
    intro K4 hK a h
    obtain ⟨x1, x2, x3, S⟩ := a
    have hK4 : ∀ (x1 : Int32) (x2 : Int32) (x3 : Int32) (S : St), K4 (x1, x2, x3, S) → J X w (QI X w Q0) 4 [(0, rr w 25), (1, .int x1), (2, .int x2), (3, .int x3)] [] S := fun x1 x2 x3 S h => hK (x1, x2, x3, S) h
    show J X w (QI X w Q0) 4 [(0, rr w 25), (1, .int x1), (2, .int x2), (3, .int x3)] [] S
    refine j_iload_n C dX7_placeOf_4 3 rfl rfl ?_
    refine j_aload_n C dX7_placeOf_5 0 rfl rfl ?_
    refine gf_RX7_111_25 C dX7_placeOf_6 ?_
    refine j_icmp_ge (tgt := 75) C dX7_placeOf_9 (by decide) (fun c1 => ?_) (fun c1 => ?_)
    · have h := And.left h c1
      refine j_iload_n C dX7_placeOf_75 2 rfl rfl ?_
      exact j_iret C dX7_placeOf_76 h
    · have h := And.right h c1
      refine j_aload_n C dX7_placeOf_12 0 rfl rfl ?_
      refine gf_RX7_43_25 C dX7_placeOf_13 ?_
      refine j_iload_n C dX7_placeOf_16 3 rfl rfl ?_
      refine al_37 C dX7_placeOf_17 (And.left h) ?_
      have h := And.right h
      refine j_aload_n C dX7_placeOf_18 0 rfl rfl ?_
      refine gf_RX7_43_25 C dX7_placeOf_19 ?_
      refine j_iload_n C dX7_placeOf_22 1 rfl rfl ?_
      refine al_37 C dX7_placeOf_23 (And.left h) ?_
      have h := And.right h
      refine j_lcmp C dX7_placeOf_24 ?_
      refine j_if_gt (tgt := 49) C dX7_placeOf_25 (by decide) (fun c2 => ?_) (fun c2 => ?_)
      · have h := And.left h c2
        exact t_X7_placeOf_49 C hK4 h
      · have h := And.right h c2
        refine j_aload_n C dX7_placeOf_28 0 rfl rfl ?_
        refine gf_RX7_43_25 C dX7_placeOf_29 ?_
        refine j_iload_n C dX7_placeOf_32 3 rfl rfl ?_
        refine al_37 C dX7_placeOf_33 (And.left h) ?_
        have h := And.right h
        refine j_aload_n C dX7_placeOf_34 0 rfl rfl ?_
        refine gf_RX7_43_25 C dX7_placeOf_35 ?_
        refine j_iload_n C dX7_placeOf_38 1 rfl rfl ?_
        refine al_37 C dX7_placeOf_39 (And.left h) ?_
        have h := And.right h
        refine j_lcmp C dX7_placeOf_40 ?_
        refine j_if_ne (tgt := 53) C dX7_placeOf_41 (by decide) (fun c4 => ?_) (fun c4 => ?_)
        · have h := And.left h c4
          exact t_X7_placeOf_53 C hK4 h
        · have h := And.right h c4
          refine j_iload_n C dX7_placeOf_44 3 rfl rfl ?_
          refine j_iload_n C dX7_placeOf_45 1 rfl rfl ?_
          refine j_icmp_ge (tgt := 53) C dX7_placeOf_46 (by decide) (fun c5 => ?_) (fun c5 => ?_)
          · have h := And.left h c5
            exact t_X7_placeOf_53 C hK4 h
          · have h := And.right h c5
            exact t_X7_placeOf_49 C hK4 h
  exact key (x1, x2, x3, S) h
set_option maxRecDepth 20000 in
theorem m_X7_placeOf {l : Launch} {w : Wt} (hw : WOK w) {x1 : Int32} {S : St} {Q0 : Int32 → St → Prop} (h : p_X7_placeOf x1 S Q0) : MI l w yX7_placeOf cX7_placeOf 5 .int rm_X7_placeOf [rr w 25, .int x1] S Q0 := by
  refine m_MI (own := RX7) (lv := [(0, rr w 25), (1, .int x1)]) hw (by decide) rfl (Nat.le_of_ble_eq_true rfl) rfl (fun X C => ?_)
  refine j_iconst C dX7_placeOf_0 (v := 0) (by decide) ?_
  refine j_istore_n (lv' := [(2, .int 0), (0, rr w 25), (1, .int x1)]) C dX7_placeOf_1 rfl (by decide) rfl ?_
  refine j_iconst C dX7_placeOf_2 (v := 0) (by decide) ?_
  refine j_istore_n (lv' := [(3, .int 0), (2, .int 0), (0, rr w 25), (1, .int x1)]) C dX7_placeOf_3 rfl (by decide) rfl ?_
  refine j_sub [2, 3, 1, 0] rfl ?_
  exact t_X7_placeOf_4 C h
def rm_X7_orderNow : Room := { frames := 3, cells := 0, slots := 0, locals := 70 }
theorem rk_X7_orderNow_X7_layChances : roomOk rm_X7_layChances rm_X7_orderNow 6 := ⟨⟨rfl, rfl⟩, Nat.le_of_ble_eq_true rfl, Nat.le_of_ble_eq_true rfl⟩
theorem rk_X7_orderNow_X7_placeOf : roomOk rm_X7_placeOf rm_X7_orderNow 5 := ⟨⟨rfl, rfl⟩, Nat.le_of_ble_eq_true rfl, Nat.le_of_ble_eq_true rfl⟩
set_option maxRecDepth 20000 in
theorem t_X7_orderNow_7 {X : Mx} {w : Wt} {l0 : Launch} {Q0 : Int32 → St → Prop} (C : Cx X w l0 cX7_orderNow 4 RX7 rm_X7_orderNow (some .int)) {x2 : Int32} {x3 : Int32} {S : St} (h : Lq (p_X7_orderNow_7 Q0) (x2, x3, S)) : J X w (QI X w Q0) 7 [(0, rr w 25), (2, .int x2), (3, .int x3)] [] S := by
  have key : ∀ a : Int32 × Int32 × St, Lq (p_X7_orderNow_7 Q0) a → J X w (QI X w Q0) 7 [(0, rr w 25), (2, .int a.1), (3, .int a.2.1)] [] a.2.2 := by
    intro a ha
    refine Lq_use (G := fun a => J X w (QI X w Q0) 7 [(0, rr w 25), (2, .int a.1), (3, .int a.2.1)] [] a.2.2) ?_ ha
    intro K7 hK a h
    obtain ⟨x2, x3, S⟩ := a
    have hK7 : ∀ (x2 : Int32) (x3 : Int32) (S : St), K7 (x2, x3, S) → J X w (QI X w Q0) 7 [(0, rr w 25), (2, .int x2), (3, .int x3)] [] S := fun x2 x3 S h => hK (x2, x3, S) h
    show J X w (QI X w Q0) 7 [(0, rr w 25), (2, .int x2), (3, .int x3)] [] S
    refine j_aload_n C dX7_orderNow_7 0 rfl rfl ?_
    refine j_iload_n C dX7_orderNow_8 2 rfl rfl ?_
    refine j_callVi (st := []) C 25 [.int x3] (m_X7_placeOf C.wok h) cv_RX7_268 rk_X7_orderNow_X7_placeOf rfl (rc_25 w) rfl (Nat.le_of_ble_eq_true rfl) dX7_orderNow_9 (fun r3 S2 h => ?_)
    refine j_iload_n C dX7_orderNow_12 1 rfl rfl ?_
    refine j_icmp_eq (tgt := 22) C dX7_orderNow_13 (by decide) (fun c4 => ?_) (fun c4 => ?_)
    · have h := And.left h c4
      refine j_iload_n C dX7_orderNow_22 2 rfl rfl ?_
      exact j_iret C dX7_orderNow_23 h
    · have h := And.right h c4
      refine j_iinc (lv' := [(3, .int (x3 + 1)), (0, rr w 25), (2, .int x2)]) C dX7_orderNow_16 2 rfl rfl (by decide) rfl ?_
      refine j_goto (tgt := 7) C dX7_orderNow_19 (by decide) ?_
      refine j_sub [1, 2, 0] rfl ?_
      exact hK7 _ _ _ h
  exact key (x2, x3, S) h
set_option maxRecDepth 20000 in
theorem m_X7_orderNow {l : Launch} {w : Wt} (hw : WOK w) {x1 : Int32} {x2 : Int32} {S : St} {Q0 : Int32 → St → Prop} (h : p_X7_orderNow x1 x2 S Q0) : MI l w yX7_orderNow cX7_orderNow 4 .int rm_X7_orderNow [rr w 25, .int x1, .int x2] S Q0 := by
  refine m_MI (own := RX7) (lv := [(0, rr w 25), (1, .int x1), (2, .int x2)]) hw (by decide) rfl (Nat.le_of_ble_eq_true rfl) rfl (fun X C => ?_)
  refine j_aload_n C dX7_orderNow_0 0 rfl rfl ?_
  refine j_iload_n C dX7_orderNow_1 1 rfl rfl ?_
  refine j_callVv (st := []) C 25 [.int x1] (m_X7_layChances C.wok h) cv_RX7_250 rk_X7_orderNow_X7_layChances rfl (rc_25 w) rfl (Nat.le_of_ble_eq_true rfl) dX7_orderNow_2 (fun S1 h => ?_)
  refine j_iconst C dX7_orderNow_5 (v := 0) (by decide) ?_
  refine j_istore_n (lv' := [(3, .int 0), (0, rr w 25), (1, .int x1), (2, .int x2)]) C dX7_orderNow_6 rfl (by decide) rfl ?_
  refine j_sub [1, 3, 0] rfl ?_
  exact t_X7_orderNow_7 C h
def rm_X7_order : Room := { frames := 4, cells := 0, slots := 0, locals := 93 }
theorem rk_X7_order_X7_areSeeds : roomOk rm_X7_areSeeds rm_X7_order 1 := ⟨⟨rfl, rfl⟩, Nat.le_of_ble_eq_true rfl, Nat.le_of_ble_eq_true rfl⟩
theorem rk_X7_order_X7_isCircle : roomOk rm_X7_isCircle rm_X7_order 1 := ⟨⟨rfl, rfl⟩, Nat.le_of_ble_eq_true rfl, Nat.le_of_ble_eq_true rfl⟩
theorem rk_X7_order_X7_isPerson : roomOk rm_X7_isPerson rm_X7_order 2 := ⟨⟨rfl, rfl⟩, Nat.le_of_ble_eq_true rfl, Nat.le_of_ble_eq_true rfl⟩
theorem rk_X7_order_X7_orderNow : roomOk rm_X7_orderNow rm_X7_order 4 := ⟨⟨rfl, rfl⟩, Nat.le_of_ble_eq_true rfl, Nat.le_of_ble_eq_true rfl⟩
theorem rk_X7_order_X7_within : roomOk rm_X7_within rm_X7_order 3 := ⟨⟨rfl, rfl⟩, Nat.le_of_ble_eq_true rfl, Nat.le_of_ble_eq_true rfl⟩
set_option maxRecDepth 20000 in
theorem m_X7_order {l : Launch} {w : Wt} (hw : WOK w) {x1 : Int32} {x2 : Int32} {S : St} {Q0 : Int32 → St → Prop} (h : p_X7_order x1 x2 S Q0) : MI l w yX7_order cX7_order 3 .int rm_X7_order [rr w 25, .int x1, .int x2] S Q0 := by
  refine m_MI (own := RX7) (lv := [(0, rr w 25), (1, .int x1), (2, .int x2)]) hw (by decide) rfl (Nat.le_of_ble_eq_true rfl) rfl (fun X C => ?_)
  refine j_iload_n C dX7_order_0 1 rfl rfl ?_
  refine j_iconst C dX7_order_1 (v := 0) (by decide) ?_
  refine j_iconst C dX7_order_2 (v := 4) (by decide) ?_
  refine j_callSi (st := []) C [.int x1, .int 0, .int 4] (m_X7_within C.wok h) cv_RX7_50 rk_X7_order_X7_within rfl rfl (Nat.le_of_ble_eq_true rfl) dX7_order_3 (fun r2 S1 h => ?_)
  refine j_if_ne (tgt := 12) C dX7_order_6 (by decide) (fun c3 => ?_) (fun c3 => ?_)
  · have h := And.left h c3
    refine j_aload_n C dX7_order_12 0 rfl rfl ?_
    refine j_callVi (st := []) C 25 [] (m_X7_isCircle C.wok h) cv_RX7_139 rk_X7_order_X7_isCircle rfl (rc_25 w) rfl (Nat.le_of_ble_eq_true rfl) dX7_order_13 (fun r5 S4 h => ?_)
    refine j_if_eq (tgt := 26) C dX7_order_16 (by decide) (fun c6 => ?_) (fun c6 => ?_)
    · have h := And.left h c6
      refine j_bipush C dX7_order_26 (v := (-103)) (by decide) ?_
      exact j_iret C dX7_order_28 h
    · have h := And.right h c6
      refine j_aload_n C dX7_order_19 0 rfl rfl ?_
      refine j_callVi (st := []) C 25 [] (m_X7_areSeeds C.wok h) cv_RX7_257 rk_X7_order_X7_areSeeds rfl (rc_25 w) rfl (Nat.le_of_ble_eq_true rfl) dX7_order_20 (fun r8 S7 h => ?_)
      refine j_if_ne (tgt := 29) C dX7_order_23 (by decide) (fun c9 => ?_) (fun c9 => ?_)
      · have h := And.left h c9
        refine j_aload_n C dX7_order_29 0 rfl rfl ?_
        refine j_iload_n C dX7_order_30 2 rfl rfl ?_
        refine j_callVi (st := []) C 25 [.int x2] (m_X7_isPerson C.wok h) cv_RX7_145 rk_X7_order_X7_isPerson rfl (rc_25 w) rfl (Nat.le_of_ble_eq_true rfl) dX7_order_31 (fun r11 S10 h => ?_)
        refine j_if_eq (tgt := 46) C dX7_order_34 (by decide) (fun c12 => ?_) (fun c12 => ?_)
        · have h := And.left h c12
          refine j_bipush C dX7_order_46 (v := (-101)) (by decide) ?_
          exact j_iret C dX7_order_48 h
        · have h := And.right h c12
          refine j_aload_n C dX7_order_37 0 rfl rfl ?_
          refine j_iload_n C dX7_order_38 1 rfl rfl ?_
          refine j_iload_n C dX7_order_39 2 rfl rfl ?_
          refine j_callVi (st := []) C 25 [.int x1, .int x2] (m_X7_orderNow C.wok h) cv_RX7_271 rk_X7_order_X7_orderNow rfl (rc_25 w) rfl (Nat.le_of_ble_eq_true rfl) dX7_order_40 (fun r14 S13 h => ?_)
          refine j_goto (tgt := 48) C dX7_order_43 (by decide) ?_
          exact j_iret C dX7_order_48 h
      · have h := And.right h c9
        refine j_bipush C dX7_order_26 (v := (-103)) (by decide) ?_
        exact j_iret C dX7_order_28 h
  · have h := And.right h c3
    refine j_bipush C dX7_order_9 (v := (-102)) (by decide) ?_
    exact j_iret C dX7_order_11 h
def rm_X6_count : Room := { frames := 0, cells := 0, slots := 0, locals := 0 }
set_option maxRecDepth 20000 in
theorem m_X6_count {l : Launch} {w : Wt} (hw : WOK w) {x1 : Int32} {S : St} {Q0 : Int32 → St → Prop} (h : p_X6_count x1 S Q0) : MI l w yX6_count cX6_count 2 .int rm_X6_count [rr w 0, .int x1] S Q0 := by
  refine m_MI (own := RX6) (lv := [(0, rr w 0), (1, .int x1)]) hw (by decide) rfl (Nat.le_of_ble_eq_true rfl) rfl (fun X C => ?_)
  refine j_iload_n C dX6_count_0 1 rfl rfl ?_
  by_cases c1 : x1 = 0
  · have h := And.left h c1
    refine j_tableIn (tgt := 36) (off := 35) C dX6_count_1 (by rw [c1]; decide) (by rw [c1]; decide) (by rw [c1]; decide) (by decide) ?_
    refine j_aload_n C dX6_count_36 0 rfl rfl ?_
    refine gf_RX6_16_0 C dX6_count_37 ?_
    refine gf_RX6_82_2 C dX6_count_40 ?_
    exact j_iret C dX6_count_43 h
  · have h := And.right h c1
    by_cases c2 : x1 = 1
    · have h := And.left h c2
      refine j_tableIn (tgt := 44) (off := 43) C dX6_count_1 (by rw [c2]; decide) (by rw [c2]; decide) (by rw [c2]; decide) (by decide) ?_
      refine j_aload_n C dX6_count_44 0 rfl rfl ?_
      refine gf_RX6_53_0 C dX6_count_45 ?_
      exact j_iret C dX6_count_48 h
    · have h := And.right h c2
      by_cases c3 : x1 = 2
      · have h := And.left h c3
        refine j_tableIn (tgt := 49) (off := 48) C dX6_count_1 (by rw [c3]; decide) (by rw [c3]; decide) (by rw [c3]; decide) (by decide) ?_
        refine j_aload_n C dX6_count_49 0 rfl rfl ?_
        refine gf_RX6_79_0 C dX6_count_50 ?_
        exact j_iret C dX6_count_53 h
      · have h := And.right h c3
        by_cases c4 : x1 = 3
        · have h := And.left h c4
          refine j_tableIn (tgt := 54) (off := 53) C dX6_count_1 (by rw [c4]; decide) (by rw [c4]; decide) (by rw [c4]; decide) (by decide) ?_
          refine j_aload_n C dX6_count_54 0 rfl rfl ?_
          refine gf_RX6_125_0 C dX6_count_55 ?_
          exact j_iret C dX6_count_58 h
        · have h := And.right h c4
          by_cases c5 : x1 = 4
          · have h := And.left h c5
            refine j_tableIn (tgt := 59) (off := 58) C dX6_count_1 (by rw [c5]; decide) (by rw [c5]; decide) (by rw [c5]; decide) (by decide) ?_
            refine j_aload_n C dX6_count_59 0 rfl rfl ?_
            refine gf_RX6_128_0 C dX6_count_60 ?_
            exact j_iret C dX6_count_63 h
          · have h := And.right h c5
            have nc1 := lv_neT (a := 0) c1 (by decide)
            have nc2 := lv_neT (a := 1) c2 (by decide)
            have nc3 := lv_neT (a := 2) c3 (by decide)
            have nc4 := lv_neT (a := 3) c4 (by decide)
            have nc5 := lv_neT (a := 4) c5 (by decide)
            refine j_tableOut (tgt := 64) C dX6_count_1 (by omega) (by decide) ?_
            refine j_bipush C dX6_count_64 (v := (-102)) (by decide) ?_
            exact j_iret C dX6_count_66 h
def rm_X7_howMany : Room := { frames := 0, cells := 0, slots := 0, locals := 0 }
set_option maxRecDepth 20000 in
theorem m_X7_howMany {l : Launch} {w : Wt} (hw : WOK w) {x1 : Int32} {S : St} {Q0 : Int32 → St → Prop} (h : p_X7_howMany x1 S Q0) : MI l w yX7_howMany cX7_howMany 2 .int rm_X7_howMany [rr w 25, .int x1] S Q0 := by
  refine m_MI (own := RX7) (lv := [(0, rr w 25), (1, .int x1)]) hw (by decide) rfl (Nat.le_of_ble_eq_true rfl) rfl (fun X C => ?_)
  refine j_iload_n C dX7_howMany_0 1 rfl rfl ?_
  by_cases c1 : x1 = 0
  · have h := And.left h c1
    refine j_tableIn (tgt := 36) (off := 35) C dX7_howMany_1 (by rw [c1]; decide) (by rw [c1]; decide) (by rw [c1]; decide) (by decide) ?_
    refine j_aload_n C dX7_howMany_36 0 rfl rfl ?_
    refine gf_RX7_111_25 C dX7_howMany_37 ?_
    exact j_iret C dX7_howMany_40 h
  · have h := And.right h c1
    by_cases c2 : x1 = 1
    · have h := And.left h c2
      refine j_tableIn (tgt := 41) (off := 40) C dX7_howMany_1 (by rw [c2]; decide) (by rw [c2]; decide) (by rw [c2]; decide) (by decide) ?_
      refine j_aload_n C dX7_howMany_41 0 rfl rfl ?_
      refine gf_RX7_54_25 C dX7_howMany_42 ?_
      exact j_iret C dX7_howMany_45 h
    · have h := And.right h c2
      by_cases c3 : x1 = 2
      · have h := And.left h c3
        refine j_tableIn (tgt := 46) (off := 45) C dX7_howMany_1 (by rw [c3]; decide) (by rw [c3]; decide) (by rw [c3]; decide) (by decide) ?_
        refine j_aload_n C dX7_howMany_46 0 rfl rfl ?_
        refine gf_RX7_117_25 C dX7_howMany_47 ?_
        exact j_iret C dX7_howMany_50 h
      · have h := And.right h c3
        by_cases c4 : x1 = 3
        · have h := And.left h c4
          refine j_tableIn (tgt := 51) (off := 50) C dX7_howMany_1 (by rw [c4]; decide) (by rw [c4]; decide) (by rw [c4]; decide) (by decide) ?_
          refine j_aload_n C dX7_howMany_51 0 rfl rfl ?_
          refine gf_RX7_154_25 C dX7_howMany_52 ?_
          exact j_iret C dX7_howMany_55 h
        · have h := And.right h c4
          by_cases c5 : x1 = 4
          · have h := And.left h c5
            refine j_tableIn (tgt := 56) (off := 55) C dX7_howMany_1 (by rw [c5]; decide) (by rw [c5]; decide) (by rw [c5]; decide) (by decide) ?_
            refine j_aload_n C dX7_howMany_56 0 rfl rfl ?_
            refine gf_RX7_157_25 C dX7_howMany_57 ?_
            exact j_iret C dX7_howMany_60 h
          · have h := And.right h c5
            have nc1 := lv_neT (a := 0) c1 (by decide)
            have nc2 := lv_neT (a := 1) c2 (by decide)
            have nc3 := lv_neT (a := 2) c3 (by decide)
            have nc4 := lv_neT (a := 3) c4 (by decide)
            have nc5 := lv_neT (a := 4) c5 (by decide)
            refine j_tableOut (tgt := 61) C dX7_howMany_1 (by omega) (by decide) ?_
            refine j_bipush C dX7_howMany_61 (v := (-102)) (by decide) ?_
            exact j_iret C dX7_howMany_63 h
def rm_X7_count : Room := { frames := 1, cells := 0, slots := 0, locals := 21 }
theorem rk_X7_count_X7_howMany : roomOk rm_X7_howMany rm_X7_count 2 := ⟨⟨rfl, rfl⟩, Nat.le_of_ble_eq_true rfl, Nat.le_of_ble_eq_true rfl⟩
set_option maxRecDepth 20000 in
theorem m_X7_count {l : Launch} {w : Wt} (hw : WOK w) {x1 : Int32} {S : St} {Q0 : Int32 → St → Prop} (h : p_X7_count x1 S Q0) : MI l w yX7_count cX7_count 2 .int rm_X7_count [rr w 25, .int x1] S Q0 := by
  refine m_MI (own := RX7) (lv := [(0, rr w 25), (1, .int x1)]) hw (by decide) rfl (Nat.le_of_ble_eq_true rfl) rfl (fun X C => ?_)
  refine j_aload_n C dX7_count_0 0 rfl rfl ?_
  refine j_iload_n C dX7_count_1 1 rfl rfl ?_
  refine j_callVi (st := []) C 25 [.int x1] (m_X7_howMany C.wok h) cv_RX7_274 rk_X7_count_X7_howMany rfl (rc_25 w) rfl (Nat.le_of_ble_eq_true rfl) dX7_count_2 (fun r2 S1 h => ?_)
  exact j_iret C dX7_count_5 h
def rm_X6_add : Room := { frames := 0, cells := 0, slots := 0, locals := 0 }
set_option maxRecDepth 20000 in
theorem m_X6_add {l : Launch} {w : Wt} (hw : WOK w) {x0 : Int64} {x2 : Int32} {S : St} {Q0 : Int64 → St → Prop} (h : p_X6_add x0 x2 S Q0) : ML l w yX6_add cX6_add 3 rm_X6_add [.long x0, .int x2] S Q0 := by
  refine m_ML (own := RX6) (lv := [(0, .long x0), (2, .int x2)]) hw (by decide) rfl (Nat.le_of_ble_eq_true rfl) rfl (fun X C => ?_)
  refine j_ldc2 C dX6_add_0 k_689 ?_
  refine j_lload_n C dX6_add_3 0 rfl rfl ?_
  refine j_lmul C dX6_add_4 ?_
  refine j_iload_n C dX6_add_5 1 rfl rfl ?_
  refine j_i2l C dX6_add_6 ?_
  refine j_ladd C dX6_add_7 ?_
  exact j_lret C dX6_add_8 h
def rm_X6_addWalks : Room := { frames := 4, cells := 0, slots := 0, locals := 95 }
theorem rk_X6_addWalks_X3_denominator : roomOk rm_X3_denominator rm_X6_addWalks 2 := ⟨⟨rfl, rfl⟩, Nat.le_of_ble_eq_true rfl, Nat.le_of_ble_eq_true rfl⟩
theorem rk_X6_addWalks_X3_go : roomOk rm_X3_go rm_X6_addWalks 5 := ⟨⟨rfl, rfl⟩, Nat.le_of_ble_eq_true rfl, Nat.le_of_ble_eq_true rfl⟩
theorem rk_X6_addWalks_X3_numerator : roomOk rm_X3_numerator rm_X6_addWalks 2 := ⟨⟨rfl, rfl⟩, Nat.le_of_ble_eq_true rfl, Nat.le_of_ble_eq_true rfl⟩
theorem rk_X6_addWalks_X3_personAt : roomOk rm_X3_personAt rm_X6_addWalks 3 := ⟨⟨rfl, rfl⟩, Nat.le_of_ble_eq_true rfl, Nat.le_of_ble_eq_true rfl⟩
theorem rk_X6_addWalks_X3_thousandPart : roomOk rm_X3_thousandPart rm_X6_addWalks 2 := ⟨⟨rfl, rfl⟩, Nat.le_of_ble_eq_true rfl, Nat.le_of_ble_eq_true rfl⟩
theorem rk_X6_addWalks_X6_add : roomOk rm_X6_add rm_X6_addWalks 3 := ⟨⟨rfl, rfl⟩, Nat.le_of_ble_eq_true rfl, Nat.le_of_ble_eq_true rfl⟩
set_option maxRecDepth 20000 in
theorem t_X6_addWalks_90 {X : Mx} {w : Wt} {l0 : Launch} {Q0 : Int64 → St → Prop} {K5 : Int64 × Int32 × St → Prop} (C : Cx X w l0 cX6_addWalks 7 RX6 rm_X6_addWalks (some .long)) (hK5 : ∀ (x3 : Int64) (x5 : Int32) (S : St), K5 (x3, x5, S) → J X w (QL X w Q0) 5 [(0, rr w 0), (3, .long x3), (5, .int x5)] [] S) {x3 : Int64} {x5 : Int32} {x6 : Int32} {S : St} (h : Lq (p_X6_addWalks_90 Q0 K5) (x3, x5, x6, S)) : J X w (QL X w Q0) 90 [(0, rr w 0), (3, .long x3), (5, .int x5), (6, .int x6)] [] S := by
  have key : ∀ a : Int64 × Int32 × Int32 × St, Lq (p_X6_addWalks_90 Q0 K5) a → J X w (QL X w Q0) 90 [(0, rr w 0), (3, .long a.1), (5, .int a.2.1), (6, .int a.2.2.1)] [] a.2.2.2 := by
    intro a ha
    refine Lq_use (G := fun a => J X w (QL X w Q0) 90 [(0, rr w 0), (3, .long a.1), (5, .int a.2.1), (6, .int a.2.2.1)] [] a.2.2.2) ?_ ha
    intro K90 hK a h
    obtain ⟨x3, x5, x6, S⟩ := a
    have hK90 : ∀ (x3 : Int64) (x5 : Int32) (x6 : Int32) (S : St), K90 (x3, x5, x6, S) → J X w (QL X w Q0) 90 [(0, rr w 0), (3, .long x3), (5, .int x5), (6, .int x6)] [] S := fun x3 x5 x6 S h => hK (x3, x5, x6, S) h
    show J X w (QL X w Q0) 90 [(0, rr w 0), (3, .long x3), (5, .int x5), (6, .int x6)] [] S
    refine j_iload C dX6_addWalks_90 3 rfl ?_
    refine j_aload_n C dX6_addWalks_92 0 rfl rfl ?_
    refine gf_RX6_16_0 C dX6_addWalks_93 ?_
    refine gf_RX6_82_2 C dX6_addWalks_96 ?_
    refine j_icmp_ge (tgt := 122) C dX6_addWalks_99 (by decide) (fun c4 => ?_) (fun c4 => ?_)
    · have h := And.left h c4
      refine j_iinc (lv' := [(5, .int (x5 + 1)), (0, rr w 0), (3, .long x3), (6, .int x6)]) C dX6_addWalks_122 2 rfl rfl (by decide) rfl ?_
      refine j_goto (tgt := 5) C dX6_addWalks_125 (by decide) ?_
      refine j_sub [1, 2, 0] rfl ?_
      exact hK5 _ _ _ h
    · have h := And.right h c4
      refine j_lload_n C dX6_addWalks_102 1 rfl rfl ?_
      refine j_aload_n C dX6_addWalks_103 0 rfl rfl ?_
      refine gf_RX6_49_0 C dX6_addWalks_104 ?_
      refine j_iload C dX6_addWalks_107 3 rfl ?_
      refine j_callVi (st := [.long x3]) C 22 [.int x6] (m_X3_personAt C.wok h) cv_RX6_221 rk_X6_addWalks_X3_personAt rfl (rc_22 w) rfl (Nat.le_of_ble_eq_true rfl) dX6_addWalks_109 (fun r6 S5 h => ?_)
      refine j_callSl (st := []) C [.long x3, .int r6] (m_X6_add C.wok h) cv_RX6_239 rk_X6_addWalks_X6_add rfl rfl (Nat.le_of_ble_eq_true rfl) dX6_addWalks_112 (fun r8 S7 h => ?_)
      refine j_lstore_n (lv' := [(3, .long r8), (0, rr w 0), (5, .int x5), (6, .int x6)]) C dX6_addWalks_115 rfl (by decide) rfl ?_
      refine j_iinc (lv' := [(6, .int (x6 + 1)), (3, .long r8), (0, rr w 0), (5, .int x5)]) C dX6_addWalks_116 3 rfl rfl (by decide) rfl ?_
      refine j_goto (tgt := 90) C dX6_addWalks_119 (by decide) ?_
      refine j_sub [2, 1, 3, 0] rfl ?_
      exact hK90 _ _ _ _ h
  exact key (x3, x5, x6, S) h
set_option maxRecDepth 20000 in
theorem t_X6_addWalks_27 {X : Mx} {w : Wt} {l0 : Launch} {Q0 : Int64 → St → Prop} {K5 : Int64 × Int32 × St → Prop} (C : Cx X w l0 cX6_addWalks 7 RX6 rm_X6_addWalks (some .long)) (hK5 : ∀ (x3 : Int64) (x5 : Int32) (S : St), K5 (x3, x5, S) → J X w (QL X w Q0) 5 [(0, rr w 0), (3, .long x3), (5, .int x5)] [] S) {x3 : Int64} {x5 : Int32} {x6 : Int32} {S : St} (h : Lq (p_X6_addWalks_27 Q0 K5) (x3, x5, x6, S)) : J X w (QL X w Q0) 27 [(0, rr w 0), (3, .long x3), (5, .int x5), (6, .int x6)] [] S := by
  have key : ∀ a : Int64 × Int32 × Int32 × St, Lq (p_X6_addWalks_27 Q0 K5) a → J X w (QL X w Q0) 27 [(0, rr w 0), (3, .long a.1), (5, .int a.2.1), (6, .int a.2.2.1)] [] a.2.2.2 := by
    intro a ha
    refine Lq_use (G := fun a => J X w (QL X w Q0) 27 [(0, rr w 0), (3, .long a.1), (5, .int a.2.1), (6, .int a.2.2.1)] [] a.2.2.2) ?_ ha
    intro K27 hK a h
    obtain ⟨x3, x5, x6, S⟩ := a
    have hK27 : ∀ (x3 : Int64) (x5 : Int32) (x6 : Int32) (S : St), K27 (x3, x5, x6, S) → J X w (QL X w Q0) 27 [(0, rr w 0), (3, .long x3), (5, .int x5), (6, .int x6)] [] S := fun x3 x5 x6 S h => hK (x3, x5, x6, S) h
    show J X w (QL X w Q0) 27 [(0, rr w 0), (3, .long x3), (5, .int x5), (6, .int x6)] [] S
    refine j_iload C dX6_addWalks_27 3 rfl ?_
    refine j_aload_n C dX6_addWalks_29 0 rfl rfl ?_
    refine gf_RX6_16_0 C dX6_addWalks_30 ?_
    refine gf_RX6_82_2 C dX6_addWalks_33 ?_
    refine j_icmp_ge (tgt := 87) C dX6_addWalks_36 (by decide) (fun c3 => ?_) (fun c3 => ?_)
    · have h := And.left h c3
      refine j_iconst C dX6_addWalks_87 (v := 0) (by decide) ?_
      refine j_istore (lv' := [(6, .int 0), (0, rr w 0), (3, .long x3), (5, .int x5)]) C dX6_addWalks_88 (by decide) rfl ?_
      refine j_sub [1, 2, 3, 0] rfl ?_
      exact t_X6_addWalks_90 C hK5 h
    · have h := And.right h c3
      refine j_lload_n C dX6_addWalks_39 1 rfl rfl ?_
      refine j_aload_n C dX6_addWalks_40 0 rfl rfl ?_
      refine gf_RX6_49_0 C dX6_addWalks_41 ?_
      refine j_iload C dX6_addWalks_44 3 rfl ?_
      refine j_callVi (st := [.long x3]) C 22 [.int x6] (m_X3_numerator C.wok h) cv_RX6_212 rk_X6_addWalks_X3_numerator rfl (rc_22 w) rfl (Nat.le_of_ble_eq_true rfl) dX6_addWalks_46 (fun r10 S9 h => ?_)
      refine j_callSl (st := []) C [.long x3, .int r10] (m_X6_add C.wok h) cv_RX6_239 rk_X6_addWalks_X6_add rfl rfl (Nat.le_of_ble_eq_true rfl) dX6_addWalks_49 (fun r12 S11 h => ?_)
      refine j_lstore_n (lv' := [(3, .long r12), (0, rr w 0), (5, .int x5), (6, .int x6)]) C dX6_addWalks_52 rfl (by decide) rfl ?_
      refine j_lload_n C dX6_addWalks_53 0 rfl rfl ?_
      refine j_aload_n C dX6_addWalks_54 1 rfl rfl ?_
      refine gf_RX6_49_0 C dX6_addWalks_55 ?_
      refine j_iload C dX6_addWalks_58 3 rfl ?_
      refine j_callVi (st := [.long r12]) C 22 [.int x6] (m_X3_denominator C.wok h) cv_RX6_215 rk_X6_addWalks_X3_denominator rfl (rc_22 w) rfl (Nat.le_of_ble_eq_true rfl) dX6_addWalks_60 (fun r14 S13 h => ?_)
      refine j_callSl (st := []) C [.long r12, .int r14] (m_X6_add C.wok h) cv_RX6_239 rk_X6_addWalks_X6_add rfl rfl (Nat.le_of_ble_eq_true rfl) dX6_addWalks_63 (fun r16 S15 h => ?_)
      refine j_lstore_n (lv' := [(3, .long r16), (0, rr w 0), (5, .int x5), (6, .int x6)]) C dX6_addWalks_66 rfl (by decide) rfl ?_
      refine j_lload_n C dX6_addWalks_67 0 rfl rfl ?_
      refine j_aload_n C dX6_addWalks_68 1 rfl rfl ?_
      refine gf_RX6_49_0 C dX6_addWalks_69 ?_
      refine j_iload C dX6_addWalks_72 3 rfl ?_
      refine j_callVi (st := [.long r16]) C 22 [.int x6] (m_X3_thousandPart C.wok h) cv_RX6_218 rk_X6_addWalks_X3_thousandPart rfl (rc_22 w) rfl (Nat.le_of_ble_eq_true rfl) dX6_addWalks_74 (fun r18 S17 h => ?_)
      refine j_callSl (st := []) C [.long r16, .int r18] (m_X6_add C.wok h) cv_RX6_239 rk_X6_addWalks_X6_add rfl rfl (Nat.le_of_ble_eq_true rfl) dX6_addWalks_77 (fun r20 S19 h => ?_)
      refine j_lstore_n (lv' := [(3, .long r20), (0, rr w 0), (5, .int x5), (6, .int x6)]) C dX6_addWalks_80 rfl (by decide) rfl ?_
      refine j_iinc (lv' := [(6, .int (x6 + 1)), (3, .long r20), (0, rr w 0), (5, .int x5)]) C dX6_addWalks_81 3 rfl rfl (by decide) rfl ?_
      refine j_goto (tgt := 27) C dX6_addWalks_84 (by decide) ?_
      refine j_sub [2, 1, 3, 0] rfl ?_
      exact hK27 _ _ _ _ h
  exact key (x3, x5, x6, S) h
set_option maxRecDepth 20000 in
theorem t_X6_addWalks_5 {X : Mx} {w : Wt} {l0 : Launch} {Q0 : Int64 → St → Prop} (C : Cx X w l0 cX6_addWalks 7 RX6 rm_X6_addWalks (some .long)) {x3 : Int64} {x5 : Int32} {S : St} (h : Lq (p_X6_addWalks_5 Q0) (x3, x5, S)) : J X w (QL X w Q0) 5 [(0, rr w 0), (3, .long x3), (5, .int x5)] [] S := by
  have key : ∀ a : Int64 × Int32 × St, Lq (p_X6_addWalks_5 Q0) a → J X w (QL X w Q0) 5 [(0, rr w 0), (3, .long a.1), (5, .int a.2.1)] [] a.2.2 := by
    intro a ha
    refine Lq_use (G := fun a => J X w (QL X w Q0) 5 [(0, rr w 0), (3, .long a.1), (5, .int a.2.1)] [] a.2.2) ?_ ha
    intro K5 hK a h
    obtain ⟨x3, x5, S⟩ := a
    have hK5 : ∀ (x3 : Int64) (x5 : Int32) (S : St), K5 (x3, x5, S) → J X w (QL X w Q0) 5 [(0, rr w 0), (3, .long x3), (5, .int x5)] [] S := fun x3 x5 S h => hK (x3, x5, S) h
    show J X w (QL X w Q0) 5 [(0, rr w 0), (3, .long x3), (5, .int x5)] [] S
    refine j_iload C dX6_addWalks_5 2 rfl ?_
    refine j_iconst C dX6_addWalks_7 (v := 4) (by decide) ?_
    refine j_icmp_gt (tgt := 128) C dX6_addWalks_8 (by decide) (fun c1 => ?_) (fun c1 => ?_)
    · have h := And.left h c1
      refine j_lload_n C dX6_addWalks_128 1 rfl rfl ?_
      exact j_lret C dX6_addWalks_129 h
    · have h := And.right h c1
      refine j_aload_n C dX6_addWalks_11 0 rfl rfl ?_
      refine gf_RX6_49_0 C dX6_addWalks_12 ?_
      refine j_aload_n C dX6_addWalks_15 0 rfl rfl ?_
      refine gf_RX6_16_0 C dX6_addWalks_16 ?_
      refine j_iload C dX6_addWalks_19 2 rfl ?_
      refine j_callVv (st := []) C 22 [rr w 2, .int x5] (m_X3_go C.wok h) cv_RX6_208 rk_X6_addWalks_X3_go rfl (rc_22 w) rfl (Nat.le_of_ble_eq_true rfl) dX6_addWalks_21 (fun S2 h => ?_)
      refine j_iconst C dX6_addWalks_24 (v := 0) (by decide) ?_
      refine j_istore (lv' := [(6, .int 0), (0, rr w 0), (3, .long x3), (5, .int x5)]) C dX6_addWalks_25 (by decide) rfl ?_
      refine j_sub [1, 2, 3, 0] rfl ?_
      exact t_X6_addWalks_27 C hK5 h
  exact key (x3, x5, S) h
set_option maxRecDepth 20000 in
theorem m_X6_addWalks {l : Launch} {w : Wt} (hw : WOK w) {x1 : Int64} {S : St} {Q0 : Int64 → St → Prop} (h : p_X6_addWalks x1 S Q0) : ML l w yX6_addWalks cX6_addWalks 7 rm_X6_addWalks [rr w 0, .long x1] S Q0 := by
  refine m_ML (own := RX6) (lv := [(0, rr w 0), (1, .long x1)]) hw (by decide) rfl (Nat.le_of_ble_eq_true rfl) rfl (fun X C => ?_)
  refine j_lload_n C dX6_addWalks_0 1 rfl rfl ?_
  refine j_lstore_n (lv' := [(3, .long x1), (0, rr w 0), (1, .long x1)]) C dX6_addWalks_1 rfl (by decide) rfl ?_
  refine j_iconst C dX6_addWalks_2 (v := 0) (by decide) ?_
  refine j_istore (lv' := [(5, .int 0), (3, .long x1), (0, rr w 0), (1, .long x1)]) C dX6_addWalks_3 (by decide) rfl ?_
  refine j_sub [2, 1, 0] rfl ?_
  exact t_X6_addWalks_5 C h
def rm_X6_addInk : Room := { frames := 4, cells := 0, slots := 0, locals := 88 }
theorem rk_X6_addInk_X5_write : roomOk rm_X5_write rm_X6_addInk 3 := ⟨⟨rfl, rfl⟩, Nat.le_of_ble_eq_true rfl, Nat.le_of_ble_eq_true rfl⟩
theorem rk_X6_addInk_X6_add : roomOk rm_X6_add rm_X6_addInk 3 := ⟨⟨rfl, rfl⟩, Nat.le_of_ble_eq_true rfl, Nat.le_of_ble_eq_true rfl⟩
set_option maxRecDepth 20000 in
theorem t_X6_addInk_16 {X : Mx} {w : Wt} {l0 : Launch} {Q0 : Int64 → St → Prop} (C : Cx X w l0 cX6_addInk 6 RX6 rm_X6_addInk (some .long)) {x3 : Int64} {x5 : Int32} {S : St} (h : Lq (p_X6_addInk_16 Q0) (x3, x5, S)) : J X w (QL X w Q0) 16 [(0, rr w 0), (3, .long x3), (5, .int x5)] [] S := by
  have key : ∀ a : Int64 × Int32 × St, Lq (p_X6_addInk_16 Q0) a → J X w (QL X w Q0) 16 [(0, rr w 0), (3, .long a.1), (5, .int a.2.1)] [] a.2.2 := by
    intro a ha
    refine Lq_use (G := fun a => J X w (QL X w Q0) 16 [(0, rr w 0), (3, .long a.1), (5, .int a.2.1)] [] a.2.2) ?_ ha
    intro K16 hK a h
    obtain ⟨x3, x5, S⟩ := a
    have hK16 : ∀ (x3 : Int64) (x5 : Int32) (S : St), K16 (x3, x5, S) → J X w (QL X w Q0) 16 [(0, rr w 0), (3, .long x3), (5, .int x5)] [] S := fun x3 x5 S h => hK (x3, x5, S) h
    show J X w (QL X w Q0) 16 [(0, rr w 0), (3, .long x3), (5, .int x5)] [] S
    refine j_iload C dX6_addInk_16 2 rfl ?_
    refine j_aload_n C dX6_addInk_18 0 rfl rfl ?_
    refine gf_RX6_30_0 C dX6_addInk_19 ?_
    refine gf_RX6_91_11 C dX6_addInk_22 ?_
    refine j_icmp_ge (tgt := 49) C dX6_addInk_25 (by decide) (fun c2 => ?_) (fun c2 => ?_)
    · have h := And.left h c2
      refine j_lload_n C dX6_addInk_49 1 rfl rfl ?_
      exact j_lret C dX6_addInk_50 h
    · have h := And.right h c2
      refine j_lload_n C dX6_addInk_28 1 rfl rfl ?_
      refine j_aload_n C dX6_addInk_29 0 rfl rfl ?_
      refine gf_RX6_30_0 C dX6_addInk_30 ?_
      refine gf_RX6_94_11 C dX6_addInk_33 ?_
      refine j_iload C dX6_addInk_36 2 rfl ?_
      refine al_12 C dX6_addInk_38 (And.left h) ?_
      have h := And.right h
      refine j_callSl (st := []) C [.long x3, .int (S.1 12 x5.toNatClampNeg)] (m_X6_add C.wok h) cv_RX6_239 rk_X6_addInk_X6_add rfl rfl (Nat.le_of_ble_eq_true rfl) dX6_addInk_39 (fun r4 S3 h => ?_)
      refine j_lstore_n (lv' := [(3, .long r4), (0, rr w 0), (5, .int x5)]) C dX6_addInk_42 rfl (by decide) rfl ?_
      refine j_iinc (lv' := [(5, .int (x5 + 1)), (3, .long r4), (0, rr w 0)]) C dX6_addInk_43 2 rfl rfl (by decide) rfl ?_
      refine j_goto (tgt := 16) C dX6_addInk_46 (by decide) ?_
      refine j_sub [2, 1, 0] rfl ?_
      exact hK16 _ _ _ h
  exact key (x3, x5, S) h
set_option maxRecDepth 20000 in
theorem m_X6_addInk {l : Launch} {w : Wt} (hw : WOK w) {x1 : Int64} {S : St} {Q0 : Int64 → St → Prop} (h : p_X6_addInk x1 S Q0) : ML l w yX6_addInk cX6_addInk 6 rm_X6_addInk [rr w 0, .long x1] S Q0 := by
  refine m_ML (own := RX6) (lv := [(0, rr w 0), (1, .long x1)]) hw (by decide) rfl (Nat.le_of_ble_eq_true rfl) rfl (fun X C => ?_)
  refine j_lload_n C dX6_addInk_0 1 rfl rfl ?_
  refine j_lstore_n (lv' := [(3, .long x1), (0, rr w 0), (1, .long x1)]) C dX6_addInk_1 rfl (by decide) rfl ?_
  refine j_aload_n C dX6_addInk_2 1 rfl rfl ?_
  refine gf_RX6_30_0 C dX6_addInk_3 ?_
  refine j_aload_n C dX6_addInk_6 1 rfl rfl ?_
  refine gf_RX6_16_0 C dX6_addInk_7 ?_
  refine j_callVv (st := []) C 11 [rr w 2] (m_X5_write C.wok h) cv_RX6_88 rk_X6_addInk_X5_write rfl (rc_11 w) rfl (Nat.le_of_ble_eq_true rfl) dX6_addInk_10 (fun S1 h => ?_)
  refine j_iconst C dX6_addInk_13 (v := 0) (by decide) ?_
  refine j_istore (lv' := [(5, .int 0), (3, .long x1), (0, rr w 0), (1, .long x1)]) C dX6_addInk_14 (by decide) rfl ?_
  refine j_sub [2, 1, 0] rfl ?_
  exact t_X6_addInk_16 C h
def rm_X6_addPersons : Room := { frames := 5, cells := 0, slots := 0, locals := 117 }
theorem rk_X6_addPersons_X6_about : roomOk rm_X6_about rm_X6_addPersons 2 := ⟨⟨rfl, rfl⟩, Nat.le_of_ble_eq_true rfl, Nat.le_of_ble_eq_true rfl⟩
theorem rk_X6_addPersons_X6_add : roomOk rm_X6_add rm_X6_addPersons 3 := ⟨⟨rfl, rfl⟩, Nat.le_of_ble_eq_true rfl, Nat.le_of_ble_eq_true rfl⟩
theorem rk_X6_addPersons_X6_apart : roomOk rm_X6_apart rm_X6_addPersons 5 := ⟨⟨rfl, rfl⟩, Nat.le_of_ble_eq_true rfl, Nat.le_of_ble_eq_true rfl⟩
theorem rk_X6_addPersons_X6_generous : roomOk rm_X6_generous rm_X6_addPersons 7 := ⟨⟨rfl, rfl⟩, Nat.le_of_ble_eq_true rfl, Nat.le_of_ble_eq_true rfl⟩
theorem rk_X6_addPersons_X6_person : roomOk rm_X6_person rm_X6_addPersons 3 := ⟨⟨rfl, rfl⟩, Nat.le_of_ble_eq_true rfl, Nat.le_of_ble_eq_true rfl⟩
set_option maxRecDepth 20000 in
theorem t_X6_addPersons_47 {X : Mx} {w : Wt} {l0 : Launch} {Q0 : Int64 → St → Prop} {K32 : Int64 × Int32 × St → Prop} (C : Cx X w l0 cX6_addPersons 7 RX6 rm_X6_addPersons (some .long)) (hK32 : ∀ (x3 : Int64) (x5 : Int32) (S : St), K32 (x3, x5, S) → J X w (QL X w Q0) 32 [(0, rr w 0), (3, .long x3), (5, .int x5)] [] S) {x3 : Int64} {x5 : Int32} {x6 : Int32} {S : St} (h : Lq (p_X6_addPersons_47 Q0 K32) (x3, x5, x6, S)) : J X w (QL X w Q0) 47 [(0, rr w 0), (3, .long x3), (5, .int x5), (6, .int x6)] [] S := by
  have key : ∀ a : Int64 × Int32 × Int32 × St, Lq (p_X6_addPersons_47 Q0 K32) a → J X w (QL X w Q0) 47 [(0, rr w 0), (3, .long a.1), (5, .int a.2.1), (6, .int a.2.2.1)] [] a.2.2.2 := by
    intro a ha
    refine Lq_use (G := fun a => J X w (QL X w Q0) 47 [(0, rr w 0), (3, .long a.1), (5, .int a.2.1), (6, .int a.2.2.1)] [] a.2.2.2) ?_ ha
    intro K47 hK a h
    obtain ⟨x3, x5, x6, S⟩ := a
    have hK47 : ∀ (x3 : Int64) (x5 : Int32) (x6 : Int32) (S : St), K47 (x3, x5, x6, S) → J X w (QL X w Q0) 47 [(0, rr w 0), (3, .long x3), (5, .int x5), (6, .int x6)] [] S := fun x3 x5 x6 S h => hK (x3, x5, x6, S) h
    show J X w (QL X w Q0) 47 [(0, rr w 0), (3, .long x3), (5, .int x5), (6, .int x6)] [] S
    refine j_iload C dX6_addPersons_47 3 rfl ?_
    refine j_bipush C dX6_addPersons_49 (v := 7) (by decide) ?_
    refine j_icmp_gt (tgt := 73) C dX6_addPersons_51 (by decide) (fun c7 => ?_) (fun c7 => ?_)
    · have h := And.left h c7
      refine j_lload_n C dX6_addPersons_73 1 rfl rfl ?_
      refine j_aload_n C dX6_addPersons_74 0 rfl rfl ?_
      refine j_iload C dX6_addPersons_75 2 rfl ?_
      refine j_callVi (st := [.long x3]) C 0 [.int x5] (m_X6_apart C.wok h) cv_RX6_254 rk_X6_addPersons_X6_apart rfl (rc_0 w) rfl (Nat.le_of_ble_eq_true rfl) dX6_addPersons_77 (fun r9 S8 h => ?_)
      refine j_callSl (st := []) C [.long x3, .int r9] (m_X6_add C.wok h) cv_RX6_239 rk_X6_addPersons_X6_add rfl rfl (Nat.le_of_ble_eq_true rfl) dX6_addPersons_80 (fun r11 S10 h => ?_)
      refine j_lstore_n (lv' := [(3, .long r11), (0, rr w 0), (5, .int x5), (6, .int x6)]) C dX6_addPersons_83 rfl (by decide) rfl ?_
      refine j_iinc (lv' := [(5, .int (x5 + 1)), (3, .long r11), (0, rr w 0), (6, .int x6)]) C dX6_addPersons_84 2 rfl rfl (by decide) rfl ?_
      refine j_goto (tgt := 32) C dX6_addPersons_87 (by decide) ?_
      refine j_sub [2, 1, 0] rfl ?_
      exact hK32 _ _ _ h
    · have h := And.right h c7
      refine j_lload_n C dX6_addPersons_54 1 rfl rfl ?_
      refine j_aload_n C dX6_addPersons_55 0 rfl rfl ?_
      refine j_iload C dX6_addPersons_56 2 rfl ?_
      refine j_iload C dX6_addPersons_58 3 rfl ?_
      refine j_callVi (st := [.long x3]) C 0 [.int x5, .int x6] (m_X6_person C.wok h) cv_RX6_251 rk_X6_addPersons_X6_person rfl (rc_0 w) rfl (Nat.le_of_ble_eq_true rfl) dX6_addPersons_60 (fun r13 S12 h => ?_)
      refine j_callSl (st := []) C [.long x3, .int r13] (m_X6_add C.wok h) cv_RX6_239 rk_X6_addPersons_X6_add rfl rfl (Nat.le_of_ble_eq_true rfl) dX6_addPersons_63 (fun r15 S14 h => ?_)
      refine j_lstore_n (lv' := [(3, .long r15), (0, rr w 0), (5, .int x5), (6, .int x6)]) C dX6_addPersons_66 rfl (by decide) rfl ?_
      refine j_iinc (lv' := [(6, .int (x6 + 1)), (3, .long r15), (0, rr w 0), (5, .int x5)]) C dX6_addPersons_67 3 rfl rfl (by decide) rfl ?_
      refine j_goto (tgt := 47) C dX6_addPersons_70 (by decide) ?_
      refine j_sub [2, 1, 3, 0] rfl ?_
      exact hK47 _ _ _ _ h
  exact key (x3, x5, x6, S) h
set_option maxRecDepth 20000 in
theorem t_X6_addPersons_32 {X : Mx} {w : Wt} {l0 : Launch} {Q0 : Int64 → St → Prop} (C : Cx X w l0 cX6_addPersons 7 RX6 rm_X6_addPersons (some .long)) {x3 : Int64} {x5 : Int32} {S : St} (h : Lq (p_X6_addPersons_32 Q0) (x3, x5, S)) : J X w (QL X w Q0) 32 [(0, rr w 0), (3, .long x3), (5, .int x5)] [] S := by
  have key : ∀ a : Int64 × Int32 × St, Lq (p_X6_addPersons_32 Q0) a → J X w (QL X w Q0) 32 [(0, rr w 0), (3, .long a.1), (5, .int a.2.1)] [] a.2.2 := by
    intro a ha
    refine Lq_use (G := fun a => J X w (QL X w Q0) 32 [(0, rr w 0), (3, .long a.1), (5, .int a.2.1)] [] a.2.2) ?_ ha
    intro K32 hK a h
    obtain ⟨x3, x5, S⟩ := a
    have hK32 : ∀ (x3 : Int64) (x5 : Int32) (S : St), K32 (x3, x5, S) → J X w (QL X w Q0) 32 [(0, rr w 0), (3, .long x3), (5, .int x5)] [] S := fun x3 x5 S h => hK (x3, x5, S) h
    show J X w (QL X w Q0) 32 [(0, rr w 0), (3, .long x3), (5, .int x5)] [] S
    refine j_iload C dX6_addPersons_32 2 rfl ?_
    refine j_aload_n C dX6_addPersons_34 0 rfl rfl ?_
    refine gf_RX6_16_0 C dX6_addPersons_35 ?_
    refine gf_RX6_82_2 C dX6_addPersons_38 ?_
    refine j_icmp_ge (tgt := 90) C dX6_addPersons_41 (by decide) (fun c2 => ?_) (fun c2 => ?_)
    · have h := And.left h c2
      refine j_lload_n C dX6_addPersons_90 1 rfl rfl ?_
      refine j_aload_n C dX6_addPersons_91 0 rfl rfl ?_
      refine j_callVi (st := [.long x3]) C 0 [] (m_X6_generous C.wok h) cv_RX6_257 rk_X6_addPersons_X6_generous rfl (rc_0 w) rfl (Nat.le_of_ble_eq_true rfl) dX6_addPersons_92 (fun r4 S3 h => ?_)
      refine j_callSl (st := []) C [.long x3, .int r4] (m_X6_add C.wok h) cv_RX6_239 rk_X6_addPersons_X6_add rfl rfl (Nat.le_of_ble_eq_true rfl) dX6_addPersons_95 (fun r6 S5 h => ?_)
      exact j_lret C dX6_addPersons_98 h
    · have h := And.right h c2
      refine j_iconst C dX6_addPersons_44 (v := 0) (by decide) ?_
      refine j_istore (lv' := [(6, .int 0), (0, rr w 0), (3, .long x3), (5, .int x5)]) C dX6_addPersons_45 (by decide) rfl ?_
      refine j_sub [1, 2, 3, 0] rfl ?_
      exact t_X6_addPersons_47 C hK32 h
  exact key (x3, x5, S) h
set_option maxRecDepth 20000 in
theorem t_X6_addPersons_5 {X : Mx} {w : Wt} {l0 : Launch} {Q0 : Int64 → St → Prop} (C : Cx X w l0 cX6_addPersons 7 RX6 rm_X6_addPersons (some .long)) {x3 : Int64} {x5 : Int32} {S : St} (h : Lq (p_X6_addPersons_5 Q0) (x3, x5, S)) : J X w (QL X w Q0) 5 [(0, rr w 0), (3, .long x3), (5, .int x5)] [] S := by
  have key : ∀ a : Int64 × Int32 × St, Lq (p_X6_addPersons_5 Q0) a → J X w (QL X w Q0) 5 [(0, rr w 0), (3, .long a.1), (5, .int a.2.1)] [] a.2.2 := by
    intro a ha
    refine Lq_use (G := fun a => J X w (QL X w Q0) 5 [(0, rr w 0), (3, .long a.1), (5, .int a.2.1)] [] a.2.2) ?_ ha
    intro K5 hK a h
    obtain ⟨x3, x5, S⟩ := a
    have hK5 : ∀ (x3 : Int64) (x5 : Int32) (S : St), K5 (x3, x5, S) → J X w (QL X w Q0) 5 [(0, rr w 0), (3, .long x3), (5, .int x5)] [] S := fun x3 x5 S h => hK (x3, x5, S) h
    show J X w (QL X w Q0) 5 [(0, rr w 0), (3, .long x3), (5, .int x5)] [] S
    refine j_iload C dX6_addPersons_5 2 rfl ?_
    refine j_bipush C dX6_addPersons_7 (v := 7) (by decide) ?_
    refine j_icmp_gt (tgt := 29) C dX6_addPersons_9 (by decide) (fun c1 => ?_) (fun c1 => ?_)
    · have h := And.left h c1
      refine j_iconst C dX6_addPersons_29 (v := 0) (by decide) ?_
      refine j_istore (lv' := [(5, .int 0), (0, rr w 0), (3, .long x3)]) C dX6_addPersons_30 (by decide) rfl ?_
      refine j_sub [1, 2, 0] rfl ?_
      exact t_X6_addPersons_32 C h
    · have h := And.right h c1
      refine j_lload_n C dX6_addPersons_12 1 rfl rfl ?_
      refine j_aload_n C dX6_addPersons_13 0 rfl rfl ?_
      refine j_iload C dX6_addPersons_14 2 rfl ?_
      refine j_callVi (st := [.long x3]) C 0 [.int x5] (m_X6_about C.wok h) cv_RX6_248 rk_X6_addPersons_X6_about rfl (rc_0 w) rfl (Nat.le_of_ble_eq_true rfl) dX6_addPersons_16 (fun r17 S16 h => ?_)
      refine j_callSl (st := []) C [.long x3, .int r17] (m_X6_add C.wok h) cv_RX6_239 rk_X6_addPersons_X6_add rfl rfl (Nat.le_of_ble_eq_true rfl) dX6_addPersons_19 (fun r19 S18 h => ?_)
      refine j_lstore_n (lv' := [(3, .long r19), (0, rr w 0), (5, .int x5)]) C dX6_addPersons_22 rfl (by decide) rfl ?_
      refine j_iinc (lv' := [(5, .int (x5 + 1)), (3, .long r19), (0, rr w 0)]) C dX6_addPersons_23 2 rfl rfl (by decide) rfl ?_
      refine j_goto (tgt := 5) C dX6_addPersons_26 (by decide) ?_
      refine j_sub [2, 1, 0] rfl ?_
      exact hK5 _ _ _ h
  exact key (x3, x5, S) h
set_option maxRecDepth 20000 in
theorem m_X6_addPersons {l : Launch} {w : Wt} (hw : WOK w) {x1 : Int64} {S : St} {Q0 : Int64 → St → Prop} (h : p_X6_addPersons x1 S Q0) : ML l w yX6_addPersons cX6_addPersons 7 rm_X6_addPersons [rr w 0, .long x1] S Q0 := by
  refine m_ML (own := RX6) (lv := [(0, rr w 0), (1, .long x1)]) hw (by decide) rfl (Nat.le_of_ble_eq_true rfl) rfl (fun X C => ?_)
  refine j_lload_n C dX6_addPersons_0 1 rfl rfl ?_
  refine j_lstore_n (lv' := [(3, .long x1), (0, rr w 0), (1, .long x1)]) C dX6_addPersons_1 rfl (by decide) rfl ?_
  refine j_iconst C dX6_addPersons_2 (v := 0) (by decide) ?_
  refine j_istore (lv' := [(5, .int 0), (3, .long x1), (0, rr w 0), (1, .long x1)]) C dX6_addPersons_3 (by decide) rfl ?_
  refine j_sub [2, 1, 0] rfl ?_
  exact t_X6_addPersons_5 C h
def rm_X6_addTrust : Room := { frames := 5, cells := 0, slots := 0, locals := 118 }
theorem rk_X6_addTrust_X6_add : roomOk rm_X6_add rm_X6_addTrust 3 := ⟨⟨rfl, rfl⟩, Nat.le_of_ble_eq_true rfl, Nat.le_of_ble_eq_true rfl⟩
theorem rk_X6_addTrust_X6_cut : roomOk rm_X6_cut rm_X6_addTrust 5 := ⟨⟨rfl, rfl⟩, Nat.le_of_ble_eq_true rfl, Nat.le_of_ble_eq_true rfl⟩
theorem rk_X6_addTrust_X6_dearest : roomOk rm_X6_dearest rm_X6_addTrust 6 := ⟨⟨rfl, rfl⟩, Nat.le_of_ble_eq_true rfl, Nat.le_of_ble_eq_true rfl⟩
theorem rk_X6_addTrust_X6_trust : roomOk rm_X6_trust rm_X6_addTrust 3 := ⟨⟨rfl, rfl⟩, Nat.le_of_ble_eq_true rfl, Nat.le_of_ble_eq_true rfl⟩
theorem rk_X6_addTrust_X6_without : roomOk rm_X6_without rm_X6_addTrust 4 := ⟨⟨rfl, rfl⟩, Nat.le_of_ble_eq_true rfl, Nat.le_of_ble_eq_true rfl⟩
set_option maxRecDepth 20000 in
theorem t_X6_addTrust_76 {X : Mx} {w : Wt} {l0 : Launch} {Q0 : Int64 → St → Prop} (C : Cx X w l0 cX6_addTrust 7 RX6 rm_X6_addTrust (some .long)) {x3 : Int64} {x5 : Int32} {x6 : Int32} {S : St} (h : Lq (p_X6_addTrust_76 Q0) (x3, x5, x6, S)) : J X w (QL X w Q0) 76 [(0, rr w 0), (3, .long x3), (5, .int x5), (6, .int x6)] [] S := by
  have key : ∀ a : Int64 × Int32 × Int32 × St, Lq (p_X6_addTrust_76 Q0) a → J X w (QL X w Q0) 76 [(0, rr w 0), (3, .long a.1), (5, .int a.2.1), (6, .int a.2.2.1)] [] a.2.2.2 := by
    intro a ha
    refine Lq_use (G := fun a => J X w (QL X w Q0) 76 [(0, rr w 0), (3, .long a.1), (5, .int a.2.1), (6, .int a.2.2.1)] [] a.2.2.2) ?_ ha
    intro K76 hK a h
    obtain ⟨x3, x5, x6, S⟩ := a
    have hK76 : ∀ (x3 : Int64) (x5 : Int32) (x6 : Int32) (S : St), K76 (x3, x5, x6, S) → J X w (QL X w Q0) 76 [(0, rr w 0), (3, .long x3), (5, .int x5), (6, .int x6)] [] S := fun x3 x5 x6 S h => hK (x3, x5, x6, S) h
    show J X w (QL X w Q0) 76 [(0, rr w 0), (3, .long x3), (5, .int x5), (6, .int x6)] [] S
    refine j_iload C dX6_addTrust_76 3 rfl ?_
    refine j_iconst C dX6_addTrust_78 (v := 2) (by decide) ?_
    refine j_icmp_gt (tgt := 109) C dX6_addTrust_79 (by decide) (fun c8 => ?_) (fun c8 => ?_)
    · have h := And.left h c8
      refine j_lload_n C dX6_addTrust_109 1 rfl rfl ?_
      exact j_lret C dX6_addTrust_110 h
    · have h := And.right h c8
      refine j_lload_n C dX6_addTrust_82 1 rfl rfl ?_
      refine j_aload_n C dX6_addTrust_83 0 rfl rfl ?_
      refine j_iload C dX6_addTrust_84 2 rfl ?_
      refine j_bipush C dX6_addTrust_86 (v := 10) (by decide) ?_
      refine j_idiv C dX6_addTrust_88 (by decide) ?_
      refine j_iload C dX6_addTrust_89 2 rfl ?_
      refine j_bipush C dX6_addTrust_91 (v := 10) (by decide) ?_
      refine j_irem C dX6_addTrust_93 (by decide) ?_
      refine j_iload C dX6_addTrust_94 3 rfl ?_
      refine j_callVi (st := [.long x3]) C 0 [.int (x5 / 10), .int (x5 - x5 / 10 * 10), .int x6] (m_X6_without C.wok h) cv_RX6_269 rk_X6_addTrust_X6_without rfl (rc_0 w) rfl (Nat.le_of_ble_eq_true rfl) dX6_addTrust_96 (fun r10 S9 h => ?_)
      refine j_callSl (st := []) C [.long x3, .int r10] (m_X6_add C.wok h) cv_RX6_239 rk_X6_addTrust_X6_add rfl rfl (Nat.le_of_ble_eq_true rfl) dX6_addTrust_99 (fun r12 S11 h => ?_)
      refine j_lstore_n (lv' := [(3, .long r12), (0, rr w 0), (5, .int x5), (6, .int x6)]) C dX6_addTrust_102 rfl (by decide) rfl ?_
      refine j_iinc (lv' := [(6, .int (x6 + 1)), (3, .long r12), (0, rr w 0), (5, .int x5)]) C dX6_addTrust_103 3 rfl rfl (by decide) rfl ?_
      refine j_goto (tgt := 76) C dX6_addTrust_106 (by decide) ?_
      refine j_sub [2, 1, 3, 0] rfl ?_
      exact hK76 _ _ _ _ h
  exact key (x3, x5, x6, S) h
set_option maxRecDepth 20000 in
theorem t_X6_addTrust_31 {X : Mx} {w : Wt} {l0 : Launch} {Q0 : Int64 → St → Prop} (C : Cx X w l0 cX6_addTrust 7 RX6 rm_X6_addTrust (some .long)) {x3 : Int64} {x5 : Int32} {S : St} (h : Lq (p_X6_addTrust_31 Q0) (x3, x5, S)) : J X w (QL X w Q0) 31 [(0, rr w 0), (3, .long x3), (5, .int x5)] [] S := by
  have key : ∀ a : Int64 × Int32 × St, Lq (p_X6_addTrust_31 Q0) a → J X w (QL X w Q0) 31 [(0, rr w 0), (3, .long a.1), (5, .int a.2.1)] [] a.2.2 := by
    intro a ha
    refine Lq_use (G := fun a => J X w (QL X w Q0) 31 [(0, rr w 0), (3, .long a.1), (5, .int a.2.1)] [] a.2.2) ?_ ha
    intro K31 hK a h
    obtain ⟨x3, x5, S⟩ := a
    have hK31 : ∀ (x3 : Int64) (x5 : Int32) (S : St), K31 (x3, x5, S) → J X w (QL X w Q0) 31 [(0, rr w 0), (3, .long x3), (5, .int x5)] [] S := fun x3 x5 S h => hK (x3, x5, S) h
    show J X w (QL X w Q0) 31 [(0, rr w 0), (3, .long x3), (5, .int x5)] [] S
    refine j_iload C dX6_addTrust_31 2 rfl ?_
    refine j_iconst C dX6_addTrust_33 (v := 2) (by decide) ?_
    refine j_icmp_gt (tgt := 54) C dX6_addTrust_34 (by decide) (fun c2 => ?_) (fun c2 => ?_)
    · have h := And.left h c2
      refine j_aload_n C dX6_addTrust_54 0 rfl rfl ?_
      refine j_callVi (st := []) C 0 [] (m_X6_dearest C.wok h) cv_RX6_266 rk_X6_addTrust_X6_dearest rfl (rc_0 w) rfl (Nat.le_of_ble_eq_true rfl) dX6_addTrust_55 (fun r4 S3 h => ?_)
      refine j_istore (lv' := [(5, .int r4), (0, rr w 0), (3, .long x3)]) C dX6_addTrust_58 (by decide) rfl ?_
      refine j_lload_n C dX6_addTrust_60 2 rfl rfl ?_
      refine j_iload C dX6_addTrust_61 0 rfl ?_
      refine j_callSl (st := []) C [.long x3, .int r4] (m_X6_add C.wok h) cv_RX6_239 rk_X6_addTrust_X6_add rfl rfl (Nat.le_of_ble_eq_true rfl) dX6_addTrust_63 (fun r6 S5 h => ?_)
      refine j_lstore_n (lv' := [(3, .long r6), (5, .int r4), (0, rr w 0)]) C dX6_addTrust_66 rfl (by decide) rfl ?_
      refine j_iload C dX6_addTrust_67 1 rfl ?_
      refine j_iconst C dX6_addTrust_69 (v := (-1)) (by decide) ?_
      refine j_icmp_eq (tgt := 109) C dX6_addTrust_70 (by decide) (fun c7 => ?_) (fun c7 => ?_)
      · have h := And.left h c7
        refine j_lload_n C dX6_addTrust_109 0 rfl rfl ?_
        exact j_lret C dX6_addTrust_110 h
      · have h := And.right h c7
        refine j_iconst C dX6_addTrust_73 (v := 0) (by decide) ?_
        refine j_istore (lv' := [(6, .int 0), (3, .long r6), (5, .int r4), (0, rr w 0)]) C dX6_addTrust_74 (by decide) rfl ?_
        refine j_sub [3, 1, 2, 0] rfl ?_
        exact t_X6_addTrust_76 C h
    · have h := And.right h c2
      refine j_lload_n C dX6_addTrust_37 1 rfl rfl ?_
      refine j_aload_n C dX6_addTrust_38 0 rfl rfl ?_
      refine j_iload C dX6_addTrust_39 2 rfl ?_
      refine j_callVi (st := [.long x3]) C 0 [.int x5] (m_X6_cut C.wok h) cv_RX6_263 rk_X6_addTrust_X6_cut rfl (rc_0 w) rfl (Nat.le_of_ble_eq_true rfl) dX6_addTrust_41 (fun r14 S13 h => ?_)
      refine j_callSl (st := []) C [.long x3, .int r14] (m_X6_add C.wok h) cv_RX6_239 rk_X6_addTrust_X6_add rfl rfl (Nat.le_of_ble_eq_true rfl) dX6_addTrust_44 (fun r16 S15 h => ?_)
      refine j_lstore_n (lv' := [(3, .long r16), (0, rr w 0), (5, .int x5)]) C dX6_addTrust_47 rfl (by decide) rfl ?_
      refine j_iinc (lv' := [(5, .int (x5 + 1)), (3, .long r16), (0, rr w 0)]) C dX6_addTrust_48 2 rfl rfl (by decide) rfl ?_
      refine j_goto (tgt := 31) C dX6_addTrust_51 (by decide) ?_
      refine j_sub [2, 1, 0] rfl ?_
      exact hK31 _ _ _ h
  exact key (x3, x5, S) h
set_option maxRecDepth 20000 in
theorem t_X6_addTrust_5 {X : Mx} {w : Wt} {l0 : Launch} {Q0 : Int64 → St → Prop} (C : Cx X w l0 cX6_addTrust 7 RX6 rm_X6_addTrust (some .long)) {x3 : Int64} {x5 : Int32} {S : St} (h : Lq (p_X6_addTrust_5 Q0) (x3, x5, S)) : J X w (QL X w Q0) 5 [(0, rr w 0), (3, .long x3), (5, .int x5)] [] S := by
  have key : ∀ a : Int64 × Int32 × St, Lq (p_X6_addTrust_5 Q0) a → J X w (QL X w Q0) 5 [(0, rr w 0), (3, .long a.1), (5, .int a.2.1)] [] a.2.2 := by
    intro a ha
    refine Lq_use (G := fun a => J X w (QL X w Q0) 5 [(0, rr w 0), (3, .long a.1), (5, .int a.2.1)] [] a.2.2) ?_ ha
    intro K5 hK a h
    obtain ⟨x3, x5, S⟩ := a
    have hK5 : ∀ (x3 : Int64) (x5 : Int32) (S : St), K5 (x3, x5, S) → J X w (QL X w Q0) 5 [(0, rr w 0), (3, .long x3), (5, .int x5)] [] S := fun x3 x5 S h => hK (x3, x5, S) h
    show J X w (QL X w Q0) 5 [(0, rr w 0), (3, .long x3), (5, .int x5)] [] S
    refine j_iload C dX6_addTrust_5 2 rfl ?_
    refine j_iconst C dX6_addTrust_7 (v := 4) (by decide) ?_
    refine j_icmp_gt (tgt := 28) C dX6_addTrust_8 (by decide) (fun c1 => ?_) (fun c1 => ?_)
    · have h := And.left h c1
      refine j_iconst C dX6_addTrust_28 (v := 0) (by decide) ?_
      refine j_istore (lv' := [(5, .int 0), (0, rr w 0), (3, .long x3)]) C dX6_addTrust_29 (by decide) rfl ?_
      refine j_sub [1, 2, 0] rfl ?_
      exact t_X6_addTrust_31 C h
    · have h := And.right h c1
      refine j_lload_n C dX6_addTrust_11 1 rfl rfl ?_
      refine j_aload_n C dX6_addTrust_12 0 rfl rfl ?_
      refine j_iload C dX6_addTrust_13 2 rfl ?_
      refine j_callVi (st := [.long x3]) C 0 [.int x5] (m_X6_trust C.wok h) cv_RX6_260 rk_X6_addTrust_X6_trust rfl (rc_0 w) rfl (Nat.le_of_ble_eq_true rfl) dX6_addTrust_15 (fun r18 S17 h => ?_)
      refine j_callSl (st := []) C [.long x3, .int r18] (m_X6_add C.wok h) cv_RX6_239 rk_X6_addTrust_X6_add rfl rfl (Nat.le_of_ble_eq_true rfl) dX6_addTrust_18 (fun r20 S19 h => ?_)
      refine j_lstore_n (lv' := [(3, .long r20), (0, rr w 0), (5, .int x5)]) C dX6_addTrust_21 rfl (by decide) rfl ?_
      refine j_iinc (lv' := [(5, .int (x5 + 1)), (3, .long r20), (0, rr w 0)]) C dX6_addTrust_22 2 rfl rfl (by decide) rfl ?_
      refine j_goto (tgt := 5) C dX6_addTrust_25 (by decide) ?_
      refine j_sub [2, 1, 0] rfl ?_
      exact hK5 _ _ _ h
  exact key (x3, x5, S) h
set_option maxRecDepth 20000 in
theorem m_X6_addTrust {l : Launch} {w : Wt} (hw : WOK w) {x1 : Int64} {S : St} {Q0 : Int64 → St → Prop} (h : p_X6_addTrust x1 S Q0) : ML l w yX6_addTrust cX6_addTrust 7 rm_X6_addTrust [rr w 0, .long x1] S Q0 := by
  refine m_ML (own := RX6) (lv := [(0, rr w 0), (1, .long x1)]) hw (by decide) rfl (Nat.le_of_ble_eq_true rfl) rfl (fun X C => ?_)
  refine j_lload_n C dX6_addTrust_0 1 rfl rfl ?_
  refine j_lstore_n (lv' := [(3, .long x1), (0, rr w 0), (1, .long x1)]) C dX6_addTrust_1 rfl (by decide) rfl ?_
  refine j_iconst C dX6_addTrust_2 (v := 0) (by decide) ?_
  refine j_istore (lv' := [(5, .int 0), (3, .long x1), (0, rr w 0), (1, .long x1)]) C dX6_addTrust_3 (by decide) rfl ?_
  refine j_sub [2, 1, 0] rfl ?_
  exact t_X6_addTrust_5 C h
def rm_X6_digest : Room := { frames := 6, cells := 0, slots := 0, locals := 144 }
theorem rk_X6_digest_X0_exists : roomOk rm_X0_exists rm_X6_digest 1 := ⟨⟨rfl, rfl⟩, Nat.le_of_ble_eq_true rfl, Nat.le_of_ble_eq_true rfl⟩
theorem rk_X6_digest_X0_ofKind : roomOk rm_X0_ofKind rm_X6_digest 4 := ⟨⟨rfl, rfl⟩, Nat.le_of_ble_eq_true rfl, Nat.le_of_ble_eq_true rfl⟩
theorem rk_X6_digest_X6_add : roomOk rm_X6_add rm_X6_digest 3 := ⟨⟨rfl, rfl⟩, Nat.le_of_ble_eq_true rfl, Nat.le_of_ble_eq_true rfl⟩
theorem rk_X6_digest_X6_addInk : roomOk rm_X6_addInk rm_X6_digest 6 := ⟨⟨rfl, rfl⟩, Nat.le_of_ble_eq_true rfl, Nat.le_of_ble_eq_true rfl⟩
theorem rk_X6_digest_X6_addPersons : roomOk rm_X6_addPersons rm_X6_digest 7 := ⟨⟨rfl, rfl⟩, Nat.le_of_ble_eq_true rfl, Nat.le_of_ble_eq_true rfl⟩
theorem rk_X6_digest_X6_addTrust : roomOk rm_X6_addTrust rm_X6_digest 7 := ⟨⟨rfl, rfl⟩, Nat.le_of_ble_eq_true rfl, Nat.le_of_ble_eq_true rfl⟩
theorem rk_X6_digest_X6_addWalks : roomOk rm_X6_addWalks rm_X6_digest 7 := ⟨⟨rfl, rfl⟩, Nat.le_of_ble_eq_true rfl, Nat.le_of_ble_eq_true rfl⟩
theorem rk_X6_digest_X6_count : roomOk rm_X6_count rm_X6_digest 2 := ⟨⟨rfl, rfl⟩, Nat.le_of_ble_eq_true rfl, Nat.le_of_ble_eq_true rfl⟩
set_option maxRecDepth 20000 in
theorem t_X6_digest_78 {X : Mx} {w : Wt} {l0 : Launch} {Q0 : Int64 → St → Prop} (C : Cx X w l0 cX6_digest 4 RX6 rm_X6_digest (some .long)) {x1 : Int64} {x3 : Int32} {S : St} (h : Lq (p_X6_digest_78 Q0) (x1, x3, S)) : J X w (QL X w Q0) 78 [(0, rr w 0), (1, .long x1), (3, .int x3)] [] S := by
  have key : ∀ a : Int64 × Int32 × St, Lq (p_X6_digest_78 Q0) a → J X w (QL X w Q0) 78 [(0, rr w 0), (1, .long a.1), (3, .int a.2.1)] [] a.2.2 := by
    intro a ha
    refine Lq_use (G := fun a => J X w (QL X w Q0) 78 [(0, rr w 0), (1, .long a.1), (3, .int a.2.1)] [] a.2.2) ?_ ha
    intro K78 hK a h
    obtain ⟨x1, x3, S⟩ := a
    have hK78 : ∀ (x1 : Int64) (x3 : Int32) (S : St), K78 (x1, x3, S) → J X w (QL X w Q0) 78 [(0, rr w 0), (1, .long x1), (3, .int x3)] [] S := fun x1 x3 S h => hK (x1, x3, S) h
    show J X w (QL X w Q0) 78 [(0, rr w 0), (1, .long x1), (3, .int x3)] [] S
    refine j_iload_n C dX6_digest_78 2 rfl rfl ?_
    refine j_iconst C dX6_digest_79 (v := 4) (by decide) ?_
    refine j_icmp_gt (tgt := 99) C dX6_digest_80 (by decide) (fun c8 => ?_) (fun c8 => ?_)
    · have h := And.left h c8
      refine j_lload_n C dX6_digest_99 1 rfl rfl ?_
      exact j_lret C dX6_digest_100 h
    · have h := And.right h c8
      refine j_lload_n C dX6_digest_83 1 rfl rfl ?_
      refine j_aload_n C dX6_digest_84 0 rfl rfl ?_
      refine j_iload_n C dX6_digest_85 2 rfl rfl ?_
      refine j_callVi (st := [.long x1]) C 0 [.int x3] (m_X6_count C.wok h) cv_RX6_243 rk_X6_digest_X6_count rfl (rc_0 w) rfl (Nat.le_of_ble_eq_true rfl) dX6_digest_86 (fun r10 S9 h => ?_)
      refine j_callSl (st := []) C [.long x1, .int r10] (m_X6_add C.wok h) cv_RX6_239 rk_X6_digest_X6_add rfl rfl (Nat.le_of_ble_eq_true rfl) dX6_digest_89 (fun r12 S11 h => ?_)
      refine j_lstore_n (lv' := [(1, .long r12), (0, rr w 0), (3, .int x3)]) C dX6_digest_92 rfl (by decide) rfl ?_
      refine j_iinc (lv' := [(3, .int (x3 + 1)), (1, .long r12), (0, rr w 0)]) C dX6_digest_93 2 rfl rfl (by decide) rfl ?_
      refine j_goto (tgt := 78) C dX6_digest_96 (by decide) ?_
      refine j_sub [2, 1, 0] rfl ?_
      exact hK78 _ _ _ h
  exact key (x1, x3, S) h
set_option maxRecDepth 20000 in
theorem t_X6_digest_51 {X : Mx} {w : Wt} {l0 : Launch} {Q0 : Int64 → St → Prop} (C : Cx X w l0 cX6_digest 4 RX6 rm_X6_digest (some .long)) {x1 : Int64} {x3 : Int32} {S : St} (h : Lq (p_X6_digest_51 Q0) (x1, x3, S)) : J X w (QL X w Q0) 51 [(0, rr w 0), (1, .long x1), (3, .int x3)] [] S := by
  have key : ∀ a : Int64 × Int32 × St, Lq (p_X6_digest_51 Q0) a → J X w (QL X w Q0) 51 [(0, rr w 0), (1, .long a.1), (3, .int a.2.1)] [] a.2.2 := by
    intro a ha
    refine Lq_use (G := fun a => J X w (QL X w Q0) 51 [(0, rr w 0), (1, .long a.1), (3, .int a.2.1)] [] a.2.2) ?_ ha
    intro K51 hK a h
    obtain ⟨x1, x3, S⟩ := a
    have hK51 : ∀ (x1 : Int64) (x3 : Int32) (S : St), K51 (x1, x3, S) → J X w (QL X w Q0) 51 [(0, rr w 0), (1, .long x1), (3, .int x3)] [] S := fun x1 x3 S h => hK (x1, x3, S) h
    show J X w (QL X w Q0) 51 [(0, rr w 0), (1, .long x1), (3, .int x3)] [] S
    refine j_iload_n C dX6_digest_51 2 rfl rfl ?_
    refine j_aload_n C dX6_digest_52 0 rfl rfl ?_
    refine gf_RX6_53_0 C dX6_digest_53 ?_
    refine j_icmp_ge (tgt := 76) C dX6_digest_56 (by decide) (fun c7 => ?_) (fun c7 => ?_)
    · have h := And.left h c7
      refine j_iconst C dX6_digest_76 (v := 0) (by decide) ?_
      refine j_istore_n (lv' := [(3, .int 0), (0, rr w 0), (1, .long x1)]) C dX6_digest_77 rfl (by decide) rfl ?_
      refine j_sub [1, 2, 0] rfl ?_
      exact t_X6_digest_78 C h
    · have h := And.right h c7
      refine j_lload_n C dX6_digest_59 1 rfl rfl ?_
      refine j_aload_n C dX6_digest_60 0 rfl rfl ?_
      refine gf_RX6_9_0 C dX6_digest_61 ?_
      refine j_iload_n C dX6_digest_64 2 rfl rfl ?_
      refine al_1 C dX6_digest_65 (And.left h) ?_
      have h := And.right h
      refine j_callSl (st := []) C [.long x1, .int (S.1 1 x3.toNatClampNeg)] (m_X6_add C.wok h) cv_RX6_239 rk_X6_digest_X6_add rfl rfl (Nat.le_of_ble_eq_true rfl) dX6_digest_66 (fun r14 S13 h => ?_)
      refine j_lstore_n (lv' := [(1, .long r14), (0, rr w 0), (3, .int x3)]) C dX6_digest_69 rfl (by decide) rfl ?_
      refine j_iinc (lv' := [(3, .int (x3 + 1)), (1, .long r14), (0, rr w 0)]) C dX6_digest_70 2 rfl rfl (by decide) rfl ?_
      refine j_goto (tgt := 51) C dX6_digest_73 (by decide) ?_
      refine j_sub [2, 1, 0] rfl ?_
      exact hK51 _ _ _ h
  exact key (x1, x3, S) h
set_option maxRecDepth 20000 in
theorem t_X6_digest_49 {X : Mx} {w : Wt} {l0 : Launch} {Q0 : Int64 → St → Prop} (C : Cx X w l0 cX6_digest 4 RX6 rm_X6_digest (some .long)) {x1 : Int64} {S : St} (h : p_X6_digest_49 Q0 x1 S) : J X w (QL X w Q0) 49 [(0, rr w 0), (1, .long x1)] [] S := by
  refine j_iconst C dX6_digest_49 (v := 0) (by decide) ?_
  refine j_istore_n (lv' := [(3, .int 0), (0, rr w 0), (1, .long x1)]) C dX6_digest_50 rfl (by decide) rfl ?_
  refine j_sub [1, 2, 0] rfl ?_
  exact t_X6_digest_51 C h
set_option maxRecDepth 20000 in
theorem t_X6_digest_32 {X : Mx} {w : Wt} {l0 : Launch} {Q0 : Int64 → St → Prop} (C : Cx X w l0 cX6_digest 4 RX6 rm_X6_digest (some .long)) {x1 : Int64} {S : St} (h : p_X6_digest_32 Q0 x1 S) : J X w (QL X w Q0) 32 [(0, rr w 0), (1, .long x1)] [] S := by
  refine j_aload_n C dX6_digest_32 0 rfl rfl ?_
  refine gf_RX6_16_0 C dX6_digest_33 ?_
  refine j_iconst C dX6_digest_36 (v := 1) (by decide) ?_
  refine j_callVi (st := []) C 2 [.int 1] (m_X0_ofKind C.wok h) cv_RX6_106 rk_X6_digest_X0_ofKind rfl (rc_2 w) rfl (Nat.le_of_ble_eq_true rfl) dX6_digest_37 (fun r5 S4 h => ?_)
  refine j_if_eq (tgt := 49) C dX6_digest_40 (by decide) (fun c6 => ?_) (fun c6 => ?_)
  · have h := And.left h c6
    exact t_X6_digest_49 C h
  · have h := And.right h c6
    refine j_aload_n C dX6_digest_43 0 rfl rfl ?_
    refine j_lload_n C dX6_digest_44 1 rfl rfl ?_
    refine j_callVl (st := []) C 0 [.long x1] (m_X6_addWalks C.wok h) cv_RX6_236 rk_X6_digest_X6_addWalks rfl (rc_0 w) rfl (Nat.le_of_ble_eq_true rfl) dX6_digest_45 (fun r16 S15 h => ?_)
    refine j_lstore_n (lv' := [(1, .long r16), (0, rr w 0)]) C dX6_digest_48 rfl (by decide) rfl ?_
    refine j_sub [1, 0] rfl ?_
    exact t_X6_digest_49 C h
set_option maxRecDepth 20000 in
theorem m_X6_digest {l : Launch} {w : Wt} (hw : WOK w) {S : St} {Q0 : Int64 → St → Prop} (h : p_X6_digest S Q0) : ML l w yX6_digest cX6_digest 4 rm_X6_digest [rr w 0] S Q0 := by
  refine m_ML (own := RX6) (lv := [(0, rr w 0)]) hw (by decide) rfl (Nat.le_of_ble_eq_true rfl) rfl (fun X C => ?_)
  refine j_ldc2 C dX6_digest_0 k_681 ?_
  refine j_lstore_n (lv' := [(1, .long 1553), (0, rr w 0)]) C dX6_digest_3 rfl (by decide) rfl ?_
  refine j_aload_n C dX6_digest_4 1 rfl rfl ?_
  refine gf_RX6_16_0 C dX6_digest_5 ?_
  refine j_callVi (st := []) C 2 [] (m_X0_exists C.wok h) cv_RX6_85 rk_X6_digest_X0_exists rfl (rc_2 w) rfl (Nat.le_of_ble_eq_true rfl) dX6_digest_8 (fun r2 S1 h => ?_)
  refine j_if_eq (tgt := 32) C dX6_digest_11 (by decide) (fun c3 => ?_) (fun c3 => ?_)
  · have h := And.left h c3
    refine j_sub [1, 0] rfl ?_
    exact t_X6_digest_32 C h
  · have h := And.right h c3
    refine j_aload_n C dX6_digest_14 1 rfl rfl ?_
    refine j_lload_n C dX6_digest_15 0 rfl rfl ?_
    refine j_callVl (st := []) C 0 [.long 1553] (m_X6_addInk C.wok h) cv_RX6_226 rk_X6_digest_X6_addInk rfl (rc_0 w) rfl (Nat.le_of_ble_eq_true rfl) dX6_digest_16 (fun r18 S17 h => ?_)
    refine j_lstore_n (lv' := [(1, .long r18), (0, rr w 0)]) C dX6_digest_19 rfl (by decide) rfl ?_
    refine j_aload_n C dX6_digest_20 1 rfl rfl ?_
    refine j_lload_n C dX6_digest_21 0 rfl rfl ?_
    refine j_callVl (st := []) C 0 [.long r18] (m_X6_addPersons C.wok h) cv_RX6_230 rk_X6_digest_X6_addPersons rfl (rc_0 w) rfl (Nat.le_of_ble_eq_true rfl) dX6_digest_22 (fun r20 S19 h => ?_)
    refine j_lstore_n (lv' := [(1, .long r20), (0, rr w 0)]) C dX6_digest_25 rfl (by decide) rfl ?_
    refine j_aload_n C dX6_digest_26 1 rfl rfl ?_
    refine j_lload_n C dX6_digest_27 0 rfl rfl ?_
    refine j_callVl (st := []) C 0 [.long r20] (m_X6_addTrust C.wok h) cv_RX6_233 rk_X6_digest_X6_addTrust rfl (rc_0 w) rfl (Nat.le_of_ble_eq_true rfl) dX6_digest_28 (fun r22 S21 h => ?_)
    refine j_lstore_n (lv' := [(1, .long r22), (0, rr w 0)]) C dX6_digest_31 rfl (by decide) rfl ?_
    refine j_sub [1, 0] rfl ?_
    exact t_X6_digest_32 C h
def rm_X7_mix : Room := { frames := 0, cells := 0, slots := 0, locals := 0 }
set_option maxRecDepth 20000 in
theorem m_X7_mix {l : Launch} {w : Wt} (hw : WOK w) {x1 : Int64} {S : St} {Q0 : St → Prop} (h : p_X7_mix x1 S Q0) : MV l w yX7_mix cX7_mix 3 rm_X7_mix [rr w 25, .long x1] S Q0 := by
  refine m_MV (own := RX7) (lv := [(0, rr w 25), (1, .long x1)]) hw (by decide) rfl (Nat.le_of_ble_eq_true rfl) rfl (fun X C => ?_)
  refine j_aload_n C dX7_mix_0 0 rfl rfl ?_
  refine j_ldc2 C dX7_mix_1 k_1131 ?_
  refine j_aload_n C dX7_mix_4 0 rfl rfl ?_
  refine gf_RX7_279_25 C dX7_mix_5 ?_
  refine j_lmul C dX7_mix_8 ?_
  refine j_lload_n C dX7_mix_9 1 rfl rfl ?_
  refine j_ladd C dX7_mix_10 ?_
  refine pf_RX7_279_25 C dX7_mix_11 (fun S1 eS1 => ?_)
  have h := h S1 eS1
  exact j_vret C dX7_mix_14 h
def rm_X7_mixWalk : Room := { frames := 4, cells := 0, slots := 0, locals := 95 }
theorem rk_X7_mixWalk_X7_chanceNow : roomOk rm_X7_chanceNow rm_X7_mixWalk 6 := ⟨⟨rfl, rfl⟩, Nat.le_of_ble_eq_true rfl, Nat.le_of_ble_eq_true rfl⟩
theorem rk_X7_mixWalk_X7_mix : roomOk rm_X7_mix rm_X7_mixWalk 3 := ⟨⟨rfl, rfl⟩, Nat.le_of_ble_eq_true rfl, Nat.le_of_ble_eq_true rfl⟩
theorem rk_X7_mixWalk_X7_orderNow : roomOk rm_X7_orderNow rm_X7_mixWalk 4 := ⟨⟨rfl, rfl⟩, Nat.le_of_ble_eq_true rfl, Nat.le_of_ble_eq_true rfl⟩
theorem rk_X7_mixWalk_X7_thousandthsNow : roomOk rm_X7_thousandthsNow rm_X7_mixWalk 3 := ⟨⟨rfl, rfl⟩, Nat.le_of_ble_eq_true rfl, Nat.le_of_ble_eq_true rfl⟩
set_option maxRecDepth 20000 in
theorem t_X7_mixWalk_53 {X : Mx} {w : Wt} {l0 : Launch} {Q0 : St → Prop} (C : Cx X w l0 cX7_mixWalk 3 RX7 rm_X7_mixWalk none) {x1 : Int32} {x2 : Int32} {S : St} (h : Lq (p_X7_mixWalk_53 Q0) (x1, x2, S)) : J X w (QV X w Q0) 53 [(0, rr w 25), (1, .int x1), (2, .int x2)] [] S := by
  have key : ∀ a : Int32 × Int32 × St, Lq (p_X7_mixWalk_53 Q0) a → J X w (QV X w Q0) 53 [(0, rr w 25), (1, .int a.1), (2, .int a.2.1)] [] a.2.2 := by
    intro a ha
    refine Lq_use (G := fun a => J X w (QV X w Q0) 53 [(0, rr w 25), (1, .int a.1), (2, .int a.2.1)] [] a.2.2) ?_ ha
    intro K53 hK a h
    obtain ⟨x1, x2, S⟩ := a
    have hK53 : ∀ (x1 : Int32) (x2 : Int32) (S : St), K53 (x1, x2, S) → J X w (QV X w Q0) 53 [(0, rr w 25), (1, .int x1), (2, .int x2)] [] S := fun x1 x2 S h => hK (x1, x2, S) h
    show J X w (QV X w Q0) 53 [(0, rr w 25), (1, .int x1), (2, .int x2)] [] S
    refine j_iload_n C dX7_mixWalk_53 2 rfl rfl ?_
    refine j_aload_n C dX7_mixWalk_54 0 rfl rfl ?_
    refine gf_RX7_111_25 C dX7_mixWalk_55 ?_
    refine j_icmp_ge (tgt := 78) C dX7_mixWalk_58 (by decide) (fun c2 => ?_) (fun c2 => ?_)
    · have h := And.left h c2
      exact j_vret C dX7_mixWalk_78 h
    · have h := And.right h c2
      refine j_aload_n C dX7_mixWalk_61 0 rfl rfl ?_
      refine j_aload_n C dX7_mixWalk_62 0 rfl rfl ?_
      refine j_iload_n C dX7_mixWalk_63 1 rfl rfl ?_
      refine j_iload_n C dX7_mixWalk_64 2 rfl rfl ?_
      refine j_callVi (st := [rr w 25]) C 25 [.int x1, .int x2] (m_X7_orderNow C.wok h) cv_RX7_271 rk_X7_mixWalk_X7_orderNow rfl (rc_25 w) rfl (Nat.le_of_ble_eq_true rfl) dX7_mixWalk_65 (fun r4 S3 h => ?_)
      refine j_i2l C dX7_mixWalk_68 ?_
      refine j_callVv (st := []) C 25 [.long r4.toInt64] (m_X7_mix C.wok h) cv_RX7_282 rk_X7_mixWalk_X7_mix rfl (rc_25 w) rfl (Nat.le_of_ble_eq_true rfl) dX7_mixWalk_69 (fun S5 h => ?_)
      refine j_iinc (lv' := [(2, .int (x2 + 1)), (0, rr w 25), (1, .int x1)]) C dX7_mixWalk_72 2 rfl rfl (by decide) rfl ?_
      refine j_goto (tgt := 53) C dX7_mixWalk_75 (by decide) ?_
      refine j_sub [1, 2, 0] rfl ?_
      exact hK53 _ _ _ h
  exact key (x1, x2, S) h
set_option maxRecDepth 20000 in
theorem t_X7_mixWalk_2 {X : Mx} {w : Wt} {l0 : Launch} {Q0 : St → Prop} (C : Cx X w l0 cX7_mixWalk 3 RX7 rm_X7_mixWalk none) {x1 : Int32} {x2 : Int32} {S : St} (h : Lq (p_X7_mixWalk_2 Q0) (x1, x2, S)) : J X w (QV X w Q0) 2 [(0, rr w 25), (1, .int x1), (2, .int x2)] [] S := by
  have key : ∀ a : Int32 × Int32 × St, Lq (p_X7_mixWalk_2 Q0) a → J X w (QV X w Q0) 2 [(0, rr w 25), (1, .int a.1), (2, .int a.2.1)] [] a.2.2 := by
    intro a ha
    refine Lq_use (G := fun a => J X w (QV X w Q0) 2 [(0, rr w 25), (1, .int a.1), (2, .int a.2.1)] [] a.2.2) ?_ ha
    intro K2 hK a h
    obtain ⟨x1, x2, S⟩ := a
    have hK2 : ∀ (x1 : Int32) (x2 : Int32) (S : St), K2 (x1, x2, S) → J X w (QV X w Q0) 2 [(0, rr w 25), (1, .int x1), (2, .int x2)] [] S := fun x1 x2 S h => hK (x1, x2, S) h
    show J X w (QV X w Q0) 2 [(0, rr w 25), (1, .int x1), (2, .int x2)] [] S
    refine j_iload_n C dX7_mixWalk_2 2 rfl rfl ?_
    refine j_aload_n C dX7_mixWalk_3 0 rfl rfl ?_
    refine gf_RX7_111_25 C dX7_mixWalk_4 ?_
    refine j_icmp_ge (tgt := 51) C dX7_mixWalk_7 (by decide) (fun c1 => ?_) (fun c1 => ?_)
    · have h := And.left h c1
      refine j_iconst C dX7_mixWalk_51 (v := 0) (by decide) ?_
      refine j_istore_n (lv' := [(2, .int 0), (0, rr w 25), (1, .int x1)]) C dX7_mixWalk_52 rfl (by decide) rfl ?_
      refine j_sub [1, 2, 0] rfl ?_
      exact t_X7_mixWalk_53 C h
    · have h := And.right h c1
      refine j_aload_n C dX7_mixWalk_10 0 rfl rfl ?_
      refine j_aload_n C dX7_mixWalk_11 0 rfl rfl ?_
      refine j_iload_n C dX7_mixWalk_12 2 rfl rfl ?_
      refine j_iload_n C dX7_mixWalk_13 1 rfl rfl ?_
      refine j_iconst C dX7_mixWalk_14 (v := 0) (by decide) ?_
      refine j_callVi (st := [rr w 25]) C 25 [.int x2, .int x1, .int 0] (m_X7_chanceNow C.wok h) cv_RX7_260 rk_X7_mixWalk_X7_chanceNow rfl (rc_25 w) rfl (Nat.le_of_ble_eq_true rfl) dX7_mixWalk_15 (fun r7 S6 h => ?_)
      refine j_i2l C dX7_mixWalk_18 ?_
      refine j_callVv (st := []) C 25 [.long r7.toInt64] (m_X7_mix C.wok h) cv_RX7_282 rk_X7_mixWalk_X7_mix rfl (rc_25 w) rfl (Nat.le_of_ble_eq_true rfl) dX7_mixWalk_19 (fun S8 h => ?_)
      refine j_aload_n C dX7_mixWalk_22 0 rfl rfl ?_
      refine j_aload_n C dX7_mixWalk_23 0 rfl rfl ?_
      refine j_iload_n C dX7_mixWalk_24 2 rfl rfl ?_
      refine j_iload_n C dX7_mixWalk_25 1 rfl rfl ?_
      refine j_iconst C dX7_mixWalk_26 (v := 1) (by decide) ?_
      refine j_callVi (st := [rr w 25]) C 25 [.int x2, .int x1, .int 1] (m_X7_chanceNow C.wok h) cv_RX7_260 rk_X7_mixWalk_X7_chanceNow rfl (rc_25 w) rfl (Nat.le_of_ble_eq_true rfl) dX7_mixWalk_27 (fun r10 S9 h => ?_)
      refine j_i2l C dX7_mixWalk_30 ?_
      refine j_callVv (st := []) C 25 [.long r10.toInt64] (m_X7_mix C.wok h) cv_RX7_282 rk_X7_mixWalk_X7_mix rfl (rc_25 w) rfl (Nat.le_of_ble_eq_true rfl) dX7_mixWalk_31 (fun S11 h => ?_)
      refine j_aload_n C dX7_mixWalk_34 0 rfl rfl ?_
      refine j_aload_n C dX7_mixWalk_35 0 rfl rfl ?_
      refine j_iload_n C dX7_mixWalk_36 2 rfl rfl ?_
      refine j_iload_n C dX7_mixWalk_37 1 rfl rfl ?_
      refine j_callVi (st := [rr w 25]) C 25 [.int x2, .int x1] (m_X7_thousandthsNow C.wok h) cv_RX7_265 rk_X7_mixWalk_X7_thousandthsNow rfl (rc_25 w) rfl (Nat.le_of_ble_eq_true rfl) dX7_mixWalk_38 (fun r13 S12 h => ?_)
      refine j_i2l C dX7_mixWalk_41 ?_
      refine j_callVv (st := []) C 25 [.long r13.toInt64] (m_X7_mix C.wok h) cv_RX7_282 rk_X7_mixWalk_X7_mix rfl (rc_25 w) rfl (Nat.le_of_ble_eq_true rfl) dX7_mixWalk_42 (fun S14 h => ?_)
      refine j_iinc (lv' := [(2, .int (x2 + 1)), (0, rr w 25), (1, .int x1)]) C dX7_mixWalk_45 2 rfl rfl (by decide) rfl ?_
      refine j_goto (tgt := 2) C dX7_mixWalk_48 (by decide) ?_
      refine j_sub [1, 2, 0] rfl ?_
      exact hK2 _ _ _ h
  exact key (x1, x2, S) h
set_option maxRecDepth 20000 in
theorem m_X7_mixWalk {l : Launch} {w : Wt} (hw : WOK w) {x1 : Int32} {S : St} {Q0 : St → Prop} (h : p_X7_mixWalk x1 S Q0) : MV l w yX7_mixWalk cX7_mixWalk 3 rm_X7_mixWalk [rr w 25, .int x1] S Q0 := by
  refine m_MV (own := RX7) (lv := [(0, rr w 25), (1, .int x1)]) hw (by decide) rfl (Nat.le_of_ble_eq_true rfl) rfl (fun X C => ?_)
  refine j_iconst C dX7_mixWalk_0 (v := 0) (by decide) ?_
  refine j_istore_n (lv' := [(2, .int 0), (0, rr w 25), (1, .int x1)]) C dX7_mixWalk_1 rfl (by decide) rfl ?_
  refine j_sub [1, 2, 0] rfl ?_
  exact t_X7_mixWalk_2 C h
def rm_X7_mixInk : Room := { frames := 3, cells := 0, slots := 0, locals := 65 }
theorem rk_X7_mixInk_X7_inkNow : roomOk rm_X7_inkNow rm_X7_mixInk 3 := ⟨⟨rfl, rfl⟩, Nat.le_of_ble_eq_true rfl, Nat.le_of_ble_eq_true rfl⟩
theorem rk_X7_mixInk_X7_mix : roomOk rm_X7_mix rm_X7_mixInk 3 := ⟨⟨rfl, rfl⟩, Nat.le_of_ble_eq_true rfl, Nat.le_of_ble_eq_true rfl⟩
set_option maxRecDepth 20000 in
theorem t_X7_mixInk_2 {X : Mx} {w : Wt} {l0 : Launch} {Q0 : St → Prop} (C : Cx X w l0 cX7_mixInk 2 RX7 rm_X7_mixInk none) {x1 : Int32} {S : St} (h : Lq (p_X7_mixInk_2 Q0) (x1, S)) : J X w (QV X w Q0) 2 [(0, rr w 25), (1, .int x1)] [] S := by
  have key : ∀ a : Int32 × St, Lq (p_X7_mixInk_2 Q0) a → J X w (QV X w Q0) 2 [(0, rr w 25), (1, .int a.1)] [] a.2 := by
    intro a ha
    refine Lq_use (G := fun a => J X w (QV X w Q0) 2 [(0, rr w 25), (1, .int a.1)] [] a.2) ?_ ha
    intro K2 hK a h
    obtain ⟨x1, S⟩ := a
    have hK2 : ∀ (x1 : Int32) (S : St), K2 (x1, S) → J X w (QV X w Q0) 2 [(0, rr w 25), (1, .int x1)] [] S := fun x1 S h => hK (x1, S) h
    show J X w (QV X w Q0) 2 [(0, rr w 25), (1, .int x1)] [] S
    refine j_aload_n C dX7_mixInk_2 0 rfl rfl ?_
    refine j_iload_n C dX7_mixInk_3 1 rfl rfl ?_
    refine j_callVi (st := []) C 25 [.int x1] (m_X7_inkNow C.wok h) cv_RX7_142 rk_X7_mixInk_X7_inkNow rfl (rc_25 w) rfl (Nat.le_of_ble_eq_true rfl) dX7_mixInk_4 (fun r2 S1 h => ?_)
    refine j_iconst C dX7_mixInk_7 (v := (-1)) (by decide) ?_
    refine j_icmp_eq (tgt := 27) C dX7_mixInk_8 (by decide) (fun c3 => ?_) (fun c3 => ?_)
    · have h := And.left h c3
      exact j_vret C dX7_mixInk_27 h
    · have h := And.right h c3
      refine j_aload_n C dX7_mixInk_11 0 rfl rfl ?_
      refine j_aload_n C dX7_mixInk_12 0 rfl rfl ?_
      refine j_iload_n C dX7_mixInk_13 1 rfl rfl ?_
      refine j_callVi (st := [rr w 25]) C 25 [.int x1] (m_X7_inkNow C.wok h) cv_RX7_142 rk_X7_mixInk_X7_inkNow rfl (rc_25 w) rfl (Nat.le_of_ble_eq_true rfl) dX7_mixInk_14 (fun r5 S4 h => ?_)
      refine j_i2l C dX7_mixInk_17 ?_
      refine j_callVv (st := []) C 25 [.long r5.toInt64] (m_X7_mix C.wok h) cv_RX7_282 rk_X7_mixInk_X7_mix rfl (rc_25 w) rfl (Nat.le_of_ble_eq_true rfl) dX7_mixInk_18 (fun S6 h => ?_)
      refine j_iinc (lv' := [(1, .int (x1 + 1)), (0, rr w 25)]) C dX7_mixInk_21 1 rfl rfl (by decide) rfl ?_
      refine j_goto (tgt := 2) C dX7_mixInk_24 (by decide) ?_
      refine j_sub [1, 0] rfl ?_
      exact hK2 _ _ h
  exact key (x1, S) h
set_option maxRecDepth 20000 in
theorem m_X7_mixInk {l : Launch} {w : Wt} (hw : WOK w) {S : St} {Q0 : St → Prop} (h : p_X7_mixInk S Q0) : MV l w yX7_mixInk cX7_mixInk 2 rm_X7_mixInk [rr w 25] S Q0 := by
  refine m_MV (own := RX7) (lv := [(0, rr w 25)]) hw (by decide) rfl (Nat.le_of_ble_eq_true rfl) rfl (fun X C => ?_)
  refine j_iconst C dX7_mixInk_0 (v := 0) (by decide) ?_
  refine j_istore_n (lv' := [(1, .int 0), (0, rr w 25)]) C dX7_mixInk_1 rfl (by decide) rfl ?_
  refine j_sub [1, 0] rfl ?_
  exact t_X7_mixInk_2 C h
def rm_X7_mixPersons : Room := { frames := 5, cells := 0, slots := 0, locals := 114 }
theorem rk_X7_mixPersons_X7_aboutNow : roomOk rm_X7_aboutNow rm_X7_mixPersons 2 := ⟨⟨rfl, rfl⟩, Nat.le_of_ble_eq_true rfl, Nat.le_of_ble_eq_true rfl⟩
theorem rk_X7_mixPersons_X7_apartNow : roomOk rm_X7_apartNow rm_X7_mixPersons 5 := ⟨⟨rfl, rfl⟩, Nat.le_of_ble_eq_true rfl, Nat.le_of_ble_eq_true rfl⟩
theorem rk_X7_mixPersons_X7_generousNow : roomOk rm_X7_generousNow rm_X7_mixPersons 4 := ⟨⟨rfl, rfl⟩, Nat.le_of_ble_eq_true rfl, Nat.le_of_ble_eq_true rfl⟩
theorem rk_X7_mixPersons_X7_mix : roomOk rm_X7_mix rm_X7_mixPersons 3 := ⟨⟨rfl, rfl⟩, Nat.le_of_ble_eq_true rfl, Nat.le_of_ble_eq_true rfl⟩
theorem rk_X7_mixPersons_X7_personNow : roomOk rm_X7_personNow rm_X7_mixPersons 3 := ⟨⟨rfl, rfl⟩, Nat.le_of_ble_eq_true rfl, Nat.le_of_ble_eq_true rfl⟩
set_option maxRecDepth 20000 in
theorem t_X7_mixPersons_36 {X : Mx} {w : Wt} {l0 : Launch} {Q0 : St → Prop} {K26 : Int32 × St → Prop} (C : Cx X w l0 cX7_mixPersons 3 RX7 rm_X7_mixPersons none) (hK26 : ∀ (x1 : Int32) (S : St), K26 (x1, S) → J X w (QV X w Q0) 26 [(0, rr w 25), (1, .int x1)] [] S) {x1 : Int32} {x2 : Int32} {S : St} (h : Lq (p_X7_mixPersons_36 Q0 K26) (x1, x2, S)) : J X w (QV X w Q0) 36 [(0, rr w 25), (1, .int x1), (2, .int x2)] [] S := by
  have key : ∀ a : Int32 × Int32 × St, Lq (p_X7_mixPersons_36 Q0 K26) a → J X w (QV X w Q0) 36 [(0, rr w 25), (1, .int a.1), (2, .int a.2.1)] [] a.2.2 := by
    intro a ha
    refine Lq_use (G := fun a => J X w (QV X w Q0) 36 [(0, rr w 25), (1, .int a.1), (2, .int a.2.1)] [] a.2.2) ?_ ha
    intro K36 hK a h
    obtain ⟨x1, x2, S⟩ := a
    have hK36 : ∀ (x1 : Int32) (x2 : Int32) (S : St), K36 (x1, x2, S) → J X w (QV X w Q0) 36 [(0, rr w 25), (1, .int x1), (2, .int x2)] [] S := fun x1 x2 S h => hK (x1, x2, S) h
    show J X w (QV X w Q0) 36 [(0, rr w 25), (1, .int x1), (2, .int x2)] [] S
    refine j_iload_n C dX7_mixPersons_36 2 rfl rfl ?_
    refine j_bipush C dX7_mixPersons_37 (v := 8) (by decide) ?_
    refine j_icmp_ge (tgt := 59) C dX7_mixPersons_39 (by decide) (fun c6 => ?_) (fun c6 => ?_)
    · have h := And.left h c6
      refine j_aload_n C dX7_mixPersons_59 0 rfl rfl ?_
      refine j_aload_n C dX7_mixPersons_60 0 rfl rfl ?_
      refine j_iload_n C dX7_mixPersons_61 1 rfl rfl ?_
      refine j_callVi (st := [rr w 25]) C 25 [.int x1] (m_X7_apartNow C.wok h) cv_RX7_199 rk_X7_mixPersons_X7_apartNow rfl (rc_25 w) rfl (Nat.le_of_ble_eq_true rfl) dX7_mixPersons_62 (fun r8 S7 h => ?_)
      refine j_i2l C dX7_mixPersons_65 ?_
      refine j_callVv (st := []) C 25 [.long r8.toInt64] (m_X7_mix C.wok h) cv_RX7_282 rk_X7_mixPersons_X7_mix rfl (rc_25 w) rfl (Nat.le_of_ble_eq_true rfl) dX7_mixPersons_66 (fun S9 h => ?_)
      refine j_iinc (lv' := [(1, .int (x1 + 1)), (0, rr w 25), (2, .int x2)]) C dX7_mixPersons_69 1 rfl rfl (by decide) rfl ?_
      refine j_goto (tgt := 26) C dX7_mixPersons_72 (by decide) ?_
      refine j_sub [1, 0] rfl ?_
      exact hK26 _ _ h
    · have h := And.right h c6
      refine j_aload_n C dX7_mixPersons_42 0 rfl rfl ?_
      refine j_aload_n C dX7_mixPersons_43 0 rfl rfl ?_
      refine j_iload_n C dX7_mixPersons_44 1 rfl rfl ?_
      refine j_iload_n C dX7_mixPersons_45 2 rfl rfl ?_
      refine j_callVi (st := [rr w 25]) C 25 [.int x1, .int x2] (m_X7_personNow C.wok h) cv_RX7_202 rk_X7_mixPersons_X7_personNow rfl (rc_25 w) rfl (Nat.le_of_ble_eq_true rfl) dX7_mixPersons_46 (fun r11 S10 h => ?_)
      refine j_i2l C dX7_mixPersons_49 ?_
      refine j_callVv (st := []) C 25 [.long r11.toInt64] (m_X7_mix C.wok h) cv_RX7_282 rk_X7_mixPersons_X7_mix rfl (rc_25 w) rfl (Nat.le_of_ble_eq_true rfl) dX7_mixPersons_50 (fun S12 h => ?_)
      refine j_iinc (lv' := [(2, .int (x2 + 1)), (0, rr w 25), (1, .int x1)]) C dX7_mixPersons_53 2 rfl rfl (by decide) rfl ?_
      refine j_goto (tgt := 36) C dX7_mixPersons_56 (by decide) ?_
      refine j_sub [1, 2, 0] rfl ?_
      exact hK36 _ _ _ h
  exact key (x1, x2, S) h
set_option maxRecDepth 20000 in
theorem t_X7_mixPersons_26 {X : Mx} {w : Wt} {l0 : Launch} {Q0 : St → Prop} (C : Cx X w l0 cX7_mixPersons 3 RX7 rm_X7_mixPersons none) {x1 : Int32} {S : St} (h : Lq (p_X7_mixPersons_26 Q0) (x1, S)) : J X w (QV X w Q0) 26 [(0, rr w 25), (1, .int x1)] [] S := by
  have key : ∀ a : Int32 × St, Lq (p_X7_mixPersons_26 Q0) a → J X w (QV X w Q0) 26 [(0, rr w 25), (1, .int a.1)] [] a.2 := by
    intro a ha
    refine Lq_use (G := fun a => J X w (QV X w Q0) 26 [(0, rr w 25), (1, .int a.1)] [] a.2) ?_ ha
    intro K26 hK a h
    obtain ⟨x1, S⟩ := a
    have hK26 : ∀ (x1 : Int32) (S : St), K26 (x1, S) → J X w (QV X w Q0) 26 [(0, rr w 25), (1, .int x1)] [] S := fun x1 S h => hK (x1, S) h
    show J X w (QV X w Q0) 26 [(0, rr w 25), (1, .int x1)] [] S
    refine j_iload_n C dX7_mixPersons_26 1 rfl rfl ?_
    refine j_aload_n C dX7_mixPersons_27 0 rfl rfl ?_
    refine gf_RX7_111_25 C dX7_mixPersons_28 ?_
    refine j_icmp_ge (tgt := 75) C dX7_mixPersons_31 (by decide) (fun c2 => ?_) (fun c2 => ?_)
    · have h := And.left h c2
      refine j_aload_n C dX7_mixPersons_75 0 rfl rfl ?_
      refine j_aload_n C dX7_mixPersons_76 0 rfl rfl ?_
      refine j_callVi (st := [rr w 25]) C 25 [] (m_X7_generousNow C.wok h) cv_RX7_206 rk_X7_mixPersons_X7_generousNow rfl (rc_25 w) rfl (Nat.le_of_ble_eq_true rfl) dX7_mixPersons_77 (fun r4 S3 h => ?_)
      refine j_i2l C dX7_mixPersons_80 ?_
      refine j_callVv (st := []) C 25 [.long r4.toInt64] (m_X7_mix C.wok h) cv_RX7_282 rk_X7_mixPersons_X7_mix rfl (rc_25 w) rfl (Nat.le_of_ble_eq_true rfl) dX7_mixPersons_81 (fun S5 h => ?_)
      exact j_vret C dX7_mixPersons_84 h
    · have h := And.right h c2
      refine j_iconst C dX7_mixPersons_34 (v := 0) (by decide) ?_
      refine j_istore_n (lv' := [(2, .int 0), (0, rr w 25), (1, .int x1)]) C dX7_mixPersons_35 rfl (by decide) rfl ?_
      refine j_sub [1, 2, 0] rfl ?_
      exact t_X7_mixPersons_36 C hK26 h
  exact key (x1, S) h
set_option maxRecDepth 20000 in
theorem t_X7_mixPersons_2 {X : Mx} {w : Wt} {l0 : Launch} {Q0 : St → Prop} (C : Cx X w l0 cX7_mixPersons 3 RX7 rm_X7_mixPersons none) {x1 : Int32} {S : St} (h : Lq (p_X7_mixPersons_2 Q0) (x1, S)) : J X w (QV X w Q0) 2 [(0, rr w 25), (1, .int x1)] [] S := by
  have key : ∀ a : Int32 × St, Lq (p_X7_mixPersons_2 Q0) a → J X w (QV X w Q0) 2 [(0, rr w 25), (1, .int a.1)] [] a.2 := by
    intro a ha
    refine Lq_use (G := fun a => J X w (QV X w Q0) 2 [(0, rr w 25), (1, .int a.1)] [] a.2) ?_ ha
    intro K2 hK a h
    obtain ⟨x1, S⟩ := a
    have hK2 : ∀ (x1 : Int32) (S : St), K2 (x1, S) → J X w (QV X w Q0) 2 [(0, rr w 25), (1, .int x1)] [] S := fun x1 S h => hK (x1, S) h
    show J X w (QV X w Q0) 2 [(0, rr w 25), (1, .int x1)] [] S
    refine j_iload_n C dX7_mixPersons_2 1 rfl rfl ?_
    refine j_bipush C dX7_mixPersons_3 (v := 8) (by decide) ?_
    refine j_icmp_ge (tgt := 24) C dX7_mixPersons_5 (by decide) (fun c1 => ?_) (fun c1 => ?_)
    · have h := And.left h c1
      refine j_iconst C dX7_mixPersons_24 (v := 0) (by decide) ?_
      refine j_istore_n (lv' := [(1, .int 0), (0, rr w 25)]) C dX7_mixPersons_25 rfl (by decide) rfl ?_
      refine j_sub [1, 0] rfl ?_
      exact t_X7_mixPersons_26 C h
    · have h := And.right h c1
      refine j_aload_n C dX7_mixPersons_8 0 rfl rfl ?_
      refine j_aload_n C dX7_mixPersons_9 0 rfl rfl ?_
      refine j_iload_n C dX7_mixPersons_10 1 rfl rfl ?_
      refine j_callVi (st := [rr w 25]) C 25 [.int x1] (m_X7_aboutNow C.wok h) cv_RX7_184 rk_X7_mixPersons_X7_aboutNow rfl (rc_25 w) rfl (Nat.le_of_ble_eq_true rfl) dX7_mixPersons_11 (fun r14 S13 h => ?_)
      refine j_i2l C dX7_mixPersons_14 ?_
      refine j_callVv (st := []) C 25 [.long r14.toInt64] (m_X7_mix C.wok h) cv_RX7_282 rk_X7_mixPersons_X7_mix rfl (rc_25 w) rfl (Nat.le_of_ble_eq_true rfl) dX7_mixPersons_15 (fun S15 h => ?_)
      refine j_iinc (lv' := [(1, .int (x1 + 1)), (0, rr w 25)]) C dX7_mixPersons_18 1 rfl rfl (by decide) rfl ?_
      refine j_goto (tgt := 2) C dX7_mixPersons_21 (by decide) ?_
      refine j_sub [1, 0] rfl ?_
      exact hK2 _ _ h
  exact key (x1, S) h
set_option maxRecDepth 20000 in
theorem m_X7_mixPersons {l : Launch} {w : Wt} (hw : WOK w) {S : St} {Q0 : St → Prop} (h : p_X7_mixPersons S Q0) : MV l w yX7_mixPersons cX7_mixPersons 3 rm_X7_mixPersons [rr w 25] S Q0 := by
  refine m_MV (own := RX7) (lv := [(0, rr w 25)]) hw (by decide) rfl (Nat.le_of_ble_eq_true rfl) rfl (fun X C => ?_)
  refine j_iconst C dX7_mixPersons_0 (v := 0) (by decide) ?_
  refine j_istore_n (lv' := [(1, .int 0), (0, rr w 25)]) C dX7_mixPersons_1 rfl (by decide) rfl ?_
  refine j_sub [1, 0] rfl ?_
  exact t_X7_mixPersons_2 C h
def rm_X7_mixTrust : Room := { frames := 6, cells := 0, slots := 0, locals := 141 }
theorem rk_X7_mixTrust_X7_cutNow : roomOk rm_X7_cutNow rm_X7_mixTrust 3 := ⟨⟨rfl, rfl⟩, Nat.le_of_ble_eq_true rfl, Nat.le_of_ble_eq_true rfl⟩
theorem rk_X7_mixTrust_X7_dearestNow : roomOk rm_X7_dearestNow rm_X7_mixTrust 8 := ⟨⟨rfl, rfl⟩, Nat.le_of_ble_eq_true rfl, Nat.le_of_ble_eq_true rfl⟩
theorem rk_X7_mixTrust_X7_mix : roomOk rm_X7_mix rm_X7_mixTrust 3 := ⟨⟨rfl, rfl⟩, Nat.le_of_ble_eq_true rfl, Nat.le_of_ble_eq_true rfl⟩
theorem rk_X7_mixTrust_X7_trustNow : roomOk rm_X7_trustNow rm_X7_mixTrust 2 := ⟨⟨rfl, rfl⟩, Nat.le_of_ble_eq_true rfl, Nat.le_of_ble_eq_true rfl⟩
theorem rk_X7_mixTrust_X7_withoutNow : roomOk rm_X7_withoutNow rm_X7_mixTrust 6 := ⟨⟨rfl, rfl⟩, Nat.le_of_ble_eq_true rfl, Nat.le_of_ble_eq_true rfl⟩
set_option maxRecDepth 20000 in
theorem t_X7_mixTrust_59 {X : Mx} {w : Wt} {l0 : Launch} {Q0 : St → Prop} (C : Cx X w l0 cX7_mixTrust 3 RX7 rm_X7_mixTrust none) {x1 : Int32} {x2 : Int32} {S : St} (h : Lq (p_X7_mixTrust_59 Q0) (x1, x2, S)) : J X w (QV X w Q0) 59 [(0, rr w 25), (1, .int x1), (2, .int x2)] [] S := by
  have key : ∀ a : Int32 × Int32 × St, Lq (p_X7_mixTrust_59 Q0) a → J X w (QV X w Q0) 59 [(0, rr w 25), (1, .int a.1), (2, .int a.2.1)] [] a.2.2 := by
    intro a ha
    refine Lq_use (G := fun a => J X w (QV X w Q0) 59 [(0, rr w 25), (1, .int a.1), (2, .int a.2.1)] [] a.2.2) ?_ ha
    intro K59 hK a h
    obtain ⟨x1, x2, S⟩ := a
    have hK59 : ∀ (x1 : Int32) (x2 : Int32) (S : St), K59 (x1, x2, S) → J X w (QV X w Q0) 59 [(0, rr w 25), (1, .int x1), (2, .int x2)] [] S := fun x1 x2 S h => hK (x1, x2, S) h
    show J X w (QV X w Q0) 59 [(0, rr w 25), (1, .int x1), (2, .int x2)] [] S
    refine j_iload_n C dX7_mixTrust_59 2 rfl rfl ?_
    refine j_iconst C dX7_mixTrust_60 (v := 3) (by decide) ?_
    refine j_icmp_ge (tgt := 93) C dX7_mixTrust_61 (by decide) (fun c6 => ?_) (fun c6 => ?_)
    · have h := And.left h c6
      exact j_vret C dX7_mixTrust_93 h
    · have h := And.right h c6
      refine j_iload_n C dX7_mixTrust_64 1 rfl rfl ?_
      refine j_iconst C dX7_mixTrust_65 (v := (-1)) (by decide) ?_
      refine j_icmp_eq (tgt := 93) C dX7_mixTrust_66 (by decide) (fun c7 => ?_) (fun c7 => ?_)
      · have h := And.left h c7
        exact j_vret C dX7_mixTrust_93 h
      · have h := And.right h c7
        refine j_aload_n C dX7_mixTrust_69 0 rfl rfl ?_
        refine j_aload_n C dX7_mixTrust_70 0 rfl rfl ?_
        refine j_iload_n C dX7_mixTrust_71 1 rfl rfl ?_
        refine j_bipush C dX7_mixTrust_72 (v := 10) (by decide) ?_
        refine j_idiv C dX7_mixTrust_74 (by decide) ?_
        refine j_iload_n C dX7_mixTrust_75 1 rfl rfl ?_
        refine j_bipush C dX7_mixTrust_76 (v := 10) (by decide) ?_
        refine j_irem C dX7_mixTrust_78 (by decide) ?_
        refine j_iload_n C dX7_mixTrust_79 2 rfl rfl ?_
        refine j_callVi (st := [rr w 25]) C 25 [.int (x1 / 10), .int (x1 - x1 / 10 * 10), .int x2] (m_X7_withoutNow C.wok h) cv_RX7_233 rk_X7_mixTrust_X7_withoutNow rfl (rc_25 w) rfl (Nat.le_of_ble_eq_true rfl) dX7_mixTrust_80 (fun r9 S8 h => ?_)
        refine j_i2l C dX7_mixTrust_83 ?_
        refine j_callVv (st := []) C 25 [.long r9.toInt64] (m_X7_mix C.wok h) cv_RX7_282 rk_X7_mixTrust_X7_mix rfl (rc_25 w) rfl (Nat.le_of_ble_eq_true rfl) dX7_mixTrust_84 (fun S10 h => ?_)
        refine j_iinc (lv' := [(2, .int (x2 + 1)), (0, rr w 25), (1, .int x1)]) C dX7_mixTrust_87 2 rfl rfl (by decide) rfl ?_
        refine j_goto (tgt := 59) C dX7_mixTrust_90 (by decide) ?_
        refine j_sub [1, 2, 0] rfl ?_
        exact hK59 _ _ _ h
  exact key (x1, x2, S) h
set_option maxRecDepth 20000 in
theorem t_X7_mixTrust_25 {X : Mx} {w : Wt} {l0 : Launch} {Q0 : St → Prop} (C : Cx X w l0 cX7_mixTrust 3 RX7 rm_X7_mixTrust none) {x1 : Int32} {S : St} (h : Lq (p_X7_mixTrust_25 Q0) (x1, S)) : J X w (QV X w Q0) 25 [(0, rr w 25), (1, .int x1)] [] S := by
  have key : ∀ a : Int32 × St, Lq (p_X7_mixTrust_25 Q0) a → J X w (QV X w Q0) 25 [(0, rr w 25), (1, .int a.1)] [] a.2 := by
    intro a ha
    refine Lq_use (G := fun a => J X w (QV X w Q0) 25 [(0, rr w 25), (1, .int a.1)] [] a.2) ?_ ha
    intro K25 hK a h
    obtain ⟨x1, S⟩ := a
    have hK25 : ∀ (x1 : Int32) (S : St), K25 (x1, S) → J X w (QV X w Q0) 25 [(0, rr w 25), (1, .int x1)] [] S := fun x1 S h => hK (x1, S) h
    show J X w (QV X w Q0) 25 [(0, rr w 25), (1, .int x1)] [] S
    refine j_iload_n C dX7_mixTrust_25 1 rfl rfl ?_
    refine j_iconst C dX7_mixTrust_26 (v := 3) (by decide) ?_
    refine j_icmp_ge (tgt := 46) C dX7_mixTrust_27 (by decide) (fun c2 => ?_) (fun c2 => ?_)
    · have h := And.left h c2
      refine j_aload_n C dX7_mixTrust_46 0 rfl rfl ?_
      refine j_callVi (st := []) C 25 [] (m_X7_dearestNow C.wok h) cv_RX7_237 rk_X7_mixTrust_X7_dearestNow rfl (rc_25 w) rfl (Nat.le_of_ble_eq_true rfl) dX7_mixTrust_47 (fun r4 S3 h => ?_)
      refine j_istore_n (lv' := [(1, .int r4), (0, rr w 25)]) C dX7_mixTrust_50 rfl (by decide) rfl ?_
      refine j_aload_n C dX7_mixTrust_51 1 rfl rfl ?_
      refine j_iload_n C dX7_mixTrust_52 0 rfl rfl ?_
      refine j_i2l C dX7_mixTrust_53 ?_
      refine j_callVv (st := []) C 25 [.long r4.toInt64] (m_X7_mix C.wok h) cv_RX7_282 rk_X7_mixTrust_X7_mix rfl (rc_25 w) rfl (Nat.le_of_ble_eq_true rfl) dX7_mixTrust_54 (fun S5 h => ?_)
      refine j_iconst C dX7_mixTrust_57 (v := 0) (by decide) ?_
      refine j_istore_n (lv' := [(2, .int 0), (1, .int r4), (0, rr w 25)]) C dX7_mixTrust_58 rfl (by decide) rfl ?_
      refine j_sub [2, 1, 0] rfl ?_
      exact t_X7_mixTrust_59 C h
    · have h := And.right h c2
      refine j_aload_n C dX7_mixTrust_30 0 rfl rfl ?_
      refine j_aload_n C dX7_mixTrust_31 0 rfl rfl ?_
      refine j_iload_n C dX7_mixTrust_32 1 rfl rfl ?_
      refine j_callVi (st := [rr w 25]) C 25 [.int x1] (m_X7_cutNow C.wok h) cv_RX7_227 rk_X7_mixTrust_X7_cutNow rfl (rc_25 w) rfl (Nat.le_of_ble_eq_true rfl) dX7_mixTrust_33 (fun r12 S11 h => ?_)
      refine j_i2l C dX7_mixTrust_36 ?_
      refine j_callVv (st := []) C 25 [.long r12.toInt64] (m_X7_mix C.wok h) cv_RX7_282 rk_X7_mixTrust_X7_mix rfl (rc_25 w) rfl (Nat.le_of_ble_eq_true rfl) dX7_mixTrust_37 (fun S13 h => ?_)
      refine j_iinc (lv' := [(1, .int (x1 + 1)), (0, rr w 25)]) C dX7_mixTrust_40 1 rfl rfl (by decide) rfl ?_
      refine j_goto (tgt := 25) C dX7_mixTrust_43 (by decide) ?_
      refine j_sub [1, 0] rfl ?_
      exact hK25 _ _ h
  exact key (x1, S) h
set_option maxRecDepth 20000 in
theorem t_X7_mixTrust_2 {X : Mx} {w : Wt} {l0 : Launch} {Q0 : St → Prop} (C : Cx X w l0 cX7_mixTrust 3 RX7 rm_X7_mixTrust none) {x1 : Int32} {S : St} (h : Lq (p_X7_mixTrust_2 Q0) (x1, S)) : J X w (QV X w Q0) 2 [(0, rr w 25), (1, .int x1)] [] S := by
  have key : ∀ a : Int32 × St, Lq (p_X7_mixTrust_2 Q0) a → J X w (QV X w Q0) 2 [(0, rr w 25), (1, .int a.1)] [] a.2 := by
    intro a ha
    refine Lq_use (G := fun a => J X w (QV X w Q0) 2 [(0, rr w 25), (1, .int a.1)] [] a.2) ?_ ha
    intro K2 hK a h
    obtain ⟨x1, S⟩ := a
    have hK2 : ∀ (x1 : Int32) (S : St), K2 (x1, S) → J X w (QV X w Q0) 2 [(0, rr w 25), (1, .int x1)] [] S := fun x1 S h => hK (x1, S) h
    show J X w (QV X w Q0) 2 [(0, rr w 25), (1, .int x1)] [] S
    refine j_iload_n C dX7_mixTrust_2 1 rfl rfl ?_
    refine j_iconst C dX7_mixTrust_3 (v := 5) (by decide) ?_
    refine j_icmp_ge (tgt := 23) C dX7_mixTrust_4 (by decide) (fun c1 => ?_) (fun c1 => ?_)
    · have h := And.left h c1
      refine j_iconst C dX7_mixTrust_23 (v := 0) (by decide) ?_
      refine j_istore_n (lv' := [(1, .int 0), (0, rr w 25)]) C dX7_mixTrust_24 rfl (by decide) rfl ?_
      refine j_sub [1, 0] rfl ?_
      exact t_X7_mixTrust_25 C h
    · have h := And.right h c1
      refine j_aload_n C dX7_mixTrust_7 0 rfl rfl ?_
      refine j_aload_n C dX7_mixTrust_8 0 rfl rfl ?_
      refine j_iload_n C dX7_mixTrust_9 1 rfl rfl ?_
      refine j_callVi (st := [rr w 25]) C 25 [.int x1] (m_X7_trustNow C.wok h) cv_RX7_215 rk_X7_mixTrust_X7_trustNow rfl (rc_25 w) rfl (Nat.le_of_ble_eq_true rfl) dX7_mixTrust_10 (fun r15 S14 h => ?_)
      refine j_i2l C dX7_mixTrust_13 ?_
      refine j_callVv (st := []) C 25 [.long r15.toInt64] (m_X7_mix C.wok h) cv_RX7_282 rk_X7_mixTrust_X7_mix rfl (rc_25 w) rfl (Nat.le_of_ble_eq_true rfl) dX7_mixTrust_14 (fun S16 h => ?_)
      refine j_iinc (lv' := [(1, .int (x1 + 1)), (0, rr w 25)]) C dX7_mixTrust_17 1 rfl rfl (by decide) rfl ?_
      refine j_goto (tgt := 2) C dX7_mixTrust_20 (by decide) ?_
      refine j_sub [1, 0] rfl ?_
      exact hK2 _ _ h
  exact key (x1, S) h
set_option maxRecDepth 20000 in
theorem m_X7_mixTrust {l : Launch} {w : Wt} (hw : WOK w) {S : St} {Q0 : St → Prop} (h : p_X7_mixTrust S Q0) : MV l w yX7_mixTrust cX7_mixTrust 3 rm_X7_mixTrust [rr w 25] S Q0 := by
  refine m_MV (own := RX7) (lv := [(0, rr w 25)]) hw (by decide) rfl (Nat.le_of_ble_eq_true rfl) rfl (fun X C => ?_)
  refine j_iconst C dX7_mixTrust_0 (v := 0) (by decide) ?_
  refine j_istore_n (lv' := [(1, .int 0), (0, rr w 25)]) C dX7_mixTrust_1 rfl (by decide) rfl ?_
  refine j_sub [1, 0] rfl ?_
  exact t_X7_mixTrust_2 C h
def rm_X7_digest : Room := { frames := 7, cells := 0, slots := 0, locals := 163 }
theorem rk_X7_digest_X7_areSeeds : roomOk rm_X7_areSeeds rm_X7_digest 1 := ⟨⟨rfl, rfl⟩, Nat.le_of_ble_eq_true rfl, Nat.le_of_ble_eq_true rfl⟩
theorem rk_X7_digest_X7_howMany : roomOk rm_X7_howMany rm_X7_digest 2 := ⟨⟨rfl, rfl⟩, Nat.le_of_ble_eq_true rfl, Nat.le_of_ble_eq_true rfl⟩
theorem rk_X7_digest_X7_isCircle : roomOk rm_X7_isCircle rm_X7_digest 1 := ⟨⟨rfl, rfl⟩, Nat.le_of_ble_eq_true rfl, Nat.le_of_ble_eq_true rfl⟩
theorem rk_X7_digest_X7_mix : roomOk rm_X7_mix rm_X7_digest 3 := ⟨⟨rfl, rfl⟩, Nat.le_of_ble_eq_true rfl, Nat.le_of_ble_eq_true rfl⟩
theorem rk_X7_digest_X7_mixInk : roomOk rm_X7_mixInk rm_X7_digest 2 := ⟨⟨rfl, rfl⟩, Nat.le_of_ble_eq_true rfl, Nat.le_of_ble_eq_true rfl⟩
theorem rk_X7_digest_X7_mixPersons : roomOk rm_X7_mixPersons rm_X7_digest 3 := ⟨⟨rfl, rfl⟩, Nat.le_of_ble_eq_true rfl, Nat.le_of_ble_eq_true rfl⟩
theorem rk_X7_digest_X7_mixTrust : roomOk rm_X7_mixTrust rm_X7_digest 3 := ⟨⟨rfl, rfl⟩, Nat.le_of_ble_eq_true rfl, Nat.le_of_ble_eq_true rfl⟩
theorem rk_X7_digest_X7_mixWalk : roomOk rm_X7_mixWalk rm_X7_digest 3 := ⟨⟨rfl, rfl⟩, Nat.le_of_ble_eq_true rfl, Nat.le_of_ble_eq_true rfl⟩
set_option maxRecDepth 20000 in
theorem t_X7_digest_80 {X : Mx} {w : Wt} {l0 : Launch} {Q0 : Int64 → St → Prop} (C : Cx X w l0 cX7_digest 2 RX7 rm_X7_digest (some .long)) {x1 : Int32} {S : St} (h : Lq (p_X7_digest_80 Q0) (x1, S)) : J X w (QL X w Q0) 80 [(0, rr w 25), (1, .int x1)] [] S := by
  have key : ∀ a : Int32 × St, Lq (p_X7_digest_80 Q0) a → J X w (QL X w Q0) 80 [(0, rr w 25), (1, .int a.1)] [] a.2 := by
    intro a ha
    refine Lq_use (G := fun a => J X w (QL X w Q0) 80 [(0, rr w 25), (1, .int a.1)] [] a.2) ?_ ha
    intro K80 hK a h
    obtain ⟨x1, S⟩ := a
    have hK80 : ∀ (x1 : Int32) (S : St), K80 (x1, S) → J X w (QL X w Q0) 80 [(0, rr w 25), (1, .int x1)] [] S := fun x1 S h => hK (x1, S) h
    show J X w (QL X w Q0) 80 [(0, rr w 25), (1, .int x1)] [] S
    refine j_iload_n C dX7_digest_80 1 rfl rfl ?_
    refine j_iconst C dX7_digest_81 (v := 5) (by decide) ?_
    refine j_icmp_ge (tgt := 101) C dX7_digest_82 (by decide) (fun c7 => ?_) (fun c7 => ?_)
    · have h := And.left h c7
      refine j_aload_n C dX7_digest_101 0 rfl rfl ?_
      refine gf_RX7_279_25 C dX7_digest_102 ?_
      exact j_lret C dX7_digest_105 h
    · have h := And.right h c7
      refine j_aload_n C dX7_digest_85 0 rfl rfl ?_
      refine j_aload_n C dX7_digest_86 0 rfl rfl ?_
      refine j_iload_n C dX7_digest_87 1 rfl rfl ?_
      refine j_callVi (st := [rr w 25]) C 25 [.int x1] (m_X7_howMany C.wok h) cv_RX7_274 rk_X7_digest_X7_howMany rfl (rc_25 w) rfl (Nat.le_of_ble_eq_true rfl) dX7_digest_88 (fun r9 S8 h => ?_)
      refine j_i2l C dX7_digest_91 ?_
      refine j_callVv (st := []) C 25 [.long r9.toInt64] (m_X7_mix C.wok h) cv_RX7_282 rk_X7_digest_X7_mix rfl (rc_25 w) rfl (Nat.le_of_ble_eq_true rfl) dX7_digest_92 (fun S10 h => ?_)
      refine j_iinc (lv' := [(1, .int (x1 + 1)), (0, rr w 25)]) C dX7_digest_95 1 rfl rfl (by decide) rfl ?_
      refine j_goto (tgt := 80) C dX7_digest_98 (by decide) ?_
      refine j_sub [1, 0] rfl ?_
      exact hK80 _ _ h
  exact key (x1, S) h
set_option maxRecDepth 20000 in
theorem t_X7_digest_53 {X : Mx} {w : Wt} {l0 : Launch} {Q0 : Int64 → St → Prop} (C : Cx X w l0 cX7_digest 2 RX7 rm_X7_digest (some .long)) {x1 : Int32} {S : St} (h : Lq (p_X7_digest_53 Q0) (x1, S)) : J X w (QL X w Q0) 53 [(0, rr w 25), (1, .int x1)] [] S := by
  have key : ∀ a : Int32 × St, Lq (p_X7_digest_53 Q0) a → J X w (QL X w Q0) 53 [(0, rr w 25), (1, .int a.1)] [] a.2 := by
    intro a ha
    refine Lq_use (G := fun a => J X w (QL X w Q0) 53 [(0, rr w 25), (1, .int a.1)] [] a.2) ?_ ha
    intro K53 hK a h
    obtain ⟨x1, S⟩ := a
    have hK53 : ∀ (x1 : Int32) (S : St), K53 (x1, S) → J X w (QL X w Q0) 53 [(0, rr w 25), (1, .int x1)] [] S := fun x1 S h => hK (x1, S) h
    show J X w (QL X w Q0) 53 [(0, rr w 25), (1, .int x1)] [] S
    refine j_iload_n C dX7_digest_53 1 rfl rfl ?_
    refine j_aload_n C dX7_digest_54 0 rfl rfl ?_
    refine gf_RX7_54_25 C dX7_digest_55 ?_
    refine j_icmp_ge (tgt := 78) C dX7_digest_58 (by decide) (fun c6 => ?_) (fun c6 => ?_)
    · have h := And.left h c6
      refine j_iconst C dX7_digest_78 (v := 0) (by decide) ?_
      refine j_istore_n (lv' := [(1, .int 0), (0, rr w 25)]) C dX7_digest_79 rfl (by decide) rfl ?_
      refine j_sub [1, 0] rfl ?_
      exact t_X7_digest_80 C h
    · have h := And.right h c6
      refine j_aload_n C dX7_digest_61 0 rfl rfl ?_
      refine j_aload_n C dX7_digest_62 0 rfl rfl ?_
      refine gf_RX7_19_25 C dX7_digest_63 ?_
      refine j_iload_n C dX7_digest_66 1 rfl rfl ?_
      refine al_29 C dX7_digest_67 (And.left h) ?_
      have h := And.right h
      refine j_i2l C dX7_digest_68 ?_
      refine j_callVv (st := []) C 25 [.long ((S.1 29 x1.toNatClampNeg).toInt64)] (m_X7_mix C.wok h) cv_RX7_282 rk_X7_digest_X7_mix rfl (rc_25 w) rfl (Nat.le_of_ble_eq_true rfl) dX7_digest_69 (fun S11 h => ?_)
      refine j_iinc (lv' := [(1, .int (x1 + 1)), (0, rr w 25)]) C dX7_digest_72 1 rfl rfl (by decide) rfl ?_
      refine j_goto (tgt := 53) C dX7_digest_75 (by decide) ?_
      refine j_sub [1, 0] rfl ?_
      exact hK53 _ _ h
  exact key (x1, S) h
set_option maxRecDepth 20000 in
theorem t_X7_digest_51 {X : Mx} {w : Wt} {l0 : Launch} {Q0 : Int64 → St → Prop} (C : Cx X w l0 cX7_digest 2 RX7 rm_X7_digest (some .long)) {S : St} (h : p_X7_digest_51 Q0 S) : J X w (QL X w Q0) 51 [(0, rr w 25)] [] S := by
  refine j_iconst C dX7_digest_51 (v := 0) (by decide) ?_
  refine j_istore_n (lv' := [(1, .int 0), (0, rr w 25)]) C dX7_digest_52 rfl (by decide) rfl ?_
  refine j_sub [1, 0] rfl ?_
  exact t_X7_digest_53 C h
set_option maxRecDepth 20000 in
theorem t_X7_digest_28 {X : Mx} {w : Wt} {l0 : Launch} {Q0 : Int64 → St → Prop} (C : Cx X w l0 cX7_digest 2 RX7 rm_X7_digest (some .long)) {x1 : Int32} {S : St} (h : Lq (p_X7_digest_28 Q0) (x1, S)) : J X w (QL X w Q0) 28 [(0, rr w 25), (1, .int x1)] [] S := by
  have key : ∀ a : Int32 × St, Lq (p_X7_digest_28 Q0) a → J X w (QL X w Q0) 28 [(0, rr w 25), (1, .int a.1)] [] a.2 := by
    intro a ha
    refine Lq_use (G := fun a => J X w (QL X w Q0) 28 [(0, rr w 25), (1, .int a.1)] [] a.2) ?_ ha
    intro K28 hK a h
    obtain ⟨x1, S⟩ := a
    have hK28 : ∀ (x1 : Int32) (S : St), K28 (x1, S) → J X w (QL X w Q0) 28 [(0, rr w 25), (1, .int x1)] [] S := fun x1 S h => hK (x1, S) h
    show J X w (QL X w Q0) 28 [(0, rr w 25), (1, .int x1)] [] S
    refine j_iload_n C dX7_digest_28 1 rfl rfl ?_
    refine j_iconst C dX7_digest_29 (v := 4) (by decide) ?_
    refine j_icmp_gt (tgt := 51) C dX7_digest_30 (by decide) (fun c5 => ?_) (fun c5 => ?_)
    · have h := And.left h c5
      refine j_sub [0] rfl ?_
      exact t_X7_digest_51 C h
    · have h := And.right h c5
      refine j_aload_n C dX7_digest_33 0 rfl rfl ?_
      refine j_callVi (st := []) C 25 [] (m_X7_areSeeds C.wok h) cv_RX7_257 rk_X7_digest_X7_areSeeds rfl (rc_25 w) rfl (Nat.le_of_ble_eq_true rfl) dX7_digest_34 (fun r13 S12 h => ?_)
      refine j_if_eq (tgt := 51) C dX7_digest_37 (by decide) (fun c14 => ?_) (fun c14 => ?_)
      · have h := And.left h c14
        refine j_sub [0] rfl ?_
        exact t_X7_digest_51 C h
      · have h := And.right h c14
        refine j_aload_n C dX7_digest_40 0 rfl rfl ?_
        refine j_iload_n C dX7_digest_41 1 rfl rfl ?_
        refine j_callVv (st := []) C 25 [.int x1] (m_X7_mixWalk C.wok h) cv_RX7_297 rk_X7_digest_X7_mixWalk rfl (rc_25 w) rfl (Nat.le_of_ble_eq_true rfl) dX7_digest_42 (fun S15 h => ?_)
        refine j_iinc (lv' := [(1, .int (x1 + 1)), (0, rr w 25)]) C dX7_digest_45 1 rfl rfl (by decide) rfl ?_
        refine j_goto (tgt := 28) C dX7_digest_48 (by decide) ?_
        refine j_sub [1, 0] rfl ?_
        exact hK28 _ _ h
  exact key (x1, S) h
set_option maxRecDepth 20000 in
theorem t_X7_digest_26 {X : Mx} {w : Wt} {l0 : Launch} {Q0 : Int64 → St → Prop} (C : Cx X w l0 cX7_digest 2 RX7 rm_X7_digest (some .long)) {S : St} (h : p_X7_digest_26 Q0 S) : J X w (QL X w Q0) 26 [(0, rr w 25)] [] S := by
  refine j_iconst C dX7_digest_26 (v := 0) (by decide) ?_
  refine j_istore_n (lv' := [(1, .int 0), (0, rr w 25)]) C dX7_digest_27 rfl (by decide) rfl ?_
  refine j_sub [1, 0] rfl ?_
  exact t_X7_digest_28 C h
set_option maxRecDepth 20000 in
theorem m_X7_digest {l : Launch} {w : Wt} (hw : WOK w) {S : St} {Q0 : Int64 → St → Prop} (h : p_X7_digest S Q0) : ML l w yX7_digest cX7_digest 2 rm_X7_digest [rr w 25] S Q0 := by
  refine m_ML (own := RX7) (lv := [(0, rr w 25)]) hw (by decide) rfl (Nat.le_of_ble_eq_true rfl) rfl (fun X C => ?_)
  refine j_aload_n C dX7_digest_0 0 rfl rfl ?_
  refine j_ldc2 C dX7_digest_1 k_1122 ?_
  refine pf_RX7_279_25 C dX7_digest_4 (fun S1 eS1 => ?_)
  have h := h S1 eS1
  refine j_aload_n C dX7_digest_7 0 rfl rfl ?_
  refine j_callVi (st := []) C 25 [] (m_X7_isCircle C.wok h) cv_RX7_139 rk_X7_digest_X7_isCircle rfl (rc_25 w) rfl (Nat.le_of_ble_eq_true rfl) dX7_digest_8 (fun r3 S2 h => ?_)
  refine j_if_eq (tgt := 26) C dX7_digest_11 (by decide) (fun c4 => ?_) (fun c4 => ?_)
  · have h := And.left h c4
    exact t_X7_digest_26 C h
  · have h := And.right h c4
    refine j_aload_n C dX7_digest_14 0 rfl rfl ?_
    refine j_callVv (st := []) C 25 [] (m_X7_mixInk C.wok h) cv_RX7_288 rk_X7_digest_X7_mixInk rfl (rc_25 w) rfl (Nat.le_of_ble_eq_true rfl) dX7_digest_15 (fun S16 h => ?_)
    refine j_aload_n C dX7_digest_18 0 rfl rfl ?_
    refine j_callVv (st := []) C 25 [] (m_X7_mixPersons C.wok h) cv_RX7_291 rk_X7_digest_X7_mixPersons rfl (rc_25 w) rfl (Nat.le_of_ble_eq_true rfl) dX7_digest_19 (fun S17 h => ?_)
    refine j_aload_n C dX7_digest_22 0 rfl rfl ?_
    refine j_callVv (st := []) C 25 [] (m_X7_mixTrust C.wok h) cv_RX7_294 rk_X7_digest_X7_mixTrust rfl (rc_25 w) rfl (Nat.le_of_ble_eq_true rfl) dX7_digest_23 (fun S18 h => ?_)
    exact t_X7_digest_26 C h
