def rm_X7_costOf : Room := { frames := 1, cells := 0, slots := 0, locals := 23 }
theorem rk_X7_costOf_X7_ofKind : roomOk rm_X7_ofKind rm_X7_costOf 4 := ⟨⟨rfl, rfl⟩, Nat.le_of_ble_eq_true rfl, Nat.le_of_ble_eq_true rfl⟩
theorem rk_X7_costOf_X7_size : roomOk rm_X7_size rm_X7_costOf 3 := ⟨⟨rfl, rfl⟩, Nat.le_of_ble_eq_true rfl, Nat.le_of_ble_eq_true rfl⟩
set_option maxRecDepth 20000 in
theorem m_X7_costOf {l : Launch} {w : Wt} (hw : WOK w) {x1 : Int32} {S : St} {Q0 : Int32 → St → Prop} (h : p_X7_costOf x1 S Q0) : MI l w yX7_costOf cX7_costOf 2 .int rm_X7_costOf [rr w 25, .int x1] S Q0 := by
  refine m_MI (own := RX7) (lv := [(0, rr w 25), (1, .int x1)]) hw (by decide) rfl (Nat.le_of_ble_eq_true rfl) rfl (fun X C => ?_)
  refine j_aload_n C dX7_costOf_0 0 rfl rfl ?_
  refine gf_RX7_37_25 C dX7_costOf_1 ?_
  refine j_iload_n C dX7_costOf_4 1 rfl rfl ?_
  refine al_35 C dX7_costOf_5 (And.left h) ?_
  have h := And.right h
  refine j_iload_n C dX7_costOf_6 1 rfl rfl ?_
  refine j_aload_n C dX7_costOf_7 0 rfl rfl ?_
  refine j_iconst C dX7_costOf_8 (v := 2) (by decide) ?_
  refine j_callVi (st := [.int x1, .int (S.1 35 x1.toNatClampNeg)]) C 25 [.int 2] (m_X7_ofKind C.wok h) cv_RX7_148 rk_X7_costOf_X7_ofKind rfl (rc_25 w) rfl (Nat.le_of_ble_eq_true rfl) dX7_costOf_9 (fun r2 S1 h => ?_)
  refine j_iand C dX7_costOf_12 ?_
  refine j_callSi (st := [.int (S.1 35 x1.toNatClampNeg)]) C [.int (x1 &&& r2)] (m_X7_size C.wok h) cv_RX7_71 rk_X7_costOf_X7_size rfl rfl (Nat.le_of_ble_eq_true rfl) dX7_costOf_13 (fun r4 S3 h => ?_)
  refine j_iadd C dX7_costOf_16 ?_
  exact j_iret C dX7_costOf_17 h
def rm_X7_cutSet : Room := { frames := 2, cells := 0, slots := 0, locals := 44 }
theorem rk_X7_cutSet_X7_costOf : roomOk rm_X7_costOf rm_X7_cutSet 2 := ⟨⟨rfl, rfl⟩, Nat.le_of_ble_eq_true rfl, Nat.le_of_ble_eq_true rfl⟩
theorem rk_X7_cutSet_X7_size : roomOk rm_X7_size rm_X7_cutSet 3 := ⟨⟨rfl, rfl⟩, Nat.le_of_ble_eq_true rfl, Nat.le_of_ble_eq_true rfl⟩
set_option maxRecDepth 20000 in
theorem t_X7_cutSet_50 {X : Mx} {w : Wt} {l0 : Launch} {Q0 : Int32 → St → Prop} {K4 : Int32 × Int32 × St → Prop} (C : Cx X w l0 cX7_cutSet 4 RX7 rm_X7_cutSet (some .int)) (hK4 : ∀ (x1 : Int32) (x2 : Int32) (S : St), K4 (x1, x2, S) → J X w (QI X w Q0) 4 [(0, rr w 25), (1, .int x1), (2, .int x2)] [] S) {x2 : Int32} {t0 : Int32} {S : St} (h : p_X7_cutSet_50 Q0 K4 x2 t0 S) : J X w (QI X w Q0) 50 [(0, rr w 25), (2, .int x2)] [.int t0] S := by
  refine j_istore_n (lv' := [(1, .int t0), (0, rr w 25), (2, .int x2)]) C dX7_cutSet_50 rfl (by decide) rfl ?_
  refine j_iinc (lv' := [(2, .int (x2 + 1)), (1, .int t0), (0, rr w 25)]) C dX7_cutSet_51 2 rfl rfl (by decide) rfl ?_
  refine j_goto (tgt := 4) C dX7_cutSet_54 (by decide) ?_
  refine j_sub [2, 1, 0] rfl ?_
  exact hK4 _ _ _ h
set_option maxRecDepth 20000 in
theorem t_X7_cutSet_45 {X : Mx} {w : Wt} {l0 : Launch} {Q0 : Int32 → St → Prop} {K4 : Int32 × Int32 × St → Prop} (C : Cx X w l0 cX7_cutSet 4 RX7 rm_X7_cutSet (some .int)) (hK4 : ∀ (x1 : Int32) (x2 : Int32) (S : St), K4 (x1, x2, S) → J X w (QI X w Q0) 4 [(0, rr w 25), (1, .int x1), (2, .int x2)] [] S) {x2 : Int32} {S : St} (h : p_X7_cutSet_45 Q0 K4 x2 S) : J X w (QI X w Q0) 45 [(0, rr w 25), (2, .int x2)] [] S := by
  refine j_iload_n C dX7_cutSet_45 1 rfl rfl ?_
  refine j_goto (tgt := 50) C dX7_cutSet_46 (by decide) ?_
  exact t_X7_cutSet_50 C hK4 h
set_option maxRecDepth 20000 in
theorem t_X7_cutSet_49 {X : Mx} {w : Wt} {l0 : Launch} {Q0 : Int32 → St → Prop} {K4 : Int32 × Int32 × St → Prop} (C : Cx X w l0 cX7_cutSet 4 RX7 rm_X7_cutSet (some .int)) (hK4 : ∀ (x1 : Int32) (x2 : Int32) (S : St), K4 (x1, x2, S) → J X w (QI X w Q0) 4 [(0, rr w 25), (1, .int x1), (2, .int x2)] [] S) {x1 : Int32} {x2 : Int32} {S : St} (h : p_X7_cutSet_49 Q0 K4 x1 x2 S) : J X w (QI X w Q0) 49 [(0, rr w 25), (1, .int x1), (2, .int x2)] [] S := by
  refine j_iload_n C dX7_cutSet_49 1 rfl rfl ?_
  refine j_sub [0, 2] rfl ?_
  exact t_X7_cutSet_50 C hK4 h
set_option maxRecDepth 20000 in
theorem t_X7_cutSet_4 {X : Mx} {w : Wt} {l0 : Launch} {Q0 : Int32 → St → Prop} (C : Cx X w l0 cX7_cutSet 4 RX7 rm_X7_cutSet (some .int)) {x1 : Int32} {x2 : Int32} {S : St} (h : Lq (p_X7_cutSet_4 Q0) (x1, x2, S)) : J X w (QI X w Q0) 4 [(0, rr w 25), (1, .int x1), (2, .int x2)] [] S := by
  have key : ∀ a : Int32 × Int32 × St, Lq (p_X7_cutSet_4 Q0) a → J X w (QI X w Q0) 4 [(0, rr w 25), (1, .int a.1), (2, .int a.2.1)] [] a.2.2 := by
    intro a ha
    refine Lq_use (G := fun a => J X w (QI X w Q0) 4 [(0, rr w 25), (1, .int a.1), (2, .int a.2.1)] [] a.2.2) ?_ ha
    intro K4 hK a h
    obtain ⟨x1, x2, S⟩ := a
    have hK4 : ∀ (x1 : Int32) (x2 : Int32) (S : St), K4 (x1, x2, S) → J X w (QI X w Q0) 4 [(0, rr w 25), (1, .int x1), (2, .int x2)] [] S := fun x1 x2 S h => hK (x1, x2, S) h
    show J X w (QI X w Q0) 4 [(0, rr w 25), (1, .int x1), (2, .int x2)] [] S
    refine j_iload_n C dX7_cutSet_4 2 rfl rfl ?_
    refine j_iconst C dX7_cutSet_5 (v := 1) (by decide) ?_
    refine j_aload_n C dX7_cutSet_6 0 rfl rfl ?_
    refine gf_RX7_111_25 C dX7_cutSet_7 ?_
    refine j_ishl C dX7_cutSet_10 ?_
    refine j_icmp_ge (tgt := 57) C dX7_cutSet_11 (by decide) (fun c1 => ?_) (fun c1 => ?_)
    · have h := And.left h c1
      refine j_iload_n C dX7_cutSet_57 1 rfl rfl ?_
      exact j_iret C dX7_cutSet_58 h
    · have h := And.right h c1
      refine j_aload_n C dX7_cutSet_14 0 rfl rfl ?_
      refine j_iload_n C dX7_cutSet_15 2 rfl rfl ?_
      refine j_callVi (st := []) C 25 [.int x2] (m_X7_costOf C.wok h) cv_RX7_221 rk_X7_cutSet_X7_costOf rfl (rc_25 w) rfl (Nat.le_of_ble_eq_true rfl) dX7_cutSet_16 (fun r3 S2 h => ?_)
      refine j_aload_n C dX7_cutSet_19 0 rfl rfl ?_
      refine j_iload_n C dX7_cutSet_20 1 rfl rfl ?_
      refine j_callVi (st := [.int r3]) C 25 [.int x1] (m_X7_costOf C.wok h) cv_RX7_221 rk_X7_cutSet_X7_costOf rfl (rc_25 w) rfl (Nat.le_of_ble_eq_true rfl) dX7_cutSet_21 (fun r5 S4 h => ?_)
      refine j_isub C dX7_cutSet_24 ?_
      refine j_istore_n (lv' := [(3, .int (r3 - r5)), (0, rr w 25), (1, .int x1), (2, .int x2)]) C dX7_cutSet_25 rfl (by decide) rfl ?_
      refine j_iload_n C dX7_cutSet_26 0 rfl rfl ?_
      refine j_if_lt (tgt := 45) C dX7_cutSet_27 (by decide) (fun c6 => ?_) (fun c6 => ?_)
      · have h := And.left h c6
        refine j_sub [1, 3] rfl ?_
        exact t_X7_cutSet_45 C hK4 h
      · have h := And.right h c6
        refine j_iload_n C dX7_cutSet_30 0 rfl rfl ?_
        refine j_if_ne (tgt := 49) C dX7_cutSet_31 (by decide) (fun c7 => ?_) (fun c7 => ?_)
        · have h := And.left h c7
          refine j_sub [1, 2, 3] rfl ?_
          exact t_X7_cutSet_49 C hK4 h
        · have h := And.right h c7
          refine j_iload_n C dX7_cutSet_34 3 rfl rfl ?_
          refine j_callSi (st := []) C [.int x2] (m_X7_size C.wok h) cv_RX7_71 rk_X7_cutSet_X7_size rfl rfl (Nat.le_of_ble_eq_true rfl) dX7_cutSet_35 (fun r9 S8 h => ?_)
          refine j_iload_n C dX7_cutSet_38 2 rfl rfl ?_
          refine j_callSi (st := [.int r9]) C [.int x1] (m_X7_size C.wok h) cv_RX7_71 rk_X7_cutSet_X7_size rfl rfl (Nat.le_of_ble_eq_true rfl) dX7_cutSet_39 (fun r11 S10 h => ?_)
          refine j_icmp_ge (tgt := 49) C dX7_cutSet_42 (by decide) (fun c12 => ?_) (fun c12 => ?_)
          · have h := And.left h c12
            refine j_sub [1, 2, 3] rfl ?_
            exact t_X7_cutSet_49 C hK4 h
          · have h := And.right h c12
            refine j_sub [1, 3] rfl ?_
            exact t_X7_cutSet_45 C hK4 h
  exact key (x1, x2, S) h
set_option maxRecDepth 20000 in
theorem m_X7_cutSet {l : Launch} {w : Wt} (hw : WOK w) {S : St} {Q0 : Int32 → St → Prop} (h : p_X7_cutSet S Q0) : MI l w yX7_cutSet cX7_cutSet 4 .int rm_X7_cutSet [rr w 25] S Q0 := by
  refine m_MI (own := RX7) (lv := [(0, rr w 25)]) hw (by decide) rfl (Nat.le_of_ble_eq_true rfl) rfl (fun X C => ?_)
  refine j_iconst C dX7_cutSet_0 (v := 0) (by decide) ?_
  refine j_istore_n (lv' := [(1, .int 0), (0, rr w 25)]) C dX7_cutSet_1 rfl (by decide) rfl ?_
  refine j_iconst C dX7_cutSet_2 (v := 1) (by decide) ?_
  refine j_istore_n (lv' := [(2, .int 1), (1, .int 0), (0, rr w 25)]) C dX7_cutSet_3 rfl (by decide) rfl ?_
  refine j_sub [2, 1, 0] rfl ?_
  exact t_X7_cutSet_4 C h
def rm_X7_cutNow : Room := { frames := 4, cells := 0, slots := 0, locals := 89 }
theorem rk_X7_cutNow_X7_costOf : roomOk rm_X7_costOf rm_X7_cutNow 2 := ⟨⟨rfl, rfl⟩, Nat.le_of_ble_eq_true rfl, Nat.le_of_ble_eq_true rfl⟩
theorem rk_X7_cutNow_X7_cutSet : roomOk rm_X7_cutSet rm_X7_cutNow 4 := ⟨⟨rfl, rfl⟩, Nat.le_of_ble_eq_true rfl, Nat.le_of_ble_eq_true rfl⟩
theorem rk_X7_cutNow_X7_lay : roomOk rm_X7_lay rm_X7_cutNow 2 := ⟨⟨rfl, rfl⟩, Nat.le_of_ble_eq_true rfl, Nat.le_of_ble_eq_true rfl⟩
theorem rk_X7_cutNow_X7_wallOf : roomOk rm_X7_wallOf rm_X7_cutNow 2 := ⟨⟨rfl, rfl⟩, Nat.le_of_ble_eq_true rfl, Nat.le_of_ble_eq_true rfl⟩
set_option maxRecDepth 20000 in
theorem m_X7_cutNow {l : Launch} {w : Wt} (hw : WOK w) {x1 : Int32} {S : St} {Q0 : Int32 → St → Prop} (h : p_X7_cutNow x1 S Q0) : MI l w yX7_cutNow cX7_cutNow 3 .int rm_X7_cutNow [rr w 25, .int x1] S Q0 := by
  refine m_MI (own := RX7) (lv := [(0, rr w 25), (1, .int x1)]) hw (by decide) rfl (Nat.le_of_ble_eq_true rfl) rfl (fun X C => ?_)
  refine j_aload_n C dX7_cutNow_0 0 rfl rfl ?_
  refine j_callVv (st := []) C 25 [] (m_X7_lay C.wok h) cv_RX7_187 rk_X7_cutNow_X7_lay rfl (rc_25 w) rfl (Nat.le_of_ble_eq_true rfl) dX7_cutNow_1 (fun S1 h => ?_)
  refine j_aload_n C dX7_cutNow_4 0 rfl rfl ?_
  refine j_callVi (st := []) C 25 [] (m_X7_cutSet C.wok h) cv_RX7_224 rk_X7_cutNow_X7_cutSet rfl (rc_25 w) rfl (Nat.le_of_ble_eq_true rfl) dX7_cutNow_5 (fun r3 S2 h => ?_)
  refine j_istore_n (lv' := [(2, .int r3), (0, rr w 25), (1, .int x1)]) C dX7_cutNow_8 rfl (by decide) rfl ?_
  refine j_iload_n C dX7_cutNow_9 2 rfl rfl ?_
  refine j_if_ne (tgt := 21) C dX7_cutNow_10 (by decide) (fun c4 => ?_) (fun c4 => ?_)
  · have h := And.left h c4
    refine j_iload_n C dX7_cutNow_21 2 rfl rfl ?_
    refine j_iconst C dX7_cutNow_22 (v := 1) (by decide) ?_
    refine j_icmp_ne (tgt := 34) C dX7_cutNow_23 (by decide) (fun c5 => ?_) (fun c5 => ?_)
    · have h := And.left h c5
      refine j_iload_n C dX7_cutNow_34 0 rfl rfl ?_
      exact j_iret C dX7_cutNow_35 h
    · have h := And.right h c5
      refine j_aload_n C dX7_cutNow_26 1 rfl rfl ?_
      refine j_iload_n C dX7_cutNow_27 0 rfl rfl ?_
      refine j_callVi (st := []) C 25 [.int r3] (m_X7_wallOf C.wok h) cv_RX7_166 rk_X7_cutNow_X7_wallOf rfl (rc_25 w) rfl (Nat.le_of_ble_eq_true rfl) dX7_cutNow_28 (fun r7 S6 h => ?_)
      refine j_goto (tgt := 35) C dX7_cutNow_31 (by decide) ?_
      exact j_iret C dX7_cutNow_35 h
  · have h := And.right h c4
    refine j_aload_n C dX7_cutNow_13 1 rfl rfl ?_
    refine j_iload_n C dX7_cutNow_14 0 rfl rfl ?_
    refine j_callVi (st := []) C 25 [.int r3] (m_X7_costOf C.wok h) cv_RX7_221 rk_X7_cutNow_X7_costOf rfl (rc_25 w) rfl (Nat.le_of_ble_eq_true rfl) dX7_cutNow_15 (fun r9 S8 h => ?_)
    refine j_goto (tgt := 35) C dX7_cutNow_18 (by decide) ?_
    exact j_iret C dX7_cutNow_35 h
def rm_X7_cut : Room := { frames := 5, cells := 0, slots := 0, locals := 111 }
theorem rk_X7_cut_X7_cutNow : roomOk rm_X7_cutNow rm_X7_cut 3 := ⟨⟨rfl, rfl⟩, Nat.le_of_ble_eq_true rfl, Nat.le_of_ble_eq_true rfl⟩
theorem rk_X7_cut_X7_isCircle : roomOk rm_X7_isCircle rm_X7_cut 1 := ⟨⟨rfl, rfl⟩, Nat.le_of_ble_eq_true rfl, Nat.le_of_ble_eq_true rfl⟩
theorem rk_X7_cut_X7_within : roomOk rm_X7_within rm_X7_cut 3 := ⟨⟨rfl, rfl⟩, Nat.le_of_ble_eq_true rfl, Nat.le_of_ble_eq_true rfl⟩
set_option maxRecDepth 20000 in
theorem m_X7_cut {l : Launch} {w : Wt} (hw : WOK w) {x1 : Int32} {S : St} {Q0 : Int32 → St → Prop} (h : p_X7_cut x1 S Q0) : MI l w yX7_cut cX7_cut 2 .int rm_X7_cut [rr w 25, .int x1] S Q0 := by
  refine m_MI (own := RX7) (lv := [(0, rr w 25), (1, .int x1)]) hw (by decide) rfl (Nat.le_of_ble_eq_true rfl) rfl (fun X C => ?_)
  refine j_iload_n C dX7_cut_0 1 rfl rfl ?_
  refine j_iconst C dX7_cut_1 (v := 0) (by decide) ?_
  refine j_iconst C dX7_cut_2 (v := 2) (by decide) ?_
  refine j_callSi (st := []) C [.int x1, .int 0, .int 2] (m_X7_within C.wok h) cv_RX7_50 rk_X7_cut_X7_within rfl rfl (Nat.le_of_ble_eq_true rfl) dX7_cut_3 (fun r2 S1 h => ?_)
  refine j_if_ne (tgt := 12) C dX7_cut_6 (by decide) (fun c3 => ?_) (fun c3 => ?_)
  · have h := And.left h c3
    refine j_aload_n C dX7_cut_12 0 rfl rfl ?_
    refine j_callVi (st := []) C 25 [] (m_X7_isCircle C.wok h) cv_RX7_139 rk_X7_cut_X7_isCircle rfl (rc_25 w) rfl (Nat.le_of_ble_eq_true rfl) dX7_cut_13 (fun r5 S4 h => ?_)
    refine j_if_eq (tgt := 27) C dX7_cut_16 (by decide) (fun c6 => ?_) (fun c6 => ?_)
    · have h := And.left h c6
      refine j_bipush C dX7_cut_27 (v := (-103)) (by decide) ?_
      exact j_iret C dX7_cut_29 h
    · have h := And.right h c6
      refine j_aload_n C dX7_cut_19 0 rfl rfl ?_
      refine j_iload_n C dX7_cut_20 1 rfl rfl ?_
      refine j_callVi (st := []) C 25 [.int x1] (m_X7_cutNow C.wok h) cv_RX7_227 rk_X7_cut_X7_cutNow rfl (rc_25 w) rfl (Nat.le_of_ble_eq_true rfl) dX7_cut_21 (fun r8 S7 h => ?_)
      refine j_goto (tgt := 29) C dX7_cut_24 (by decide) ?_
      exact j_iret C dX7_cut_29 h
  · have h := And.right h c3
    refine j_bipush C dX7_cut_9 (v := (-102)) (by decide) ?_
    exact j_iret C dX7_cut_11 h
def rm_X4_reachedWithout : Room := { frames := 2, cells := 0, slots := 0, locals := 44 }
theorem rk_X4_reachedWithout_X4_vouchedBy : roomOk rm_X4_vouchedBy rm_X4_reachedWithout 4 := ⟨⟨rfl, rfl⟩, Nat.le_of_ble_eq_true rfl, Nat.le_of_ble_eq_true rfl⟩
set_option maxRecDepth 20000 in
theorem t_X4_reachedWithout_14 {X : Mx} {w : Wt} {l0 : Launch} {Q0 : Int32 → St → Prop} (C : Cx X w l0 cX4_reachedWithout 5 RX4 rm_X4_reachedWithout (some .int)) {x1 : Int32} {x2 : Int32} {x3 : Int32} {x4 : Int32} {S : St} (h : Lq (p_X4_reachedWithout_14 Q0) (x1, x2, x3, x4, S)) : J X w (QI X w Q0) 14 [(0, rr w 14), (1, .int x1), (2, .int x2), (3, .int x3), (4, .int x4)] [] S := by
  have key : ∀ a : Int32 × Int32 × Int32 × Int32 × St, Lq (p_X4_reachedWithout_14 Q0) a → J X w (QI X w Q0) 14 [(0, rr w 14), (1, .int a.1), (2, .int a.2.1), (3, .int a.2.2.1), (4, .int a.2.2.2.1)] [] a.2.2.2.2 := by
    intro a ha
    refine Lq_use (G := fun a => J X w (QI X w Q0) 14 [(0, rr w 14), (1, .int a.1), (2, .int a.2.1), (3, .int a.2.2.1), (4, .int a.2.2.2.1)] [] a.2.2.2.2) ?_ ha
    intro K14 hK a h
    obtain ⟨x1, x2, x3, x4, S⟩ := a
    have hK14 : ∀ (x1 : Int32) (x2 : Int32) (x3 : Int32) (x4 : Int32) (S : St), K14 (x1, x2, x3, x4, S) → J X w (QI X w Q0) 14 [(0, rr w 14), (1, .int x1), (2, .int x2), (3, .int x3), (4, .int x4)] [] S := fun x1 x2 x3 x4 S h => hK (x1, x2, x3, x4, S) h
    show J X w (QI X w Q0) 14 [(0, rr w 14), (1, .int x1), (2, .int x2), (3, .int x3), (4, .int x4)] [] S
    refine j_iload C dX4_reachedWithout_14 4 rfl ?_
    refine j_aload_n C dX4_reachedWithout_16 0 rfl rfl ?_
    refine gf_RX4_27_14 C dX4_reachedWithout_17 ?_
    refine j_icmp_ge (tgt := 51) C dX4_reachedWithout_20 (by decide) (fun c1 => ?_) (fun c1 => ?_)
    · have h := And.left h c1
      refine j_iload_n C dX4_reachedWithout_51 2 rfl rfl ?_
      exact j_iret C dX4_reachedWithout_52 h
    · have h := And.right h c1
      refine j_iload_n C dX4_reachedWithout_23 3 rfl rfl ?_
      refine j_if_eq (tgt := 51) C dX4_reachedWithout_24 (by decide) (fun c2 => ?_) (fun c2 => ?_)
      · have h := And.left h c2
        refine j_iload_n C dX4_reachedWithout_51 2 rfl rfl ?_
        exact j_iret C dX4_reachedWithout_52 h
      · have h := And.right h c2
        refine j_aload_n C dX4_reachedWithout_27 0 rfl rfl ?_
        refine j_iload_n C dX4_reachedWithout_28 3 rfl rfl ?_
        refine j_callVi (st := []) C 14 [.int x3] (m_X4_vouchedBy C.wok h) cv_RX4_58 rk_X4_reachedWithout_X4_vouchedBy rfl (rc_14 w) rfl (Nat.le_of_ble_eq_true rfl) dX4_reachedWithout_29 (fun r4 S3 h => ?_)
        refine j_iload_n C dX4_reachedWithout_32 1 rfl rfl ?_
        refine j_iconst C dX4_reachedWithout_33 (v := (-1)) (by decide) ?_
        refine j_ixor C dX4_reachedWithout_34 ?_
        refine j_iand C dX4_reachedWithout_35 ?_
        refine j_iload_n C dX4_reachedWithout_36 2 rfl rfl ?_
        refine j_iconst C dX4_reachedWithout_37 (v := (-1)) (by decide) ?_
        refine j_ixor C dX4_reachedWithout_38 ?_
        refine j_iand C dX4_reachedWithout_39 ?_
        refine j_istore_n (lv' := [(3, .int ((r4 &&& (x1 ^^^ (-1))) &&& (x2 ^^^ (-1)))), (0, rr w 14), (1, .int x1), (2, .int x2), (4, .int x4)]) C dX4_reachedWithout_40 rfl (by decide) rfl ?_
        refine j_iload_n C dX4_reachedWithout_41 3 rfl rfl ?_
        refine j_iload_n C dX4_reachedWithout_42 0 rfl rfl ?_
        refine j_ior C dX4_reachedWithout_43 ?_
        refine j_istore_n (lv' := [(2, .int (x2 ||| ((r4 &&& (x1 ^^^ (-1))) &&& (x2 ^^^ (-1))))), (3, .int ((r4 &&& (x1 ^^^ (-1))) &&& (x2 ^^^ (-1)))), (0, rr w 14), (1, .int x1), (4, .int x4)]) C dX4_reachedWithout_44 rfl (by decide) rfl ?_
        refine j_iinc (lv' := [(4, .int (x4 + 1)), (2, .int (x2 ||| ((r4 &&& (x1 ^^^ (-1))) &&& (x2 ^^^ (-1))))), (3, .int ((r4 &&& (x1 ^^^ (-1))) &&& (x2 ^^^ (-1)))), (0, rr w 14), (1, .int x1)]) C dX4_reachedWithout_45 4 rfl rfl (by decide) rfl ?_
        refine j_goto (tgt := 14) C dX4_reachedWithout_48 (by decide) ?_
        refine j_sub [3, 4, 1, 2, 0] rfl ?_
        exact hK14 _ _ _ _ _ h
  exact key (x1, x2, x3, x4, S) h
set_option maxRecDepth 20000 in
theorem m_X4_reachedWithout {l : Launch} {w : Wt} (hw : WOK w) {x1 : Int32} {S : St} {Q0 : Int32 → St → Prop} (h : p_X4_reachedWithout x1 S Q0) : MI l w yX4_reachedWithout cX4_reachedWithout 5 .int rm_X4_reachedWithout [rr w 14, .int x1] S Q0 := by
  refine m_MI (own := RX4) (lv := [(0, rr w 14), (1, .int x1)]) hw (by decide) rfl (Nat.le_of_ble_eq_true rfl) rfl (fun X C => ?_)
  refine j_aload_n C dX4_reachedWithout_0 0 rfl rfl ?_
  refine gf_RX4_32_14 C dX4_reachedWithout_1 ?_
  refine j_iload_n C dX4_reachedWithout_4 1 rfl rfl ?_
  refine j_iconst C dX4_reachedWithout_5 (v := (-1)) (by decide) ?_
  refine j_ixor C dX4_reachedWithout_6 ?_
  refine j_iand C dX4_reachedWithout_7 ?_
  refine j_istore_n (lv' := [(2, .int ((S.1 14 1) &&& (x1 ^^^ (-1)))), (0, rr w 14), (1, .int x1)]) C dX4_reachedWithout_8 rfl (by decide) rfl ?_
  refine j_iload_n C dX4_reachedWithout_9 0 rfl rfl ?_
  refine j_istore_n (lv' := [(3, .int ((S.1 14 1) &&& (x1 ^^^ (-1)))), (2, .int ((S.1 14 1) &&& (x1 ^^^ (-1)))), (0, rr w 14), (1, .int x1)]) C dX4_reachedWithout_10 rfl (by decide) rfl ?_
  refine j_iconst C dX4_reachedWithout_11 (v := 0) (by decide) ?_
  refine j_istore (lv' := [(4, .int 0), (3, .int ((S.1 14 1) &&& (x1 ^^^ (-1)))), (2, .int ((S.1 14 1) &&& (x1 ^^^ (-1)))), (0, rr w 14), (1, .int x1)]) C dX4_reachedWithout_12 (by decide) rfl ?_
  refine j_sub [3, 4, 2, 1, 0] rfl ?_
  exact t_X4_reachedWithout_14 C h
def rm_X6_apart : Room := { frames := 4, cells := 0, slots := 0, locals := 93 }
theorem rk_X6_apart_J6_bitCount_0f7a4 : roomOk rm_J6_bitCount_0f7a4 rm_X6_apart 1 := ⟨⟨rfl, rfl⟩, Nat.le_of_ble_eq_true rfl, Nat.le_of_ble_eq_true rfl⟩
theorem rk_X6_apart_X0_everyone : roomOk rm_X0_everyone rm_X6_apart 1 := ⟨⟨rfl, rfl⟩, Nat.le_of_ble_eq_true rfl, Nat.le_of_ble_eq_true rfl⟩
theorem rk_X6_apart_X0_has : roomOk rm_X0_has rm_X6_apart 2 := ⟨⟨rfl, rfl⟩, Nat.le_of_ble_eq_true rfl, Nat.le_of_ble_eq_true rfl⟩
theorem rk_X6_apart_X4_reachedWithout : roomOk rm_X4_reachedWithout rm_X6_apart 5 := ⟨⟨rfl, rfl⟩, Nat.le_of_ble_eq_true rfl, Nat.le_of_ble_eq_true rfl⟩
theorem rk_X6_apart_X6_bit : roomOk rm_X6_bit rm_X6_apart 2 := ⟨⟨rfl, rfl⟩, Nat.le_of_ble_eq_true rfl, Nat.le_of_ble_eq_true rfl⟩
theorem rk_X6_apart_X6_waysTo : roomOk rm_X6_waysTo rm_X6_apart 4 := ⟨⟨rfl, rfl⟩, Nat.le_of_ble_eq_true rfl, Nat.le_of_ble_eq_true rfl⟩
set_option maxRecDepth 20000 in
theorem t_X6_apart_95 {X : Mx} {w : Wt} {l0 : Launch} {Q0 : Int32 → St → Prop} {K52 : Int32 × Int32 × Int32 × Int32 × St → Prop} (C : Cx X w l0 cX6_apart 5 RX6 rm_X6_apart (some .int)) (hK52 : ∀ (x1 : Int32) (x2 : Int32) (x3 : Int32) (x4 : Int32) (S : St), K52 (x1, x2, x3, x4, S) → J X w (QI X w Q0) 52 [(0, rr w 0), (1, .int x1), (2, .int x2), (3, .int x3), (4, .int x4)] [] S) {x1 : Int32} {x2 : Int32} {x3 : Int32} {x4 : Int32} {S : St} (h : p_X6_apart_95 Q0 K52 x1 x2 x3 x4 S) : J X w (QI X w Q0) 95 [(0, rr w 0), (1, .int x1), (2, .int x2), (3, .int x3), (4, .int x4)] [] S := by
  refine j_iinc (lv' := [(4, .int (x4 + 1)), (0, rr w 0), (1, .int x1), (2, .int x2), (3, .int x3)]) C dX6_apart_95 4 rfl rfl (by decide) rfl ?_
  refine j_goto (tgt := 52) C dX6_apart_98 (by decide) ?_
  refine j_sub [1, 2, 3, 4, 0] rfl ?_
  exact hK52 _ _ _ _ _ h
set_option maxRecDepth 20000 in
theorem t_X6_apart_52 {X : Mx} {w : Wt} {l0 : Launch} {Q0 : Int32 → St → Prop} (C : Cx X w l0 cX6_apart 5 RX6 rm_X6_apart (some .int)) {x1 : Int32} {x2 : Int32} {x3 : Int32} {x4 : Int32} {S : St} (h : Lq (p_X6_apart_52 Q0) (x1, x2, x3, x4, S)) : J X w (QI X w Q0) 52 [(0, rr w 0), (1, .int x1), (2, .int x2), (3, .int x3), (4, .int x4)] [] S := by
  have key : ∀ a : Int32 × Int32 × Int32 × Int32 × St, Lq (p_X6_apart_52 Q0) a → J X w (QI X w Q0) 52 [(0, rr w 0), (1, .int a.1), (2, .int a.2.1), (3, .int a.2.2.1), (4, .int a.2.2.2.1)] [] a.2.2.2.2 := by
    intro a ha
    refine Lq_use (G := fun a => J X w (QI X w Q0) 52 [(0, rr w 0), (1, .int a.1), (2, .int a.2.1), (3, .int a.2.2.1), (4, .int a.2.2.2.1)] [] a.2.2.2.2) ?_ ha
    intro K52 hK a h
    obtain ⟨x1, x2, x3, x4, S⟩ := a
    have hK52 : ∀ (x1 : Int32) (x2 : Int32) (x3 : Int32) (x4 : Int32) (S : St), K52 (x1, x2, x3, x4, S) → J X w (QI X w Q0) 52 [(0, rr w 0), (1, .int x1), (2, .int x2), (3, .int x3), (4, .int x4)] [] S := fun x1 x2 x3 x4 S h => hK (x1, x2, x3, x4, S) h
    show J X w (QI X w Q0) 52 [(0, rr w 0), (1, .int x1), (2, .int x2), (3, .int x3), (4, .int x4)] [] S
    refine j_iload C dX6_apart_52 4 rfl ?_
    refine j_iload_n C dX6_apart_54 3 rfl rfl ?_
    refine j_icmp_gt (tgt := 101) C dX6_apart_55 (by decide) (fun c9 => ?_) (fun c9 => ?_)
    · have h := And.left h c9
      refine j_iload_n C dX6_apart_101 3 rfl rfl ?_
      exact j_iret C dX6_apart_102 h
    · have h := And.right h c9
      refine j_iload C dX6_apart_58 4 rfl ?_
      refine j_iload_n C dX6_apart_60 3 rfl rfl ?_
      refine j_iconst C dX6_apart_61 (v := (-1)) (by decide) ?_
      refine j_ixor C dX6_apart_62 ?_
      refine j_iand C dX6_apart_63 ?_
      refine j_if_ne (tgt := 95) C dX6_apart_64 (by decide) (fun c10 => ?_) (fun c10 => ?_)
      · have h := And.left h c10
        exact t_X6_apart_95 C hK52 h
      · have h := And.right h c10
        refine j_iload C dX6_apart_67 4 rfl ?_
        refine j_callSi (st := []) C [.int x4] (m_J6_bitCount_0f7a4 C.wok h) cv_RX6_110 rk_X6_apart_J6_bitCount_0f7a4 rfl rfl (Nat.le_of_ble_eq_true rfl) dX6_apart_69 (fun r12 S11 h => ?_)
        refine j_iload_n C dX6_apart_72 2 rfl rfl ?_
        refine j_icmp_ne (tgt := 95) C dX6_apart_73 (by decide) (fun c13 => ?_) (fun c13 => ?_)
        · have h := And.left h c13
          exact t_X6_apart_95 C hK52 h
        · have h := And.right h c13
          refine j_aload_n C dX6_apart_76 0 rfl rfl ?_
          refine gf_RX6_45_0 C dX6_apart_77 ?_
          refine j_iload C dX6_apart_80 4 rfl ?_
          refine j_callVi (st := []) C 14 [.int x4] (m_X4_reachedWithout C.wok h) cv_RX6_198 rk_X6_apart_X4_reachedWithout rfl (rc_14 w) rfl (Nat.le_of_ble_eq_true rfl) dX6_apart_82 (fun r15 S14 h => ?_)
          refine j_iload_n C dX6_apart_85 1 rfl rfl ?_
          refine j_callSi (st := []) C [.int r15, .int x1] (m_X6_bit C.wok h) cv_RX6_172 rk_X6_apart_X6_bit rfl rfl (Nat.le_of_ble_eq_true rfl) dX6_apart_86 (fun r17 S16 h => ?_)
          refine j_if_ne (tgt := 95) C dX6_apart_89 (by decide) (fun c18 => ?_) (fun c18 => ?_)
          · have h := And.left h c18
            exact t_X6_apart_95 C hK52 h
          · have h := And.right h c18
            refine j_iload C dX6_apart_92 4 rfl ?_
            exact j_iret C dX6_apart_94 h
  exact key (x1, x2, x3, x4, S) h
set_option maxRecDepth 20000 in
theorem m_X6_apart {l : Launch} {w : Wt} (hw : WOK w) {x1 : Int32} {S : St} {Q0 : Int32 → St → Prop} (h : p_X6_apart x1 S Q0) : MI l w yX6_apart cX6_apart 5 .int rm_X6_apart [rr w 0, .int x1] S Q0 := by
  refine m_MI (own := RX6) (lv := [(0, rr w 0), (1, .int x1)]) hw (by decide) rfl (Nat.le_of_ble_eq_true rfl) rfl (fun X C => ?_)
  refine j_aload_n C dX6_apart_0 0 rfl rfl ?_
  refine gf_RX6_16_0 C dX6_apart_1 ?_
  refine j_iload_n C dX6_apart_4 1 rfl rfl ?_
  refine j_callVi (st := []) C 2 [.int x1] (m_X0_has C.wok h) cv_RX6_97 rk_X6_apart_X0_has rfl (rc_2 w) rfl (Nat.le_of_ble_eq_true rfl) dX6_apart_5 (fun r2 S1 h => ?_)
  refine j_if_ne (tgt := 14) C dX6_apart_8 (by decide) (fun c3 => ?_) (fun c3 => ?_)
  · have h := And.left h c3
    refine j_aload_n C dX6_apart_14 0 rfl rfl ?_
    refine gf_RX6_16_0 C dX6_apart_15 ?_
    refine gf_RX6_103_2 C dX6_apart_18 ?_
    refine j_iload_n C dX6_apart_21 1 rfl rfl ?_
    refine al_4 C dX6_apart_22 (And.left h) ?_
    have h := And.right h
    refine j_iconst C dX6_apart_23 (v := 1) (by decide) ?_
    refine j_icmp_ne (tgt := 29) C dX6_apart_24 (by decide) (fun c4 => ?_) (fun c4 => ?_)
    · have h := And.left h c4
      refine j_aload_n C dX6_apart_29 0 rfl rfl ?_
      refine j_iload_n C dX6_apart_30 1 rfl rfl ?_
      refine j_callVi (st := []) C 0 [.int x1] (m_X6_waysTo C.wok h) cv_RX6_160 rk_X6_apart_X6_waysTo rfl (rc_0 w) rfl (Nat.le_of_ble_eq_true rfl) dX6_apart_31 (fun r6 S5 h => ?_)
      refine j_istore_n (lv' := [(2, .int r6), (0, rr w 0), (1, .int x1)]) C dX6_apart_34 rfl (by decide) rfl ?_
      refine j_aload_n C dX6_apart_35 1 rfl rfl ?_
      refine gf_RX6_16_0 C dX6_apart_36 ?_
      refine j_callVi (st := []) C 2 [] (m_X0_everyone C.wok h) cv_RX6_151 rk_X6_apart_X0_everyone rfl (rc_2 w) rfl (Nat.le_of_ble_eq_true rfl) dX6_apart_39 (fun r8 S7 h => ?_)
      refine j_iconst C dX6_apart_42 (v := 1) (by decide) ?_
      refine j_iload_n C dX6_apart_43 2 rfl rfl ?_
      refine j_ishl C dX6_apart_44 ?_
      refine j_iconst C dX6_apart_45 (v := (-1)) (by decide) ?_
      refine j_ixor C dX6_apart_46 ?_
      refine j_iand C dX6_apart_47 ?_
      refine j_istore_n (lv' := [(3, .int (r8 &&& ((1 <<< (x1 &&& 31)) ^^^ (-1)))), (2, .int r6), (0, rr w 0), (1, .int x1)]) C dX6_apart_48 rfl (by decide) rfl ?_
      refine j_iconst C dX6_apart_49 (v := 0) (by decide) ?_
      refine j_istore (lv' := [(4, .int 0), (3, .int (r8 &&& ((1 <<< (x1 &&& 31)) ^^^ (-1)))), (2, .int r6), (0, rr w 0), (1, .int x1)]) C dX6_apart_50 (by decide) rfl ?_
      refine j_sub [3, 4, 2, 1, 0] rfl ?_
      exact t_X6_apart_52 C h
    · have h := And.right h c4
      refine j_iconst C dX6_apart_27 (v := (-1)) (by decide) ?_
      exact j_iret C dX6_apart_28 h
  · have h := And.right h c3
    refine j_bipush C dX6_apart_11 (v := (-101)) (by decide) ?_
    exact j_iret C dX6_apart_13 h
def rm_X7_apart : Room := { frames := 4, cells := 0, slots := 0, locals := 92 }
theorem rk_X7_apart_X7_apartNow : roomOk rm_X7_apartNow rm_X7_apart 5 := ⟨⟨rfl, rfl⟩, Nat.le_of_ble_eq_true rfl, Nat.le_of_ble_eq_true rfl⟩
theorem rk_X7_apart_X7_isPerson : roomOk rm_X7_isPerson rm_X7_apart 2 := ⟨⟨rfl, rfl⟩, Nat.le_of_ble_eq_true rfl, Nat.le_of_ble_eq_true rfl⟩
set_option maxRecDepth 20000 in
theorem m_X7_apart {l : Launch} {w : Wt} (hw : WOK w) {x1 : Int32} {S : St} {Q0 : Int32 → St → Prop} (h : p_X7_apart x1 S Q0) : MI l w yX7_apart cX7_apart 2 .int rm_X7_apart [rr w 25, .int x1] S Q0 := by
  refine m_MI (own := RX7) (lv := [(0, rr w 25), (1, .int x1)]) hw (by decide) rfl (Nat.le_of_ble_eq_true rfl) rfl (fun X C => ?_)
  refine j_aload_n C dX7_apart_0 0 rfl rfl ?_
  refine j_iload_n C dX7_apart_1 1 rfl rfl ?_
  refine j_callVi (st := []) C 25 [.int x1] (m_X7_isPerson C.wok h) cv_RX7_145 rk_X7_apart_X7_isPerson rfl (rc_25 w) rfl (Nat.le_of_ble_eq_true rfl) dX7_apart_2 (fun r2 S1 h => ?_)
  refine j_if_eq (tgt := 16) C dX7_apart_5 (by decide) (fun c3 => ?_) (fun c3 => ?_)
  · have h := And.left h c3
    refine j_bipush C dX7_apart_16 (v := (-101)) (by decide) ?_
    exact j_iret C dX7_apart_18 h
  · have h := And.right h c3
    refine j_aload_n C dX7_apart_8 0 rfl rfl ?_
    refine j_iload_n C dX7_apart_9 1 rfl rfl ?_
    refine j_callVi (st := []) C 25 [.int x1] (m_X7_apartNow C.wok h) cv_RX7_199 rk_X7_apart_X7_apartNow rfl (rc_25 w) rfl (Nat.le_of_ble_eq_true rfl) dX7_apart_10 (fun r5 S4 h => ?_)
    refine j_goto (tgt := 18) C dX7_apart_13 (by decide) ?_
    exact j_iret C dX7_apart_18 h
def rm_X4_leaveOut : Room := { frames := 0, cells := 0, slots := 0, locals := 0 }
set_option maxRecDepth 20000 in
theorem m_X4_leaveOut {l : Launch} {w : Wt} (hw : WOK w) {x1 : Int32} {x2 : Int32} {S : St} {Q0 : St → Prop} (h : p_X4_leaveOut x1 x2 S Q0) : MV l w yX4_leaveOut cX4_leaveOut 3 rm_X4_leaveOut [rr w 14, .int x1, .int x2] S Q0 := by
  refine m_MV (own := RX4) (lv := [(0, rr w 14), (1, .int x1), (2, .int x2)]) hw (by decide) rfl (Nat.le_of_ble_eq_true rfl) rfl (fun X C => ?_)
  refine j_aload_n C dX4_leaveOut_0 0 rfl rfl ?_
  refine gf_RX4_9_14 C dX4_leaveOut_1 ?_
  refine j_iload_n C dX4_leaveOut_4 1 rfl rfl ?_
  refine j_dup2 C dX4_leaveOut_5 rfl rfl ?_
  refine al_15 C dX4_leaveOut_6 (And.left h) ?_
  have h := And.right h
  refine j_iconst C dX4_leaveOut_7 (v := 1) (by decide) ?_
  refine j_iload_n C dX4_leaveOut_8 2 rfl rfl ?_
  refine j_ishl C dX4_leaveOut_9 ?_
  refine j_iconst C dX4_leaveOut_10 (v := (-1)) (by decide) ?_
  refine j_ixor C dX4_leaveOut_11 ?_
  refine j_iand C dX4_leaveOut_12 ?_
  refine as_15 C dX4_leaveOut_13 (And.left h) (fun S1 eS1 => ?_)
  have h := And.right h S1 eS1
  exact j_vret C dX4_leaveOut_14 h
def rm_X6_prepareWebWithout : Room := { frames := 3, cells := 0, slots := 0, locals := 70 }
theorem rk_X6_prepareWebWithout_X4_copy : roomOk rm_X4_copy rm_X6_prepareWebWithout 2 := ⟨⟨rfl, rfl⟩, Nat.le_of_ble_eq_true rfl, Nat.le_of_ble_eq_true rfl⟩
theorem rk_X6_prepareWebWithout_X4_leaveOut : roomOk rm_X4_leaveOut rm_X6_prepareWebWithout 3 := ⟨⟨rfl, rfl⟩, Nat.le_of_ble_eq_true rfl, Nat.le_of_ble_eq_true rfl⟩
theorem rk_X6_prepareWebWithout_X4_settle : roomOk rm_X4_settle rm_X6_prepareWebWithout 7 := ⟨⟨rfl, rfl⟩, Nat.le_of_ble_eq_true rfl, Nat.le_of_ble_eq_true rfl⟩
set_option maxRecDepth 20000 in
theorem m_X6_prepareWebWithout {l : Launch} {w : Wt} (hw : WOK w) {x1 : Int32} {x2 : Int32} {S : St} {Q0 : St → Prop} (h : p_X6_prepareWebWithout x1 x2 S Q0) : MV l w yX6_prepareWebWithout cX6_prepareWebWithout 3 rm_X6_prepareWebWithout [rr w 0, .int x1, .int x2] S Q0 := by
  refine m_MV (own := RX6) (lv := [(0, rr w 0), (1, .int x1), (2, .int x2)]) hw (by decide) rfl (Nat.le_of_ble_eq_true rfl) rfl (fun X C => ?_)
  refine j_aload_n C dX6_prepareWebWithout_0 0 rfl rfl ?_
  refine gf_RX6_45_0 C dX6_prepareWebWithout_1 ?_
  refine j_aload_n C dX6_prepareWebWithout_4 0 rfl rfl ?_
  refine gf_RX6_16_0 C dX6_prepareWebWithout_5 ?_
  refine j_callVv (st := []) C 14 [rr w 2] (m_X4_copy C.wok h) cv_RX6_179 rk_X6_prepareWebWithout_X4_copy rfl (rc_14 w) rfl (Nat.le_of_ble_eq_true rfl) dX6_prepareWebWithout_8 (fun S1 h => ?_)
  refine j_aload_n C dX6_prepareWebWithout_11 0 rfl rfl ?_
  refine gf_RX6_45_0 C dX6_prepareWebWithout_12 ?_
  refine j_iload_n C dX6_prepareWebWithout_15 1 rfl rfl ?_
  refine j_iload_n C dX6_prepareWebWithout_16 2 rfl rfl ?_
  refine j_callVv (st := []) C 14 [.int x1, .int x2] (m_X4_leaveOut C.wok h) cv_RX6_273 rk_X6_prepareWebWithout_X4_leaveOut rfl (rc_14 w) rfl (Nat.le_of_ble_eq_true rfl) dX6_prepareWebWithout_17 (fun S2 h => ?_)
  refine j_aload_n C dX6_prepareWebWithout_20 0 rfl rfl ?_
  refine gf_RX6_45_0 C dX6_prepareWebWithout_21 ?_
  refine j_aload_n C dX6_prepareWebWithout_24 0 rfl rfl ?_
  refine gf_RX6_16_0 C dX6_prepareWebWithout_25 ?_
  refine j_callVv (st := []) C 14 [rr w 2] (m_X4_settle C.wok h) cv_RX6_186 rk_X6_prepareWebWithout_X4_settle rfl (rc_14 w) rfl (Nat.le_of_ble_eq_true rfl) dX6_prepareWebWithout_28 (fun S3 h => ?_)
  exact j_vret C dX6_prepareWebWithout_31 h
def rm_X6_without : Room := { frames := 4, cells := 0, slots := 0, locals := 93 }
theorem rk_X6_without_J6_bitCount_0f7a4 : roomOk rm_J6_bitCount_0f7a4 rm_X6_without 1 := ⟨⟨rfl, rfl⟩, Nat.le_of_ble_eq_true rfl, Nat.le_of_ble_eq_true rfl⟩
theorem rk_X6_without_X0_everyone : roomOk rm_X0_everyone rm_X6_without 1 := ⟨⟨rfl, rfl⟩, Nat.le_of_ble_eq_true rfl, Nat.le_of_ble_eq_true rfl⟩
theorem rk_X6_without_X0_hasPair : roomOk rm_X0_hasPair rm_X6_without 3 := ⟨⟨rfl, rfl⟩, Nat.le_of_ble_eq_true rfl, Nat.le_of_ble_eq_true rfl⟩
theorem rk_X6_without_X0_hasVouch : roomOk rm_X0_hasVouch rm_X6_without 3 := ⟨⟨rfl, rfl⟩, Nat.le_of_ble_eq_true rfl, Nat.le_of_ble_eq_true rfl⟩
theorem rk_X6_without_X0_ofKind : roomOk rm_X0_ofKind rm_X6_without 4 := ⟨⟨rfl, rfl⟩, Nat.le_of_ble_eq_true rfl, Nat.le_of_ble_eq_true rfl⟩
theorem rk_X6_without_X6_admitted : roomOk rm_X6_admitted rm_X6_without 4 := ⟨⟨rfl, rfl⟩, Nat.le_of_ble_eq_true rfl, Nat.le_of_ble_eq_true rfl⟩
theorem rk_X6_without_X6_prepareWebWithout : roomOk rm_X6_prepareWebWithout rm_X6_without 3 := ⟨⟨rfl, rfl⟩, Nat.le_of_ble_eq_true rfl, Nat.le_of_ble_eq_true rfl⟩
set_option maxRecDepth 20000 in
theorem m_X6_without {l : Launch} {w : Wt} (hw : WOK w) {x1 : Int32} {x2 : Int32} {x3 : Int32} {S : St} {Q0 : Int32 → St → Prop} (h : p_X6_without x1 x2 x3 S Q0) : MI l w yX6_without cX6_without 4 .int rm_X6_without [rr w 0, .int x1, .int x2, .int x3] S Q0 := by
  refine m_MI (own := RX6) (lv := [(0, rr w 0), (1, .int x1), (2, .int x2), (3, .int x3)]) hw (by decide) rfl (Nat.le_of_ble_eq_true rfl) rfl (fun X C => ?_)
  refine j_aload_n C dX6_without_0 0 rfl rfl ?_
  refine gf_RX6_16_0 C dX6_without_1 ?_
  refine j_iload_n C dX6_without_4 1 rfl rfl ?_
  refine j_iload_n C dX6_without_5 2 rfl rfl ?_
  refine j_callVi (st := []) C 2 [.int x1, .int x2] (m_X0_hasPair C.wok h) cv_RX6_115 rk_X6_without_X0_hasPair rfl (rc_2 w) rfl (Nat.le_of_ble_eq_true rfl) dX6_without_6 (fun r2 S1 h => ?_)
  refine j_if_ne (tgt := 15) C dX6_without_9 (by decide) (fun c3 => ?_) (fun c3 => ?_)
  · have h := And.left h c3
    refine j_aload_n C dX6_without_15 0 rfl rfl ?_
    refine gf_RX6_16_0 C dX6_without_16 ?_
    refine j_iload_n C dX6_without_19 1 rfl rfl ?_
    refine j_iload_n C dX6_without_20 2 rfl rfl ?_
    refine j_callVi (st := []) C 2 [.int x1, .int x2] (m_X0_hasVouch C.wok h) cv_RX6_119 rk_X6_without_X0_hasVouch rfl (rc_2 w) rfl (Nat.le_of_ble_eq_true rfl) dX6_without_21 (fun r5 S4 h => ?_)
    refine j_if_ne (tgt := 30) C dX6_without_24 (by decide) (fun c6 => ?_) (fun c6 => ?_)
    · have h := And.left h c6
      refine j_iload_n C dX6_without_30 3 rfl rfl ?_
      refine j_if_lt (tgt := 39) C dX6_without_31 (by decide) (fun c7 => ?_) (fun c7 => ?_)
      · have h := And.left h c7
        refine j_bipush C dX6_without_39 (v := (-102)) (by decide) ?_
        exact j_iret C dX6_without_41 h
      · have h := And.right h c7
        refine j_iload_n C dX6_without_34 3 rfl rfl ?_
        refine j_iconst C dX6_without_35 (v := 2) (by decide) ?_
        refine j_icmp_le (tgt := 42) C dX6_without_36 (by decide) (fun c8 => ?_) (fun c8 => ?_)
        · have h := And.left h c8
          refine j_aload_n C dX6_without_42 0 rfl rfl ?_
          refine j_iload_n C dX6_without_43 1 rfl rfl ?_
          refine j_iload_n C dX6_without_44 2 rfl rfl ?_
          refine j_callVv (st := []) C 0 [.int x1, .int x2] (m_X6_prepareWebWithout C.wok h) cv_RX6_201 rk_X6_without_X6_prepareWebWithout rfl (rc_0 w) rfl (Nat.le_of_ble_eq_true rfl) dX6_without_45 (fun S9 h => ?_)
          refine j_iload_n C dX6_without_48 3 rfl rfl ?_
          by_cases c10 : x3 = 0
          · have h := And.left h c10
            refine j_lookup (tgt := 76) (off := 27) C dX6_without_49 (by decide) (by rw [c10]; decide) (by decide) ?_
            refine j_aload_n C dX6_without_76 0 rfl rfl ?_
            refine j_aload_n C dX6_without_77 0 rfl rfl ?_
            refine gf_RX6_16_0 C dX6_without_78 ?_
            refine j_callVi (st := [rr w 0]) C 2 [] (m_X0_everyone C.wok h) cv_RX6_151 rk_X6_without_X0_everyone rfl (rc_2 w) rfl (Nat.le_of_ble_eq_true rfl) dX6_without_81 (fun r12 S11 h => ?_)
            refine j_callVi (st := []) C 0 [.int r12] (m_X6_admitted C.wok h) cv_RX6_169 rk_X6_without_X6_admitted rfl (rc_0 w) rfl (Nat.le_of_ble_eq_true rfl) dX6_without_84 (fun r14 S13 h => ?_)
            refine j_callSi (st := []) C [.int r14] (m_J6_bitCount_0f7a4 C.wok h) cv_RX6_110 rk_X6_without_J6_bitCount_0f7a4 rfl rfl (Nat.le_of_ble_eq_true rfl) dX6_without_87 (fun r16 S15 h => ?_)
            exact j_iret C dX6_without_90 h
          · have h := And.right h c10
            by_cases c17 : x3 = 1
            · have h := And.left h c17
              refine j_lookup (tgt := 91) (off := 42) C dX6_without_49 (by decide) (by rw [c17]; decide) (by decide) ?_
              refine j_aload_n C dX6_without_91 0 rfl rfl ?_
              refine j_aload_n C dX6_without_92 0 rfl rfl ?_
              refine gf_RX6_16_0 C dX6_without_93 ?_
              refine j_callVi (st := [rr w 0]) C 2 [] (m_X0_everyone C.wok h) cv_RX6_151 rk_X6_without_X0_everyone rfl (rc_2 w) rfl (Nat.le_of_ble_eq_true rfl) dX6_without_96 (fun r19 S18 h => ?_)
              refine j_callVi (st := []) C 0 [.int r19] (m_X6_admitted C.wok h) cv_RX6_169 rk_X6_without_X6_admitted rfl (rc_0 w) rfl (Nat.le_of_ble_eq_true rfl) dX6_without_99 (fun r21 S20 h => ?_)
              refine j_aload_n C dX6_without_102 0 rfl rfl ?_
              refine gf_RX6_16_0 C dX6_without_103 ?_
              refine j_iconst C dX6_without_106 (v := 2) (by decide) ?_
              refine j_callVi (st := [.int r21]) C 2 [.int 2] (m_X0_ofKind C.wok h) cv_RX6_106 rk_X6_without_X0_ofKind rfl (rc_2 w) rfl (Nat.le_of_ble_eq_true rfl) dX6_without_107 (fun r23 S22 h => ?_)
              refine j_iand C dX6_without_110 ?_
              refine j_callSi (st := []) C [.int (r21 &&& r23)] (m_J6_bitCount_0f7a4 C.wok h) cv_RX6_110 rk_X6_without_J6_bitCount_0f7a4 rfl rfl (Nat.le_of_ble_eq_true rfl) dX6_without_111 (fun r25 S24 h => ?_)
              exact j_iret C dX6_without_114 h
            · have h := And.right h c17
              refine j_lookup (tgt := 115) (off := 66) C dX6_without_49 (by decide) (by show Op.lookupswitch.offset [(0, 27), (1, 42)] 66 _ = _; rw [lv_osw c10 (by decide), lv_osw c17 (by decide)]; rfl) (by decide) ?_
              refine j_aload_n C dX6_without_115 0 rfl rfl ?_
              refine gf_RX6_45_0 C dX6_without_116 ?_
              refine gf_RX6_163_14 C dX6_without_119 ?_
              refine j_iload_n C dX6_without_122 2 rfl rfl ?_
              refine al_16 C dX6_without_123 (And.left h) ?_
              have h := And.right h
              exact j_iret C dX6_without_124 h
        · have h := And.right h c8
          refine j_bipush C dX6_without_39 (v := (-102)) (by decide) ?_
          exact j_iret C dX6_without_41 h
    · have h := And.right h c6
      refine j_bipush C dX6_without_27 (v := (-103)) (by decide) ?_
      exact j_iret C dX6_without_29 h
  · have h := And.right h c3
    refine j_bipush C dX6_without_12 (v := (-101)) (by decide) ?_
    exact j_iret C dX6_without_14 h
def rm_X7_withoutNow : Room := { frames := 4, cells := 0, slots := 0, locals := 89 }
theorem rk_X7_withoutNow_X7_allIn : roomOk rm_X7_allIn rm_X7_withoutNow 3 := ⟨⟨rfl, rfl⟩, Nat.le_of_ble_eq_true rfl, Nat.le_of_ble_eq_true rfl⟩
theorem rk_X7_withoutNow_X7_lay : roomOk rm_X7_lay rm_X7_withoutNow 2 := ⟨⟨rfl, rfl⟩, Nat.le_of_ble_eq_true rfl, Nat.le_of_ble_eq_true rfl⟩
theorem rk_X7_withoutNow_X7_ofKind : roomOk rm_X7_ofKind rm_X7_withoutNow 4 := ⟨⟨rfl, rfl⟩, Nat.le_of_ble_eq_true rfl, Nat.le_of_ble_eq_true rfl⟩
theorem rk_X7_withoutNow_X7_size : roomOk rm_X7_size rm_X7_withoutNow 3 := ⟨⟨rfl, rfl⟩, Nat.le_of_ble_eq_true rfl, Nat.le_of_ble_eq_true rfl⟩
set_option maxRecDepth 20000 in
theorem m_X7_withoutNow {l : Launch} {w : Wt} (hw : WOK w) {x1 : Int32} {x2 : Int32} {x3 : Int32} {S : St} {Q0 : Int32 → St → Prop} (h : p_X7_withoutNow x1 x2 x3 S Q0) : MI l w yX7_withoutNow cX7_withoutNow 6 .int rm_X7_withoutNow [rr w 25, .int x1, .int x2, .int x3] S Q0 := by
  refine m_MI (own := RX7) (lv := [(0, rr w 25), (1, .int x1), (2, .int x2), (3, .int x3)]) hw (by decide) rfl (Nat.le_of_ble_eq_true rfl) rfl (fun X C => ?_)
  refine j_aload_n C dX7_withoutNow_0 0 rfl rfl ?_
  refine gf_RX7_13_25 C dX7_withoutNow_1 ?_
  refine j_iload_n C dX7_withoutNow_4 1 rfl rfl ?_
  refine al_27 C dX7_withoutNow_5 (And.left h) ?_
  have h := And.right h
  refine j_istore (lv' := [(4, .int (S.1 27 x1.toNatClampNeg)), (0, rr w 25), (1, .int x1), (2, .int x2), (3, .int x3)]) C dX7_withoutNow_6 (by decide) rfl ?_
  refine j_aload_n C dX7_withoutNow_8 1 rfl rfl ?_
  refine gf_RX7_13_25 C dX7_withoutNow_9 ?_
  refine j_iload_n C dX7_withoutNow_12 2 rfl rfl ?_
  refine j_iload C dX7_withoutNow_13 0 rfl ?_
  refine j_iconst C dX7_withoutNow_15 (v := 1) (by decide) ?_
  refine j_iload_n C dX7_withoutNow_16 3 rfl rfl ?_
  refine j_ishl C dX7_withoutNow_17 ?_
  refine j_iconst C dX7_withoutNow_18 (v := (-1)) (by decide) ?_
  refine j_ixor C dX7_withoutNow_19 ?_
  refine j_iand C dX7_withoutNow_20 ?_
  refine as_27 C dX7_withoutNow_21 (And.left h) (fun S1 eS1 => ?_)
  have h := And.right h S1 eS1
  refine j_aload_n C dX7_withoutNow_22 1 rfl rfl ?_
  refine j_callVv (st := []) C 25 [] (m_X7_lay C.wok h) cv_RX7_187 rk_X7_withoutNow_X7_lay rfl (rc_25 w) rfl (Nat.le_of_ble_eq_true rfl) dX7_withoutNow_23 (fun S2 h => ?_)
  refine j_aload_n C dX7_withoutNow_26 1 rfl rfl ?_
  refine j_callVi (st := []) C 25 [] (m_X7_allIn C.wok h) cv_RX7_193 rk_X7_withoutNow_X7_allIn rfl (rc_25 w) rfl (Nat.le_of_ble_eq_true rfl) dX7_withoutNow_27 (fun r4 S3 h => ?_)
  refine j_istore (lv' := [(5, .int r4), (4, .int (S.1 27 x1.toNatClampNeg)), (0, rr w 25), (1, .int x1), (2, .int x2), (3, .int x3)]) C dX7_withoutNow_30 (by decide) rfl ?_
  refine j_aload_n C dX7_withoutNow_32 2 rfl rfl ?_
  refine gf_RX7_13_25 C dX7_withoutNow_33 ?_
  refine j_iload_n C dX7_withoutNow_36 3 rfl rfl ?_
  refine j_iload C dX7_withoutNow_37 1 rfl ?_
  refine as_27 C dX7_withoutNow_39 (And.left h) (fun S5 eS5 => ?_)
  have h := And.right h S5 eS5
  refine j_iload_n C dX7_withoutNow_40 5 rfl rfl ?_
  refine j_if_ne (tgt := 52) C dX7_withoutNow_41 (by decide) (fun c6 => ?_) (fun c6 => ?_)
  · have h := And.left h c6
    refine j_iload_n C dX7_withoutNow_52 5 rfl rfl ?_
    refine j_iconst C dX7_withoutNow_53 (v := 1) (by decide) ?_
    refine j_icmp_ne (tgt := 71) C dX7_withoutNow_54 (by decide) (fun c7 => ?_) (fun c7 => ?_)
    · have h := And.left h c7
      refine j_aload_n C dX7_withoutNow_71 2 rfl rfl ?_
      refine gf_RX7_31_25 C dX7_withoutNow_72 ?_
      refine j_iload_n C dX7_withoutNow_75 4 rfl rfl ?_
      refine al_33 C dX7_withoutNow_76 (And.left h) ?_
      have h := And.right h
      exact j_iret C dX7_withoutNow_77 h
    · have h := And.right h c7
      refine j_iload C dX7_withoutNow_57 0 rfl ?_
      refine j_aload_n C dX7_withoutNow_59 2 rfl rfl ?_
      refine j_iconst C dX7_withoutNow_60 (v := 2) (by decide) ?_
      refine j_callVi (st := [.int r4]) C 25 [.int 2] (m_X7_ofKind C.wok h) cv_RX7_148 rk_X7_withoutNow_X7_ofKind rfl (rc_25 w) rfl (Nat.le_of_ble_eq_true rfl) dX7_withoutNow_61 (fun r9 S8 h => ?_)
      refine j_iand C dX7_withoutNow_64 ?_
      refine j_callSi (st := []) C [.int (r4 &&& r9)] (m_X7_size C.wok h) cv_RX7_71 rk_X7_withoutNow_X7_size rfl rfl (Nat.le_of_ble_eq_true rfl) dX7_withoutNow_65 (fun r11 S10 h => ?_)
      refine j_goto (tgt := 77) C dX7_withoutNow_68 (by decide) ?_
      exact j_iret C dX7_withoutNow_77 h
  · have h := And.right h c6
    refine j_iload C dX7_withoutNow_44 0 rfl ?_
    refine j_callSi (st := []) C [.int r4] (m_X7_size C.wok h) cv_RX7_71 rk_X7_withoutNow_X7_size rfl rfl (Nat.le_of_ble_eq_true rfl) dX7_withoutNow_46 (fun r13 S12 h => ?_)
    refine j_goto (tgt := 77) C dX7_withoutNow_49 (by decide) ?_
    exact j_iret C dX7_withoutNow_77 h
def rm_X7_without : Room := { frames := 5, cells := 0, slots := 0, locals := 114 }
theorem rk_X7_without_X7_areTwo : roomOk rm_X7_areTwo rm_X7_without 3 := ⟨⟨rfl, rfl⟩, Nat.le_of_ble_eq_true rfl, Nat.le_of_ble_eq_true rfl⟩
theorem rk_X7_without_X7_has : roomOk rm_X7_has rm_X7_without 2 := ⟨⟨rfl, rfl⟩, Nat.le_of_ble_eq_true rfl, Nat.le_of_ble_eq_true rfl⟩
theorem rk_X7_without_X7_within : roomOk rm_X7_within rm_X7_without 3 := ⟨⟨rfl, rfl⟩, Nat.le_of_ble_eq_true rfl, Nat.le_of_ble_eq_true rfl⟩
theorem rk_X7_without_X7_withoutNow : roomOk rm_X7_withoutNow rm_X7_without 6 := ⟨⟨rfl, rfl⟩, Nat.le_of_ble_eq_true rfl, Nat.le_of_ble_eq_true rfl⟩
set_option maxRecDepth 20000 in
theorem m_X7_without {l : Launch} {w : Wt} (hw : WOK w) {x1 : Int32} {x2 : Int32} {x3 : Int32} {S : St} {Q0 : Int32 → St → Prop} (h : p_X7_without x1 x2 x3 S Q0) : MI l w yX7_without cX7_without 4 .int rm_X7_without [rr w 25, .int x1, .int x2, .int x3] S Q0 := by
  refine m_MI (own := RX7) (lv := [(0, rr w 25), (1, .int x1), (2, .int x2), (3, .int x3)]) hw (by decide) rfl (Nat.le_of_ble_eq_true rfl) rfl (fun X C => ?_)
  refine j_aload_n C dX7_without_0 0 rfl rfl ?_
  refine j_iload_n C dX7_without_1 1 rfl rfl ?_
  refine j_iload_n C dX7_without_2 2 rfl rfl ?_
  refine j_callVi (st := []) C 25 [.int x1, .int x2] (m_X7_areTwo C.wok h) cv_RX7_151 rk_X7_without_X7_areTwo rfl (rc_25 w) rfl (Nat.le_of_ble_eq_true rfl) dX7_without_3 (fun r2 S1 h => ?_)
  refine j_if_ne (tgt := 12) C dX7_without_6 (by decide) (fun c3 => ?_) (fun c3 => ?_)
  · have h := And.left h c3
    refine j_aload_n C dX7_without_12 0 rfl rfl ?_
    refine gf_RX7_13_25 C dX7_without_13 ?_
    refine j_iload_n C dX7_without_16 1 rfl rfl ?_
    refine al_27 C dX7_without_17 (And.left h) ?_
    have h := And.right h
    refine j_iload_n C dX7_without_18 2 rfl rfl ?_
    refine j_callSi (st := []) C [.int (S1.1 27 x1.toNatClampNeg), .int x2] (m_X7_has C.wok h) cv_RX7_132 rk_X7_without_X7_has rfl rfl (Nat.le_of_ble_eq_true rfl) dX7_without_19 (fun r5 S4 h => ?_)
    refine j_if_ne (tgt := 28) C dX7_without_22 (by decide) (fun c6 => ?_) (fun c6 => ?_)
    · have h := And.left h c6
      refine j_iload_n C dX7_without_28 3 rfl rfl ?_
      refine j_iconst C dX7_without_29 (v := 0) (by decide) ?_
      refine j_iconst C dX7_without_30 (v := 2) (by decide) ?_
      refine j_callSi (st := []) C [.int x3, .int 0, .int 2] (m_X7_within C.wok h) cv_RX7_50 rk_X7_without_X7_within rfl rfl (Nat.le_of_ble_eq_true rfl) dX7_without_31 (fun r8 S7 h => ?_)
      refine j_if_eq (tgt := 47) C dX7_without_34 (by decide) (fun c9 => ?_) (fun c9 => ?_)
      · have h := And.left h c9
        refine j_bipush C dX7_without_47 (v := (-102)) (by decide) ?_
        exact j_iret C dX7_without_49 h
      · have h := And.right h c9
        refine j_aload_n C dX7_without_37 0 rfl rfl ?_
        refine j_iload_n C dX7_without_38 1 rfl rfl ?_
        refine j_iload_n C dX7_without_39 2 rfl rfl ?_
        refine j_iload_n C dX7_without_40 3 rfl rfl ?_
        refine j_callVi (st := []) C 25 [.int x1, .int x2, .int x3] (m_X7_withoutNow C.wok h) cv_RX7_233 rk_X7_without_X7_withoutNow rfl (rc_25 w) rfl (Nat.le_of_ble_eq_true rfl) dX7_without_41 (fun r11 S10 h => ?_)
        refine j_goto (tgt := 49) C dX7_without_44 (by decide) ?_
        exact j_iret C dX7_without_49 h
    · have h := And.right h c6
      refine j_bipush C dX7_without_25 (v := (-103)) (by decide) ?_
      exact j_iret C dX7_without_27 h
  · have h := And.right h c3
    refine j_bipush C dX7_without_9 (v := (-101)) (by decide) ?_
    exact j_iret C dX7_without_11 h
def rm_X6_dearest : Room := { frames := 4, cells := 0, slots := 0, locals := 93 }
theorem rk_X6_dearest_J6_bitCount_0f7a4 : roomOk rm_J6_bitCount_0f7a4 rm_X6_dearest 1 := ⟨⟨rfl, rfl⟩, Nat.le_of_ble_eq_true rfl, Nat.le_of_ble_eq_true rfl⟩
theorem rk_X6_dearest_X0_everyone : roomOk rm_X0_everyone rm_X6_dearest 1 := ⟨⟨rfl, rfl⟩, Nat.le_of_ble_eq_true rfl, Nat.le_of_ble_eq_true rfl⟩
theorem rk_X6_dearest_X0_exists : roomOk rm_X0_exists rm_X6_dearest 1 := ⟨⟨rfl, rfl⟩, Nat.le_of_ble_eq_true rfl, Nat.le_of_ble_eq_true rfl⟩
theorem rk_X6_dearest_X0_hasVouch : roomOk rm_X0_hasVouch rm_X6_dearest 3 := ⟨⟨rfl, rfl⟩, Nat.le_of_ble_eq_true rfl, Nat.le_of_ble_eq_true rfl⟩
theorem rk_X6_dearest_X6_admitted : roomOk rm_X6_admitted rm_X6_dearest 4 := ⟨⟨rfl, rfl⟩, Nat.le_of_ble_eq_true rfl, Nat.le_of_ble_eq_true rfl⟩
theorem rk_X6_dearest_X6_prepareWebWithout : roomOk rm_X6_prepareWebWithout rm_X6_dearest 3 := ⟨⟨rfl, rfl⟩, Nat.le_of_ble_eq_true rfl, Nat.le_of_ble_eq_true rfl⟩
set_option maxRecDepth 20000 in
theorem t_X6_dearest_102 {X : Mx} {w : Wt} {l0 : Launch} {Q0 : Int32 → St → Prop} {K20 : Int32 × Int32 × Int32 × St → Prop} {K34 : Int32 × Int32 × Int32 × Int32 × St → Prop} (C : Cx X w l0 cX6_dearest 6 RX6 rm_X6_dearest (some .int)) (hK20 : ∀ (x1 : Int32) (x2 : Int32) (x3 : Int32) (S : St), K20 (x1, x2, x3, S) → J X w (QI X w Q0) 20 [(0, rr w 0), (1, .int x1), (2, .int x2), (3, .int x3)] [] S) (hK34 : ∀ (x1 : Int32) (x2 : Int32) (x3 : Int32) (x4 : Int32) (S : St), K34 (x1, x2, x3, x4, S) → J X w (QI X w Q0) 34 [(0, rr w 0), (1, .int x1), (2, .int x2), (3, .int x3), (4, .int x4)] [] S) {x1 : Int32} {x2 : Int32} {x3 : Int32} {x4 : Int32} {S : St} (h : p_X6_dearest_102 Q0 K20 K34 x1 x2 x3 x4 S) : J X w (QI X w Q0) 102 [(0, rr w 0), (1, .int x1), (2, .int x2), (3, .int x3), (4, .int x4)] [] S := by
  refine j_iinc (lv' := [(4, .int (x4 + 1)), (0, rr w 0), (1, .int x1), (2, .int x2), (3, .int x3)]) C dX6_dearest_102 4 rfl rfl (by decide) rfl ?_
  refine j_goto (tgt := 34) C dX6_dearest_105 (by decide) ?_
  refine j_sub [1, 2, 3, 4, 0] rfl ?_
  exact hK34 _ _ _ _ _ h
set_option maxRecDepth 20000 in
theorem t_X6_dearest_34 {X : Mx} {w : Wt} {l0 : Launch} {Q0 : Int32 → St → Prop} {K20 : Int32 × Int32 × Int32 × St → Prop} (C : Cx X w l0 cX6_dearest 6 RX6 rm_X6_dearest (some .int)) (hK20 : ∀ (x1 : Int32) (x2 : Int32) (x3 : Int32) (S : St), K20 (x1, x2, x3, S) → J X w (QI X w Q0) 20 [(0, rr w 0), (1, .int x1), (2, .int x2), (3, .int x3)] [] S) {x1 : Int32} {x2 : Int32} {x3 : Int32} {x4 : Int32} {S : St} (h : Lq (p_X6_dearest_34 Q0 K20) (x1, x2, x3, x4, S)) : J X w (QI X w Q0) 34 [(0, rr w 0), (1, .int x1), (2, .int x2), (3, .int x3), (4, .int x4)] [] S := by
  have key : ∀ a : Int32 × Int32 × Int32 × Int32 × St, Lq (p_X6_dearest_34 Q0 K20) a → J X w (QI X w Q0) 34 [(0, rr w 0), (1, .int a.1), (2, .int a.2.1), (3, .int a.2.2.1), (4, .int a.2.2.2.1)] [] a.2.2.2.2 := by
    intro a ha
    refine Lq_use (G := fun a => J X w (QI X w Q0) 34 [(0, rr w 0), (1, .int a.1), (2, .int a.2.1), (3, .int a.2.2.1), (4, .int a.2.2.2.1)] [] a.2.2.2.2) ?_ ha
    intro K34 hK a h
    obtain ⟨x1, x2, x3, x4, S⟩ := a
    have hK34 : ∀ (x1 : Int32) (x2 : Int32) (x3 : Int32) (x4 : Int32) (S : St), K34 (x1, x2, x3, x4, S) → J X w (QI X w Q0) 34 [(0, rr w 0), (1, .int x1), (2, .int x2), (3, .int x3), (4, .int x4)] [] S := fun x1 x2 x3 x4 S h => hK (x1, x2, x3, x4, S) h
    show J X w (QI X w Q0) 34 [(0, rr w 0), (1, .int x1), (2, .int x2), (3, .int x3), (4, .int x4)] [] S
    refine j_iload C dX6_dearest_34 4 rfl ?_
    refine j_aload_n C dX6_dearest_36 0 rfl rfl ?_
    refine gf_RX6_16_0 C dX6_dearest_37 ?_
    refine gf_RX6_82_2 C dX6_dearest_40 ?_
    refine j_icmp_ge (tgt := 108) C dX6_dearest_43 (by decide) (fun c5 => ?_) (fun c5 => ?_)
    · have h := And.left h c5
      refine j_iinc (lv' := [(3, .int (x3 + 1)), (0, rr w 0), (1, .int x1), (2, .int x2), (4, .int x4)]) C dX6_dearest_108 3 rfl rfl (by decide) rfl ?_
      refine j_goto (tgt := 20) C dX6_dearest_111 (by decide) ?_
      refine j_sub [1, 2, 3, 0] rfl ?_
      exact hK20 _ _ _ _ h
    · have h := And.right h c5
      refine j_aload_n C dX6_dearest_46 0 rfl rfl ?_
      refine gf_RX6_16_0 C dX6_dearest_47 ?_
      refine j_iload_n C dX6_dearest_50 3 rfl rfl ?_
      refine j_iload C dX6_dearest_51 4 rfl ?_
      refine j_callVi (st := []) C 2 [.int x3, .int x4] (m_X0_hasVouch C.wok h) cv_RX6_119 rk_X6_dearest_X0_hasVouch rfl (rc_2 w) rfl (Nat.le_of_ble_eq_true rfl) dX6_dearest_53 (fun r7 S6 h => ?_)
      refine j_if_ne (tgt := 62) C dX6_dearest_56 (by decide) (fun c8 => ?_) (fun c8 => ?_)
      · have h := And.left h c8
        refine j_aload_n C dX6_dearest_62 0 rfl rfl ?_
        refine j_iload_n C dX6_dearest_63 3 rfl rfl ?_
        refine j_iload C dX6_dearest_64 4 rfl ?_
        refine j_callVv (st := []) C 0 [.int x3, .int x4] (m_X6_prepareWebWithout C.wok h) cv_RX6_201 rk_X6_dearest_X6_prepareWebWithout rfl (rc_0 w) rfl (Nat.le_of_ble_eq_true rfl) dX6_dearest_66 (fun S9 h => ?_)
        refine j_aload_n C dX6_dearest_69 0 rfl rfl ?_
        refine j_aload_n C dX6_dearest_70 0 rfl rfl ?_
        refine gf_RX6_16_0 C dX6_dearest_71 ?_
        refine j_callVi (st := [rr w 0]) C 2 [] (m_X0_everyone C.wok h) cv_RX6_151 rk_X6_dearest_X0_everyone rfl (rc_2 w) rfl (Nat.le_of_ble_eq_true rfl) dX6_dearest_74 (fun r11 S10 h => ?_)
        refine j_callVi (st := []) C 0 [.int r11] (m_X6_admitted C.wok h) cv_RX6_169 rk_X6_dearest_X6_admitted rfl (rc_0 w) rfl (Nat.le_of_ble_eq_true rfl) dX6_dearest_77 (fun r13 S12 h => ?_)
        refine j_callSi (st := []) C [.int r13] (m_J6_bitCount_0f7a4 C.wok h) cv_RX6_110 rk_X6_dearest_J6_bitCount_0f7a4 rfl rfl (Nat.le_of_ble_eq_true rfl) dX6_dearest_80 (fun r15 S14 h => ?_)
        refine j_istore (lv' := [(5, .int r15), (0, rr w 0), (1, .int x1), (2, .int x2), (3, .int x3), (4, .int x4)]) C dX6_dearest_83 (by decide) rfl ?_
        refine j_iload C dX6_dearest_85 0 rfl ?_
        refine j_iload_n C dX6_dearest_87 3 rfl rfl ?_
        refine j_icmp_ge (tgt := 102) C dX6_dearest_88 (by decide) (fun c16 => ?_) (fun c16 => ?_)
        · have h := And.left h c16
          refine j_sub [1, 2, 3, 4, 5] rfl ?_
          exact t_X6_dearest_102 C hK20 hK34 h
        · have h := And.right h c16
          refine j_iload C dX6_dearest_91 0 rfl ?_
          refine j_istore_n (lv' := [(2, .int r15), (5, .int r15), (0, rr w 0), (1, .int x1), (3, .int x3), (4, .int x4)]) C dX6_dearest_93 rfl (by decide) rfl ?_
          refine j_bipush C dX6_dearest_94 (v := 10) (by decide) ?_
          refine j_iload_n C dX6_dearest_96 4 rfl rfl ?_
          refine j_imul C dX6_dearest_97 ?_
          refine j_iload C dX6_dearest_98 5 rfl ?_
          refine j_iadd C dX6_dearest_100 ?_
          refine j_istore_n (lv' := [(1, .int ((10 * x3) + x4)), (2, .int r15), (5, .int r15), (0, rr w 0), (3, .int x3), (4, .int x4)]) C dX6_dearest_101 rfl (by decide) rfl ?_
          refine j_sub [3, 0, 1, 4, 5] rfl ?_
          exact t_X6_dearest_102 C hK20 hK34 h
      · have h := And.right h c8
        refine j_goto (tgt := 102) C dX6_dearest_59 (by decide) ?_
        exact t_X6_dearest_102 C hK20 hK34 h
  exact key (x1, x2, x3, x4, S) h
set_option maxRecDepth 20000 in
theorem t_X6_dearest_20 {X : Mx} {w : Wt} {l0 : Launch} {Q0 : Int32 → St → Prop} (C : Cx X w l0 cX6_dearest 6 RX6 rm_X6_dearest (some .int)) {x1 : Int32} {x2 : Int32} {x3 : Int32} {S : St} (h : Lq (p_X6_dearest_20 Q0) (x1, x2, x3, S)) : J X w (QI X w Q0) 20 [(0, rr w 0), (1, .int x1), (2, .int x2), (3, .int x3)] [] S := by
  have key : ∀ a : Int32 × Int32 × Int32 × St, Lq (p_X6_dearest_20 Q0) a → J X w (QI X w Q0) 20 [(0, rr w 0), (1, .int a.1), (2, .int a.2.1), (3, .int a.2.2.1)] [] a.2.2.2 := by
    intro a ha
    refine Lq_use (G := fun a => J X w (QI X w Q0) 20 [(0, rr w 0), (1, .int a.1), (2, .int a.2.1), (3, .int a.2.2.1)] [] a.2.2.2) ?_ ha
    intro K20 hK a h
    obtain ⟨x1, x2, x3, S⟩ := a
    have hK20 : ∀ (x1 : Int32) (x2 : Int32) (x3 : Int32) (S : St), K20 (x1, x2, x3, S) → J X w (QI X w Q0) 20 [(0, rr w 0), (1, .int x1), (2, .int x2), (3, .int x3)] [] S := fun x1 x2 x3 S h => hK (x1, x2, x3, S) h
    show J X w (QI X w Q0) 20 [(0, rr w 0), (1, .int x1), (2, .int x2), (3, .int x3)] [] S
    refine j_iload_n C dX6_dearest_20 3 rfl rfl ?_
    refine j_aload_n C dX6_dearest_21 0 rfl rfl ?_
    refine gf_RX6_16_0 C dX6_dearest_22 ?_
    refine gf_RX6_82_2 C dX6_dearest_25 ?_
    refine j_icmp_ge (tgt := 114) C dX6_dearest_28 (by decide) (fun c4 => ?_) (fun c4 => ?_)
    · have h := And.left h c4
      refine j_iload_n C dX6_dearest_114 1 rfl rfl ?_
      exact j_iret C dX6_dearest_115 h
    · have h := And.right h c4
      refine j_iconst C dX6_dearest_31 (v := 0) (by decide) ?_
      refine j_istore (lv' := [(4, .int 0), (0, rr w 0), (1, .int x1), (2, .int x2), (3, .int x3)]) C dX6_dearest_32 (by decide) rfl ?_
      refine j_sub [1, 2, 3, 4, 0] rfl ?_
      exact t_X6_dearest_34 C hK20 h
  exact key (x1, x2, x3, S) h
set_option maxRecDepth 20000 in
theorem m_X6_dearest {l : Launch} {w : Wt} (hw : WOK w) {S : St} {Q0 : Int32 → St → Prop} (h : p_X6_dearest S Q0) : MI l w yX6_dearest cX6_dearest 6 .int rm_X6_dearest [rr w 0] S Q0 := by
  refine m_MI (own := RX6) (lv := [(0, rr w 0)]) hw (by decide) rfl (Nat.le_of_ble_eq_true rfl) rfl (fun X C => ?_)
  refine j_aload_n C dX6_dearest_0 0 rfl rfl ?_
  refine gf_RX6_16_0 C dX6_dearest_1 ?_
  refine j_callVi (st := []) C 2 [] (m_X0_exists C.wok h) cv_RX6_85 rk_X6_dearest_X0_exists rfl (rc_2 w) rfl (Nat.le_of_ble_eq_true rfl) dX6_dearest_4 (fun r2 S1 h => ?_)
  refine j_if_ne (tgt := 13) C dX6_dearest_7 (by decide) (fun c3 => ?_) (fun c3 => ?_)
  · have h := And.left h c3
    refine j_iconst C dX6_dearest_13 (v := (-1)) (by decide) ?_
    refine j_istore_n (lv' := [(1, .int (-1)), (0, rr w 0)]) C dX6_dearest_14 rfl (by decide) rfl ?_
    refine j_bipush C dX6_dearest_15 (v := 10) (by decide) ?_
    refine j_istore_n (lv' := [(2, .int 10), (1, .int (-1)), (0, rr w 0)]) C dX6_dearest_17 rfl (by decide) rfl ?_
    refine j_iconst C dX6_dearest_18 (v := 0) (by decide) ?_
    refine j_istore_n (lv' := [(3, .int 0), (2, .int 10), (1, .int (-1)), (0, rr w 0)]) C dX6_dearest_19 rfl (by decide) rfl ?_
    refine j_sub [3, 2, 1, 0] rfl ?_
    exact t_X6_dearest_20 C h
  · have h := And.right h c3
    refine j_bipush C dX6_dearest_10 (v := (-103)) (by decide) ?_
    exact j_iret C dX6_dearest_12 h
def rm_X7_dearestNow : Room := { frames := 5, cells := 0, slots := 0, locals := 114 }
theorem rk_X7_dearestNow_X7_has : roomOk rm_X7_has rm_X7_dearestNow 2 := ⟨⟨rfl, rfl⟩, Nat.le_of_ble_eq_true rfl, Nat.le_of_ble_eq_true rfl⟩
theorem rk_X7_dearestNow_X7_withoutNow : roomOk rm_X7_withoutNow rm_X7_dearestNow 6 := ⟨⟨rfl, rfl⟩, Nat.le_of_ble_eq_true rfl, Nat.le_of_ble_eq_true rfl⟩
set_option maxRecDepth 20000 in
theorem t_X7_dearestNow_109 {X : Mx} {w : Wt} {l0 : Launch} {Q0 : Int32 → St → Prop} {K6 : Int32 × Int32 × Int32 × St → Prop} (C : Cx X w l0 cX7_dearestNow 8 RX7 rm_X7_dearestNow (some .int)) (hK6 : ∀ (x1 : Int32) (x2 : Int32) (x3 : Int32) (S : St), K6 (x1, x2, x3, S) → J X w (QI X w Q0) 6 [(0, rr w 25), (1, .int x1), (2, .int x2), (3, .int x3)] [] S) {x1 : Int32} {x2 : Int32} {x3 : Int32} {S : St} (h : p_X7_dearestNow_109 Q0 K6 x1 x2 x3 S) : J X w (QI X w Q0) 109 [(0, rr w 25), (1, .int x1), (2, .int x2), (3, .int x3)] [] S := by
  refine j_iinc (lv' := [(3, .int (x3 + 1)), (0, rr w 25), (1, .int x1), (2, .int x2)]) C dX7_dearestNow_109 3 rfl rfl (by decide) rfl ?_
  refine j_goto (tgt := 6) C dX7_dearestNow_112 (by decide) ?_
  refine j_sub [1, 2, 3, 0] rfl ?_
  exact hK6 _ _ _ _ h
set_option maxRecDepth 20000 in
theorem t_X7_dearestNow_108 {X : Mx} {w : Wt} {l0 : Launch} {Q0 : Int32 → St → Prop} {K6 : Int32 × Int32 × Int32 × St → Prop} (C : Cx X w l0 cX7_dearestNow 8 RX7 rm_X7_dearestNow (some .int)) (hK6 : ∀ (x1 : Int32) (x2 : Int32) (x3 : Int32) (S : St), K6 (x1, x2, x3, S) → J X w (QI X w Q0) 6 [(0, rr w 25), (1, .int x1), (2, .int x2), (3, .int x3)] [] S) {x1 : Int32} {x3 : Int32} {t0 : Int32} {S : St} (h : p_X7_dearestNow_108 Q0 K6 x1 x3 t0 S) : J X w (QI X w Q0) 108 [(0, rr w 25), (1, .int x1), (3, .int x3)] [.int t0] S := by
  refine j_istore_n (lv' := [(2, .int t0), (0, rr w 25), (1, .int x1), (3, .int x3)]) C dX7_dearestNow_108 rfl (by decide) rfl ?_
  refine j_sub [1, 2, 0, 3] rfl ?_
  exact t_X7_dearestNow_109 C hK6 h
set_option maxRecDepth 20000 in
theorem t_X7_dearestNow_96 {X : Mx} {w : Wt} {l0 : Launch} {Q0 : Int32 → St → Prop} {K6 : Int32 × Int32 × Int32 × St → Prop} (C : Cx X w l0 cX7_dearestNow 8 RX7 rm_X7_dearestNow (some .int)) (hK6 : ∀ (x1 : Int32) (x2 : Int32) (x3 : Int32) (S : St), K6 (x1, x2, x3, S) → J X w (QI X w Q0) 6 [(0, rr w 25), (1, .int x1), (2, .int x2), (3, .int x3)] [] S) {x2 : Int32} {x3 : Int32} {x6 : Int32} {x7 : Int32} {t0 : Int32} {S : St} (h : p_X7_dearestNow_96 Q0 K6 x2 x3 x6 x7 t0 S) : J X w (QI X w Q0) 96 [(0, rr w 25), (2, .int x2), (3, .int x3), (6, .int x6), (7, .int x7)] [.int t0] S := by
  refine j_istore_n (lv' := [(1, .int t0), (0, rr w 25), (2, .int x2), (3, .int x3), (6, .int x6), (7, .int x7)]) C dX7_dearestNow_96 rfl (by decide) rfl ?_
  refine j_iload C dX7_dearestNow_97 5 rfl ?_
  refine j_if_eq (tgt := 107) C dX7_dearestNow_99 (by decide) (fun c11 => ?_) (fun c11 => ?_)
  · have h := And.left h c11
    refine j_iload_n C dX7_dearestNow_107 2 rfl rfl ?_
    refine j_sub [1, 0, 3] rfl ?_
    exact t_X7_dearestNow_108 C hK6 h
  · have h := And.right h c11
    refine j_iload C dX7_dearestNow_102 4 rfl ?_
    refine j_goto (tgt := 108) C dX7_dearestNow_104 (by decide) ?_
    refine j_sub [1, 0, 3] rfl ?_
    exact t_X7_dearestNow_108 C hK6 h
set_option maxRecDepth 20000 in
theorem t_X7_dearestNow_84 {X : Mx} {w : Wt} {l0 : Launch} {Q0 : Int32 → St → Prop} {K6 : Int32 × Int32 × Int32 × St → Prop} (C : Cx X w l0 cX7_dearestNow 8 RX7 rm_X7_dearestNow (some .int)) (hK6 : ∀ (x1 : Int32) (x2 : Int32) (x3 : Int32) (S : St), K6 (x1, x2, x3, S) → J X w (QI X w Q0) 6 [(0, rr w 25), (1, .int x1), (2, .int x2), (3, .int x3)] [] S) {x1 : Int32} {x2 : Int32} {x3 : Int32} {x6 : Int32} {t0 : Int32} {S : St} (h : p_X7_dearestNow_84 Q0 K6 x1 x2 x3 x6 t0 S) : J X w (QI X w Q0) 84 [(0, rr w 25), (1, .int x1), (2, .int x2), (3, .int x3), (6, .int x6)] [.int t0] S := by
  refine j_istore (lv' := [(7, .int t0), (0, rr w 25), (1, .int x1), (2, .int x2), (3, .int x3), (6, .int x6)]) C dX7_dearestNow_84 (by decide) rfl ?_
  refine j_iload C dX7_dearestNow_86 0 rfl ?_
  refine j_if_eq (tgt := 95) C dX7_dearestNow_88 (by decide) (fun c10 => ?_) (fun c10 => ?_)
  · have h := And.left h c10
    refine j_iload_n C dX7_dearestNow_95 2 rfl rfl ?_
    refine j_sub [1, 3, 4, 5, 0] rfl ?_
    exact t_X7_dearestNow_96 C hK6 h
  · have h := And.right h c10
    refine j_iload_n C dX7_dearestNow_91 4 rfl rfl ?_
    refine j_goto (tgt := 96) C dX7_dearestNow_92 (by decide) ?_
    refine j_sub [1, 3, 4, 5, 0] rfl ?_
    exact t_X7_dearestNow_96 C hK6 h
set_option maxRecDepth 20000 in
theorem t_X7_dearestNow_79 {X : Mx} {w : Wt} {l0 : Launch} {Q0 : Int32 → St → Prop} {K6 : Int32 × Int32 × Int32 × St → Prop} (C : Cx X w l0 cX7_dearestNow 8 RX7 rm_X7_dearestNow (some .int)) (hK6 : ∀ (x1 : Int32) (x2 : Int32) (x3 : Int32) (S : St), K6 (x1, x2, x3, S) → J X w (QI X w Q0) 6 [(0, rr w 25), (1, .int x1), (2, .int x2), (3, .int x3)] [] S) {x1 : Int32} {x2 : Int32} {x3 : Int32} {x6 : Int32} {S : St} (h : p_X7_dearestNow_79 Q0 K6 x1 x2 x3 x6 S) : J X w (QI X w Q0) 79 [(0, rr w 25), (1, .int x1), (2, .int x2), (3, .int x3), (6, .int x6)] [] S := by
  refine j_iconst C dX7_dearestNow_79 (v := 1) (by decide) ?_
  refine j_goto (tgt := 84) C dX7_dearestNow_80 (by decide) ?_
  exact t_X7_dearestNow_84 C hK6 h
set_option maxRecDepth 20000 in
theorem t_X7_dearestNow_6 {X : Mx} {w : Wt} {l0 : Launch} {Q0 : Int32 → St → Prop} (C : Cx X w l0 cX7_dearestNow 8 RX7 rm_X7_dearestNow (some .int)) {x1 : Int32} {x2 : Int32} {x3 : Int32} {S : St} (h : Lq (p_X7_dearestNow_6 Q0) (x1, x2, x3, S)) : J X w (QI X w Q0) 6 [(0, rr w 25), (1, .int x1), (2, .int x2), (3, .int x3)] [] S := by
  have key : ∀ a : Int32 × Int32 × Int32 × St, Lq (p_X7_dearestNow_6 Q0) a → J X w (QI X w Q0) 6 [(0, rr w 25), (1, .int a.1), (2, .int a.2.1), (3, .int a.2.2.1)] [] a.2.2.2 := by
    intro a ha
    refine Lq_use (G := fun a => J X w (QI X w Q0) 6 [(0, rr w 25), (1, .int a.1), (2, .int a.2.1), (3, .int a.2.2.1)] [] a.2.2.2) ?_ ha
    intro K6 hK a h
    obtain ⟨x1, x2, x3, S⟩ := a
    have hK6 : ∀ (x1 : Int32) (x2 : Int32) (x3 : Int32) (S : St), K6 (x1, x2, x3, S) → J X w (QI X w Q0) 6 [(0, rr w 25), (1, .int x1), (2, .int x2), (3, .int x3)] [] S := fun x1 x2 x3 S h => hK (x1, x2, x3, S) h
    show J X w (QI X w Q0) 6 [(0, rr w 25), (1, .int x1), (2, .int x2), (3, .int x3)] [] S
    refine j_iload_n C dX7_dearestNow_6 3 rfl rfl ?_
    refine j_bipush C dX7_dearestNow_7 (v := 100) (by decide) ?_
    refine j_icmp_ge (tgt := 115) C dX7_dearestNow_9 (by decide) (fun c1 => ?_) (fun c1 => ?_)
    · have h := And.left h c1
      refine j_iload_n C dX7_dearestNow_115 1 rfl rfl ?_
      exact j_iret C dX7_dearestNow_116 h
    · have h := And.right h c1
      refine j_iload_n C dX7_dearestNow_12 3 rfl rfl ?_
      refine j_bipush C dX7_dearestNow_13 (v := 10) (by decide) ?_
      refine j_idiv C dX7_dearestNow_15 (by decide) ?_
      refine j_istore (lv' := [(4, .int (x3 / 10)), (0, rr w 25), (1, .int x1), (2, .int x2), (3, .int x3)]) C dX7_dearestNow_16 (by decide) rfl ?_
      refine j_iload_n C dX7_dearestNow_18 4 rfl rfl ?_
      refine j_bipush C dX7_dearestNow_19 (v := 10) (by decide) ?_
      refine j_irem C dX7_dearestNow_21 (by decide) ?_
      refine j_istore (lv' := [(5, .int (x3 - x3 / 10 * 10)), (4, .int (x3 / 10)), (0, rr w 25), (1, .int x1), (2, .int x2), (3, .int x3)]) C dX7_dearestNow_22 (by decide) rfl ?_
      refine j_iload C dX7_dearestNow_24 1 rfl ?_
      refine j_aload_n C dX7_dearestNow_26 2 rfl rfl ?_
      refine gf_RX7_111_25 C dX7_dearestNow_27 ?_
      refine j_icmp_ge (tgt := 109) C dX7_dearestNow_30 (by decide) (fun c2 => ?_) (fun c2 => ?_)
      · have h := And.left h c2
        refine j_sub [2, 3, 4, 5] rfl ?_
        exact t_X7_dearestNow_109 C hK6 h
      · have h := And.right h c2
        refine j_iload C dX7_dearestNow_33 0 rfl ?_
        refine j_aload_n C dX7_dearestNow_35 2 rfl rfl ?_
        refine gf_RX7_111_25 C dX7_dearestNow_36 ?_
        refine j_icmp_ge (tgt := 109) C dX7_dearestNow_39 (by decide) (fun c3 => ?_) (fun c3 => ?_)
        · have h := And.left h c3
          refine j_sub [2, 3, 4, 5] rfl ?_
          exact t_X7_dearestNow_109 C hK6 h
        · have h := And.right h c3
          refine j_aload_n C dX7_dearestNow_42 2 rfl rfl ?_
          refine gf_RX7_13_25 C dX7_dearestNow_43 ?_
          refine j_iload C dX7_dearestNow_46 1 rfl ?_
          refine al_27 C dX7_dearestNow_48 (And.left h) ?_
          have h := And.right h
          refine j_iload C dX7_dearestNow_49 0 rfl ?_
          refine j_callSi (st := []) C [.int (S.1 27 (x3 / 10).toNatClampNeg), .int (x3 - x3 / 10 * 10)] (m_X7_has C.wok h) cv_RX7_132 rk_X7_dearestNow_X7_has rfl rfl (Nat.le_of_ble_eq_true rfl) dX7_dearestNow_51 (fun r5 S4 h => ?_)
          refine j_if_eq (tgt := 109) C dX7_dearestNow_54 (by decide) (fun c6 => ?_) (fun c6 => ?_)
          · have h := And.left h c6
            refine j_sub [2, 3, 4, 5] rfl ?_
            exact t_X7_dearestNow_109 C hK6 h
          · have h := And.right h c6
            refine j_aload_n C dX7_dearestNow_57 2 rfl rfl ?_
            refine j_iload C dX7_dearestNow_58 1 rfl ?_
            refine j_iload C dX7_dearestNow_60 0 rfl ?_
            refine j_iconst C dX7_dearestNow_62 (v := 0) (by decide) ?_
            refine j_callVi (st := []) C 25 [.int (x3 / 10), .int (x3 - x3 / 10 * 10), .int 0] (m_X7_withoutNow C.wok h) cv_RX7_233 rk_X7_dearestNow_X7_withoutNow rfl (rc_25 w) rfl (Nat.le_of_ble_eq_true rfl) dX7_dearestNow_63 (fun r8 S7 h => ?_)
            refine j_istore (lv' := [(6, .int r8), (5, .int (x3 - x3 / 10 * 10)), (4, .int (x3 / 10)), (0, rr w 25), (1, .int x1), (2, .int x2), (3, .int x3)]) C dX7_dearestNow_66 (by decide) rfl ?_
            refine j_iload_n C dX7_dearestNow_68 4 rfl rfl ?_
            refine j_iconst C dX7_dearestNow_69 (v := (-1)) (by decide) ?_
            refine j_icmp_eq (tgt := 79) C dX7_dearestNow_70 (by decide) (fun c9 => ?_) (fun c9 => ?_)
            · have h := And.left h c9
              refine j_sub [3, 4, 5, 6, 0] rfl ?_
              exact t_X7_dearestNow_79 C hK6 h
            · have h := And.right h c9
              refine j_iload C dX7_dearestNow_73 0 rfl ?_
              refine j_iload_n C dX7_dearestNow_75 5 rfl rfl ?_
              refine j_icmp_ge (tgt := 83) C dX7_dearestNow_76 (by decide) (fun c12 => ?_) (fun c12 => ?_)
              · have h := And.left h c12
                refine j_iconst C dX7_dearestNow_83 (v := 0) (by decide) ?_
                refine j_sub [3, 4, 5, 6, 0] rfl ?_
                exact t_X7_dearestNow_84 C hK6 h
              · have h := And.right h c12
                refine j_sub [3, 4, 5, 6, 0] rfl ?_
                exact t_X7_dearestNow_79 C hK6 h
  exact key (x1, x2, x3, S) h
set_option maxRecDepth 20000 in
theorem m_X7_dearestNow {l : Launch} {w : Wt} (hw : WOK w) {S : St} {Q0 : Int32 → St → Prop} (h : p_X7_dearestNow S Q0) : MI l w yX7_dearestNow cX7_dearestNow 8 .int rm_X7_dearestNow [rr w 25] S Q0 := by
  refine m_MI (own := RX7) (lv := [(0, rr w 25)]) hw (by decide) rfl (Nat.le_of_ble_eq_true rfl) rfl (fun X C => ?_)
  refine j_iconst C dX7_dearestNow_0 (v := (-1)) (by decide) ?_
  refine j_istore_n (lv' := [(1, .int (-1)), (0, rr w 25)]) C dX7_dearestNow_1 rfl (by decide) rfl ?_
  refine j_iconst C dX7_dearestNow_2 (v := 0) (by decide) ?_
  refine j_istore_n (lv' := [(2, .int 0), (1, .int (-1)), (0, rr w 25)]) C dX7_dearestNow_3 rfl (by decide) rfl ?_
  refine j_iconst C dX7_dearestNow_4 (v := 0) (by decide) ?_
  refine j_istore_n (lv' := [(3, .int 0), (2, .int 0), (1, .int (-1)), (0, rr w 25)]) C dX7_dearestNow_5 rfl (by decide) rfl ?_
  refine j_sub [3, 2, 1, 0] rfl ?_
  exact t_X7_dearestNow_6 C h
def rm_X7_dearest : Room := { frames := 6, cells := 0, slots := 0, locals := 141 }
theorem rk_X7_dearest_X7_dearestNow : roomOk rm_X7_dearestNow rm_X7_dearest 8 := ⟨⟨rfl, rfl⟩, Nat.le_of_ble_eq_true rfl, Nat.le_of_ble_eq_true rfl⟩
theorem rk_X7_dearest_X7_isCircle : roomOk rm_X7_isCircle rm_X7_dearest 1 := ⟨⟨rfl, rfl⟩, Nat.le_of_ble_eq_true rfl, Nat.le_of_ble_eq_true rfl⟩
set_option maxRecDepth 20000 in
theorem m_X7_dearest {l : Launch} {w : Wt} (hw : WOK w) {S : St} {Q0 : Int32 → St → Prop} (h : p_X7_dearest S Q0) : MI l w yX7_dearest cX7_dearest 1 .int rm_X7_dearest [rr w 25] S Q0 := by
  refine m_MI (own := RX7) (lv := [(0, rr w 25)]) hw (by decide) rfl (Nat.le_of_ble_eq_true rfl) rfl (fun X C => ?_)
  refine j_aload_n C dX7_dearest_0 0 rfl rfl ?_
  refine j_callVi (st := []) C 25 [] (m_X7_isCircle C.wok h) cv_RX7_139 rk_X7_dearest_X7_isCircle rfl (rc_25 w) rfl (Nat.le_of_ble_eq_true rfl) dX7_dearest_1 (fun r2 S1 h => ?_)
  refine j_if_eq (tgt := 14) C dX7_dearest_4 (by decide) (fun c3 => ?_) (fun c3 => ?_)
  · have h := And.left h c3
    refine j_bipush C dX7_dearest_14 (v := (-103)) (by decide) ?_
    exact j_iret C dX7_dearest_16 h
  · have h := And.right h c3
    refine j_aload_n C dX7_dearest_7 0 rfl rfl ?_
    refine j_callVi (st := []) C 25 [] (m_X7_dearestNow C.wok h) cv_RX7_237 rk_X7_dearest_X7_dearestNow rfl (rc_25 w) rfl (Nat.le_of_ble_eq_true rfl) dX7_dearest_8 (fun r5 S4 h => ?_)
    refine j_goto (tgt := 16) C dX7_dearest_11 (by decide) ?_
    exact j_iret C dX7_dearest_16 h
def rm_X6_isStepCount : Room := { frames := 0, cells := 0, slots := 0, locals := 0 }
set_option maxRecDepth 20000 in
theorem m_X6_isStepCount {l : Launch} {w : Wt} (hw : WOK w) {x0 : Int32} {S : St} {Q0 : Int32 → St → Prop} (h : p_X6_isStepCount x0 S Q0) : MI l w yX6_isStepCount cX6_isStepCount 1 .boolean rm_X6_isStepCount [.int x0] S Q0 := by
  refine m_MI (own := RX6) (lv := [(0, .int x0)]) hw (by decide) rfl (Nat.le_of_ble_eq_true rfl) rfl (fun X C => ?_)
  refine j_iload_n C dX6_isStepCount_0 0 rfl rfl ?_
  refine j_if_lt (tgt := 13) C dX6_isStepCount_1 (by decide) (fun c1 => ?_) (fun c1 => ?_)
  · have h := And.left h c1
    refine j_iconst C dX6_isStepCount_13 (v := 0) (by decide) ?_
    exact j_zret C dX6_isStepCount_14 ⟨bz0, h⟩
  · have h := And.right h c1
    refine j_iload_n C dX6_isStepCount_4 0 rfl rfl ?_
    refine j_iconst C dX6_isStepCount_5 (v := 4) (by decide) ?_
    refine j_icmp_gt (tgt := 13) C dX6_isStepCount_6 (by decide) (fun c2 => ?_) (fun c2 => ?_)
    · have h := And.left h c2
      refine j_iconst C dX6_isStepCount_13 (v := 0) (by decide) ?_
      exact j_zret C dX6_isStepCount_14 ⟨bz0, h⟩
    · have h := And.right h c2
      refine j_iconst C dX6_isStepCount_9 (v := 1) (by decide) ?_
      refine j_goto (tgt := 14) C dX6_isStepCount_10 (by decide) ?_
      exact j_zret C dX6_isStepCount_14 ⟨bz1, h⟩
def rm_J7_fill_d0a16_c24 : Room := { frames := 0, cells := 0, slots := 0, locals := 0 }
set_option maxRecDepth 20000 in
theorem t_J7_fill_d0a16_c24_6 {X : Mx} {w : Wt} {l0 : Launch} {Q0 : St → Prop} (C : Cx X w l0 cJ7_fill_d0a16 5 RJ7 rm_J7_fill_d0a16_c24 none) {x1 : Int64} {x3 : Int32} {x4 : Int32} {S : St} (h : Lq (p_J7_fill_d0a16_c24_6 Q0) (x1, x3, x4, S)) : J X w (QV X w Q0) 6 [(0, rr w 24), (1, .long x1), (3, .int x3), (4, .int x4)] [] S := by
  have key : ∀ a : Int64 × Int32 × Int32 × St, Lq (p_J7_fill_d0a16_c24_6 Q0) a → J X w (QV X w Q0) 6 [(0, rr w 24), (1, .long a.1), (3, .int a.2.1), (4, .int a.2.2.1)] [] a.2.2.2 := by
    intro a ha
    refine Lq_use (G := fun a => J X w (QV X w Q0) 6 [(0, rr w 24), (1, .long a.1), (3, .int a.2.1), (4, .int a.2.2.1)] [] a.2.2.2) ?_ ha
    intro K6 hK a h
    obtain ⟨x1, x3, x4, S⟩ := a
    have hK6 : ∀ (x1 : Int64) (x3 : Int32) (x4 : Int32) (S : St), K6 (x1, x3, x4, S) → J X w (QV X w Q0) 6 [(0, rr w 24), (1, .long x1), (3, .int x3), (4, .int x4)] [] S := fun x1 x3 x4 S h => hK (x1, x3, x4, S) h
    show J X w (QV X w Q0) 6 [(0, rr w 24), (1, .long x1), (3, .int x3), (4, .int x4)] [] S
    refine j_iload_n C dJ7_fill_d0a16_6 2 rfl rfl ?_
    refine j_iload C dJ7_fill_d0a16_7 3 rfl ?_
    refine j_icmp_ge (tgt := 22) C dJ7_fill_d0a16_9 (by decide) (fun c1 => ?_) (fun c1 => ?_)
    · have h := And.left h c1
      exact j_vret C dJ7_fill_d0a16_22 h
    · have h := And.right h c1
      refine j_aload_n C dJ7_fill_d0a16_12 0 rfl rfl ?_
      refine j_iload_n C dJ7_fill_d0a16_13 2 rfl rfl ?_
      refine j_lload_n C dJ7_fill_d0a16_14 1 rfl rfl ?_
      refine as_24 C dJ7_fill_d0a16_15 (And.left h) (fun S2 eS2 => ?_)
      have h := And.right h S2 eS2
      refine j_iinc (lv' := [(3, .int (x3 + 1)), (0, rr w 24), (1, .long x1), (4, .int x4)]) C dJ7_fill_d0a16_16 2 rfl rfl (by decide) rfl ?_
      refine j_goto (tgt := 6) C dJ7_fill_d0a16_19 (by decide) ?_
      refine j_sub [1, 2, 0, 3] rfl ?_
      exact hK6 _ _ _ _ h
  exact key (x1, x3, x4, S) h
set_option maxRecDepth 20000 in
theorem m_J7_fill_d0a16_c24 {l : Launch} {w : Wt} (hw : WOK w) {x1 : Int64} {S : St} {Q0 : St → Prop} (h : p_J7_fill_d0a16_c24 x1 S Q0) : MV l w yJ7_fill_d0a16 cJ7_fill_d0a16 5 rm_J7_fill_d0a16_c24 [rr w 24, .long x1] S Q0 := by
  refine m_MV (own := RJ7) (lv := [(0, rr w 24), (1, .long x1)]) hw (by decide) rfl (Nat.le_of_ble_eq_true rfl) rfl (fun X C => ?_)
  refine j_iconst C dJ7_fill_d0a16_0 (v := 0) (by decide) ?_
  refine j_istore_n (lv' := [(3, .int 0), (0, rr w 24), (1, .long x1)]) C dJ7_fill_d0a16_1 rfl (by decide) rfl ?_
  refine j_aload_n C dJ7_fill_d0a16_2 1 rfl rfl ?_
  refine j_alenJ C 24 rfl (v := 9) (by decide) dJ7_fill_d0a16_3 ?_
  refine j_istore (lv' := [(4, .int 9), (3, .int 0), (0, rr w 24), (1, .long x1)]) C dJ7_fill_d0a16_4 (by decide) rfl ?_
  refine j_sub [2, 3, 1, 0] rfl ?_
  exact t_J7_fill_d0a16_c24_6 C h
def rm_X3_share : Room := { frames := 1, cells := 0, slots := 0, locals := 21 }
theorem rk_X3_share_J6_bitCount_0f7a4 : roomOk rm_J6_bitCount_0f7a4 rm_X3_share 1 := ⟨⟨rfl, rfl⟩, Nat.le_of_ble_eq_true rfl, Nat.le_of_ble_eq_true rfl⟩
theorem rk_X3_share_X6_bit : roomOk rm_X6_bit rm_X3_share 2 := ⟨⟨rfl, rfl⟩, Nat.le_of_ble_eq_true rfl, Nat.le_of_ble_eq_true rfl⟩
set_option maxRecDepth 20000 in
theorem t_X3_share_59 {X : Mx} {w : Wt} {l0 : Launch} {Q0 : St → Prop} {K28 : Int32 × Int64 × Int32 × St → Prop} (C : Cx X w l0 cX3_share 8 RX3 rm_X3_share none) (hK28 : ∀ (x3 : Int32) (x5 : Int64) (x7 : Int32) (S : St), K28 (x3, x5, x7, S) → J X w (QV X w Q0) 28 [(0, rr w 22), (3, .int x3), (5, .long x5), (7, .int x7)] [] S) {x3 : Int32} {x5 : Int64} {x7 : Int32} {S : St} (h : p_X3_share_59 Q0 K28 x3 x5 x7 S) : J X w (QV X w Q0) 59 [(0, rr w 22), (3, .int x3), (5, .long x5), (7, .int x7)] [] S := by
  refine j_iinc (lv' := [(7, .int (x7 + 1)), (0, rr w 22), (3, .int x3), (5, .long x5)]) C dX3_share_59 3 rfl rfl (by decide) rfl ?_
  refine j_goto (tgt := 28) C dX3_share_62 (by decide) ?_
  refine j_sub [1, 2, 3, 0] rfl ?_
  exact hK28 _ _ _ _ h
set_option maxRecDepth 20000 in
theorem t_X3_share_28 {X : Mx} {w : Wt} {l0 : Launch} {Q0 : St → Prop} (C : Cx X w l0 cX3_share 8 RX3 rm_X3_share none) {x3 : Int32} {x5 : Int64} {x7 : Int32} {S : St} (h : Lq (p_X3_share_28 Q0) (x3, x5, x7, S)) : J X w (QV X w Q0) 28 [(0, rr w 22), (3, .int x3), (5, .long x5), (7, .int x7)] [] S := by
  have key : ∀ a : Int32 × Int64 × Int32 × St, Lq (p_X3_share_28 Q0) a → J X w (QV X w Q0) 28 [(0, rr w 22), (3, .int a.1), (5, .long a.2.1), (7, .int a.2.2.1)] [] a.2.2.2 := by
    intro a ha
    refine Lq_use (G := fun a => J X w (QV X w Q0) 28 [(0, rr w 22), (3, .int a.1), (5, .long a.2.1), (7, .int a.2.2.1)] [] a.2.2.2) ?_ ha
    intro K28 hK a h
    obtain ⟨x3, x5, x7, S⟩ := a
    have hK28 : ∀ (x3 : Int32) (x5 : Int64) (x7 : Int32) (S : St), K28 (x3, x5, x7, S) → J X w (QV X w Q0) 28 [(0, rr w 22), (3, .int x3), (5, .long x5), (7, .int x7)] [] S := fun x3 x5 x7 S h => hK (x3, x5, x7, S) h
    show J X w (QV X w Q0) 28 [(0, rr w 22), (3, .int x3), (5, .long x5), (7, .int x7)] [] S
    refine j_iload C dX3_share_28 3 rfl ?_
    refine j_aload_n C dX3_share_30 0 rfl rfl ?_
    refine gf_RX3_28_22 C dX3_share_31 ?_
    refine j_icmp_ge (tgt := 65) C dX3_share_34 (by decide) (fun c5 => ?_) (fun c5 => ?_)
    · have h := And.left h c5
      exact j_vret C dX3_share_65 h
    · have h := And.right h c5
      refine j_iload_n C dX3_share_37 1 rfl rfl ?_
      refine j_iload C dX3_share_38 3 rfl ?_
      refine j_callNi (st := []) C [.int x3, .int x7] (m_X6_bit C.wok h) cv_RX3_64 rk_X3_share_X6_bit rfl rfl (Nat.le_of_ble_eq_true rfl) dX3_share_40 (fun r7 S6 h => ?_)
      refine j_iconst C dX3_share_43 (v := 1) (by decide) ?_
      refine j_icmp_ne (tgt := 59) C dX3_share_44 (by decide) (fun c8 => ?_) (fun c8 => ?_)
      · have h := And.left h c8
        exact t_X3_share_59 C hK28 h
      · have h := And.right h c8
        refine j_aload_n C dX3_share_47 0 rfl rfl ?_
        refine gf_RX3_15_22 C dX3_share_48 ?_
        refine j_iload C dX3_share_51 3 rfl ?_
        refine j_dup2 C dX3_share_53 rfl rfl ?_
        refine al_24 C dX3_share_54 (And.left h) ?_
        have h := And.right h
        refine j_lload C dX3_share_55 2 rfl ?_
        refine j_ladd C dX3_share_57 ?_
        refine as_24 C dX3_share_58 (And.left h) (fun S9 eS9 => ?_)
        have h := And.right h S9 eS9
        exact t_X3_share_59 C hK28 h
  exact key (x3, x5, x7, S) h
set_option maxRecDepth 20000 in
theorem m_X3_share {l : Launch} {w : Wt} (hw : WOK w) {x1 : Int64} {x3 : Int32} {S : St} {Q0 : St → Prop} (h : p_X3_share x1 x3 S Q0) : MV l w yX3_share cX3_share 8 rm_X3_share [rr w 22, .long x1, .int x3] S Q0 := by
  refine m_MV (own := RX3) (lv := [(0, rr w 22), (1, .long x1), (3, .int x3)]) hw (by decide) rfl (Nat.le_of_ble_eq_true rfl) rfl (fun X C => ?_)
  refine j_iload_n C dX3_share_0 2 rfl rfl ?_
  refine j_callSi (st := []) C [.int x3] (m_J6_bitCount_0f7a4 C.wok h) cv_RX3_59 rk_X3_share_J6_bitCount_0f7a4 rfl rfl (Nat.le_of_ble_eq_true rfl) dX3_share_1 (fun r2 S1 h => ?_)
  refine j_istore (lv' := [(4, .int r2), (0, rr w 22), (1, .long x1), (3, .int x3)]) C dX3_share_4 (by decide) rfl ?_
  refine j_lload_n C dX3_share_6 2 rfl rfl ?_
  refine j_lconst C dX3_share_7 (v := 0) (by decide) ?_
  refine j_lcmp C dX3_share_8 ?_
  refine j_if_eq (tgt := 17) C dX3_share_9 (by decide) (fun c3 => ?_) (fun c3 => ?_)
  · have h := And.left h c3
    exact j_vret C dX3_share_17 h
  · have h := And.right h c3
    refine j_iload C dX3_share_12 0 rfl ?_
    refine j_if_ne (tgt := 18) C dX3_share_14 (by decide) (fun c4 => ?_) (fun c4 => ?_)
    · have h := And.left h c4
      refine j_lload_n C dX3_share_18 2 rfl rfl ?_
      refine j_iload C dX3_share_19 0 rfl ?_
      refine j_i2l C dX3_share_21 ?_
      refine j_ldiv C dX3_share_22 (And.left h) ?_
      have h := And.right h
      refine j_lstore (lv' := [(5, .long (x1 / r2.toInt64)), (4, .int r2), (0, rr w 22), (1, .long x1), (3, .int x3)]) C dX3_share_23 (by decide) rfl ?_
      refine j_iconst C dX3_share_25 (v := 0) (by decide) ?_
      refine j_istore (lv' := [(7, .int 0), (5, .long (x1 / r2.toInt64)), (4, .int r2), (0, rr w 22), (1, .long x1), (3, .int x3)]) C dX3_share_26 (by decide) rfl ?_
      refine j_sub [3, 5, 1, 0] rfl ?_
      exact t_X3_share_28 C h
    · have h := And.right h c4
      exact j_vret C dX3_share_17 h
def rm_X3_step : Room := { frames := 2, cells := 0, slots := 0, locals := 48 }
theorem rk_X3_step_J7_fill_d0a16_c24 : roomOk rm_J7_fill_d0a16_c24 rm_X3_step 5 := ⟨⟨rfl, rfl⟩, Nat.le_of_ble_eq_true rfl, Nat.le_of_ble_eq_true rfl⟩
theorem rk_X3_step_X3_share : roomOk rm_X3_share rm_X3_step 8 := ⟨⟨rfl, rfl⟩, Nat.le_of_ble_eq_true rfl, Nat.le_of_ble_eq_true rfl⟩
set_option maxRecDepth 20000 in
theorem t_X3_step_48 {X : Mx} {w : Wt} {l0 : Launch} {Q0 : St → Prop} {K10 : Int32 × Int32 × St → Prop} (C : Cx X w l0 cX3_step 4 RX3 rm_X3_step none) (hK10 : ∀ (x2 : Int32) (x3 : Int32) (S : St), K10 (x2, x3, S) → J X w (QV X w Q0) 10 [(0, rr w 22), (1, rr w 2), (2, .int x2), (3, .int x3)] [] S) {x2 : Int32} {x3 : Int32} {t0 : Int32} {t1 : Int64} {S : St} (h : p_X3_step_48 Q0 K10 x2 x3 t0 t1 S) : J X w (QV X w Q0) 48 [(0, rr w 22), (1, rr w 2), (2, .int x2), (3, .int x3)] [.int t0, .long t1, rr w 22] S := by
  refine j_callVv (st := []) C 22 [.long t1, .int t0] (m_X3_share C.wok h) cv_RX3_41 rk_X3_step_X3_share rfl (rc_22 w) rfl (Nat.le_of_ble_eq_true rfl) dX3_step_48 (fun S6 h => ?_)
  refine j_iinc (lv' := [(3, .int (x3 + 1)), (0, rr w 22), (1, rr w 2), (2, .int x2)]) C dX3_step_51 3 rfl rfl (by decide) rfl ?_
  refine j_goto (tgt := 10) C dX3_step_54 (by decide) ?_
  refine j_sub [1, 2, 3, 0] rfl ?_
  exact hK10 _ _ _ h
set_option maxRecDepth 20000 in
theorem t_X3_step_10 {X : Mx} {w : Wt} {l0 : Launch} {Q0 : St → Prop} (C : Cx X w l0 cX3_step 4 RX3 rm_X3_step none) {x2 : Int32} {x3 : Int32} {S : St} (h : Lq (p_X3_step_10 Q0) (x2, x3, S)) : J X w (QV X w Q0) 10 [(0, rr w 22), (1, rr w 2), (2, .int x2), (3, .int x3)] [] S := by
  have key : ∀ a : Int32 × Int32 × St, Lq (p_X3_step_10 Q0) a → J X w (QV X w Q0) 10 [(0, rr w 22), (1, rr w 2), (2, .int a.1), (3, .int a.2.1)] [] a.2.2 := by
    intro a ha
    refine Lq_use (G := fun a => J X w (QV X w Q0) 10 [(0, rr w 22), (1, rr w 2), (2, .int a.1), (3, .int a.2.1)] [] a.2.2) ?_ ha
    intro K10 hK a h
    obtain ⟨x2, x3, S⟩ := a
    have hK10 : ∀ (x2 : Int32) (x3 : Int32) (S : St), K10 (x2, x3, S) → J X w (QV X w Q0) 10 [(0, rr w 22), (1, rr w 2), (2, .int x2), (3, .int x3)] [] S := fun x2 x3 S h => hK (x2, x3, S) h
    show J X w (QV X w Q0) 10 [(0, rr w 22), (1, rr w 2), (2, .int x2), (3, .int x3)] [] S
    refine j_iload_n C dX3_step_10 3 rfl rfl ?_
    refine j_aload_n C dX3_step_11 0 rfl rfl ?_
    refine gf_RX3_28_22 C dX3_step_12 ?_
    refine j_icmp_ge (tgt := 57) C dX3_step_15 (by decide) (fun c2 => ?_) (fun c2 => ?_)
    · have h := And.left h c2
      refine j_aload_n C dX3_step_57 0 rfl rfl ?_
      refine gf_RX3_15_22 C dX3_step_58 ?_
      refine j_iconst C dX3_step_61 (v := 0) (by decide) ?_
      refine j_aload_n C dX3_step_62 0 rfl rfl ?_
      refine gf_RX3_9_22 C dX3_step_63 ?_
      refine j_iconst C dX3_step_66 (v := 0) (by decide) ?_
      refine j_bipush C dX3_step_67 (v := 9) (by decide) ?_
      refine cp_RX3_45_24_23_9 C dX3_step_69 (Nat.le_of_ble_eq_true rfl) (Nat.le_of_ble_eq_true rfl) (fun S3 eS3 => ?_)
      have h := h S3 eS3
      refine j_aload_n C dX3_step_72 0 rfl rfl ?_
      refine j_dup C dX3_step_73 rfl ?_
      refine gf_RX3_31_22 C dX3_step_74 ?_
      refine j_ldc2 C dX3_step_77 k_622 ?_
      refine j_lmul C dX3_step_80 ?_
      refine pf_RX3_31_22 C dX3_step_81 (fun S4 eS4 => ?_)
      have h := h S4 eS4
      exact j_vret C dX3_step_84 h
    · have h := And.right h c2
      refine j_aload_n C dX3_step_18 0 rfl rfl ?_
      refine j_ldc2 C dX3_step_19 k_622 ?_
      refine j_aload_n C dX3_step_22 0 rfl rfl ?_
      refine gf_RX3_9_22 C dX3_step_23 ?_
      refine j_iload_n C dX3_step_26 3 rfl rfl ?_
      refine al_23 C dX3_step_27 (And.left h) ?_
      have h := And.right h
      refine j_lmul C dX3_step_28 ?_
      refine j_aload_n C dX3_step_29 1 rfl rfl ?_
      refine gf_RX3_55_2 C dX3_step_30 ?_
      refine j_iload_n C dX3_step_33 3 rfl rfl ?_
      refine al_5 C dX3_step_34 (And.left h) ?_
      have h := And.right h
      refine j_if_ne (tgt := 42) C dX3_step_35 (by decide) (fun c5 => ?_) (fun c5 => ?_)
      · have h := And.left h c5
        refine j_aload_n C dX3_step_42 1 rfl rfl ?_
        refine gf_RX3_55_2 C dX3_step_43 ?_
        refine j_iload_n C dX3_step_46 3 rfl rfl ?_
        refine al_5 C dX3_step_47 (And.left h) ?_
        have h := And.right h
        exact t_X3_step_48 C hK10 h
      · have h := And.right h c5
        refine j_iload_n C dX3_step_38 2 rfl rfl ?_
        refine j_goto (tgt := 48) C dX3_step_39 (by decide) ?_
        exact t_X3_step_48 C hK10 h
  exact key (x2, x3, S) h
set_option maxRecDepth 20000 in
theorem m_X3_step {l : Launch} {w : Wt} (hw : WOK w) {x2 : Int32} {S : St} {Q0 : St → Prop} (h : p_X3_step x2 S Q0) : MV l w yX3_step cX3_step 4 rm_X3_step [rr w 22, rr w 2, .int x2] S Q0 := by
  refine m_MV (own := RX3) (lv := [(0, rr w 22), (1, rr w 2), (2, .int x2)]) hw (by decide) rfl (Nat.le_of_ble_eq_true rfl) rfl (fun X C => ?_)
  refine j_aload_n C dX3_step_0 0 rfl rfl ?_
  refine gf_RX3_15_22 C dX3_step_1 ?_
  refine j_lconst C dX3_step_4 (v := 0) (by decide) ?_
  refine j_callSv (st := []) C [rr w 24, .long 0] (m_J7_fill_d0a16_c24 C.wok h) cv_RX3_35 rk_X3_step_J7_fill_d0a16_c24 rfl rfl (Nat.le_of_ble_eq_true rfl) dX3_step_5 (fun S1 h => ?_)
  refine j_iconst C dX3_step_8 (v := 0) (by decide) ?_
  refine j_istore_n (lv' := [(3, .int 0), (0, rr w 22), (1, rr w 2), (2, .int x2)]) C dX3_step_9 rfl (by decide) rfl ?_
  refine j_sub [1, 2, 3, 0] rfl ?_
  exact t_X3_step_10 C h
def rm_X3_go : Room := { frames := 3, cells := 0, slots := 0, locals := 71 }
theorem rk_X3_go_J7_fill_d0a16_c24 : roomOk rm_J7_fill_d0a16_c24 rm_X3_go 5 := ⟨⟨rfl, rfl⟩, Nat.le_of_ble_eq_true rfl, Nat.le_of_ble_eq_true rfl⟩
theorem rk_X3_go_X0_ofKind : roomOk rm_X0_ofKind rm_X3_go 4 := ⟨⟨rfl, rfl⟩, Nat.le_of_ble_eq_true rfl, Nat.le_of_ble_eq_true rfl⟩
theorem rk_X3_go_X3_share : roomOk rm_X3_share rm_X3_go 8 := ⟨⟨rfl, rfl⟩, Nat.le_of_ble_eq_true rfl, Nat.le_of_ble_eq_true rfl⟩
theorem rk_X3_go_X3_step : roomOk rm_X3_step rm_X3_go 4 := ⟨⟨rfl, rfl⟩, Nat.le_of_ble_eq_true rfl, Nat.le_of_ble_eq_true rfl⟩
set_option maxRecDepth 20000 in
theorem t_X3_go_55 {X : Mx} {w : Wt} {l0 : Launch} {Q0 : St → Prop} (C : Cx X w l0 cX3_go 5 RX3 rm_X3_go none) {x2 : Int32} {x3 : Int32} {x4 : Int32} {S : St} (h : Lq (p_X3_go_55 Q0) (x2, x3, x4, S)) : J X w (QV X w Q0) 55 [(0, rr w 22), (1, rr w 2), (2, .int x2), (3, .int x3), (4, .int x4)] [] S := by
  have key : ∀ a : Int32 × Int32 × Int32 × St, Lq (p_X3_go_55 Q0) a → J X w (QV X w Q0) 55 [(0, rr w 22), (1, rr w 2), (2, .int a.1), (3, .int a.2.1), (4, .int a.2.2.1)] [] a.2.2.2 := by
    intro a ha
    refine Lq_use (G := fun a => J X w (QV X w Q0) 55 [(0, rr w 22), (1, rr w 2), (2, .int a.1), (3, .int a.2.1), (4, .int a.2.2.1)] [] a.2.2.2) ?_ ha
    intro K55 hK a h
    obtain ⟨x2, x3, x4, S⟩ := a
    have hK55 : ∀ (x2 : Int32) (x3 : Int32) (x4 : Int32) (S : St), K55 (x2, x3, x4, S) → J X w (QV X w Q0) 55 [(0, rr w 22), (1, rr w 2), (2, .int x2), (3, .int x3), (4, .int x4)] [] S := fun x2 x3 x4 S h => hK (x2, x3, x4, S) h
    show J X w (QV X w Q0) 55 [(0, rr w 22), (1, rr w 2), (2, .int x2), (3, .int x3), (4, .int x4)] [] S
    refine j_iload C dX3_go_55 4 rfl ?_
    refine j_iload_n C dX3_go_57 2 rfl rfl ?_
    refine j_icmp_ge (tgt := 73) C dX3_go_58 (by decide) (fun c8 => ?_) (fun c8 => ?_)
    · have h := And.left h c8
      exact j_vret C dX3_go_73 h
    · have h := And.right h c8
      refine j_aload_n C dX3_go_61 0 rfl rfl ?_
      refine j_aload_n C dX3_go_62 1 rfl rfl ?_
      refine j_iload_n C dX3_go_63 3 rfl rfl ?_
      refine j_callVv (st := []) C 22 [rr w 2, .int x3] (m_X3_step C.wok h) cv_RX3_51 rk_X3_go_X3_step rfl (rc_22 w) rfl (Nat.le_of_ble_eq_true rfl) dX3_go_64 (fun S9 h => ?_)
      refine j_iinc (lv' := [(4, .int (x4 + 1)), (0, rr w 22), (1, rr w 2), (2, .int x2), (3, .int x3)]) C dX3_go_67 4 rfl rfl (by decide) rfl ?_
      refine j_goto (tgt := 55) C dX3_go_70 (by decide) ?_
      refine j_sub [1, 2, 3, 4, 0] rfl ?_
      exact hK55 _ _ _ _ h
  exact key (x2, x3, x4, S) h
set_option maxRecDepth 20000 in
theorem m_X3_go {l : Launch} {w : Wt} (hw : WOK w) {x2 : Int32} {S : St} {Q0 : St → Prop} (h : p_X3_go x2 S Q0) : MV l w yX3_go cX3_go 5 rm_X3_go [rr w 22, rr w 2, .int x2] S Q0 := by
  refine m_MV (own := RX3) (lv := [(0, rr w 22), (1, rr w 2), (2, .int x2)]) hw (by decide) rfl (Nat.le_of_ble_eq_true rfl) rfl (fun X C => ?_)
  refine j_aload_n C dX3_go_0 1 rfl rfl ?_
  refine j_iconst C dX3_go_1 (v := 1) (by decide) ?_
  refine j_callVi (st := []) C 2 [.int 1] (m_X0_ofKind C.wok h) cv_RX3_18 rk_X3_go_X0_ofKind rfl (rc_2 w) rfl (Nat.le_of_ble_eq_true rfl) dX3_go_2 (fun r2 S1 h => ?_)
  refine j_istore_n (lv' := [(3, .int r2), (0, rr w 22), (1, rr w 2), (2, .int x2)]) C dX3_go_5 rfl (by decide) rfl ?_
  refine j_aload_n C dX3_go_6 1 rfl rfl ?_
  refine j_aload_n C dX3_go_7 2 rfl rfl ?_
  refine gf_RX3_24_2 C dX3_go_8 ?_
  refine pf_RX3_28_22 C dX3_go_11 (fun S3 eS3 => ?_)
  have h := h S3 eS3
  refine j_aload_n C dX3_go_14 1 rfl rfl ?_
  refine j_ldc2 C dX3_go_15 k_622 ?_
  refine pf_RX3_31_22 C dX3_go_18 (fun S4 eS4 => ?_)
  have h := h S4 eS4
  refine j_aload_n C dX3_go_21 1 rfl rfl ?_
  refine gf_RX3_15_22 C dX3_go_22 ?_
  refine j_lconst C dX3_go_25 (v := 0) (by decide) ?_
  refine j_callSv (st := []) C [rr w 24, .long 0] (m_J7_fill_d0a16_c24 C.wok h) cv_RX3_35 rk_X3_go_J7_fill_d0a16_c24 rfl rfl (Nat.le_of_ble_eq_true rfl) dX3_go_26 (fun S5 h => ?_)
  refine j_aload_n C dX3_go_29 1 rfl rfl ?_
  refine j_ldc2 C dX3_go_30 k_622 ?_
  refine j_iload_n C dX3_go_33 0 rfl rfl ?_
  refine j_callVv (st := []) C 22 [.long 60, .int r2] (m_X3_share C.wok h) cv_RX3_41 rk_X3_go_X3_share rfl (rc_22 w) rfl (Nat.le_of_ble_eq_true rfl) dX3_go_34 (fun S6 h => ?_)
  refine j_aload_n C dX3_go_37 1 rfl rfl ?_
  refine gf_RX3_15_22 C dX3_go_38 ?_
  refine j_iconst C dX3_go_41 (v := 0) (by decide) ?_
  refine j_aload_n C dX3_go_42 1 rfl rfl ?_
  refine gf_RX3_9_22 C dX3_go_43 ?_
  refine j_iconst C dX3_go_46 (v := 0) (by decide) ?_
  refine j_bipush C dX3_go_47 (v := 9) (by decide) ?_
  refine cp_RX3_45_24_23_9 C dX3_go_49 (Nat.le_of_ble_eq_true rfl) (Nat.le_of_ble_eq_true rfl) (fun S7 eS7 => ?_)
  have h := h S7 eS7
  refine j_iconst C dX3_go_52 (v := 0) (by decide) ?_
  refine j_istore (lv' := [(4, .int 0), (3, .int r2), (0, rr w 22), (1, rr w 2), (2, .int x2)]) C dX3_go_53 (by decide) rfl ?_
  refine j_sub [2, 3, 4, 1, 0] rfl ?_
  exact t_X3_go_55 C h
def rm_X3_commonDivisor : Room := { frames := 1, cells := 0, slots := 0, locals := 26 }
set_option maxRecDepth 20000 in
theorem t_X3_commonDivisor_49 {X : Mx} {w : Wt} {l0 : Launch} {Q0 : Int64 → St → Prop} (C : Cx X w l0 cX3_commonDivisor 9 RX3 rm_X3_commonDivisor (some .long)) {x2 : Int64} {S : St} (h : p_X3_commonDivisor_49 Q0 x2 S) : J X w (QL X w Q0) 49 [(2, .long x2)] [] S := by
  refine j_lload_n C dX3_commonDivisor_49 0 rfl rfl ?_
  refine j_lconst C dX3_commonDivisor_50 (v := 1) (by decide) ?_
  refine mx_RX3_77 C dX3_commonDivisor_51 (Nat.le_of_ble_eq_true rfl) (Nat.le_of_ble_eq_true rfl) ?_
  exact j_lret C dX3_commonDivisor_54 h
set_option maxRecDepth 20000 in
theorem t_X3_commonDivisor_16 {X : Mx} {w : Wt} {l0 : Launch} {Q0 : Int64 → St → Prop} (C : Cx X w l0 cX3_commonDivisor 9 RX3 rm_X3_commonDivisor (some .long)) {x2 : Int64} {x4 : Int64} {x6 : Int32} {S : St} (h : Lq (p_X3_commonDivisor_16 Q0) (x2, x4, x6, S)) : J X w (QL X w Q0) 16 [(2, .long x2), (4, .long x4), (6, .int x6)] [] S := by
  have key : ∀ a : Int64 × Int64 × Int32 × St, Lq (p_X3_commonDivisor_16 Q0) a → J X w (QL X w Q0) 16 [(2, .long a.1), (4, .long a.2.1), (6, .int a.2.2.1)] [] a.2.2.2 := by
    intro a ha
    refine Lq_use (G := fun a => J X w (QL X w Q0) 16 [(2, .long a.1), (4, .long a.2.1), (6, .int a.2.2.1)] [] a.2.2.2) ?_ ha
    intro K16 hK a h
    obtain ⟨x2, x4, x6, S⟩ := a
    have hK16 : ∀ (x2 : Int64) (x4 : Int64) (x6 : Int32) (S : St), K16 (x2, x4, x6, S) → J X w (QL X w Q0) 16 [(2, .long x2), (4, .long x4), (6, .int x6)] [] S := fun x2 x4 x6 S h => hK (x2, x4, x6, S) h
    show J X w (QL X w Q0) 16 [(2, .long x2), (4, .long x4), (6, .int x6)] [] S
    refine j_iload C dX3_commonDivisor_16 2 rfl ?_
    refine j_bipush C dX3_commonDivisor_18 (v := 100) (by decide) ?_
    refine j_icmp_ge (tgt := 49) C dX3_commonDivisor_20 (by decide) (fun c1 => ?_) (fun c1 => ?_)
    · have h := And.left h c1
      refine j_sub [0] rfl ?_
      exact t_X3_commonDivisor_49 C h
    · have h := And.right h c1
      refine j_lload C dX3_commonDivisor_23 1 rfl ?_
      refine j_lconst C dX3_commonDivisor_25 (v := 0) (by decide) ?_
      refine j_lcmp C dX3_commonDivisor_26 ?_
      refine j_if_eq (tgt := 49) C dX3_commonDivisor_27 (by decide) (fun c2 => ?_) (fun c2 => ?_)
      · have h := And.left h c2
        refine j_sub [0] rfl ?_
        exact t_X3_commonDivisor_49 C h
      · have h := And.right h c2
        refine j_lload_n C dX3_commonDivisor_30 0 rfl rfl ?_
        refine j_lload C dX3_commonDivisor_31 1 rfl ?_
        refine j_lrem C dX3_commonDivisor_33 (And.left h) ?_
        have h := And.right h
        refine j_lstore (lv' := [(7, .long (x2 - x2 / x4 * x4)), (2, .long x2), (4, .long x4), (6, .int x6)]) C dX3_commonDivisor_34 (by decide) rfl ?_
        refine j_lload C dX3_commonDivisor_36 2 rfl ?_
        refine j_lstore_n (lv' := [(2, .long x4), (7, .long (x2 - x2 / x4 * x4)), (4, .long x4), (6, .int x6)]) C dX3_commonDivisor_38 rfl (by decide) rfl ?_
        refine j_lload C dX3_commonDivisor_39 1 rfl ?_
        refine j_lstore (lv' := [(4, .long (x2 - x2 / x4 * x4)), (2, .long x4), (7, .long (x2 - x2 / x4 * x4)), (6, .int x6)]) C dX3_commonDivisor_41 (by decide) rfl ?_
        refine j_iinc (lv' := [(6, .int (x6 + 1)), (4, .long (x2 - x2 / x4 * x4)), (2, .long x4), (7, .long (x2 - x2 / x4 * x4))]) C dX3_commonDivisor_43 3 rfl rfl (by decide) rfl ?_
        refine j_goto (tgt := 16) C dX3_commonDivisor_46 (by decide) ?_
        refine j_sub [2, 1, 0] rfl ?_
        exact hK16 _ _ _ _ h
  exact key (x2, x4, x6, S) h
set_option maxRecDepth 20000 in
theorem m_X3_commonDivisor {l : Launch} {w : Wt} (hw : WOK w) {x1 : Int32} {S : St} {Q0 : Int64 → St → Prop} (h : p_X3_commonDivisor x1 S Q0) : ML l w yX3_commonDivisor cX3_commonDivisor 9 rm_X3_commonDivisor [rr w 22, .int x1] S Q0 := by
  refine m_ML (own := RX3) (lv := [(0, rr w 22), (1, .int x1)]) hw (by decide) rfl (Nat.le_of_ble_eq_true rfl) rfl (fun X C => ?_)
  refine j_aload_n C dX3_commonDivisor_0 0 rfl rfl ?_
  refine gf_RX3_31_22 C dX3_commonDivisor_1 ?_
  refine j_lstore_n (lv' := [(2, .long (S.2 22 1)), (0, rr w 22), (1, .int x1)]) C dX3_commonDivisor_4 rfl (by decide) rfl ?_
  refine j_aload_n C dX3_commonDivisor_5 1 rfl rfl ?_
  refine gf_RX3_9_22 C dX3_commonDivisor_6 ?_
  refine j_iload_n C dX3_commonDivisor_9 2 rfl rfl ?_
  refine al_23 C dX3_commonDivisor_10 (And.left h) ?_
  have h := And.right h
  refine j_lstore (lv' := [(4, .long (S.2 23 x1.toNatClampNeg)), (2, .long (S.2 22 1)), (0, rr w 22), (1, .int x1)]) C dX3_commonDivisor_11 (by decide) rfl ?_
  refine j_iconst C dX3_commonDivisor_13 (v := 0) (by decide) ?_
  refine j_istore (lv' := [(6, .int 0), (4, .long (S.2 23 x1.toNatClampNeg)), (2, .long (S.2 22 1)), (0, rr w 22), (1, .int x1)]) C dX3_commonDivisor_14 (by decide) rfl ?_
  refine j_sub [2, 1, 0] rfl ?_
  exact t_X3_commonDivisor_16 C h
def rm_X3_denominator : Room := { frames := 2, cells := 0, slots := 0, locals := 54 }
theorem rk_X3_denominator_X3_commonDivisor : roomOk rm_X3_commonDivisor rm_X3_denominator 9 := ⟨⟨rfl, rfl⟩, Nat.le_of_ble_eq_true rfl, Nat.le_of_ble_eq_true rfl⟩
set_option maxRecDepth 20000 in
theorem m_X3_denominator {l : Launch} {w : Wt} (hw : WOK w) {x1 : Int32} {S : St} {Q0 : Int32 → St → Prop} (h : p_X3_denominator x1 S Q0) : MI l w yX3_denominator cX3_denominator 2 .int rm_X3_denominator [rr w 22, .int x1] S Q0 := by
  refine m_MI (own := RX3) (lv := [(0, rr w 22), (1, .int x1)]) hw (by decide) rfl (Nat.le_of_ble_eq_true rfl) rfl (fun X C => ?_)
  refine j_aload_n C dX3_denominator_0 0 rfl rfl ?_
  refine gf_RX3_31_22 C dX3_denominator_1 ?_
  refine j_aload_n C dX3_denominator_4 0 rfl rfl ?_
  refine j_iload_n C dX3_denominator_5 1 rfl rfl ?_
  refine j_callVl (st := [.long (S.2 22 1)]) C 22 [.int x1] (m_X3_commonDivisor C.wok h) cv_RX3_68 rk_X3_denominator_X3_commonDivisor rfl (rc_22 w) rfl (Nat.le_of_ble_eq_true rfl) dX3_denominator_6 (fun r2 S1 h => ?_)
  refine j_ldiv C dX3_denominator_9 (And.left h) ?_
  have h := And.right h
  refine j_l2i C dX3_denominator_10 ?_
  exact j_iret C dX3_denominator_11 h
def rm_X3_numerator : Room := { frames := 2, cells := 0, slots := 0, locals := 54 }
theorem rk_X3_numerator_X3_commonDivisor : roomOk rm_X3_commonDivisor rm_X3_numerator 9 := ⟨⟨rfl, rfl⟩, Nat.le_of_ble_eq_true rfl, Nat.le_of_ble_eq_true rfl⟩
set_option maxRecDepth 20000 in
theorem m_X3_numerator {l : Launch} {w : Wt} (hw : WOK w) {x1 : Int32} {S : St} {Q0 : Int32 → St → Prop} (h : p_X3_numerator x1 S Q0) : MI l w yX3_numerator cX3_numerator 2 .int rm_X3_numerator [rr w 22, .int x1] S Q0 := by
  refine m_MI (own := RX3) (lv := [(0, rr w 22), (1, .int x1)]) hw (by decide) rfl (Nat.le_of_ble_eq_true rfl) rfl (fun X C => ?_)
  refine j_aload_n C dX3_numerator_0 0 rfl rfl ?_
  refine gf_RX3_9_22 C dX3_numerator_1 ?_
  refine j_iload_n C dX3_numerator_4 1 rfl rfl ?_
  refine al_23 C dX3_numerator_5 (And.left h) ?_
  have h := And.right h
  refine j_aload_n C dX3_numerator_6 0 rfl rfl ?_
  refine j_iload_n C dX3_numerator_7 1 rfl rfl ?_
  refine j_callVl (st := [.long (S.2 23 x1.toNatClampNeg)]) C 22 [.int x1] (m_X3_commonDivisor C.wok h) cv_RX3_68 rk_X3_numerator_X3_commonDivisor rfl (rc_22 w) rfl (Nat.le_of_ble_eq_true rfl) dX3_numerator_8 (fun r2 S1 h => ?_)
  refine j_ldiv C dX3_numerator_11 (And.left h) ?_
  have h := And.right h
  refine j_l2i C dX3_numerator_12 ?_
  exact j_iret C dX3_numerator_13 h
def rm_X6_chance : Room := { frames := 4, cells := 0, slots := 0, locals := 95 }
theorem rk_X6_chance_X0_has : roomOk rm_X0_has rm_X6_chance 2 := ⟨⟨rfl, rfl⟩, Nat.le_of_ble_eq_true rfl, Nat.le_of_ble_eq_true rfl⟩
theorem rk_X6_chance_X0_ofKind : roomOk rm_X0_ofKind rm_X6_chance 4 := ⟨⟨rfl, rfl⟩, Nat.le_of_ble_eq_true rfl, Nat.le_of_ble_eq_true rfl⟩
theorem rk_X6_chance_X3_denominator : roomOk rm_X3_denominator rm_X6_chance 2 := ⟨⟨rfl, rfl⟩, Nat.le_of_ble_eq_true rfl, Nat.le_of_ble_eq_true rfl⟩
theorem rk_X6_chance_X3_go : roomOk rm_X3_go rm_X6_chance 5 := ⟨⟨rfl, rfl⟩, Nat.le_of_ble_eq_true rfl, Nat.le_of_ble_eq_true rfl⟩
theorem rk_X6_chance_X3_numerator : roomOk rm_X3_numerator rm_X6_chance 2 := ⟨⟨rfl, rfl⟩, Nat.le_of_ble_eq_true rfl, Nat.le_of_ble_eq_true rfl⟩
theorem rk_X6_chance_X6_isStepCount : roomOk rm_X6_isStepCount rm_X6_chance 1 := ⟨⟨rfl, rfl⟩, Nat.le_of_ble_eq_true rfl, Nat.le_of_ble_eq_true rfl⟩
set_option maxRecDepth 20000 in
theorem m_X6_chance {l : Launch} {w : Wt} (hw : WOK w) {x1 : Int32} {x2 : Int32} {x3 : Int32} {S : St} {Q0 : Int32 → St → Prop} (h : p_X6_chance x1 x2 x3 S Q0) : MI l w yX6_chance cX6_chance 4 .int rm_X6_chance [rr w 0, .int x1, .int x2, .int x3] S Q0 := by
  refine m_MI (own := RX6) (lv := [(0, rr w 0), (1, .int x1), (2, .int x2), (3, .int x3)]) hw (by decide) rfl (Nat.le_of_ble_eq_true rfl) rfl (fun X C => ?_)
  refine j_aload_n C dX6_chance_0 0 rfl rfl ?_
  refine gf_RX6_16_0 C dX6_chance_1 ?_
  refine j_iload_n C dX6_chance_4 1 rfl rfl ?_
  refine j_callVi (st := []) C 2 [.int x1] (m_X0_has C.wok h) cv_RX6_97 rk_X6_chance_X0_has rfl (rc_2 w) rfl (Nat.le_of_ble_eq_true rfl) dX6_chance_5 (fun r2 S1 h => ?_)
  refine j_if_ne (tgt := 14) C dX6_chance_8 (by decide) (fun c3 => ?_) (fun c3 => ?_)
  · have h := And.left h c3
    refine j_iload_n C dX6_chance_14 2 rfl rfl ?_
    refine j_callSi (st := []) C [.int x2] (m_X6_isStepCount C.wok h) cv_RX6_205 rk_X6_chance_X6_isStepCount rfl rfl (Nat.le_of_ble_eq_true rfl) dX6_chance_15 (fun r5 S4 h => ?_)
    refine j_if_eq (tgt := 30) C dX6_chance_18 (by decide) (fun c6 => ?_) (fun c6 => ?_)
    · have h := And.left h c6
      refine j_bipush C dX6_chance_30 (v := (-102)) (by decide) ?_
      exact j_iret C dX6_chance_32 h
    · have h := And.right h c6
      refine j_iload_n C dX6_chance_21 3 rfl rfl ?_
      refine j_if_lt (tgt := 30) C dX6_chance_22 (by decide) (fun c7 => ?_) (fun c7 => ?_)
      · have h := And.left h c7
        refine j_bipush C dX6_chance_30 (v := (-102)) (by decide) ?_
        exact j_iret C dX6_chance_32 h
      · have h := And.right h c7
        refine j_iload_n C dX6_chance_25 3 rfl rfl ?_
        refine j_iconst C dX6_chance_26 (v := 1) (by decide) ?_
        refine j_icmp_le (tgt := 33) C dX6_chance_27 (by decide) (fun c8 => ?_) (fun c8 => ?_)
        · have h := And.left h c8
          refine j_aload_n C dX6_chance_33 0 rfl rfl ?_
          refine gf_RX6_16_0 C dX6_chance_34 ?_
          refine j_iconst C dX6_chance_37 (v := 1) (by decide) ?_
          refine j_callVi (st := []) C 2 [.int 1] (m_X0_ofKind C.wok h) cv_RX6_106 rk_X6_chance_X0_ofKind rfl (rc_2 w) rfl (Nat.le_of_ble_eq_true rfl) dX6_chance_38 (fun r10 S9 h => ?_)
          refine j_if_ne (tgt := 47) C dX6_chance_41 (by decide) (fun c11 => ?_) (fun c11 => ?_)
          · have h := And.left h c11
            refine j_aload_n C dX6_chance_47 0 rfl rfl ?_
            refine gf_RX6_49_0 C dX6_chance_48 ?_
            refine j_aload_n C dX6_chance_51 0 rfl rfl ?_
            refine gf_RX6_16_0 C dX6_chance_52 ?_
            refine j_iload_n C dX6_chance_55 2 rfl rfl ?_
            refine j_callVv (st := []) C 22 [rr w 2, .int x2] (m_X3_go C.wok h) cv_RX6_208 rk_X6_chance_X3_go rfl (rc_22 w) rfl (Nat.le_of_ble_eq_true rfl) dX6_chance_56 (fun S12 h => ?_)
            refine j_iload_n C dX6_chance_59 3 rfl rfl ?_
            refine j_if_ne (tgt := 74) C dX6_chance_60 (by decide) (fun c13 => ?_) (fun c13 => ?_)
            · have h := And.left h c13
              refine j_aload_n C dX6_chance_74 0 rfl rfl ?_
              refine gf_RX6_49_0 C dX6_chance_75 ?_
              refine j_iload_n C dX6_chance_78 1 rfl rfl ?_
              refine j_callVi (st := []) C 22 [.int x1] (m_X3_denominator C.wok h) cv_RX6_215 rk_X6_chance_X3_denominator rfl (rc_22 w) rfl (Nat.le_of_ble_eq_true rfl) dX6_chance_79 (fun r15 S14 h => ?_)
              exact j_iret C dX6_chance_82 h
            · have h := And.right h c13
              refine j_aload_n C dX6_chance_63 0 rfl rfl ?_
              refine gf_RX6_49_0 C dX6_chance_64 ?_
              refine j_iload_n C dX6_chance_67 1 rfl rfl ?_
              refine j_callVi (st := []) C 22 [.int x1] (m_X3_numerator C.wok h) cv_RX6_212 rk_X6_chance_X3_numerator rfl (rc_22 w) rfl (Nat.le_of_ble_eq_true rfl) dX6_chance_68 (fun r17 S16 h => ?_)
              refine j_goto (tgt := 82) C dX6_chance_71 (by decide) ?_
              exact j_iret C dX6_chance_82 h
          · have h := And.right h c11
            refine j_bipush C dX6_chance_44 (v := (-103)) (by decide) ?_
            exact j_iret C dX6_chance_46 h
        · have h := And.right h c8
          refine j_bipush C dX6_chance_30 (v := (-102)) (by decide) ?_
          exact j_iret C dX6_chance_32 h
  · have h := And.right h c3
    refine j_bipush C dX6_chance_11 (v := (-101)) (by decide) ?_
    exact j_iret C dX6_chance_13 h
def rm_X7_areSeeds : Room := { frames := 1, cells := 0, slots := 0, locals := 23 }
theorem rk_X7_areSeeds_X7_ofKind : roomOk rm_X7_ofKind rm_X7_areSeeds 4 := ⟨⟨rfl, rfl⟩, Nat.le_of_ble_eq_true rfl, Nat.le_of_ble_eq_true rfl⟩
set_option maxRecDepth 20000 in
theorem m_X7_areSeeds {l : Launch} {w : Wt} (hw : WOK w) {S : St} {Q0 : Int32 → St → Prop} (h : p_X7_areSeeds S Q0) : MI l w yX7_areSeeds cX7_areSeeds 1 .boolean rm_X7_areSeeds [rr w 25] S Q0 := by
  refine m_MI (own := RX7) (lv := [(0, rr w 25)]) hw (by decide) rfl (Nat.le_of_ble_eq_true rfl) rfl (fun X C => ?_)
  refine j_aload_n C dX7_areSeeds_0 0 rfl rfl ?_
  refine j_iconst C dX7_areSeeds_1 (v := 1) (by decide) ?_
  refine j_callVi (st := []) C 25 [.int 1] (m_X7_ofKind C.wok h) cv_RX7_148 rk_X7_areSeeds_X7_ofKind rfl (rc_25 w) rfl (Nat.le_of_ble_eq_true rfl) dX7_areSeeds_2 (fun r2 S1 h => ?_)
  refine j_if_eq (tgt := 12) C dX7_areSeeds_5 (by decide) (fun c3 => ?_) (fun c3 => ?_)
  · have h := And.left h c3
    refine j_iconst C dX7_areSeeds_12 (v := 0) (by decide) ?_
    exact j_zret C dX7_areSeeds_13 ⟨bz0, h⟩
  · have h := And.right h c3
    refine j_iconst C dX7_areSeeds_8 (v := 1) (by decide) ?_
    refine j_goto (tgt := 13) C dX7_areSeeds_9 (by decide) ?_
    exact j_zret C dX7_areSeeds_13 ⟨bz1, h⟩
def rm_X7_goesTo : Room := { frames := 1, cells := 0, slots := 0, locals := 21 }
theorem rk_X7_goesTo_X7_has : roomOk rm_X7_has rm_X7_goesTo 2 := ⟨⟨rfl, rfl⟩, Nat.le_of_ble_eq_true rfl, Nat.le_of_ble_eq_true rfl⟩
set_option maxRecDepth 20000 in
theorem t_X7_goesTo_45 {X : Mx} {w : Wt} {l0 : Launch} {Q0 : St → Prop} {K3 : Int32 × Int32 × Int32 × Int32 × St → Prop} (C : Cx X w l0 cX7_goesTo 5 RX7 rm_X7_goesTo none) (hK3 : ∀ (x1 : Int32) (x2 : Int32) (x3 : Int32) (x4 : Int32) (S : St), K3 (x1, x2, x3, x4, S) → J X w (QV X w Q0) 3 [(0, rr w 25), (1, .int x1), (2, .int x2), (3, .int x3), (4, .int x4)] [] S) {x1 : Int32} {x2 : Int32} {x3 : Int32} {x4 : Int32} {t0 : Int64} {t1 : Int64} {t2 : Int32} {S : St} (h : p_X7_goesTo_45 Q0 K3 x1 x2 x3 x4 t0 t1 t2 S) : J X w (QV X w Q0) 45 [(0, rr w 25), (1, .int x1), (2, .int x2), (3, .int x3), (4, .int x4)] [.long t0, .long t1, .int t2, rr w 38] S := by
  refine j_ladd C dX7_goesTo_45 ?_
  refine as_38 C dX7_goesTo_46 (And.left h) (fun S5 eS5 => ?_)
  have h := And.right h S5 eS5
  refine j_iinc (lv' := [(4, .int (x4 + 1)), (0, rr w 25), (1, .int x1), (2, .int x2), (3, .int x3)]) C dX7_goesTo_47 4 rfl rfl (by decide) rfl ?_
  refine j_goto (tgt := 3) C dX7_goesTo_50 (by decide) ?_
  refine j_sub [1, 2, 3, 4, 0] rfl ?_
  exact hK3 _ _ _ _ _ h
set_option maxRecDepth 20000 in
theorem t_X7_goesTo_3 {X : Mx} {w : Wt} {l0 : Launch} {Q0 : St → Prop} (C : Cx X w l0 cX7_goesTo 5 RX7 rm_X7_goesTo none) {x1 : Int32} {x2 : Int32} {x3 : Int32} {x4 : Int32} {S : St} (h : Lq (p_X7_goesTo_3 Q0) (x1, x2, x3, x4, S)) : J X w (QV X w Q0) 3 [(0, rr w 25), (1, .int x1), (2, .int x2), (3, .int x3), (4, .int x4)] [] S := by
  have key : ∀ a : Int32 × Int32 × Int32 × Int32 × St, Lq (p_X7_goesTo_3 Q0) a → J X w (QV X w Q0) 3 [(0, rr w 25), (1, .int a.1), (2, .int a.2.1), (3, .int a.2.2.1), (4, .int a.2.2.2.1)] [] a.2.2.2.2 := by
    intro a ha
    refine Lq_use (G := fun a => J X w (QV X w Q0) 3 [(0, rr w 25), (1, .int a.1), (2, .int a.2.1), (3, .int a.2.2.1), (4, .int a.2.2.2.1)] [] a.2.2.2.2) ?_ ha
    intro K3 hK a h
    obtain ⟨x1, x2, x3, x4, S⟩ := a
    have hK3 : ∀ (x1 : Int32) (x2 : Int32) (x3 : Int32) (x4 : Int32) (S : St), K3 (x1, x2, x3, x4, S) → J X w (QV X w Q0) 3 [(0, rr w 25), (1, .int x1), (2, .int x2), (3, .int x3), (4, .int x4)] [] S := fun x1 x2 x3 x4 S h => hK (x1, x2, x3, x4, S) h
    show J X w (QV X w Q0) 3 [(0, rr w 25), (1, .int x1), (2, .int x2), (3, .int x3), (4, .int x4)] [] S
    refine j_iload C dX7_goesTo_3 4 rfl ?_
    refine j_aload_n C dX7_goesTo_5 0 rfl rfl ?_
    refine gf_RX7_111_25 C dX7_goesTo_6 ?_
    refine j_icmp_ge (tgt := 53) C dX7_goesTo_9 (by decide) (fun c1 => ?_) (fun c1 => ?_)
    · have h := And.left h c1
      exact j_vret C dX7_goesTo_53 h
    · have h := And.right h c1
      refine j_aload_n C dX7_goesTo_12 0 rfl rfl ?_
      refine gf_RX7_47_25 C dX7_goesTo_13 ?_
      refine j_iload C dX7_goesTo_16 4 rfl ?_
      refine j_dup2 C dX7_goesTo_18 rfl rfl ?_
      refine al_38 C dX7_goesTo_19 (And.left h) ?_
      have h := And.right h
      refine j_iload_n C dX7_goesTo_20 2 rfl rfl ?_
      refine j_iload C dX7_goesTo_21 4 rfl ?_
      refine j_callSi (st := [.long (S.2 38 x4.toNatClampNeg), .int x4, rr w 38]) C [.int x2, .int x4] (m_X7_has C.wok h) cv_RX7_132 rk_X7_goesTo_X7_has rfl rfl (Nat.le_of_ble_eq_true rfl) dX7_goesTo_23 (fun r3 S2 h => ?_)
      refine j_if_eq (tgt := 44) C dX7_goesTo_26 (by decide) (fun c4 => ?_) (fun c4 => ?_)
      · have h := And.left h c4
        refine j_lconst C dX7_goesTo_44 (v := 0) (by decide) ?_
        exact t_X7_goesTo_45 C hK3 h
      · have h := And.right h c4
        refine j_aload_n C dX7_goesTo_29 0 rfl rfl ?_
        refine gf_RX7_43_25 C dX7_goesTo_30 ?_
        refine j_iload_n C dX7_goesTo_33 1 rfl rfl ?_
        refine al_37 C dX7_goesTo_34 (And.left h) ?_
        have h := And.right h
        refine j_bipush C dX7_goesTo_35 (v := 60) (by decide) ?_
        refine j_iload_n C dX7_goesTo_37 3 rfl rfl ?_
        refine j_idiv C dX7_goesTo_38 (And.left h) ?_
        have h := And.right h
        refine j_i2l C dX7_goesTo_39 ?_
        refine j_lmul C dX7_goesTo_40 ?_
        refine j_goto (tgt := 45) C dX7_goesTo_41 (by decide) ?_
        exact t_X7_goesTo_45 C hK3 h
  exact key (x1, x2, x3, x4, S) h
set_option maxRecDepth 20000 in
theorem m_X7_goesTo {l : Launch} {w : Wt} (hw : WOK w) {x1 : Int32} {x2 : Int32} {x3 : Int32} {S : St} {Q0 : St → Prop} (h : p_X7_goesTo x1 x2 x3 S Q0) : MV l w yX7_goesTo cX7_goesTo 5 rm_X7_goesTo [rr w 25, .int x1, .int x2, .int x3] S Q0 := by
  refine m_MV (own := RX7) (lv := [(0, rr w 25), (1, .int x1), (2, .int x2), (3, .int x3)]) hw (by decide) rfl (Nat.le_of_ble_eq_true rfl) rfl (fun X C => ?_)
  refine j_iconst C dX7_goesTo_0 (v := 0) (by decide) ?_
  refine j_istore (lv' := [(4, .int 0), (0, rr w 25), (1, .int x1), (2, .int x2), (3, .int x3)]) C dX7_goesTo_1 (by decide) rfl ?_
  refine j_sub [1, 2, 3, 4, 0] rfl ?_
  exact t_X7_goesTo_3 C h
def rm_X7_layChances : Room := { frames := 2, cells := 0, slots := 0, locals := 45 }
theorem rk_X7_layChances_X7_goesTo : roomOk rm_X7_goesTo rm_X7_layChances 5 := ⟨⟨rfl, rfl⟩, Nat.le_of_ble_eq_true rfl, Nat.le_of_ble_eq_true rfl⟩
theorem rk_X7_layChances_X7_has : roomOk rm_X7_has rm_X7_layChances 2 := ⟨⟨rfl, rfl⟩, Nat.le_of_ble_eq_true rfl, Nat.le_of_ble_eq_true rfl⟩
theorem rk_X7_layChances_X7_ofKind : roomOk rm_X7_ofKind rm_X7_layChances 4 := ⟨⟨rfl, rfl⟩, Nat.le_of_ble_eq_true rfl, Nat.le_of_ble_eq_true rfl⟩
theorem rk_X7_layChances_X7_size : roomOk rm_X7_size rm_X7_layChances 3 := ⟨⟨rfl, rfl⟩, Nat.le_of_ble_eq_true rfl, Nat.le_of_ble_eq_true rfl⟩
set_option maxRecDepth 20000 in
theorem t_X7_layChances_140 {X : Mx} {w : Wt} {l0 : Launch} {Q0 : St → Prop} {K52 : Int32 × Int32 × Int32 × St → Prop} (C : Cx X w l0 cX7_layChances 6 RX7 rm_X7_layChances none) (hK52 : ∀ (x1 : Int32) (x2 : Int32) (x3 : Int32) (S : St), K52 (x1, x2, x3, S) → J X w (QV X w Q0) 52 [(0, rr w 25), (1, .int x1), (2, .int x2), (3, .int x3)] [] S) {x1 : Int32} {x2 : Int32} {x3 : Int32} {x4 : Int32} {S : St} (h : Lq (p_X7_layChances_140 Q0 K52) (x1, x2, x3, x4, S)) : J X w (QV X w Q0) 140 [(0, rr w 25), (1, .int x1), (2, .int x2), (3, .int x3), (4, .int x4)] [] S := by
  have key : ∀ a : Int32 × Int32 × Int32 × Int32 × St, Lq (p_X7_layChances_140 Q0 K52) a → J X w (QV X w Q0) 140 [(0, rr w 25), (1, .int a.1), (2, .int a.2.1), (3, .int a.2.2.1), (4, .int a.2.2.2.1)] [] a.2.2.2.2 := by
    intro a ha
    refine Lq_use (G := fun a => J X w (QV X w Q0) 140 [(0, rr w 25), (1, .int a.1), (2, .int a.2.1), (3, .int a.2.2.1), (4, .int a.2.2.2.1)] [] a.2.2.2.2) ?_ ha
    intro K140 hK a h
    obtain ⟨x1, x2, x3, x4, S⟩ := a
    have hK140 : ∀ (x1 : Int32) (x2 : Int32) (x3 : Int32) (x4 : Int32) (S : St), K140 (x1, x2, x3, x4, S) → J X w (QV X w Q0) 140 [(0, rr w 25), (1, .int x1), (2, .int x2), (3, .int x3), (4, .int x4)] [] S := fun x1 x2 x3 x4 S h => hK (x1, x2, x3, x4, S) h
    show J X w (QV X w Q0) 140 [(0, rr w 25), (1, .int x1), (2, .int x2), (3, .int x3), (4, .int x4)] [] S
    refine j_iload C dX7_layChances_140 4 rfl ?_
    refine j_aload_n C dX7_layChances_142 0 rfl rfl ?_
    refine gf_RX7_111_25 C dX7_layChances_143 ?_
    refine j_icmp_ge (tgt := 169) C dX7_layChances_146 (by decide) (fun c10 => ?_) (fun c10 => ?_)
    · have h := And.left h c10
      refine j_aload_n C dX7_layChances_169 0 rfl rfl ?_
      refine j_dup C dX7_layChances_170 rfl ?_
      refine gf_RX7_240_25 C dX7_layChances_171 ?_
      refine j_ldc2 C dX7_layChances_174 k_1085 ?_
      refine j_lmul C dX7_layChances_177 ?_
      refine pf_RX7_240_25 C dX7_layChances_178 (fun S11 eS11 => ?_)
      have h := h S11 eS11
      refine j_iinc (lv' := [(3, .int (x3 + 1)), (0, rr w 25), (1, .int x1), (2, .int x2), (4, .int x4)]) C dX7_layChances_181 3 rfl rfl (by decide) rfl ?_
      refine j_goto (tgt := 52) C dX7_layChances_184 (by decide) ?_
      refine j_sub [1, 2, 3, 0] rfl ?_
      exact hK52 _ _ _ _ h
    · have h := And.right h c10
      refine j_aload_n C dX7_layChances_149 0 rfl rfl ?_
      refine gf_RX7_43_25 C dX7_layChances_150 ?_
      refine j_iload C dX7_layChances_153 4 rfl ?_
      refine j_aload_n C dX7_layChances_155 0 rfl rfl ?_
      refine gf_RX7_47_25 C dX7_layChances_156 ?_
      refine j_iload C dX7_layChances_159 4 rfl ?_
      refine al_38 C dX7_layChances_161 (And.left h) ?_
      have h := And.right h
      refine as_37 C dX7_layChances_162 (And.left h) (fun S12 eS12 => ?_)
      have h := And.right h S12 eS12
      refine j_iinc (lv' := [(4, .int (x4 + 1)), (0, rr w 25), (1, .int x1), (2, .int x2), (3, .int x3)]) C dX7_layChances_163 4 rfl rfl (by decide) rfl ?_
      refine j_goto (tgt := 140) C dX7_layChances_166 (by decide) ?_
      refine j_sub [1, 2, 3, 4, 0] rfl ?_
      exact hK140 _ _ _ _ _ h
  exact key (x1, x2, x3, x4, S) h
set_option maxRecDepth 20000 in
theorem t_X7_layChances_116 {X : Mx} {w : Wt} {l0 : Launch} {Q0 : St → Prop} {K52 : Int32 × Int32 × Int32 × St → Prop} {K86 : Int32 × Int32 × Int32 × Int32 × St → Prop} (C : Cx X w l0 cX7_layChances 6 RX7 rm_X7_layChances none) (hK52 : ∀ (x1 : Int32) (x2 : Int32) (x3 : Int32) (S : St), K52 (x1, x2, x3, S) → J X w (QV X w Q0) 52 [(0, rr w 25), (1, .int x1), (2, .int x2), (3, .int x3)] [] S) (hK86 : ∀ (x1 : Int32) (x2 : Int32) (x3 : Int32) (x4 : Int32) (S : St), K86 (x1, x2, x3, x4, S) → J X w (QV X w Q0) 86 [(0, rr w 25), (1, .int x1), (2, .int x2), (3, .int x3), (4, .int x4)] [] S) {x1 : Int32} {x2 : Int32} {x3 : Int32} {x4 : Int32} {t0 : Int32} {S : St} (h : p_X7_layChances_116 Q0 K52 K86 x1 x2 x3 x4 t0 S) : J X w (QV X w Q0) 116 [(0, rr w 25), (1, .int x1), (2, .int x2), (3, .int x3), (4, .int x4)] [.int t0] S := by
  refine j_istore (lv' := [(5, .int t0), (0, rr w 25), (1, .int x1), (2, .int x2), (3, .int x3), (4, .int x4)]) C dX7_layChances_116 (by decide) rfl ?_
  refine j_aload_n C dX7_layChances_118 1 rfl rfl ?_
  refine j_iload C dX7_layChances_119 5 rfl ?_
  refine j_iload C dX7_layChances_121 0 rfl ?_
  refine j_iload C dX7_layChances_123 0 rfl ?_
  refine j_callSi (st := [.int t0, .int x4, rr w 25]) C [.int t0] (m_X7_size C.wok h) cv_RX7_71 rk_X7_layChances_X7_size rfl rfl (Nat.le_of_ble_eq_true rfl) dX7_layChances_125 (fun r15 S14 h => ?_)
  refine j_callVv (st := []) C 25 [.int x4, .int t0, .int r15] (m_X7_goesTo C.wok h) cv_RX7_244 rk_X7_layChances_X7_goesTo rfl (rc_25 w) rfl (Nat.le_of_ble_eq_true rfl) dX7_layChances_128 (fun S16 h => ?_)
  refine j_iinc (lv' := [(4, .int (x4 + 1)), (5, .int t0), (0, rr w 25), (1, .int x1), (2, .int x2), (3, .int x3)]) C dX7_layChances_131 5 rfl rfl (by decide) rfl ?_
  refine j_goto (tgt := 86) C dX7_layChances_134 (by decide) ?_
  refine j_sub [2, 3, 4, 5, 0] rfl ?_
  exact hK86 _ _ _ _ _ h
set_option maxRecDepth 20000 in
theorem t_X7_layChances_86 {X : Mx} {w : Wt} {l0 : Launch} {Q0 : St → Prop} {K52 : Int32 × Int32 × Int32 × St → Prop} (C : Cx X w l0 cX7_layChances 6 RX7 rm_X7_layChances none) (hK52 : ∀ (x1 : Int32) (x2 : Int32) (x3 : Int32) (S : St), K52 (x1, x2, x3, S) → J X w (QV X w Q0) 52 [(0, rr w 25), (1, .int x1), (2, .int x2), (3, .int x3)] [] S) {x1 : Int32} {x2 : Int32} {x3 : Int32} {x4 : Int32} {S : St} (h : Lq (p_X7_layChances_86 Q0 K52) (x1, x2, x3, x4, S)) : J X w (QV X w Q0) 86 [(0, rr w 25), (1, .int x1), (2, .int x2), (3, .int x3), (4, .int x4)] [] S := by
  have key : ∀ a : Int32 × Int32 × Int32 × Int32 × St, Lq (p_X7_layChances_86 Q0 K52) a → J X w (QV X w Q0) 86 [(0, rr w 25), (1, .int a.1), (2, .int a.2.1), (3, .int a.2.2.1), (4, .int a.2.2.2.1)] [] a.2.2.2.2 := by
    intro a ha
    refine Lq_use (G := fun a => J X w (QV X w Q0) 86 [(0, rr w 25), (1, .int a.1), (2, .int a.2.1), (3, .int a.2.2.1), (4, .int a.2.2.2.1)] [] a.2.2.2.2) ?_ ha
    intro K86 hK a h
    obtain ⟨x1, x2, x3, x4, S⟩ := a
    have hK86 : ∀ (x1 : Int32) (x2 : Int32) (x3 : Int32) (x4 : Int32) (S : St), K86 (x1, x2, x3, x4, S) → J X w (QV X w Q0) 86 [(0, rr w 25), (1, .int x1), (2, .int x2), (3, .int x3), (4, .int x4)] [] S := fun x1 x2 x3 x4 S h => hK (x1, x2, x3, x4, S) h
    show J X w (QV X w Q0) 86 [(0, rr w 25), (1, .int x1), (2, .int x2), (3, .int x3), (4, .int x4)] [] S
    refine j_iload C dX7_layChances_86 4 rfl ?_
    refine j_aload_n C dX7_layChances_88 0 rfl rfl ?_
    refine gf_RX7_111_25 C dX7_layChances_89 ?_
    refine j_icmp_ge (tgt := 137) C dX7_layChances_92 (by decide) (fun c9 => ?_) (fun c9 => ?_)
    · have h := And.left h c9
      refine j_iconst C dX7_layChances_137 (v := 0) (by decide) ?_
      refine j_istore (lv' := [(4, .int 0), (0, rr w 25), (1, .int x1), (2, .int x2), (3, .int x3)]) C dX7_layChances_138 (by decide) rfl ?_
      refine j_sub [1, 2, 3, 4, 0] rfl ?_
      exact t_X7_layChances_140 C hK52 h
    · have h := And.right h c9
      refine j_aload_n C dX7_layChances_95 0 rfl rfl ?_
      refine gf_RX7_13_25 C dX7_layChances_96 ?_
      refine j_iload C dX7_layChances_99 4 rfl ?_
      refine al_27 C dX7_layChances_101 (And.left h) ?_
      have h := And.right h
      refine j_if_ne (tgt := 109) C dX7_layChances_102 (by decide) (fun c13 => ?_) (fun c13 => ?_)
      · have h := And.left h c13
        refine j_aload_n C dX7_layChances_109 0 rfl rfl ?_
        refine gf_RX7_13_25 C dX7_layChances_110 ?_
        refine j_iload C dX7_layChances_113 4 rfl ?_
        refine al_27 C dX7_layChances_115 (And.left h) ?_
        have h := And.right h
        exact t_X7_layChances_116 C hK52 hK86 h
      · have h := And.right h c13
        refine j_iload_n C dX7_layChances_105 2 rfl rfl ?_
        refine j_goto (tgt := 116) C dX7_layChances_106 (by decide) ?_
        exact t_X7_layChances_116 C hK52 hK86 h
  exact key (x1, x2, x3, x4, S) h
set_option maxRecDepth 20000 in
theorem t_X7_layChances_60 {X : Mx} {w : Wt} {l0 : Launch} {Q0 : St → Prop} {K52 : Int32 × Int32 × Int32 × St → Prop} (C : Cx X w l0 cX7_layChances 6 RX7 rm_X7_layChances none) (hK52 : ∀ (x1 : Int32) (x2 : Int32) (x3 : Int32) (S : St), K52 (x1, x2, x3, S) → J X w (QV X w Q0) 52 [(0, rr w 25), (1, .int x1), (2, .int x2), (3, .int x3)] [] S) {x1 : Int32} {x2 : Int32} {x3 : Int32} {x4 : Int32} {S : St} (h : Lq (p_X7_layChances_60 Q0 K52) (x1, x2, x3, x4, S)) : J X w (QV X w Q0) 60 [(0, rr w 25), (1, .int x1), (2, .int x2), (3, .int x3), (4, .int x4)] [] S := by
  have key : ∀ a : Int32 × Int32 × Int32 × Int32 × St, Lq (p_X7_layChances_60 Q0 K52) a → J X w (QV X w Q0) 60 [(0, rr w 25), (1, .int a.1), (2, .int a.2.1), (3, .int a.2.2.1), (4, .int a.2.2.2.1)] [] a.2.2.2.2 := by
    intro a ha
    refine Lq_use (G := fun a => J X w (QV X w Q0) 60 [(0, rr w 25), (1, .int a.1), (2, .int a.2.1), (3, .int a.2.2.1), (4, .int a.2.2.2.1)] [] a.2.2.2.2) ?_ ha
    intro K60 hK a h
    obtain ⟨x1, x2, x3, x4, S⟩ := a
    have hK60 : ∀ (x1 : Int32) (x2 : Int32) (x3 : Int32) (x4 : Int32) (S : St), K60 (x1, x2, x3, x4, S) → J X w (QV X w Q0) 60 [(0, rr w 25), (1, .int x1), (2, .int x2), (3, .int x3), (4, .int x4)] [] S := fun x1 x2 x3 x4 S h => hK (x1, x2, x3, x4, S) h
    show J X w (QV X w Q0) 60 [(0, rr w 25), (1, .int x1), (2, .int x2), (3, .int x3), (4, .int x4)] [] S
    refine j_iload C dX7_layChances_60 4 rfl ?_
    refine j_aload_n C dX7_layChances_62 0 rfl rfl ?_
    refine gf_RX7_111_25 C dX7_layChances_63 ?_
    refine j_icmp_ge (tgt := 83) C dX7_layChances_66 (by decide) (fun c8 => ?_) (fun c8 => ?_)
    · have h := And.left h c8
      refine j_iconst C dX7_layChances_83 (v := 0) (by decide) ?_
      refine j_istore (lv' := [(4, .int 0), (0, rr w 25), (1, .int x1), (2, .int x2), (3, .int x3)]) C dX7_layChances_84 (by decide) rfl ?_
      refine j_sub [1, 2, 3, 4, 0] rfl ?_
      exact t_X7_layChances_86 C hK52 h
    · have h := And.right h c8
      refine j_aload_n C dX7_layChances_69 0 rfl rfl ?_
      refine gf_RX7_47_25 C dX7_layChances_70 ?_
      refine j_iload C dX7_layChances_73 4 rfl ?_
      refine j_lconst C dX7_layChances_75 (v := 0) (by decide) ?_
      refine as_38 C dX7_layChances_76 (And.left h) (fun S17 eS17 => ?_)
      have h := And.right h S17 eS17
      refine j_iinc (lv' := [(4, .int (x4 + 1)), (0, rr w 25), (1, .int x1), (2, .int x2), (3, .int x3)]) C dX7_layChances_77 4 rfl rfl (by decide) rfl ?_
      refine j_goto (tgt := 60) C dX7_layChances_80 (by decide) ?_
      refine j_sub [1, 2, 3, 4, 0] rfl ?_
      exact hK60 _ _ _ _ _ h
  exact key (x1, x2, x3, x4, S) h
set_option maxRecDepth 20000 in
theorem t_X7_layChances_52 {X : Mx} {w : Wt} {l0 : Launch} {Q0 : St → Prop} (C : Cx X w l0 cX7_layChances 6 RX7 rm_X7_layChances none) {x1 : Int32} {x2 : Int32} {x3 : Int32} {S : St} (h : Lq (p_X7_layChances_52 Q0) (x1, x2, x3, S)) : J X w (QV X w Q0) 52 [(0, rr w 25), (1, .int x1), (2, .int x2), (3, .int x3)] [] S := by
  have key : ∀ a : Int32 × Int32 × Int32 × St, Lq (p_X7_layChances_52 Q0) a → J X w (QV X w Q0) 52 [(0, rr w 25), (1, .int a.1), (2, .int a.2.1), (3, .int a.2.2.1)] [] a.2.2.2 := by
    intro a ha
    refine Lq_use (G := fun a => J X w (QV X w Q0) 52 [(0, rr w 25), (1, .int a.1), (2, .int a.2.1), (3, .int a.2.2.1)] [] a.2.2.2) ?_ ha
    intro K52 hK a h
    obtain ⟨x1, x2, x3, S⟩ := a
    have hK52 : ∀ (x1 : Int32) (x2 : Int32) (x3 : Int32) (S : St), K52 (x1, x2, x3, S) → J X w (QV X w Q0) 52 [(0, rr w 25), (1, .int x1), (2, .int x2), (3, .int x3)] [] S := fun x1 x2 x3 S h => hK (x1, x2, x3, S) h
    show J X w (QV X w Q0) 52 [(0, rr w 25), (1, .int x1), (2, .int x2), (3, .int x3)] [] S
    refine j_iload_n C dX7_layChances_52 3 rfl rfl ?_
    refine j_iload_n C dX7_layChances_53 1 rfl rfl ?_
    refine j_icmp_ge (tgt := 187) C dX7_layChances_54 (by decide) (fun c7 => ?_) (fun c7 => ?_)
    · have h := And.left h c7
      exact j_vret C dX7_layChances_187 h
    · have h := And.right h c7
      refine j_iconst C dX7_layChances_57 (v := 0) (by decide) ?_
      refine j_istore (lv' := [(4, .int 0), (0, rr w 25), (1, .int x1), (2, .int x2), (3, .int x3)]) C dX7_layChances_58 (by decide) rfl ?_
      refine j_sub [1, 2, 3, 4, 0] rfl ?_
      exact t_X7_layChances_60 C hK52 h
  exact key (x1, x2, x3, S) h
set_option maxRecDepth 20000 in
theorem t_X7_layChances_43 {X : Mx} {w : Wt} {l0 : Launch} {Q0 : St → Prop} {K17 : Int32 × Int32 × Int32 × St → Prop} (C : Cx X w l0 cX7_layChances 6 RX7 rm_X7_layChances none) (hK17 : ∀ (x1 : Int32) (x2 : Int32) (x3 : Int32) (S : St), K17 (x1, x2, x3, S) → J X w (QV X w Q0) 17 [(0, rr w 25), (1, .int x1), (2, .int x2), (3, .int x3)] [] S) {x1 : Int32} {x2 : Int32} {x3 : Int32} {t0 : Int64} {t1 : Int32} {S : St} (h : p_X7_layChances_43 Q0 K17 x1 x2 x3 t0 t1 S) : J X w (QV X w Q0) 43 [(0, rr w 25), (1, .int x1), (2, .int x2), (3, .int x3)] [.long t0, .int t1, rr w 37] S := by
  refine as_37 C dX7_layChances_43 (And.left h) (fun S21 eS21 => ?_)
  have h := And.right h S21 eS21
  refine j_iinc (lv' := [(3, .int (x3 + 1)), (0, rr w 25), (1, .int x1), (2, .int x2)]) C dX7_layChances_44 3 rfl rfl (by decide) rfl ?_
  refine j_goto (tgt := 17) C dX7_layChances_47 (by decide) ?_
  refine j_sub [1, 2, 3, 0] rfl ?_
  exact hK17 _ _ _ _ h
set_option maxRecDepth 20000 in
theorem t_X7_layChances_17 {X : Mx} {w : Wt} {l0 : Launch} {Q0 : St → Prop} (C : Cx X w l0 cX7_layChances 6 RX7 rm_X7_layChances none) {x1 : Int32} {x2 : Int32} {x3 : Int32} {S : St} (h : Lq (p_X7_layChances_17 Q0) (x1, x2, x3, S)) : J X w (QV X w Q0) 17 [(0, rr w 25), (1, .int x1), (2, .int x2), (3, .int x3)] [] S := by
  have key : ∀ a : Int32 × Int32 × Int32 × St, Lq (p_X7_layChances_17 Q0) a → J X w (QV X w Q0) 17 [(0, rr w 25), (1, .int a.1), (2, .int a.2.1), (3, .int a.2.2.1)] [] a.2.2.2 := by
    intro a ha
    refine Lq_use (G := fun a => J X w (QV X w Q0) 17 [(0, rr w 25), (1, .int a.1), (2, .int a.2.1), (3, .int a.2.2.1)] [] a.2.2.2) ?_ ha
    intro K17 hK a h
    obtain ⟨x1, x2, x3, S⟩ := a
    have hK17 : ∀ (x1 : Int32) (x2 : Int32) (x3 : Int32) (S : St), K17 (x1, x2, x3, S) → J X w (QV X w Q0) 17 [(0, rr w 25), (1, .int x1), (2, .int x2), (3, .int x3)] [] S := fun x1 x2 x3 S h => hK (x1, x2, x3, S) h
    show J X w (QV X w Q0) 17 [(0, rr w 25), (1, .int x1), (2, .int x2), (3, .int x3)] [] S
    refine j_iload_n C dX7_layChances_17 3 rfl rfl ?_
    refine j_aload_n C dX7_layChances_18 0 rfl rfl ?_
    refine gf_RX7_111_25 C dX7_layChances_19 ?_
    refine j_icmp_ge (tgt := 50) C dX7_layChances_22 (by decide) (fun c6 => ?_) (fun c6 => ?_)
    · have h := And.left h c6
      refine j_iconst C dX7_layChances_50 (v := 0) (by decide) ?_
      refine j_istore_n (lv' := [(3, .int 0), (0, rr w 25), (1, .int x1), (2, .int x2)]) C dX7_layChances_51 rfl (by decide) rfl ?_
      refine j_sub [1, 2, 3, 0] rfl ?_
      exact t_X7_layChances_52 C h
    · have h := And.right h c6
      refine j_aload_n C dX7_layChances_25 0 rfl rfl ?_
      refine gf_RX7_43_25 C dX7_layChances_26 ?_
      refine j_iload_n C dX7_layChances_29 3 rfl rfl ?_
      refine j_iload_n C dX7_layChances_30 2 rfl rfl ?_
      refine j_iload_n C dX7_layChances_31 3 rfl rfl ?_
      refine j_callSi (st := [.int x3, rr w 37]) C [.int x2, .int x3] (m_X7_has C.wok h) cv_RX7_132 rk_X7_layChances_X7_has rfl rfl (Nat.le_of_ble_eq_true rfl) dX7_layChances_32 (fun r19 S18 h => ?_)
      refine j_if_eq (tgt := 42) C dX7_layChances_35 (by decide) (fun c20 => ?_) (fun c20 => ?_)
      · have h := And.left h c20
        refine j_lconst C dX7_layChances_42 (v := 0) (by decide) ?_
        exact t_X7_layChances_43 C hK17 h
      · have h := And.right h c20
        refine j_lconst C dX7_layChances_38 (v := 1) (by decide) ?_
        refine j_goto (tgt := 43) C dX7_layChances_39 (by decide) ?_
        exact t_X7_layChances_43 C hK17 h
  exact key (x1, x2, x3, S) h
set_option maxRecDepth 20000 in
theorem m_X7_layChances {l : Launch} {w : Wt} (hw : WOK w) {x1 : Int32} {S : St} {Q0 : St → Prop} (h : p_X7_layChances x1 S Q0) : MV l w yX7_layChances cX7_layChances 6 rm_X7_layChances [rr w 25, .int x1] S Q0 := by
  refine m_MV (own := RX7) (lv := [(0, rr w 25), (1, .int x1)]) hw (by decide) rfl (Nat.le_of_ble_eq_true rfl) rfl (fun X C => ?_)
  refine j_aload_n C dX7_layChances_0 0 rfl rfl ?_
  refine j_iconst C dX7_layChances_1 (v := 1) (by decide) ?_
  refine j_callVi (st := []) C 25 [.int 1] (m_X7_ofKind C.wok h) cv_RX7_148 rk_X7_layChances_X7_ofKind rfl (rc_25 w) rfl (Nat.le_of_ble_eq_true rfl) dX7_layChances_2 (fun r2 S1 h => ?_)
  refine j_istore_n (lv' := [(2, .int r2), (0, rr w 25), (1, .int x1)]) C dX7_layChances_5 rfl (by decide) rfl ?_
  refine j_aload_n C dX7_layChances_6 1 rfl rfl ?_
  refine j_iload_n C dX7_layChances_7 0 rfl rfl ?_
  refine j_callSi (st := [rr w 25]) C [.int r2] (m_X7_size C.wok h) cv_RX7_71 rk_X7_layChances_X7_size rfl rfl (Nat.le_of_ble_eq_true rfl) dX7_layChances_8 (fun r4 S3 h => ?_)
  refine j_i2l C dX7_layChances_11 ?_
  refine pf_RX7_240_25 C dX7_layChances_12 (fun S5 eS5 => ?_)
  have h := h S5 eS5
  refine j_iconst C dX7_layChances_15 (v := 0) (by decide) ?_
  refine j_istore_n (lv' := [(3, .int 0), (2, .int r2), (0, rr w 25), (1, .int x1)]) C dX7_layChances_16 rfl (by decide) rfl ?_
  refine j_sub [2, 3, 1, 0] rfl ?_
  exact t_X7_layChances_17 C h
def rm_X7_common : Room := { frames := 0, cells := 0, slots := 0, locals := 0 }
set_option maxRecDepth 20000 in
theorem t_X7_common_6 {X : Mx} {w : Wt} {l0 : Launch} {Q0 : Int64 → St → Prop} (C : Cx X w l0 cX7_common 10 RX7 rm_X7_common (some .long)) {x4 : Int64} {x6 : Int64} {S : St} (h : Lq (p_X7_common_6 Q0) (x4, x6, S)) : J X w (QL X w Q0) 6 [(4, .long x4), (6, .long x6)] [] S := by
  have key : ∀ a : Int64 × Int64 × St, Lq (p_X7_common_6 Q0) a → J X w (QL X w Q0) 6 [(4, .long a.1), (6, .long a.2.1)] [] a.2.2 := by
    intro a ha
    refine Lq_use (G := fun a => J X w (QL X w Q0) 6 [(4, .long a.1), (6, .long a.2.1)] [] a.2.2) ?_ ha
    intro K6 hK a h
    obtain ⟨x4, x6, S⟩ := a
    have hK6 : ∀ (x4 : Int64) (x6 : Int64) (S : St), K6 (x4, x6, S) → J X w (QL X w Q0) 6 [(4, .long x4), (6, .long x6)] [] S := fun x4 x6 S h => hK (x4, x6, S) h
    show J X w (QL X w Q0) 6 [(4, .long x4), (6, .long x6)] [] S
    refine j_lload C dX7_common_6 1 rfl ?_
    refine j_lconst C dX7_common_8 (v := 0) (by decide) ?_
    refine j_lcmp C dX7_common_9 ?_
    refine j_if_eq (tgt := 31) C dX7_common_10 (by decide) (fun c1 => ?_) (fun c1 => ?_)
    · have h := And.left h c1
      refine j_lload C dX7_common_31 0 rfl ?_
      exact j_lret C dX7_common_33 h
    · have h := And.right h c1
      refine j_lload C dX7_common_13 0 rfl ?_
      refine j_lload C dX7_common_15 1 rfl ?_
      refine j_lrem C dX7_common_17 (And.left h) ?_
      have h := And.right h
      refine j_lstore (lv' := [(8, .long (x4 - x4 / x6 * x6)), (4, .long x4), (6, .long x6)]) C dX7_common_18 (by decide) rfl ?_
      refine j_lload C dX7_common_20 2 rfl ?_
      refine j_lstore (lv' := [(4, .long x6), (8, .long (x4 - x4 / x6 * x6)), (6, .long x6)]) C dX7_common_22 (by decide) rfl ?_
      refine j_lload C dX7_common_24 1 rfl ?_
      refine j_lstore (lv' := [(6, .long (x4 - x4 / x6 * x6)), (4, .long x6), (8, .long (x4 - x4 / x6 * x6))]) C dX7_common_26 (by decide) rfl ?_
      refine j_goto (tgt := 6) C dX7_common_28 (by decide) ?_
      refine j_sub [1, 0] rfl ?_
      exact hK6 _ _ _ h
  exact key (x4, x6, S) h
set_option maxRecDepth 20000 in
theorem m_X7_common {l : Launch} {w : Wt} (hw : WOK w) {x0 : Int64} {x2 : Int64} {S : St} {Q0 : Int64 → St → Prop} (h : p_X7_common x0 x2 S Q0) : ML l w yX7_common cX7_common 10 rm_X7_common [.long x0, .long x2] S Q0 := by
  refine m_ML (own := RX7) (lv := [(0, .long x0), (2, .long x2)]) hw (by decide) rfl (Nat.le_of_ble_eq_true rfl) rfl (fun X C => ?_)
  refine j_lload_n C dX7_common_0 0 rfl rfl ?_
  refine j_lstore (lv' := [(4, .long x0), (0, .long x0), (2, .long x2)]) C dX7_common_1 (by decide) rfl ?_
  refine j_lload_n C dX7_common_3 2 rfl rfl ?_
  refine j_lstore (lv' := [(6, .long x2), (4, .long x0), (0, .long x0), (2, .long x2)]) C dX7_common_4 (by decide) rfl ?_
  refine j_sub [1, 0] rfl ?_
  exact t_X7_common_6 C h
def rm_X7_chanceNow : Room := { frames := 3, cells := 0, slots := 0, locals := 70 }
theorem rk_X7_chanceNow_X7_common : roomOk rm_X7_common rm_X7_chanceNow 10 := ⟨⟨rfl, rfl⟩, Nat.le_of_ble_eq_true rfl, Nat.le_of_ble_eq_true rfl⟩
theorem rk_X7_chanceNow_X7_layChances : roomOk rm_X7_layChances rm_X7_chanceNow 6 := ⟨⟨rfl, rfl⟩, Nat.le_of_ble_eq_true rfl, Nat.le_of_ble_eq_true rfl⟩
set_option maxRecDepth 20000 in
theorem m_X7_chanceNow {l : Launch} {w : Wt} (hw : WOK w) {x1 : Int32} {x2 : Int32} {x3 : Int32} {S : St} {Q0 : Int32 → St → Prop} (h : p_X7_chanceNow x1 x2 x3 S Q0) : MI l w yX7_chanceNow cX7_chanceNow 6 .int rm_X7_chanceNow [rr w 25, .int x1, .int x2, .int x3] S Q0 := by
  refine m_MI (own := RX7) (lv := [(0, rr w 25), (1, .int x1), (2, .int x2), (3, .int x3)]) hw (by decide) rfl (Nat.le_of_ble_eq_true rfl) rfl (fun X C => ?_)
  refine j_aload_n C dX7_chanceNow_0 0 rfl rfl ?_
  refine j_iload_n C dX7_chanceNow_1 2 rfl rfl ?_
  refine j_callVv (st := []) C 25 [.int x2] (m_X7_layChances C.wok h) cv_RX7_250 rk_X7_chanceNow_X7_layChances rfl (rc_25 w) rfl (Nat.le_of_ble_eq_true rfl) dX7_chanceNow_2 (fun S1 h => ?_)
  refine j_aload_n C dX7_chanceNow_5 0 rfl rfl ?_
  refine gf_RX7_43_25 C dX7_chanceNow_6 ?_
  refine j_iload_n C dX7_chanceNow_9 1 rfl rfl ?_
  refine al_37 C dX7_chanceNow_10 (And.left h) ?_
  have h := And.right h
  refine j_aload_n C dX7_chanceNow_11 0 rfl rfl ?_
  refine gf_RX7_240_25 C dX7_chanceNow_12 ?_
  refine j_callSl (st := []) C [.long (S1.2 37 x1.toNatClampNeg), .long (S1.2 25 28)] (m_X7_common C.wok h) cv_RX7_253 rk_X7_chanceNow_X7_common rfl rfl (Nat.le_of_ble_eq_true rfl) dX7_chanceNow_15 (fun r3 S2 h => ?_)
  refine j_lstore (lv' := [(4, .long r3), (0, rr w 25), (1, .int x1), (2, .int x2), (3, .int x3)]) C dX7_chanceNow_18 (by decide) rfl ?_
  refine j_iload_n C dX7_chanceNow_20 4 rfl rfl ?_
  refine j_if_ne (tgt := 33) C dX7_chanceNow_21 (by decide) (fun c4 => ?_) (fun c4 => ?_)
  · have h := And.left h c4
    refine j_aload_n C dX7_chanceNow_33 1 rfl rfl ?_
    refine gf_RX7_240_25 C dX7_chanceNow_34 ?_
    refine j_lload C dX7_chanceNow_37 0 rfl ?_
    refine j_ldiv C dX7_chanceNow_39 (And.left h) ?_
    have h := And.right h
    refine j_l2i C dX7_chanceNow_40 ?_
    exact j_iret C dX7_chanceNow_41 h
  · have h := And.right h c4
    refine j_aload_n C dX7_chanceNow_24 1 rfl rfl ?_
    refine gf_RX7_43_25 C dX7_chanceNow_25 ?_
    refine j_iload_n C dX7_chanceNow_28 2 rfl rfl ?_
    refine al_37 C dX7_chanceNow_29 (And.left h) ?_
    have h := And.right h
    refine j_goto (tgt := 37) C dX7_chanceNow_30 (by decide) ?_
    refine j_lload C dX7_chanceNow_37 0 rfl ?_
    refine j_ldiv C dX7_chanceNow_39 (And.left h) ?_
    have h := And.right h
    refine j_l2i C dX7_chanceNow_40 ?_
    exact j_iret C dX7_chanceNow_41 h
def rm_X7_chance : Room := { frames := 4, cells := 0, slots := 0, locals := 95 }
theorem rk_X7_chance_X7_areSeeds : roomOk rm_X7_areSeeds rm_X7_chance 1 := ⟨⟨rfl, rfl⟩, Nat.le_of_ble_eq_true rfl, Nat.le_of_ble_eq_true rfl⟩
theorem rk_X7_chance_X7_chanceNow : roomOk rm_X7_chanceNow rm_X7_chance 6 := ⟨⟨rfl, rfl⟩, Nat.le_of_ble_eq_true rfl, Nat.le_of_ble_eq_true rfl⟩
theorem rk_X7_chance_X7_isPerson : roomOk rm_X7_isPerson rm_X7_chance 2 := ⟨⟨rfl, rfl⟩, Nat.le_of_ble_eq_true rfl, Nat.le_of_ble_eq_true rfl⟩
theorem rk_X7_chance_X7_within : roomOk rm_X7_within rm_X7_chance 3 := ⟨⟨rfl, rfl⟩, Nat.le_of_ble_eq_true rfl, Nat.le_of_ble_eq_true rfl⟩
set_option maxRecDepth 20000 in
theorem m_X7_chance {l : Launch} {w : Wt} (hw : WOK w) {x1 : Int32} {x2 : Int32} {x3 : Int32} {S : St} {Q0 : Int32 → St → Prop} (h : p_X7_chance x1 x2 x3 S Q0) : MI l w yX7_chance cX7_chance 4 .int rm_X7_chance [rr w 25, .int x1, .int x2, .int x3] S Q0 := by
  refine m_MI (own := RX7) (lv := [(0, rr w 25), (1, .int x1), (2, .int x2), (3, .int x3)]) hw (by decide) rfl (Nat.le_of_ble_eq_true rfl) rfl (fun X C => ?_)
  refine j_aload_n C dX7_chance_0 0 rfl rfl ?_
  refine j_iload_n C dX7_chance_1 1 rfl rfl ?_
  refine j_callVi (st := []) C 25 [.int x1] (m_X7_isPerson C.wok h) cv_RX7_145 rk_X7_chance_X7_isPerson rfl (rc_25 w) rfl (Nat.le_of_ble_eq_true rfl) dX7_chance_2 (fun r2 S1 h => ?_)
  refine j_if_ne (tgt := 11) C dX7_chance_5 (by decide) (fun c3 => ?_) (fun c3 => ?_)
  · have h := And.left h c3
    refine j_iload_n C dX7_chance_11 2 rfl rfl ?_
    refine j_iconst C dX7_chance_12 (v := 0) (by decide) ?_
    refine j_iconst C dX7_chance_13 (v := 4) (by decide) ?_
    refine j_callSi (st := []) C [.int x2, .int 0, .int 4] (m_X7_within C.wok h) cv_RX7_50 rk_X7_chance_X7_within rfl rfl (Nat.le_of_ble_eq_true rfl) dX7_chance_14 (fun r5 S4 h => ?_)
    refine j_if_eq (tgt := 29) C dX7_chance_17 (by decide) (fun c6 => ?_) (fun c6 => ?_)
    · have h := And.left h c6
      refine j_bipush C dX7_chance_29 (v := (-102)) (by decide) ?_
      exact j_iret C dX7_chance_31 h
    · have h := And.right h c6
      refine j_iload_n C dX7_chance_20 3 rfl rfl ?_
      refine j_iconst C dX7_chance_21 (v := 0) (by decide) ?_
      refine j_iconst C dX7_chance_22 (v := 1) (by decide) ?_
      refine j_callSi (st := []) C [.int x3, .int 0, .int 1] (m_X7_within C.wok h) cv_RX7_50 rk_X7_chance_X7_within rfl rfl (Nat.le_of_ble_eq_true rfl) dX7_chance_23 (fun r8 S7 h => ?_)
      refine j_if_ne (tgt := 32) C dX7_chance_26 (by decide) (fun c9 => ?_) (fun c9 => ?_)
      · have h := And.left h c9
        refine j_aload_n C dX7_chance_32 0 rfl rfl ?_
        refine j_callVi (st := []) C 25 [] (m_X7_areSeeds C.wok h) cv_RX7_257 rk_X7_chance_X7_areSeeds rfl (rc_25 w) rfl (Nat.le_of_ble_eq_true rfl) dX7_chance_33 (fun r11 S10 h => ?_)
        refine j_if_eq (tgt := 49) C dX7_chance_36 (by decide) (fun c12 => ?_) (fun c12 => ?_)
        · have h := And.left h c12
          refine j_bipush C dX7_chance_49 (v := (-103)) (by decide) ?_
          exact j_iret C dX7_chance_51 h
        · have h := And.right h c12
          refine j_aload_n C dX7_chance_39 0 rfl rfl ?_
          refine j_iload_n C dX7_chance_40 1 rfl rfl ?_
          refine j_iload_n C dX7_chance_41 2 rfl rfl ?_
          refine j_iload_n C dX7_chance_42 3 rfl rfl ?_
          refine j_callVi (st := []) C 25 [.int x1, .int x2, .int x3] (m_X7_chanceNow C.wok h) cv_RX7_260 rk_X7_chance_X7_chanceNow rfl (rc_25 w) rfl (Nat.le_of_ble_eq_true rfl) dX7_chance_43 (fun r14 S13 h => ?_)
          refine j_goto (tgt := 51) C dX7_chance_46 (by decide) ?_
          exact j_iret C dX7_chance_51 h
      · have h := And.right h c9
        refine j_bipush C dX7_chance_29 (v := (-102)) (by decide) ?_
        exact j_iret C dX7_chance_31 h
  · have h := And.right h c3
    refine j_bipush C dX7_chance_8 (v := (-101)) (by decide) ?_
    exact j_iret C dX7_chance_10 h
