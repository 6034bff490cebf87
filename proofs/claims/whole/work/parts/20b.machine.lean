def rm_X7_circle : Room := { frames := 5, cells := 0, slots := 0, locals := 107 }
theorem rk_X7_circle_X7_read : roomOk rm_X7_read rm_X7_circle 2 := ⟨⟨rfl, rfl⟩, Nat.le_of_ble_eq_true rfl, Nat.le_of_ble_eq_true rfl⟩
set_option maxRecDepth 20000 in
theorem t_X7_circle_86 {X : Mx} {w : Wt} {l0 : Launch} {Q0 : Int32 → St → Prop} (C : Cx X w l0 cX7_circle 2 RX7 rm_X7_circle (some .int)) {x1 : Int32} {S : St} (h : Lq (p_X7_circle_86 Q0) (x1, S)) : J X w (QI X w Q0) 86 [(0, rr w 25), (1, .int x1)] [] S := by
  have key : ∀ a : Int32 × St, Lq (p_X7_circle_86 Q0) a → J X w (QI X w Q0) 86 [(0, rr w 25), (1, .int a.1)] [] a.2 := by
    intro a ha
    refine Lq_use (G := fun a => J X w (QI X w Q0) 86 [(0, rr w 25), (1, .int a.1)] [] a.2) ?_ ha
    intro K86 hK a h
    obtain ⟨x1, S⟩ := a
    have hK86 : ∀ (x1 : Int32) (S : St), K86 (x1, S) → J X w (QI X w Q0) 86 [(0, rr w 25), (1, .int x1)] [] S := fun x1 S h => hK (x1, S) h
    show J X w (QI X w Q0) 86 [(0, rr w 25), (1, .int x1)] [] S
    refine j_iload_n C dX7_circle_86 1 rfl rfl ?_
    refine j_aload_n C dX7_circle_87 0 rfl rfl ?_
    refine gf_RX7_111_25 C dX7_circle_88 ?_
    refine j_icmp_ge (tgt := 124) C dX7_circle_91 (by decide) (fun c9 => ?_) (fun c9 => ?_)
    · have h := And.left h c9
      refine j_aload_n C dX7_circle_124 0 rfl rfl ?_
      refine j_dup C dX7_circle_125 rfl ?_
      refine gf_RX7_117_25 C dX7_circle_126 ?_
      refine j_iconst C dX7_circle_129 (v := 1) (by decide) ?_
      refine j_iadd C dX7_circle_130 ?_
      refine pf_RX7_117_25 C dX7_circle_131 (fun S10 eS10 => ?_)
      have h := h S10 eS10
      refine j_aload_n C dX7_circle_134 0 rfl rfl ?_
      refine j_iconst C dX7_circle_135 (v := 0) (by decide) ?_
      refine pf_RX7_54_25 C dX7_circle_136 (fun S11 eS11 => ?_)
      have h := h S11 eS11
      refine j_aload_n C dX7_circle_139 0 rfl rfl ?_
      refine gf_RX7_111_25 C dX7_circle_140 ?_
      exact j_iret C dX7_circle_143 h
    · have h := And.right h c9
      refine j_aload_n C dX7_circle_94 0 rfl rfl ?_
      refine gf_RX7_7_25 C dX7_circle_95 ?_
      refine j_iload_n C dX7_circle_98 1 rfl rfl ?_
      refine j_aload_n C dX7_circle_99 0 rfl rfl ?_
      refine gf_RX7_25_25 C dX7_circle_100 ?_
      refine j_iload_n C dX7_circle_103 1 rfl rfl ?_
      refine al_31 C dX7_circle_104 (And.left h) ?_
      have h := And.right h
      refine as_26 C dX7_circle_105 (And.left h) (fun S12 eS12 => ?_)
      have h := And.right h S12 eS12
      refine j_aload_n C dX7_circle_106 0 rfl rfl ?_
      refine gf_RX7_13_25 C dX7_circle_107 ?_
      refine j_iload_n C dX7_circle_110 1 rfl rfl ?_
      refine j_aload_n C dX7_circle_111 0 rfl rfl ?_
      refine gf_RX7_28_25 C dX7_circle_112 ?_
      refine j_iload_n C dX7_circle_115 1 rfl rfl ?_
      refine al_32 C dX7_circle_116 (And.left h) ?_
      have h := And.right h
      refine as_27 C dX7_circle_117 (And.left h) (fun S13 eS13 => ?_)
      have h := And.right h S13 eS13
      refine j_iinc (lv' := [(1, .int (x1 + 1)), (0, rr w 25)]) C dX7_circle_118 1 rfl rfl (by decide) rfl ?_
      refine j_goto (tgt := 86) C dX7_circle_121 (by decide) ?_
      refine j_sub [1, 0] rfl ?_
      exact hK86 _ _ h
  exact key (x1, S) h
set_option maxRecDepth 20000 in
theorem t_X7_circle_61 {X : Mx} {w : Wt} {l0 : Launch} {Q0 : Int32 → St → Prop} (C : Cx X w l0 cX7_circle 2 RX7 rm_X7_circle (some .int)) {x1 : Int32} {S : St} (h : Lq (p_X7_circle_61 Q0) (x1, S)) : J X w (QI X w Q0) 61 [(0, rr w 25), (1, .int x1)] [] S := by
  have key : ∀ a : Int32 × St, Lq (p_X7_circle_61 Q0) a → J X w (QI X w Q0) 61 [(0, rr w 25), (1, .int a.1)] [] a.2 := by
    intro a ha
    refine Lq_use (G := fun a => J X w (QI X w Q0) 61 [(0, rr w 25), (1, .int a.1)] [] a.2) ?_ ha
    intro K61 hK a h
    obtain ⟨x1, S⟩ := a
    have hK61 : ∀ (x1 : Int32) (S : St), K61 (x1, S) → J X w (QI X w Q0) 61 [(0, rr w 25), (1, .int x1)] [] S := fun x1 S h => hK (x1, S) h
    show J X w (QI X w Q0) 61 [(0, rr w 25), (1, .int x1)] [] S
    refine j_iload_n C dX7_circle_61 1 rfl rfl ?_
    refine j_iconst C dX7_circle_62 (v := 5) (by decide) ?_
    refine j_icmp_ge (tgt := 84) C dX7_circle_63 (by decide) (fun c8 => ?_) (fun c8 => ?_)
    · have h := And.left h c8
      refine j_iconst C dX7_circle_84 (v := 0) (by decide) ?_
      refine j_istore_n (lv' := [(1, .int 0), (0, rr w 25)]) C dX7_circle_85 rfl (by decide) rfl ?_
      refine j_sub [1, 0] rfl ?_
      exact t_X7_circle_86 C h
    · have h := And.right h c8
      refine j_aload_n C dX7_circle_66 0 rfl rfl ?_
      refine gf_RX7_16_25 C dX7_circle_67 ?_
      refine j_iload_n C dX7_circle_70 1 rfl rfl ?_
      refine j_aload_n C dX7_circle_71 0 rfl rfl ?_
      refine gf_RX7_22_25 C dX7_circle_72 ?_
      refine j_iload_n C dX7_circle_75 1 rfl rfl ?_
      refine al_30 C dX7_circle_76 (And.left h) ?_
      have h := And.right h
      refine as_28 C dX7_circle_77 (And.left h) (fun S14 eS14 => ?_)
      have h := And.right h S14 eS14
      refine j_iinc (lv' := [(1, .int (x1 + 1)), (0, rr w 25)]) C dX7_circle_78 1 rfl rfl (by decide) rfl ?_
      refine j_goto (tgt := 61) C dX7_circle_81 (by decide) ?_
      refine j_sub [1, 0] rfl ?_
      exact hK61 _ _ h
  exact key (x1, S) h
set_option maxRecDepth 20000 in
theorem t_X7_circle_27 {X : Mx} {w : Wt} {l0 : Launch} {Q0 : Int32 → St → Prop} (C : Cx X w l0 cX7_circle 2 RX7 rm_X7_circle (some .int)) {S : St} (h : p_X7_circle_27 Q0 S) : J X w (QI X w Q0) 27 [(0, rr w 25)] [] S := by
  refine j_aload_n C dX7_circle_27 0 rfl rfl ?_
  refine gf_RX7_64_25 C dX7_circle_28 ?_
  refine j_aload_n C dX7_circle_31 0 rfl rfl ?_
  refine gf_RX7_61_25 C dX7_circle_32 ?_
  refine j_iconst C dX7_circle_35 (v := 1) (by decide) ?_
  refine j_isub C dX7_circle_36 ?_
  refine j_icmp_ge (tgt := 43) C dX7_circle_37 (by decide) (fun c5 => ?_) (fun c5 => ?_)
  · have h := And.left h c5
    refine j_aload_n C dX7_circle_43 0 rfl rfl ?_
    refine j_aload_n C dX7_circle_44 0 rfl rfl ?_
    refine gf_RX7_61_25 C dX7_circle_45 ?_
    refine pf_RX7_111_25 C dX7_circle_48 (fun S6 eS6 => ?_)
    have h := h S6 eS6
    refine j_aload_n C dX7_circle_51 0 rfl rfl ?_
    refine j_aload_n C dX7_circle_52 0 rfl rfl ?_
    refine gf_RX7_78_25 C dX7_circle_53 ?_
    refine pf_RX7_114_25 C dX7_circle_56 (fun S7 eS7 => ?_)
    have h := h S7 eS7
    refine j_iconst C dX7_circle_59 (v := 0) (by decide) ?_
    refine j_istore_n (lv' := [(1, .int 0), (0, rr w 25)]) C dX7_circle_60 rfl (by decide) rfl ?_
    refine j_sub [1, 0] rfl ?_
    exact t_X7_circle_61 C h
  · have h := And.right h c5
    refine j_bipush C dX7_circle_40 (v := (-103)) (by decide) ?_
    exact j_iret C dX7_circle_42 h
set_option maxRecDepth 20000 in
theorem m_X7_circle {l : Launch} {w : Wt} (hw : WOK w) {S : St} {Q0 : Int32 → St → Prop} (h : p_X7_circle S Q0) : MI l w yX7_circle cX7_circle 2 .int rm_X7_circle [rr w 25] S Q0 := by
  refine m_MI (own := RX7) (lv := [(0, rr w 25)]) hw (by decide) rfl (Nat.le_of_ble_eq_true rfl) rfl (fun X C => ?_)
  refine j_aload_n C dX7_circle_0 0 rfl rfl ?_
  refine j_callVi (st := []) C 25 [] (m_X7_read C.wok h) cv_RX7_107 rk_X7_circle_X7_read rfl (rc_25 w) rfl (Nat.le_of_ble_eq_true rfl) dX7_circle_1 (fun r2 S1 h => ?_)
  refine j_aload_n C dX7_circle_4 0 rfl rfl ?_
  refine gf_RX7_54_25 C dX7_circle_5 ?_
  refine j_icmp_lt (tgt := 40) C dX7_circle_8 (by decide) (fun c3 => ?_) (fun c3 => ?_)
  · have h := And.left h c3
    refine j_bipush C dX7_circle_40 (v := (-103)) (by decide) ?_
    exact j_iret C dX7_circle_42 h
  · have h := And.right h c3
    refine j_aload_n C dX7_circle_11 0 rfl rfl ?_
    refine gf_RX7_75_25 C dX7_circle_12 ?_
    refine j_iconst C dX7_circle_15 (v := 3) (by decide) ?_
    refine j_icmp_eq (tgt := 27) C dX7_circle_16 (by decide) (fun c4 => ?_) (fun c4 => ?_)
    · have h := And.left h c4
      exact t_X7_circle_27 C h
    · have h := And.right h c4
      refine j_aload_n C dX7_circle_19 0 rfl rfl ?_
      refine gf_RX7_75_25 C dX7_circle_20 ?_
      refine j_iconst C dX7_circle_23 (v := 4) (by decide) ?_
      refine j_icmp_ne (tgt := 40) C dX7_circle_24 (by decide) (fun c15 => ?_) (fun c15 => ?_)
      · have h := And.left h c15
        refine j_bipush C dX7_circle_40 (v := (-103)) (by decide) ?_
        exact j_iret C dX7_circle_42 h
      · have h := And.right h c15
        exact t_X7_circle_27 C h
def rm_X0_exists : Room := { frames := 0, cells := 0, slots := 0, locals := 0 }
set_option maxRecDepth 20000 in
theorem m_X0_exists {l : Launch} {w : Wt} (hw : WOK w) {S : St} {Q0 : Int32 → St → Prop} (h : p_X0_exists S Q0) : MI l w yX0_exists cX0_exists 1 .boolean rm_X0_exists [rr w 2] S Q0 := by
  refine m_MI (own := RX0) (lv := [(0, rr w 2)]) hw (by decide) rfl (Nat.le_of_ble_eq_true rfl) rfl (fun X C => ?_)
  refine j_aload_n C dX0_exists_0 0 rfl rfl ?_
  refine gf_RX0_21_2 C dX0_exists_1 ?_
  refine j_if_le (tgt := 11) C dX0_exists_4 (by decide) (fun c1 => ?_) (fun c1 => ?_)
  · have h := And.left h c1
    refine j_iconst C dX0_exists_11 (v := 0) (by decide) ?_
    exact j_zret C dX0_exists_12 ⟨bz0, h⟩
  · have h := And.right h c1
    refine j_iconst C dX0_exists_7 (v := 1) (by decide) ?_
    refine j_goto (tgt := 12) C dX0_exists_8 (by decide) ?_
    exact j_zret C dX0_exists_12 ⟨bz1, h⟩
def rm_X5_put : Room := { frames := 0, cells := 0, slots := 0, locals := 0 }
set_option maxRecDepth 20000 in
theorem m_X5_put {l : Launch} {w : Wt} (hw : WOK w) {x1 : Int32} {S : St} {Q0 : St → Prop} (h : p_X5_put x1 S Q0) : MV l w yX5_put cX5_put 2 rm_X5_put [rr w 11, .int x1] S Q0 := by
  refine m_MV (own := RX5) (lv := [(0, rr w 11), (1, .int x1)]) hw (by decide) rfl (Nat.le_of_ble_eq_true rfl) rfl (fun X C => ?_)
  refine j_aload_n C dX5_put_0 0 rfl rfl ?_
  refine gf_RX5_15_11 C dX5_put_1 ?_
  refine j_bipush C dX5_put_4 (v := 115) (by decide) ?_
  refine j_icmp_ge (tgt := 29) C dX5_put_6 (by decide) (fun c1 => ?_) (fun c1 => ?_)
  · have h := And.left h c1
    exact j_vret C dX5_put_29 h
  · have h := And.right h c1
    refine j_aload_n C dX5_put_9 0 rfl rfl ?_
    refine gf_RX5_11_11 C dX5_put_10 ?_
    refine j_aload_n C dX5_put_13 0 rfl rfl ?_
    refine gf_RX5_15_11 C dX5_put_14 ?_
    refine j_iload_n C dX5_put_17 1 rfl rfl ?_
    refine as_12 C dX5_put_18 (And.left h) (fun S2 eS2 => ?_)
    have h := And.right h S2 eS2
    refine j_aload_n C dX5_put_19 0 rfl rfl ?_
    refine j_dup C dX5_put_20 rfl ?_
    refine gf_RX5_15_11 C dX5_put_21 ?_
    refine j_iconst C dX5_put_24 (v := 1) (by decide) ?_
    refine j_iadd C dX5_put_25 ?_
    refine pf_RX5_15_11 C dX5_put_26 (fun S3 eS3 => ?_)
    have h := h S3 eS3
    exact j_vret C dX5_put_29 h
def rm_X6_bit : Room := { frames := 0, cells := 0, slots := 0, locals := 0 }
set_option maxRecDepth 20000 in
theorem m_X6_bit {l : Launch} {w : Wt} (hw : WOK w) {x0 : Int32} {x1 : Int32} {S : St} {Q0 : Int32 → St → Prop} (h : p_X6_bit x0 x1 S Q0) : MI l w yX6_bit cX6_bit 2 .int rm_X6_bit [.int x0, .int x1] S Q0 := by
  refine m_MI (own := RX6) (lv := [(0, .int x0), (1, .int x1)]) hw (by decide) rfl (Nat.le_of_ble_eq_true rfl) rfl (fun X C => ?_)
  refine j_iload_n C dX6_bit_0 0 rfl rfl ?_
  refine j_iload_n C dX6_bit_1 1 rfl rfl ?_
  refine j_ishr C dX6_bit_2 ?_
  refine j_iconst C dX6_bit_3 (v := 1) (by decide) ?_
  refine j_iand C dX6_bit_4 ?_
  exact j_iret C dX6_bit_5 h
def rm_X0_hasVouch : Room := { frames := 1, cells := 0, slots := 0, locals := 21 }
theorem rk_X0_hasVouch_X6_bit : roomOk rm_X6_bit rm_X0_hasVouch 2 := ⟨⟨rfl, rfl⟩, Nat.le_of_ble_eq_true rfl, Nat.le_of_ble_eq_true rfl⟩
set_option maxRecDepth 20000 in
theorem m_X0_hasVouch {l : Launch} {w : Wt} (hw : WOK w) {x1 : Int32} {x2 : Int32} {S : St} {Q0 : Int32 → St → Prop} (h : p_X0_hasVouch x1 x2 S Q0) : MI l w yX0_hasVouch cX0_hasVouch 3 .boolean rm_X0_hasVouch [rr w 2, .int x1, .int x2] S Q0 := by
  refine m_MI (own := RX0) (lv := [(0, rr w 2), (1, .int x1), (2, .int x2)]) hw (by decide) rfl (Nat.le_of_ble_eq_true rfl) rfl (fun X C => ?_)
  refine j_aload_n C dX0_hasVouch_0 0 rfl rfl ?_
  refine gf_RX0_18_2 C dX0_hasVouch_1 ?_
  refine j_iload_n C dX0_hasVouch_4 1 rfl rfl ?_
  refine al_5 C dX0_hasVouch_5 (And.left h) ?_
  have h := And.right h
  refine j_iload_n C dX0_hasVouch_6 2 rfl rfl ?_
  refine j_callNi (st := []) C [.int (S.1 5 x1.toNatClampNeg), .int x2] (m_X6_bit C.wok h) cv_RX0_44 rk_X0_hasVouch_X6_bit rfl rfl (Nat.le_of_ble_eq_true rfl) dX0_hasVouch_7 (fun r2 S1 h => ?_)
  refine j_iconst C dX0_hasVouch_10 (v := 1) (by decide) ?_
  refine j_icmp_ne (tgt := 18) C dX0_hasVouch_11 (by decide) (fun c3 => ?_) (fun c3 => ?_)
  · have h := And.left h c3
    refine j_iconst C dX0_hasVouch_18 (v := 0) (by decide) ?_
    exact j_zret C dX0_hasVouch_19 ⟨bz0, h⟩
  · have h := And.right h c3
    refine j_iconst C dX0_hasVouch_14 (v := 1) (by decide) ?_
    refine j_goto (tgt := 19) C dX0_hasVouch_15 (by decide) ?_
    exact j_zret C dX0_hasVouch_19 ⟨bz1, h⟩
def rm_X5_writePerson : Room := { frames := 2, cells := 0, slots := 0, locals := 43 }
theorem rk_X5_writePerson_X0_hasVouch : roomOk rm_X0_hasVouch rm_X5_writePerson 3 := ⟨⟨rfl, rfl⟩, Nat.le_of_ble_eq_true rfl, Nat.le_of_ble_eq_true rfl⟩
theorem rk_X5_writePerson_X5_put : roomOk rm_X5_put rm_X5_writePerson 2 := ⟨⟨rfl, rfl⟩, Nat.le_of_ble_eq_true rfl, Nat.le_of_ble_eq_true rfl⟩
set_option maxRecDepth 20000 in
theorem t_X5_writePerson_65 {X : Mx} {w : Wt} {l0 : Launch} {Q0 : St → Prop} {K34 : Int32 × Int32 × St → Prop} (C : Cx X w l0 cX5_writePerson 4 RX5 rm_X5_writePerson none) (hK34 : ∀ (x2 : Int32) (x3 : Int32) (S : St), K34 (x2, x3, S) → J X w (QV X w Q0) 34 [(0, rr w 11), (1, rr w 2), (2, .int x2), (3, .int x3)] [] S) {x2 : Int32} {x3 : Int32} {S : St} (h : p_X5_writePerson_65 Q0 K34 x2 x3 S) : J X w (QV X w Q0) 65 [(0, rr w 11), (1, rr w 2), (2, .int x2), (3, .int x3)] [] S := by
  refine j_iinc (lv' := [(3, .int (x3 + 1)), (0, rr w 11), (1, rr w 2), (2, .int x2)]) C dX5_writePerson_65 3 rfl rfl (by decide) rfl ?_
  refine j_goto (tgt := 34) C dX5_writePerson_68 (by decide) ?_
  refine j_sub [1, 2, 3, 0] rfl ?_
  exact hK34 _ _ _ h
set_option maxRecDepth 20000 in
theorem t_X5_writePerson_34 {X : Mx} {w : Wt} {l0 : Launch} {Q0 : St → Prop} (C : Cx X w l0 cX5_writePerson 4 RX5 rm_X5_writePerson none) {x2 : Int32} {x3 : Int32} {S : St} (h : Lq (p_X5_writePerson_34 Q0) (x2, x3, S)) : J X w (QV X w Q0) 34 [(0, rr w 11), (1, rr w 2), (2, .int x2), (3, .int x3)] [] S := by
  have key : ∀ a : Int32 × Int32 × St, Lq (p_X5_writePerson_34 Q0) a → J X w (QV X w Q0) 34 [(0, rr w 11), (1, rr w 2), (2, .int a.1), (3, .int a.2.1)] [] a.2.2 := by
    intro a ha
    refine Lq_use (G := fun a => J X w (QV X w Q0) 34 [(0, rr w 11), (1, rr w 2), (2, .int a.1), (3, .int a.2.1)] [] a.2.2) ?_ ha
    intro K34 hK a h
    obtain ⟨x2, x3, S⟩ := a
    have hK34 : ∀ (x2 : Int32) (x3 : Int32) (S : St), K34 (x2, x3, S) → J X w (QV X w Q0) 34 [(0, rr w 11), (1, rr w 2), (2, .int x2), (3, .int x3)] [] S := fun x2 x3 S h => hK (x2, x3, S) h
    show J X w (QV X w Q0) 34 [(0, rr w 11), (1, rr w 2), (2, .int x2), (3, .int x3)] [] S
    refine j_iload_n C dX5_writePerson_34 3 rfl rfl ?_
    refine j_aload_n C dX5_writePerson_35 1 rfl rfl ?_
    refine gf_RX5_19_2 C dX5_writePerson_36 ?_
    refine j_icmp_ge (tgt := 71) C dX5_writePerson_39 (by decide) (fun c3 => ?_) (fun c3 => ?_)
    · have h := And.left h c3
      exact j_vret C dX5_writePerson_71 h
    · have h := And.right h c3
      refine j_aload_n C dX5_writePerson_42 1 rfl rfl ?_
      refine j_iload_n C dX5_writePerson_43 2 rfl rfl ?_
      refine j_iload_n C dX5_writePerson_44 3 rfl rfl ?_
      refine j_callVi (st := []) C 2 [.int x2, .int x3] (m_X0_hasVouch C.wok h) cv_RX5_41 rk_X5_writePerson_X0_hasVouch rfl (rc_2 w) rfl (Nat.le_of_ble_eq_true rfl) dX5_writePerson_45 (fun r5 S4 h => ?_)
      refine j_if_eq (tgt := 65) C dX5_writePerson_48 (by decide) (fun c6 => ?_) (fun c6 => ?_)
      · have h := And.left h c6
        exact t_X5_writePerson_65 C hK34 h
      · have h := And.right h c6
        refine j_aload_n C dX5_writePerson_51 0 rfl rfl ?_
        refine j_bipush C dX5_writePerson_52 (v := 62) (by decide) ?_
        refine j_callVv (st := []) C 11 [.int 62] (m_X5_put C.wok h) cv_RX5_24 rk_X5_writePerson_X5_put rfl (rc_11 w) rfl (Nat.le_of_ble_eq_true rfl) dX5_writePerson_54 (fun S7 h => ?_)
        refine j_aload_n C dX5_writePerson_57 0 rfl rfl ?_
        refine j_bipush C dX5_writePerson_58 (v := 48) (by decide) ?_
        refine j_iload_n C dX5_writePerson_60 3 rfl rfl ?_
        refine j_iadd C dX5_writePerson_61 ?_
        refine j_callVv (st := []) C 11 [.int (48 + x3)] (m_X5_put C.wok h) cv_RX5_24 rk_X5_writePerson_X5_put rfl (rc_11 w) rfl (Nat.le_of_ble_eq_true rfl) dX5_writePerson_62 (fun S8 h => ?_)
        exact t_X5_writePerson_65 C hK34 h
  exact key (x2, x3, S) h
set_option maxRecDepth 20000 in
theorem t_X5_writePerson_32 {X : Mx} {w : Wt} {l0 : Launch} {Q0 : St → Prop} (C : Cx X w l0 cX5_writePerson 4 RX5 rm_X5_writePerson none) {x2 : Int32} {S : St} (h : p_X5_writePerson_32 Q0 x2 S) : J X w (QV X w Q0) 32 [(0, rr w 11), (1, rr w 2), (2, .int x2)] [] S := by
  refine j_iconst C dX5_writePerson_32 (v := 0) (by decide) ?_
  refine j_istore_n (lv' := [(3, .int 0), (0, rr w 11), (1, rr w 2), (2, .int x2)]) C dX5_writePerson_33 rfl (by decide) rfl ?_
  refine j_sub [1, 2, 3, 0] rfl ?_
  exact t_X5_writePerson_34 C h
set_option maxRecDepth 20000 in
theorem t_X5_writePerson_16 {X : Mx} {w : Wt} {l0 : Launch} {Q0 : St → Prop} (C : Cx X w l0 cX5_writePerson 4 RX5 rm_X5_writePerson none) {x2 : Int32} {S : St} (h : p_X5_writePerson_16 Q0 x2 S) : J X w (QV X w Q0) 16 [(0, rr w 11), (1, rr w 2), (2, .int x2)] [] S := by
  refine j_aload_n C dX5_writePerson_16 1 rfl rfl ?_
  refine gf_RX5_38_2 C dX5_writePerson_17 ?_
  refine j_iload_n C dX5_writePerson_20 2 rfl rfl ?_
  refine al_4 C dX5_writePerson_21 (And.left h) ?_
  have h := And.right h
  refine j_iconst C dX5_writePerson_22 (v := 2) (by decide) ?_
  refine j_icmp_ne (tgt := 32) C dX5_writePerson_23 (by decide) (fun c2 => ?_) (fun c2 => ?_)
  · have h := And.left h c2
    exact t_X5_writePerson_32 C h
  · have h := And.right h c2
    refine j_aload_n C dX5_writePerson_26 0 rfl rfl ?_
    refine j_bipush C dX5_writePerson_27 (v := 33) (by decide) ?_
    refine j_callVv (st := []) C 11 [.int 33] (m_X5_put C.wok h) cv_RX5_24 rk_X5_writePerson_X5_put rfl (rc_11 w) rfl (Nat.le_of_ble_eq_true rfl) dX5_writePerson_29 (fun S9 h => ?_)
    exact t_X5_writePerson_32 C h
set_option maxRecDepth 20000 in
theorem m_X5_writePerson {l : Launch} {w : Wt} (hw : WOK w) {x2 : Int32} {S : St} {Q0 : St → Prop} (h : p_X5_writePerson x2 S Q0) : MV l w yX5_writePerson cX5_writePerson 4 rm_X5_writePerson [rr w 11, rr w 2, .int x2] S Q0 := by
  refine m_MV (own := RX5) (lv := [(0, rr w 11), (1, rr w 2), (2, .int x2)]) hw (by decide) rfl (Nat.le_of_ble_eq_true rfl) rfl (fun X C => ?_)
  refine j_aload_n C dX5_writePerson_0 1 rfl rfl ?_
  refine gf_RX5_38_2 C dX5_writePerson_1 ?_
  refine j_iload_n C dX5_writePerson_4 2 rfl rfl ?_
  refine al_4 C dX5_writePerson_5 (And.left h) ?_
  have h := And.right h
  refine j_iconst C dX5_writePerson_6 (v := 1) (by decide) ?_
  refine j_icmp_ne (tgt := 16) C dX5_writePerson_7 (by decide) (fun c1 => ?_) (fun c1 => ?_)
  · have h := And.left h c1
    exact t_X5_writePerson_16 C h
  · have h := And.right h c1
    refine j_aload_n C dX5_writePerson_10 0 rfl rfl ?_
    refine j_bipush C dX5_writePerson_11 (v := 42) (by decide) ?_
    refine j_callVv (st := []) C 11 [.int 42] (m_X5_put C.wok h) cv_RX5_24 rk_X5_writePerson_X5_put rfl (rc_11 w) rfl (Nat.le_of_ble_eq_true rfl) dX5_writePerson_13 (fun S10 h => ?_)
    exact t_X5_writePerson_16 C h
def rm_X5_write : Room := { frames := 3, cells := 0, slots := 0, locals := 66 }
theorem rk_X5_write_X5_put : roomOk rm_X5_put rm_X5_write 2 := ⟨⟨rfl, rfl⟩, Nat.le_of_ble_eq_true rfl, Nat.le_of_ble_eq_true rfl⟩
theorem rk_X5_write_X5_writePerson : roomOk rm_X5_writePerson rm_X5_write 4 := ⟨⟨rfl, rfl⟩, Nat.le_of_ble_eq_true rfl, Nat.le_of_ble_eq_true rfl⟩
set_option maxRecDepth 20000 in
theorem t_X5_write_77 {X : Mx} {w : Wt} {l0 : Launch} {Q0 : St → Prop} {K59 : Int32 × St → Prop} (C : Cx X w l0 cX5_write 3 RX5 rm_X5_write none) (hK59 : ∀ (x2 : Int32) (S : St), K59 (x2, S) → J X w (QV X w Q0) 59 [(0, rr w 11), (1, rr w 2), (2, .int x2)] [] S) {x2 : Int32} {S : St} (h : p_X5_write_77 Q0 K59 x2 S) : J X w (QV X w Q0) 77 [(0, rr w 11), (1, rr w 2), (2, .int x2)] [] S := by
  refine j_aload_n C dX5_write_77 0 rfl rfl ?_
  refine j_aload_n C dX5_write_78 1 rfl rfl ?_
  refine j_iload_n C dX5_write_79 2 rfl rfl ?_
  refine j_callVv (st := []) C 11 [rr w 2, .int x2] (m_X5_writePerson C.wok h) cv_RX5_34 rk_X5_write_X5_writePerson rfl (rc_11 w) rfl (Nat.le_of_ble_eq_true rfl) dX5_write_80 (fun S8 h => ?_)
  refine j_iinc (lv' := [(2, .int (x2 + 1)), (0, rr w 11), (1, rr w 2)]) C dX5_write_83 2 rfl rfl (by decide) rfl ?_
  refine j_goto (tgt := 59) C dX5_write_86 (by decide) ?_
  refine j_sub [1, 2, 0] rfl ?_
  exact hK59 _ _ h
set_option maxRecDepth 20000 in
theorem t_X5_write_59 {X : Mx} {w : Wt} {l0 : Launch} {Q0 : St → Prop} (C : Cx X w l0 cX5_write 3 RX5 rm_X5_write none) {x2 : Int32} {S : St} (h : Lq (p_X5_write_59 Q0) (x2, S)) : J X w (QV X w Q0) 59 [(0, rr w 11), (1, rr w 2), (2, .int x2)] [] S := by
  have key : ∀ a : Int32 × St, Lq (p_X5_write_59 Q0) a → J X w (QV X w Q0) 59 [(0, rr w 11), (1, rr w 2), (2, .int a.1)] [] a.2 := by
    intro a ha
    refine Lq_use (G := fun a => J X w (QV X w Q0) 59 [(0, rr w 11), (1, rr w 2), (2, .int a.1)] [] a.2) ?_ ha
    intro K59 hK a h
    obtain ⟨x2, S⟩ := a
    have hK59 : ∀ (x2 : Int32) (S : St), K59 (x2, S) → J X w (QV X w Q0) 59 [(0, rr w 11), (1, rr w 2), (2, .int x2)] [] S := fun x2 S h => hK (x2, S) h
    show J X w (QV X w Q0) 59 [(0, rr w 11), (1, rr w 2), (2, .int x2)] [] S
    refine j_iload_n C dX5_write_59 2 rfl rfl ?_
    refine j_aload_n C dX5_write_60 1 rfl rfl ?_
    refine gf_RX5_19_2 C dX5_write_61 ?_
    refine j_icmp_ge (tgt := 89) C dX5_write_64 (by decide) (fun c6 => ?_) (fun c6 => ?_)
    · have h := And.left h c6
      exact j_vret C dX5_write_89 h
    · have h := And.right h c6
      refine j_iload_n C dX5_write_67 2 rfl rfl ?_
      refine j_if_le (tgt := 77) C dX5_write_68 (by decide) (fun c7 => ?_) (fun c7 => ?_)
      · have h := And.left h c7
        exact t_X5_write_77 C hK59 h
      · have h := And.right h c7
        refine j_aload_n C dX5_write_71 0 rfl rfl ?_
        refine j_bipush C dX5_write_72 (v := 59) (by decide) ?_
        refine j_callVv (st := []) C 11 [.int 59] (m_X5_put C.wok h) cv_RX5_24 rk_X5_write_X5_put rfl (rc_11 w) rfl (Nat.le_of_ble_eq_true rfl) dX5_write_74 (fun S9 h => ?_)
        exact t_X5_write_77 C hK59 h
  exact key (x2, S) h
set_option maxRecDepth 20000 in
theorem t_X5_write_24 {X : Mx} {w : Wt} {l0 : Launch} {Q0 : St → Prop} (C : Cx X w l0 cX5_write 3 RX5 rm_X5_write none) {x2 : Int32} {S : St} (h : Lq (p_X5_write_24 Q0) (x2, S)) : J X w (QV X w Q0) 24 [(0, rr w 11), (1, rr w 2), (2, .int x2)] [] S := by
  have key : ∀ a : Int32 × St, Lq (p_X5_write_24 Q0) a → J X w (QV X w Q0) 24 [(0, rr w 11), (1, rr w 2), (2, .int a.1)] [] a.2 := by
    intro a ha
    refine Lq_use (G := fun a => J X w (QV X w Q0) 24 [(0, rr w 11), (1, rr w 2), (2, .int a.1)] [] a.2) ?_ ha
    intro K24 hK a h
    obtain ⟨x2, S⟩ := a
    have hK24 : ∀ (x2 : Int32) (S : St), K24 (x2, S) → J X w (QV X w Q0) 24 [(0, rr w 11), (1, rr w 2), (2, .int x2)] [] S := fun x2 S h => hK (x2, S) h
    show J X w (QV X w Q0) 24 [(0, rr w 11), (1, rr w 2), (2, .int x2)] [] S
    refine j_iload_n C dX5_write_24 2 rfl rfl ?_
    refine j_aload_n C dX5_write_25 1 rfl rfl ?_
    refine gf_RX5_28_2 C dX5_write_26 ?_
    refine j_icmp_ge (tgt := 51) C dX5_write_29 (by decide) (fun c4 => ?_) (fun c4 => ?_)
    · have h := And.left h c4
      refine j_aload_n C dX5_write_51 0 rfl rfl ?_
      refine j_bipush C dX5_write_52 (v := 58) (by decide) ?_
      refine j_callVv (st := []) C 11 [.int 58] (m_X5_put C.wok h) cv_RX5_24 rk_X5_write_X5_put rfl (rc_11 w) rfl (Nat.le_of_ble_eq_true rfl) dX5_write_54 (fun S5 h => ?_)
      refine j_iconst C dX5_write_57 (v := 0) (by decide) ?_
      refine j_istore_n (lv' := [(2, .int 0), (0, rr w 11), (1, rr w 2)]) C dX5_write_58 rfl (by decide) rfl ?_
      refine j_sub [1, 2, 0] rfl ?_
      exact t_X5_write_59 C h
    · have h := And.right h c4
      refine j_aload_n C dX5_write_32 0 rfl rfl ?_
      refine j_bipush C dX5_write_33 (v := 48) (by decide) ?_
      refine j_aload_n C dX5_write_35 1 rfl rfl ?_
      refine gf_RX5_31_2 C dX5_write_36 ?_
      refine j_iload_n C dX5_write_39 2 rfl rfl ?_
      refine al_3 C dX5_write_40 (And.left h) ?_
      have h := And.right h
      refine j_iadd C dX5_write_41 ?_
      refine j_callVv (st := []) C 11 [.int (48 + (S.1 3 x2.toNatClampNeg))] (m_X5_put C.wok h) cv_RX5_24 rk_X5_write_X5_put rfl (rc_11 w) rfl (Nat.le_of_ble_eq_true rfl) dX5_write_42 (fun S10 h => ?_)
      refine j_iinc (lv' := [(2, .int (x2 + 1)), (0, rr w 11), (1, rr w 2)]) C dX5_write_45 2 rfl rfl (by decide) rfl ?_
      refine j_goto (tgt := 24) C dX5_write_48 (by decide) ?_
      refine j_sub [1, 2, 0] rfl ?_
      exact hK24 _ _ h
  exact key (x2, S) h
set_option maxRecDepth 20000 in
theorem m_X5_write {l : Launch} {w : Wt} (hw : WOK w) {S : St} {Q0 : St → Prop} (h : p_X5_write S Q0) : MV l w yX5_write cX5_write 3 rm_X5_write [rr w 11, rr w 2] S Q0 := by
  refine m_MV (own := RX5) (lv := [(0, rr w 11), (1, rr w 2)]) hw (by decide) rfl (Nat.le_of_ble_eq_true rfl) rfl (fun X C => ?_)
  refine j_aload_n C dX5_write_0 0 rfl rfl ?_
  refine j_iconst C dX5_write_1 (v := 0) (by decide) ?_
  refine pf_RX5_15_11 C dX5_write_2 (fun S1 eS1 => ?_)
  have h := h S1 eS1
  refine j_aload_n C dX5_write_5 0 rfl rfl ?_
  refine j_bipush C dX5_write_6 (v := 48) (by decide) ?_
  refine j_aload_n C dX5_write_8 1 rfl rfl ?_
  refine gf_RX5_19_2 C dX5_write_9 ?_
  refine j_iadd C dX5_write_12 ?_
  refine j_callVv (st := []) C 11 [.int (48 + (S1.1 2 0))] (m_X5_put C.wok h) cv_RX5_24 rk_X5_write_X5_put rfl (rc_11 w) rfl (Nat.le_of_ble_eq_true rfl) dX5_write_13 (fun S2 h => ?_)
  refine j_aload_n C dX5_write_16 0 rfl rfl ?_
  refine j_bipush C dX5_write_17 (v := 58) (by decide) ?_
  refine j_callVv (st := []) C 11 [.int 58] (m_X5_put C.wok h) cv_RX5_24 rk_X5_write_X5_put rfl (rc_11 w) rfl (Nat.le_of_ble_eq_true rfl) dX5_write_19 (fun S3 h => ?_)
  refine j_iconst C dX5_write_22 (v := 0) (by decide) ?_
  refine j_istore_n (lv' := [(2, .int 0), (0, rr w 11), (1, rr w 2)]) C dX5_write_23 rfl (by decide) rfl ?_
  refine j_sub [1, 2, 0] rfl ?_
  exact t_X5_write_24 C h
def rm_X6_ink : Room := { frames := 4, cells := 0, slots := 0, locals := 88 }
theorem rk_X6_ink_X0_exists : roomOk rm_X0_exists rm_X6_ink 1 := ⟨⟨rfl, rfl⟩, Nat.le_of_ble_eq_true rfl, Nat.le_of_ble_eq_true rfl⟩
theorem rk_X6_ink_X5_write : roomOk rm_X5_write rm_X6_ink 3 := ⟨⟨rfl, rfl⟩, Nat.le_of_ble_eq_true rfl, Nat.le_of_ble_eq_true rfl⟩
set_option maxRecDepth 20000 in
theorem m_X6_ink {l : Launch} {w : Wt} (hw : WOK w) {x1 : Int32} {S : St} {Q0 : Int32 → St → Prop} (h : p_X6_ink x1 S Q0) : MI l w yX6_ink cX6_ink 2 .int rm_X6_ink [rr w 0, .int x1] S Q0 := by
  refine m_MI (own := RX6) (lv := [(0, rr w 0), (1, .int x1)]) hw (by decide) rfl (Nat.le_of_ble_eq_true rfl) rfl (fun X C => ?_)
  refine j_aload_n C dX6_ink_0 0 rfl rfl ?_
  refine gf_RX6_16_0 C dX6_ink_1 ?_
  refine j_callVi (st := []) C 2 [] (m_X0_exists C.wok h) cv_RX6_85 rk_X6_ink_X0_exists rfl (rc_2 w) rfl (Nat.le_of_ble_eq_true rfl) dX6_ink_4 (fun r2 S1 h => ?_)
  refine j_if_ne (tgt := 13) C dX6_ink_7 (by decide) (fun c3 => ?_) (fun c3 => ?_)
  · have h := And.left h c3
    refine j_iload_n C dX6_ink_13 1 rfl rfl ?_
    refine j_if_ge (tgt := 20) C dX6_ink_14 (by decide) (fun c4 => ?_) (fun c4 => ?_)
    · have h := And.left h c4
      refine j_aload_n C dX6_ink_20 0 rfl rfl ?_
      refine gf_RX6_30_0 C dX6_ink_21 ?_
      refine j_aload_n C dX6_ink_24 0 rfl rfl ?_
      refine gf_RX6_16_0 C dX6_ink_25 ?_
      refine j_callVv (st := []) C 11 [rr w 2] (m_X5_write C.wok h) cv_RX6_88 rk_X6_ink_X5_write rfl (rc_11 w) rfl (Nat.le_of_ble_eq_true rfl) dX6_ink_28 (fun S5 h => ?_)
      refine j_iload_n C dX6_ink_31 1 rfl rfl ?_
      refine j_aload_n C dX6_ink_32 0 rfl rfl ?_
      refine gf_RX6_30_0 C dX6_ink_33 ?_
      refine gf_RX6_91_11 C dX6_ink_36 ?_
      refine j_icmp_ge (tgt := 54) C dX6_ink_39 (by decide) (fun c6 => ?_) (fun c6 => ?_)
      · have h := And.left h c6
        refine j_iconst C dX6_ink_54 (v := (-1)) (by decide) ?_
        exact j_iret C dX6_ink_55 h
      · have h := And.right h c6
        refine j_aload_n C dX6_ink_42 0 rfl rfl ?_
        refine gf_RX6_30_0 C dX6_ink_43 ?_
        refine gf_RX6_94_11 C dX6_ink_46 ?_
        refine j_iload_n C dX6_ink_49 1 rfl rfl ?_
        refine al_12 C dX6_ink_50 (And.left h) ?_
        have h := And.right h
        refine j_goto (tgt := 55) C dX6_ink_51 (by decide) ?_
        exact j_iret C dX6_ink_55 h
    · have h := And.right h c4
      refine j_bipush C dX6_ink_17 (v := (-101)) (by decide) ?_
      exact j_iret C dX6_ink_19 h
  · have h := And.right h c3
    refine j_bipush C dX6_ink_10 (v := (-103)) (by decide) ?_
    exact j_iret C dX6_ink_12 h
def rm_X7_isCircle : Room := { frames := 0, cells := 0, slots := 0, locals := 0 }
set_option maxRecDepth 20000 in
theorem m_X7_isCircle {l : Launch} {w : Wt} (hw : WOK w) {S : St} {Q0 : Int32 → St → Prop} (h : p_X7_isCircle S Q0) : MI l w yX7_isCircle cX7_isCircle 1 .boolean rm_X7_isCircle [rr w 25] S Q0 := by
  refine m_MI (own := RX7) (lv := [(0, rr w 25)]) hw (by decide) rfl (Nat.le_of_ble_eq_true rfl) rfl (fun X C => ?_)
  refine j_aload_n C dX7_isCircle_0 0 rfl rfl ?_
  refine gf_RX7_111_25 C dX7_isCircle_1 ?_
  refine j_if_le (tgt := 11) C dX7_isCircle_4 (by decide) (fun c1 => ?_) (fun c1 => ?_)
  · have h := And.left h c1
    refine j_iconst C dX7_isCircle_11 (v := 0) (by decide) ?_
    exact j_zret C dX7_isCircle_12 ⟨bz0, h⟩
  · have h := And.right h c1
    refine j_iconst C dX7_isCircle_7 (v := 1) (by decide) ?_
    refine j_goto (tgt := 12) C dX7_isCircle_8 (by decide) ?_
    exact j_zret C dX7_isCircle_12 ⟨bz1, h⟩
def rm_X7_ink1 : Room := { frames := 0, cells := 0, slots := 0, locals := 0 }
set_option maxRecDepth 20000 in
theorem t_X7_ink1_20 {X : Mx} {w : Wt} {l0 : Launch} {Q0 : St → Prop} (C : Cx X w l0 cX7_ink1 2 RX7 rm_X7_ink1 none) {t0 : Int32} {S : St} (h : p_X7_ink1_20 Q0 t0 S) : J X w (QV X w Q0) 20 [(0, rr w 25)] [.int t0, rr w 25] S := by
  refine pf_RX7_126_25 C dX7_ink1_20 (fun S2 eS2 => ?_)
  have h := h S2 eS2
  refine j_aload_n C dX7_ink1_23 0 rfl rfl ?_
  refine j_dup C dX7_ink1_24 rfl ?_
  refine gf_RX7_120_25 C dX7_ink1_25 ?_
  refine j_iconst C dX7_ink1_28 (v := 1) (by decide) ?_
  refine j_iadd C dX7_ink1_29 ?_
  refine pf_RX7_120_25 C dX7_ink1_30 (fun S3 eS3 => ?_)
  have h := h S3 eS3
  exact j_vret C dX7_ink1_33 h
set_option maxRecDepth 20000 in
theorem m_X7_ink1 {l : Launch} {w : Wt} (hw : WOK w) {x1 : Int32} {S : St} {Q0 : St → Prop} (h : p_X7_ink1 x1 S Q0) : MV l w yX7_ink1 cX7_ink1 2 rm_X7_ink1 [rr w 25, .int x1] S Q0 := by
  refine m_MV (own := RX7) (lv := [(0, rr w 25), (1, .int x1)]) hw (by decide) rfl (Nat.le_of_ble_eq_true rfl) rfl (fun X C => ?_)
  refine j_aload_n C dX7_ink1_0 0 rfl rfl ?_
  refine j_aload_n C dX7_ink1_1 0 rfl rfl ?_
  refine gf_RX7_120_25 C dX7_ink1_2 ?_
  refine j_aload_n C dX7_ink1_5 0 rfl rfl ?_
  refine gf_RX7_123_25 C dX7_ink1_6 ?_
  refine j_icmp_ne (tgt := 16) C dX7_ink1_9 (by decide) (fun c1 => ?_) (fun c1 => ?_)
  · have h := And.left h c1
    refine j_aload_n C dX7_ink1_16 0 rfl rfl ?_
    refine gf_RX7_126_25 C dX7_ink1_17 ?_
    refine j_sub [0] rfl ?_
    exact t_X7_ink1_20 C h
  · have h := And.right h c1
    refine j_iload_n C dX7_ink1_12 1 rfl rfl ?_
    refine j_goto (tgt := 20) C dX7_ink1_13 (by decide) ?_
    refine j_sub [0] rfl ?_
    exact t_X7_ink1_20 C h
def rm_X7_has : Room := { frames := 0, cells := 0, slots := 0, locals := 0 }
set_option maxRecDepth 20000 in
theorem m_X7_has {l : Launch} {w : Wt} (hw : WOK w) {x0 : Int32} {x1 : Int32} {S : St} {Q0 : Int32 → St → Prop} (h : p_X7_has x0 x1 S Q0) : MI l w yX7_has cX7_has 2 .boolean rm_X7_has [.int x0, .int x1] S Q0 := by
  refine m_MI (own := RX7) (lv := [(0, .int x0), (1, .int x1)]) hw (by decide) rfl (Nat.le_of_ble_eq_true rfl) rfl (fun X C => ?_)
  refine j_iload_n C dX7_has_0 0 rfl rfl ?_
  refine j_iload_n C dX7_has_1 1 rfl rfl ?_
  refine j_ishr C dX7_has_2 ?_
  refine j_iconst C dX7_has_3 (v := 1) (by decide) ?_
  refine j_iand C dX7_has_4 ?_
  refine j_iconst C dX7_has_5 (v := 1) (by decide) ?_
  refine j_icmp_ne (tgt := 13) C dX7_has_6 (by decide) (fun c1 => ?_) (fun c1 => ?_)
  · have h := And.left h c1
    refine j_iconst C dX7_has_13 (v := 0) (by decide) ?_
    exact j_zret C dX7_has_14 ⟨bz0, h⟩
  · have h := And.right h c1
    refine j_iconst C dX7_has_9 (v := 1) (by decide) ?_
    refine j_goto (tgt := 14) C dX7_has_10 (by decide) ?_
    exact j_zret C dX7_has_14 ⟨bz1, h⟩
def rm_X7_inkPerson : Room := { frames := 1, cells := 0, slots := 0, locals := 21 }
theorem rk_X7_inkPerson_X7_has : roomOk rm_X7_has rm_X7_inkPerson 2 := ⟨⟨rfl, rfl⟩, Nat.le_of_ble_eq_true rfl, Nat.le_of_ble_eq_true rfl⟩
theorem rk_X7_inkPerson_X7_ink1 : roomOk rm_X7_ink1 rm_X7_inkPerson 2 := ⟨⟨rfl, rfl⟩, Nat.le_of_ble_eq_true rfl, Nat.le_of_ble_eq_true rfl⟩
set_option maxRecDepth 20000 in
theorem t_X7_inkPerson_77 {X : Mx} {w : Wt} {l0 : Launch} {Q0 : St → Prop} {K42 : Int32 × Int32 × St → Prop} (C : Cx X w l0 cX7_inkPerson 3 RX7 rm_X7_inkPerson none) (hK42 : ∀ (x1 : Int32) (x2 : Int32) (S : St), K42 (x1, x2, S) → J X w (QV X w Q0) 42 [(0, rr w 25), (1, .int x1), (2, .int x2)] [] S) {x1 : Int32} {x2 : Int32} {S : St} (h : p_X7_inkPerson_77 Q0 K42 x1 x2 S) : J X w (QV X w Q0) 77 [(0, rr w 25), (1, .int x1), (2, .int x2)] [] S := by
  refine j_iinc (lv' := [(2, .int (x2 + 1)), (0, rr w 25), (1, .int x1)]) C dX7_inkPerson_77 2 rfl rfl (by decide) rfl ?_
  refine j_goto (tgt := 42) C dX7_inkPerson_80 (by decide) ?_
  refine j_sub [1, 2, 0] rfl ?_
  exact hK42 _ _ _ h
set_option maxRecDepth 20000 in
theorem t_X7_inkPerson_42 {X : Mx} {w : Wt} {l0 : Launch} {Q0 : St → Prop} (C : Cx X w l0 cX7_inkPerson 3 RX7 rm_X7_inkPerson none) {x1 : Int32} {x2 : Int32} {S : St} (h : Lq (p_X7_inkPerson_42 Q0) (x1, x2, S)) : J X w (QV X w Q0) 42 [(0, rr w 25), (1, .int x1), (2, .int x2)] [] S := by
  have key : ∀ a : Int32 × Int32 × St, Lq (p_X7_inkPerson_42 Q0) a → J X w (QV X w Q0) 42 [(0, rr w 25), (1, .int a.1), (2, .int a.2.1)] [] a.2.2 := by
    intro a ha
    refine Lq_use (G := fun a => J X w (QV X w Q0) 42 [(0, rr w 25), (1, .int a.1), (2, .int a.2.1)] [] a.2.2) ?_ ha
    intro K42 hK a h
    obtain ⟨x1, x2, S⟩ := a
    have hK42 : ∀ (x1 : Int32) (x2 : Int32) (S : St), K42 (x1, x2, S) → J X w (QV X w Q0) 42 [(0, rr w 25), (1, .int x1), (2, .int x2)] [] S := fun x1 x2 S h => hK (x1, x2, S) h
    show J X w (QV X w Q0) 42 [(0, rr w 25), (1, .int x1), (2, .int x2)] [] S
    refine j_iload_n C dX7_inkPerson_42 2 rfl rfl ?_
    refine j_aload_n C dX7_inkPerson_43 0 rfl rfl ?_
    refine gf_RX7_111_25 C dX7_inkPerson_44 ?_
    refine j_icmp_ge (tgt := 83) C dX7_inkPerson_47 (by decide) (fun c3 => ?_) (fun c3 => ?_)
    · have h := And.left h c3
      exact j_vret C dX7_inkPerson_83 h
    · have h := And.right h c3
      refine j_aload_n C dX7_inkPerson_50 0 rfl rfl ?_
      refine gf_RX7_13_25 C dX7_inkPerson_51 ?_
      refine j_iload_n C dX7_inkPerson_54 1 rfl rfl ?_
      refine al_27 C dX7_inkPerson_55 (And.left h) ?_
      have h := And.right h
      refine j_iload_n C dX7_inkPerson_56 2 rfl rfl ?_
      refine j_callSi (st := []) C [.int (S.1 27 x1.toNatClampNeg), .int x2] (m_X7_has C.wok h) cv_RX7_132 rk_X7_inkPerson_X7_has rfl rfl (Nat.le_of_ble_eq_true rfl) dX7_inkPerson_57 (fun r5 S4 h => ?_)
      refine j_if_eq (tgt := 77) C dX7_inkPerson_60 (by decide) (fun c6 => ?_) (fun c6 => ?_)
      · have h := And.left h c6
        exact t_X7_inkPerson_77 C hK42 h
      · have h := And.right h c6
        refine j_aload_n C dX7_inkPerson_63 0 rfl rfl ?_
        refine j_bipush C dX7_inkPerson_64 (v := 62) (by decide) ?_
        refine j_callVv (st := []) C 25 [.int 62] (m_X7_ink1 C.wok h) cv_RX7_129 rk_X7_inkPerson_X7_ink1 rfl (rc_25 w) rfl (Nat.le_of_ble_eq_true rfl) dX7_inkPerson_66 (fun S7 h => ?_)
        refine j_aload_n C dX7_inkPerson_69 0 rfl rfl ?_
        refine j_bipush C dX7_inkPerson_70 (v := 48) (by decide) ?_
        refine j_iload_n C dX7_inkPerson_72 2 rfl rfl ?_
        refine j_iadd C dX7_inkPerson_73 ?_
        refine j_callVv (st := []) C 25 [.int (48 + x2)] (m_X7_ink1 C.wok h) cv_RX7_129 rk_X7_inkPerson_X7_ink1 rfl (rc_25 w) rfl (Nat.le_of_ble_eq_true rfl) dX7_inkPerson_74 (fun S8 h => ?_)
        exact t_X7_inkPerson_77 C hK42 h
  exact key (x1, x2, S) h
set_option maxRecDepth 20000 in
theorem t_X7_inkPerson_40 {X : Mx} {w : Wt} {l0 : Launch} {Q0 : St → Prop} (C : Cx X w l0 cX7_inkPerson 3 RX7 rm_X7_inkPerson none) {x1 : Int32} {S : St} (h : p_X7_inkPerson_40 Q0 x1 S) : J X w (QV X w Q0) 40 [(0, rr w 25), (1, .int x1)] [] S := by
  refine j_iconst C dX7_inkPerson_40 (v := 0) (by decide) ?_
  refine j_istore_n (lv' := [(2, .int 0), (0, rr w 25), (1, .int x1)]) C dX7_inkPerson_41 rfl (by decide) rfl ?_
  refine j_sub [1, 2, 0] rfl ?_
  exact t_X7_inkPerson_42 C h
set_option maxRecDepth 20000 in
theorem t_X7_inkPerson_37 {X : Mx} {w : Wt} {l0 : Launch} {Q0 : St → Prop} (C : Cx X w l0 cX7_inkPerson 3 RX7 rm_X7_inkPerson none) {x1 : Int32} {t0 : Int32} {S : St} (h : p_X7_inkPerson_37 Q0 x1 t0 S) : J X w (QV X w Q0) 37 [(0, rr w 25), (1, .int x1)] [.int t0, rr w 25] S := by
  refine j_callVv (st := []) C 25 [.int t0] (m_X7_ink1 C.wok h) cv_RX7_129 rk_X7_inkPerson_X7_ink1 rfl (rc_25 w) rfl (Nat.le_of_ble_eq_true rfl) dX7_inkPerson_37 (fun S10 h => ?_)
  exact t_X7_inkPerson_40 C h
set_option maxRecDepth 20000 in
theorem t_X7_inkPerson_10 {X : Mx} {w : Wt} {l0 : Launch} {Q0 : St → Prop} (C : Cx X w l0 cX7_inkPerson 3 RX7 rm_X7_inkPerson none) {x1 : Int32} {S : St} (h : p_X7_inkPerson_10 Q0 x1 S) : J X w (QV X w Q0) 10 [(0, rr w 25), (1, .int x1)] [] S := by
  refine j_aload_n C dX7_inkPerson_10 0 rfl rfl ?_
  refine gf_RX7_7_25 C dX7_inkPerson_11 ?_
  refine j_iload_n C dX7_inkPerson_14 1 rfl rfl ?_
  refine al_26 C dX7_inkPerson_15 (And.left h) ?_
  have h := And.right h
  refine j_if_le (tgt := 40) C dX7_inkPerson_16 (by decide) (fun c2 => ?_) (fun c2 => ?_)
  · have h := And.left h c2
    exact t_X7_inkPerson_40 C h
  · have h := And.right h c2
    refine j_aload_n C dX7_inkPerson_19 0 rfl rfl ?_
    refine j_aload_n C dX7_inkPerson_20 0 rfl rfl ?_
    refine gf_RX7_7_25 C dX7_inkPerson_21 ?_
    refine j_iload_n C dX7_inkPerson_24 1 rfl rfl ?_
    refine al_26 C dX7_inkPerson_25 (And.left h) ?_
    have h := And.right h
    refine j_iconst C dX7_inkPerson_26 (v := 1) (by decide) ?_
    refine j_icmp_ne (tgt := 35) C dX7_inkPerson_27 (by decide) (fun c9 => ?_) (fun c9 => ?_)
    · have h := And.left h c9
      refine j_bipush C dX7_inkPerson_35 (v := 33) (by decide) ?_
      exact t_X7_inkPerson_37 C h
    · have h := And.right h c9
      refine j_bipush C dX7_inkPerson_30 (v := 42) (by decide) ?_
      refine j_goto (tgt := 37) C dX7_inkPerson_32 (by decide) ?_
      exact t_X7_inkPerson_37 C h
set_option maxRecDepth 20000 in
theorem m_X7_inkPerson {l : Launch} {w : Wt} (hw : WOK w) {x1 : Int32} {S : St} {Q0 : St → Prop} (h : p_X7_inkPerson x1 S Q0) : MV l w yX7_inkPerson cX7_inkPerson 3 rm_X7_inkPerson [rr w 25, .int x1] S Q0 := by
  refine m_MV (own := RX7) (lv := [(0, rr w 25), (1, .int x1)]) hw (by decide) rfl (Nat.le_of_ble_eq_true rfl) rfl (fun X C => ?_)
  refine j_iload_n C dX7_inkPerson_0 1 rfl rfl ?_
  refine j_if_le (tgt := 10) C dX7_inkPerson_1 (by decide) (fun c1 => ?_) (fun c1 => ?_)
  · have h := And.left h c1
    exact t_X7_inkPerson_10 C h
  · have h := And.right h c1
    refine j_aload_n C dX7_inkPerson_4 0 rfl rfl ?_
    refine j_bipush C dX7_inkPerson_5 (v := 59) (by decide) ?_
    refine j_callVv (st := []) C 25 [.int 59] (m_X7_ink1 C.wok h) cv_RX7_129 rk_X7_inkPerson_X7_ink1 rfl (rc_25 w) rfl (Nat.le_of_ble_eq_true rfl) dX7_inkPerson_7 (fun S11 h => ?_)
    exact t_X7_inkPerson_10 C h
def rm_X7_inkNow : Room := { frames := 2, cells := 0, slots := 0, locals := 43 }
theorem rk_X7_inkNow_X7_ink1 : roomOk rm_X7_ink1 rm_X7_inkNow 2 := ⟨⟨rfl, rfl⟩, Nat.le_of_ble_eq_true rfl, Nat.le_of_ble_eq_true rfl⟩
theorem rk_X7_inkNow_X7_inkPerson : roomOk rm_X7_inkPerson rm_X7_inkNow 3 := ⟨⟨rfl, rfl⟩, Nat.le_of_ble_eq_true rfl, Nat.le_of_ble_eq_true rfl⟩
set_option maxRecDepth 20000 in
theorem t_X7_inkNow_69 {X : Mx} {w : Wt} {l0 : Launch} {Q0 : Int32 → St → Prop} (C : Cx X w l0 cX7_inkNow 3 RX7 rm_X7_inkNow (some .int)) {x2 : Int32} {S : St} (h : Lq (p_X7_inkNow_69 Q0) (x2, S)) : J X w (QI X w Q0) 69 [(0, rr w 25), (2, .int x2)] [] S := by
  have key : ∀ a : Int32 × St, Lq (p_X7_inkNow_69 Q0) a → J X w (QI X w Q0) 69 [(0, rr w 25), (2, .int a.1)] [] a.2 := by
    intro a ha
    refine Lq_use (G := fun a => J X w (QI X w Q0) 69 [(0, rr w 25), (2, .int a.1)] [] a.2) ?_ ha
    intro K69 hK a h
    obtain ⟨x2, S⟩ := a
    have hK69 : ∀ (x2 : Int32) (S : St), K69 (x2, S) → J X w (QI X w Q0) 69 [(0, rr w 25), (2, .int x2)] [] S := fun x2 S h => hK (x2, S) h
    show J X w (QI X w Q0) 69 [(0, rr w 25), (2, .int x2)] [] S
    refine j_iload_n C dX7_inkNow_69 1 rfl rfl ?_
    refine j_aload_n C dX7_inkNow_70 0 rfl rfl ?_
    refine gf_RX7_111_25 C dX7_inkNow_71 ?_
    refine j_icmp_ge (tgt := 88) C dX7_inkNow_74 (by decide) (fun c8 => ?_) (fun c8 => ?_)
    · have h := And.left h c8
      refine j_aload_n C dX7_inkNow_88 0 rfl rfl ?_
      refine gf_RX7_126_25 C dX7_inkNow_89 ?_
      exact j_iret C dX7_inkNow_92 h
    · have h := And.right h c8
      refine j_aload_n C dX7_inkNow_77 0 rfl rfl ?_
      refine j_iload_n C dX7_inkNow_78 1 rfl rfl ?_
      refine j_callVv (st := []) C 25 [.int x2] (m_X7_inkPerson C.wok h) cv_RX7_136 rk_X7_inkNow_X7_inkPerson rfl (rc_25 w) rfl (Nat.le_of_ble_eq_true rfl) dX7_inkNow_79 (fun S9 h => ?_)
      refine j_iinc (lv' := [(2, .int (x2 + 1)), (0, rr w 25)]) C dX7_inkNow_82 1 rfl rfl (by decide) rfl ?_
      refine j_goto (tgt := 69) C dX7_inkNow_85 (by decide) ?_
      refine j_sub [1, 0] rfl ?_
      exact hK69 _ _ h
  exact key (x2, S) h
set_option maxRecDepth 20000 in
theorem t_X7_inkNow_34 {X : Mx} {w : Wt} {l0 : Launch} {Q0 : Int32 → St → Prop} (C : Cx X w l0 cX7_inkNow 3 RX7 rm_X7_inkNow (some .int)) {x2 : Int32} {S : St} (h : Lq (p_X7_inkNow_34 Q0) (x2, S)) : J X w (QI X w Q0) 34 [(0, rr w 25), (2, .int x2)] [] S := by
  have key : ∀ a : Int32 × St, Lq (p_X7_inkNow_34 Q0) a → J X w (QI X w Q0) 34 [(0, rr w 25), (2, .int a.1)] [] a.2 := by
    intro a ha
    refine Lq_use (G := fun a => J X w (QI X w Q0) 34 [(0, rr w 25), (2, .int a.1)] [] a.2) ?_ ha
    intro K34 hK a h
    obtain ⟨x2, S⟩ := a
    have hK34 : ∀ (x2 : Int32) (S : St), K34 (x2, S) → J X w (QI X w Q0) 34 [(0, rr w 25), (2, .int x2)] [] S := fun x2 S h => hK (x2, S) h
    show J X w (QI X w Q0) 34 [(0, rr w 25), (2, .int x2)] [] S
    refine j_iload_n C dX7_inkNow_34 1 rfl rfl ?_
    refine j_aload_n C dX7_inkNow_35 0 rfl rfl ?_
    refine gf_RX7_114_25 C dX7_inkNow_36 ?_
    refine j_icmp_ge (tgt := 61) C dX7_inkNow_39 (by decide) (fun c6 => ?_) (fun c6 => ?_)
    · have h := And.left h c6
      refine j_aload_n C dX7_inkNow_61 0 rfl rfl ?_
      refine j_bipush C dX7_inkNow_62 (v := 58) (by decide) ?_
      refine j_callVv (st := []) C 25 [.int 58] (m_X7_ink1 C.wok h) cv_RX7_129 rk_X7_inkNow_X7_ink1 rfl (rc_25 w) rfl (Nat.le_of_ble_eq_true rfl) dX7_inkNow_64 (fun S7 h => ?_)
      refine j_iconst C dX7_inkNow_67 (v := 0) (by decide) ?_
      refine j_istore_n (lv' := [(2, .int 0), (0, rr w 25)]) C dX7_inkNow_68 rfl (by decide) rfl ?_
      refine j_sub [1, 0] rfl ?_
      exact t_X7_inkNow_69 C h
    · have h := And.right h c6
      refine j_aload_n C dX7_inkNow_42 0 rfl rfl ?_
      refine j_bipush C dX7_inkNow_43 (v := 48) (by decide) ?_
      refine j_aload_n C dX7_inkNow_45 0 rfl rfl ?_
      refine gf_RX7_16_25 C dX7_inkNow_46 ?_
      refine j_iload_n C dX7_inkNow_49 1 rfl rfl ?_
      refine al_28 C dX7_inkNow_50 (And.left h) ?_
      have h := And.right h
      refine j_iadd C dX7_inkNow_51 ?_
      refine j_callVv (st := []) C 25 [.int (48 + (S.1 28 x2.toNatClampNeg))] (m_X7_ink1 C.wok h) cv_RX7_129 rk_X7_inkNow_X7_ink1 rfl (rc_25 w) rfl (Nat.le_of_ble_eq_true rfl) dX7_inkNow_52 (fun S10 h => ?_)
      refine j_iinc (lv' := [(2, .int (x2 + 1)), (0, rr w 25)]) C dX7_inkNow_55 1 rfl rfl (by decide) rfl ?_
      refine j_goto (tgt := 34) C dX7_inkNow_58 (by decide) ?_
      refine j_sub [1, 0] rfl ?_
      exact hK34 _ _ h
  exact key (x2, S) h
set_option maxRecDepth 20000 in
theorem m_X7_inkNow {l : Launch} {w : Wt} (hw : WOK w) {x1 : Int32} {S : St} {Q0 : Int32 → St → Prop} (h : p_X7_inkNow x1 S Q0) : MI l w yX7_inkNow cX7_inkNow 3 .int rm_X7_inkNow [rr w 25, .int x1] S Q0 := by
  refine m_MI (own := RX7) (lv := [(0, rr w 25), (1, .int x1)]) hw (by decide) rfl (Nat.le_of_ble_eq_true rfl) rfl (fun X C => ?_)
  refine j_aload_n C dX7_inkNow_0 0 rfl rfl ?_
  refine j_iload_n C dX7_inkNow_1 1 rfl rfl ?_
  refine pf_RX7_123_25 C dX7_inkNow_2 (fun S1 eS1 => ?_)
  have h := h S1 eS1
  refine j_aload_n C dX7_inkNow_5 0 rfl rfl ?_
  refine j_iconst C dX7_inkNow_6 (v := 0) (by decide) ?_
  refine pf_RX7_120_25 C dX7_inkNow_7 (fun S2 eS2 => ?_)
  have h := h S2 eS2
  refine j_aload_n C dX7_inkNow_10 0 rfl rfl ?_
  refine j_iconst C dX7_inkNow_11 (v := (-1)) (by decide) ?_
  refine pf_RX7_126_25 C dX7_inkNow_12 (fun S3 eS3 => ?_)
  have h := h S3 eS3
  refine j_aload_n C dX7_inkNow_15 0 rfl rfl ?_
  refine j_bipush C dX7_inkNow_16 (v := 48) (by decide) ?_
  refine j_aload_n C dX7_inkNow_18 0 rfl rfl ?_
  refine gf_RX7_111_25 C dX7_inkNow_19 ?_
  refine j_iadd C dX7_inkNow_22 ?_
  refine j_callVv (st := []) C 25 [.int (48 + (S3.1 25 0))] (m_X7_ink1 C.wok h) cv_RX7_129 rk_X7_inkNow_X7_ink1 rfl (rc_25 w) rfl (Nat.le_of_ble_eq_true rfl) dX7_inkNow_23 (fun S4 h => ?_)
  refine j_aload_n C dX7_inkNow_26 0 rfl rfl ?_
  refine j_bipush C dX7_inkNow_27 (v := 58) (by decide) ?_
  refine j_callVv (st := []) C 25 [.int 58] (m_X7_ink1 C.wok h) cv_RX7_129 rk_X7_inkNow_X7_ink1 rfl (rc_25 w) rfl (Nat.le_of_ble_eq_true rfl) dX7_inkNow_29 (fun S5 h => ?_)
  refine j_iconst C dX7_inkNow_32 (v := 0) (by decide) ?_
  refine j_istore_n (lv' := [(2, .int 0), (0, rr w 25), (1, .int x1)]) C dX7_inkNow_33 rfl (by decide) rfl ?_
  refine j_sub [1, 0] rfl ?_
  exact t_X7_inkNow_34 C h
def rm_X7_ink : Room := { frames := 3, cells := 0, slots := 0, locals := 65 }
theorem rk_X7_ink_X7_inkNow : roomOk rm_X7_inkNow rm_X7_ink 3 := ⟨⟨rfl, rfl⟩, Nat.le_of_ble_eq_true rfl, Nat.le_of_ble_eq_true rfl⟩
theorem rk_X7_ink_X7_isCircle : roomOk rm_X7_isCircle rm_X7_ink 1 := ⟨⟨rfl, rfl⟩, Nat.le_of_ble_eq_true rfl, Nat.le_of_ble_eq_true rfl⟩
set_option maxRecDepth 20000 in
theorem m_X7_ink {l : Launch} {w : Wt} (hw : WOK w) {x1 : Int32} {S : St} {Q0 : Int32 → St → Prop} (h : p_X7_ink x1 S Q0) : MI l w yX7_ink cX7_ink 2 .int rm_X7_ink [rr w 25, .int x1] S Q0 := by
  refine m_MI (own := RX7) (lv := [(0, rr w 25), (1, .int x1)]) hw (by decide) rfl (Nat.le_of_ble_eq_true rfl) rfl (fun X C => ?_)
  refine j_aload_n C dX7_ink_0 0 rfl rfl ?_
  refine j_callVi (st := []) C 25 [] (m_X7_isCircle C.wok h) cv_RX7_139 rk_X7_ink_X7_isCircle rfl (rc_25 w) rfl (Nat.le_of_ble_eq_true rfl) dX7_ink_1 (fun r2 S1 h => ?_)
  refine j_if_ne (tgt := 10) C dX7_ink_4 (by decide) (fun c3 => ?_) (fun c3 => ?_)
  · have h := And.left h c3
    refine j_iload_n C dX7_ink_10 1 rfl rfl ?_
    refine j_if_ge (tgt := 19) C dX7_ink_11 (by decide) (fun c4 => ?_) (fun c4 => ?_)
    · have h := And.left h c4
      refine j_aload_n C dX7_ink_19 0 rfl rfl ?_
      refine j_iload_n C dX7_ink_20 1 rfl rfl ?_
      refine j_callVi (st := []) C 25 [.int x1] (m_X7_inkNow C.wok h) cv_RX7_142 rk_X7_ink_X7_inkNow rfl (rc_25 w) rfl (Nat.le_of_ble_eq_true rfl) dX7_ink_21 (fun r6 S5 h => ?_)
      exact j_iret C dX7_ink_24 h
    · have h := And.right h c4
      refine j_bipush C dX7_ink_14 (v := (-101)) (by decide) ?_
      refine j_goto (tgt := 24) C dX7_ink_16 (by decide) ?_
      exact j_iret C dX7_ink_24 h
  · have h := And.right h c3
    refine j_bipush C dX7_ink_7 (v := (-103)) (by decide) ?_
    exact j_iret C dX7_ink_9 h
def rm_X0_has : Room := { frames := 0, cells := 0, slots := 0, locals := 0 }
set_option maxRecDepth 20000 in
theorem m_X0_has {l : Launch} {w : Wt} (hw : WOK w) {x1 : Int32} {S : St} {Q0 : Int32 → St → Prop} (h : p_X0_has x1 S Q0) : MI l w yX0_has cX0_has 2 .boolean rm_X0_has [rr w 2, .int x1] S Q0 := by
  refine m_MI (own := RX0) (lv := [(0, rr w 2), (1, .int x1)]) hw (by decide) rfl (Nat.le_of_ble_eq_true rfl) rfl (fun X C => ?_)
  refine j_iload_n C dX0_has_0 1 rfl rfl ?_
  refine j_if_lt (tgt := 16) C dX0_has_1 (by decide) (fun c1 => ?_) (fun c1 => ?_)
  · have h := And.left h c1
    refine j_iconst C dX0_has_16 (v := 0) (by decide) ?_
    exact j_zret C dX0_has_17 ⟨bz0, h⟩
  · have h := And.right h c1
    refine j_iload_n C dX0_has_4 1 rfl rfl ?_
    refine j_aload_n C dX0_has_5 0 rfl rfl ?_
    refine gf_RX0_21_2 C dX0_has_6 ?_
    refine j_icmp_ge (tgt := 16) C dX0_has_9 (by decide) (fun c2 => ?_) (fun c2 => ?_)
    · have h := And.left h c2
      refine j_iconst C dX0_has_16 (v := 0) (by decide) ?_
      exact j_zret C dX0_has_17 ⟨bz0, h⟩
    · have h := And.right h c2
      refine j_iconst C dX0_has_12 (v := 1) (by decide) ?_
      refine j_goto (tgt := 17) C dX0_has_13 (by decide) ?_
      exact j_zret C dX0_has_17 ⟨bz1, h⟩
def rm_X6_isKind : Room := { frames := 0, cells := 0, slots := 0, locals := 0 }
set_option maxRecDepth 20000 in
theorem m_X6_isKind {l : Launch} {w : Wt} (hw : WOK w) {x0 : Int32} {S : St} {Q0 : Int32 → St → Prop} (h : p_X6_isKind x0 S Q0) : MI l w yX6_isKind cX6_isKind 1 .boolean rm_X6_isKind [.int x0] S Q0 := by
  refine m_MI (own := RX6) (lv := [(0, .int x0)]) hw (by decide) rfl (Nat.le_of_ble_eq_true rfl) rfl (fun X C => ?_)
  refine j_iload_n C dX6_isKind_0 0 rfl rfl ?_
  refine j_if_lt (tgt := 13) C dX6_isKind_1 (by decide) (fun c1 => ?_) (fun c1 => ?_)
  · have h := And.left h c1
    refine j_iconst C dX6_isKind_13 (v := 0) (by decide) ?_
    exact j_zret C dX6_isKind_14 ⟨bz0, h⟩
  · have h := And.right h c1
    refine j_iload_n C dX6_isKind_4 0 rfl rfl ?_
    refine j_iconst C dX6_isKind_5 (v := 2) (by decide) ?_
    refine j_icmp_gt (tgt := 13) C dX6_isKind_6 (by decide) (fun c2 => ?_) (fun c2 => ?_)
    · have h := And.left h c2
      refine j_iconst C dX6_isKind_13 (v := 0) (by decide) ?_
      exact j_zret C dX6_isKind_14 ⟨bz0, h⟩
    · have h := And.right h c2
      refine j_iconst C dX6_isKind_9 (v := 1) (by decide) ?_
      refine j_goto (tgt := 14) C dX6_isKind_10 (by decide) ?_
      exact j_zret C dX6_isKind_14 ⟨bz1, h⟩
def rm_X0_ofKind : Room := { frames := 0, cells := 0, slots := 0, locals := 0 }
set_option maxRecDepth 20000 in
theorem t_X0_ofKind_28 {X : Mx} {w : Wt} {l0 : Launch} {Q0 : Int32 → St → Prop} {K4 : Int32 × Int32 × Int32 × St → Prop} (C : Cx X w l0 cX0_ofKind 4 RX0 rm_X0_ofKind (some .int)) (hK4 : ∀ (x1 : Int32) (x2 : Int32) (x3 : Int32) (S : St), K4 (x1, x2, x3, S) → J X w (QI X w Q0) 4 [(0, rr w 2), (1, .int x1), (2, .int x2), (3, .int x3)] [] S) {x1 : Int32} {x2 : Int32} {x3 : Int32} {S : St} (h : p_X0_ofKind_28 Q0 K4 x1 x2 x3 S) : J X w (QI X w Q0) 28 [(0, rr w 2), (1, .int x1), (2, .int x2), (3, .int x3)] [] S := by
  refine j_iinc (lv' := [(3, .int (x3 + 1)), (0, rr w 2), (1, .int x1), (2, .int x2)]) C dX0_ofKind_28 3 rfl rfl (by decide) rfl ?_
  refine j_goto (tgt := 4) C dX0_ofKind_31 (by decide) ?_
  refine j_sub [1, 2, 3, 0] rfl ?_
  exact hK4 _ _ _ _ h
set_option maxRecDepth 20000 in
theorem t_X0_ofKind_4 {X : Mx} {w : Wt} {l0 : Launch} {Q0 : Int32 → St → Prop} (C : Cx X w l0 cX0_ofKind 4 RX0 rm_X0_ofKind (some .int)) {x1 : Int32} {x2 : Int32} {x3 : Int32} {S : St} (h : Lq (p_X0_ofKind_4 Q0) (x1, x2, x3, S)) : J X w (QI X w Q0) 4 [(0, rr w 2), (1, .int x1), (2, .int x2), (3, .int x3)] [] S := by
  have key : ∀ a : Int32 × Int32 × Int32 × St, Lq (p_X0_ofKind_4 Q0) a → J X w (QI X w Q0) 4 [(0, rr w 2), (1, .int a.1), (2, .int a.2.1), (3, .int a.2.2.1)] [] a.2.2.2 := by
    intro a ha
    refine Lq_use (G := fun a => J X w (QI X w Q0) 4 [(0, rr w 2), (1, .int a.1), (2, .int a.2.1), (3, .int a.2.2.1)] [] a.2.2.2) ?_ ha
    intro K4 hK a h
    obtain ⟨x1, x2, x3, S⟩ := a
    have hK4 : ∀ (x1 : Int32) (x2 : Int32) (x3 : Int32) (S : St), K4 (x1, x2, x3, S) → J X w (QI X w Q0) 4 [(0, rr w 2), (1, .int x1), (2, .int x2), (3, .int x3)] [] S := fun x1 x2 x3 S h => hK (x1, x2, x3, S) h
    show J X w (QI X w Q0) 4 [(0, rr w 2), (1, .int x1), (2, .int x2), (3, .int x3)] [] S
    refine j_iload_n C dX0_ofKind_4 3 rfl rfl ?_
    refine j_aload_n C dX0_ofKind_5 0 rfl rfl ?_
    refine gf_RX0_21_2 C dX0_ofKind_6 ?_
    refine j_icmp_ge (tgt := 34) C dX0_ofKind_9 (by decide) (fun c1 => ?_) (fun c1 => ?_)
    · have h := And.left h c1
      refine j_iload_n C dX0_ofKind_34 2 rfl rfl ?_
      exact j_iret C dX0_ofKind_35 h
    · have h := And.right h c1
      refine j_aload_n C dX0_ofKind_12 0 rfl rfl ?_
      refine gf_RX0_15_2 C dX0_ofKind_13 ?_
      refine j_iload_n C dX0_ofKind_16 3 rfl rfl ?_
      refine al_4 C dX0_ofKind_17 (And.left h) ?_
      have h := And.right h
      refine j_iload_n C dX0_ofKind_18 1 rfl rfl ?_
      refine j_icmp_ne (tgt := 28) C dX0_ofKind_19 (by decide) (fun c2 => ?_) (fun c2 => ?_)
      · have h := And.left h c2
        exact t_X0_ofKind_28 C hK4 h
      · have h := And.right h c2
        refine j_iload_n C dX0_ofKind_22 2 rfl rfl ?_
        refine j_iconst C dX0_ofKind_23 (v := 1) (by decide) ?_
        refine j_iload_n C dX0_ofKind_24 3 rfl rfl ?_
        refine j_ishl C dX0_ofKind_25 ?_
        refine j_ior C dX0_ofKind_26 ?_
        refine j_istore_n (lv' := [(2, .int (x2 ||| (1 <<< (x3 &&& 31)))), (0, rr w 2), (1, .int x1), (3, .int x3)]) C dX0_ofKind_27 rfl (by decide) rfl ?_
        refine j_sub [1, 2, 0, 3] rfl ?_
        exact t_X0_ofKind_28 C hK4 h
  exact key (x1, x2, x3, S) h
set_option maxRecDepth 20000 in
theorem m_X0_ofKind {l : Launch} {w : Wt} (hw : WOK w) {x1 : Int32} {S : St} {Q0 : Int32 → St → Prop} (h : p_X0_ofKind x1 S Q0) : MI l w yX0_ofKind cX0_ofKind 4 .int rm_X0_ofKind [rr w 2, .int x1] S Q0 := by
  refine m_MI (own := RX0) (lv := [(0, rr w 2), (1, .int x1)]) hw (by decide) rfl (Nat.le_of_ble_eq_true rfl) rfl (fun X C => ?_)
  refine j_iconst C dX0_ofKind_0 (v := 0) (by decide) ?_
  refine j_istore_n (lv' := [(2, .int 0), (0, rr w 2), (1, .int x1)]) C dX0_ofKind_1 rfl (by decide) rfl ?_
  refine j_iconst C dX0_ofKind_2 (v := 0) (by decide) ?_
  refine j_istore_n (lv' := [(3, .int 0), (2, .int 0), (0, rr w 2), (1, .int x1)]) C dX0_ofKind_3 rfl (by decide) rfl ?_
  refine j_sub [2, 3, 1, 0] rfl ?_
  exact t_X0_ofKind_4 C h
def rm_X6_kind : Room := { frames := 1, cells := 0, slots := 0, locals := 23 }
theorem rk_X6_kind_J6_bitCount_0f7a4 : roomOk rm_J6_bitCount_0f7a4 rm_X6_kind 1 := ⟨⟨rfl, rfl⟩, Nat.le_of_ble_eq_true rfl, Nat.le_of_ble_eq_true rfl⟩
theorem rk_X6_kind_X0_has : roomOk rm_X0_has rm_X6_kind 2 := ⟨⟨rfl, rfl⟩, Nat.le_of_ble_eq_true rfl, Nat.le_of_ble_eq_true rfl⟩
theorem rk_X6_kind_X0_ofKind : roomOk rm_X0_ofKind rm_X6_kind 4 := ⟨⟨rfl, rfl⟩, Nat.le_of_ble_eq_true rfl, Nat.le_of_ble_eq_true rfl⟩
theorem rk_X6_kind_X6_isKind : roomOk rm_X6_isKind rm_X6_kind 1 := ⟨⟨rfl, rfl⟩, Nat.le_of_ble_eq_true rfl, Nat.le_of_ble_eq_true rfl⟩
set_option maxRecDepth 20000 in
theorem t_X6_kind_62 {X : Mx} {w : Wt} {l0 : Launch} {Q0 : Int32 → St → Prop} (C : Cx X w l0 cX6_kind 4 RX6 rm_X6_kind (some .int)) {x1 : Int32} {x2 : Int32} {x3 : Int32} {S : St} (h : p_X6_kind_62 Q0 x1 x2 x3 S) : J X w (QI X w Q0) 62 [(0, rr w 0), (1, .int x1), (2, .int x2), (3, .int x3)] [] S := by
  refine j_aload_n C dX6_kind_62 0 rfl rfl ?_
  refine gf_RX6_16_0 C dX6_kind_63 ?_
  refine gf_RX6_103_2 C dX6_kind_66 ?_
  refine j_iload_n C dX6_kind_69 1 rfl rfl ?_
  refine j_iload_n C dX6_kind_70 2 rfl rfl ?_
  refine as_4 C dX6_kind_71 (And.left h) (fun S8 eS8 => ?_)
  have h := And.right h S8 eS8
  refine j_iload_n C dX6_kind_72 3 rfl rfl ?_
  exact j_iret C dX6_kind_73 h
set_option maxRecDepth 20000 in
theorem m_X6_kind {l : Launch} {w : Wt} (hw : WOK w) {x1 : Int32} {x2 : Int32} {S : St} {Q0 : Int32 → St → Prop} (h : p_X6_kind x1 x2 S Q0) : MI l w yX6_kind cX6_kind 4 .int rm_X6_kind [rr w 0, .int x1, .int x2] S Q0 := by
  refine m_MI (own := RX6) (lv := [(0, rr w 0), (1, .int x1), (2, .int x2)]) hw (by decide) rfl (Nat.le_of_ble_eq_true rfl) rfl (fun X C => ?_)
  refine j_aload_n C dX6_kind_0 0 rfl rfl ?_
  refine gf_RX6_16_0 C dX6_kind_1 ?_
  refine j_iload_n C dX6_kind_4 1 rfl rfl ?_
  refine j_callVi (st := []) C 2 [.int x1] (m_X0_has C.wok h) cv_RX6_97 rk_X6_kind_X0_has rfl (rc_2 w) rfl (Nat.le_of_ble_eq_true rfl) dX6_kind_5 (fun r2 S1 h => ?_)
  refine j_if_ne (tgt := 14) C dX6_kind_8 (by decide) (fun c3 => ?_) (fun c3 => ?_)
  · have h := And.left h c3
    refine j_iload_n C dX6_kind_14 2 rfl rfl ?_
    refine j_callSi (st := []) C [.int x2] (m_X6_isKind C.wok h) cv_RX6_100 rk_X6_kind_X6_isKind rfl rfl (Nat.le_of_ble_eq_true rfl) dX6_kind_15 (fun r5 S4 h => ?_)
    refine j_if_ne (tgt := 24) C dX6_kind_18 (by decide) (fun c6 => ?_) (fun c6 => ?_)
    · have h := And.left h c6
      refine j_aload_n C dX6_kind_24 0 rfl rfl ?_
      refine gf_RX6_16_0 C dX6_kind_25 ?_
      refine gf_RX6_103_2 C dX6_kind_28 ?_
      refine j_iload_n C dX6_kind_31 1 rfl rfl ?_
      refine al_4 C dX6_kind_32 (And.left h) ?_
      have h := And.right h
      refine j_istore_n (lv' := [(3, .int (S4.1 4 x1.toNatClampNeg)), (0, rr w 0), (1, .int x1), (2, .int x2)]) C dX6_kind_33 rfl (by decide) rfl ?_
      refine j_iload_n C dX6_kind_34 3 rfl rfl ?_
      refine j_iconst C dX6_kind_35 (v := 1) (by decide) ?_
      refine j_icmp_ne (tgt := 62) C dX6_kind_36 (by decide) (fun c7 => ?_) (fun c7 => ?_)
      · have h := And.left h c7
        refine j_sub [1, 2, 3, 0] rfl ?_
        exact t_X6_kind_62 C h
      · have h := And.right h c7
        refine j_iload_n C dX6_kind_39 0 rfl rfl ?_
        refine j_iconst C dX6_kind_40 (v := 1) (by decide) ?_
        refine j_icmp_eq (tgt := 62) C dX6_kind_41 (by decide) (fun c9 => ?_) (fun c9 => ?_)
        · have h := And.left h c9
          refine j_sub [1, 2, 3, 0] rfl ?_
          exact t_X6_kind_62 C h
        · have h := And.right h c9
          refine j_aload_n C dX6_kind_44 1 rfl rfl ?_
          refine gf_RX6_16_0 C dX6_kind_45 ?_
          refine j_iconst C dX6_kind_48 (v := 1) (by decide) ?_
          refine j_callVi (st := []) C 2 [.int 1] (m_X0_ofKind C.wok h) cv_RX6_106 rk_X6_kind_X0_ofKind rfl (rc_2 w) rfl (Nat.le_of_ble_eq_true rfl) dX6_kind_49 (fun r11 S10 h => ?_)
          refine j_callSi (st := []) C [.int r11] (m_J6_bitCount_0f7a4 C.wok h) cv_RX6_110 rk_X6_kind_J6_bitCount_0f7a4 rfl rfl (Nat.le_of_ble_eq_true rfl) dX6_kind_52 (fun r13 S12 h => ?_)
          refine j_iconst C dX6_kind_55 (v := 5) (by decide) ?_
          refine j_icmp_lt (tgt := 62) C dX6_kind_56 (by decide) (fun c14 => ?_) (fun c14 => ?_)
          · have h := And.left h c14
            refine j_sub [1, 2, 3, 0] rfl ?_
            exact t_X6_kind_62 C h
          · have h := And.right h c14
            refine j_bipush C dX6_kind_59 (v := (-104)) (by decide) ?_
            exact j_iret C dX6_kind_61 h
    · have h := And.right h c6
      refine j_bipush C dX6_kind_21 (v := (-102)) (by decide) ?_
      exact j_iret C dX6_kind_23 h
  · have h := And.right h c3
    refine j_bipush C dX6_kind_11 (v := (-101)) (by decide) ?_
    exact j_iret C dX6_kind_13 h
def rm_X7_isPerson : Room := { frames := 1, cells := 0, slots := 0, locals := 22 }
theorem rk_X7_isPerson_X7_within : roomOk rm_X7_within rm_X7_isPerson 3 := ⟨⟨rfl, rfl⟩, Nat.le_of_ble_eq_true rfl, Nat.le_of_ble_eq_true rfl⟩
set_option maxRecDepth 20000 in
theorem m_X7_isPerson {l : Launch} {w : Wt} (hw : WOK w) {x1 : Int32} {S : St} {Q0 : Int32 → St → Prop} (h : p_X7_isPerson x1 S Q0) : MI l w yX7_isPerson cX7_isPerson 2 .boolean rm_X7_isPerson [rr w 25, .int x1] S Q0 := by
  refine m_MI (own := RX7) (lv := [(0, rr w 25), (1, .int x1)]) hw (by decide) rfl (Nat.le_of_ble_eq_true rfl) rfl (fun X C => ?_)
  refine j_iload_n C dX7_isPerson_0 1 rfl rfl ?_
  refine j_iconst C dX7_isPerson_1 (v := 0) (by decide) ?_
  refine j_aload_n C dX7_isPerson_2 0 rfl rfl ?_
  refine gf_RX7_111_25 C dX7_isPerson_3 ?_
  refine j_iconst C dX7_isPerson_6 (v := 1) (by decide) ?_
  refine j_isub C dX7_isPerson_7 ?_
  refine j_callSi (st := []) C [.int x1, .int 0, .int ((S.1 25 0) - 1)] (m_X7_within C.wok h) cv_RX7_50 rk_X7_isPerson_X7_within rfl rfl (Nat.le_of_ble_eq_true rfl) dX7_isPerson_8 (fun r2 S1 h => ?_)
  exact j_zret C dX7_isPerson_11 h
def rm_X7_ofKind : Room := { frames := 0, cells := 0, slots := 0, locals := 0 }
set_option maxRecDepth 20000 in
theorem t_X7_ofKind_30 {X : Mx} {w : Wt} {l0 : Launch} {Q0 : Int32 → St → Prop} {K4 : Int32 × Int32 × Int32 × St → Prop} (C : Cx X w l0 cX7_ofKind 4 RX7 rm_X7_ofKind (some .int)) (hK4 : ∀ (x1 : Int32) (x2 : Int32) (x3 : Int32) (S : St), K4 (x1, x2, x3, S) → J X w (QI X w Q0) 4 [(0, rr w 25), (1, .int x1), (2, .int x2), (3, .int x3)] [] S) {x1 : Int32} {x3 : Int32} {t0 : Int32} {t1 : Int32} {S : St} (h : p_X7_ofKind_30 Q0 K4 x1 x3 t0 t1 S) : J X w (QI X w Q0) 30 [(0, rr w 25), (1, .int x1), (3, .int x3)] [.int t0, .int t1] S := by
  refine j_ior C dX7_ofKind_30 ?_
  refine j_istore_n (lv' := [(2, .int (t1 ||| t0)), (0, rr w 25), (1, .int x1), (3, .int x3)]) C dX7_ofKind_31 rfl (by decide) rfl ?_
  refine j_iinc (lv' := [(3, .int (x3 + 1)), (2, .int (t1 ||| t0)), (0, rr w 25), (1, .int x1)]) C dX7_ofKind_32 3 rfl rfl (by decide) rfl ?_
  refine j_goto (tgt := 4) C dX7_ofKind_35 (by decide) ?_
  refine j_sub [2, 3, 1, 0] rfl ?_
  exact hK4 _ _ _ _ h
set_option maxRecDepth 20000 in
theorem t_X7_ofKind_4 {X : Mx} {w : Wt} {l0 : Launch} {Q0 : Int32 → St → Prop} (C : Cx X w l0 cX7_ofKind 4 RX7 rm_X7_ofKind (some .int)) {x1 : Int32} {x2 : Int32} {x3 : Int32} {S : St} (h : Lq (p_X7_ofKind_4 Q0) (x1, x2, x3, S)) : J X w (QI X w Q0) 4 [(0, rr w 25), (1, .int x1), (2, .int x2), (3, .int x3)] [] S := by
  have key : ∀ a : Int32 × Int32 × Int32 × St, Lq (p_X7_ofKind_4 Q0) a → J X w (QI X w Q0) 4 [(0, rr w 25), (1, .int a.1), (2, .int a.2.1), (3, .int a.2.2.1)] [] a.2.2.2 := by
    intro a ha
    refine Lq_use (G := fun a => J X w (QI X w Q0) 4 [(0, rr w 25), (1, .int a.1), (2, .int a.2.1), (3, .int a.2.2.1)] [] a.2.2.2) ?_ ha
    intro K4 hK a h
    obtain ⟨x1, x2, x3, S⟩ := a
    have hK4 : ∀ (x1 : Int32) (x2 : Int32) (x3 : Int32) (S : St), K4 (x1, x2, x3, S) → J X w (QI X w Q0) 4 [(0, rr w 25), (1, .int x1), (2, .int x2), (3, .int x3)] [] S := fun x1 x2 x3 S h => hK (x1, x2, x3, S) h
    show J X w (QI X w Q0) 4 [(0, rr w 25), (1, .int x1), (2, .int x2), (3, .int x3)] [] S
    refine j_iload_n C dX7_ofKind_4 3 rfl rfl ?_
    refine j_aload_n C dX7_ofKind_5 0 rfl rfl ?_
    refine gf_RX7_111_25 C dX7_ofKind_6 ?_
    refine j_icmp_ge (tgt := 38) C dX7_ofKind_9 (by decide) (fun c1 => ?_) (fun c1 => ?_)
    · have h := And.left h c1
      refine j_iload_n C dX7_ofKind_38 2 rfl rfl ?_
      exact j_iret C dX7_ofKind_39 h
    · have h := And.right h c1
      refine j_iload_n C dX7_ofKind_12 2 rfl rfl ?_
      refine j_aload_n C dX7_ofKind_13 0 rfl rfl ?_
      refine gf_RX7_7_25 C dX7_ofKind_14 ?_
      refine j_iload_n C dX7_ofKind_17 3 rfl rfl ?_
      refine al_26 C dX7_ofKind_18 (And.left h) ?_
      have h := And.right h
      refine j_iload_n C dX7_ofKind_19 1 rfl rfl ?_
      refine j_icmp_ne (tgt := 29) C dX7_ofKind_20 (by decide) (fun c2 => ?_) (fun c2 => ?_)
      · have h := And.left h c2
        refine j_iconst C dX7_ofKind_29 (v := 0) (by decide) ?_
        refine j_sub [0, 1, 3] rfl ?_
        exact t_X7_ofKind_30 C hK4 h
      · have h := And.right h c2
        refine j_iconst C dX7_ofKind_23 (v := 1) (by decide) ?_
        refine j_iload_n C dX7_ofKind_24 3 rfl rfl ?_
        refine j_ishl C dX7_ofKind_25 ?_
        refine j_goto (tgt := 30) C dX7_ofKind_26 (by decide) ?_
        refine j_sub [0, 1, 3] rfl ?_
        exact t_X7_ofKind_30 C hK4 h
  exact key (x1, x2, x3, S) h
set_option maxRecDepth 20000 in
theorem m_X7_ofKind {l : Launch} {w : Wt} (hw : WOK w) {x1 : Int32} {S : St} {Q0 : Int32 → St → Prop} (h : p_X7_ofKind x1 S Q0) : MI l w yX7_ofKind cX7_ofKind 4 .int rm_X7_ofKind [rr w 25, .int x1] S Q0 := by
  refine m_MI (own := RX7) (lv := [(0, rr w 25), (1, .int x1)]) hw (by decide) rfl (Nat.le_of_ble_eq_true rfl) rfl (fun X C => ?_)
  refine j_iconst C dX7_ofKind_0 (v := 0) (by decide) ?_
  refine j_istore_n (lv' := [(2, .int 0), (0, rr w 25), (1, .int x1)]) C dX7_ofKind_1 rfl (by decide) rfl ?_
  refine j_iconst C dX7_ofKind_2 (v := 0) (by decide) ?_
  refine j_istore_n (lv' := [(3, .int 0), (2, .int 0), (0, rr w 25), (1, .int x1)]) C dX7_ofKind_3 rfl (by decide) rfl ?_
  refine j_sub [2, 3, 1, 0] rfl ?_
  exact t_X7_ofKind_4 C h
def rm_X7_kind : Room := { frames := 2, cells := 0, slots := 0, locals := 43 }
theorem rk_X7_kind_X7_isPerson : roomOk rm_X7_isPerson rm_X7_kind 2 := ⟨⟨rfl, rfl⟩, Nat.le_of_ble_eq_true rfl, Nat.le_of_ble_eq_true rfl⟩
theorem rk_X7_kind_X7_ofKind : roomOk rm_X7_ofKind rm_X7_kind 4 := ⟨⟨rfl, rfl⟩, Nat.le_of_ble_eq_true rfl, Nat.le_of_ble_eq_true rfl⟩
theorem rk_X7_kind_X7_size : roomOk rm_X7_size rm_X7_kind 3 := ⟨⟨rfl, rfl⟩, Nat.le_of_ble_eq_true rfl, Nat.le_of_ble_eq_true rfl⟩
theorem rk_X7_kind_X7_within : roomOk rm_X7_within rm_X7_kind 3 := ⟨⟨rfl, rfl⟩, Nat.le_of_ble_eq_true rfl, Nat.le_of_ble_eq_true rfl⟩
set_option maxRecDepth 20000 in
theorem t_X7_kind_55 {X : Mx} {w : Wt} {l0 : Launch} {Q0 : Int32 → St → Prop} (C : Cx X w l0 cX7_kind 4 RX7 rm_X7_kind (some .int)) {x1 : Int32} {x2 : Int32} {x3 : Int32} {S : St} (h : p_X7_kind_55 Q0 x1 x2 x3 S) : J X w (QI X w Q0) 55 [(0, rr w 25), (1, .int x1), (2, .int x2), (3, .int x3)] [] S := by
  refine j_aload_n C dX7_kind_55 0 rfl rfl ?_
  refine gf_RX7_7_25 C dX7_kind_56 ?_
  refine j_iload_n C dX7_kind_59 1 rfl rfl ?_
  refine j_iload_n C dX7_kind_60 2 rfl rfl ?_
  refine as_26 C dX7_kind_61 (And.left h) (fun S8 eS8 => ?_)
  have h := And.right h S8 eS8
  refine j_iload_n C dX7_kind_62 3 rfl rfl ?_
  exact j_iret C dX7_kind_63 h
set_option maxRecDepth 20000 in
theorem m_X7_kind {l : Launch} {w : Wt} (hw : WOK w) {x1 : Int32} {x2 : Int32} {S : St} {Q0 : Int32 → St → Prop} (h : p_X7_kind x1 x2 S Q0) : MI l w yX7_kind cX7_kind 4 .int rm_X7_kind [rr w 25, .int x1, .int x2] S Q0 := by
  refine m_MI (own := RX7) (lv := [(0, rr w 25), (1, .int x1), (2, .int x2)]) hw (by decide) rfl (Nat.le_of_ble_eq_true rfl) rfl (fun X C => ?_)
  refine j_aload_n C dX7_kind_0 0 rfl rfl ?_
  refine j_iload_n C dX7_kind_1 1 rfl rfl ?_
  refine j_callVi (st := []) C 25 [.int x1] (m_X7_isPerson C.wok h) cv_RX7_145 rk_X7_kind_X7_isPerson rfl (rc_25 w) rfl (Nat.le_of_ble_eq_true rfl) dX7_kind_2 (fun r2 S1 h => ?_)
  refine j_if_ne (tgt := 11) C dX7_kind_5 (by decide) (fun c3 => ?_) (fun c3 => ?_)
  · have h := And.left h c3
    refine j_iload_n C dX7_kind_11 2 rfl rfl ?_
    refine j_iconst C dX7_kind_12 (v := 0) (by decide) ?_
    refine j_iconst C dX7_kind_13 (v := 2) (by decide) ?_
    refine j_callSi (st := []) C [.int x2, .int 0, .int 2] (m_X7_within C.wok h) cv_RX7_50 rk_X7_kind_X7_within rfl rfl (Nat.le_of_ble_eq_true rfl) dX7_kind_14 (fun r5 S4 h => ?_)
    refine j_if_ne (tgt := 23) C dX7_kind_17 (by decide) (fun c6 => ?_) (fun c6 => ?_)
    · have h := And.left h c6
      refine j_aload_n C dX7_kind_23 0 rfl rfl ?_
      refine gf_RX7_7_25 C dX7_kind_24 ?_
      refine j_iload_n C dX7_kind_27 1 rfl rfl ?_
      refine al_26 C dX7_kind_28 (And.left h) ?_
      have h := And.right h
      refine j_istore_n (lv' := [(3, .int (S4.1 26 x1.toNatClampNeg)), (0, rr w 25), (1, .int x1), (2, .int x2)]) C dX7_kind_29 rfl (by decide) rfl ?_
      refine j_iload_n C dX7_kind_30 3 rfl rfl ?_
      refine j_iconst C dX7_kind_31 (v := 1) (by decide) ?_
      refine j_icmp_ne (tgt := 55) C dX7_kind_32 (by decide) (fun c7 => ?_) (fun c7 => ?_)
      · have h := And.left h c7
        refine j_sub [1, 2, 3, 0] rfl ?_
        exact t_X7_kind_55 C h
      · have h := And.right h c7
        refine j_iload_n C dX7_kind_35 0 rfl rfl ?_
        refine j_iconst C dX7_kind_36 (v := 1) (by decide) ?_
        refine j_icmp_eq (tgt := 55) C dX7_kind_37 (by decide) (fun c9 => ?_) (fun c9 => ?_)
        · have h := And.left h c9
          refine j_sub [1, 2, 3, 0] rfl ?_
          exact t_X7_kind_55 C h
        · have h := And.right h c9
          refine j_aload_n C dX7_kind_40 1 rfl rfl ?_
          refine j_iconst C dX7_kind_41 (v := 1) (by decide) ?_
          refine j_callVi (st := []) C 25 [.int 1] (m_X7_ofKind C.wok h) cv_RX7_148 rk_X7_kind_X7_ofKind rfl (rc_25 w) rfl (Nat.le_of_ble_eq_true rfl) dX7_kind_42 (fun r11 S10 h => ?_)
          refine j_callSi (st := []) C [.int r11] (m_X7_size C.wok h) cv_RX7_71 rk_X7_kind_X7_size rfl rfl (Nat.le_of_ble_eq_true rfl) dX7_kind_45 (fun r13 S12 h => ?_)
          refine j_iconst C dX7_kind_48 (v := 5) (by decide) ?_
          refine j_icmp_ne (tgt := 55) C dX7_kind_49 (by decide) (fun c14 => ?_) (fun c14 => ?_)
          · have h := And.left h c14
            refine j_sub [1, 2, 3, 0] rfl ?_
            exact t_X7_kind_55 C h
          · have h := And.right h c14
            refine j_bipush C dX7_kind_52 (v := (-104)) (by decide) ?_
            exact j_iret C dX7_kind_54 h
    · have h := And.right h c6
      refine j_bipush C dX7_kind_20 (v := (-102)) (by decide) ?_
      exact j_iret C dX7_kind_22 h
  · have h := And.right h c3
    refine j_bipush C dX7_kind_8 (v := (-101)) (by decide) ?_
    exact j_iret C dX7_kind_10 h
def rm_X6_as : Room := { frames := 1, cells := 0, slots := 0, locals := 21 }
theorem rk_X6_as_X0_has : roomOk rm_X0_has rm_X6_as 2 := ⟨⟨rfl, rfl⟩, Nat.le_of_ble_eq_true rfl, Nat.le_of_ble_eq_true rfl⟩
theorem rk_X6_as_X6_isKind : roomOk rm_X6_isKind rm_X6_as 1 := ⟨⟨rfl, rfl⟩, Nat.le_of_ble_eq_true rfl, Nat.le_of_ble_eq_true rfl⟩
set_option maxRecDepth 20000 in
theorem t_X6_as_43 {X : Mx} {w : Wt} {l0 : Launch} {Q0 : Int32 → St → Prop} (C : Cx X w l0 cX6_as 4 RX6 rm_X6_as (some .int)) {x3 : Int32} {S : St} (h : p_X6_as_43 Q0 x3 S) : J X w (QI X w Q0) 43 [(3, .int x3)] [] S := by
  refine j_iload_n C dX6_as_43 0 rfl rfl ?_
  refine j_goto (tgt := 48) C dX6_as_44 (by decide) ?_
  exact j_iret C dX6_as_48 h
set_option maxRecDepth 20000 in
theorem m_X6_as {l : Launch} {w : Wt} (hw : WOK w) {x1 : Int32} {x2 : Int32} {S : St} {Q0 : Int32 → St → Prop} (h : p_X6_as x1 x2 S Q0) : MI l w yX6_as cX6_as 4 .int rm_X6_as [rr w 0, .int x1, .int x2] S Q0 := by
  refine m_MI (own := RX6) (lv := [(0, rr w 0), (1, .int x1), (2, .int x2)]) hw (by decide) rfl (Nat.le_of_ble_eq_true rfl) rfl (fun X C => ?_)
  refine j_aload_n C dX6_as_0 0 rfl rfl ?_
  refine gf_RX6_16_0 C dX6_as_1 ?_
  refine j_iload_n C dX6_as_4 1 rfl rfl ?_
  refine j_callVi (st := []) C 2 [.int x1] (m_X0_has C.wok h) cv_RX6_97 rk_X6_as_X0_has rfl (rc_2 w) rfl (Nat.le_of_ble_eq_true rfl) dX6_as_5 (fun r2 S1 h => ?_)
  refine j_if_ne (tgt := 14) C dX6_as_8 (by decide) (fun c3 => ?_) (fun c3 => ?_)
  · have h := And.left h c3
    refine j_iload_n C dX6_as_14 2 rfl rfl ?_
    refine j_callSi (st := []) C [.int x2] (m_X6_isKind C.wok h) cv_RX6_100 rk_X6_as_X6_isKind rfl rfl (Nat.le_of_ble_eq_true rfl) dX6_as_15 (fun r5 S4 h => ?_)
    refine j_if_ne (tgt := 24) C dX6_as_18 (by decide) (fun c6 => ?_) (fun c6 => ?_)
    · have h := And.left h c6
      refine j_aload_n C dX6_as_24 0 rfl rfl ?_
      refine gf_RX6_16_0 C dX6_as_25 ?_
      refine gf_RX6_103_2 C dX6_as_28 ?_
      refine j_iload_n C dX6_as_31 1 rfl rfl ?_
      refine al_4 C dX6_as_32 (And.left h) ?_
      have h := And.right h
      refine j_istore_n (lv' := [(3, .int (S4.1 4 x1.toNatClampNeg)), (0, rr w 0), (1, .int x1), (2, .int x2)]) C dX6_as_33 rfl (by decide) rfl ?_
      refine j_iload_n C dX6_as_34 3 rfl rfl ?_
      refine j_if_eq (tgt := 43) C dX6_as_35 (by decide) (fun c7 => ?_) (fun c7 => ?_)
      · have h := And.left h c7
        refine j_sub [0] rfl ?_
        exact t_X6_as_43 C h
      · have h := And.right h c7
        refine j_iload_n C dX6_as_38 3 rfl rfl ?_
        refine j_iload_n C dX6_as_39 0 rfl rfl ?_
        refine j_icmp_ne (tgt := 47) C dX6_as_40 (by decide) (fun c8 => ?_) (fun c8 => ?_)
        · have h := And.left h c8
          refine j_iconst C dX6_as_47 (v := (-1)) (by decide) ?_
          exact j_iret C dX6_as_48 h
        · have h := And.right h c8
          refine j_sub [0] rfl ?_
          exact t_X6_as_43 C h
    · have h := And.right h c6
      refine j_bipush C dX6_as_21 (v := (-102)) (by decide) ?_
      exact j_iret C dX6_as_23 h
  · have h := And.right h c3
    refine j_bipush C dX6_as_11 (v := (-101)) (by decide) ?_
    exact j_iret C dX6_as_13 h
def rm_X7_as : Room := { frames := 2, cells := 0, slots := 0, locals := 43 }
theorem rk_X7_as_X7_isPerson : roomOk rm_X7_isPerson rm_X7_as 2 := ⟨⟨rfl, rfl⟩, Nat.le_of_ble_eq_true rfl, Nat.le_of_ble_eq_true rfl⟩
theorem rk_X7_as_X7_within : roomOk rm_X7_within rm_X7_as 3 := ⟨⟨rfl, rfl⟩, Nat.le_of_ble_eq_true rfl, Nat.le_of_ble_eq_true rfl⟩
set_option maxRecDepth 20000 in
theorem t_X7_as_37 {X : Mx} {w : Wt} {l0 : Launch} {Q0 : Int32 → St → Prop} (C : Cx X w l0 cX7_as 3 RX7 rm_X7_as (some .int)) {x1 : Int32} {S : St} (h : p_X7_as_37 Q0 x1 S) : J X w (QI X w Q0) 37 [(0, rr w 25), (1, .int x1)] [] S := by
  refine j_aload_n C dX7_as_37 0 rfl rfl ?_
  refine gf_RX7_7_25 C dX7_as_38 ?_
  refine j_iload_n C dX7_as_41 1 rfl rfl ?_
  refine al_26 C dX7_as_42 (And.left h) ?_
  have h := And.right h
  refine j_goto (tgt := 47) C dX7_as_43 (by decide) ?_
  exact j_iret C dX7_as_47 h
set_option maxRecDepth 20000 in
theorem m_X7_as {l : Launch} {w : Wt} (hw : WOK w) {x1 : Int32} {x2 : Int32} {S : St} {Q0 : Int32 → St → Prop} (h : p_X7_as x1 x2 S Q0) : MI l w yX7_as cX7_as 3 .int rm_X7_as [rr w 25, .int x1, .int x2] S Q0 := by
  refine m_MI (own := RX7) (lv := [(0, rr w 25), (1, .int x1), (2, .int x2)]) hw (by decide) rfl (Nat.le_of_ble_eq_true rfl) rfl (fun X C => ?_)
  refine j_aload_n C dX7_as_0 0 rfl rfl ?_
  refine j_iload_n C dX7_as_1 1 rfl rfl ?_
  refine j_callVi (st := []) C 25 [.int x1] (m_X7_isPerson C.wok h) cv_RX7_145 rk_X7_as_X7_isPerson rfl (rc_25 w) rfl (Nat.le_of_ble_eq_true rfl) dX7_as_2 (fun r2 S1 h => ?_)
  refine j_if_ne (tgt := 11) C dX7_as_5 (by decide) (fun c3 => ?_) (fun c3 => ?_)
  · have h := And.left h c3
    refine j_iload_n C dX7_as_11 2 rfl rfl ?_
    refine j_iconst C dX7_as_12 (v := 0) (by decide) ?_
    refine j_iconst C dX7_as_13 (v := 2) (by decide) ?_
    refine j_callSi (st := []) C [.int x2, .int 0, .int 2] (m_X7_within C.wok h) cv_RX7_50 rk_X7_as_X7_within rfl rfl (Nat.le_of_ble_eq_true rfl) dX7_as_14 (fun r5 S4 h => ?_)
    refine j_if_ne (tgt := 23) C dX7_as_17 (by decide) (fun c6 => ?_) (fun c6 => ?_)
    · have h := And.left h c6
      refine j_iload_n C dX7_as_23 2 rfl rfl ?_
      refine j_if_eq (tgt := 37) C dX7_as_24 (by decide) (fun c7 => ?_) (fun c7 => ?_)
      · have h := And.left h c7
        refine j_sub [0, 1] rfl ?_
        exact t_X7_as_37 C h
      · have h := And.right h c7
        refine j_iload_n C dX7_as_27 2 rfl rfl ?_
        refine j_aload_n C dX7_as_28 0 rfl rfl ?_
        refine gf_RX7_7_25 C dX7_as_29 ?_
        refine j_iload_n C dX7_as_32 1 rfl rfl ?_
        refine al_26 C dX7_as_33 (And.left h) ?_
        have h := And.right h
        refine j_icmp_ne (tgt := 46) C dX7_as_34 (by decide) (fun c8 => ?_) (fun c8 => ?_)
        · have h := And.left h c8
          refine j_iconst C dX7_as_46 (v := (-1)) (by decide) ?_
          exact j_iret C dX7_as_47 h
        · have h := And.right h c8
          refine j_sub [0, 1] rfl ?_
          exact t_X7_as_37 C h
    · have h := And.right h c6
      refine j_bipush C dX7_as_20 (v := (-102)) (by decide) ?_
      exact j_iret C dX7_as_22 h
  · have h := And.right h c3
    refine j_bipush C dX7_as_8 (v := (-101)) (by decide) ?_
    exact j_iret C dX7_as_10 h
def rm_X0_hasPair : Room := { frames := 1, cells := 0, slots := 0, locals := 21 }
theorem rk_X0_hasPair_X0_has : roomOk rm_X0_has rm_X0_hasPair 2 := ⟨⟨rfl, rfl⟩, Nat.le_of_ble_eq_true rfl, Nat.le_of_ble_eq_true rfl⟩
set_option maxRecDepth 20000 in
theorem m_X0_hasPair {l : Launch} {w : Wt} (hw : WOK w) {x1 : Int32} {x2 : Int32} {S : St} {Q0 : Int32 → St → Prop} (h : p_X0_hasPair x1 x2 S Q0) : MI l w yX0_hasPair cX0_hasPair 3 .boolean rm_X0_hasPair [rr w 2, .int x1, .int x2] S Q0 := by
  refine m_MI (own := RX0) (lv := [(0, rr w 2), (1, .int x1), (2, .int x2)]) hw (by decide) rfl (Nat.le_of_ble_eq_true rfl) rfl (fun X C => ?_)
  refine j_aload_n C dX0_hasPair_0 0 rfl rfl ?_
  refine j_iload_n C dX0_hasPair_1 1 rfl rfl ?_
  refine j_callVi (st := []) C 2 [.int x1] (m_X0_has C.wok h) cv_RX0_40 rk_X0_hasPair_X0_has rfl (rc_2 w) rfl (Nat.le_of_ble_eq_true rfl) dX0_hasPair_2 (fun r2 S1 h => ?_)
  refine j_if_eq (tgt := 25) C dX0_hasPair_5 (by decide) (fun c3 => ?_) (fun c3 => ?_)
  · have h := And.left h c3
    refine j_iconst C dX0_hasPair_25 (v := 0) (by decide) ?_
    exact j_zret C dX0_hasPair_26 ⟨bz0, h⟩
  · have h := And.right h c3
    refine j_aload_n C dX0_hasPair_8 0 rfl rfl ?_
    refine j_iload_n C dX0_hasPair_9 2 rfl rfl ?_
    refine j_callVi (st := []) C 2 [.int x2] (m_X0_has C.wok h) cv_RX0_40 rk_X0_hasPair_X0_has rfl (rc_2 w) rfl (Nat.le_of_ble_eq_true rfl) dX0_hasPair_10 (fun r5 S4 h => ?_)
    refine j_if_eq (tgt := 25) C dX0_hasPair_13 (by decide) (fun c6 => ?_) (fun c6 => ?_)
    · have h := And.left h c6
      refine j_iconst C dX0_hasPair_25 (v := 0) (by decide) ?_
      exact j_zret C dX0_hasPair_26 ⟨bz0, h⟩
    · have h := And.right h c6
      refine j_iload_n C dX0_hasPair_16 1 rfl rfl ?_
      refine j_iload_n C dX0_hasPair_17 2 rfl rfl ?_
      refine j_icmp_eq (tgt := 25) C dX0_hasPair_18 (by decide) (fun c7 => ?_) (fun c7 => ?_)
      · have h := And.left h c7
        refine j_iconst C dX0_hasPair_25 (v := 0) (by decide) ?_
        exact j_zret C dX0_hasPair_26 ⟨bz0, h⟩
      · have h := And.right h c7
        refine j_iconst C dX0_hasPair_21 (v := 1) (by decide) ?_
        refine j_goto (tgt := 26) C dX0_hasPair_22 (by decide) ?_
        exact j_zret C dX0_hasPair_26 ⟨bz1, h⟩
def rm_X6_vouch : Room := { frames := 2, cells := 0, slots := 0, locals := 43 }
theorem rk_X6_vouch_J6_bitCount_0f7a4 : roomOk rm_J6_bitCount_0f7a4 rm_X6_vouch 1 := ⟨⟨rfl, rfl⟩, Nat.le_of_ble_eq_true rfl, Nat.le_of_ble_eq_true rfl⟩
theorem rk_X6_vouch_X0_hasPair : roomOk rm_X0_hasPair rm_X6_vouch 3 := ⟨⟨rfl, rfl⟩, Nat.le_of_ble_eq_true rfl, Nat.le_of_ble_eq_true rfl⟩
theorem rk_X6_vouch_X0_hasVouch : roomOk rm_X0_hasVouch rm_X6_vouch 3 := ⟨⟨rfl, rfl⟩, Nat.le_of_ble_eq_true rfl, Nat.le_of_ble_eq_true rfl⟩
set_option maxRecDepth 20000 in
theorem m_X6_vouch {l : Launch} {w : Wt} (hw : WOK w) {x1 : Int32} {x2 : Int32} {S : St} {Q0 : Int32 → St → Prop} (h : p_X6_vouch x1 x2 S Q0) : MI l w yX6_vouch cX6_vouch 4 .int rm_X6_vouch [rr w 0, .int x1, .int x2] S Q0 := by
  refine m_MI (own := RX6) (lv := [(0, rr w 0), (1, .int x1), (2, .int x2)]) hw (by decide) rfl (Nat.le_of_ble_eq_true rfl) rfl (fun X C => ?_)
  refine j_aload_n C dX6_vouch_0 0 rfl rfl ?_
  refine gf_RX6_16_0 C dX6_vouch_1 ?_
  refine j_iload_n C dX6_vouch_4 1 rfl rfl ?_
  refine j_iload_n C dX6_vouch_5 2 rfl rfl ?_
  refine j_callVi (st := []) C 2 [.int x1, .int x2] (m_X0_hasPair C.wok h) cv_RX6_115 rk_X6_vouch_X0_hasPair rfl (rc_2 w) rfl (Nat.le_of_ble_eq_true rfl) dX6_vouch_6 (fun r2 S1 h => ?_)
  refine j_if_ne (tgt := 15) C dX6_vouch_9 (by decide) (fun c3 => ?_) (fun c3 => ?_)
  · have h := And.left h c3
    refine j_aload_n C dX6_vouch_15 0 rfl rfl ?_
    refine gf_RX6_16_0 C dX6_vouch_16 ?_
    refine j_iload_n C dX6_vouch_19 1 rfl rfl ?_
    refine j_iload_n C dX6_vouch_20 2 rfl rfl ?_
    refine j_callVi (st := []) C 2 [.int x1, .int x2] (m_X0_hasVouch C.wok h) cv_RX6_119 rk_X6_vouch_X0_hasVouch rfl (rc_2 w) rfl (Nat.le_of_ble_eq_true rfl) dX6_vouch_21 (fun r5 S4 h => ?_)
    refine j_if_eq (tgt := 30) C dX6_vouch_24 (by decide) (fun c6 => ?_) (fun c6 => ?_)
    · have h := And.left h c6
      refine j_aload_n C dX6_vouch_30 0 rfl rfl ?_
      refine gf_RX6_16_0 C dX6_vouch_31 ?_
      refine gf_RX6_122_2 C dX6_vouch_34 ?_
      refine j_iload_n C dX6_vouch_37 1 rfl rfl ?_
      refine al_5 C dX6_vouch_38 (And.left h) ?_
      have h := And.right h
      refine j_callSi (st := []) C [.int (S4.1 5 x1.toNatClampNeg)] (m_J6_bitCount_0f7a4 C.wok h) cv_RX6_110 rk_X6_vouch_J6_bitCount_0f7a4 rfl rfl (Nat.le_of_ble_eq_true rfl) dX6_vouch_39 (fun r8 S7 h => ?_)
      refine j_istore_n (lv' := [(3, .int r8), (0, rr w 0), (1, .int x1), (2, .int x2)]) C dX6_vouch_42 rfl (by decide) rfl ?_
      refine j_iload_n C dX6_vouch_43 0 rfl rfl ?_
      refine j_iconst C dX6_vouch_44 (v := 5) (by decide) ?_
      refine j_icmp_lt (tgt := 51) C dX6_vouch_45 (by decide) (fun c9 => ?_) (fun c9 => ?_)
      · have h := And.left h c9
        refine j_aload_n C dX6_vouch_51 1 rfl rfl ?_
        refine gf_RX6_16_0 C dX6_vouch_52 ?_
        refine gf_RX6_122_2 C dX6_vouch_55 ?_
        refine j_iload_n C dX6_vouch_58 2 rfl rfl ?_
        refine j_dup2 C dX6_vouch_59 rfl rfl ?_
        refine al_5 C dX6_vouch_60 (And.left h) ?_
        have h := And.right h
        refine j_iconst C dX6_vouch_61 (v := 1) (by decide) ?_
        refine j_iload_n C dX6_vouch_62 3 rfl rfl ?_
        refine j_ishl C dX6_vouch_63 ?_
        refine j_ior C dX6_vouch_64 ?_
        refine as_5 C dX6_vouch_65 (And.left h) (fun S10 eS10 => ?_)
        have h := And.right h S10 eS10
        refine j_aload_n C dX6_vouch_66 1 rfl rfl ?_
        refine j_dup C dX6_vouch_67 rfl ?_
        refine gf_RX6_125_0 C dX6_vouch_68 ?_
        refine j_iconst C dX6_vouch_71 (v := 1) (by decide) ?_
        refine j_iadd C dX6_vouch_72 ?_
        refine pf_RX6_125_0 C dX6_vouch_73 (fun S11 eS11 => ?_)
        have h := h S11 eS11
        refine j_iload_n C dX6_vouch_76 0 rfl rfl ?_
        refine j_iconst C dX6_vouch_77 (v := 1) (by decide) ?_
        refine j_iadd C dX6_vouch_78 ?_
        exact j_iret C dX6_vouch_79 h
      · have h := And.right h c9
        refine j_bipush C dX6_vouch_48 (v := (-104)) (by decide) ?_
        exact j_iret C dX6_vouch_50 h
    · have h := And.right h c6
      refine j_bipush C dX6_vouch_27 (v := (-103)) (by decide) ?_
      exact j_iret C dX6_vouch_29 h
  · have h := And.right h c3
    refine j_bipush C dX6_vouch_12 (v := (-101)) (by decide) ?_
    exact j_iret C dX6_vouch_14 h
def rm_X7_areTwo : Room := { frames := 2, cells := 0, slots := 0, locals := 43 }
theorem rk_X7_areTwo_X7_isPerson : roomOk rm_X7_isPerson rm_X7_areTwo 2 := ⟨⟨rfl, rfl⟩, Nat.le_of_ble_eq_true rfl, Nat.le_of_ble_eq_true rfl⟩
set_option maxRecDepth 20000 in
theorem m_X7_areTwo {l : Launch} {w : Wt} (hw : WOK w) {x1 : Int32} {x2 : Int32} {S : St} {Q0 : Int32 → St → Prop} (h : p_X7_areTwo x1 x2 S Q0) : MI l w yX7_areTwo cX7_areTwo 3 .boolean rm_X7_areTwo [rr w 25, .int x1, .int x2] S Q0 := by
  refine m_MI (own := RX7) (lv := [(0, rr w 25), (1, .int x1), (2, .int x2)]) hw (by decide) rfl (Nat.le_of_ble_eq_true rfl) rfl (fun X C => ?_)
  refine j_aload_n C dX7_areTwo_0 0 rfl rfl ?_
  refine j_iload_n C dX7_areTwo_1 1 rfl rfl ?_
  refine j_callVi (st := []) C 25 [.int x1] (m_X7_isPerson C.wok h) cv_RX7_145 rk_X7_areTwo_X7_isPerson rfl (rc_25 w) rfl (Nat.le_of_ble_eq_true rfl) dX7_areTwo_2 (fun r2 S1 h => ?_)
  refine j_if_eq (tgt := 25) C dX7_areTwo_5 (by decide) (fun c3 => ?_) (fun c3 => ?_)
  · have h := And.left h c3
    refine j_iconst C dX7_areTwo_25 (v := 0) (by decide) ?_
    exact j_zret C dX7_areTwo_26 ⟨bz0, h⟩
  · have h := And.right h c3
    refine j_aload_n C dX7_areTwo_8 0 rfl rfl ?_
    refine j_iload_n C dX7_areTwo_9 2 rfl rfl ?_
    refine j_callVi (st := []) C 25 [.int x2] (m_X7_isPerson C.wok h) cv_RX7_145 rk_X7_areTwo_X7_isPerson rfl (rc_25 w) rfl (Nat.le_of_ble_eq_true rfl) dX7_areTwo_10 (fun r5 S4 h => ?_)
    refine j_if_eq (tgt := 25) C dX7_areTwo_13 (by decide) (fun c6 => ?_) (fun c6 => ?_)
    · have h := And.left h c6
      refine j_iconst C dX7_areTwo_25 (v := 0) (by decide) ?_
      exact j_zret C dX7_areTwo_26 ⟨bz0, h⟩
    · have h := And.right h c6
      refine j_iload_n C dX7_areTwo_16 1 rfl rfl ?_
      refine j_iload_n C dX7_areTwo_17 2 rfl rfl ?_
      refine j_icmp_eq (tgt := 25) C dX7_areTwo_18 (by decide) (fun c7 => ?_) (fun c7 => ?_)
      · have h := And.left h c7
        refine j_iconst C dX7_areTwo_25 (v := 0) (by decide) ?_
        exact j_zret C dX7_areTwo_26 ⟨bz0, h⟩
      · have h := And.right h c7
        refine j_iconst C dX7_areTwo_21 (v := 1) (by decide) ?_
        refine j_goto (tgt := 26) C dX7_areTwo_22 (by decide) ?_
        exact j_zret C dX7_areTwo_26 ⟨bz1, h⟩
def rm_X7_vouch : Room := { frames := 3, cells := 0, slots := 0, locals := 65 }
theorem rk_X7_vouch_X7_areTwo : roomOk rm_X7_areTwo rm_X7_vouch 3 := ⟨⟨rfl, rfl⟩, Nat.le_of_ble_eq_true rfl, Nat.le_of_ble_eq_true rfl⟩
theorem rk_X7_vouch_X7_has : roomOk rm_X7_has rm_X7_vouch 2 := ⟨⟨rfl, rfl⟩, Nat.le_of_ble_eq_true rfl, Nat.le_of_ble_eq_true rfl⟩
theorem rk_X7_vouch_X7_size : roomOk rm_X7_size rm_X7_vouch 3 := ⟨⟨rfl, rfl⟩, Nat.le_of_ble_eq_true rfl, Nat.le_of_ble_eq_true rfl⟩
set_option maxRecDepth 20000 in
theorem m_X7_vouch {l : Launch} {w : Wt} (hw : WOK w) {x1 : Int32} {x2 : Int32} {S : St} {Q0 : Int32 → St → Prop} (h : p_X7_vouch x1 x2 S Q0) : MI l w yX7_vouch cX7_vouch 3 .int rm_X7_vouch [rr w 25, .int x1, .int x2] S Q0 := by
  refine m_MI (own := RX7) (lv := [(0, rr w 25), (1, .int x1), (2, .int x2)]) hw (by decide) rfl (Nat.le_of_ble_eq_true rfl) rfl (fun X C => ?_)
  refine j_aload_n C dX7_vouch_0 0 rfl rfl ?_
  refine j_iload_n C dX7_vouch_1 1 rfl rfl ?_
  refine j_iload_n C dX7_vouch_2 2 rfl rfl ?_
  refine j_callVi (st := []) C 25 [.int x1, .int x2] (m_X7_areTwo C.wok h) cv_RX7_151 rk_X7_vouch_X7_areTwo rfl (rc_25 w) rfl (Nat.le_of_ble_eq_true rfl) dX7_vouch_3 (fun r2 S1 h => ?_)
  refine j_if_ne (tgt := 12) C dX7_vouch_6 (by decide) (fun c3 => ?_) (fun c3 => ?_)
  · have h := And.left h c3
    refine j_aload_n C dX7_vouch_12 0 rfl rfl ?_
    refine gf_RX7_13_25 C dX7_vouch_13 ?_
    refine j_iload_n C dX7_vouch_16 1 rfl rfl ?_
    refine al_27 C dX7_vouch_17 (And.left h) ?_
    have h := And.right h
    refine j_iload_n C dX7_vouch_18 2 rfl rfl ?_
    refine j_callSi (st := []) C [.int (S1.1 27 x1.toNatClampNeg), .int x2] (m_X7_has C.wok h) cv_RX7_132 rk_X7_vouch_X7_has rfl rfl (Nat.le_of_ble_eq_true rfl) dX7_vouch_19 (fun r5 S4 h => ?_)
    refine j_if_eq (tgt := 28) C dX7_vouch_22 (by decide) (fun c6 => ?_) (fun c6 => ?_)
    · have h := And.left h c6
      refine j_aload_n C dX7_vouch_28 0 rfl rfl ?_
      refine gf_RX7_13_25 C dX7_vouch_29 ?_
      refine j_iload_n C dX7_vouch_32 1 rfl rfl ?_
      refine al_27 C dX7_vouch_33 (And.left h) ?_
      have h := And.right h
      refine j_callSi (st := []) C [.int (S4.1 27 x1.toNatClampNeg)] (m_X7_size C.wok h) cv_RX7_71 rk_X7_vouch_X7_size rfl rfl (Nat.le_of_ble_eq_true rfl) dX7_vouch_34 (fun r8 S7 h => ?_)
      refine j_iconst C dX7_vouch_37 (v := 5) (by decide) ?_
      refine j_icmp_ne (tgt := 44) C dX7_vouch_38 (by decide) (fun c9 => ?_) (fun c9 => ?_)
      · have h := And.left h c9
        refine j_aload_n C dX7_vouch_44 0 rfl rfl ?_
        refine gf_RX7_13_25 C dX7_vouch_45 ?_
        refine j_iload_n C dX7_vouch_48 1 rfl rfl ?_
        refine j_dup2 C dX7_vouch_49 rfl rfl ?_
        refine al_27 C dX7_vouch_50 (And.left h) ?_
        have h := And.right h
        refine j_iconst C dX7_vouch_51 (v := 1) (by decide) ?_
        refine j_iload_n C dX7_vouch_52 2 rfl rfl ?_
        refine j_ishl C dX7_vouch_53 ?_
        refine j_ior C dX7_vouch_54 ?_
        refine as_27 C dX7_vouch_55 (And.left h) (fun S10 eS10 => ?_)
        have h := And.right h S10 eS10
        refine j_aload_n C dX7_vouch_56 0 rfl rfl ?_
        refine j_dup C dX7_vouch_57 rfl ?_
        refine gf_RX7_154_25 C dX7_vouch_58 ?_
        refine j_iconst C dX7_vouch_61 (v := 1) (by decide) ?_
        refine j_iadd C dX7_vouch_62 ?_
        refine pf_RX7_154_25 C dX7_vouch_63 (fun S11 eS11 => ?_)
        have h := h S11 eS11
        refine j_aload_n C dX7_vouch_66 0 rfl rfl ?_
        refine gf_RX7_13_25 C dX7_vouch_67 ?_
        refine j_iload_n C dX7_vouch_70 1 rfl rfl ?_
        refine al_27 C dX7_vouch_71 (And.left h) ?_
        have h := And.right h
        refine j_callSi (st := []) C [.int (S11.1 27 x1.toNatClampNeg)] (m_X7_size C.wok h) cv_RX7_71 rk_X7_vouch_X7_size rfl rfl (Nat.le_of_ble_eq_true rfl) dX7_vouch_72 (fun r13 S12 h => ?_)
        exact j_iret C dX7_vouch_75 h
      · have h := And.right h c9
        refine j_bipush C dX7_vouch_41 (v := (-104)) (by decide) ?_
        exact j_iret C dX7_vouch_43 h
    · have h := And.right h c6
      refine j_bipush C dX7_vouch_25 (v := (-103)) (by decide) ?_
      exact j_iret C dX7_vouch_27 h
  · have h := And.right h c3
    refine j_bipush C dX7_vouch_9 (v := (-101)) (by decide) ?_
    exact j_iret C dX7_vouch_11 h
def rm_X6_recall : Room := { frames := 2, cells := 0, slots := 0, locals := 43 }
theorem rk_X6_recall_J6_bitCount_0f7a4 : roomOk rm_J6_bitCount_0f7a4 rm_X6_recall 1 := ⟨⟨rfl, rfl⟩, Nat.le_of_ble_eq_true rfl, Nat.le_of_ble_eq_true rfl⟩
theorem rk_X6_recall_X0_hasPair : roomOk rm_X0_hasPair rm_X6_recall 3 := ⟨⟨rfl, rfl⟩, Nat.le_of_ble_eq_true rfl, Nat.le_of_ble_eq_true rfl⟩
theorem rk_X6_recall_X0_hasVouch : roomOk rm_X0_hasVouch rm_X6_recall 3 := ⟨⟨rfl, rfl⟩, Nat.le_of_ble_eq_true rfl, Nat.le_of_ble_eq_true rfl⟩
set_option maxRecDepth 20000 in
theorem m_X6_recall {l : Launch} {w : Wt} (hw : WOK w) {x1 : Int32} {x2 : Int32} {S : St} {Q0 : Int32 → St → Prop} (h : p_X6_recall x1 x2 S Q0) : MI l w yX6_recall cX6_recall 3 .int rm_X6_recall [rr w 0, .int x1, .int x2] S Q0 := by
  refine m_MI (own := RX6) (lv := [(0, rr w 0), (1, .int x1), (2, .int x2)]) hw (by decide) rfl (Nat.le_of_ble_eq_true rfl) rfl (fun X C => ?_)
  refine j_aload_n C dX6_recall_0 0 rfl rfl ?_
  refine gf_RX6_16_0 C dX6_recall_1 ?_
  refine j_iload_n C dX6_recall_4 1 rfl rfl ?_
  refine j_iload_n C dX6_recall_5 2 rfl rfl ?_
  refine j_callVi (st := []) C 2 [.int x1, .int x2] (m_X0_hasPair C.wok h) cv_RX6_115 rk_X6_recall_X0_hasPair rfl (rc_2 w) rfl (Nat.le_of_ble_eq_true rfl) dX6_recall_6 (fun r2 S1 h => ?_)
  refine j_if_ne (tgt := 15) C dX6_recall_9 (by decide) (fun c3 => ?_) (fun c3 => ?_)
  · have h := And.left h c3
    refine j_aload_n C dX6_recall_15 0 rfl rfl ?_
    refine gf_RX6_16_0 C dX6_recall_16 ?_
    refine j_iload_n C dX6_recall_19 1 rfl rfl ?_
    refine j_iload_n C dX6_recall_20 2 rfl rfl ?_
    refine j_callVi (st := []) C 2 [.int x1, .int x2] (m_X0_hasVouch C.wok h) cv_RX6_119 rk_X6_recall_X0_hasVouch rfl (rc_2 w) rfl (Nat.le_of_ble_eq_true rfl) dX6_recall_21 (fun r5 S4 h => ?_)
    refine j_if_ne (tgt := 30) C dX6_recall_24 (by decide) (fun c6 => ?_) (fun c6 => ?_)
    · have h := And.left h c6
      refine j_aload_n C dX6_recall_30 0 rfl rfl ?_
      refine gf_RX6_16_0 C dX6_recall_31 ?_
      refine gf_RX6_122_2 C dX6_recall_34 ?_
      refine j_iload_n C dX6_recall_37 1 rfl rfl ?_
      refine j_dup2 C dX6_recall_38 rfl rfl ?_
      refine al_5 C dX6_recall_39 (And.left h) ?_
      have h := And.right h
      refine j_iconst C dX6_recall_40 (v := 1) (by decide) ?_
      refine j_iload_n C dX6_recall_41 2 rfl rfl ?_
      refine j_ishl C dX6_recall_42 ?_
      refine j_iconst C dX6_recall_43 (v := (-1)) (by decide) ?_
      refine j_ixor C dX6_recall_44 ?_
      refine j_iand C dX6_recall_45 ?_
      refine as_5 C dX6_recall_46 (And.left h) (fun S7 eS7 => ?_)
      have h := And.right h S7 eS7
      refine j_aload_n C dX6_recall_47 0 rfl rfl ?_
      refine j_dup C dX6_recall_48 rfl ?_
      refine gf_RX6_128_0 C dX6_recall_49 ?_
      refine j_iconst C dX6_recall_52 (v := 1) (by decide) ?_
      refine j_iadd C dX6_recall_53 ?_
      refine pf_RX6_128_0 C dX6_recall_54 (fun S8 eS8 => ?_)
      have h := h S8 eS8
      refine j_aload_n C dX6_recall_57 0 rfl rfl ?_
      refine gf_RX6_16_0 C dX6_recall_58 ?_
      refine gf_RX6_122_2 C dX6_recall_61 ?_
      refine j_iload_n C dX6_recall_64 1 rfl rfl ?_
      refine al_5 C dX6_recall_65 (And.left h) ?_
      have h := And.right h
      refine j_callSi (st := []) C [.int (S8.1 5 x1.toNatClampNeg)] (m_J6_bitCount_0f7a4 C.wok h) cv_RX6_110 rk_X6_recall_J6_bitCount_0f7a4 rfl rfl (Nat.le_of_ble_eq_true rfl) dX6_recall_66 (fun r10 S9 h => ?_)
      exact j_iret C dX6_recall_69 h
    · have h := And.right h c6
      refine j_bipush C dX6_recall_27 (v := (-103)) (by decide) ?_
      exact j_iret C dX6_recall_29 h
  · have h := And.right h c3
    refine j_bipush C dX6_recall_12 (v := (-101)) (by decide) ?_
    exact j_iret C dX6_recall_14 h
def rm_X7_recall : Room := { frames := 3, cells := 0, slots := 0, locals := 65 }
theorem rk_X7_recall_X7_areTwo : roomOk rm_X7_areTwo rm_X7_recall 3 := ⟨⟨rfl, rfl⟩, Nat.le_of_ble_eq_true rfl, Nat.le_of_ble_eq_true rfl⟩
theorem rk_X7_recall_X7_has : roomOk rm_X7_has rm_X7_recall 2 := ⟨⟨rfl, rfl⟩, Nat.le_of_ble_eq_true rfl, Nat.le_of_ble_eq_true rfl⟩
theorem rk_X7_recall_X7_size : roomOk rm_X7_size rm_X7_recall 3 := ⟨⟨rfl, rfl⟩, Nat.le_of_ble_eq_true rfl, Nat.le_of_ble_eq_true rfl⟩
set_option maxRecDepth 20000 in
theorem m_X7_recall {l : Launch} {w : Wt} (hw : WOK w) {x1 : Int32} {x2 : Int32} {S : St} {Q0 : Int32 → St → Prop} (h : p_X7_recall x1 x2 S Q0) : MI l w yX7_recall cX7_recall 3 .int rm_X7_recall [rr w 25, .int x1, .int x2] S Q0 := by
  refine m_MI (own := RX7) (lv := [(0, rr w 25), (1, .int x1), (2, .int x2)]) hw (by decide) rfl (Nat.le_of_ble_eq_true rfl) rfl (fun X C => ?_)
  refine j_aload_n C dX7_recall_0 0 rfl rfl ?_
  refine j_iload_n C dX7_recall_1 1 rfl rfl ?_
  refine j_iload_n C dX7_recall_2 2 rfl rfl ?_
  refine j_callVi (st := []) C 25 [.int x1, .int x2] (m_X7_areTwo C.wok h) cv_RX7_151 rk_X7_recall_X7_areTwo rfl (rc_25 w) rfl (Nat.le_of_ble_eq_true rfl) dX7_recall_3 (fun r2 S1 h => ?_)
  refine j_if_ne (tgt := 12) C dX7_recall_6 (by decide) (fun c3 => ?_) (fun c3 => ?_)
  · have h := And.left h c3
    refine j_aload_n C dX7_recall_12 0 rfl rfl ?_
    refine gf_RX7_13_25 C dX7_recall_13 ?_
    refine j_iload_n C dX7_recall_16 1 rfl rfl ?_
    refine al_27 C dX7_recall_17 (And.left h) ?_
    have h := And.right h
    refine j_iload_n C dX7_recall_18 2 rfl rfl ?_
    refine j_callSi (st := []) C [.int (S1.1 27 x1.toNatClampNeg), .int x2] (m_X7_has C.wok h) cv_RX7_132 rk_X7_recall_X7_has rfl rfl (Nat.le_of_ble_eq_true rfl) dX7_recall_19 (fun r5 S4 h => ?_)
    refine j_if_ne (tgt := 28) C dX7_recall_22 (by decide) (fun c6 => ?_) (fun c6 => ?_)
    · have h := And.left h c6
      refine j_aload_n C dX7_recall_28 0 rfl rfl ?_
      refine gf_RX7_13_25 C dX7_recall_29 ?_
      refine j_iload_n C dX7_recall_32 1 rfl rfl ?_
      refine j_dup2 C dX7_recall_33 rfl rfl ?_
      refine al_27 C dX7_recall_34 (And.left h) ?_
      have h := And.right h
      refine j_iconst C dX7_recall_35 (v := 1) (by decide) ?_
      refine j_iload_n C dX7_recall_36 2 rfl rfl ?_
      refine j_ishl C dX7_recall_37 ?_
      refine j_iconst C dX7_recall_38 (v := (-1)) (by decide) ?_
      refine j_ixor C dX7_recall_39 ?_
      refine j_iand C dX7_recall_40 ?_
      refine as_27 C dX7_recall_41 (And.left h) (fun S7 eS7 => ?_)
      have h := And.right h S7 eS7
      refine j_aload_n C dX7_recall_42 0 rfl rfl ?_
      refine j_dup C dX7_recall_43 rfl ?_
      refine gf_RX7_157_25 C dX7_recall_44 ?_
      refine j_iconst C dX7_recall_47 (v := 1) (by decide) ?_
      refine j_iadd C dX7_recall_48 ?_
      refine pf_RX7_157_25 C dX7_recall_49 (fun S8 eS8 => ?_)
      have h := h S8 eS8
      refine j_aload_n C dX7_recall_52 0 rfl rfl ?_
      refine gf_RX7_13_25 C dX7_recall_53 ?_
      refine j_iload_n C dX7_recall_56 1 rfl rfl ?_
      refine al_27 C dX7_recall_57 (And.left h) ?_
      have h := And.right h
      refine j_callSi (st := []) C [.int (S8.1 27 x1.toNatClampNeg)] (m_X7_size C.wok h) cv_RX7_71 rk_X7_recall_X7_size rfl rfl (Nat.le_of_ble_eq_true rfl) dX7_recall_58 (fun r10 S9 h => ?_)
      exact j_iret C dX7_recall_61 h
    · have h := And.right h c6
      refine j_bipush C dX7_recall_25 (v := (-103)) (by decide) ?_
      exact j_iret C dX7_recall_27 h
  · have h := And.right h c3
    refine j_bipush C dX7_recall_9 (v := (-101)) (by decide) ?_
    exact j_iret C dX7_recall_11 h
def rm_X6_bound : Room := { frames := 0, cells := 0, slots := 0, locals := 0 }
set_option maxRecDepth 20000 in
theorem m_X6_bound {l : Launch} {w : Wt} (hw : WOK w) {x1 : Int32} {x2 : Int32} {S : St} {Q0 : Int32 → St → Prop} (h : p_X6_bound x1 x2 S Q0) : MI l w yX6_bound cX6_bound 4 .int rm_X6_bound [rr w 0, .int x1, .int x2] S Q0 := by
  refine m_MI (own := RX6) (lv := [(0, rr w 0), (1, .int x1), (2, .int x2)]) hw (by decide) rfl (Nat.le_of_ble_eq_true rfl) rfl (fun X C => ?_)
  refine j_iload_n C dX6_bound_0 1 rfl rfl ?_
  refine j_if_lt (tgt := 15) C dX6_bound_1 (by decide) (fun c1 => ?_) (fun c1 => ?_)
  · have h := And.left h c1
    refine j_bipush C dX6_bound_15 (v := (-101)) (by decide) ?_
    exact j_iret C dX6_bound_17 h
  · have h := And.right h c1
    refine j_iload_n C dX6_bound_4 1 rfl rfl ?_
    refine j_aload_n C dX6_bound_5 0 rfl rfl ?_
    refine gf_RX6_16_0 C dX6_bound_6 ?_
    refine gf_RX6_131_2 C dX6_bound_9 ?_
    refine j_icmp_lt (tgt := 18) C dX6_bound_12 (by decide) (fun c2 => ?_) (fun c2 => ?_)
    · have h := And.left h c2
      refine j_iload_n C dX6_bound_18 2 rfl rfl ?_
      refine j_if_lt (tgt := 28) C dX6_bound_19 (by decide) (fun c3 => ?_) (fun c3 => ?_)
      · have h := And.left h c3
        refine j_bipush C dX6_bound_28 (v := (-102)) (by decide) ?_
        exact j_iret C dX6_bound_30 h
      · have h := And.right h c3
        refine j_iload_n C dX6_bound_22 2 rfl rfl ?_
        refine j_bipush C dX6_bound_23 (v := 9) (by decide) ?_
        refine j_icmp_le (tgt := 31) C dX6_bound_25 (by decide) (fun c4 => ?_) (fun c4 => ?_)
        · have h := And.left h c4
          refine j_aload_n C dX6_bound_31 0 rfl rfl ?_
          refine gf_RX6_16_0 C dX6_bound_32 ?_
          refine gf_RX6_134_2 C dX6_bound_35 ?_
          refine j_iload_n C dX6_bound_38 1 rfl rfl ?_
          refine al_3 C dX6_bound_39 (And.left h) ?_
          have h := And.right h
          refine j_istore_n (lv' := [(3, .int (S.1 3 x1.toNatClampNeg)), (0, rr w 0), (1, .int x1), (2, .int x2)]) C dX6_bound_40 rfl (by decide) rfl ?_
          refine j_aload_n C dX6_bound_41 1 rfl rfl ?_
          refine gf_RX6_16_0 C dX6_bound_42 ?_
          refine gf_RX6_134_2 C dX6_bound_45 ?_
          refine j_iload_n C dX6_bound_48 2 rfl rfl ?_
          refine j_iload_n C dX6_bound_49 3 rfl rfl ?_
          refine as_3 C dX6_bound_50 (And.left h) (fun S5 eS5 => ?_)
          have h := And.right h S5 eS5
          refine j_iload_n C dX6_bound_51 0 rfl rfl ?_
          exact j_iret C dX6_bound_52 h
        · have h := And.right h c4
          refine j_bipush C dX6_bound_28 (v := (-102)) (by decide) ?_
          exact j_iret C dX6_bound_30 h
    · have h := And.right h c2
      refine j_bipush C dX6_bound_15 (v := (-101)) (by decide) ?_
      exact j_iret C dX6_bound_17 h
def rm_X7_bound : Room := { frames := 1, cells := 0, slots := 0, locals := 22 }
theorem rk_X7_bound_X7_isCircle : roomOk rm_X7_isCircle rm_X7_bound 1 := ⟨⟨rfl, rfl⟩, Nat.le_of_ble_eq_true rfl, Nat.le_of_ble_eq_true rfl⟩
theorem rk_X7_bound_X7_within : roomOk rm_X7_within rm_X7_bound 3 := ⟨⟨rfl, rfl⟩, Nat.le_of_ble_eq_true rfl, Nat.le_of_ble_eq_true rfl⟩
set_option maxRecDepth 20000 in
theorem m_X7_bound {l : Launch} {w : Wt} (hw : WOK w) {x1 : Int32} {x2 : Int32} {S : St} {Q0 : Int32 → St → Prop} (h : p_X7_bound x1 x2 S Q0) : MI l w yX7_bound cX7_bound 4 .int rm_X7_bound [rr w 25, .int x1, .int x2] S Q0 := by
  refine m_MI (own := RX7) (lv := [(0, rr w 25), (1, .int x1), (2, .int x2)]) hw (by decide) rfl (Nat.le_of_ble_eq_true rfl) rfl (fun X C => ?_)
  refine j_aload_n C dX7_bound_0 0 rfl rfl ?_
  refine j_callVi (st := []) C 25 [] (m_X7_isCircle C.wok h) cv_RX7_139 rk_X7_bound_X7_isCircle rfl (rc_25 w) rfl (Nat.le_of_ble_eq_true rfl) dX7_bound_1 (fun r2 S1 h => ?_)
  refine j_if_eq (tgt := 21) C dX7_bound_4 (by decide) (fun c3 => ?_) (fun c3 => ?_)
  · have h := And.left h c3
    refine j_bipush C dX7_bound_21 (v := (-101)) (by decide) ?_
    exact j_iret C dX7_bound_23 h
  · have h := And.right h c3
    refine j_iload_n C dX7_bound_7 1 rfl rfl ?_
    refine j_iconst C dX7_bound_8 (v := 0) (by decide) ?_
    refine j_aload_n C dX7_bound_9 0 rfl rfl ?_
    refine gf_RX7_114_25 C dX7_bound_10 ?_
    refine j_iconst C dX7_bound_13 (v := 1) (by decide) ?_
    refine j_isub C dX7_bound_14 ?_
    refine j_callSi (st := []) C [.int x1, .int 0, .int ((S1.1 25 3) - 1)] (m_X7_within C.wok h) cv_RX7_50 rk_X7_bound_X7_within rfl rfl (Nat.le_of_ble_eq_true rfl) dX7_bound_15 (fun r5 S4 h => ?_)
    refine j_if_ne (tgt := 24) C dX7_bound_18 (by decide) (fun c6 => ?_) (fun c6 => ?_)
    · have h := And.left h c6
      refine j_iload_n C dX7_bound_24 2 rfl rfl ?_
      refine j_iconst C dX7_bound_25 (v := 0) (by decide) ?_
      refine j_bipush C dX7_bound_26 (v := 9) (by decide) ?_
      refine j_callSi (st := []) C [.int x2, .int 0, .int 9] (m_X7_within C.wok h) cv_RX7_50 rk_X7_bound_X7_within rfl rfl (Nat.le_of_ble_eq_true rfl) dX7_bound_28 (fun r8 S7 h => ?_)
      refine j_if_ne (tgt := 37) C dX7_bound_31 (by decide) (fun c9 => ?_) (fun c9 => ?_)
      · have h := And.left h c9
        refine j_aload_n C dX7_bound_37 0 rfl rfl ?_
        refine gf_RX7_16_25 C dX7_bound_38 ?_
        refine j_iload_n C dX7_bound_41 1 rfl rfl ?_
        refine al_28 C dX7_bound_42 (And.left h) ?_
        have h := And.right h
        refine j_istore_n (lv' := [(3, .int (S7.1 28 x1.toNatClampNeg)), (0, rr w 25), (1, .int x1), (2, .int x2)]) C dX7_bound_43 rfl (by decide) rfl ?_
        refine j_aload_n C dX7_bound_44 1 rfl rfl ?_
        refine gf_RX7_16_25 C dX7_bound_45 ?_
        refine j_iload_n C dX7_bound_48 2 rfl rfl ?_
        refine j_iload_n C dX7_bound_49 3 rfl rfl ?_
        refine as_28 C dX7_bound_50 (And.left h) (fun S10 eS10 => ?_)
        have h := And.right h S10 eS10
        refine j_iload_n C dX7_bound_51 0 rfl rfl ?_
        exact j_iret C dX7_bound_52 h
      · have h := And.right h c9
        refine j_bipush C dX7_bound_34 (v := (-102)) (by decide) ?_
        exact j_iret C dX7_bound_36 h
    · have h := And.right h c6
      refine j_bipush C dX7_bound_21 (v := (-101)) (by decide) ?_
      exact j_iret C dX7_bound_23 h
def rm_X0_vouchCount : Room := { frames := 1, cells := 0, slots := 0, locals := 20 }
theorem rk_X0_vouchCount_J6_bitCount_0f7a4 : roomOk rm_J6_bitCount_0f7a4 rm_X0_vouchCount 1 := ⟨⟨rfl, rfl⟩, Nat.le_of_ble_eq_true rfl, Nat.le_of_ble_eq_true rfl⟩
set_option maxRecDepth 20000 in
theorem t_X0_vouchCount_4 {X : Mx} {w : Wt} {l0 : Launch} {Q0 : Int32 → St → Prop} (C : Cx X w l0 cX0_vouchCount 3 RX0 rm_X0_vouchCount (some .int)) {x1 : Int32} {x2 : Int32} {S : St} (h : Lq (p_X0_vouchCount_4 Q0) (x1, x2, S)) : J X w (QI X w Q0) 4 [(0, rr w 2), (1, .int x1), (2, .int x2)] [] S := by
  have key : ∀ a : Int32 × Int32 × St, Lq (p_X0_vouchCount_4 Q0) a → J X w (QI X w Q0) 4 [(0, rr w 2), (1, .int a.1), (2, .int a.2.1)] [] a.2.2 := by
    intro a ha
    refine Lq_use (G := fun a => J X w (QI X w Q0) 4 [(0, rr w 2), (1, .int a.1), (2, .int a.2.1)] [] a.2.2) ?_ ha
    intro K4 hK a h
    obtain ⟨x1, x2, S⟩ := a
    have hK4 : ∀ (x1 : Int32) (x2 : Int32) (S : St), K4 (x1, x2, S) → J X w (QI X w Q0) 4 [(0, rr w 2), (1, .int x1), (2, .int x2)] [] S := fun x1 x2 S h => hK (x1, x2, S) h
    show J X w (QI X w Q0) 4 [(0, rr w 2), (1, .int x1), (2, .int x2)] [] S
    refine j_iload_n C dX0_vouchCount_4 2 rfl rfl ?_
    refine j_aload_n C dX0_vouchCount_5 0 rfl rfl ?_
    refine gf_RX0_21_2 C dX0_vouchCount_6 ?_
    refine j_icmp_ge (tgt := 30) C dX0_vouchCount_9 (by decide) (fun c1 => ?_) (fun c1 => ?_)
    · have h := And.left h c1
      refine j_iload_n C dX0_vouchCount_30 1 rfl rfl ?_
      exact j_iret C dX0_vouchCount_31 h
    · have h := And.right h c1
      refine j_iload_n C dX0_vouchCount_12 1 rfl rfl ?_
      refine j_aload_n C dX0_vouchCount_13 0 rfl rfl ?_
      refine gf_RX0_18_2 C dX0_vouchCount_14 ?_
      refine j_iload_n C dX0_vouchCount_17 2 rfl rfl ?_
      refine al_5 C dX0_vouchCount_18 (And.left h) ?_
      have h := And.right h
      refine j_callSi (st := [.int x1]) C [.int (S.1 5 x2.toNatClampNeg)] (m_J6_bitCount_0f7a4 C.wok h) cv_RX0_52 rk_X0_vouchCount_J6_bitCount_0f7a4 rfl rfl (Nat.le_of_ble_eq_true rfl) dX0_vouchCount_19 (fun r3 S2 h => ?_)
      refine j_iadd C dX0_vouchCount_22 ?_
      refine j_istore_n (lv' := [(1, .int (x1 + r3)), (0, rr w 2), (2, .int x2)]) C dX0_vouchCount_23 rfl (by decide) rfl ?_
      refine j_iinc (lv' := [(2, .int (x2 + 1)), (1, .int (x1 + r3)), (0, rr w 2)]) C dX0_vouchCount_24 2 rfl rfl (by decide) rfl ?_
      refine j_goto (tgt := 4) C dX0_vouchCount_27 (by decide) ?_
      refine j_sub [2, 1, 0] rfl ?_
      exact hK4 _ _ _ h
  exact key (x1, x2, S) h
set_option maxRecDepth 20000 in
theorem m_X0_vouchCount {l : Launch} {w : Wt} (hw : WOK w) {S : St} {Q0 : Int32 → St → Prop} (h : p_X0_vouchCount S Q0) : MI l w yX0_vouchCount cX0_vouchCount 3 .int rm_X0_vouchCount [rr w 2] S Q0 := by
  refine m_MI (own := RX0) (lv := [(0, rr w 2)]) hw (by decide) rfl (Nat.le_of_ble_eq_true rfl) rfl (fun X C => ?_)
  refine j_iconst C dX0_vouchCount_0 (v := 0) (by decide) ?_
  refine j_istore_n (lv' := [(1, .int 0), (0, rr w 2)]) C dX0_vouchCount_1 rfl (by decide) rfl ?_
  refine j_iconst C dX0_vouchCount_2 (v := 0) (by decide) ?_
  refine j_istore_n (lv' := [(2, .int 0), (1, .int 0), (0, rr w 2)]) C dX0_vouchCount_3 rfl (by decide) rfl ?_
  refine j_sub [2, 1, 0] rfl ?_
  exact t_X0_vouchCount_4 C h
def rm_X4_copy : Room := { frames := 1, cells := 0, slots := 0, locals := 26 }
theorem rk_X4_copy_X0_ofKind : roomOk rm_X0_ofKind rm_X4_copy 4 := ⟨⟨rfl, rfl⟩, Nat.le_of_ble_eq_true rfl, Nat.le_of_ble_eq_true rfl⟩
set_option maxRecDepth 20000 in
theorem m_X4_copy {l : Launch} {w : Wt} (hw : WOK w) {S : St} {Q0 : St → Prop} (h : p_X4_copy S Q0) : MV l w yX4_copy cX4_copy 2 rm_X4_copy [rr w 14, rr w 2] S Q0 := by
  refine m_MV (own := RX4) (lv := [(0, rr w 14), (1, rr w 2)]) hw (by decide) rfl (Nat.le_of_ble_eq_true rfl) rfl (fun X C => ?_)
  refine j_aload_n C dX4_copy_0 0 rfl rfl ?_
  refine j_aload_n C dX4_copy_1 1 rfl rfl ?_
  refine gf_RX4_21_2 C dX4_copy_2 ?_
  refine pf_RX4_27_14 C dX4_copy_5 (fun S1 eS1 => ?_)
  have h := h S1 eS1
  refine j_aload_n C dX4_copy_8 0 rfl rfl ?_
  refine j_aload_n C dX4_copy_9 1 rfl rfl ?_
  refine j_iconst C dX4_copy_10 (v := 1) (by decide) ?_
  refine j_callVi (st := [rr w 14]) C 2 [.int 1] (m_X0_ofKind C.wok h) cv_RX4_28 rk_X4_copy_X0_ofKind rfl (rc_2 w) rfl (Nat.le_of_ble_eq_true rfl) dX4_copy_11 (fun r3 S2 h => ?_)
  refine pf_RX4_32_14 C dX4_copy_14 (fun S4 eS4 => ?_)
  have h := h S4 eS4
  refine j_aload_n C dX4_copy_17 1 rfl rfl ?_
  refine gf_RX4_35_2 C dX4_copy_18 ?_
  refine j_iconst C dX4_copy_21 (v := 0) (by decide) ?_
  refine j_aload_n C dX4_copy_22 0 rfl rfl ?_
  refine gf_RX4_9_14 C dX4_copy_23 ?_
  refine j_iconst C dX4_copy_26 (v := 0) (by decide) ?_
  refine j_bipush C dX4_copy_27 (v := 9) (by decide) ?_
  refine cp_RX4_36_5_15_9 C dX4_copy_29 (Nat.le_of_ble_eq_true rfl) (Nat.le_of_ble_eq_true rfl) (fun S5 eS5 => ?_)
  have h := h S5 eS5
  exact j_vret C dX4_copy_32 h
