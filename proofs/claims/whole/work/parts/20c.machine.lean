def rm_J7_fill_53178_c16 : Room := { frames := 0, cells := 0, slots := 0, locals := 0 }
set_option maxRecDepth 20000 in
theorem t_J7_fill_53178_c16_5 {X : Mx} {w : Wt} {l0 : Launch} {Q0 : St → Prop} (C : Cx X w l0 cJ7_fill_53178 4 RJ7 rm_J7_fill_53178_c16 none) {x1 : Int32} {x2 : Int32} {x3 : Int32} {S : St} (h : Lq (p_J7_fill_53178_c16_5 Q0) (x1, x2, x3, S)) : J X w (QV X w Q0) 5 [(0, rr w 16), (1, .int x1), (2, .int x2), (3, .int x3)] [] S := by
  have key : ∀ a : Int32 × Int32 × Int32 × St, Lq (p_J7_fill_53178_c16_5 Q0) a → J X w (QV X w Q0) 5 [(0, rr w 16), (1, .int a.1), (2, .int a.2.1), (3, .int a.2.2.1)] [] a.2.2.2 := by
    intro a ha
    refine Lq_use (G := fun a => J X w (QV X w Q0) 5 [(0, rr w 16), (1, .int a.1), (2, .int a.2.1), (3, .int a.2.2.1)] [] a.2.2.2) ?_ ha
    intro K5 hK a h
    obtain ⟨x1, x2, x3, S⟩ := a
    have hK5 : ∀ (x1 : Int32) (x2 : Int32) (x3 : Int32) (S : St), K5 (x1, x2, x3, S) → J X w (QV X w Q0) 5 [(0, rr w 16), (1, .int x1), (2, .int x2), (3, .int x3)] [] S := fun x1 x2 x3 S h => hK (x1, x2, x3, S) h
    show J X w (QV X w Q0) 5 [(0, rr w 16), (1, .int x1), (2, .int x2), (3, .int x3)] [] S
    refine j_iload_n C dJ7_fill_53178_5 2 rfl rfl ?_
    refine j_iload_n C dJ7_fill_53178_6 3 rfl rfl ?_
    refine j_icmp_ge (tgt := 20) C dJ7_fill_53178_7 (by decide) (fun c1 => ?_) (fun c1 => ?_)
    · have h := And.left h c1
      exact j_vret C dJ7_fill_53178_20 h
    · have h := And.right h c1
      refine j_aload_n C dJ7_fill_53178_10 0 rfl rfl ?_
      refine j_iload_n C dJ7_fill_53178_11 2 rfl rfl ?_
      refine j_iload_n C dJ7_fill_53178_12 1 rfl rfl ?_
      refine as_16 C dJ7_fill_53178_13 (And.left h) (fun S2 eS2 => ?_)
      have h := And.right h S2 eS2
      refine j_iinc (lv' := [(2, .int (x2 + 1)), (0, rr w 16), (1, .int x1), (3, .int x3)]) C dJ7_fill_53178_14 2 rfl rfl (by decide) rfl ?_
      refine j_goto (tgt := 5) C dJ7_fill_53178_17 (by decide) ?_
      refine j_sub [1, 2, 0, 3] rfl ?_
      exact hK5 _ _ _ _ h
  exact key (x1, x2, x3, S) h
set_option maxRecDepth 20000 in
theorem m_J7_fill_53178_c16 {l : Launch} {w : Wt} (hw : WOK w) {x1 : Int32} {S : St} {Q0 : St → Prop} (h : p_J7_fill_53178_c16 x1 S Q0) : MV l w yJ7_fill_53178 cJ7_fill_53178 4 rm_J7_fill_53178_c16 [rr w 16, .int x1] S Q0 := by
  refine m_MV (own := RJ7) (lv := [(0, rr w 16), (1, .int x1)]) hw (by decide) rfl (Nat.le_of_ble_eq_true rfl) rfl (fun X C => ?_)
  refine j_iconst C dJ7_fill_53178_0 (v := 0) (by decide) ?_
  refine j_istore_n (lv' := [(2, .int 0), (0, rr w 16), (1, .int x1)]) C dJ7_fill_53178_1 rfl (by decide) rfl ?_
  refine j_aload_n C dJ7_fill_53178_2 1 rfl rfl ?_
  refine j_alenI C 16 rfl (v := 9) (by decide) dJ7_fill_53178_3 ?_
  refine j_istore_n (lv' := [(3, .int 9), (2, .int 0), (0, rr w 16), (1, .int x1)]) C dJ7_fill_53178_4 rfl (by decide) rfl ?_
  refine j_sub [2, 3, 1, 0] rfl ?_
  exact t_J7_fill_53178_c16_5 C h
def rm_J7_fill_53178_c17 : Room := { frames := 0, cells := 0, slots := 0, locals := 0 }
set_option maxRecDepth 20000 in
theorem t_J7_fill_53178_c17_5 {X : Mx} {w : Wt} {l0 : Launch} {Q0 : St → Prop} (C : Cx X w l0 cJ7_fill_53178 4 RJ7 rm_J7_fill_53178_c17 none) {x1 : Int32} {x2 : Int32} {x3 : Int32} {S : St} (h : Lq (p_J7_fill_53178_c17_5 Q0) (x1, x2, x3, S)) : J X w (QV X w Q0) 5 [(0, rr w 17), (1, .int x1), (2, .int x2), (3, .int x3)] [] S := by
  have key : ∀ a : Int32 × Int32 × Int32 × St, Lq (p_J7_fill_53178_c17_5 Q0) a → J X w (QV X w Q0) 5 [(0, rr w 17), (1, .int a.1), (2, .int a.2.1), (3, .int a.2.2.1)] [] a.2.2.2 := by
    intro a ha
    refine Lq_use (G := fun a => J X w (QV X w Q0) 5 [(0, rr w 17), (1, .int a.1), (2, .int a.2.1), (3, .int a.2.2.1)] [] a.2.2.2) ?_ ha
    intro K5 hK a h
    obtain ⟨x1, x2, x3, S⟩ := a
    have hK5 : ∀ (x1 : Int32) (x2 : Int32) (x3 : Int32) (S : St), K5 (x1, x2, x3, S) → J X w (QV X w Q0) 5 [(0, rr w 17), (1, .int x1), (2, .int x2), (3, .int x3)] [] S := fun x1 x2 x3 S h => hK (x1, x2, x3, S) h
    show J X w (QV X w Q0) 5 [(0, rr w 17), (1, .int x1), (2, .int x2), (3, .int x3)] [] S
    refine j_iload_n C dJ7_fill_53178_5 2 rfl rfl ?_
    refine j_iload_n C dJ7_fill_53178_6 3 rfl rfl ?_
    refine j_icmp_ge (tgt := 20) C dJ7_fill_53178_7 (by decide) (fun c1 => ?_) (fun c1 => ?_)
    · have h := And.left h c1
      exact j_vret C dJ7_fill_53178_20 h
    · have h := And.right h c1
      refine j_aload_n C dJ7_fill_53178_10 0 rfl rfl ?_
      refine j_iload_n C dJ7_fill_53178_11 2 rfl rfl ?_
      refine j_iload_n C dJ7_fill_53178_12 1 rfl rfl ?_
      refine as_17 C dJ7_fill_53178_13 (And.left h) (fun S2 eS2 => ?_)
      have h := And.right h S2 eS2
      refine j_iinc (lv' := [(2, .int (x2 + 1)), (0, rr w 17), (1, .int x1), (3, .int x3)]) C dJ7_fill_53178_14 2 rfl rfl (by decide) rfl ?_
      refine j_goto (tgt := 5) C dJ7_fill_53178_17 (by decide) ?_
      refine j_sub [1, 2, 0, 3] rfl ?_
      exact hK5 _ _ _ _ h
  exact key (x1, x2, x3, S) h
set_option maxRecDepth 20000 in
theorem m_J7_fill_53178_c17 {l : Launch} {w : Wt} (hw : WOK w) {x1 : Int32} {S : St} {Q0 : St → Prop} (h : p_J7_fill_53178_c17 x1 S Q0) : MV l w yJ7_fill_53178 cJ7_fill_53178 4 rm_J7_fill_53178_c17 [rr w 17, .int x1] S Q0 := by
  refine m_MV (own := RJ7) (lv := [(0, rr w 17), (1, .int x1)]) hw (by decide) rfl (Nat.le_of_ble_eq_true rfl) rfl (fun X C => ?_)
  refine j_iconst C dJ7_fill_53178_0 (v := 0) (by decide) ?_
  refine j_istore_n (lv' := [(2, .int 0), (0, rr w 17), (1, .int x1)]) C dJ7_fill_53178_1 rfl (by decide) rfl ?_
  refine j_aload_n C dJ7_fill_53178_2 1 rfl rfl ?_
  refine j_alenI C 17 rfl (v := 9) (by decide) dJ7_fill_53178_3 ?_
  refine j_istore_n (lv' := [(3, .int 9), (2, .int 0), (0, rr w 17), (1, .int x1)]) C dJ7_fill_53178_4 rfl (by decide) rfl ?_
  refine j_sub [2, 3, 1, 0] rfl ?_
  exact t_J7_fill_53178_c17_5 C h
def rm_X4_vouchedBy : Room := { frames := 1, cells := 0, slots := 0, locals := 21 }
theorem rk_X4_vouchedBy_X6_bit : roomOk rm_X6_bit rm_X4_vouchedBy 2 := ⟨⟨rfl, rfl⟩, Nat.le_of_ble_eq_true rfl, Nat.le_of_ble_eq_true rfl⟩
set_option maxRecDepth 20000 in
theorem t_X4_vouchedBy_30 {X : Mx} {w : Wt} {l0 : Launch} {Q0 : Int32 → St → Prop} {K4 : Int32 × Int32 × Int32 × St → Prop} (C : Cx X w l0 cX4_vouchedBy 4 RX4 rm_X4_vouchedBy (some .int)) (hK4 : ∀ (x1 : Int32) (x2 : Int32) (x3 : Int32) (S : St), K4 (x1, x2, x3, S) → J X w (QI X w Q0) 4 [(0, rr w 14), (1, .int x1), (2, .int x2), (3, .int x3)] [] S) {x1 : Int32} {x2 : Int32} {x3 : Int32} {S : St} (h : p_X4_vouchedBy_30 Q0 K4 x1 x2 x3 S) : J X w (QI X w Q0) 30 [(0, rr w 14), (1, .int x1), (2, .int x2), (3, .int x3)] [] S := by
  refine j_iinc (lv' := [(3, .int (x3 + 1)), (0, rr w 14), (1, .int x1), (2, .int x2)]) C dX4_vouchedBy_30 3 rfl rfl (by decide) rfl ?_
  refine j_goto (tgt := 4) C dX4_vouchedBy_33 (by decide) ?_
  refine j_sub [1, 2, 3, 0] rfl ?_
  exact hK4 _ _ _ _ h
set_option maxRecDepth 20000 in
theorem t_X4_vouchedBy_4 {X : Mx} {w : Wt} {l0 : Launch} {Q0 : Int32 → St → Prop} (C : Cx X w l0 cX4_vouchedBy 4 RX4 rm_X4_vouchedBy (some .int)) {x1 : Int32} {x2 : Int32} {x3 : Int32} {S : St} (h : Lq (p_X4_vouchedBy_4 Q0) (x1, x2, x3, S)) : J X w (QI X w Q0) 4 [(0, rr w 14), (1, .int x1), (2, .int x2), (3, .int x3)] [] S := by
  have key : ∀ a : Int32 × Int32 × Int32 × St, Lq (p_X4_vouchedBy_4 Q0) a → J X w (QI X w Q0) 4 [(0, rr w 14), (1, .int a.1), (2, .int a.2.1), (3, .int a.2.2.1)] [] a.2.2.2 := by
    intro a ha
    refine Lq_use (G := fun a => J X w (QI X w Q0) 4 [(0, rr w 14), (1, .int a.1), (2, .int a.2.1), (3, .int a.2.2.1)] [] a.2.2.2) ?_ ha
    intro K4 hK a h
    obtain ⟨x1, x2, x3, S⟩ := a
    have hK4 : ∀ (x1 : Int32) (x2 : Int32) (x3 : Int32) (S : St), K4 (x1, x2, x3, S) → J X w (QI X w Q0) 4 [(0, rr w 14), (1, .int x1), (2, .int x2), (3, .int x3)] [] S := fun x1 x2 x3 S h => hK (x1, x2, x3, S) h
    show J X w (QI X w Q0) 4 [(0, rr w 14), (1, .int x1), (2, .int x2), (3, .int x3)] [] S
    refine j_iload_n C dX4_vouchedBy_4 3 rfl rfl ?_
    refine j_aload_n C dX4_vouchedBy_5 0 rfl rfl ?_
    refine gf_RX4_27_14 C dX4_vouchedBy_6 ?_
    refine j_icmp_ge (tgt := 36) C dX4_vouchedBy_9 (by decide) (fun c1 => ?_) (fun c1 => ?_)
    · have h := And.left h c1
      refine j_iload_n C dX4_vouchedBy_36 2 rfl rfl ?_
      exact j_iret C dX4_vouchedBy_37 h
    · have h := And.right h c1
      refine j_iload_n C dX4_vouchedBy_12 1 rfl rfl ?_
      refine j_iload_n C dX4_vouchedBy_13 3 rfl rfl ?_
      refine j_callNi (st := []) C [.int x1, .int x3] (m_X6_bit C.wok h) cv_RX4_42 rk_X4_vouchedBy_X6_bit rfl rfl (Nat.le_of_ble_eq_true rfl) dX4_vouchedBy_14 (fun r3 S2 h => ?_)
      refine j_iconst C dX4_vouchedBy_17 (v := 1) (by decide) ?_
      refine j_icmp_ne (tgt := 30) C dX4_vouchedBy_18 (by decide) (fun c4 => ?_) (fun c4 => ?_)
      · have h := And.left h c4
        exact t_X4_vouchedBy_30 C hK4 h
      · have h := And.right h c4
        refine j_iload_n C dX4_vouchedBy_21 2 rfl rfl ?_
        refine j_aload_n C dX4_vouchedBy_22 0 rfl rfl ?_
        refine gf_RX4_9_14 C dX4_vouchedBy_23 ?_
        refine j_iload_n C dX4_vouchedBy_26 3 rfl rfl ?_
        refine al_15 C dX4_vouchedBy_27 (And.left h) ?_
        have h := And.right h
        refine j_ior C dX4_vouchedBy_28 ?_
        refine j_istore_n (lv' := [(2, .int (x2 ||| (S2.1 15 x3.toNatClampNeg))), (0, rr w 14), (1, .int x1), (3, .int x3)]) C dX4_vouchedBy_29 rfl (by decide) rfl ?_
        refine j_sub [1, 2, 0, 3] rfl ?_
        exact t_X4_vouchedBy_30 C hK4 h
  exact key (x1, x2, x3, S) h
set_option maxRecDepth 20000 in
theorem m_X4_vouchedBy {l : Launch} {w : Wt} (hw : WOK w) {x1 : Int32} {S : St} {Q0 : Int32 → St → Prop} (h : p_X4_vouchedBy x1 S Q0) : MI l w yX4_vouchedBy cX4_vouchedBy 4 .int rm_X4_vouchedBy [rr w 14, .int x1] S Q0 := by
  refine m_MI (own := RX4) (lv := [(0, rr w 14), (1, .int x1)]) hw (by decide) rfl (Nat.le_of_ble_eq_true rfl) rfl (fun X C => ?_)
  refine j_iconst C dX4_vouchedBy_0 (v := 0) (by decide) ?_
  refine j_istore_n (lv' := [(2, .int 0), (0, rr w 14), (1, .int x1)]) C dX4_vouchedBy_1 rfl (by decide) rfl ?_
  refine j_iconst C dX4_vouchedBy_2 (v := 0) (by decide) ?_
  refine j_istore_n (lv' := [(3, .int 0), (2, .int 0), (0, rr w 14), (1, .int x1)]) C dX4_vouchedBy_3 rfl (by decide) rfl ?_
  refine j_sub [2, 3, 1, 0] rfl ?_
  exact t_X4_vouchedBy_4 C h
def rm_X4_settle : Room := { frames := 2, cells := 0, slots := 0, locals := 44 }
theorem rk_X4_settle_J7_fill_53178_c16 : roomOk rm_J7_fill_53178_c16 rm_X4_settle 4 := ⟨⟨rfl, rfl⟩, Nat.le_of_ble_eq_true rfl, Nat.le_of_ble_eq_true rfl⟩
theorem rk_X4_settle_J7_fill_53178_c17 : roomOk rm_J7_fill_53178_c17 rm_X4_settle 4 := ⟨⟨rfl, rfl⟩, Nat.le_of_ble_eq_true rfl, Nat.le_of_ble_eq_true rfl⟩
theorem rk_X4_settle_X4_vouchedBy : roomOk rm_X4_vouchedBy rm_X4_settle 4 := ⟨⟨rfl, rfl⟩, Nat.le_of_ble_eq_true rfl, Nat.le_of_ble_eq_true rfl⟩
theorem rk_X4_settle_X6_bit : roomOk rm_X6_bit rm_X4_settle 2 := ⟨⟨rfl, rfl⟩, Nat.le_of_ble_eq_true rfl, Nat.le_of_ble_eq_true rfl⟩
set_option maxRecDepth 20000 in
theorem t_X4_settle_101 {X : Mx} {w : Wt} {l0 : Launch} {Q0 : St → Prop} {K26 : Int32 × Int32 × Int32 × St → Prop} {K64 : Int32 × Int32 × Int32 × Int32 × Int32 × St → Prop} (C : Cx X w l0 cX4_settle 7 RX4 rm_X4_settle none) (hK26 : ∀ (x2 : Int32) (x3 : Int32) (x4 : Int32) (S : St), K26 (x2, x3, x4, S) → J X w (QV X w Q0) 26 [(0, rr w 14), (1, rr w 2), (2, .int x2), (3, .int x3), (4, .int x4)] [] S) (hK64 : ∀ (x2 : Int32) (x3 : Int32) (x4 : Int32) (x5 : Int32) (x6 : Int32) (S : St), K64 (x2, x3, x4, x5, x6, S) → J X w (QV X w Q0) 64 [(0, rr w 14), (1, rr w 2), (2, .int x2), (3, .int x3), (4, .int x4), (5, .int x5), (6, .int x6)] [] S) {x2 : Int32} {x3 : Int32} {x4 : Int32} {x5 : Int32} {x6 : Int32} {S : St} (h : p_X4_settle_101 Q0 K26 K64 x2 x3 x4 x5 x6 S) : J X w (QV X w Q0) 101 [(0, rr w 14), (1, rr w 2), (2, .int x2), (3, .int x3), (4, .int x4), (5, .int x5), (6, .int x6)] [] S := by
  refine j_iinc (lv' := [(6, .int (x6 + 1)), (0, rr w 14), (1, rr w 2), (2, .int x2), (3, .int x3), (4, .int x4), (5, .int x5)]) C dX4_settle_101 6 rfl rfl (by decide) rfl ?_
  refine j_goto (tgt := 64) C dX4_settle_104 (by decide) ?_
  refine j_sub [1, 2, 3, 4, 5, 6, 0] rfl ?_
  exact hK64 _ _ _ _ _ _ h
set_option maxRecDepth 20000 in
theorem t_X4_settle_64 {X : Mx} {w : Wt} {l0 : Launch} {Q0 : St → Prop} {K26 : Int32 × Int32 × Int32 × St → Prop} (C : Cx X w l0 cX4_settle 7 RX4 rm_X4_settle none) (hK26 : ∀ (x2 : Int32) (x3 : Int32) (x4 : Int32) (S : St), K26 (x2, x3, x4, S) → J X w (QV X w Q0) 26 [(0, rr w 14), (1, rr w 2), (2, .int x2), (3, .int x3), (4, .int x4)] [] S) {x2 : Int32} {x3 : Int32} {x4 : Int32} {x5 : Int32} {x6 : Int32} {S : St} (h : Lq (p_X4_settle_64 Q0 K26) (x2, x3, x4, x5, x6, S)) : J X w (QV X w Q0) 64 [(0, rr w 14), (1, rr w 2), (2, .int x2), (3, .int x3), (4, .int x4), (5, .int x5), (6, .int x6)] [] S := by
  have key : ∀ a : Int32 × Int32 × Int32 × Int32 × Int32 × St, Lq (p_X4_settle_64 Q0 K26) a → J X w (QV X w Q0) 64 [(0, rr w 14), (1, rr w 2), (2, .int a.1), (3, .int a.2.1), (4, .int a.2.2.1), (5, .int a.2.2.2.1), (6, .int a.2.2.2.2.1)] [] a.2.2.2.2.2 := by
    intro a ha
    refine Lq_use (G := fun a => J X w (QV X w Q0) 64 [(0, rr w 14), (1, rr w 2), (2, .int a.1), (3, .int a.2.1), (4, .int a.2.2.1), (5, .int a.2.2.2.1), (6, .int a.2.2.2.2.1)] [] a.2.2.2.2.2) ?_ ha
    intro K64 hK a h
    obtain ⟨x2, x3, x4, x5, x6, S⟩ := a
    have hK64 : ∀ (x2 : Int32) (x3 : Int32) (x4 : Int32) (x5 : Int32) (x6 : Int32) (S : St), K64 (x2, x3, x4, x5, x6, S) → J X w (QV X w Q0) 64 [(0, rr w 14), (1, rr w 2), (2, .int x2), (3, .int x3), (4, .int x4), (5, .int x5), (6, .int x6)] [] S := fun x2 x3 x4 x5 x6 S h => hK (x2, x3, x4, x5, x6, S) h
    show J X w (QV X w Q0) 64 [(0, rr w 14), (1, rr w 2), (2, .int x2), (3, .int x3), (4, .int x4), (5, .int x5), (6, .int x6)] [] S
    refine j_iload C dX4_settle_64 6 rfl ?_
    refine j_aload_n C dX4_settle_66 0 rfl rfl ?_
    refine gf_RX4_27_14 C dX4_settle_67 ?_
    refine j_icmp_ge (tgt := 107) C dX4_settle_70 (by decide) (fun c6 => ?_) (fun c6 => ?_)
    · have h := And.left h c6
      refine j_iload_n C dX4_settle_107 2 rfl rfl ?_
      refine j_iload_n C dX4_settle_108 3 rfl rfl ?_
      refine j_ior C dX4_settle_109 ?_
      refine j_istore_n (lv' := [(2, .int (x2 ||| x3)), (0, rr w 14), (1, rr w 2), (3, .int x3), (4, .int x4), (5, .int x5), (6, .int x6)]) C dX4_settle_110 rfl (by decide) rfl ?_
      refine j_aload_n C dX4_settle_111 1 rfl rfl ?_
      refine j_iload_n C dX4_settle_112 3 rfl rfl ?_
      refine j_callVi (st := []) C 14 [.int x3] (m_X4_vouchedBy C.wok h) cv_RX4_58 rk_X4_settle_X4_vouchedBy rfl (rc_14 w) rfl (Nat.le_of_ble_eq_true rfl) dX4_settle_113 (fun r8 S7 h => ?_)
      refine j_iload_n C dX4_settle_116 0 rfl rfl ?_
      refine j_iconst C dX4_settle_117 (v := (-1)) (by decide) ?_
      refine j_ixor C dX4_settle_118 ?_
      refine j_iand C dX4_settle_119 ?_
      refine j_istore_n (lv' := [(3, .int (r8 &&& ((x2 ||| x3) ^^^ (-1)))), (2, .int (x2 ||| x3)), (0, rr w 14), (1, rr w 2), (4, .int x4), (5, .int x5), (6, .int x6)]) C dX4_settle_120 rfl (by decide) rfl ?_
      refine j_iinc (lv' := [(4, .int (x4 + 1)), (3, .int (r8 &&& ((x2 ||| x3) ^^^ (-1)))), (2, .int (x2 ||| x3)), (0, rr w 14), (1, rr w 2), (5, .int x5), (6, .int x6)]) C dX4_settle_121 4 rfl rfl (by decide) rfl ?_
      refine j_goto (tgt := 26) C dX4_settle_124 (by decide) ?_
      refine j_sub [3, 4, 2, 1, 0] rfl ?_
      exact hK26 _ _ _ _ h
    · have h := And.right h c6
      refine j_iload_n C dX4_settle_73 3 rfl rfl ?_
      refine j_iload C dX4_settle_74 6 rfl ?_
      refine j_callNi (st := []) C [.int x3, .int x6] (m_X6_bit C.wok h) cv_RX4_42 rk_X4_settle_X6_bit rfl rfl (Nat.le_of_ble_eq_true rfl) dX4_settle_76 (fun r10 S9 h => ?_)
      refine j_iconst C dX4_settle_79 (v := 1) (by decide) ?_
      refine j_icmp_ne (tgt := 101) C dX4_settle_80 (by decide) (fun c11 => ?_) (fun c11 => ?_)
      · have h := And.left h c11
        exact t_X4_settle_101 C hK26 hK64 h
      · have h := And.right h c11
        refine j_aload_n C dX4_settle_83 0 rfl rfl ?_
        refine gf_RX4_15_14 C dX4_settle_84 ?_
        refine j_iload C dX4_settle_87 6 rfl ?_
        refine j_iload C dX4_settle_89 4 rfl ?_
        refine as_16 C dX4_settle_91 (And.left h) (fun S12 eS12 => ?_)
        have h := And.right h S12 eS12
        refine j_aload_n C dX4_settle_92 0 rfl rfl ?_
        refine gf_RX4_18_14 C dX4_settle_93 ?_
        refine j_iload C dX4_settle_96 6 rfl ?_
        refine j_iload C dX4_settle_98 5 rfl ?_
        refine as_17 C dX4_settle_100 (And.left h) (fun S13 eS13 => ?_)
        have h := And.right h S13 eS13
        exact t_X4_settle_101 C hK26 hK64 h
  exact key (x2, x3, x4, x5, x6, S) h
set_option maxRecDepth 20000 in
theorem t_X4_settle_59 {X : Mx} {w : Wt} {l0 : Launch} {Q0 : St → Prop} {K26 : Int32 × Int32 × Int32 × St → Prop} (C : Cx X w l0 cX4_settle 7 RX4 rm_X4_settle none) (hK26 : ∀ (x2 : Int32) (x3 : Int32) (x4 : Int32) (S : St), K26 (x2, x3, x4, S) → J X w (QV X w Q0) 26 [(0, rr w 14), (1, rr w 2), (2, .int x2), (3, .int x3), (4, .int x4)] [] S) {x2 : Int32} {x3 : Int32} {x4 : Int32} {t0 : Int32} {S : St} (h : p_X4_settle_59 Q0 K26 x2 x3 x4 t0 S) : J X w (QV X w Q0) 59 [(0, rr w 14), (1, rr w 2), (2, .int x2), (3, .int x3), (4, .int x4)] [.int t0] S := by
  refine j_istore (lv' := [(5, .int t0), (0, rr w 14), (1, rr w 2), (2, .int x2), (3, .int x3), (4, .int x4)]) C dX4_settle_59 (by decide) rfl ?_
  refine j_iconst C dX4_settle_61 (v := 0) (by decide) ?_
  refine j_istore (lv' := [(6, .int 0), (5, .int t0), (0, rr w 14), (1, rr w 2), (2, .int x2), (3, .int x3), (4, .int x4)]) C dX4_settle_62 (by decide) rfl ?_
  refine j_sub [2, 3, 4, 5, 6, 1, 0] rfl ?_
  exact t_X4_settle_64 C hK26 h
set_option maxRecDepth 20000 in
theorem t_X4_settle_26 {X : Mx} {w : Wt} {l0 : Launch} {Q0 : St → Prop} (C : Cx X w l0 cX4_settle 7 RX4 rm_X4_settle none) {x2 : Int32} {x3 : Int32} {x4 : Int32} {S : St} (h : Lq (p_X4_settle_26 Q0) (x2, x3, x4, S)) : J X w (QV X w Q0) 26 [(0, rr w 14), (1, rr w 2), (2, .int x2), (3, .int x3), (4, .int x4)] [] S := by
  have key : ∀ a : Int32 × Int32 × Int32 × St, Lq (p_X4_settle_26 Q0) a → J X w (QV X w Q0) 26 [(0, rr w 14), (1, rr w 2), (2, .int a.1), (3, .int a.2.1), (4, .int a.2.2.1)] [] a.2.2.2 := by
    intro a ha
    refine Lq_use (G := fun a => J X w (QV X w Q0) 26 [(0, rr w 14), (1, rr w 2), (2, .int a.1), (3, .int a.2.1), (4, .int a.2.2.1)] [] a.2.2.2) ?_ ha
    intro K26 hK a h
    obtain ⟨x2, x3, x4, S⟩ := a
    have hK26 : ∀ (x2 : Int32) (x3 : Int32) (x4 : Int32) (S : St), K26 (x2, x3, x4, S) → J X w (QV X w Q0) 26 [(0, rr w 14), (1, rr w 2), (2, .int x2), (3, .int x3), (4, .int x4)] [] S := fun x2 x3 x4 S h => hK (x2, x3, x4, S) h
    show J X w (QV X w Q0) 26 [(0, rr w 14), (1, rr w 2), (2, .int x2), (3, .int x3), (4, .int x4)] [] S
    refine j_iload C dX4_settle_26 4 rfl ?_
    refine j_aload_n C dX4_settle_28 0 rfl rfl ?_
    refine gf_RX4_27_14 C dX4_settle_29 ?_
    refine j_icmp_ge (tgt := 127) C dX4_settle_32 (by decide) (fun c3 => ?_) (fun c3 => ?_)
    · have h := And.left h c3
      exact j_vret C dX4_settle_127 h
    · have h := And.right h c3
      refine j_iload_n C dX4_settle_35 3 rfl rfl ?_
      refine j_if_eq (tgt := 127) C dX4_settle_36 (by decide) (fun c4 => ?_) (fun c4 => ?_)
      · have h := And.left h c4
        exact j_vret C dX4_settle_127 h
      · have h := And.right h c4
        refine j_iload C dX4_settle_39 4 rfl ?_
        refine j_aload_n C dX4_settle_41 1 rfl rfl ?_
        refine gf_RX4_52_2 C dX4_settle_42 ?_
        refine j_icmp_ge (tgt := 58) C dX4_settle_45 (by decide) (fun c5 => ?_) (fun c5 => ?_)
        · have h := And.left h c5
          refine j_iconst C dX4_settle_58 (v := 0) (by decide) ?_
          exact t_X4_settle_59 C hK26 h
        · have h := And.right h c5
          refine j_aload_n C dX4_settle_48 1 rfl rfl ?_
          refine gf_RX4_55_2 C dX4_settle_49 ?_
          refine j_iload C dX4_settle_52 4 rfl ?_
          refine al_3 C dX4_settle_54 (And.left h) ?_
          have h := And.right h
          refine j_goto (tgt := 59) C dX4_settle_55 (by decide) ?_
          exact t_X4_settle_59 C hK26 h
  exact key (x2, x3, x4, S) h
set_option maxRecDepth 20000 in
theorem m_X4_settle {l : Launch} {w : Wt} (hw : WOK w) {S : St} {Q0 : St → Prop} (h : p_X4_settle S Q0) : MV l w yX4_settle cX4_settle 7 rm_X4_settle [rr w 14, rr w 2] S Q0 := by
  refine m_MV (own := RX4) (lv := [(0, rr w 14), (1, rr w 2)]) hw (by decide) rfl (Nat.le_of_ble_eq_true rfl) rfl (fun X C => ?_)
  refine j_aload_n C dX4_settle_0 0 rfl rfl ?_
  refine gf_RX4_15_14 C dX4_settle_1 ?_
  refine j_iconst C dX4_settle_4 (v := (-1)) (by decide) ?_
  refine j_callSv (st := []) C [rr w 16, .int (-1)] (m_J7_fill_53178_c16 C.wok h) cv_RX4_46 rk_X4_settle_J7_fill_53178_c16 rfl rfl (Nat.le_of_ble_eq_true rfl) dX4_settle_5 (fun S1 h => ?_)
  refine j_aload_n C dX4_settle_8 0 rfl rfl ?_
  refine gf_RX4_18_14 C dX4_settle_9 ?_
  refine j_iconst C dX4_settle_12 (v := 0) (by decide) ?_
  refine j_callSv (st := []) C [rr w 17, .int 0] (m_J7_fill_53178_c17 C.wok h) cv_RX4_46 rk_X4_settle_J7_fill_53178_c17 rfl rfl (Nat.le_of_ble_eq_true rfl) dX4_settle_13 (fun S2 h => ?_)
  refine j_iconst C dX4_settle_16 (v := 0) (by decide) ?_
  refine j_istore_n (lv' := [(2, .int 0), (0, rr w 14), (1, rr w 2)]) C dX4_settle_17 rfl (by decide) rfl ?_
  refine j_aload_n C dX4_settle_18 1 rfl rfl ?_
  refine gf_RX4_32_14 C dX4_settle_19 ?_
  refine j_istore_n (lv' := [(3, .int (S2.1 14 1)), (2, .int 0), (0, rr w 14), (1, rr w 2)]) C dX4_settle_22 rfl (by decide) rfl ?_
  refine j_iconst C dX4_settle_23 (v := 0) (by decide) ?_
  refine j_istore (lv' := [(4, .int 0), (3, .int (S2.1 14 1)), (2, .int 0), (0, rr w 14), (1, rr w 2)]) C dX4_settle_24 (by decide) rfl ?_
  refine j_sub [3, 4, 2, 1, 0] rfl ?_
  exact t_X4_settle_26 C h
def rm_X6_prepareWeb : Room := { frames := 3, cells := 0, slots := 0, locals := 70 }
theorem rk_X6_prepareWeb_X4_copy : roomOk rm_X4_copy rm_X6_prepareWeb 2 := ⟨⟨rfl, rfl⟩, Nat.le_of_ble_eq_true rfl, Nat.le_of_ble_eq_true rfl⟩
theorem rk_X6_prepareWeb_X4_settle : roomOk rm_X4_settle rm_X6_prepareWeb 7 := ⟨⟨rfl, rfl⟩, Nat.le_of_ble_eq_true rfl, Nat.le_of_ble_eq_true rfl⟩
set_option maxRecDepth 20000 in
theorem m_X6_prepareWeb {l : Launch} {w : Wt} (hw : WOK w) {S : St} {Q0 : St → Prop} (h : p_X6_prepareWeb S Q0) : MV l w yX6_prepareWeb cX6_prepareWeb 1 rm_X6_prepareWeb [rr w 0] S Q0 := by
  refine m_MV (own := RX6) (lv := [(0, rr w 0)]) hw (by decide) rfl (Nat.le_of_ble_eq_true rfl) rfl (fun X C => ?_)
  refine j_aload_n C dX6_prepareWeb_0 0 rfl rfl ?_
  refine gf_RX6_45_0 C dX6_prepareWeb_1 ?_
  refine j_aload_n C dX6_prepareWeb_4 0 rfl rfl ?_
  refine gf_RX6_16_0 C dX6_prepareWeb_5 ?_
  refine j_callVv (st := []) C 14 [rr w 2] (m_X4_copy C.wok h) cv_RX6_179 rk_X6_prepareWeb_X4_copy rfl (rc_14 w) rfl (Nat.le_of_ble_eq_true rfl) dX6_prepareWeb_8 (fun S1 h => ?_)
  refine j_aload_n C dX6_prepareWeb_11 0 rfl rfl ?_
  refine gf_RX6_45_0 C dX6_prepareWeb_12 ?_
  refine j_aload_n C dX6_prepareWeb_15 0 rfl rfl ?_
  refine gf_RX6_16_0 C dX6_prepareWeb_16 ?_
  refine j_callVv (st := []) C 14 [rr w 2] (m_X4_settle C.wok h) cv_RX6_186 rk_X6_prepareWeb_X4_settle rfl (rc_14 w) rfl (Nat.le_of_ble_eq_true rfl) dX6_prepareWeb_19 (fun S2 h => ?_)
  exact j_vret C dX6_prepareWeb_22 h
def rm_X4_personsWithLevel : Room := { frames := 0, cells := 0, slots := 0, locals := 0 }
set_option maxRecDepth 20000 in
theorem t_X4_personsWithLevel_25 {X : Mx} {w : Wt} {l0 : Launch} {Q0 : Int32 → St → Prop} {K4 : Int32 × Int32 × St → Prop} (C : Cx X w l0 cX4_personsWithLevel 3 RX4 rm_X4_personsWithLevel (some .int)) (hK4 : ∀ (x1 : Int32) (x2 : Int32) (S : St), K4 (x1, x2, S) → J X w (QI X w Q0) 4 [(0, rr w 14), (1, .int x1), (2, .int x2)] [] S) {x1 : Int32} {x2 : Int32} {S : St} (h : p_X4_personsWithLevel_25 Q0 K4 x1 x2 S) : J X w (QI X w Q0) 25 [(0, rr w 14), (1, .int x1), (2, .int x2)] [] S := by
  refine j_iinc (lv' := [(2, .int (x2 + 1)), (0, rr w 14), (1, .int x1)]) C dX4_personsWithLevel_25 2 rfl rfl (by decide) rfl ?_
  refine j_goto (tgt := 4) C dX4_personsWithLevel_28 (by decide) ?_
  refine j_sub [1, 2, 0] rfl ?_
  exact hK4 _ _ _ h
set_option maxRecDepth 20000 in
theorem t_X4_personsWithLevel_4 {X : Mx} {w : Wt} {l0 : Launch} {Q0 : Int32 → St → Prop} (C : Cx X w l0 cX4_personsWithLevel 3 RX4 rm_X4_personsWithLevel (some .int)) {x1 : Int32} {x2 : Int32} {S : St} (h : Lq (p_X4_personsWithLevel_4 Q0) (x1, x2, S)) : J X w (QI X w Q0) 4 [(0, rr w 14), (1, .int x1), (2, .int x2)] [] S := by
  have key : ∀ a : Int32 × Int32 × St, Lq (p_X4_personsWithLevel_4 Q0) a → J X w (QI X w Q0) 4 [(0, rr w 14), (1, .int a.1), (2, .int a.2.1)] [] a.2.2 := by
    intro a ha
    refine Lq_use (G := fun a => J X w (QI X w Q0) 4 [(0, rr w 14), (1, .int a.1), (2, .int a.2.1)] [] a.2.2) ?_ ha
    intro K4 hK a h
    obtain ⟨x1, x2, S⟩ := a
    have hK4 : ∀ (x1 : Int32) (x2 : Int32) (S : St), K4 (x1, x2, S) → J X w (QI X w Q0) 4 [(0, rr w 14), (1, .int x1), (2, .int x2)] [] S := fun x1 x2 S h => hK (x1, x2, S) h
    show J X w (QI X w Q0) 4 [(0, rr w 14), (1, .int x1), (2, .int x2)] [] S
    refine j_iload_n C dX4_personsWithLevel_4 2 rfl rfl ?_
    refine j_aload_n C dX4_personsWithLevel_5 0 rfl rfl ?_
    refine gf_RX4_27_14 C dX4_personsWithLevel_6 ?_
    refine j_icmp_ge (tgt := 31) C dX4_personsWithLevel_9 (by decide) (fun c1 => ?_) (fun c1 => ?_)
    · have h := And.left h c1
      refine j_iload_n C dX4_personsWithLevel_31 1 rfl rfl ?_
      exact j_iret C dX4_personsWithLevel_32 h
    · have h := And.right h c1
      refine j_aload_n C dX4_personsWithLevel_12 0 rfl rfl ?_
      refine gf_RX4_15_14 C dX4_personsWithLevel_13 ?_
      refine j_iload_n C dX4_personsWithLevel_16 2 rfl rfl ?_
      refine al_16 C dX4_personsWithLevel_17 (And.left h) ?_
      have h := And.right h
      refine j_iconst C dX4_personsWithLevel_18 (v := (-1)) (by decide) ?_
      refine j_icmp_eq (tgt := 25) C dX4_personsWithLevel_19 (by decide) (fun c2 => ?_) (fun c2 => ?_)
      · have h := And.left h c2
        exact t_X4_personsWithLevel_25 C hK4 h
      · have h := And.right h c2
        refine j_iinc (lv' := [(1, .int (x1 + 1)), (0, rr w 14), (2, .int x2)]) C dX4_personsWithLevel_22 1 rfl rfl (by decide) rfl ?_
        refine j_sub [1, 0, 2] rfl ?_
        exact t_X4_personsWithLevel_25 C hK4 h
  exact key (x1, x2, S) h
set_option maxRecDepth 20000 in
theorem m_X4_personsWithLevel {l : Launch} {w : Wt} (hw : WOK w) {S : St} {Q0 : Int32 → St → Prop} (h : p_X4_personsWithLevel S Q0) : MI l w yX4_personsWithLevel cX4_personsWithLevel 3 .int rm_X4_personsWithLevel [rr w 14] S Q0 := by
  refine m_MI (own := RX4) (lv := [(0, rr w 14)]) hw (by decide) rfl (Nat.le_of_ble_eq_true rfl) rfl (fun X C => ?_)
  refine j_iconst C dX4_personsWithLevel_0 (v := 0) (by decide) ?_
  refine j_istore_n (lv' := [(1, .int 0), (0, rr w 14)]) C dX4_personsWithLevel_1 rfl (by decide) rfl ?_
  refine j_iconst C dX4_personsWithLevel_2 (v := 0) (by decide) ?_
  refine j_istore_n (lv' := [(2, .int 0), (1, .int 0), (0, rr w 14)]) C dX4_personsWithLevel_3 rfl (by decide) rfl ?_
  refine j_sub [2, 1, 0] rfl ?_
  exact t_X4_personsWithLevel_4 C h
def rm_X4_greatestLevel : Room := { frames := 1, cells := 0, slots := 0, locals := 26 }
set_option maxRecDepth 20000 in
theorem t_X4_greatestLevel_4 {X : Mx} {w : Wt} {l0 : Launch} {Q0 : Int32 → St → Prop} (C : Cx X w l0 cX4_greatestLevel 3 RX4 rm_X4_greatestLevel (some .int)) {x1 : Int32} {x2 : Int32} {S : St} (h : Lq (p_X4_greatestLevel_4 Q0) (x1, x2, S)) : J X w (QI X w Q0) 4 [(0, rr w 14), (1, .int x1), (2, .int x2)] [] S := by
  have key : ∀ a : Int32 × Int32 × St, Lq (p_X4_greatestLevel_4 Q0) a → J X w (QI X w Q0) 4 [(0, rr w 14), (1, .int a.1), (2, .int a.2.1)] [] a.2.2 := by
    intro a ha
    refine Lq_use (G := fun a => J X w (QI X w Q0) 4 [(0, rr w 14), (1, .int a.1), (2, .int a.2.1)] [] a.2.2) ?_ ha
    intro K4 hK a h
    obtain ⟨x1, x2, S⟩ := a
    have hK4 : ∀ (x1 : Int32) (x2 : Int32) (S : St), K4 (x1, x2, S) → J X w (QI X w Q0) 4 [(0, rr w 14), (1, .int x1), (2, .int x2)] [] S := fun x1 x2 S h => hK (x1, x2, S) h
    show J X w (QI X w Q0) 4 [(0, rr w 14), (1, .int x1), (2, .int x2)] [] S
    refine j_iload_n C dX4_greatestLevel_4 2 rfl rfl ?_
    refine j_aload_n C dX4_greatestLevel_5 0 rfl rfl ?_
    refine gf_RX4_27_14 C dX4_greatestLevel_6 ?_
    refine j_icmp_ge (tgt := 29) C dX4_greatestLevel_9 (by decide) (fun c1 => ?_) (fun c1 => ?_)
    · have h := And.left h c1
      refine j_iload_n C dX4_greatestLevel_29 1 rfl rfl ?_
      exact j_iret C dX4_greatestLevel_30 h
    · have h := And.right h c1
      refine j_iload_n C dX4_greatestLevel_12 1 rfl rfl ?_
      refine j_aload_n C dX4_greatestLevel_13 0 rfl rfl ?_
      refine gf_RX4_15_14 C dX4_greatestLevel_14 ?_
      refine j_iload_n C dX4_greatestLevel_17 2 rfl rfl ?_
      refine al_16 C dX4_greatestLevel_18 (And.left h) ?_
      have h := And.right h
      refine mx_RX4_61 C dX4_greatestLevel_19 (Nat.le_of_ble_eq_true rfl) (Nat.le_of_ble_eq_true rfl) ?_
      refine j_topi (fun v2 ev2 => ?_)
      have h := h v2 ev2
      refine j_istore_n (lv' := [(1, .int v2), (0, rr w 14), (2, .int x2)]) C dX4_greatestLevel_22 rfl (by decide) rfl ?_
      refine j_iinc (lv' := [(2, .int (x2 + 1)), (1, .int v2), (0, rr w 14)]) C dX4_greatestLevel_23 2 rfl rfl (by decide) rfl ?_
      refine j_goto (tgt := 4) C dX4_greatestLevel_26 (by decide) ?_
      refine j_sub [2, 1, 0] rfl ?_
      exact hK4 _ _ _ h
  exact key (x1, x2, S) h
set_option maxRecDepth 20000 in
theorem m_X4_greatestLevel {l : Launch} {w : Wt} (hw : WOK w) {S : St} {Q0 : Int32 → St → Prop} (h : p_X4_greatestLevel S Q0) : MI l w yX4_greatestLevel cX4_greatestLevel 3 .int rm_X4_greatestLevel [rr w 14] S Q0 := by
  refine m_MI (own := RX4) (lv := [(0, rr w 14)]) hw (by decide) rfl (Nat.le_of_ble_eq_true rfl) rfl (fun X C => ?_)
  refine j_iconst C dX4_greatestLevel_0 (v := (-1)) (by decide) ?_
  refine j_istore_n (lv' := [(1, .int (-1)), (0, rr w 14)]) C dX4_greatestLevel_1 rfl (by decide) rfl ?_
  refine j_iconst C dX4_greatestLevel_2 (v := 0) (by decide) ?_
  refine j_istore_n (lv' := [(2, .int 0), (1, .int (-1)), (0, rr w 14)]) C dX4_greatestLevel_3 rfl (by decide) rfl ?_
  refine j_sub [2, 1, 0] rfl ?_
  exact t_X4_greatestLevel_4 C h
def rm_X0_everyone : Room := { frames := 0, cells := 0, slots := 0, locals := 0 }
set_option maxRecDepth 20000 in
theorem m_X0_everyone {l : Launch} {w : Wt} (hw : WOK w) {S : St} {Q0 : Int32 → St → Prop} (h : p_X0_everyone S Q0) : MI l w yX0_everyone cX0_everyone 1 .int rm_X0_everyone [rr w 2] S Q0 := by
  refine m_MI (own := RX0) (lv := [(0, rr w 2)]) hw (by decide) rfl (Nat.le_of_ble_eq_true rfl) rfl (fun X C => ?_)
  refine j_iconst C dX0_everyone_0 (v := 1) (by decide) ?_
  refine j_aload_n C dX0_everyone_1 0 rfl rfl ?_
  refine gf_RX0_21_2 C dX0_everyone_2 ?_
  refine j_ishl C dX0_everyone_5 ?_
  refine j_iconst C dX0_everyone_6 (v := 1) (by decide) ?_
  refine j_isub C dX0_everyone_7 ?_
  exact j_iret C dX0_everyone_8 h
def rm_X4_limitsOf : Room := { frames := 1, cells := 0, slots := 0, locals := 21 }
theorem rk_X4_limitsOf_X6_bit : roomOk rm_X6_bit rm_X4_limitsOf 2 := ⟨⟨rfl, rfl⟩, Nat.le_of_ble_eq_true rfl, Nat.le_of_ble_eq_true rfl⟩
set_option maxRecDepth 20000 in
theorem t_X4_limitsOf_30 {X : Mx} {w : Wt} {l0 : Launch} {Q0 : Int32 → St → Prop} {K4 : Int32 × Int32 × Int32 × St → Prop} (C : Cx X w l0 cX4_limitsOf 4 RX4 rm_X4_limitsOf (some .int)) (hK4 : ∀ (x1 : Int32) (x2 : Int32) (x3 : Int32) (S : St), K4 (x1, x2, x3, S) → J X w (QI X w Q0) 4 [(0, rr w 14), (1, .int x1), (2, .int x2), (3, .int x3)] [] S) {x1 : Int32} {x2 : Int32} {x3 : Int32} {S : St} (h : p_X4_limitsOf_30 Q0 K4 x1 x2 x3 S) : J X w (QI X w Q0) 30 [(0, rr w 14), (1, .int x1), (2, .int x2), (3, .int x3)] [] S := by
  refine j_iinc (lv' := [(3, .int (x3 + 1)), (0, rr w 14), (1, .int x1), (2, .int x2)]) C dX4_limitsOf_30 3 rfl rfl (by decide) rfl ?_
  refine j_goto (tgt := 4) C dX4_limitsOf_33 (by decide) ?_
  refine j_sub [1, 2, 3, 0] rfl ?_
  exact hK4 _ _ _ _ h
set_option maxRecDepth 20000 in
theorem t_X4_limitsOf_4 {X : Mx} {w : Wt} {l0 : Launch} {Q0 : Int32 → St → Prop} (C : Cx X w l0 cX4_limitsOf 4 RX4 rm_X4_limitsOf (some .int)) {x1 : Int32} {x2 : Int32} {x3 : Int32} {S : St} (h : Lq (p_X4_limitsOf_4 Q0) (x1, x2, x3, S)) : J X w (QI X w Q0) 4 [(0, rr w 14), (1, .int x1), (2, .int x2), (3, .int x3)] [] S := by
  have key : ∀ a : Int32 × Int32 × Int32 × St, Lq (p_X4_limitsOf_4 Q0) a → J X w (QI X w Q0) 4 [(0, rr w 14), (1, .int a.1), (2, .int a.2.1), (3, .int a.2.2.1)] [] a.2.2.2 := by
    intro a ha
    refine Lq_use (G := fun a => J X w (QI X w Q0) 4 [(0, rr w 14), (1, .int a.1), (2, .int a.2.1), (3, .int a.2.2.1)] [] a.2.2.2) ?_ ha
    intro K4 hK a h
    obtain ⟨x1, x2, x3, S⟩ := a
    have hK4 : ∀ (x1 : Int32) (x2 : Int32) (x3 : Int32) (S : St), K4 (x1, x2, x3, S) → J X w (QI X w Q0) 4 [(0, rr w 14), (1, .int x1), (2, .int x2), (3, .int x3)] [] S := fun x1 x2 x3 S h => hK (x1, x2, x3, S) h
    show J X w (QI X w Q0) 4 [(0, rr w 14), (1, .int x1), (2, .int x2), (3, .int x3)] [] S
    refine j_iload_n C dX4_limitsOf_4 3 rfl rfl ?_
    refine j_aload_n C dX4_limitsOf_5 0 rfl rfl ?_
    refine gf_RX4_27_14 C dX4_limitsOf_6 ?_
    refine j_icmp_ge (tgt := 36) C dX4_limitsOf_9 (by decide) (fun c1 => ?_) (fun c1 => ?_)
    · have h := And.left h c1
      refine j_iload_n C dX4_limitsOf_36 2 rfl rfl ?_
      exact j_iret C dX4_limitsOf_37 h
    · have h := And.right h c1
      refine j_iload_n C dX4_limitsOf_12 1 rfl rfl ?_
      refine j_iload_n C dX4_limitsOf_13 3 rfl rfl ?_
      refine j_callNi (st := []) C [.int x1, .int x3] (m_X6_bit C.wok h) cv_RX4_42 rk_X4_limitsOf_X6_bit rfl rfl (Nat.le_of_ble_eq_true rfl) dX4_limitsOf_14 (fun r3 S2 h => ?_)
      refine j_iconst C dX4_limitsOf_17 (v := 1) (by decide) ?_
      refine j_icmp_ne (tgt := 30) C dX4_limitsOf_18 (by decide) (fun c4 => ?_) (fun c4 => ?_)
      · have h := And.left h c4
        exact t_X4_limitsOf_30 C hK4 h
      · have h := And.right h c4
        refine j_iload_n C dX4_limitsOf_21 2 rfl rfl ?_
        refine j_aload_n C dX4_limitsOf_22 0 rfl rfl ?_
        refine gf_RX4_18_14 C dX4_limitsOf_23 ?_
        refine j_iload_n C dX4_limitsOf_26 3 rfl rfl ?_
        refine al_17 C dX4_limitsOf_27 (And.left h) ?_
        have h := And.right h
        refine j_iadd C dX4_limitsOf_28 ?_
        refine j_istore_n (lv' := [(2, .int (x2 + (S2.1 17 x3.toNatClampNeg))), (0, rr w 14), (1, .int x1), (3, .int x3)]) C dX4_limitsOf_29 rfl (by decide) rfl ?_
        refine j_sub [1, 2, 0, 3] rfl ?_
        exact t_X4_limitsOf_30 C hK4 h
  exact key (x1, x2, x3, S) h
set_option maxRecDepth 20000 in
theorem m_X4_limitsOf {l : Launch} {w : Wt} (hw : WOK w) {x1 : Int32} {S : St} {Q0 : Int32 → St → Prop} (h : p_X4_limitsOf x1 S Q0) : MI l w yX4_limitsOf cX4_limitsOf 4 .int rm_X4_limitsOf [rr w 14, .int x1] S Q0 := by
  refine m_MI (own := RX4) (lv := [(0, rr w 14), (1, .int x1)]) hw (by decide) rfl (Nat.le_of_ble_eq_true rfl) rfl (fun X C => ?_)
  refine j_iconst C dX4_limitsOf_0 (v := 0) (by decide) ?_
  refine j_istore_n (lv' := [(2, .int 0), (0, rr w 14), (1, .int x1)]) C dX4_limitsOf_1 rfl (by decide) rfl ?_
  refine j_iconst C dX4_limitsOf_2 (v := 0) (by decide) ?_
  refine j_istore_n (lv' := [(3, .int 0), (2, .int 0), (0, rr w 14), (1, .int x1)]) C dX4_limitsOf_3 rfl (by decide) rfl ?_
  refine j_sub [2, 3, 1, 0] rfl ?_
  exact t_X4_limitsOf_4 C h
def rm_X6_about : Room := { frames := 4, cells := 0, slots := 0, locals := 90 }
theorem rk_X6_about_J6_bitCount_0f7a4 : roomOk rm_J6_bitCount_0f7a4 rm_X6_about 1 := ⟨⟨rfl, rfl⟩, Nat.le_of_ble_eq_true rfl, Nat.le_of_ble_eq_true rfl⟩
theorem rk_X6_about_X0_everyone : roomOk rm_X0_everyone rm_X6_about 1 := ⟨⟨rfl, rfl⟩, Nat.le_of_ble_eq_true rfl, Nat.le_of_ble_eq_true rfl⟩
theorem rk_X6_about_X0_exists : roomOk rm_X0_exists rm_X6_about 1 := ⟨⟨rfl, rfl⟩, Nat.le_of_ble_eq_true rfl, Nat.le_of_ble_eq_true rfl⟩
theorem rk_X6_about_X0_ofKind : roomOk rm_X0_ofKind rm_X6_about 4 := ⟨⟨rfl, rfl⟩, Nat.le_of_ble_eq_true rfl, Nat.le_of_ble_eq_true rfl⟩
theorem rk_X6_about_X0_vouchCount : roomOk rm_X0_vouchCount rm_X6_about 3 := ⟨⟨rfl, rfl⟩, Nat.le_of_ble_eq_true rfl, Nat.le_of_ble_eq_true rfl⟩
theorem rk_X6_about_X4_greatestLevel : roomOk rm_X4_greatestLevel rm_X6_about 3 := ⟨⟨rfl, rfl⟩, Nat.le_of_ble_eq_true rfl, Nat.le_of_ble_eq_true rfl⟩
theorem rk_X6_about_X4_limitsOf : roomOk rm_X4_limitsOf rm_X6_about 4 := ⟨⟨rfl, rfl⟩, Nat.le_of_ble_eq_true rfl, Nat.le_of_ble_eq_true rfl⟩
theorem rk_X6_about_X4_personsWithLevel : roomOk rm_X4_personsWithLevel rm_X6_about 3 := ⟨⟨rfl, rfl⟩, Nat.le_of_ble_eq_true rfl, Nat.le_of_ble_eq_true rfl⟩
theorem rk_X6_about_X6_prepareWeb : roomOk rm_X6_prepareWeb rm_X6_about 1 := ⟨⟨rfl, rfl⟩, Nat.le_of_ble_eq_true rfl, Nat.le_of_ble_eq_true rfl⟩
set_option maxRecDepth 20000 in
theorem m_X6_about {l : Launch} {w : Wt} (hw : WOK w) {x1 : Int32} {S : St} {Q0 : Int32 → St → Prop} (h : p_X6_about x1 S Q0) : MI l w yX6_about cX6_about 2 .int rm_X6_about [rr w 0, .int x1] S Q0 := by
  refine m_MI (own := RX6) (lv := [(0, rr w 0), (1, .int x1)]) hw (by decide) rfl (Nat.le_of_ble_eq_true rfl) rfl (fun X C => ?_)
  refine j_iload_n C dX6_about_0 1 rfl rfl ?_
  refine j_if_lt (tgt := 10) C dX6_about_1 (by decide) (fun c1 => ?_) (fun c1 => ?_)
  · have h := And.left h c1
    refine j_bipush C dX6_about_10 (v := (-102)) (by decide) ?_
    exact j_iret C dX6_about_12 h
  · have h := And.right h c1
    refine j_iload_n C dX6_about_4 1 rfl rfl ?_
    refine j_bipush C dX6_about_5 (v := 7) (by decide) ?_
    refine j_icmp_le (tgt := 13) C dX6_about_7 (by decide) (fun c2 => ?_) (fun c2 => ?_)
    · have h := And.left h c2
      refine j_aload_n C dX6_about_13 0 rfl rfl ?_
      refine gf_RX6_16_0 C dX6_about_14 ?_
      refine j_callVi (st := []) C 2 [] (m_X0_exists C.wok h) cv_RX6_85 rk_X6_about_X0_exists rfl (rc_2 w) rfl (Nat.le_of_ble_eq_true rfl) dX6_about_17 (fun r4 S3 h => ?_)
      refine j_if_ne (tgt := 26) C dX6_about_20 (by decide) (fun c5 => ?_) (fun c5 => ?_)
      · have h := And.left h c5
        refine j_iload_n C dX6_about_26 1 rfl rfl ?_
        by_cases c6 : x1 = 0
        · have h := And.left h c6
          refine j_tableIn (tgt := 60) (off := 33) C dX6_about_27 (by rw [c6]; decide) (by rw [c6]; decide) (by rw [c6]; decide) (by decide) ?_
          refine j_aload_n C dX6_about_60 0 rfl rfl ?_
          refine gf_RX6_16_0 C dX6_about_61 ?_
          refine gf_RX6_82_2 C dX6_about_64 ?_
          exact j_iret C dX6_about_67 h
        · have h := And.right h c6
          by_cases c7 : x1 = 1
          · have h := And.left h c7
            refine j_tableIn (tgt := 68) (off := 41) C dX6_about_27 (by rw [c7]; decide) (by rw [c7]; decide) (by rw [c7]; decide) (by decide) ?_
            refine j_aload_n C dX6_about_68 0 rfl rfl ?_
            refine gf_RX6_16_0 C dX6_about_69 ?_
            refine j_iconst C dX6_about_72 (v := 1) (by decide) ?_
            refine j_callVi (st := []) C 2 [.int 1] (m_X0_ofKind C.wok h) cv_RX6_106 rk_X6_about_X0_ofKind rfl (rc_2 w) rfl (Nat.le_of_ble_eq_true rfl) dX6_about_73 (fun r9 S8 h => ?_)
            refine j_callSi (st := []) C [.int r9] (m_J6_bitCount_0f7a4 C.wok h) cv_RX6_110 rk_X6_about_J6_bitCount_0f7a4 rfl rfl (Nat.le_of_ble_eq_true rfl) dX6_about_76 (fun r11 S10 h => ?_)
            exact j_iret C dX6_about_79 h
          · have h := And.right h c7
            by_cases c12 : x1 = 2
            · have h := And.left h c12
              refine j_tableIn (tgt := 80) (off := 53) C dX6_about_27 (by rw [c12]; decide) (by rw [c12]; decide) (by rw [c12]; decide) (by decide) ?_
              refine j_aload_n C dX6_about_80 0 rfl rfl ?_
              refine gf_RX6_16_0 C dX6_about_81 ?_
              refine j_iconst C dX6_about_84 (v := 2) (by decide) ?_
              refine j_callVi (st := []) C 2 [.int 2] (m_X0_ofKind C.wok h) cv_RX6_106 rk_X6_about_X0_ofKind rfl (rc_2 w) rfl (Nat.le_of_ble_eq_true rfl) dX6_about_85 (fun r14 S13 h => ?_)
              refine j_callSi (st := []) C [.int r14] (m_J6_bitCount_0f7a4 C.wok h) cv_RX6_110 rk_X6_about_J6_bitCount_0f7a4 rfl rfl (Nat.le_of_ble_eq_true rfl) dX6_about_88 (fun r16 S15 h => ?_)
              exact j_iret C dX6_about_91 h
            · have h := And.right h c12
              by_cases c17 : x1 = 3
              · have h := And.left h c17
                refine j_tableIn (tgt := 92) (off := 65) C dX6_about_27 (by rw [c17]; decide) (by rw [c17]; decide) (by rw [c17]; decide) (by decide) ?_
                refine j_aload_n C dX6_about_92 0 rfl rfl ?_
                refine gf_RX6_16_0 C dX6_about_93 ?_
                refine j_callVi (st := []) C 2 [] (m_X0_vouchCount C.wok h) cv_RX6_137 rk_X6_about_X0_vouchCount rfl (rc_2 w) rfl (Nat.le_of_ble_eq_true rfl) dX6_about_96 (fun r19 S18 h => ?_)
                exact j_iret C dX6_about_99 h
              · have h := And.right h c17
                by_cases c20 : x1 = 4
                · have h := And.left h c20
                  refine j_tableIn (tgt := 100) (off := 73) C dX6_about_27 (by rw [c20]; decide) (by rw [c20]; decide) (by rw [c20]; decide) (by decide) ?_
                  refine j_aload_n C dX6_about_100 0 rfl rfl ?_
                  refine gf_RX6_16_0 C dX6_about_101 ?_
                  refine gf_RX6_131_2 C dX6_about_104 ?_
                  exact j_iret C dX6_about_107 h
                · have h := And.right h c20
                  have nc6 := lv_neT (a := 0) c6 (by decide)
                  have nc7 := lv_neT (a := 1) c7 (by decide)
                  have nc12 := lv_neT (a := 2) c12 (by decide)
                  have nc17 := lv_neT (a := 3) c17 (by decide)
                  have nc20 := lv_neT (a := 4) c20 (by decide)
                  refine j_tableOut (tgt := 108) C dX6_about_27 (by omega) (by decide) ?_
                  refine j_aload_n C dX6_about_108 0 rfl rfl ?_
                  refine j_callVv (st := []) C 0 [] (m_X6_prepareWeb C.wok h) cv_RX6_140 rk_X6_about_X6_prepareWeb rfl (rc_0 w) rfl (Nat.le_of_ble_eq_true rfl) dX6_about_109 (fun S21 h => ?_)
                  refine j_iload_n C dX6_about_112 1 rfl rfl ?_
                  by_cases c22 : x1 = 5
                  · have h := And.left h c22
                    refine j_lookup (tgt := 140) (off := 27) C dX6_about_113 (by decide) (by rw [c22]; decide) (by decide) ?_
                    refine j_aload_n C dX6_about_140 0 rfl rfl ?_
                    refine gf_RX6_45_0 C dX6_about_141 ?_
                    refine j_callVi (st := []) C 14 [] (m_X4_personsWithLevel C.wok h) cv_RX6_143 rk_X6_about_X4_personsWithLevel rfl (rc_14 w) rfl (Nat.le_of_ble_eq_true rfl) dX6_about_144 (fun r24 S23 h => ?_)
                    exact j_iret C dX6_about_147 h
                  · have h := And.right h c22
                    by_cases c25 : x1 = 6
                    · have h := And.left h c25
                      refine j_lookup (tgt := 148) (off := 35) C dX6_about_113 (by decide) (by rw [c25]; decide) (by decide) ?_
                      refine j_aload_n C dX6_about_148 0 rfl rfl ?_
                      refine gf_RX6_45_0 C dX6_about_149 ?_
                      refine j_callVi (st := []) C 14 [] (m_X4_greatestLevel C.wok h) cv_RX6_148 rk_X6_about_X4_greatestLevel rfl (rc_14 w) rfl (Nat.le_of_ble_eq_true rfl) dX6_about_152 (fun r27 S26 h => ?_)
                      exact j_iret C dX6_about_155 h
                    · have h := And.right h c25
                      refine j_lookup (tgt := 156) (off := 43) C dX6_about_113 (by decide) (by show Op.lookupswitch.offset [(5, 27), (6, 35)] 43 _ = _; rw [lv_osw c22 (by decide), lv_osw c25 (by decide)]; rfl) (by decide) ?_
                      refine j_aload_n C dX6_about_156 0 rfl rfl ?_
                      refine gf_RX6_45_0 C dX6_about_157 ?_
                      refine j_aload_n C dX6_about_160 0 rfl rfl ?_
                      refine gf_RX6_16_0 C dX6_about_161 ?_
                      refine j_callVi (st := [rr w 14]) C 2 [] (m_X0_everyone C.wok h) cv_RX6_151 rk_X6_about_X0_everyone rfl (rc_2 w) rfl (Nat.le_of_ble_eq_true rfl) dX6_about_164 (fun r29 S28 h => ?_)
                      refine j_callVi (st := []) C 14 [.int r29] (m_X4_limitsOf C.wok h) cv_RX6_154 rk_X6_about_X4_limitsOf rfl (rc_14 w) rfl (Nat.le_of_ble_eq_true rfl) dX6_about_167 (fun r31 S30 h => ?_)
                      exact j_iret C dX6_about_170 h
      · have h := And.right h c5
        refine j_bipush C dX6_about_23 (v := (-103)) (by decide) ?_
        exact j_iret C dX6_about_25 h
    · have h := And.right h c2
      refine j_bipush C dX6_about_10 (v := (-102)) (by decide) ?_
      exact j_iret C dX6_about_12 h
def rm_X7_vouchedBy : Room := { frames := 1, cells := 0, slots := 0, locals := 21 }
theorem rk_X7_vouchedBy_X7_has : roomOk rm_X7_has rm_X7_vouchedBy 2 := ⟨⟨rfl, rfl⟩, Nat.le_of_ble_eq_true rfl, Nat.le_of_ble_eq_true rfl⟩
set_option maxRecDepth 20000 in
theorem t_X7_vouchedBy_31 {X : Mx} {w : Wt} {l0 : Launch} {Q0 : Int32 → St → Prop} {K4 : Int32 × Int32 × Int32 × St → Prop} (C : Cx X w l0 cX7_vouchedBy 4 RX7 rm_X7_vouchedBy (some .int)) (hK4 : ∀ (x1 : Int32) (x2 : Int32) (x3 : Int32) (S : St), K4 (x1, x2, x3, S) → J X w (QI X w Q0) 4 [(0, rr w 25), (1, .int x1), (2, .int x2), (3, .int x3)] [] S) {x1 : Int32} {x3 : Int32} {t0 : Int32} {t1 : Int32} {S : St} (h : p_X7_vouchedBy_31 Q0 K4 x1 x3 t0 t1 S) : J X w (QI X w Q0) 31 [(0, rr w 25), (1, .int x1), (3, .int x3)] [.int t0, .int t1] S := by
  refine j_ior C dX7_vouchedBy_31 ?_
  refine j_istore_n (lv' := [(2, .int (t1 ||| t0)), (0, rr w 25), (1, .int x1), (3, .int x3)]) C dX7_vouchedBy_32 rfl (by decide) rfl ?_
  refine j_iinc (lv' := [(3, .int (x3 + 1)), (2, .int (t1 ||| t0)), (0, rr w 25), (1, .int x1)]) C dX7_vouchedBy_33 3 rfl rfl (by decide) rfl ?_
  refine j_goto (tgt := 4) C dX7_vouchedBy_36 (by decide) ?_
  refine j_sub [2, 3, 1, 0] rfl ?_
  exact hK4 _ _ _ _ h
set_option maxRecDepth 20000 in
theorem t_X7_vouchedBy_4 {X : Mx} {w : Wt} {l0 : Launch} {Q0 : Int32 → St → Prop} (C : Cx X w l0 cX7_vouchedBy 4 RX7 rm_X7_vouchedBy (some .int)) {x1 : Int32} {x2 : Int32} {x3 : Int32} {S : St} (h : Lq (p_X7_vouchedBy_4 Q0) (x1, x2, x3, S)) : J X w (QI X w Q0) 4 [(0, rr w 25), (1, .int x1), (2, .int x2), (3, .int x3)] [] S := by
  have key : ∀ a : Int32 × Int32 × Int32 × St, Lq (p_X7_vouchedBy_4 Q0) a → J X w (QI X w Q0) 4 [(0, rr w 25), (1, .int a.1), (2, .int a.2.1), (3, .int a.2.2.1)] [] a.2.2.2 := by
    intro a ha
    refine Lq_use (G := fun a => J X w (QI X w Q0) 4 [(0, rr w 25), (1, .int a.1), (2, .int a.2.1), (3, .int a.2.2.1)] [] a.2.2.2) ?_ ha
    intro K4 hK a h
    obtain ⟨x1, x2, x3, S⟩ := a
    have hK4 : ∀ (x1 : Int32) (x2 : Int32) (x3 : Int32) (S : St), K4 (x1, x2, x3, S) → J X w (QI X w Q0) 4 [(0, rr w 25), (1, .int x1), (2, .int x2), (3, .int x3)] [] S := fun x1 x2 x3 S h => hK (x1, x2, x3, S) h
    show J X w (QI X w Q0) 4 [(0, rr w 25), (1, .int x1), (2, .int x2), (3, .int x3)] [] S
    refine j_iload_n C dX7_vouchedBy_4 3 rfl rfl ?_
    refine j_aload_n C dX7_vouchedBy_5 0 rfl rfl ?_
    refine gf_RX7_111_25 C dX7_vouchedBy_6 ?_
    refine j_icmp_ge (tgt := 39) C dX7_vouchedBy_9 (by decide) (fun c1 => ?_) (fun c1 => ?_)
    · have h := And.left h c1
      refine j_iload_n C dX7_vouchedBy_39 2 rfl rfl ?_
      exact j_iret C dX7_vouchedBy_40 h
    · have h := And.right h c1
      refine j_iload_n C dX7_vouchedBy_12 2 rfl rfl ?_
      refine j_iload_n C dX7_vouchedBy_13 1 rfl rfl ?_
      refine j_iload_n C dX7_vouchedBy_14 3 rfl rfl ?_
      refine j_callSi (st := [.int x2]) C [.int x1, .int x3] (m_X7_has C.wok h) cv_RX7_132 rk_X7_vouchedBy_X7_has rfl rfl (Nat.le_of_ble_eq_true rfl) dX7_vouchedBy_15 (fun r3 S2 h => ?_)
      refine j_if_eq (tgt := 30) C dX7_vouchedBy_18 (by decide) (fun c4 => ?_) (fun c4 => ?_)
      · have h := And.left h c4
        refine j_iconst C dX7_vouchedBy_30 (v := 0) (by decide) ?_
        refine j_sub [0, 1, 3] rfl ?_
        exact t_X7_vouchedBy_31 C hK4 h
      · have h := And.right h c4
        refine j_aload_n C dX7_vouchedBy_21 0 rfl rfl ?_
        refine gf_RX7_13_25 C dX7_vouchedBy_22 ?_
        refine j_iload_n C dX7_vouchedBy_25 3 rfl rfl ?_
        refine al_27 C dX7_vouchedBy_26 (And.left h) ?_
        have h := And.right h
        refine j_goto (tgt := 31) C dX7_vouchedBy_27 (by decide) ?_
        refine j_sub [0, 1, 3] rfl ?_
        exact t_X7_vouchedBy_31 C hK4 h
  exact key (x1, x2, x3, S) h
set_option maxRecDepth 20000 in
theorem m_X7_vouchedBy {l : Launch} {w : Wt} (hw : WOK w) {x1 : Int32} {S : St} {Q0 : Int32 → St → Prop} (h : p_X7_vouchedBy x1 S Q0) : MI l w yX7_vouchedBy cX7_vouchedBy 4 .int rm_X7_vouchedBy [rr w 25, .int x1] S Q0 := by
  refine m_MI (own := RX7) (lv := [(0, rr w 25), (1, .int x1)]) hw (by decide) rfl (Nat.le_of_ble_eq_true rfl) rfl (fun X C => ?_)
  refine j_iconst C dX7_vouchedBy_0 (v := 0) (by decide) ?_
  refine j_istore_n (lv' := [(2, .int 0), (0, rr w 25), (1, .int x1)]) C dX7_vouchedBy_1 rfl (by decide) rfl ?_
  refine j_iconst C dX7_vouchedBy_2 (v := 0) (by decide) ?_
  refine j_istore_n (lv' := [(3, .int 0), (2, .int 0), (0, rr w 25), (1, .int x1)]) C dX7_vouchedBy_3 rfl (by decide) rfl ?_
  refine j_sub [2, 3, 1, 0] rfl ?_
  exact t_X7_vouchedBy_4 C h
def rm_X7_layLevels : Room := { frames := 2, cells := 0, slots := 0, locals := 44 }
theorem rk_X7_layLevels_X7_has : roomOk rm_X7_has rm_X7_layLevels 2 := ⟨⟨rfl, rfl⟩, Nat.le_of_ble_eq_true rfl, Nat.le_of_ble_eq_true rfl⟩
theorem rk_X7_layLevels_X7_ofKind : roomOk rm_X7_ofKind rm_X7_layLevels 4 := ⟨⟨rfl, rfl⟩, Nat.le_of_ble_eq_true rfl, Nat.le_of_ble_eq_true rfl⟩
theorem rk_X7_layLevels_X7_vouchedBy : roomOk rm_X7_vouchedBy rm_X7_layLevels 4 := ⟨⟨rfl, rfl⟩, Nat.le_of_ble_eq_true rfl, Nat.le_of_ble_eq_true rfl⟩
theorem rk_X7_layLevels_X7_within : roomOk rm_X7_within rm_X7_layLevels 3 := ⟨⟨rfl, rfl⟩, Nat.le_of_ble_eq_true rfl, Nat.le_of_ble_eq_true rfl⟩
set_option maxRecDepth 20000 in
theorem t_X7_layLevels_163 {X : Mx} {w : Wt} {l0 : Launch} {Q0 : St → Prop} {K116 : Int32 × St → Prop} (C : Cx X w l0 cX7_layLevels 5 RX7 rm_X7_layLevels none) (hK116 : ∀ (x2 : Int32) (S : St), K116 (x2, S) → J X w (QV X w Q0) 116 [(0, rr w 25), (2, .int x2)] [] S) {x2 : Int32} {t0 : Int32} {t1 : Int32} {S : St} (h : p_X7_layLevels_163 Q0 K116 x2 t0 t1 S) : J X w (QV X w Q0) 163 [(0, rr w 25), (2, .int x2)] [.int t0, .int t1, rr w 34] S := by
  refine as_34 C dX7_layLevels_163 (And.left h) (fun S9 eS9 => ?_)
  have h := And.right h S9 eS9
  refine j_iinc (lv' := [(2, .int (x2 + 1)), (0, rr w 25)]) C dX7_layLevels_164 1 rfl rfl (by decide) rfl ?_
  refine j_goto (tgt := 116) C dX7_layLevels_167 (by decide) ?_
  refine j_sub [1, 0] rfl ?_
  exact hK116 _ _ h
set_option maxRecDepth 20000 in
theorem t_X7_layLevels_116 {X : Mx} {w : Wt} {l0 : Launch} {Q0 : St → Prop} (C : Cx X w l0 cX7_layLevels 5 RX7 rm_X7_layLevels none) {x2 : Int32} {S : St} (h : Lq (p_X7_layLevels_116 Q0) (x2, S)) : J X w (QV X w Q0) 116 [(0, rr w 25), (2, .int x2)] [] S := by
  have key : ∀ a : Int32 × St, Lq (p_X7_layLevels_116 Q0) a → J X w (QV X w Q0) 116 [(0, rr w 25), (2, .int a.1)] [] a.2 := by
    intro a ha
    refine Lq_use (G := fun a => J X w (QV X w Q0) 116 [(0, rr w 25), (2, .int a.1)] [] a.2) ?_ ha
    intro K116 hK a h
    obtain ⟨x2, S⟩ := a
    have hK116 : ∀ (x2 : Int32) (S : St), K116 (x2, S) → J X w (QV X w Q0) 116 [(0, rr w 25), (2, .int x2)] [] S := fun x2 S h => hK (x2, S) h
    show J X w (QV X w Q0) 116 [(0, rr w 25), (2, .int x2)] [] S
    refine j_iload_n C dX7_layLevels_116 1 rfl rfl ?_
    refine j_aload_n C dX7_layLevels_117 0 rfl rfl ?_
    refine gf_RX7_111_25 C dX7_layLevels_118 ?_
    refine j_icmp_ge (tgt := 170) C dX7_layLevels_121 (by decide) (fun c5 => ?_) (fun c5 => ?_)
    · have h := And.left h c5
      exact j_vret C dX7_layLevels_170 h
    · have h := And.right h c5
      refine j_aload_n C dX7_layLevels_124 0 rfl rfl ?_
      refine gf_RX7_34_25 C dX7_layLevels_125 ?_
      refine j_iload_n C dX7_layLevels_128 1 rfl rfl ?_
      refine j_aload_n C dX7_layLevels_129 0 rfl rfl ?_
      refine gf_RX7_31_25 C dX7_layLevels_130 ?_
      refine j_iload_n C dX7_layLevels_133 1 rfl rfl ?_
      refine al_33 C dX7_layLevels_134 (And.left h) ?_
      have h := And.right h
      refine j_iconst C dX7_layLevels_135 (v := 0) (by decide) ?_
      refine j_aload_n C dX7_layLevels_136 0 rfl rfl ?_
      refine gf_RX7_114_25 C dX7_layLevels_137 ?_
      refine j_iconst C dX7_layLevels_140 (v := 1) (by decide) ?_
      refine j_isub C dX7_layLevels_141 ?_
      refine j_callSi (st := [.int x2, rr w 34]) C [.int (S.1 33 x2.toNatClampNeg), .int 0, .int ((S.1 25 3) - 1)] (m_X7_within C.wok h) cv_RX7_50 rk_X7_layLevels_X7_within rfl rfl (Nat.le_of_ble_eq_true rfl) dX7_layLevels_142 (fun r7 S6 h => ?_)
      refine j_if_eq (tgt := 162) C dX7_layLevels_145 (by decide) (fun c8 => ?_) (fun c8 => ?_)
      · have h := And.left h c8
        refine j_iconst C dX7_layLevels_162 (v := 0) (by decide) ?_
        exact t_X7_layLevels_163 C hK116 h
      · have h := And.right h c8
        refine j_aload_n C dX7_layLevels_148 0 rfl rfl ?_
        refine gf_RX7_16_25 C dX7_layLevels_149 ?_
        refine j_aload_n C dX7_layLevels_152 0 rfl rfl ?_
        refine gf_RX7_31_25 C dX7_layLevels_153 ?_
        refine j_iload_n C dX7_layLevels_156 1 rfl rfl ?_
        refine al_33 C dX7_layLevels_157 (And.left h) ?_
        have h := And.right h
        refine al_28 C dX7_layLevels_158 (And.left h) ?_
        have h := And.right h
        refine j_goto (tgt := 163) C dX7_layLevels_159 (by decide) ?_
        exact t_X7_layLevels_163 C hK116 h
  exact key (x2, S) h
set_option maxRecDepth 20000 in
theorem t_X7_layLevels_97 {X : Mx} {w : Wt} {l0 : Launch} {Q0 : St → Prop} {K43 : Int32 × Int32 × St → Prop} {K62 : Int32 × Int32 × Int32 × Int32 × St → Prop} (C : Cx X w l0 cX7_layLevels 5 RX7 rm_X7_layLevels none) (hK43 : ∀ (x1 : Int32) (x2 : Int32) (S : St), K43 (x1, x2, S) → J X w (QV X w Q0) 43 [(0, rr w 25), (1, .int x1), (2, .int x2)] [] S) (hK62 : ∀ (x1 : Int32) (x2 : Int32) (x3 : Int32) (x4 : Int32) (S : St), K62 (x1, x2, x3, x4, S) → J X w (QV X w Q0) 62 [(0, rr w 25), (1, .int x1), (2, .int x2), (3, .int x3), (4, .int x4)] [] S) {x1 : Int32} {x2 : Int32} {x3 : Int32} {x4 : Int32} {t0 : Int32} {t1 : Int32} {S : St} (h : p_X7_layLevels_97 Q0 K43 K62 x1 x2 x3 x4 t0 t1 S) : J X w (QV X w Q0) 97 [(0, rr w 25), (1, .int x1), (2, .int x2), (3, .int x3), (4, .int x4)] [.int t0, .int t1, rr w 33] S := by
  refine as_33 C dX7_layLevels_97 (And.left h) (fun S16 eS16 => ?_)
  have h := And.right h S16 eS16
  refine j_iinc (lv' := [(4, .int (x4 + 1)), (0, rr w 25), (1, .int x1), (2, .int x2), (3, .int x3)]) C dX7_layLevels_98 4 rfl rfl (by decide) rfl ?_
  refine j_goto (tgt := 62) C dX7_layLevels_101 (by decide) ?_
  refine j_sub [1, 2, 3, 4, 0] rfl ?_
  exact hK62 _ _ _ _ _ h
set_option maxRecDepth 20000 in
theorem t_X7_layLevels_62 {X : Mx} {w : Wt} {l0 : Launch} {Q0 : St → Prop} {K43 : Int32 × Int32 × St → Prop} (C : Cx X w l0 cX7_layLevels 5 RX7 rm_X7_layLevels none) (hK43 : ∀ (x1 : Int32) (x2 : Int32) (S : St), K43 (x1, x2, S) → J X w (QV X w Q0) 43 [(0, rr w 25), (1, .int x1), (2, .int x2)] [] S) {x1 : Int32} {x2 : Int32} {x3 : Int32} {x4 : Int32} {S : St} (h : Lq (p_X7_layLevels_62 Q0 K43) (x1, x2, x3, x4, S)) : J X w (QV X w Q0) 62 [(0, rr w 25), (1, .int x1), (2, .int x2), (3, .int x3), (4, .int x4)] [] S := by
  have key : ∀ a : Int32 × Int32 × Int32 × Int32 × St, Lq (p_X7_layLevels_62 Q0 K43) a → J X w (QV X w Q0) 62 [(0, rr w 25), (1, .int a.1), (2, .int a.2.1), (3, .int a.2.2.1), (4, .int a.2.2.2.1)] [] a.2.2.2.2 := by
    intro a ha
    refine Lq_use (G := fun a => J X w (QV X w Q0) 62 [(0, rr w 25), (1, .int a.1), (2, .int a.2.1), (3, .int a.2.2.1), (4, .int a.2.2.2.1)] [] a.2.2.2.2) ?_ ha
    intro K62 hK a h
    obtain ⟨x1, x2, x3, x4, S⟩ := a
    have hK62 : ∀ (x1 : Int32) (x2 : Int32) (x3 : Int32) (x4 : Int32) (S : St), K62 (x1, x2, x3, x4, S) → J X w (QV X w Q0) 62 [(0, rr w 25), (1, .int x1), (2, .int x2), (3, .int x3), (4, .int x4)] [] S := fun x1 x2 x3 x4 S h => hK (x1, x2, x3, x4, S) h
    show J X w (QV X w Q0) 62 [(0, rr w 25), (1, .int x1), (2, .int x2), (3, .int x3), (4, .int x4)] [] S
    refine j_iload C dX7_layLevels_62 4 rfl ?_
    refine j_aload_n C dX7_layLevels_64 0 rfl rfl ?_
    refine gf_RX7_111_25 C dX7_layLevels_65 ?_
    refine j_icmp_ge (tgt := 104) C dX7_layLevels_68 (by decide) (fun c12 => ?_) (fun c12 => ?_)
    · have h := And.left h c12
      refine j_iload_n C dX7_layLevels_104 1 rfl rfl ?_
      refine j_iload_n C dX7_layLevels_105 3 rfl rfl ?_
      refine j_ior C dX7_layLevels_106 ?_
      refine j_istore_n (lv' := [(1, .int (x1 ||| x3)), (0, rr w 25), (2, .int x2), (3, .int x3), (4, .int x4)]) C dX7_layLevels_107 rfl (by decide) rfl ?_
      refine j_iinc (lv' := [(2, .int (x2 + 1)), (1, .int (x1 ||| x3)), (0, rr w 25), (3, .int x3), (4, .int x4)]) C dX7_layLevels_108 2 rfl rfl (by decide) rfl ?_
      refine j_goto (tgt := 43) C dX7_layLevels_111 (by decide) ?_
      refine j_sub [2, 1, 0] rfl ?_
      exact hK43 _ _ _ h
    · have h := And.right h c12
      refine j_aload_n C dX7_layLevels_71 0 rfl rfl ?_
      refine gf_RX7_31_25 C dX7_layLevels_72 ?_
      refine j_iload C dX7_layLevels_75 4 rfl ?_
      refine j_iload_n C dX7_layLevels_77 3 rfl rfl ?_
      refine j_iload C dX7_layLevels_78 4 rfl ?_
      refine j_callSi (st := [.int x4, rr w 33]) C [.int x3, .int x4] (m_X7_has C.wok h) cv_RX7_132 rk_X7_layLevels_X7_has rfl rfl (Nat.le_of_ble_eq_true rfl) dX7_layLevels_80 (fun r14 S13 h => ?_)
      refine j_if_eq (tgt := 90) C dX7_layLevels_83 (by decide) (fun c15 => ?_) (fun c15 => ?_)
      · have h := And.left h c15
        refine j_aload_n C dX7_layLevels_90 0 rfl rfl ?_
        refine gf_RX7_31_25 C dX7_layLevels_91 ?_
        refine j_iload C dX7_layLevels_94 4 rfl ?_
        refine al_33 C dX7_layLevels_96 (And.left h) ?_
        have h := And.right h
        exact t_X7_layLevels_97 C hK43 hK62 h
      · have h := And.right h c15
        refine j_iload_n C dX7_layLevels_86 2 rfl rfl ?_
        refine j_goto (tgt := 97) C dX7_layLevels_87 (by decide) ?_
        exact t_X7_layLevels_97 C hK43 hK62 h
  exact key (x1, x2, x3, x4, S) h
set_option maxRecDepth 20000 in
theorem t_X7_layLevels_43 {X : Mx} {w : Wt} {l0 : Launch} {Q0 : St → Prop} (C : Cx X w l0 cX7_layLevels 5 RX7 rm_X7_layLevels none) {x1 : Int32} {x2 : Int32} {S : St} (h : Lq (p_X7_layLevels_43 Q0) (x1, x2, S)) : J X w (QV X w Q0) 43 [(0, rr w 25), (1, .int x1), (2, .int x2)] [] S := by
  have key : ∀ a : Int32 × Int32 × St, Lq (p_X7_layLevels_43 Q0) a → J X w (QV X w Q0) 43 [(0, rr w 25), (1, .int a.1), (2, .int a.2.1)] [] a.2.2 := by
    intro a ha
    refine Lq_use (G := fun a => J X w (QV X w Q0) 43 [(0, rr w 25), (1, .int a.1), (2, .int a.2.1)] [] a.2.2) ?_ ha
    intro K43 hK a h
    obtain ⟨x1, x2, S⟩ := a
    have hK43 : ∀ (x1 : Int32) (x2 : Int32) (S : St), K43 (x1, x2, S) → J X w (QV X w Q0) 43 [(0, rr w 25), (1, .int x1), (2, .int x2)] [] S := fun x1 x2 S h => hK (x1, x2, S) h
    show J X w (QV X w Q0) 43 [(0, rr w 25), (1, .int x1), (2, .int x2)] [] S
    refine j_iload_n C dX7_layLevels_43 2 rfl rfl ?_
    refine j_bipush C dX7_layLevels_44 (v := 9) (by decide) ?_
    refine j_icmp_ge (tgt := 114) C dX7_layLevels_46 (by decide) (fun c4 => ?_) (fun c4 => ?_)
    · have h := And.left h c4
      refine j_iconst C dX7_layLevels_114 (v := 0) (by decide) ?_
      refine j_istore_n (lv' := [(2, .int 0), (0, rr w 25), (1, .int x1)]) C dX7_layLevels_115 rfl (by decide) rfl ?_
      refine j_sub [1, 0] rfl ?_
      exact t_X7_layLevels_116 C h
    · have h := And.right h c4
      refine j_aload_n C dX7_layLevels_49 0 rfl rfl ?_
      refine j_iload_n C dX7_layLevels_50 1 rfl rfl ?_
      refine j_callVi (st := []) C 25 [.int x1] (m_X7_vouchedBy C.wok h) cv_RX7_160 rk_X7_layLevels_X7_vouchedBy rfl (rc_25 w) rfl (Nat.le_of_ble_eq_true rfl) dX7_layLevels_51 (fun r11 S10 h => ?_)
      refine j_iload_n C dX7_layLevels_54 1 rfl rfl ?_
      refine j_iconst C dX7_layLevels_55 (v := (-1)) (by decide) ?_
      refine j_ixor C dX7_layLevels_56 ?_
      refine j_iand C dX7_layLevels_57 ?_
      refine j_istore_n (lv' := [(3, .int (r11 &&& (x1 ^^^ (-1)))), (0, rr w 25), (1, .int x1), (2, .int x2)]) C dX7_layLevels_58 rfl (by decide) rfl ?_
      refine j_iconst C dX7_layLevels_59 (v := 0) (by decide) ?_
      refine j_istore (lv' := [(4, .int 0), (3, .int (r11 &&& (x1 ^^^ (-1)))), (0, rr w 25), (1, .int x1), (2, .int x2)]) C dX7_layLevels_60 (by decide) rfl ?_
      refine j_sub [2, 3, 4, 1, 0] rfl ?_
      exact t_X7_layLevels_62 C hK43 h
  exact key (x1, x2, S) h
set_option maxRecDepth 20000 in
theorem t_X7_layLevels_34 {X : Mx} {w : Wt} {l0 : Launch} {Q0 : St → Prop} {K8 : Int32 × Int32 × St → Prop} (C : Cx X w l0 cX7_layLevels 5 RX7 rm_X7_layLevels none) (hK8 : ∀ (x1 : Int32) (x2 : Int32) (S : St), K8 (x1, x2, S) → J X w (QV X w Q0) 8 [(0, rr w 25), (1, .int x1), (2, .int x2)] [] S) {x1 : Int32} {x2 : Int32} {t0 : Int32} {t1 : Int32} {S : St} (h : p_X7_layLevels_34 Q0 K8 x1 x2 t0 t1 S) : J X w (QV X w Q0) 34 [(0, rr w 25), (1, .int x1), (2, .int x2)] [.int t0, .int t1, rr w 33] S := by
  refine as_33 C dX7_layLevels_34 (And.left h) (fun S20 eS20 => ?_)
  have h := And.right h S20 eS20
  refine j_iinc (lv' := [(2, .int (x2 + 1)), (0, rr w 25), (1, .int x1)]) C dX7_layLevels_35 2 rfl rfl (by decide) rfl ?_
  refine j_goto (tgt := 8) C dX7_layLevels_38 (by decide) ?_
  refine j_sub [1, 2, 0] rfl ?_
  exact hK8 _ _ _ h
set_option maxRecDepth 20000 in
theorem t_X7_layLevels_8 {X : Mx} {w : Wt} {l0 : Launch} {Q0 : St → Prop} (C : Cx X w l0 cX7_layLevels 5 RX7 rm_X7_layLevels none) {x1 : Int32} {x2 : Int32} {S : St} (h : Lq (p_X7_layLevels_8 Q0) (x1, x2, S)) : J X w (QV X w Q0) 8 [(0, rr w 25), (1, .int x1), (2, .int x2)] [] S := by
  have key : ∀ a : Int32 × Int32 × St, Lq (p_X7_layLevels_8 Q0) a → J X w (QV X w Q0) 8 [(0, rr w 25), (1, .int a.1), (2, .int a.2.1)] [] a.2.2 := by
    intro a ha
    refine Lq_use (G := fun a => J X w (QV X w Q0) 8 [(0, rr w 25), (1, .int a.1), (2, .int a.2.1)] [] a.2.2) ?_ ha
    intro K8 hK a h
    obtain ⟨x1, x2, S⟩ := a
    have hK8 : ∀ (x1 : Int32) (x2 : Int32) (S : St), K8 (x1, x2, S) → J X w (QV X w Q0) 8 [(0, rr w 25), (1, .int x1), (2, .int x2)] [] S := fun x1 x2 S h => hK (x1, x2, S) h
    show J X w (QV X w Q0) 8 [(0, rr w 25), (1, .int x1), (2, .int x2)] [] S
    refine j_iload_n C dX7_layLevels_8 2 rfl rfl ?_
    refine j_aload_n C dX7_layLevels_9 0 rfl rfl ?_
    refine gf_RX7_111_25 C dX7_layLevels_10 ?_
    refine j_icmp_ge (tgt := 41) C dX7_layLevels_13 (by decide) (fun c3 => ?_) (fun c3 => ?_)
    · have h := And.left h c3
      refine j_iconst C dX7_layLevels_41 (v := 1) (by decide) ?_
      refine j_istore_n (lv' := [(2, .int 1), (0, rr w 25), (1, .int x1)]) C dX7_layLevels_42 rfl (by decide) rfl ?_
      refine j_sub [1, 2, 0] rfl ?_
      exact t_X7_layLevels_43 C h
    · have h := And.right h c3
      refine j_aload_n C dX7_layLevels_16 0 rfl rfl ?_
      refine gf_RX7_31_25 C dX7_layLevels_17 ?_
      refine j_iload_n C dX7_layLevels_20 2 rfl rfl ?_
      refine j_iload_n C dX7_layLevels_21 1 rfl rfl ?_
      refine j_iload_n C dX7_layLevels_22 2 rfl rfl ?_
      refine j_callSi (st := [.int x2, rr w 33]) C [.int x1, .int x2] (m_X7_has C.wok h) cv_RX7_132 rk_X7_layLevels_X7_has rfl rfl (Nat.le_of_ble_eq_true rfl) dX7_layLevels_23 (fun r18 S17 h => ?_)
      refine j_if_eq (tgt := 33) C dX7_layLevels_26 (by decide) (fun c19 => ?_) (fun c19 => ?_)
      · have h := And.left h c19
        refine j_iconst C dX7_layLevels_33 (v := (-1)) (by decide) ?_
        exact t_X7_layLevels_34 C hK8 h
      · have h := And.right h c19
        refine j_iconst C dX7_layLevels_29 (v := 0) (by decide) ?_
        refine j_goto (tgt := 34) C dX7_layLevels_30 (by decide) ?_
        exact t_X7_layLevels_34 C hK8 h
  exact key (x1, x2, S) h
set_option maxRecDepth 20000 in
theorem m_X7_layLevels {l : Launch} {w : Wt} (hw : WOK w) {S : St} {Q0 : St → Prop} (h : p_X7_layLevels S Q0) : MV l w yX7_layLevels cX7_layLevels 5 rm_X7_layLevels [rr w 25] S Q0 := by
  refine m_MV (own := RX7) (lv := [(0, rr w 25)]) hw (by decide) rfl (Nat.le_of_ble_eq_true rfl) rfl (fun X C => ?_)
  refine j_aload_n C dX7_layLevels_0 0 rfl rfl ?_
  refine j_iconst C dX7_layLevels_1 (v := 1) (by decide) ?_
  refine j_callVi (st := []) C 25 [.int 1] (m_X7_ofKind C.wok h) cv_RX7_148 rk_X7_layLevels_X7_ofKind rfl (rc_25 w) rfl (Nat.le_of_ble_eq_true rfl) dX7_layLevels_2 (fun r2 S1 h => ?_)
  refine j_istore_n (lv' := [(1, .int r2), (0, rr w 25)]) C dX7_layLevels_5 rfl (by decide) rfl ?_
  refine j_iconst C dX7_layLevels_6 (v := 0) (by decide) ?_
  refine j_istore_n (lv' := [(2, .int 0), (1, .int r2), (0, rr w 25)]) C dX7_layLevels_7 rfl (by decide) rfl ?_
  refine j_sub [2, 1, 0] rfl ?_
  exact t_X7_layLevels_8 C h
def rm_X7_vouchesAll : Room := { frames := 1, cells := 0, slots := 0, locals := 22 }
theorem rk_X7_vouchesAll_X7_size : roomOk rm_X7_size rm_X7_vouchesAll 3 := ⟨⟨rfl, rfl⟩, Nat.le_of_ble_eq_true rfl, Nat.le_of_ble_eq_true rfl⟩
set_option maxRecDepth 20000 in
theorem t_X7_vouchesAll_4 {X : Mx} {w : Wt} {l0 : Launch} {Q0 : Int32 → St → Prop} (C : Cx X w l0 cX7_vouchesAll 3 RX7 rm_X7_vouchesAll (some .int)) {x1 : Int32} {x2 : Int32} {S : St} (h : Lq (p_X7_vouchesAll_4 Q0) (x1, x2, S)) : J X w (QI X w Q0) 4 [(0, rr w 25), (1, .int x1), (2, .int x2)] [] S := by
  have key : ∀ a : Int32 × Int32 × St, Lq (p_X7_vouchesAll_4 Q0) a → J X w (QI X w Q0) 4 [(0, rr w 25), (1, .int a.1), (2, .int a.2.1)] [] a.2.2 := by
    intro a ha
    refine Lq_use (G := fun a => J X w (QI X w Q0) 4 [(0, rr w 25), (1, .int a.1), (2, .int a.2.1)] [] a.2.2) ?_ ha
    intro K4 hK a h
    obtain ⟨x1, x2, S⟩ := a
    have hK4 : ∀ (x1 : Int32) (x2 : Int32) (S : St), K4 (x1, x2, S) → J X w (QI X w Q0) 4 [(0, rr w 25), (1, .int x1), (2, .int x2)] [] S := fun x1 x2 S h => hK (x1, x2, S) h
    show J X w (QI X w Q0) 4 [(0, rr w 25), (1, .int x1), (2, .int x2)] [] S
    refine j_iload_n C dX7_vouchesAll_4 2 rfl rfl ?_
    refine j_aload_n C dX7_vouchesAll_5 0 rfl rfl ?_
    refine gf_RX7_111_25 C dX7_vouchesAll_6 ?_
    refine j_icmp_ge (tgt := 30) C dX7_vouchesAll_9 (by decide) (fun c1 => ?_) (fun c1 => ?_)
    · have h := And.left h c1
      refine j_iload_n C dX7_vouchesAll_30 1 rfl rfl ?_
      exact j_iret C dX7_vouchesAll_31 h
    · have h := And.right h c1
      refine j_iload_n C dX7_vouchesAll_12 1 rfl rfl ?_
      refine j_aload_n C dX7_vouchesAll_13 0 rfl rfl ?_
      refine gf_RX7_13_25 C dX7_vouchesAll_14 ?_
      refine j_iload_n C dX7_vouchesAll_17 2 rfl rfl ?_
      refine al_27 C dX7_vouchesAll_18 (And.left h) ?_
      have h := And.right h
      refine j_callSi (st := [.int x1]) C [.int (S.1 27 x2.toNatClampNeg)] (m_X7_size C.wok h) cv_RX7_71 rk_X7_vouchesAll_X7_size rfl rfl (Nat.le_of_ble_eq_true rfl) dX7_vouchesAll_19 (fun r3 S2 h => ?_)
      refine j_iadd C dX7_vouchesAll_22 ?_
      refine j_istore_n (lv' := [(1, .int (x1 + r3)), (0, rr w 25), (2, .int x2)]) C dX7_vouchesAll_23 rfl (by decide) rfl ?_
      refine j_iinc (lv' := [(2, .int (x2 + 1)), (1, .int (x1 + r3)), (0, rr w 25)]) C dX7_vouchesAll_24 2 rfl rfl (by decide) rfl ?_
      refine j_goto (tgt := 4) C dX7_vouchesAll_27 (by decide) ?_
      refine j_sub [2, 1, 0] rfl ?_
      exact hK4 _ _ _ h
  exact key (x1, x2, S) h
set_option maxRecDepth 20000 in
theorem m_X7_vouchesAll {l : Launch} {w : Wt} (hw : WOK w) {S : St} {Q0 : Int32 → St → Prop} (h : p_X7_vouchesAll S Q0) : MI l w yX7_vouchesAll cX7_vouchesAll 3 .int rm_X7_vouchesAll [rr w 25] S Q0 := by
  refine m_MI (own := RX7) (lv := [(0, rr w 25)]) hw (by decide) rfl (Nat.le_of_ble_eq_true rfl) rfl (fun X C => ?_)
  refine j_iconst C dX7_vouchesAll_0 (v := 0) (by decide) ?_
  refine j_istore_n (lv' := [(1, .int 0), (0, rr w 25)]) C dX7_vouchesAll_1 rfl (by decide) rfl ?_
  refine j_iconst C dX7_vouchesAll_2 (v := 0) (by decide) ?_
  refine j_istore_n (lv' := [(2, .int 0), (1, .int 0), (0, rr w 25)]) C dX7_vouchesAll_3 rfl (by decide) rfl ?_
  refine j_sub [2, 1, 0] rfl ?_
  exact t_X7_vouchesAll_4 C h
def rm_X7_levelsMany : Room := { frames := 0, cells := 0, slots := 0, locals := 0 }
set_option maxRecDepth 20000 in
theorem t_X7_levelsMany_28 {X : Mx} {w : Wt} {l0 : Launch} {Q0 : Int32 → St → Prop} {K4 : Int32 × Int32 × St → Prop} (C : Cx X w l0 cX7_levelsMany 3 RX7 rm_X7_levelsMany (some .int)) (hK4 : ∀ (x1 : Int32) (x2 : Int32) (S : St), K4 (x1, x2, S) → J X w (QI X w Q0) 4 [(0, rr w 25), (1, .int x1), (2, .int x2)] [] S) {x2 : Int32} {t0 : Int32} {t1 : Int32} {S : St} (h : p_X7_levelsMany_28 Q0 K4 x2 t0 t1 S) : J X w (QI X w Q0) 28 [(0, rr w 25), (2, .int x2)] [.int t0, .int t1] S := by
  refine j_iadd C dX7_levelsMany_28 ?_
  refine j_istore_n (lv' := [(1, .int (t1 + t0)), (0, rr w 25), (2, .int x2)]) C dX7_levelsMany_29 rfl (by decide) rfl ?_
  refine j_iinc (lv' := [(2, .int (x2 + 1)), (1, .int (t1 + t0)), (0, rr w 25)]) C dX7_levelsMany_30 2 rfl rfl (by decide) rfl ?_
  refine j_goto (tgt := 4) C dX7_levelsMany_33 (by decide) ?_
  refine j_sub [2, 1, 0] rfl ?_
  exact hK4 _ _ _ h
set_option maxRecDepth 20000 in
theorem t_X7_levelsMany_4 {X : Mx} {w : Wt} {l0 : Launch} {Q0 : Int32 → St → Prop} (C : Cx X w l0 cX7_levelsMany 3 RX7 rm_X7_levelsMany (some .int)) {x1 : Int32} {x2 : Int32} {S : St} (h : Lq (p_X7_levelsMany_4 Q0) (x1, x2, S)) : J X w (QI X w Q0) 4 [(0, rr w 25), (1, .int x1), (2, .int x2)] [] S := by
  have key : ∀ a : Int32 × Int32 × St, Lq (p_X7_levelsMany_4 Q0) a → J X w (QI X w Q0) 4 [(0, rr w 25), (1, .int a.1), (2, .int a.2.1)] [] a.2.2 := by
    intro a ha
    refine Lq_use (G := fun a => J X w (QI X w Q0) 4 [(0, rr w 25), (1, .int a.1), (2, .int a.2.1)] [] a.2.2) ?_ ha
    intro K4 hK a h
    obtain ⟨x1, x2, S⟩ := a
    have hK4 : ∀ (x1 : Int32) (x2 : Int32) (S : St), K4 (x1, x2, S) → J X w (QI X w Q0) 4 [(0, rr w 25), (1, .int x1), (2, .int x2)] [] S := fun x1 x2 S h => hK (x1, x2, S) h
    show J X w (QI X w Q0) 4 [(0, rr w 25), (1, .int x1), (2, .int x2)] [] S
    refine j_iload_n C dX7_levelsMany_4 2 rfl rfl ?_
    refine j_aload_n C dX7_levelsMany_5 0 rfl rfl ?_
    refine gf_RX7_111_25 C dX7_levelsMany_6 ?_
    refine j_icmp_ge (tgt := 36) C dX7_levelsMany_9 (by decide) (fun c1 => ?_) (fun c1 => ?_)
    · have h := And.left h c1
      refine j_iload_n C dX7_levelsMany_36 1 rfl rfl ?_
      exact j_iret C dX7_levelsMany_37 h
    · have h := And.right h c1
      refine j_iload_n C dX7_levelsMany_12 1 rfl rfl ?_
      refine j_aload_n C dX7_levelsMany_13 0 rfl rfl ?_
      refine gf_RX7_31_25 C dX7_levelsMany_14 ?_
      refine j_iload_n C dX7_levelsMany_17 2 rfl rfl ?_
      refine al_33 C dX7_levelsMany_18 (And.left h) ?_
      have h := And.right h
      refine j_iconst C dX7_levelsMany_19 (v := (-1)) (by decide) ?_
      refine j_icmp_ne (tgt := 27) C dX7_levelsMany_20 (by decide) (fun c2 => ?_) (fun c2 => ?_)
      · have h := And.left h c2
        refine j_iconst C dX7_levelsMany_27 (v := 1) (by decide) ?_
        refine j_sub [0, 2] rfl ?_
        exact t_X7_levelsMany_28 C hK4 h
      · have h := And.right h c2
        refine j_iconst C dX7_levelsMany_23 (v := 0) (by decide) ?_
        refine j_goto (tgt := 28) C dX7_levelsMany_24 (by decide) ?_
        refine j_sub [0, 2] rfl ?_
        exact t_X7_levelsMany_28 C hK4 h
  exact key (x1, x2, S) h
set_option maxRecDepth 20000 in
theorem m_X7_levelsMany {l : Launch} {w : Wt} (hw : WOK w) {S : St} {Q0 : Int32 → St → Prop} (h : p_X7_levelsMany S Q0) : MI l w yX7_levelsMany cX7_levelsMany 3 .int rm_X7_levelsMany [rr w 25] S Q0 := by
  refine m_MI (own := RX7) (lv := [(0, rr w 25)]) hw (by decide) rfl (Nat.le_of_ble_eq_true rfl) rfl (fun X C => ?_)
  refine j_iconst C dX7_levelsMany_0 (v := 0) (by decide) ?_
  refine j_istore_n (lv' := [(1, .int 0), (0, rr w 25)]) C dX7_levelsMany_1 rfl (by decide) rfl ?_
  refine j_iconst C dX7_levelsMany_2 (v := 0) (by decide) ?_
  refine j_istore_n (lv' := [(2, .int 0), (1, .int 0), (0, rr w 25)]) C dX7_levelsMany_3 rfl (by decide) rfl ?_
  refine j_sub [2, 1, 0] rfl ?_
  exact t_X7_levelsMany_4 C h
def rm_X7_greatestLevel : Room := { frames := 0, cells := 0, slots := 0, locals := 0 }
set_option maxRecDepth 20000 in
theorem t_X7_greatestLevel_32 {X : Mx} {w : Wt} {l0 : Launch} {Q0 : Int32 → St → Prop} {K4 : Int32 × Int32 × St → Prop} (C : Cx X w l0 cX7_greatestLevel 3 RX7 rm_X7_greatestLevel (some .int)) (hK4 : ∀ (x1 : Int32) (x2 : Int32) (S : St), K4 (x1, x2, S) → J X w (QI X w Q0) 4 [(0, rr w 25), (1, .int x1), (2, .int x2)] [] S) {x2 : Int32} {t0 : Int32} {S : St} (h : p_X7_greatestLevel_32 Q0 K4 x2 t0 S) : J X w (QI X w Q0) 32 [(0, rr w 25), (2, .int x2)] [.int t0] S := by
  refine j_istore_n (lv' := [(1, .int t0), (0, rr w 25), (2, .int x2)]) C dX7_greatestLevel_32 rfl (by decide) rfl ?_
  refine j_iinc (lv' := [(2, .int (x2 + 1)), (1, .int t0), (0, rr w 25)]) C dX7_greatestLevel_33 2 rfl rfl (by decide) rfl ?_
  refine j_goto (tgt := 4) C dX7_greatestLevel_36 (by decide) ?_
  refine j_sub [2, 1, 0] rfl ?_
  exact hK4 _ _ _ h
set_option maxRecDepth 20000 in
theorem t_X7_greatestLevel_4 {X : Mx} {w : Wt} {l0 : Launch} {Q0 : Int32 → St → Prop} (C : Cx X w l0 cX7_greatestLevel 3 RX7 rm_X7_greatestLevel (some .int)) {x1 : Int32} {x2 : Int32} {S : St} (h : Lq (p_X7_greatestLevel_4 Q0) (x1, x2, S)) : J X w (QI X w Q0) 4 [(0, rr w 25), (1, .int x1), (2, .int x2)] [] S := by
  have key : ∀ a : Int32 × Int32 × St, Lq (p_X7_greatestLevel_4 Q0) a → J X w (QI X w Q0) 4 [(0, rr w 25), (1, .int a.1), (2, .int a.2.1)] [] a.2.2 := by
    intro a ha
    refine Lq_use (G := fun a => J X w (QI X w Q0) 4 [(0, rr w 25), (1, .int a.1), (2, .int a.2.1)] [] a.2.2) ?_ ha
    intro K4 hK a h
    obtain ⟨x1, x2, S⟩ := a
    have hK4 : ∀ (x1 : Int32) (x2 : Int32) (S : St), K4 (x1, x2, S) → J X w (QI X w Q0) 4 [(0, rr w 25), (1, .int x1), (2, .int x2)] [] S := fun x1 x2 S h => hK (x1, x2, S) h
    show J X w (QI X w Q0) 4 [(0, rr w 25), (1, .int x1), (2, .int x2)] [] S
    refine j_iload_n C dX7_greatestLevel_4 2 rfl rfl ?_
    refine j_aload_n C dX7_greatestLevel_5 0 rfl rfl ?_
    refine gf_RX7_111_25 C dX7_greatestLevel_6 ?_
    refine j_icmp_ge (tgt := 39) C dX7_greatestLevel_9 (by decide) (fun c1 => ?_) (fun c1 => ?_)
    · have h := And.left h c1
      refine j_iload_n C dX7_greatestLevel_39 1 rfl rfl ?_
      exact j_iret C dX7_greatestLevel_40 h
    · have h := And.right h c1
      refine j_aload_n C dX7_greatestLevel_12 0 rfl rfl ?_
      refine gf_RX7_31_25 C dX7_greatestLevel_13 ?_
      refine j_iload_n C dX7_greatestLevel_16 2 rfl rfl ?_
      refine al_33 C dX7_greatestLevel_17 (And.left h) ?_
      have h := And.right h
      refine j_iload_n C dX7_greatestLevel_18 1 rfl rfl ?_
      refine j_icmp_le (tgt := 31) C dX7_greatestLevel_19 (by decide) (fun c2 => ?_) (fun c2 => ?_)
      · have h := And.left h c2
        refine j_iload_n C dX7_greatestLevel_31 1 rfl rfl ?_
        refine j_sub [0, 2] rfl ?_
        exact t_X7_greatestLevel_32 C hK4 h
      · have h := And.right h c2
        refine j_aload_n C dX7_greatestLevel_22 0 rfl rfl ?_
        refine gf_RX7_31_25 C dX7_greatestLevel_23 ?_
        refine j_iload_n C dX7_greatestLevel_26 2 rfl rfl ?_
        refine al_33 C dX7_greatestLevel_27 (And.left h) ?_
        have h := And.right h
        refine j_goto (tgt := 32) C dX7_greatestLevel_28 (by decide) ?_
        refine j_sub [0, 2] rfl ?_
        exact t_X7_greatestLevel_32 C hK4 h
  exact key (x1, x2, S) h
set_option maxRecDepth 20000 in
theorem m_X7_greatestLevel {l : Launch} {w : Wt} (hw : WOK w) {S : St} {Q0 : Int32 → St → Prop} (h : p_X7_greatestLevel S Q0) : MI l w yX7_greatestLevel cX7_greatestLevel 3 .int rm_X7_greatestLevel [rr w 25] S Q0 := by
  refine m_MI (own := RX7) (lv := [(0, rr w 25)]) hw (by decide) rfl (Nat.le_of_ble_eq_true rfl) rfl (fun X C => ?_)
  refine j_iconst C dX7_greatestLevel_0 (v := (-1)) (by decide) ?_
  refine j_istore_n (lv' := [(1, .int (-1)), (0, rr w 25)]) C dX7_greatestLevel_1 rfl (by decide) rfl ?_
  refine j_iconst C dX7_greatestLevel_2 (v := 0) (by decide) ?_
  refine j_istore_n (lv' := [(2, .int 0), (1, .int (-1)), (0, rr w 25)]) C dX7_greatestLevel_3 rfl (by decide) rfl ?_
  refine j_sub [2, 1, 0] rfl ?_
  exact t_X7_greatestLevel_4 C h
def rm_X7_mostOf : Room := { frames := 1, cells := 0, slots := 0, locals := 21 }
theorem rk_X7_mostOf_X7_has : roomOk rm_X7_has rm_X7_mostOf 2 := ⟨⟨rfl, rfl⟩, Nat.le_of_ble_eq_true rfl, Nat.le_of_ble_eq_true rfl⟩
set_option maxRecDepth 20000 in
theorem t_X7_mostOf_31 {X : Mx} {w : Wt} {l0 : Launch} {Q0 : Int32 → St → Prop} {K4 : Int32 × Int32 × Int32 × St → Prop} (C : Cx X w l0 cX7_mostOf 4 RX7 rm_X7_mostOf (some .int)) (hK4 : ∀ (x1 : Int32) (x2 : Int32) (x3 : Int32) (S : St), K4 (x1, x2, x3, S) → J X w (QI X w Q0) 4 [(0, rr w 25), (1, .int x1), (2, .int x2), (3, .int x3)] [] S) {x1 : Int32} {x3 : Int32} {t0 : Int32} {t1 : Int32} {S : St} (h : p_X7_mostOf_31 Q0 K4 x1 x3 t0 t1 S) : J X w (QI X w Q0) 31 [(0, rr w 25), (1, .int x1), (3, .int x3)] [.int t0, .int t1] S := by
  refine j_iadd C dX7_mostOf_31 ?_
  refine j_istore_n (lv' := [(2, .int (t1 + t0)), (0, rr w 25), (1, .int x1), (3, .int x3)]) C dX7_mostOf_32 rfl (by decide) rfl ?_
  refine j_iinc (lv' := [(3, .int (x3 + 1)), (2, .int (t1 + t0)), (0, rr w 25), (1, .int x1)]) C dX7_mostOf_33 3 rfl rfl (by decide) rfl ?_
  refine j_goto (tgt := 4) C dX7_mostOf_36 (by decide) ?_
  refine j_sub [2, 3, 1, 0] rfl ?_
  exact hK4 _ _ _ _ h
set_option maxRecDepth 20000 in
theorem t_X7_mostOf_4 {X : Mx} {w : Wt} {l0 : Launch} {Q0 : Int32 → St → Prop} (C : Cx X w l0 cX7_mostOf 4 RX7 rm_X7_mostOf (some .int)) {x1 : Int32} {x2 : Int32} {x3 : Int32} {S : St} (h : Lq (p_X7_mostOf_4 Q0) (x1, x2, x3, S)) : J X w (QI X w Q0) 4 [(0, rr w 25), (1, .int x1), (2, .int x2), (3, .int x3)] [] S := by
  have key : ∀ a : Int32 × Int32 × Int32 × St, Lq (p_X7_mostOf_4 Q0) a → J X w (QI X w Q0) 4 [(0, rr w 25), (1, .int a.1), (2, .int a.2.1), (3, .int a.2.2.1)] [] a.2.2.2 := by
    intro a ha
    refine Lq_use (G := fun a => J X w (QI X w Q0) 4 [(0, rr w 25), (1, .int a.1), (2, .int a.2.1), (3, .int a.2.2.1)] [] a.2.2.2) ?_ ha
    intro K4 hK a h
    obtain ⟨x1, x2, x3, S⟩ := a
    have hK4 : ∀ (x1 : Int32) (x2 : Int32) (x3 : Int32) (S : St), K4 (x1, x2, x3, S) → J X w (QI X w Q0) 4 [(0, rr w 25), (1, .int x1), (2, .int x2), (3, .int x3)] [] S := fun x1 x2 x3 S h => hK (x1, x2, x3, S) h
    show J X w (QI X w Q0) 4 [(0, rr w 25), (1, .int x1), (2, .int x2), (3, .int x3)] [] S
    refine j_iload_n C dX7_mostOf_4 3 rfl rfl ?_
    refine j_aload_n C dX7_mostOf_5 0 rfl rfl ?_
    refine gf_RX7_111_25 C dX7_mostOf_6 ?_
    refine j_icmp_ge (tgt := 39) C dX7_mostOf_9 (by decide) (fun c1 => ?_) (fun c1 => ?_)
    · have h := And.left h c1
      refine j_iload_n C dX7_mostOf_39 2 rfl rfl ?_
      exact j_iret C dX7_mostOf_40 h
    · have h := And.right h c1
      refine j_iload_n C dX7_mostOf_12 2 rfl rfl ?_
      refine j_iload_n C dX7_mostOf_13 1 rfl rfl ?_
      refine j_iload_n C dX7_mostOf_14 3 rfl rfl ?_
      refine j_callSi (st := [.int x2]) C [.int x1, .int x3] (m_X7_has C.wok h) cv_RX7_132 rk_X7_mostOf_X7_has rfl rfl (Nat.le_of_ble_eq_true rfl) dX7_mostOf_15 (fun r3 S2 h => ?_)
      refine j_if_eq (tgt := 30) C dX7_mostOf_18 (by decide) (fun c4 => ?_) (fun c4 => ?_)
      · have h := And.left h c4
        refine j_iconst C dX7_mostOf_30 (v := 0) (by decide) ?_
        refine j_sub [0, 1, 3] rfl ?_
        exact t_X7_mostOf_31 C hK4 h
      · have h := And.right h c4
        refine j_aload_n C dX7_mostOf_21 0 rfl rfl ?_
        refine gf_RX7_34_25 C dX7_mostOf_22 ?_
        refine j_iload_n C dX7_mostOf_25 3 rfl rfl ?_
        refine al_34 C dX7_mostOf_26 (And.left h) ?_
        have h := And.right h
        refine j_goto (tgt := 31) C dX7_mostOf_27 (by decide) ?_
        refine j_sub [0, 1, 3] rfl ?_
        exact t_X7_mostOf_31 C hK4 h
  exact key (x1, x2, x3, S) h
set_option maxRecDepth 20000 in
theorem m_X7_mostOf {l : Launch} {w : Wt} (hw : WOK w) {x1 : Int32} {S : St} {Q0 : Int32 → St → Prop} (h : p_X7_mostOf x1 S Q0) : MI l w yX7_mostOf cX7_mostOf 4 .int rm_X7_mostOf [rr w 25, .int x1] S Q0 := by
  refine m_MI (own := RX7) (lv := [(0, rr w 25), (1, .int x1)]) hw (by decide) rfl (Nat.le_of_ble_eq_true rfl) rfl (fun X C => ?_)
  refine j_iconst C dX7_mostOf_0 (v := 0) (by decide) ?_
  refine j_istore_n (lv' := [(2, .int 0), (0, rr w 25), (1, .int x1)]) C dX7_mostOf_1 rfl (by decide) rfl ?_
  refine j_iconst C dX7_mostOf_2 (v := 0) (by decide) ?_
  refine j_istore_n (lv' := [(3, .int 0), (2, .int 0), (0, rr w 25), (1, .int x1)]) C dX7_mostOf_3 rfl (by decide) rfl ?_
  refine j_sub [2, 3, 1, 0] rfl ?_
  exact t_X7_mostOf_4 C h
def rm_X7_aboutNow : Room := { frames := 3, cells := 0, slots := 0, locals := 68 }
theorem rk_X7_aboutNow_X7_greatestLevel : roomOk rm_X7_greatestLevel rm_X7_aboutNow 3 := ⟨⟨rfl, rfl⟩, Nat.le_of_ble_eq_true rfl, Nat.le_of_ble_eq_true rfl⟩
theorem rk_X7_aboutNow_X7_layLevels : roomOk rm_X7_layLevels rm_X7_aboutNow 5 := ⟨⟨rfl, rfl⟩, Nat.le_of_ble_eq_true rfl, Nat.le_of_ble_eq_true rfl⟩
theorem rk_X7_aboutNow_X7_levelsMany : roomOk rm_X7_levelsMany rm_X7_aboutNow 3 := ⟨⟨rfl, rfl⟩, Nat.le_of_ble_eq_true rfl, Nat.le_of_ble_eq_true rfl⟩
theorem rk_X7_aboutNow_X7_mostOf : roomOk rm_X7_mostOf rm_X7_aboutNow 4 := ⟨⟨rfl, rfl⟩, Nat.le_of_ble_eq_true rfl, Nat.le_of_ble_eq_true rfl⟩
theorem rk_X7_aboutNow_X7_ofKind : roomOk rm_X7_ofKind rm_X7_aboutNow 4 := ⟨⟨rfl, rfl⟩, Nat.le_of_ble_eq_true rfl, Nat.le_of_ble_eq_true rfl⟩
theorem rk_X7_aboutNow_X7_size : roomOk rm_X7_size rm_X7_aboutNow 3 := ⟨⟨rfl, rfl⟩, Nat.le_of_ble_eq_true rfl, Nat.le_of_ble_eq_true rfl⟩
theorem rk_X7_aboutNow_X7_vouchesAll : roomOk rm_X7_vouchesAll rm_X7_aboutNow 3 := ⟨⟨rfl, rfl⟩, Nat.le_of_ble_eq_true rfl, Nat.le_of_ble_eq_true rfl⟩
set_option maxRecDepth 20000 in
theorem m_X7_aboutNow {l : Launch} {w : Wt} (hw : WOK w) {x1 : Int32} {S : St} {Q0 : Int32 → St → Prop} (h : p_X7_aboutNow x1 S Q0) : MI l w yX7_aboutNow cX7_aboutNow 2 .int rm_X7_aboutNow [rr w 25, .int x1] S Q0 := by
  refine m_MI (own := RX7) (lv := [(0, rr w 25), (1, .int x1)]) hw (by decide) rfl (Nat.le_of_ble_eq_true rfl) rfl (fun X C => ?_)
  refine j_aload_n C dX7_aboutNow_0 0 rfl rfl ?_
  refine j_callVv (st := []) C 25 [] (m_X7_layLevels C.wok h) cv_RX7_163 rk_X7_aboutNow_X7_layLevels rfl (rc_25 w) rfl (Nat.le_of_ble_eq_true rfl) dX7_aboutNow_1 (fun S1 h => ?_)
  refine j_iload_n C dX7_aboutNow_4 1 rfl rfl ?_
  by_cases c2 : x1 = 0
  · have h := And.left h c2
    refine j_tableIn (tgt := 48) (off := 43) C dX7_aboutNow_5 (by rw [c2]; decide) (by rw [c2]; decide) (by rw [c2]; decide) (by decide) ?_
    refine j_aload_n C dX7_aboutNow_48 0 rfl rfl ?_
    refine gf_RX7_111_25 C dX7_aboutNow_49 ?_
    exact j_iret C dX7_aboutNow_52 h
  · have h := And.right h c2
    by_cases c3 : x1 = 1
    · have h := And.left h c3
      refine j_tableIn (tgt := 53) (off := 48) C dX7_aboutNow_5 (by rw [c3]; decide) (by rw [c3]; decide) (by rw [c3]; decide) (by decide) ?_
      refine j_aload_n C dX7_aboutNow_53 0 rfl rfl ?_
      refine j_iconst C dX7_aboutNow_54 (v := 1) (by decide) ?_
      refine j_callVi (st := []) C 25 [.int 1] (m_X7_ofKind C.wok h) cv_RX7_148 rk_X7_aboutNow_X7_ofKind rfl (rc_25 w) rfl (Nat.le_of_ble_eq_true rfl) dX7_aboutNow_55 (fun r5 S4 h => ?_)
      refine j_callSi (st := []) C [.int r5] (m_X7_size C.wok h) cv_RX7_71 rk_X7_aboutNow_X7_size rfl rfl (Nat.le_of_ble_eq_true rfl) dX7_aboutNow_58 (fun r7 S6 h => ?_)
      exact j_iret C dX7_aboutNow_61 h
    · have h := And.right h c3
      by_cases c8 : x1 = 2
      · have h := And.left h c8
        refine j_tableIn (tgt := 62) (off := 57) C dX7_aboutNow_5 (by rw [c8]; decide) (by rw [c8]; decide) (by rw [c8]; decide) (by decide) ?_
        refine j_aload_n C dX7_aboutNow_62 0 rfl rfl ?_
        refine j_iconst C dX7_aboutNow_63 (v := 2) (by decide) ?_
        refine j_callVi (st := []) C 25 [.int 2] (m_X7_ofKind C.wok h) cv_RX7_148 rk_X7_aboutNow_X7_ofKind rfl (rc_25 w) rfl (Nat.le_of_ble_eq_true rfl) dX7_aboutNow_64 (fun r10 S9 h => ?_)
        refine j_callSi (st := []) C [.int r10] (m_X7_size C.wok h) cv_RX7_71 rk_X7_aboutNow_X7_size rfl rfl (Nat.le_of_ble_eq_true rfl) dX7_aboutNow_67 (fun r12 S11 h => ?_)
        exact j_iret C dX7_aboutNow_70 h
      · have h := And.right h c8
        by_cases c13 : x1 = 3
        · have h := And.left h c13
          refine j_tableIn (tgt := 71) (off := 66) C dX7_aboutNow_5 (by rw [c13]; decide) (by rw [c13]; decide) (by rw [c13]; decide) (by decide) ?_
          refine j_aload_n C dX7_aboutNow_71 0 rfl rfl ?_
          refine j_callVi (st := []) C 25 [] (m_X7_vouchesAll C.wok h) cv_RX7_175 rk_X7_aboutNow_X7_vouchesAll rfl (rc_25 w) rfl (Nat.le_of_ble_eq_true rfl) dX7_aboutNow_72 (fun r15 S14 h => ?_)
          exact j_iret C dX7_aboutNow_75 h
        · have h := And.right h c13
          by_cases c16 : x1 = 4
          · have h := And.left h c16
            refine j_tableIn (tgt := 76) (off := 71) C dX7_aboutNow_5 (by rw [c16]; decide) (by rw [c16]; decide) (by rw [c16]; decide) (by decide) ?_
            refine j_aload_n C dX7_aboutNow_76 0 rfl rfl ?_
            refine gf_RX7_114_25 C dX7_aboutNow_77 ?_
            exact j_iret C dX7_aboutNow_80 h
          · have h := And.right h c16
            by_cases c17 : x1 = 5
            · have h := And.left h c17
              refine j_tableIn (tgt := 81) (off := 76) C dX7_aboutNow_5 (by rw [c17]; decide) (by rw [c17]; decide) (by rw [c17]; decide) (by decide) ?_
              refine j_aload_n C dX7_aboutNow_81 0 rfl rfl ?_
              refine j_callVi (st := []) C 25 [] (m_X7_levelsMany C.wok h) cv_RX7_178 rk_X7_aboutNow_X7_levelsMany rfl (rc_25 w) rfl (Nat.le_of_ble_eq_true rfl) dX7_aboutNow_82 (fun r19 S18 h => ?_)
              exact j_iret C dX7_aboutNow_85 h
            · have h := And.right h c17
              by_cases c20 : x1 = 6
              · have h := And.left h c20
                refine j_tableIn (tgt := 86) (off := 81) C dX7_aboutNow_5 (by rw [c20]; decide) (by rw [c20]; decide) (by rw [c20]; decide) (by decide) ?_
                refine j_aload_n C dX7_aboutNow_86 0 rfl rfl ?_
                refine j_callVi (st := []) C 25 [] (m_X7_greatestLevel C.wok h) cv_RX7_181 rk_X7_aboutNow_X7_greatestLevel rfl (rc_25 w) rfl (Nat.le_of_ble_eq_true rfl) dX7_aboutNow_87 (fun r22 S21 h => ?_)
                exact j_iret C dX7_aboutNow_90 h
              · have h := And.right h c20
                have nc2 := lv_neT (a := 0) c2 (by decide)
                have nc3 := lv_neT (a := 1) c3 (by decide)
                have nc8 := lv_neT (a := 2) c8 (by decide)
                have nc13 := lv_neT (a := 3) c13 (by decide)
                have nc16 := lv_neT (a := 4) c16 (by decide)
                have nc17 := lv_neT (a := 5) c17 (by decide)
                have nc20 := lv_neT (a := 6) c20 (by decide)
                refine j_tableOut (tgt := 91) C dX7_aboutNow_5 (by omega) (by decide) ?_
                refine j_aload_n C dX7_aboutNow_91 0 rfl rfl ?_
                refine j_iconst C dX7_aboutNow_92 (v := 1) (by decide) ?_
                refine j_aload_n C dX7_aboutNow_93 0 rfl rfl ?_
                refine gf_RX7_111_25 C dX7_aboutNow_94 ?_
                refine j_ishl C dX7_aboutNow_97 ?_
                refine j_iconst C dX7_aboutNow_98 (v := 1) (by decide) ?_
                refine j_isub C dX7_aboutNow_99 ?_
                refine j_callVi (st := []) C 25 [.int ((1 <<< ((S1.1 25 0) &&& 31)) - 1)] (m_X7_mostOf C.wok h) cv_RX7_169 rk_X7_aboutNow_X7_mostOf rfl (rc_25 w) rfl (Nat.le_of_ble_eq_true rfl) dX7_aboutNow_100 (fun r24 S23 h => ?_)
                exact j_iret C dX7_aboutNow_103 h
def rm_X7_about : Room := { frames := 4, cells := 0, slots := 0, locals := 89 }
theorem rk_X7_about_X7_aboutNow : roomOk rm_X7_aboutNow rm_X7_about 2 := ⟨⟨rfl, rfl⟩, Nat.le_of_ble_eq_true rfl, Nat.le_of_ble_eq_true rfl⟩
theorem rk_X7_about_X7_isCircle : roomOk rm_X7_isCircle rm_X7_about 1 := ⟨⟨rfl, rfl⟩, Nat.le_of_ble_eq_true rfl, Nat.le_of_ble_eq_true rfl⟩
theorem rk_X7_about_X7_within : roomOk rm_X7_within rm_X7_about 3 := ⟨⟨rfl, rfl⟩, Nat.le_of_ble_eq_true rfl, Nat.le_of_ble_eq_true rfl⟩
set_option maxRecDepth 20000 in
theorem m_X7_about {l : Launch} {w : Wt} (hw : WOK w) {x1 : Int32} {S : St} {Q0 : Int32 → St → Prop} (h : p_X7_about x1 S Q0) : MI l w yX7_about cX7_about 2 .int rm_X7_about [rr w 25, .int x1] S Q0 := by
  refine m_MI (own := RX7) (lv := [(0, rr w 25), (1, .int x1)]) hw (by decide) rfl (Nat.le_of_ble_eq_true rfl) rfl (fun X C => ?_)
  refine j_iload_n C dX7_about_0 1 rfl rfl ?_
  refine j_iconst C dX7_about_1 (v := 0) (by decide) ?_
  refine j_bipush C dX7_about_2 (v := 7) (by decide) ?_
  refine j_callSi (st := []) C [.int x1, .int 0, .int 7] (m_X7_within C.wok h) cv_RX7_50 rk_X7_about_X7_within rfl rfl (Nat.le_of_ble_eq_true rfl) dX7_about_4 (fun r2 S1 h => ?_)
  refine j_if_ne (tgt := 13) C dX7_about_7 (by decide) (fun c3 => ?_) (fun c3 => ?_)
  · have h := And.left h c3
    refine j_aload_n C dX7_about_13 0 rfl rfl ?_
    refine j_callVi (st := []) C 25 [] (m_X7_isCircle C.wok h) cv_RX7_139 rk_X7_about_X7_isCircle rfl (rc_25 w) rfl (Nat.le_of_ble_eq_true rfl) dX7_about_14 (fun r5 S4 h => ?_)
    refine j_if_eq (tgt := 28) C dX7_about_17 (by decide) (fun c6 => ?_) (fun c6 => ?_)
    · have h := And.left h c6
      refine j_bipush C dX7_about_28 (v := (-103)) (by decide) ?_
      exact j_iret C dX7_about_30 h
    · have h := And.right h c6
      refine j_aload_n C dX7_about_20 0 rfl rfl ?_
      refine j_iload_n C dX7_about_21 1 rfl rfl ?_
      refine j_callVi (st := []) C 25 [.int x1] (m_X7_aboutNow C.wok h) cv_RX7_184 rk_X7_about_X7_aboutNow rfl (rc_25 w) rfl (Nat.le_of_ble_eq_true rfl) dX7_about_22 (fun r8 S7 h => ?_)
      refine j_goto (tgt := 30) C dX7_about_25 (by decide) ?_
      exact j_iret C dX7_about_30 h
  · have h := And.right h c3
    refine j_bipush C dX7_about_10 (v := (-102)) (by decide) ?_
    exact j_iret C dX7_about_12 h
def rm_X6_takenIn : Room := { frames := 1, cells := 0, slots := 0, locals := 23 }
theorem rk_X6_takenIn_X0_ofKind : roomOk rm_X0_ofKind rm_X6_takenIn 4 := ⟨⟨rfl, rfl⟩, Nat.le_of_ble_eq_true rfl, Nat.le_of_ble_eq_true rfl⟩
set_option maxRecDepth 20000 in
theorem t_X6_takenIn_69 {X : Mx} {w : Wt} {l0 : Launch} {Q0 : Int32 → St → Prop} {K13 : Int32 × Int32 × Int32 × St → Prop} (C : Cx X w l0 cX6_takenIn 4 RX6 rm_X6_takenIn (some .int)) (hK13 : ∀ (x1 : Int32) (x2 : Int32) (x3 : Int32) (S : St), K13 (x1, x2, x3, S) → J X w (QI X w Q0) 13 [(0, rr w 0), (1, .int x1), (2, .int x2), (3, .int x3)] [] S) {x1 : Int32} {x2 : Int32} {x3 : Int32} {S : St} (h : p_X6_takenIn_69 Q0 K13 x1 x2 x3 S) : J X w (QI X w Q0) 69 [(0, rr w 0), (1, .int x1), (2, .int x2), (3, .int x3)] [] S := by
  refine j_iinc (lv' := [(3, .int (x3 + 1)), (0, rr w 0), (1, .int x1), (2, .int x2)]) C dX6_takenIn_69 3 rfl rfl (by decide) rfl ?_
  refine j_goto (tgt := 13) C dX6_takenIn_72 (by decide) ?_
  refine j_sub [1, 2, 3, 0] rfl ?_
  exact hK13 _ _ _ _ h
set_option maxRecDepth 20000 in
theorem t_X6_takenIn_13 {X : Mx} {w : Wt} {l0 : Launch} {Q0 : Int32 → St → Prop} (C : Cx X w l0 cX6_takenIn 4 RX6 rm_X6_takenIn (some .int)) {x1 : Int32} {x2 : Int32} {x3 : Int32} {S : St} (h : Lq (p_X6_takenIn_13 Q0) (x1, x2, x3, S)) : J X w (QI X w Q0) 13 [(0, rr w 0), (1, .int x1), (2, .int x2), (3, .int x3)] [] S := by
  have key : ∀ a : Int32 × Int32 × Int32 × St, Lq (p_X6_takenIn_13 Q0) a → J X w (QI X w Q0) 13 [(0, rr w 0), (1, .int a.1), (2, .int a.2.1), (3, .int a.2.2.1)] [] a.2.2.2 := by
    intro a ha
    refine Lq_use (G := fun a => J X w (QI X w Q0) 13 [(0, rr w 0), (1, .int a.1), (2, .int a.2.1), (3, .int a.2.2.1)] [] a.2.2.2) ?_ ha
    intro K13 hK a h
    obtain ⟨x1, x2, x3, S⟩ := a
    have hK13 : ∀ (x1 : Int32) (x2 : Int32) (x3 : Int32) (S : St), K13 (x1, x2, x3, S) → J X w (QI X w Q0) 13 [(0, rr w 0), (1, .int x1), (2, .int x2), (3, .int x3)] [] S := fun x1 x2 x3 S h => hK (x1, x2, x3, S) h
    show J X w (QI X w Q0) 13 [(0, rr w 0), (1, .int x1), (2, .int x2), (3, .int x3)] [] S
    refine j_iload_n C dX6_takenIn_13 3 rfl rfl ?_
    refine j_aload_n C dX6_takenIn_14 0 rfl rfl ?_
    refine gf_RX6_16_0 C dX6_takenIn_15 ?_
    refine gf_RX6_82_2 C dX6_takenIn_18 ?_
    refine j_icmp_ge (tgt := 75) C dX6_takenIn_21 (by decide) (fun c3 => ?_) (fun c3 => ?_)
    · have h := And.left h c3
      refine j_iload_n C dX6_takenIn_75 2 rfl rfl ?_
      exact j_iret C dX6_takenIn_76 h
    · have h := And.right h c3
      refine j_aload_n C dX6_takenIn_24 0 rfl rfl ?_
      refine gf_RX6_16_0 C dX6_takenIn_25 ?_
      refine gf_RX6_103_2 C dX6_takenIn_28 ?_
      refine j_iload_n C dX6_takenIn_31 3 rfl rfl ?_
      refine al_4 C dX6_takenIn_32 (And.left h) ?_
      have h := And.right h
      refine j_iconst C dX6_takenIn_33 (v := 2) (by decide) ?_
      refine j_icmp_eq (tgt := 69) C dX6_takenIn_34 (by decide) (fun c4 => ?_) (fun c4 => ?_)
      · have h := And.left h c4
        exact t_X6_takenIn_69 C hK13 h
      · have h := And.right h c4
        refine j_aload_n C dX6_takenIn_37 0 rfl rfl ?_
        refine gf_RX6_45_0 C dX6_takenIn_38 ?_
        refine gf_RX6_166_14 C dX6_takenIn_41 ?_
        refine j_iload_n C dX6_takenIn_44 3 rfl rfl ?_
        refine al_17 C dX6_takenIn_45 (And.left h) ?_
        have h := And.right h
        refine j_if_le (tgt := 69) C dX6_takenIn_46 (by decide) (fun c5 => ?_) (fun c5 => ?_)
        · have h := And.left h c5
          exact t_X6_takenIn_69 C hK13 h
        · have h := And.right h c5
          refine j_aload_n C dX6_takenIn_49 0 rfl rfl ?_
          refine gf_RX6_16_0 C dX6_takenIn_50 ?_
          refine gf_RX6_122_2 C dX6_takenIn_53 ?_
          refine j_iload_n C dX6_takenIn_56 3 rfl rfl ?_
          refine al_5 C dX6_takenIn_57 (And.left h) ?_
          have h := And.right h
          refine j_iload_n C dX6_takenIn_58 1 rfl rfl ?_
          refine j_iand C dX6_takenIn_59 ?_
          refine j_if_eq (tgt := 69) C dX6_takenIn_60 (by decide) (fun c6 => ?_) (fun c6 => ?_)
          · have h := And.left h c6
            exact t_X6_takenIn_69 C hK13 h
          · have h := And.right h c6
            refine j_iload_n C dX6_takenIn_63 2 rfl rfl ?_
            refine j_iconst C dX6_takenIn_64 (v := 1) (by decide) ?_
            refine j_iload_n C dX6_takenIn_65 3 rfl rfl ?_
            refine j_ishl C dX6_takenIn_66 ?_
            refine j_ior C dX6_takenIn_67 ?_
            refine j_istore_n (lv' := [(2, .int (x2 ||| (1 <<< (x3 &&& 31)))), (0, rr w 0), (1, .int x1), (3, .int x3)]) C dX6_takenIn_68 rfl (by decide) rfl ?_
            refine j_sub [1, 2, 0, 3] rfl ?_
            exact t_X6_takenIn_69 C hK13 h
  exact key (x1, x2, x3, S) h
set_option maxRecDepth 20000 in
theorem m_X6_takenIn {l : Launch} {w : Wt} (hw : WOK w) {S : St} {Q0 : Int32 → St → Prop} (h : p_X6_takenIn S Q0) : MI l w yX6_takenIn cX6_takenIn 4 .int rm_X6_takenIn [rr w 0] S Q0 := by
  refine m_MI (own := RX6) (lv := [(0, rr w 0)]) hw (by decide) rfl (Nat.le_of_ble_eq_true rfl) rfl (fun X C => ?_)
  refine j_aload_n C dX6_takenIn_0 0 rfl rfl ?_
  refine gf_RX6_16_0 C dX6_takenIn_1 ?_
  refine j_iconst C dX6_takenIn_4 (v := 2) (by decide) ?_
  refine j_callVi (st := []) C 2 [.int 2] (m_X0_ofKind C.wok h) cv_RX6_106 rk_X6_takenIn_X0_ofKind rfl (rc_2 w) rfl (Nat.le_of_ble_eq_true rfl) dX6_takenIn_5 (fun r2 S1 h => ?_)
  refine j_istore_n (lv' := [(1, .int r2), (0, rr w 0)]) C dX6_takenIn_8 rfl (by decide) rfl ?_
  refine j_iconst C dX6_takenIn_9 (v := 0) (by decide) ?_
  refine j_istore_n (lv' := [(2, .int 0), (1, .int r2), (0, rr w 0)]) C dX6_takenIn_10 rfl (by decide) rfl ?_
  refine j_iconst C dX6_takenIn_11 (v := 0) (by decide) ?_
  refine j_istore_n (lv' := [(3, .int 0), (2, .int 0), (1, .int r2), (0, rr w 0)]) C dX6_takenIn_12 rfl (by decide) rfl ?_
  refine j_sub [3, 2, 1, 0] rfl ?_
  exact t_X6_takenIn_13 C h
def rm_J7_fill_53178_c18 : Room := { frames := 0, cells := 0, slots := 0, locals := 0 }
set_option maxRecDepth 20000 in
theorem t_J7_fill_53178_c18_5 {X : Mx} {w : Wt} {l0 : Launch} {Q0 : St → Prop} (C : Cx X w l0 cJ7_fill_53178 4 RJ7 rm_J7_fill_53178_c18 none) {x1 : Int32} {x2 : Int32} {x3 : Int32} {S : St} (h : Lq (p_J7_fill_53178_c18_5 Q0) (x1, x2, x3, S)) : J X w (QV X w Q0) 5 [(0, rr w 18), (1, .int x1), (2, .int x2), (3, .int x3)] [] S := by
  have key : ∀ a : Int32 × Int32 × Int32 × St, Lq (p_J7_fill_53178_c18_5 Q0) a → J X w (QV X w Q0) 5 [(0, rr w 18), (1, .int a.1), (2, .int a.2.1), (3, .int a.2.2.1)] [] a.2.2.2 := by
    intro a ha
    refine Lq_use (G := fun a => J X w (QV X w Q0) 5 [(0, rr w 18), (1, .int a.1), (2, .int a.2.1), (3, .int a.2.2.1)] [] a.2.2.2) ?_ ha
    intro K5 hK a h
    obtain ⟨x1, x2, x3, S⟩ := a
    have hK5 : ∀ (x1 : Int32) (x2 : Int32) (x3 : Int32) (S : St), K5 (x1, x2, x3, S) → J X w (QV X w Q0) 5 [(0, rr w 18), (1, .int x1), (2, .int x2), (3, .int x3)] [] S := fun x1 x2 x3 S h => hK (x1, x2, x3, S) h
    show J X w (QV X w Q0) 5 [(0, rr w 18), (1, .int x1), (2, .int x2), (3, .int x3)] [] S
    refine j_iload_n C dJ7_fill_53178_5 2 rfl rfl ?_
    refine j_iload_n C dJ7_fill_53178_6 3 rfl rfl ?_
    refine j_icmp_ge (tgt := 20) C dJ7_fill_53178_7 (by decide) (fun c1 => ?_) (fun c1 => ?_)
    · have h := And.left h c1
      exact j_vret C dJ7_fill_53178_20 h
    · have h := And.right h c1
      refine j_aload_n C dJ7_fill_53178_10 0 rfl rfl ?_
      refine j_iload_n C dJ7_fill_53178_11 2 rfl rfl ?_
      refine j_iload_n C dJ7_fill_53178_12 1 rfl rfl ?_
      refine as_18 C dJ7_fill_53178_13 (And.left h) (fun S2 eS2 => ?_)
      have h := And.right h S2 eS2
      refine j_iinc (lv' := [(2, .int (x2 + 1)), (0, rr w 18), (1, .int x1), (3, .int x3)]) C dJ7_fill_53178_14 2 rfl rfl (by decide) rfl ?_
      refine j_goto (tgt := 5) C dJ7_fill_53178_17 (by decide) ?_
      refine j_sub [1, 2, 0, 3] rfl ?_
      exact hK5 _ _ _ _ h
  exact key (x1, x2, x3, S) h
set_option maxRecDepth 20000 in
theorem m_J7_fill_53178_c18 {l : Launch} {w : Wt} (hw : WOK w) {x1 : Int32} {S : St} {Q0 : St → Prop} (h : p_J7_fill_53178_c18 x1 S Q0) : MV l w yJ7_fill_53178 cJ7_fill_53178 4 rm_J7_fill_53178_c18 [rr w 18, .int x1] S Q0 := by
  refine m_MV (own := RJ7) (lv := [(0, rr w 18), (1, .int x1)]) hw (by decide) rfl (Nat.le_of_ble_eq_true rfl) rfl (fun X C => ?_)
  refine j_iconst C dJ7_fill_53178_0 (v := 0) (by decide) ?_
  refine j_istore_n (lv' := [(2, .int 0), (0, rr w 18), (1, .int x1)]) C dJ7_fill_53178_1 rfl (by decide) rfl ?_
  refine j_aload_n C dJ7_fill_53178_2 1 rfl rfl ?_
  refine j_alenI C 18 rfl (v := 9) (by decide) dJ7_fill_53178_3 ?_
  refine j_istore_n (lv' := [(3, .int 9), (2, .int 0), (0, rr w 18), (1, .int x1)]) C dJ7_fill_53178_4 rfl (by decide) rfl ?_
  refine j_sub [2, 3, 1, 0] rfl ?_
  exact t_J7_fill_53178_c18_5 C h
def rm_J7_fill_53178_c19 : Room := { frames := 0, cells := 0, slots := 0, locals := 0 }
set_option maxRecDepth 20000 in
theorem t_J7_fill_53178_c19_5 {X : Mx} {w : Wt} {l0 : Launch} {Q0 : St → Prop} (C : Cx X w l0 cJ7_fill_53178 4 RJ7 rm_J7_fill_53178_c19 none) {x1 : Int32} {x2 : Int32} {x3 : Int32} {S : St} (h : Lq (p_J7_fill_53178_c19_5 Q0) (x1, x2, x3, S)) : J X w (QV X w Q0) 5 [(0, rr w 19), (1, .int x1), (2, .int x2), (3, .int x3)] [] S := by
  have key : ∀ a : Int32 × Int32 × Int32 × St, Lq (p_J7_fill_53178_c19_5 Q0) a → J X w (QV X w Q0) 5 [(0, rr w 19), (1, .int a.1), (2, .int a.2.1), (3, .int a.2.2.1)] [] a.2.2.2 := by
    intro a ha
    refine Lq_use (G := fun a => J X w (QV X w Q0) 5 [(0, rr w 19), (1, .int a.1), (2, .int a.2.1), (3, .int a.2.2.1)] [] a.2.2.2) ?_ ha
    intro K5 hK a h
    obtain ⟨x1, x2, x3, S⟩ := a
    have hK5 : ∀ (x1 : Int32) (x2 : Int32) (x3 : Int32) (S : St), K5 (x1, x2, x3, S) → J X w (QV X w Q0) 5 [(0, rr w 19), (1, .int x1), (2, .int x2), (3, .int x3)] [] S := fun x1 x2 x3 S h => hK (x1, x2, x3, S) h
    show J X w (QV X w Q0) 5 [(0, rr w 19), (1, .int x1), (2, .int x2), (3, .int x3)] [] S
    refine j_iload_n C dJ7_fill_53178_5 2 rfl rfl ?_
    refine j_iload_n C dJ7_fill_53178_6 3 rfl rfl ?_
    refine j_icmp_ge (tgt := 20) C dJ7_fill_53178_7 (by decide) (fun c1 => ?_) (fun c1 => ?_)
    · have h := And.left h c1
      exact j_vret C dJ7_fill_53178_20 h
    · have h := And.right h c1
      refine j_aload_n C dJ7_fill_53178_10 0 rfl rfl ?_
      refine j_iload_n C dJ7_fill_53178_11 2 rfl rfl ?_
      refine j_iload_n C dJ7_fill_53178_12 1 rfl rfl ?_
      refine as_19 C dJ7_fill_53178_13 (And.left h) (fun S2 eS2 => ?_)
      have h := And.right h S2 eS2
      refine j_iinc (lv' := [(2, .int (x2 + 1)), (0, rr w 19), (1, .int x1), (3, .int x3)]) C dJ7_fill_53178_14 2 rfl rfl (by decide) rfl ?_
      refine j_goto (tgt := 5) C dJ7_fill_53178_17 (by decide) ?_
      refine j_sub [1, 2, 0, 3] rfl ?_
      exact hK5 _ _ _ _ h
  exact key (x1, x2, x3, S) h
set_option maxRecDepth 20000 in
theorem m_J7_fill_53178_c19 {l : Launch} {w : Wt} (hw : WOK w) {x1 : Int32} {S : St} {Q0 : St → Prop} (h : p_J7_fill_53178_c19 x1 S Q0) : MV l w yJ7_fill_53178 cJ7_fill_53178 4 rm_J7_fill_53178_c19 [rr w 19, .int x1] S Q0 := by
  refine m_MV (own := RJ7) (lv := [(0, rr w 19), (1, .int x1)]) hw (by decide) rfl (Nat.le_of_ble_eq_true rfl) rfl (fun X C => ?_)
  refine j_iconst C dJ7_fill_53178_0 (v := 0) (by decide) ?_
  refine j_istore_n (lv' := [(2, .int 0), (0, rr w 19), (1, .int x1)]) C dJ7_fill_53178_1 rfl (by decide) rfl ?_
  refine j_aload_n C dJ7_fill_53178_2 1 rfl rfl ?_
  refine j_alenI C 19 rfl (v := 81) (by decide) dJ7_fill_53178_3 ?_
  refine j_istore_n (lv' := [(3, .int 81), (2, .int 0), (0, rr w 19), (1, .int x1)]) C dJ7_fill_53178_4 rfl (by decide) rfl ?_
  refine j_sub [2, 3, 1, 0] rfl ?_
  exact t_J7_fill_53178_c19_5 C h
def rm_X1_begin : Room := { frames := 1, cells := 0, slots := 0, locals := 23 }
theorem rk_X1_begin_J7_fill_53178_c18 : roomOk rm_J7_fill_53178_c18 rm_X1_begin 4 := ⟨⟨rfl, rfl⟩, Nat.le_of_ble_eq_true rfl, Nat.le_of_ble_eq_true rfl⟩
theorem rk_X1_begin_J7_fill_53178_c19 : roomOk rm_J7_fill_53178_c19 rm_X1_begin 4 := ⟨⟨rfl, rfl⟩, Nat.le_of_ble_eq_true rfl, Nat.le_of_ble_eq_true rfl⟩
set_option maxRecDepth 20000 in
theorem m_X1_begin {l : Launch} {w : Wt} (hw : WOK w) {S : St} {Q0 : St → Prop} (h : p_X1_begin S Q0) : MV l w yX1_begin cX1_begin 1 rm_X1_begin [rr w 13] S Q0 := by
  refine m_MV (own := RX1) (lv := [(0, rr w 13)]) hw (by decide) rfl (Nat.le_of_ble_eq_true rfl) rfl (fun X C => ?_)
  refine j_aload_n C dX1_begin_0 0 rfl rfl ?_
  refine gf_RX1_18_13 C dX1_begin_1 ?_
  refine j_iconst C dX1_begin_4 (v := 0) (by decide) ?_
  refine j_callSv (st := []) C [rr w 18, .int 0] (m_J7_fill_53178_c18 C.wok h) cv_RX1_31 rk_X1_begin_J7_fill_53178_c18 rfl rfl (Nat.le_of_ble_eq_true rfl) dX1_begin_5 (fun S1 h => ?_)
  refine j_aload_n C dX1_begin_8 0 rfl rfl ?_
  refine gf_RX1_22_13 C dX1_begin_9 ?_
  refine j_iconst C dX1_begin_12 (v := 0) (by decide) ?_
  refine j_callSv (st := []) C [rr w 19, .int 0] (m_J7_fill_53178_c19 C.wok h) cv_RX1_31 rk_X1_begin_J7_fill_53178_c19 rfl rfl (Nat.le_of_ble_eq_true rfl) dX1_begin_13 (fun S2 h => ?_)
  exact j_vret C dX1_begin_16 h
def rm_X1_note : Room := { frames := 0, cells := 0, slots := 0, locals := 0 }
set_option maxRecDepth 20000 in
theorem t_X1_note_80 {X : Mx} {w : Wt} {l0 : Launch} {Q0 : St → Prop} (C : Cx X w l0 cX1_note 5 RX1 rm_X1_note none) {x3 : Int32} {S : St} (h : p_X1_note_80 Q0 x3 S) : J X w (QV X w Q0) 80 [(0, rr w 13), (3, .int x3)] [] S := by
  refine j_aload_n C dX1_note_80 0 rfl rfl ?_
  refine j_dup C dX1_note_81 rfl ?_
  refine gf_RX1_41_13 C dX1_note_82 ?_
  refine j_iload_n C dX1_note_85 1 rfl rfl ?_
  refine j_ior C dX1_note_86 ?_
  refine pf_RX1_41_13 C dX1_note_87 (fun S2 eS2 => ?_)
  have h := h S2 eS2
  exact j_vret C dX1_note_90 h
set_option maxRecDepth 20000 in
theorem t_X1_note_74 {X : Mx} {w : Wt} {l0 : Launch} {Q0 : St → Prop} {K12 : Int32 × Int32 × Int32 × St → Prop} (C : Cx X w l0 cX1_note 5 RX1 rm_X1_note none) (hK12 : ∀ (x2 : Int32) (x3 : Int32) (x4 : Int32) (S : St), K12 (x2, x3, x4, S) → J X w (QV X w Q0) 12 [(0, rr w 13), (2, .int x2), (3, .int x3), (4, .int x4)] [] S) {x2 : Int32} {x3 : Int32} {x4 : Int32} {S : St} (h : p_X1_note_74 Q0 K12 x2 x3 x4 S) : J X w (QV X w Q0) 74 [(0, rr w 13), (2, .int x2), (3, .int x3), (4, .int x4)] [] S := by
  refine j_iinc (lv' := [(4, .int (x4 + 1)), (0, rr w 13), (2, .int x2), (3, .int x3)]) C dX1_note_74 3 rfl rfl (by decide) rfl ?_
  refine j_goto (tgt := 12) C dX1_note_77 (by decide) ?_
  refine j_sub [1, 2, 3, 0] rfl ?_
  exact hK12 _ _ _ _ h
set_option maxRecDepth 20000 in
theorem t_X1_note_12 {X : Mx} {w : Wt} {l0 : Launch} {Q0 : St → Prop} (C : Cx X w l0 cX1_note 5 RX1 rm_X1_note none) {x2 : Int32} {x3 : Int32} {x4 : Int32} {S : St} (h : Lq (p_X1_note_12 Q0) (x2, x3, x4, S)) : J X w (QV X w Q0) 12 [(0, rr w 13), (2, .int x2), (3, .int x3), (4, .int x4)] [] S := by
  have key : ∀ a : Int32 × Int32 × Int32 × St, Lq (p_X1_note_12 Q0) a → J X w (QV X w Q0) 12 [(0, rr w 13), (2, .int a.1), (3, .int a.2.1), (4, .int a.2.2.1)] [] a.2.2.2 := by
    intro a ha
    refine Lq_use (G := fun a => J X w (QV X w Q0) 12 [(0, rr w 13), (2, .int a.1), (3, .int a.2.1), (4, .int a.2.2.1)] [] a.2.2.2) ?_ ha
    intro K12 hK a h
    obtain ⟨x2, x3, x4, S⟩ := a
    have hK12 : ∀ (x2 : Int32) (x3 : Int32) (x4 : Int32) (S : St), K12 (x2, x3, x4, S) → J X w (QV X w Q0) 12 [(0, rr w 13), (2, .int x2), (3, .int x3), (4, .int x4)] [] S := fun x2 x3 x4 S h => hK (x2, x3, x4, S) h
    show J X w (QV X w Q0) 12 [(0, rr w 13), (2, .int x2), (3, .int x3), (4, .int x4)] [] S
    refine j_iload C dX1_note_12 3 rfl ?_
    refine j_bipush C dX1_note_14 (v := 18) (by decide) ?_
    refine j_icmp_ge (tgt := 80) C dX1_note_16 (by decide) (fun c1 => ?_) (fun c1 => ?_)
    · have h := And.left h c1
      refine j_sub [0, 2] rfl ?_
      exact t_X1_note_80 C h
    · have h := And.right h c1
      refine j_iload_n C dX1_note_19 2 rfl rfl ?_
      refine j_iload C dX1_note_20 3 rfl ?_
      refine j_ishr C dX1_note_22 ?_
      refine j_if_eq (tgt := 80) C dX1_note_23 (by decide) (fun c3 => ?_) (fun c3 => ?_)
      · have h := And.left h c3
        refine j_sub [0, 2] rfl ?_
        exact t_X1_note_80 C h
      · have h := And.right h c3
        refine j_iload_n C dX1_note_26 2 rfl rfl ?_
        refine j_iload C dX1_note_27 3 rfl ?_
        refine j_ishr C dX1_note_29 ?_
        refine j_iconst C dX1_note_30 (v := 1) (by decide) ?_
        refine j_iand C dX1_note_31 ?_
        refine j_iconst C dX1_note_32 (v := 1) (by decide) ?_
        refine j_icmp_ne (tgt := 74) C dX1_note_33 (by decide) (fun c4 => ?_) (fun c4 => ?_)
        · have h := And.left h c4
          exact t_X1_note_74 C hK12 h
        · have h := And.right h c4
          refine j_aload_n C dX1_note_36 0 rfl rfl ?_
          refine gf_RX1_53_13 C dX1_note_37 ?_
          refine j_bipush C dX1_note_40 (v := 18) (by decide) ?_
          refine j_icmp_ge (tgt := 74) C dX1_note_42 (by decide) (fun c5 => ?_) (fun c5 => ?_)
          · have h := And.left h c5
            exact t_X1_note_74 C hK12 h
          · have h := And.right h c5
            refine j_aload_n C dX1_note_45 0 rfl rfl ?_
            refine gf_RX1_25_13 C dX1_note_46 ?_
            refine j_iload C dX1_note_49 3 rfl ?_
            refine j_iload_n C dX1_note_51 1 rfl rfl ?_
            refine as_20 C dX1_note_52 (And.left h) (fun S6 eS6 => ?_)
            have h := And.right h S6 eS6
            refine j_aload_n C dX1_note_53 0 rfl rfl ?_
            refine gf_RX1_28_13 C dX1_note_54 ?_
            refine j_aload_n C dX1_note_57 0 rfl rfl ?_
            refine gf_RX1_53_13 C dX1_note_58 ?_
            refine j_iload C dX1_note_61 3 rfl ?_
            refine as_21 C dX1_note_63 (And.left h) (fun S7 eS7 => ?_)
            have h := And.right h S7 eS7
            refine j_aload_n C dX1_note_64 0 rfl rfl ?_
            refine j_dup C dX1_note_65 rfl ?_
            refine gf_RX1_53_13 C dX1_note_66 ?_
            refine j_iconst C dX1_note_69 (v := 1) (by decide) ?_
            refine j_iadd C dX1_note_70 ?_
            refine pf_RX1_53_13 C dX1_note_71 (fun S8 eS8 => ?_)
            have h := h S8 eS8
            exact t_X1_note_74 C hK12 h
  exact key (x2, x3, x4, S) h
set_option maxRecDepth 20000 in
theorem m_X1_note {l : Launch} {w : Wt} (hw : WOK w) {x1 : Int32} {x2 : Int32} {S : St} {Q0 : St → Prop} (h : p_X1_note x1 x2 S Q0) : MV l w yX1_note cX1_note 5 rm_X1_note [rr w 13, .int x1, .int x2] S Q0 := by
  refine m_MV (own := RX1) (lv := [(0, rr w 13), (1, .int x1), (2, .int x2)]) hw (by decide) rfl (Nat.le_of_ble_eq_true rfl) rfl (fun X C => ?_)
  refine j_iload_n C dX1_note_0 1 rfl rfl ?_
  refine j_aload_n C dX1_note_1 0 rfl rfl ?_
  refine gf_RX1_41_13 C dX1_note_2 ?_
  refine j_iconst C dX1_note_5 (v := (-1)) (by decide) ?_
  refine j_ixor C dX1_note_6 ?_
  refine j_iand C dX1_note_7 ?_
  refine j_istore_n (lv' := [(3, .int (x1 &&& ((S.1 13 6) ^^^ (-1)))), (0, rr w 13), (1, .int x1), (2, .int x2)]) C dX1_note_8 rfl (by decide) rfl ?_
  refine j_iconst C dX1_note_9 (v := 0) (by decide) ?_
  refine j_istore (lv' := [(4, .int 0), (3, .int (x1 &&& ((S.1 13 6) ^^^ (-1)))), (0, rr w 13), (1, .int x1), (2, .int x2)]) C dX1_note_10 (by decide) rfl ?_
  refine j_sub [2, 4, 1, 0] rfl ?_
  exact t_X1_note_12 C h
def rm_X1_nextOfGoing : Room := { frames := 0, cells := 0, slots := 0, locals := 0 }
set_option maxRecDepth 20000 in
theorem m_X1_nextOfGoing {l : Launch} {w : Wt} (hw : WOK w) {x1 : Int32} {S : St} {Q0 : Int32 → St → Prop} (h : p_X1_nextOfGoing x1 S Q0) : MI l w yX1_nextOfGoing cX1_nextOfGoing 2 .int rm_X1_nextOfGoing [rr w 13, .int x1] S Q0 := by
  refine m_MI (own := RX1) (lv := [(0, rr w 13), (1, .int x1)]) hw (by decide) rfl (Nat.le_of_ble_eq_true rfl) rfl (fun X C => ?_)
  refine j_aload_n C dX1_nextOfGoing_0 0 rfl rfl ?_
  refine gf_RX1_12_13 C dX1_nextOfGoing_1 ?_
  refine gf_RX1_75_14 C dX1_nextOfGoing_4 ?_
  refine j_iload_n C dX1_nextOfGoing_7 1 rfl rfl ?_
  refine al_15 C dX1_nextOfGoing_8 (And.left h) ?_
  have h := And.right h
  refine j_aload_n C dX1_nextOfGoing_9 0 rfl rfl ?_
  refine gf_RX1_18_13 C dX1_nextOfGoing_10 ?_
  refine j_iload_n C dX1_nextOfGoing_13 1 rfl rfl ?_
  refine al_18 C dX1_nextOfGoing_14 (And.left h) ?_
  have h := And.right h
  refine j_if_le (tgt := 24) C dX1_nextOfGoing_15 (by decide) (fun c1 => ?_) (fun c1 => ?_)
  · have h := And.left h c1
    refine j_iconst C dX1_nextOfGoing_24 (v := 0) (by decide) ?_
    refine j_ior C dX1_nextOfGoing_25 ?_
    exact j_iret C dX1_nextOfGoing_26 h
  · have h := And.right h c1
    refine j_iconst C dX1_nextOfGoing_18 (v := 1) (by decide) ?_
    refine j_iload_n C dX1_nextOfGoing_19 1 rfl rfl ?_
    refine j_ishl C dX1_nextOfGoing_20 ?_
    refine j_goto (tgt := 25) C dX1_nextOfGoing_21 (by decide) ?_
    refine j_ior C dX1_nextOfGoing_25 ?_
    exact j_iret C dX1_nextOfGoing_26 h
def rm_X1_nextOfComing : Room := { frames := 0, cells := 0, slots := 0, locals := 0 }
set_option maxRecDepth 20000 in
theorem t_X1_nextOfComing_74 {X : Mx} {w : Wt} {l0 : Launch} {Q0 : Int32 → St → Prop} {K31 : Int32 × Int32 × Int32 × St → Prop} (C : Cx X w l0 cX1_nextOfComing 4 RX1 rm_X1_nextOfComing (some .int)) (hK31 : ∀ (x1 : Int32) (x2 : Int32) (x3 : Int32) (S : St), K31 (x1, x2, x3, S) → J X w (QI X w Q0) 31 [(0, rr w 13), (1, .int x1), (2, .int x2), (3, .int x3)] [] S) {x1 : Int32} {x2 : Int32} {x3 : Int32} {S : St} (h : p_X1_nextOfComing_74 Q0 K31 x1 x2 x3 S) : J X w (QI X w Q0) 74 [(0, rr w 13), (1, .int x1), (2, .int x2), (3, .int x3)] [] S := by
  refine j_iinc (lv' := [(3, .int (x3 + 1)), (0, rr w 13), (1, .int x1), (2, .int x2)]) C dX1_nextOfComing_74 3 rfl rfl (by decide) rfl ?_
  refine j_goto (tgt := 31) C dX1_nextOfComing_77 (by decide) ?_
  refine j_sub [1, 2, 3, 0] rfl ?_
  exact hK31 _ _ _ _ h
set_option maxRecDepth 20000 in
theorem t_X1_nextOfComing_31 {X : Mx} {w : Wt} {l0 : Launch} {Q0 : Int32 → St → Prop} (C : Cx X w l0 cX1_nextOfComing 4 RX1 rm_X1_nextOfComing (some .int)) {x1 : Int32} {x2 : Int32} {x3 : Int32} {S : St} (h : Lq (p_X1_nextOfComing_31 Q0) (x1, x2, x3, S)) : J X w (QI X w Q0) 31 [(0, rr w 13), (1, .int x1), (2, .int x2), (3, .int x3)] [] S := by
  have key : ∀ a : Int32 × Int32 × Int32 × St, Lq (p_X1_nextOfComing_31 Q0) a → J X w (QI X w Q0) 31 [(0, rr w 13), (1, .int a.1), (2, .int a.2.1), (3, .int a.2.2.1)] [] a.2.2.2 := by
    intro a ha
    refine Lq_use (G := fun a => J X w (QI X w Q0) 31 [(0, rr w 13), (1, .int a.1), (2, .int a.2.1), (3, .int a.2.2.1)] [] a.2.2.2) ?_ ha
    intro K31 hK a h
    obtain ⟨x1, x2, x3, S⟩ := a
    have hK31 : ∀ (x1 : Int32) (x2 : Int32) (x3 : Int32) (S : St), K31 (x1, x2, x3, S) → J X w (QI X w Q0) 31 [(0, rr w 13), (1, .int x1), (2, .int x2), (3, .int x3)] [] S := fun x1 x2 x3 S h => hK (x1, x2, x3, S) h
    show J X w (QI X w Q0) 31 [(0, rr w 13), (1, .int x1), (2, .int x2), (3, .int x3)] [] S
    refine j_iload_n C dX1_nextOfComing_31 3 rfl rfl ?_
    refine j_aload_n C dX1_nextOfComing_32 0 rfl rfl ?_
    refine gf_RX1_12_13 C dX1_nextOfComing_33 ?_
    refine gf_RX1_72_14 C dX1_nextOfComing_36 ?_
    refine j_icmp_ge (tgt := 80) C dX1_nextOfComing_39 (by decide) (fun c2 => ?_) (fun c2 => ?_)
    · have h := And.left h c2
      refine j_iload_n C dX1_nextOfComing_80 2 rfl rfl ?_
      exact j_iret C dX1_nextOfComing_81 h
    · have h := And.right h c2
      refine j_aload_n C dX1_nextOfComing_42 0 rfl rfl ?_
      refine gf_RX1_18_13 C dX1_nextOfComing_43 ?_
      refine j_iload_n C dX1_nextOfComing_46 1 rfl rfl ?_
      refine al_18 C dX1_nextOfComing_47 (And.left h) ?_
      have h := And.right h
      refine j_if_le (tgt := 80) C dX1_nextOfComing_48 (by decide) (fun c3 => ?_) (fun c3 => ?_)
      · have h := And.left h c3
        refine j_iload_n C dX1_nextOfComing_80 2 rfl rfl ?_
        exact j_iret C dX1_nextOfComing_81 h
      · have h := And.right h c3
        refine j_aload_n C dX1_nextOfComing_51 0 rfl rfl ?_
        refine gf_RX1_22_13 C dX1_nextOfComing_52 ?_
        refine j_iload_n C dX1_nextOfComing_55 3 rfl rfl ?_
        refine j_bipush C dX1_nextOfComing_56 (v := 9) (by decide) ?_
        refine j_imul C dX1_nextOfComing_58 ?_
        refine j_iload_n C dX1_nextOfComing_59 1 rfl rfl ?_
        refine j_iadd C dX1_nextOfComing_60 ?_
        refine al_19 C dX1_nextOfComing_61 (And.left h) ?_
        have h := And.right h
        refine j_if_le (tgt := 74) C dX1_nextOfComing_62 (by decide) (fun c4 => ?_) (fun c4 => ?_)
        · have h := And.left h c4
          exact t_X1_nextOfComing_74 C hK31 h
        · have h := And.right h c4
          refine j_iload_n C dX1_nextOfComing_65 2 rfl rfl ?_
          refine j_iconst C dX1_nextOfComing_66 (v := 1) (by decide) ?_
          refine j_bipush C dX1_nextOfComing_67 (v := 9) (by decide) ?_
          refine j_iload_n C dX1_nextOfComing_69 3 rfl rfl ?_
          refine j_iadd C dX1_nextOfComing_70 ?_
          refine j_ishl C dX1_nextOfComing_71 ?_
          refine j_ior C dX1_nextOfComing_72 ?_
          refine j_istore_n (lv' := [(2, .int (x2 ||| (1 <<< ((9 + x3) &&& 31)))), (0, rr w 13), (1, .int x1), (3, .int x3)]) C dX1_nextOfComing_73 rfl (by decide) rfl ?_
          refine j_sub [1, 2, 0, 3] rfl ?_
          exact t_X1_nextOfComing_74 C hK31 h
  exact key (x1, x2, x3, S) h
set_option maxRecDepth 20000 in
theorem t_X1_nextOfComing_28 {X : Mx} {w : Wt} {l0 : Launch} {Q0 : Int32 → St → Prop} (C : Cx X w l0 cX1_nextOfComing 4 RX1 rm_X1_nextOfComing (some .int)) {x1 : Int32} {t0 : Int32} {S : St} (h : p_X1_nextOfComing_28 Q0 x1 t0 S) : J X w (QI X w Q0) 28 [(0, rr w 13), (1, .int x1)] [.int t0] S := by
  refine j_istore_n (lv' := [(2, .int t0), (0, rr w 13), (1, .int x1)]) C dX1_nextOfComing_28 rfl (by decide) rfl ?_
  refine j_iconst C dX1_nextOfComing_29 (v := 0) (by decide) ?_
  refine j_istore_n (lv' := [(3, .int 0), (2, .int t0), (0, rr w 13), (1, .int x1)]) C dX1_nextOfComing_30 rfl (by decide) rfl ?_
  refine j_sub [2, 3, 1, 0] rfl ?_
  exact t_X1_nextOfComing_31 C h
set_option maxRecDepth 20000 in
theorem m_X1_nextOfComing {l : Launch} {w : Wt} (hw : WOK w) {x1 : Int32} {S : St} {Q0 : Int32 → St → Prop} (h : p_X1_nextOfComing x1 S Q0) : MI l w yX1_nextOfComing cX1_nextOfComing 4 .int rm_X1_nextOfComing [rr w 13, .int x1] S Q0 := by
  refine m_MI (own := RX1) (lv := [(0, rr w 13), (1, .int x1)]) hw (by decide) rfl (Nat.le_of_ble_eq_true rfl) rfl (fun X C => ?_)
  refine j_aload_n C dX1_nextOfComing_0 0 rfl rfl ?_
  refine gf_RX1_18_13 C dX1_nextOfComing_1 ?_
  refine j_iload_n C dX1_nextOfComing_4 1 rfl rfl ?_
  refine al_18 C dX1_nextOfComing_5 (And.left h) ?_
  have h := And.right h
  refine j_aload_n C dX1_nextOfComing_6 0 rfl rfl ?_
  refine gf_RX1_12_13 C dX1_nextOfComing_7 ?_
  refine gf_RX1_69_14 C dX1_nextOfComing_10 ?_
  refine j_iload_n C dX1_nextOfComing_13 1 rfl rfl ?_
  refine al_17 C dX1_nextOfComing_14 (And.left h) ?_
  have h := And.right h
  refine j_icmp_ge (tgt := 27) C dX1_nextOfComing_15 (by decide) (fun c1 => ?_) (fun c1 => ?_)
  · have h := And.left h c1
    refine j_iconst C dX1_nextOfComing_27 (v := 0) (by decide) ?_
    exact t_X1_nextOfComing_28 C h
  · have h := And.right h c1
    refine j_iconst C dX1_nextOfComing_18 (v := 1) (by decide) ?_
    refine j_bipush C dX1_nextOfComing_19 (v := 9) (by decide) ?_
    refine j_iload_n C dX1_nextOfComing_21 1 rfl rfl ?_
    refine j_iadd C dX1_nextOfComing_22 ?_
    refine j_ishl C dX1_nextOfComing_23 ?_
    refine j_goto (tgt := 28) C dX1_nextOfComing_24 (by decide) ?_
    exact t_X1_nextOfComing_28 C h
def rm_X1_search : Room := { frames := 1, cells := 0, slots := 0, locals := 24 }
theorem rk_X1_search_X1_nextOfComing : roomOk rm_X1_nextOfComing rm_X1_search 4 := ⟨⟨rfl, rfl⟩, Nat.le_of_ble_eq_true rfl, Nat.le_of_ble_eq_true rfl⟩
theorem rk_X1_search_X1_nextOfGoing : roomOk rm_X1_nextOfGoing rm_X1_search 2 := ⟨⟨rfl, rfl⟩, Nat.le_of_ble_eq_true rfl, Nat.le_of_ble_eq_true rfl⟩
theorem rk_X1_search_X1_note : roomOk rm_X1_note rm_X1_search 5 := ⟨⟨rfl, rfl⟩, Nat.le_of_ble_eq_true rfl, Nat.le_of_ble_eq_true rfl⟩
set_option maxRecDepth 20000 in
theorem t_X1_search_74 {X : Mx} {w : Wt} {l0 : Launch} {Q0 : St → Prop} {K24 : Int32 × Int32 × St → Prop} (C : Cx X w l0 cX1_search 4 RX1 rm_X1_search none) (hK24 : ∀ (x1 : Int32) (x2 : Int32) (S : St), K24 (x1, x2, S) → J X w (QV X w Q0) 24 [(0, rr w 13), (1, .int x1), (2, .int x2)] [] S) {x1 : Int32} {x2 : Int32} {x3 : Int32} {t0 : Int32} {S : St} (h : p_X1_search_74 Q0 K24 x1 x2 x3 t0 S) : J X w (QV X w Q0) 74 [(0, rr w 13), (1, .int x1), (2, .int x2), (3, .int x3)] [.int t0, rr w 13] S := by
  refine j_iload_n C dX1_search_74 3 rfl rfl ?_
  refine j_callVv (st := []) C 13 [.int t0, .int x3] (m_X1_note C.wok h) cv_RX1_59 rk_X1_search_X1_note rfl (rc_13 w) rfl (Nat.le_of_ble_eq_true rfl) dX1_search_75 (fun S10 h => ?_)
  refine j_iinc (lv' := [(2, .int (x2 + 1)), (0, rr w 13), (1, .int x1), (3, .int x3)]) C dX1_search_78 2 rfl rfl (by decide) rfl ?_
  refine j_goto (tgt := 24) C dX1_search_81 (by decide) ?_
  refine j_sub [1, 2, 0] rfl ?_
  exact hK24 _ _ _ h
set_option maxRecDepth 20000 in
theorem t_X1_search_24 {X : Mx} {w : Wt} {l0 : Launch} {Q0 : St → Prop} (C : Cx X w l0 cX1_search 4 RX1 rm_X1_search none) {x1 : Int32} {x2 : Int32} {S : St} (h : Lq (p_X1_search_24 Q0) (x1, x2, S)) : J X w (QV X w Q0) 24 [(0, rr w 13), (1, .int x1), (2, .int x2)] [] S := by
  have key : ∀ a : Int32 × Int32 × St, Lq (p_X1_search_24 Q0) a → J X w (QV X w Q0) 24 [(0, rr w 13), (1, .int a.1), (2, .int a.2.1)] [] a.2.2 := by
    intro a ha
    refine Lq_use (G := fun a => J X w (QV X w Q0) 24 [(0, rr w 13), (1, .int a.1), (2, .int a.2.1)] [] a.2.2) ?_ ha
    intro K24 hK a h
    obtain ⟨x1, x2, S⟩ := a
    have hK24 : ∀ (x1 : Int32) (x2 : Int32) (S : St), K24 (x1, x2, S) → J X w (QV X w Q0) 24 [(0, rr w 13), (1, .int x1), (2, .int x2)] [] S := fun x1 x2 S h => hK (x1, x2, S) h
    show J X w (QV X w Q0) 24 [(0, rr w 13), (1, .int x1), (2, .int x2)] [] S
    refine j_iload_n C dX1_search_24 2 rfl rfl ?_
    refine j_aload_n C dX1_search_25 0 rfl rfl ?_
    refine gf_RX1_53_13 C dX1_search_26 ?_
    refine j_icmp_ge (tgt := 84) C dX1_search_29 (by decide) (fun c4 => ?_) (fun c4 => ?_)
    · have h := And.left h c4
      exact j_vret C dX1_search_84 h
    · have h := And.right h c4
      refine j_iload_n C dX1_search_32 2 rfl rfl ?_
      refine j_bipush C dX1_search_33 (v := 18) (by decide) ?_
      refine j_icmp_ge (tgt := 84) C dX1_search_35 (by decide) (fun c5 => ?_) (fun c5 => ?_)
      · have h := And.left h c5
        exact j_vret C dX1_search_84 h
      · have h := And.right h c5
        refine j_aload_n C dX1_search_38 0 rfl rfl ?_
        refine gf_RX1_28_13 C dX1_search_39 ?_
        refine j_iload_n C dX1_search_42 2 rfl rfl ?_
        refine al_21 C dX1_search_43 (And.left h) ?_
        have h := And.right h
        refine j_istore_n (lv' := [(3, .int (S.1 21 x2.toNatClampNeg)), (0, rr w 13), (1, .int x1), (2, .int x2)]) C dX1_search_44 rfl (by decide) rfl ?_
        refine j_iload_n C dX1_search_45 0 rfl rfl ?_
        refine j_iload_n C dX1_search_46 2 rfl rfl ?_
        refine j_icmp_ne (tgt := 51) C dX1_search_47 (by decide) (fun c6 => ?_) (fun c6 => ?_)
        · have h := And.left h c6
          refine j_aload_n C dX1_search_51 1 rfl rfl ?_
          refine j_iload_n C dX1_search_52 0 rfl rfl ?_
          refine j_bipush C dX1_search_53 (v := 9) (by decide) ?_
          refine j_icmp_ge (tgt := 66) C dX1_search_55 (by decide) (fun c7 => ?_) (fun c7 => ?_)
          · have h := And.left h c7
            refine j_aload_n C dX1_search_66 1 rfl rfl ?_
            refine j_iload_n C dX1_search_67 0 rfl rfl ?_
            refine j_bipush C dX1_search_68 (v := 9) (by decide) ?_
            refine j_isub C dX1_search_70 ?_
            refine j_callVi (st := [rr w 13]) C 13 [.int ((S.1 21 x2.toNatClampNeg) - 9)] (m_X1_nextOfGoing C.wok h) cv_RX1_66 rk_X1_search_X1_nextOfGoing rfl (rc_13 w) rfl (Nat.le_of_ble_eq_true rfl) dX1_search_71 (fun r9 S8 h => ?_)
            refine j_sub [1, 2, 3, 0] rfl ?_
            exact t_X1_search_74 C hK24 h
          · have h := And.right h c7
            refine j_aload_n C dX1_search_58 1 rfl rfl ?_
            refine j_iload_n C dX1_search_59 0 rfl rfl ?_
            refine j_callVi (st := [rr w 13]) C 13 [.int (S.1 21 x2.toNatClampNeg)] (m_X1_nextOfComing C.wok h) cv_RX1_62 rk_X1_search_X1_nextOfComing rfl (rc_13 w) rfl (Nat.le_of_ble_eq_true rfl) dX1_search_60 (fun r12 S11 h => ?_)
            refine j_goto (tgt := 74) C dX1_search_63 (by decide) ?_
            refine j_sub [1, 2, 3, 0] rfl ?_
            exact t_X1_search_74 C hK24 h
        · have h := And.right h c6
          exact j_vret C dX1_search_50 h
  exact key (x1, x2, S) h
set_option maxRecDepth 20000 in
theorem m_X1_search {l : Launch} {w : Wt} (hw : WOK w) {x1 : Int32} {S : St} {Q0 : St → Prop} (h : p_X1_search x1 S Q0) : MV l w yX1_search cX1_search 4 rm_X1_search [rr w 13, .int x1] S Q0 := by
  refine m_MV (own := RX1) (lv := [(0, rr w 13), (1, .int x1)]) hw (by decide) rfl (Nat.le_of_ble_eq_true rfl) rfl (fun X C => ?_)
  refine j_aload_n C dX1_search_0 0 rfl rfl ?_
  refine j_iconst C dX1_search_1 (v := 0) (by decide) ?_
  refine pf_RX1_41_13 C dX1_search_2 (fun S1 eS1 => ?_)
  have h := h S1 eS1
  refine j_aload_n C dX1_search_5 0 rfl rfl ?_
  refine j_iconst C dX1_search_6 (v := 0) (by decide) ?_
  refine pf_RX1_53_13 C dX1_search_7 (fun S2 eS2 => ?_)
  have h := h S2 eS2
  refine j_aload_n C dX1_search_10 0 rfl rfl ?_
  refine j_aload_n C dX1_search_11 0 rfl rfl ?_
  refine gf_RX1_12_13 C dX1_search_12 ?_
  refine gf_RX1_56_14 C dX1_search_15 ?_
  refine j_iconst C dX1_search_18 (v := (-1)) (by decide) ?_
  refine j_callVv (st := []) C 13 [.int (S2.1 14 1), .int (-1)] (m_X1_note C.wok h) cv_RX1_59 rk_X1_search_X1_note rfl (rc_13 w) rfl (Nat.le_of_ble_eq_true rfl) dX1_search_19 (fun S3 h => ?_)
  refine j_iconst C dX1_search_22 (v := 0) (by decide) ?_
  refine j_istore_n (lv' := [(2, .int 0), (0, rr w 13), (1, .int x1)]) C dX1_search_23 rfl (by decide) rfl ?_
  refine j_sub [1, 2, 0] rfl ?_
  exact t_X1_search_24 C h
def rm_X1_moveFromGoing : Room := { frames := 0, cells := 0, slots := 0, locals := 0 }
set_option maxRecDepth 20000 in
theorem m_X1_moveFromGoing {l : Launch} {w : Wt} (hw : WOK w) {x1 : Int32} {x2 : Int32} {S : St} {Q0 : St → Prop} (h : p_X1_moveFromGoing x1 x2 S Q0) : MV l w yX1_moveFromGoing cX1_moveFromGoing 3 rm_X1_moveFromGoing [rr w 13, .int x1, .int x2] S Q0 := by
  refine m_MV (own := RX1) (lv := [(0, rr w 13), (1, .int x1), (2, .int x2)]) hw (by decide) rfl (Nat.le_of_ble_eq_true rfl) rfl (fun X C => ?_)
  refine j_iload_n C dX1_moveFromGoing_0 1 rfl rfl ?_
  refine j_iload_n C dX1_moveFromGoing_1 2 rfl rfl ?_
  refine j_icmp_ne (tgt := 18) C dX1_moveFromGoing_2 (by decide) (fun c1 => ?_) (fun c1 => ?_)
  · have h := And.left h c1
    refine j_aload_n C dX1_moveFromGoing_18 0 rfl rfl ?_
    refine gf_RX1_22_13 C dX1_moveFromGoing_19 ?_
    refine j_iload_n C dX1_moveFromGoing_22 1 rfl rfl ?_
    refine j_bipush C dX1_moveFromGoing_23 (v := 9) (by decide) ?_
    refine j_imul C dX1_moveFromGoing_25 ?_
    refine j_iload_n C dX1_moveFromGoing_26 2 rfl rfl ?_
    refine j_iadd C dX1_moveFromGoing_27 ?_
    refine j_dup2 C dX1_moveFromGoing_28 rfl rfl ?_
    refine al_19 C dX1_moveFromGoing_29 (And.left h) ?_
    have h := And.right h
    refine j_iconst C dX1_moveFromGoing_30 (v := 1) (by decide) ?_
    refine j_iadd C dX1_moveFromGoing_31 ?_
    refine as_19 C dX1_moveFromGoing_32 (And.left h) (fun S2 eS2 => ?_)
    have h := And.right h S2 eS2
    exact j_vret C dX1_moveFromGoing_33 h
  · have h := And.right h c1
    refine j_aload_n C dX1_moveFromGoing_5 0 rfl rfl ?_
    refine gf_RX1_18_13 C dX1_moveFromGoing_6 ?_
    refine j_iload_n C dX1_moveFromGoing_9 1 rfl rfl ?_
    refine j_dup2 C dX1_moveFromGoing_10 rfl rfl ?_
    refine al_18 C dX1_moveFromGoing_11 (And.left h) ?_
    have h := And.right h
    refine j_iconst C dX1_moveFromGoing_12 (v := 1) (by decide) ?_
    refine j_isub C dX1_moveFromGoing_13 ?_
    refine as_18 C dX1_moveFromGoing_14 (And.left h) (fun S3 eS3 => ?_)
    have h := And.right h S3 eS3
    refine j_goto (tgt := 33) C dX1_moveFromGoing_15 (by decide) ?_
    exact j_vret C dX1_moveFromGoing_33 h
def rm_X1_moveFromComing : Room := { frames := 0, cells := 0, slots := 0, locals := 0 }
set_option maxRecDepth 20000 in
theorem m_X1_moveFromComing {l : Launch} {w : Wt} (hw : WOK w) {x1 : Int32} {x2 : Int32} {S : St} {Q0 : St → Prop} (h : p_X1_moveFromComing x1 x2 S Q0) : MV l w yX1_moveFromComing cX1_moveFromComing 3 rm_X1_moveFromComing [rr w 13, .int x1, .int x2] S Q0 := by
  refine m_MV (own := RX1) (lv := [(0, rr w 13), (1, .int x1), (2, .int x2)]) hw (by decide) rfl (Nat.le_of_ble_eq_true rfl) rfl (fun X C => ?_)
  refine j_iload_n C dX1_moveFromComing_0 1 rfl rfl ?_
  refine j_iload_n C dX1_moveFromComing_1 2 rfl rfl ?_
  refine j_icmp_ne (tgt := 18) C dX1_moveFromComing_2 (by decide) (fun c1 => ?_) (fun c1 => ?_)
  · have h := And.left h c1
    refine j_aload_n C dX1_moveFromComing_18 0 rfl rfl ?_
    refine gf_RX1_22_13 C dX1_moveFromComing_19 ?_
    refine j_iload_n C dX1_moveFromComing_22 2 rfl rfl ?_
    refine j_bipush C dX1_moveFromComing_23 (v := 9) (by decide) ?_
    refine j_imul C dX1_moveFromComing_25 ?_
    refine j_iload_n C dX1_moveFromComing_26 1 rfl rfl ?_
    refine j_iadd C dX1_moveFromComing_27 ?_
    refine j_dup2 C dX1_moveFromComing_28 rfl rfl ?_
    refine al_19 C dX1_moveFromComing_29 (And.left h) ?_
    have h := And.right h
    refine j_iconst C dX1_moveFromComing_30 (v := 1) (by decide) ?_
    refine j_isub C dX1_moveFromComing_31 ?_
    refine as_19 C dX1_moveFromComing_32 (And.left h) (fun S2 eS2 => ?_)
    have h := And.right h S2 eS2
    exact j_vret C dX1_moveFromComing_33 h
  · have h := And.right h c1
    refine j_aload_n C dX1_moveFromComing_5 0 rfl rfl ?_
    refine gf_RX1_18_13 C dX1_moveFromComing_6 ?_
    refine j_iload_n C dX1_moveFromComing_9 1 rfl rfl ?_
    refine j_dup2 C dX1_moveFromComing_10 rfl rfl ?_
    refine al_18 C dX1_moveFromComing_11 (And.left h) ?_
    have h := And.right h
    refine j_iconst C dX1_moveFromComing_12 (v := 1) (by decide) ?_
    refine j_iadd C dX1_moveFromComing_13 ?_
    refine as_18 C dX1_moveFromComing_14 (And.left h) (fun S3 eS3 => ?_)
    have h := And.right h S3 eS3
    refine j_goto (tgt := 33) C dX1_moveFromComing_15 (by decide) ?_
    exact j_vret C dX1_moveFromComing_33 h
def rm_X1_move : Room := { frames := 1, cells := 0, slots := 0, locals := 22 }
theorem rk_X1_move_X1_moveFromComing : roomOk rm_X1_moveFromComing rm_X1_move 3 := ⟨⟨rfl, rfl⟩, Nat.le_of_ble_eq_true rfl, Nat.le_of_ble_eq_true rfl⟩
theorem rk_X1_move_X1_moveFromGoing : roomOk rm_X1_moveFromGoing rm_X1_move 3 := ⟨⟨rfl, rfl⟩, Nat.le_of_ble_eq_true rfl, Nat.le_of_ble_eq_true rfl⟩
set_option maxRecDepth 20000 in
theorem m_X1_move {l : Launch} {w : Wt} (hw : WOK w) {x1 : Int32} {x2 : Int32} {S : St} {Q0 : St → Prop} (h : p_X1_move x1 x2 S Q0) : MV l w yX1_move cX1_move 3 rm_X1_move [rr w 13, .int x1, .int x2] S Q0 := by
  refine m_MV (own := RX1) (lv := [(0, rr w 13), (1, .int x1), (2, .int x2)]) hw (by decide) rfl (Nat.le_of_ble_eq_true rfl) rfl (fun X C => ?_)
  refine j_iload_n C dX1_move_0 1 rfl rfl ?_
  refine j_bipush C dX1_move_1 (v := 9) (by decide) ?_
  refine j_icmp_ge (tgt := 18) C dX1_move_3 (by decide) (fun c1 => ?_) (fun c1 => ?_)
  · have h := And.left h c1
    refine j_aload_n C dX1_move_18 0 rfl rfl ?_
    refine j_iload_n C dX1_move_19 1 rfl rfl ?_
    refine j_bipush C dX1_move_20 (v := 9) (by decide) ?_
    refine j_isub C dX1_move_22 ?_
    refine j_iload_n C dX1_move_23 2 rfl rfl ?_
    refine j_callVv (st := []) C 13 [.int (x1 - 9), .int x2] (m_X1_moveFromGoing C.wok h) cv_RX1_81 rk_X1_move_X1_moveFromGoing rfl (rc_13 w) rfl (Nat.le_of_ble_eq_true rfl) dX1_move_24 (fun S2 h => ?_)
    exact j_vret C dX1_move_27 h
  · have h := And.right h c1
    refine j_aload_n C dX1_move_6 0 rfl rfl ?_
    refine j_iload_n C dX1_move_7 1 rfl rfl ?_
    refine j_iload_n C dX1_move_8 2 rfl rfl ?_
    refine j_bipush C dX1_move_9 (v := 9) (by decide) ?_
    refine j_isub C dX1_move_11 ?_
    refine j_callVv (st := []) C 13 [.int x1, .int (x2 - 9)] (m_X1_moveFromComing C.wok h) cv_RX1_78 rk_X1_move_X1_moveFromComing rfl (rc_13 w) rfl (Nat.le_of_ble_eq_true rfl) dX1_move_12 (fun S3 h => ?_)
    refine j_goto (tgt := 27) C dX1_move_15 (by decide) ?_
    exact j_vret C dX1_move_27 h
def rm_X1_sendTo : Room := { frames := 2, cells := 0, slots := 0, locals := 47 }
theorem rk_X1_sendTo_X1_move : roomOk rm_X1_move rm_X1_sendTo 3 := ⟨⟨rfl, rfl⟩, Nat.le_of_ble_eq_true rfl, Nat.le_of_ble_eq_true rfl⟩
theorem rk_X1_sendTo_X1_search : roomOk rm_X1_search rm_X1_sendTo 4 := ⟨⟨rfl, rfl⟩, Nat.le_of_ble_eq_true rfl, Nat.le_of_ble_eq_true rfl⟩
theorem rk_X1_sendTo_X6_bit : roomOk rm_X6_bit rm_X1_sendTo 2 := ⟨⟨rfl, rfl⟩, Nat.le_of_ble_eq_true rfl, Nat.le_of_ble_eq_true rfl⟩
set_option maxRecDepth 20000 in
theorem t_X1_sendTo_25 {X : Mx} {w : Wt} {l0 : Launch} {Q0 : Int32 → St → Prop} (C : Cx X w l0 cX1_sendTo 4 RX1 rm_X1_sendTo (some .boolean)) {x2 : Int32} {x3 : Int32} {S : St} (h : Lq (p_X1_sendTo_25 Q0) (x2, x3, S)) : J X w (QI X w Q0) 25 [(0, rr w 13), (2, .int x2), (3, .int x3)] [] S := by
  have key : ∀ a : Int32 × Int32 × St, Lq (p_X1_sendTo_25 Q0) a → J X w (QI X w Q0) 25 [(0, rr w 13), (2, .int a.1), (3, .int a.2.1)] [] a.2.2 := by
    intro a ha
    refine Lq_use (G := fun a => J X w (QI X w Q0) 25 [(0, rr w 13), (2, .int a.1), (3, .int a.2.1)] [] a.2.2) ?_ ha
    intro K25 hK a h
    obtain ⟨x2, x3, S⟩ := a
    have hK25 : ∀ (x2 : Int32) (x3 : Int32) (S : St), K25 (x2, x3, S) → J X w (QI X w Q0) 25 [(0, rr w 13), (2, .int x2), (3, .int x3)] [] S := fun x2 x3 S h => hK (x2, x3, S) h
    show J X w (QI X w Q0) 25 [(0, rr w 13), (2, .int x2), (3, .int x3)] [] S
    refine j_iload_n C dX1_sendTo_25 2 rfl rfl ?_
    refine j_bipush C dX1_sendTo_26 (v := 18) (by decide) ?_
    refine j_icmp_ge (tgt := 65) C dX1_sendTo_28 (by decide) (fun c5 => ?_) (fun c5 => ?_)
    · have h := And.left h c5
      refine j_iconst C dX1_sendTo_65 (v := 1) (by decide) ?_
      exact j_zret C dX1_sendTo_66 ⟨bz1, h⟩
    · have h := And.right h c5
      refine j_aload_n C dX1_sendTo_31 0 rfl rfl ?_
      refine gf_RX1_25_13 C dX1_sendTo_32 ?_
      refine j_iload_n C dX1_sendTo_35 1 rfl rfl ?_
      refine al_20 C dX1_sendTo_36 (And.left h) ?_
      have h := And.right h
      refine j_iconst C dX1_sendTo_37 (v := (-1)) (by decide) ?_
      refine j_icmp_eq (tgt := 65) C dX1_sendTo_38 (by decide) (fun c6 => ?_) (fun c6 => ?_)
      · have h := And.left h c6
        refine j_iconst C dX1_sendTo_65 (v := 1) (by decide) ?_
        exact j_zret C dX1_sendTo_66 ⟨bz1, h⟩
      · have h := And.right h c6
        refine j_aload_n C dX1_sendTo_41 0 rfl rfl ?_
        refine j_aload_n C dX1_sendTo_42 0 rfl rfl ?_
        refine gf_RX1_25_13 C dX1_sendTo_43 ?_
        refine j_iload_n C dX1_sendTo_46 1 rfl rfl ?_
        refine al_20 C dX1_sendTo_47 (And.left h) ?_
        have h := And.right h
        refine j_iload_n C dX1_sendTo_48 1 rfl rfl ?_
        refine j_callVv (st := []) C 13 [.int (S.1 20 x2.toNatClampNeg), .int x2] (m_X1_move C.wok h) cv_RX1_49 rk_X1_sendTo_X1_move rfl (rc_13 w) rfl (Nat.le_of_ble_eq_true rfl) dX1_sendTo_49 (fun S7 h => ?_)
        refine j_aload_n C dX1_sendTo_52 0 rfl rfl ?_
        refine gf_RX1_25_13 C dX1_sendTo_53 ?_
        refine j_iload_n C dX1_sendTo_56 1 rfl rfl ?_
        refine al_20 C dX1_sendTo_57 (And.left h) ?_
        have h := And.right h
        refine j_istore_n (lv' := [(2, .int (S7.1 20 x2.toNatClampNeg)), (0, rr w 13), (3, .int x3)]) C dX1_sendTo_58 rfl (by decide) rfl ?_
        refine j_iinc (lv' := [(3, .int (x3 + 1)), (2, .int (S7.1 20 x2.toNatClampNeg)), (0, rr w 13)]) C dX1_sendTo_59 2 rfl rfl (by decide) rfl ?_
        refine j_goto (tgt := 25) C dX1_sendTo_62 (by decide) ?_
        refine j_sub [2, 1, 0] rfl ?_
        exact hK25 _ _ _ h
  exact key (x2, x3, S) h
set_option maxRecDepth 20000 in
theorem m_X1_sendTo {l : Launch} {w : Wt} (hw : WOK w) {x1 : Int32} {S : St} {Q0 : Int32 → St → Prop} (h : p_X1_sendTo x1 S Q0) : MI l w yX1_sendTo cX1_sendTo 4 .boolean rm_X1_sendTo [rr w 13, .int x1] S Q0 := by
  refine m_MI (own := RX1) (lv := [(0, rr w 13), (1, .int x1)]) hw (by decide) rfl (Nat.le_of_ble_eq_true rfl) rfl (fun X C => ?_)
  refine j_bipush C dX1_sendTo_0 (v := 9) (by decide) ?_
  refine j_iload_n C dX1_sendTo_2 1 rfl rfl ?_
  refine j_iadd C dX1_sendTo_3 ?_
  refine j_istore_n (lv' := [(2, .int (9 + x1)), (0, rr w 13), (1, .int x1)]) C dX1_sendTo_4 rfl (by decide) rfl ?_
  refine j_aload_n C dX1_sendTo_5 1 rfl rfl ?_
  refine j_iload_n C dX1_sendTo_6 0 rfl rfl ?_
  refine j_callVv (st := []) C 13 [.int (9 + x1)] (m_X1_search C.wok h) cv_RX1_37 rk_X1_sendTo_X1_search rfl (rc_13 w) rfl (Nat.le_of_ble_eq_true rfl) dX1_sendTo_7 (fun S1 h => ?_)
  refine j_aload_n C dX1_sendTo_10 1 rfl rfl ?_
  refine gf_RX1_41_13 C dX1_sendTo_11 ?_
  refine j_iload_n C dX1_sendTo_14 0 rfl rfl ?_
  refine j_callNi (st := []) C [.int (S1.1 13 6), .int (9 + x1)] (m_X6_bit C.wok h) cv_RX1_45 rk_X1_sendTo_X6_bit rfl rfl (Nat.le_of_ble_eq_true rfl) dX1_sendTo_15 (fun r3 S2 h => ?_)
  refine j_if_ne (tgt := 23) C dX1_sendTo_18 (by decide) (fun c4 => ?_) (fun c4 => ?_)
  · have h := And.left h c4
    refine j_iconst C dX1_sendTo_23 (v := 0) (by decide) ?_
    refine j_istore_n (lv' := [(3, .int 0), (2, .int (9 + x1)), (0, rr w 13), (1, .int x1)]) C dX1_sendTo_24 rfl (by decide) rfl ?_
    refine j_sub [2, 1, 0] rfl ?_
    exact t_X1_sendTo_25 C h
  · have h := And.right h c4
    refine j_iconst C dX1_sendTo_21 (v := 0) (by decide) ?_
    exact j_zret C dX1_sendTo_22 ⟨bz0, h⟩
def rm_X6_admitted : Room := { frames := 3, cells := 0, slots := 0, locals := 70 }
theorem rk_X6_admitted_X1_begin : roomOk rm_X1_begin rm_X6_admitted 1 := ⟨⟨rfl, rfl⟩, Nat.le_of_ble_eq_true rfl, Nat.le_of_ble_eq_true rfl⟩
theorem rk_X6_admitted_X1_sendTo : roomOk rm_X1_sendTo rm_X6_admitted 4 := ⟨⟨rfl, rfl⟩, Nat.le_of_ble_eq_true rfl, Nat.le_of_ble_eq_true rfl⟩
theorem rk_X6_admitted_X6_bit : roomOk rm_X6_bit rm_X6_admitted 2 := ⟨⟨rfl, rfl⟩, Nat.le_of_ble_eq_true rfl, Nat.le_of_ble_eq_true rfl⟩
set_option maxRecDepth 20000 in
theorem t_X6_admitted_48 {X : Mx} {w : Wt} {l0 : Launch} {Q0 : Int32 → St → Prop} {K11 : Int32 × Int32 × Int32 × St → Prop} (C : Cx X w l0 cX6_admitted 4 RX6 rm_X6_admitted (some .int)) (hK11 : ∀ (x1 : Int32) (x2 : Int32) (x3 : Int32) (S : St), K11 (x1, x2, x3, S) → J X w (QI X w Q0) 11 [(0, rr w 0), (1, .int x1), (2, .int x2), (3, .int x3)] [] S) {x1 : Int32} {x2 : Int32} {x3 : Int32} {S : St} (h : p_X6_admitted_48 Q0 K11 x1 x2 x3 S) : J X w (QI X w Q0) 48 [(0, rr w 0), (1, .int x1), (2, .int x2), (3, .int x3)] [] S := by
  refine j_iinc (lv' := [(3, .int (x3 + 1)), (0, rr w 0), (1, .int x1), (2, .int x2)]) C dX6_admitted_48 3 rfl rfl (by decide) rfl ?_
  refine j_goto (tgt := 11) C dX6_admitted_51 (by decide) ?_
  refine j_sub [1, 2, 3, 0] rfl ?_
  exact hK11 _ _ _ _ h
set_option maxRecDepth 20000 in
theorem t_X6_admitted_11 {X : Mx} {w : Wt} {l0 : Launch} {Q0 : Int32 → St → Prop} (C : Cx X w l0 cX6_admitted 4 RX6 rm_X6_admitted (some .int)) {x1 : Int32} {x2 : Int32} {x3 : Int32} {S : St} (h : Lq (p_X6_admitted_11 Q0) (x1, x2, x3, S)) : J X w (QI X w Q0) 11 [(0, rr w 0), (1, .int x1), (2, .int x2), (3, .int x3)] [] S := by
  have key : ∀ a : Int32 × Int32 × Int32 × St, Lq (p_X6_admitted_11 Q0) a → J X w (QI X w Q0) 11 [(0, rr w 0), (1, .int a.1), (2, .int a.2.1), (3, .int a.2.2.1)] [] a.2.2.2 := by
    intro a ha
    refine Lq_use (G := fun a => J X w (QI X w Q0) 11 [(0, rr w 0), (1, .int a.1), (2, .int a.2.1), (3, .int a.2.2.1)] [] a.2.2.2) ?_ ha
    intro K11 hK a h
    obtain ⟨x1, x2, x3, S⟩ := a
    have hK11 : ∀ (x1 : Int32) (x2 : Int32) (x3 : Int32) (S : St), K11 (x1, x2, x3, S) → J X w (QI X w Q0) 11 [(0, rr w 0), (1, .int x1), (2, .int x2), (3, .int x3)] [] S := fun x1 x2 x3 S h => hK (x1, x2, x3, S) h
    show J X w (QI X w Q0) 11 [(0, rr w 0), (1, .int x1), (2, .int x2), (3, .int x3)] [] S
    refine j_iload_n C dX6_admitted_11 3 rfl rfl ?_
    refine j_aload_n C dX6_admitted_12 0 rfl rfl ?_
    refine gf_RX6_16_0 C dX6_admitted_13 ?_
    refine gf_RX6_82_2 C dX6_admitted_16 ?_
    refine j_icmp_ge (tgt := 54) C dX6_admitted_19 (by decide) (fun c2 => ?_) (fun c2 => ?_)
    · have h := And.left h c2
      refine j_iload_n C dX6_admitted_54 2 rfl rfl ?_
      exact j_iret C dX6_admitted_55 h
    · have h := And.right h c2
      refine j_iload_n C dX6_admitted_22 1 rfl rfl ?_
      refine j_iload_n C dX6_admitted_23 3 rfl rfl ?_
      refine j_callSi (st := []) C [.int x1, .int x3] (m_X6_bit C.wok h) cv_RX6_172 rk_X6_admitted_X6_bit rfl rfl (Nat.le_of_ble_eq_true rfl) dX6_admitted_24 (fun r4 S3 h => ?_)
      refine j_iconst C dX6_admitted_27 (v := 1) (by decide) ?_
      refine j_icmp_ne (tgt := 48) C dX6_admitted_28 (by decide) (fun c5 => ?_) (fun c5 => ?_)
      · have h := And.left h c5
        exact t_X6_admitted_48 C hK11 h
      · have h := And.right h c5
        refine j_aload_n C dX6_admitted_31 0 rfl rfl ?_
        refine gf_RX6_37_0 C dX6_admitted_32 ?_
        refine j_iload_n C dX6_admitted_35 3 rfl rfl ?_
        refine j_callVi (st := []) C 13 [.int x3] (m_X1_sendTo C.wok h) cv_RX6_277 rk_X6_admitted_X1_sendTo rfl (rc_13 w) rfl (Nat.le_of_ble_eq_true rfl) dX6_admitted_36 (fun r7 S6 h => ?_)
        refine j_if_eq (tgt := 48) C dX6_admitted_39 (by decide) (fun c8 => ?_) (fun c8 => ?_)
        · have h := And.left h c8
          exact t_X6_admitted_48 C hK11 h
        · have h := And.right h c8
          refine j_iload_n C dX6_admitted_42 2 rfl rfl ?_
          refine j_iconst C dX6_admitted_43 (v := 1) (by decide) ?_
          refine j_iload_n C dX6_admitted_44 3 rfl rfl ?_
          refine j_ishl C dX6_admitted_45 ?_
          refine j_ior C dX6_admitted_46 ?_
          refine j_istore_n (lv' := [(2, .int (x2 ||| (1 <<< (x3 &&& 31)))), (0, rr w 0), (1, .int x1), (3, .int x3)]) C dX6_admitted_47 rfl (by decide) rfl ?_
          refine j_sub [1, 2, 0, 3] rfl ?_
          exact t_X6_admitted_48 C hK11 h
  exact key (x1, x2, x3, S) h
set_option maxRecDepth 20000 in
theorem m_X6_admitted {l : Launch} {w : Wt} (hw : WOK w) {x1 : Int32} {S : St} {Q0 : Int32 → St → Prop} (h : p_X6_admitted x1 S Q0) : MI l w yX6_admitted cX6_admitted 4 .int rm_X6_admitted [rr w 0, .int x1] S Q0 := by
  refine m_MI (own := RX6) (lv := [(0, rr w 0), (1, .int x1)]) hw (by decide) rfl (Nat.le_of_ble_eq_true rfl) rfl (fun X C => ?_)
  refine j_aload_n C dX6_admitted_0 0 rfl rfl ?_
  refine gf_RX6_37_0 C dX6_admitted_1 ?_
  refine j_callVv (st := []) C 13 [] (m_X1_begin C.wok h) cv_RX6_276 rk_X6_admitted_X1_begin rfl (rc_13 w) rfl (Nat.le_of_ble_eq_true rfl) dX6_admitted_4 (fun S1 h => ?_)
  refine j_iconst C dX6_admitted_7 (v := 0) (by decide) ?_
  refine j_istore_n (lv' := [(2, .int 0), (0, rr w 0), (1, .int x1)]) C dX6_admitted_8 rfl (by decide) rfl ?_
  refine j_iconst C dX6_admitted_9 (v := 0) (by decide) ?_
  refine j_istore_n (lv' := [(3, .int 0), (2, .int 0), (0, rr w 0), (1, .int x1)]) C dX6_admitted_10 rfl (by decide) rfl ?_
  refine j_sub [2, 3, 1, 0] rfl ?_
  exact t_X6_admitted_11 C h
