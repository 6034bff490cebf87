def rm_X6_letter : Room := { frames := 0, cells := 0, slots := 0, locals := 0 }
set_option maxRecDepth 20000 in
theorem m_X6_letter {l : Launch} {w : Wt} (hw : WOK w) {x1 : Int32} {S : St} {Q0 : Int32 → St → Prop} (h : p_X6_letter x1 S Q0) : MI l w yX6_letter cX6_letter 2 .int rm_X6_letter [rr w 0, .int x1] S Q0 := by
  refine m_MI (own := RX6) (lv := [(0, rr w 0), (1, .int x1)]) hw (by decide) rfl (Nat.le_of_ble_eq_true rfl) rfl (fun X C => ?_)
  refine j_iload_n C dX6_letter_0 1 rfl rfl ?_
  refine j_bipush C dX6_letter_1 (v := 32) (by decide) ?_
  refine j_icmp_lt (tgt := 12) C dX6_letter_3 (by decide) (fun c1 => ?_) (fun c1 => ?_)
  · have h := And.left h c1
    refine j_bipush C dX6_letter_12 (v := (-102)) (by decide) ?_
    exact j_iret C dX6_letter_14 h
  · have h := And.right h c1
    refine j_iload_n C dX6_letter_6 1 rfl rfl ?_
    refine j_bipush C dX6_letter_7 (v := 126) (by decide) ?_
    refine j_icmp_le (tgt := 15) C dX6_letter_9 (by decide) (fun c2 => ?_) (fun c2 => ?_)
    · have h := And.left h c2
      refine j_aload_n C dX6_letter_15 0 rfl rfl ?_
      refine gf_RX6_53_0 C dX6_letter_16 ?_
      refine j_bipush C dX6_letter_19 (v := 110) (by decide) ?_
      refine j_icmp_lt (tgt := 27) C dX6_letter_21 (by decide) (fun c3 => ?_) (fun c3 => ?_)
      · have h := And.left h c3
        refine j_aload_n C dX6_letter_27 0 rfl rfl ?_
        refine gf_RX6_9_0 C dX6_letter_28 ?_
        refine j_aload_n C dX6_letter_31 0 rfl rfl ?_
        refine gf_RX6_53_0 C dX6_letter_32 ?_
        refine j_iload_n C dX6_letter_35 1 rfl rfl ?_
        refine as_1 C dX6_letter_36 (And.left h) (fun S4 eS4 => ?_)
        have h := And.right h S4 eS4
        refine j_aload_n C dX6_letter_37 0 rfl rfl ?_
        refine j_dup C dX6_letter_38 rfl ?_
        refine gf_RX6_53_0 C dX6_letter_39 ?_
        refine j_iconst C dX6_letter_42 (v := 1) (by decide) ?_
        refine j_iadd C dX6_letter_43 ?_
        refine pf_RX6_53_0 C dX6_letter_44 (fun S5 eS5 => ?_)
        have h := h S5 eS5
        refine j_aload_n C dX6_letter_47 0 rfl rfl ?_
        refine gf_RX6_53_0 C dX6_letter_48 ?_
        exact j_iret C dX6_letter_51 h
      · have h := And.right h c3
        refine j_bipush C dX6_letter_24 (v := (-104)) (by decide) ?_
        exact j_iret C dX6_letter_26 h
    · have h := And.right h c2
      refine j_bipush C dX6_letter_12 (v := (-102)) (by decide) ?_
      exact j_iret C dX6_letter_14 h
def rm_X7_within : Room := { frames := 0, cells := 0, slots := 0, locals := 0 }
set_option maxRecDepth 20000 in
theorem m_X7_within {l : Launch} {w : Wt} (hw : WOK w) {x0 : Int32} {x1 : Int32} {x2 : Int32} {S : St} {Q0 : Int32 → St → Prop} (h : p_X7_within x0 x1 x2 S Q0) : MI l w yX7_within cX7_within 3 .boolean rm_X7_within [.int x0, .int x1, .int x2] S Q0 := by
  refine m_MI (own := RX7) (lv := [(0, .int x0), (1, .int x1), (2, .int x2)]) hw (by decide) rfl (Nat.le_of_ble_eq_true rfl) rfl (fun X C => ?_)
  refine j_iload_n C dX7_within_0 0 rfl rfl ?_
  refine j_iload_n C dX7_within_1 1 rfl rfl ?_
  refine j_icmp_lt (tgt := 14) C dX7_within_2 (by decide) (fun c1 => ?_) (fun c1 => ?_)
  · have h := And.left h c1
    refine j_iconst C dX7_within_14 (v := 0) (by decide) ?_
    exact j_zret C dX7_within_15 ⟨bz0, h⟩
  · have h := And.right h c1
    refine j_iload_n C dX7_within_5 0 rfl rfl ?_
    refine j_iload_n C dX7_within_6 2 rfl rfl ?_
    refine j_icmp_gt (tgt := 14) C dX7_within_7 (by decide) (fun c2 => ?_) (fun c2 => ?_)
    · have h := And.left h c2
      refine j_iconst C dX7_within_14 (v := 0) (by decide) ?_
      exact j_zret C dX7_within_15 ⟨bz0, h⟩
    · have h := And.right h c2
      refine j_iconst C dX7_within_10 (v := 1) (by decide) ?_
      refine j_goto (tgt := 15) C dX7_within_11 (by decide) ?_
      exact j_zret C dX7_within_15 ⟨bz1, h⟩
def rm_X7_letter : Room := { frames := 1, cells := 0, slots := 0, locals := 22 }
theorem rk_X7_letter_X7_within : roomOk rm_X7_within rm_X7_letter 3 := ⟨⟨rfl, rfl⟩, Nat.le_of_ble_eq_true rfl, Nat.le_of_ble_eq_true rfl⟩
set_option maxRecDepth 20000 in
theorem m_X7_letter {l : Launch} {w : Wt} (hw : WOK w) {x1 : Int32} {S : St} {Q0 : Int32 → St → Prop} (h : p_X7_letter x1 S Q0) : MI l w yX7_letter cX7_letter 2 .int rm_X7_letter [rr w 25, .int x1] S Q0 := by
  refine m_MI (own := RX7) (lv := [(0, rr w 25), (1, .int x1)]) hw (by decide) rfl (Nat.le_of_ble_eq_true rfl) rfl (fun X C => ?_)
  refine j_iload_n C dX7_letter_0 1 rfl rfl ?_
  refine j_bipush C dX7_letter_1 (v := 32) (by decide) ?_
  refine j_bipush C dX7_letter_3 (v := 126) (by decide) ?_
  refine j_callSi (st := []) C [.int x1, .int 32, .int 126] (m_X7_within C.wok h) cv_RX7_50 rk_X7_letter_X7_within rfl rfl (Nat.le_of_ble_eq_true rfl) dX7_letter_5 (fun r2 S1 h => ?_)
  refine j_if_ne (tgt := 14) C dX7_letter_8 (by decide) (fun c3 => ?_) (fun c3 => ?_)
  · have h := And.left h c3
    refine j_aload_n C dX7_letter_14 0 rfl rfl ?_
    refine gf_RX7_54_25 C dX7_letter_15 ?_
    refine j_bipush C dX7_letter_18 (v := 110) (by decide) ?_
    refine j_icmp_ne (tgt := 26) C dX7_letter_20 (by decide) (fun c4 => ?_) (fun c4 => ?_)
    · have h := And.left h c4
      refine j_aload_n C dX7_letter_26 0 rfl rfl ?_
      refine gf_RX7_19_25 C dX7_letter_27 ?_
      refine j_aload_n C dX7_letter_30 0 rfl rfl ?_
      refine gf_RX7_54_25 C dX7_letter_31 ?_
      refine j_iload_n C dX7_letter_34 1 rfl rfl ?_
      refine as_29 C dX7_letter_35 (And.left h) (fun S5 eS5 => ?_)
      have h := And.right h S5 eS5
      refine j_aload_n C dX7_letter_36 0 rfl rfl ?_
      refine j_dup C dX7_letter_37 rfl ?_
      refine gf_RX7_54_25 C dX7_letter_38 ?_
      refine j_iconst C dX7_letter_41 (v := 1) (by decide) ?_
      refine j_iadd C dX7_letter_42 ?_
      refine pf_RX7_54_25 C dX7_letter_43 (fun S6 eS6 => ?_)
      have h := h S6 eS6
      refine j_aload_n C dX7_letter_46 0 rfl rfl ?_
      refine gf_RX7_54_25 C dX7_letter_47 ?_
      exact j_iret C dX7_letter_50 h
    · have h := And.right h c4
      refine j_bipush C dX7_letter_23 (v := (-104)) (by decide) ?_
      exact j_iret C dX7_letter_25 h
  · have h := And.right h c3
    refine j_bipush C dX7_letter_11 (v := (-102)) (by decide) ?_
    exact j_iret C dX7_letter_13 h
def rm_X6_blank : Room := { frames := 0, cells := 0, slots := 0, locals := 0 }
set_option maxRecDepth 20000 in
theorem m_X6_blank {l : Launch} {w : Wt} (hw : WOK w) {S : St} {Q0 : Int32 → St → Prop} (h : p_X6_blank S Q0) : MI l w yX6_blank cX6_blank 2 .int rm_X6_blank [rr w 0] S Q0 := by
  refine m_MI (own := RX6) (lv := [(0, rr w 0)]) hw (by decide) rfl (Nat.le_of_ble_eq_true rfl) rfl (fun X C => ?_)
  refine j_aload_n C dX6_blank_0 0 rfl rfl ?_
  refine gf_RX6_53_0 C dX6_blank_1 ?_
  refine j_istore_n (lv' := [(1, .int (S.1 0 1)), (0, rr w 0)]) C dX6_blank_4 rfl (by decide) rfl ?_
  refine j_aload_n C dX6_blank_5 1 rfl rfl ?_
  refine j_iconst C dX6_blank_6 (v := 0) (by decide) ?_
  refine pf_RX6_53_0 C dX6_blank_7 (fun S1 eS1 => ?_)
  have h := h S1 eS1
  refine j_iload_n C dX6_blank_10 0 rfl rfl ?_
  exact j_iret C dX6_blank_11 h
def rm_X7_blank : Room := { frames := 0, cells := 0, slots := 0, locals := 0 }
set_option maxRecDepth 20000 in
theorem m_X7_blank {l : Launch} {w : Wt} (hw : WOK w) {S : St} {Q0 : Int32 → St → Prop} (h : p_X7_blank S Q0) : MI l w yX7_blank cX7_blank 2 .int rm_X7_blank [rr w 25] S Q0 := by
  refine m_MI (own := RX7) (lv := [(0, rr w 25)]) hw (by decide) rfl (Nat.le_of_ble_eq_true rfl) rfl (fun X C => ?_)
  refine j_aload_n C dX7_blank_0 0 rfl rfl ?_
  refine gf_RX7_54_25 C dX7_blank_1 ?_
  refine j_istore_n (lv' := [(1, .int (S.1 25 8)), (0, rr w 25)]) C dX7_blank_4 rfl (by decide) rfl ?_
  refine j_aload_n C dX7_blank_5 1 rfl rfl ?_
  refine j_iconst C dX7_blank_6 (v := 0) (by decide) ?_
  refine pf_RX7_54_25 C dX7_blank_7 (fun S1 eS1 => ?_)
  have h := h S1 eS1
  refine j_iload_n C dX7_blank_10 0 rfl rfl ?_
  exact j_iret C dX7_blank_11 h
def rm_J7_fill_53178_c8 : Room := { frames := 0, cells := 0, slots := 0, locals := 0 }
set_option maxRecDepth 20000 in
theorem t_J7_fill_53178_c8_5 {X : Mx} {w : Wt} {l0 : Launch} {Q0 : St → Prop} (C : Cx X w l0 cJ7_fill_53178 4 RJ7 rm_J7_fill_53178_c8 none) {x1 : Int32} {x2 : Int32} {x3 : Int32} {S : St} (h : Lq (p_J7_fill_53178_c8_5 Q0) (x1, x2, x3, S)) : J X w (QV X w Q0) 5 [(0, rr w 8), (1, .int x1), (2, .int x2), (3, .int x3)] [] S := by
  have key : ∀ a : Int32 × Int32 × Int32 × St, Lq (p_J7_fill_53178_c8_5 Q0) a → J X w (QV X w Q0) 5 [(0, rr w 8), (1, .int a.1), (2, .int a.2.1), (3, .int a.2.2.1)] [] a.2.2.2 := by
    intro a ha
    refine Lq_use (G := fun a => J X w (QV X w Q0) 5 [(0, rr w 8), (1, .int a.1), (2, .int a.2.1), (3, .int a.2.2.1)] [] a.2.2.2) ?_ ha
    intro K5 hK a h
    obtain ⟨x1, x2, x3, S⟩ := a
    have hK5 : ∀ (x1 : Int32) (x2 : Int32) (x3 : Int32) (S : St), K5 (x1, x2, x3, S) → J X w (QV X w Q0) 5 [(0, rr w 8), (1, .int x1), (2, .int x2), (3, .int x3)] [] S := fun x1 x2 x3 S h => hK (x1, x2, x3, S) h
    show J X w (QV X w Q0) 5 [(0, rr w 8), (1, .int x1), (2, .int x2), (3, .int x3)] [] S
    refine j_iload_n C dJ7_fill_53178_5 2 rfl rfl ?_
    refine j_iload_n C dJ7_fill_53178_6 3 rfl rfl ?_
    refine j_icmp_ge (tgt := 20) C dJ7_fill_53178_7 (by decide) (fun c1 => ?_) (fun c1 => ?_)
    · have h := And.left h c1
      exact j_vret C dJ7_fill_53178_20 h
    · have h := And.right h c1
      refine j_aload_n C dJ7_fill_53178_10 0 rfl rfl ?_
      refine j_iload_n C dJ7_fill_53178_11 2 rfl rfl ?_
      refine j_iload_n C dJ7_fill_53178_12 1 rfl rfl ?_
      refine as_8 C dJ7_fill_53178_13 (And.left h) (fun S2 eS2 => ?_)
      have h := And.right h S2 eS2
      refine j_iinc (lv' := [(2, .int (x2 + 1)), (0, rr w 8), (1, .int x1), (3, .int x3)]) C dJ7_fill_53178_14 2 rfl rfl (by decide) rfl ?_
      refine j_goto (tgt := 5) C dJ7_fill_53178_17 (by decide) ?_
      refine j_sub [1, 2, 0, 3] rfl ?_
      exact hK5 _ _ _ _ h
  exact key (x1, x2, x3, S) h
set_option maxRecDepth 20000 in
theorem m_J7_fill_53178_c8 {l : Launch} {w : Wt} (hw : WOK w) {x1 : Int32} {S : St} {Q0 : St → Prop} (h : p_J7_fill_53178_c8 x1 S Q0) : MV l w yJ7_fill_53178 cJ7_fill_53178 4 rm_J7_fill_53178_c8 [rr w 8, .int x1] S Q0 := by
  refine m_MV (own := RJ7) (lv := [(0, rr w 8), (1, .int x1)]) hw (by decide) rfl (Nat.le_of_ble_eq_true rfl) rfl (fun X C => ?_)
  refine j_iconst C dJ7_fill_53178_0 (v := 0) (by decide) ?_
  refine j_istore_n (lv' := [(2, .int 0), (0, rr w 8), (1, .int x1)]) C dJ7_fill_53178_1 rfl (by decide) rfl ?_
  refine j_aload_n C dJ7_fill_53178_2 1 rfl rfl ?_
  refine j_alenI C 8 rfl (v := 5) (by decide) dJ7_fill_53178_3 ?_
  refine j_istore_n (lv' := [(3, .int 5), (2, .int 0), (0, rr w 8), (1, .int x1)]) C dJ7_fill_53178_4 rfl (by decide) rfl ?_
  refine j_sub [2, 3, 1, 0] rfl ?_
  exact t_J7_fill_53178_c8_5 C h
def rm_J7_fill_53178_c9 : Room := { frames := 0, cells := 0, slots := 0, locals := 0 }
set_option maxRecDepth 20000 in
theorem t_J7_fill_53178_c9_5 {X : Mx} {w : Wt} {l0 : Launch} {Q0 : St → Prop} (C : Cx X w l0 cJ7_fill_53178 4 RJ7 rm_J7_fill_53178_c9 none) {x1 : Int32} {x2 : Int32} {x3 : Int32} {S : St} (h : Lq (p_J7_fill_53178_c9_5 Q0) (x1, x2, x3, S)) : J X w (QV X w Q0) 5 [(0, rr w 9), (1, .int x1), (2, .int x2), (3, .int x3)] [] S := by
  have key : ∀ a : Int32 × Int32 × Int32 × St, Lq (p_J7_fill_53178_c9_5 Q0) a → J X w (QV X w Q0) 5 [(0, rr w 9), (1, .int a.1), (2, .int a.2.1), (3, .int a.2.2.1)] [] a.2.2.2 := by
    intro a ha
    refine Lq_use (G := fun a => J X w (QV X w Q0) 5 [(0, rr w 9), (1, .int a.1), (2, .int a.2.1), (3, .int a.2.2.1)] [] a.2.2.2) ?_ ha
    intro K5 hK a h
    obtain ⟨x1, x2, x3, S⟩ := a
    have hK5 : ∀ (x1 : Int32) (x2 : Int32) (x3 : Int32) (S : St), K5 (x1, x2, x3, S) → J X w (QV X w Q0) 5 [(0, rr w 9), (1, .int x1), (2, .int x2), (3, .int x3)] [] S := fun x1 x2 x3 S h => hK (x1, x2, x3, S) h
    show J X w (QV X w Q0) 5 [(0, rr w 9), (1, .int x1), (2, .int x2), (3, .int x3)] [] S
    refine j_iload_n C dJ7_fill_53178_5 2 rfl rfl ?_
    refine j_iload_n C dJ7_fill_53178_6 3 rfl rfl ?_
    refine j_icmp_ge (tgt := 20) C dJ7_fill_53178_7 (by decide) (fun c1 => ?_) (fun c1 => ?_)
    · have h := And.left h c1
      exact j_vret C dJ7_fill_53178_20 h
    · have h := And.right h c1
      refine j_aload_n C dJ7_fill_53178_10 0 rfl rfl ?_
      refine j_iload_n C dJ7_fill_53178_11 2 rfl rfl ?_
      refine j_iload_n C dJ7_fill_53178_12 1 rfl rfl ?_
      refine as_9 C dJ7_fill_53178_13 (And.left h) (fun S2 eS2 => ?_)
      have h := And.right h S2 eS2
      refine j_iinc (lv' := [(2, .int (x2 + 1)), (0, rr w 9), (1, .int x1), (3, .int x3)]) C dJ7_fill_53178_14 2 rfl rfl (by decide) rfl ?_
      refine j_goto (tgt := 5) C dJ7_fill_53178_17 (by decide) ?_
      refine j_sub [1, 2, 0, 3] rfl ?_
      exact hK5 _ _ _ _ h
  exact key (x1, x2, x3, S) h
set_option maxRecDepth 20000 in
theorem m_J7_fill_53178_c9 {l : Launch} {w : Wt} (hw : WOK w) {x1 : Int32} {S : St} {Q0 : St → Prop} (h : p_J7_fill_53178_c9 x1 S Q0) : MV l w yJ7_fill_53178 cJ7_fill_53178 4 rm_J7_fill_53178_c9 [rr w 9, .int x1] S Q0 := by
  refine m_MV (own := RJ7) (lv := [(0, rr w 9), (1, .int x1)]) hw (by decide) rfl (Nat.le_of_ble_eq_true rfl) rfl (fun X C => ?_)
  refine j_iconst C dJ7_fill_53178_0 (v := 0) (by decide) ?_
  refine j_istore_n (lv' := [(2, .int 0), (0, rr w 9), (1, .int x1)]) C dJ7_fill_53178_1 rfl (by decide) rfl ?_
  refine j_aload_n C dJ7_fill_53178_2 1 rfl rfl ?_
  refine j_alenI C 9 rfl (v := 9) (by decide) dJ7_fill_53178_3 ?_
  refine j_istore_n (lv' := [(3, .int 9), (2, .int 0), (0, rr w 9), (1, .int x1)]) C dJ7_fill_53178_4 rfl (by decide) rfl ?_
  refine j_sub [2, 3, 1, 0] rfl ?_
  exact t_J7_fill_53178_c9_5 C h
def rm_J7_fill_53178_c10 : Room := { frames := 0, cells := 0, slots := 0, locals := 0 }
set_option maxRecDepth 20000 in
theorem t_J7_fill_53178_c10_5 {X : Mx} {w : Wt} {l0 : Launch} {Q0 : St → Prop} (C : Cx X w l0 cJ7_fill_53178 4 RJ7 rm_J7_fill_53178_c10 none) {x1 : Int32} {x2 : Int32} {x3 : Int32} {S : St} (h : Lq (p_J7_fill_53178_c10_5 Q0) (x1, x2, x3, S)) : J X w (QV X w Q0) 5 [(0, rr w 10), (1, .int x1), (2, .int x2), (3, .int x3)] [] S := by
  have key : ∀ a : Int32 × Int32 × Int32 × St, Lq (p_J7_fill_53178_c10_5 Q0) a → J X w (QV X w Q0) 5 [(0, rr w 10), (1, .int a.1), (2, .int a.2.1), (3, .int a.2.2.1)] [] a.2.2.2 := by
    intro a ha
    refine Lq_use (G := fun a => J X w (QV X w Q0) 5 [(0, rr w 10), (1, .int a.1), (2, .int a.2.1), (3, .int a.2.2.1)] [] a.2.2.2) ?_ ha
    intro K5 hK a h
    obtain ⟨x1, x2, x3, S⟩ := a
    have hK5 : ∀ (x1 : Int32) (x2 : Int32) (x3 : Int32) (S : St), K5 (x1, x2, x3, S) → J X w (QV X w Q0) 5 [(0, rr w 10), (1, .int x1), (2, .int x2), (3, .int x3)] [] S := fun x1 x2 x3 S h => hK (x1, x2, x3, S) h
    show J X w (QV X w Q0) 5 [(0, rr w 10), (1, .int x1), (2, .int x2), (3, .int x3)] [] S
    refine j_iload_n C dJ7_fill_53178_5 2 rfl rfl ?_
    refine j_iload_n C dJ7_fill_53178_6 3 rfl rfl ?_
    refine j_icmp_ge (tgt := 20) C dJ7_fill_53178_7 (by decide) (fun c1 => ?_) (fun c1 => ?_)
    · have h := And.left h c1
      exact j_vret C dJ7_fill_53178_20 h
    · have h := And.right h c1
      refine j_aload_n C dJ7_fill_53178_10 0 rfl rfl ?_
      refine j_iload_n C dJ7_fill_53178_11 2 rfl rfl ?_
      refine j_iload_n C dJ7_fill_53178_12 1 rfl rfl ?_
      refine as_10 C dJ7_fill_53178_13 (And.left h) (fun S2 eS2 => ?_)
      have h := And.right h S2 eS2
      refine j_iinc (lv' := [(2, .int (x2 + 1)), (0, rr w 10), (1, .int x1), (3, .int x3)]) C dJ7_fill_53178_14 2 rfl rfl (by decide) rfl ?_
      refine j_goto (tgt := 5) C dJ7_fill_53178_17 (by decide) ?_
      refine j_sub [1, 2, 0, 3] rfl ?_
      exact hK5 _ _ _ _ h
  exact key (x1, x2, x3, S) h
set_option maxRecDepth 20000 in
theorem m_J7_fill_53178_c10 {l : Launch} {w : Wt} (hw : WOK w) {x1 : Int32} {S : St} {Q0 : St → Prop} (h : p_J7_fill_53178_c10 x1 S Q0) : MV l w yJ7_fill_53178 cJ7_fill_53178 4 rm_J7_fill_53178_c10 [rr w 10, .int x1] S Q0 := by
  refine m_MV (own := RJ7) (lv := [(0, rr w 10), (1, .int x1)]) hw (by decide) rfl (Nat.le_of_ble_eq_true rfl) rfl (fun X C => ?_)
  refine j_iconst C dJ7_fill_53178_0 (v := 0) (by decide) ?_
  refine j_istore_n (lv' := [(2, .int 0), (0, rr w 10), (1, .int x1)]) C dJ7_fill_53178_1 rfl (by decide) rfl ?_
  refine j_aload_n C dJ7_fill_53178_2 1 rfl rfl ?_
  refine j_alenI C 10 rfl (v := 9) (by decide) dJ7_fill_53178_3 ?_
  refine j_istore_n (lv' := [(3, .int 9), (2, .int 0), (0, rr w 10), (1, .int x1)]) C dJ7_fill_53178_4 rfl (by decide) rfl ?_
  refine j_sub [2, 3, 1, 0] rfl ?_
  exact t_J7_fill_53178_c10_5 C h
def rm_X0_clear_c7 : Room := { frames := 1, cells := 0, slots := 0, locals := 23 }
theorem rk_X0_clear_c7_J7_fill_53178_c10 : roomOk rm_J7_fill_53178_c10 rm_X0_clear_c7 4 := ⟨⟨rfl, rfl⟩, Nat.le_of_ble_eq_true rfl, Nat.le_of_ble_eq_true rfl⟩
theorem rk_X0_clear_c7_J7_fill_53178_c8 : roomOk rm_J7_fill_53178_c8 rm_X0_clear_c7 4 := ⟨⟨rfl, rfl⟩, Nat.le_of_ble_eq_true rfl, Nat.le_of_ble_eq_true rfl⟩
theorem rk_X0_clear_c7_J7_fill_53178_c9 : roomOk rm_J7_fill_53178_c9 rm_X0_clear_c7 4 := ⟨⟨rfl, rfl⟩, Nat.le_of_ble_eq_true rfl, Nat.le_of_ble_eq_true rfl⟩
set_option maxRecDepth 20000 in
theorem m_X0_clear_c7 {l : Launch} {w : Wt} (hw : WOK w) {S : St} {Q0 : St → Prop} (h : p_X0_clear_c7 S Q0) : MV l w yX0_clear cX0_clear 1 rm_X0_clear_c7 [rr w 7] S Q0 := by
  refine m_MV (own := RX0) (lv := [(0, rr w 7)]) hw (by decide) rfl (Nat.le_of_ble_eq_true rfl) rfl (fun X C => ?_)
  refine j_aload_n C dX0_clear_0 0 rfl rfl ?_
  refine j_iconst C dX0_clear_1 (v := 0) (by decide) ?_
  refine pf_RX0_21_7 C dX0_clear_2 (fun S1 eS1 => ?_)
  have h := h S1 eS1
  refine j_aload_n C dX0_clear_5 0 rfl rfl ?_
  refine j_iconst C dX0_clear_6 (v := 0) (by decide) ?_
  refine pf_RX0_25_7 C dX0_clear_7 (fun S2 eS2 => ?_)
  have h := h S2 eS2
  refine j_aload_n C dX0_clear_10 0 rfl rfl ?_
  refine gf_RX0_9_7 C dX0_clear_11 ?_
  refine j_iconst C dX0_clear_14 (v := 0) (by decide) ?_
  refine j_callSv (st := []) C [rr w 8, .int 0] (m_J7_fill_53178_c8 C.wok h) cv_RX0_28 rk_X0_clear_c7_J7_fill_53178_c8 rfl rfl (Nat.le_of_ble_eq_true rfl) dX0_clear_15 (fun S3 h => ?_)
  refine j_aload_n C dX0_clear_18 0 rfl rfl ?_
  refine gf_RX0_15_7 C dX0_clear_19 ?_
  refine j_iconst C dX0_clear_22 (v := 0) (by decide) ?_
  refine j_callSv (st := []) C [rr w 9, .int 0] (m_J7_fill_53178_c9 C.wok h) cv_RX0_28 rk_X0_clear_c7_J7_fill_53178_c9 rfl rfl (Nat.le_of_ble_eq_true rfl) dX0_clear_23 (fun S4 h => ?_)
  refine j_aload_n C dX0_clear_26 0 rfl rfl ?_
  refine gf_RX0_18_7 C dX0_clear_27 ?_
  refine j_iconst C dX0_clear_30 (v := 0) (by decide) ?_
  refine j_callSv (st := []) C [rr w 10, .int 0] (m_J7_fill_53178_c10 C.wok h) cv_RX0_28 rk_X0_clear_c7_J7_fill_53178_c10 rfl rfl (Nat.le_of_ble_eq_true rfl) dX0_clear_31 (fun S5 h => ?_)
  exact j_vret C dX0_clear_34 h
def rm_X2_begin : Room := { frames := 2, cells := 0, slots := 0, locals := 43 }
theorem rk_X2_begin_X0_clear_c7 : roomOk rm_X0_clear_c7 rm_X2_begin 1 := ⟨⟨rfl, rfl⟩, Nat.le_of_ble_eq_true rfl, Nat.le_of_ble_eq_true rfl⟩
set_option maxRecDepth 20000 in
theorem m_X2_begin {l : Launch} {w : Wt} (hw : WOK w) {S : St} {Q0 : St → Prop} (h : p_X2_begin S Q0) : MV l w yX2_begin cX2_begin 1 rm_X2_begin [rr w 6] S Q0 := by
  refine m_MV (own := RX2) (lv := [(0, rr w 6)]) hw (by decide) rfl (Nat.le_of_ble_eq_true rfl) rfl (fun X C => ?_)
  refine j_aload_n C dX2_begin_0 0 rfl rfl ?_
  refine gf_RX2_12_6 C dX2_begin_1 ?_
  refine j_callVv (st := []) C 7 [] (m_X0_clear_c7 C.wok h) cv_RX2_18 rk_X2_begin_X0_clear_c7 rfl (rc_7 w) rfl (Nat.le_of_ble_eq_true rfl) dX2_begin_4 (fun S1 h => ?_)
  refine j_aload_n C dX2_begin_7 0 rfl rfl ?_
  refine j_iconst C dX2_begin_8 (v := 0) (by decide) ?_
  refine pf_RX2_21_6 C dX2_begin_9 (fun S2 eS2 => ?_)
  have h := h S2 eS2
  refine j_aload_n C dX2_begin_12 0 rfl rfl ?_
  refine j_iconst C dX2_begin_13 (v := 0) (by decide) ?_
  refine pf_RX2_25_6 C dX2_begin_14 (fun S3 eS3 => ?_)
  have h := h S3 eS3
  refine j_aload_n C dX2_begin_17 0 rfl rfl ?_
  refine j_iconst C dX2_begin_18 (v := (-1)) (by decide) ?_
  refine pf_RX2_28_6 C dX2_begin_19 (fun S4 eS4 => ?_)
  have h := h S4 eS4
  exact j_vret C dX2_begin_22 h
def rm_X2_moveTo : Room := { frames := 0, cells := 0, slots := 0, locals := 0 }
set_option maxRecDepth 20000 in
theorem m_X2_moveTo {l : Launch} {w : Wt} (hw : WOK w) {x1 : Int32} {S : St} {Q0 : Int32 → St → Prop} (h : p_X2_moveTo x1 S Q0) : MI l w yX2_moveTo cX2_moveTo 2 .boolean rm_X2_moveTo [rr w 6, .int x1] S Q0 := by
  refine m_MI (own := RX2) (lv := [(0, rr w 6), (1, .int x1)]) hw (by decide) rfl (Nat.le_of_ble_eq_true rfl) rfl (fun X C => ?_)
  refine j_aload_n C dX2_moveTo_0 0 rfl rfl ?_
  refine j_iload_n C dX2_moveTo_1 1 rfl rfl ?_
  refine pf_RX2_21_6 C dX2_moveTo_2 (fun S1 eS1 => ?_)
  have h := h S1 eS1
  refine j_iconst C dX2_moveTo_5 (v := 1) (by decide) ?_
  exact j_zret C dX2_moveTo_6 ⟨bz1, h⟩
def rm_X2_takeCount : Room := { frames := 1, cells := 0, slots := 0, locals := 21 }
theorem rk_X2_takeCount_X2_moveTo : roomOk rm_X2_moveTo rm_X2_takeCount 2 := ⟨⟨rfl, rfl⟩, Nat.le_of_ble_eq_true rfl, Nat.le_of_ble_eq_true rfl⟩
set_option maxRecDepth 20000 in
theorem m_X2_takeCount {l : Launch} {w : Wt} (hw : WOK w) {x1 : Int32} {S : St} {Q0 : Int32 → St → Prop} (h : p_X2_takeCount x1 S Q0) : MI l w yX2_takeCount cX2_takeCount 2 .boolean rm_X2_takeCount [rr w 6, .int x1] S Q0 := by
  refine m_MI (own := RX2) (lv := [(0, rr w 6), (1, .int x1)]) hw (by decide) rfl (Nat.le_of_ble_eq_true rfl) rfl (fun X C => ?_)
  refine j_iload_n C dX2_takeCount_0 1 rfl rfl ?_
  refine j_iconst C dX2_takeCount_1 (v := 1) (by decide) ?_
  refine j_icmp_lt (tgt := 11) C dX2_takeCount_2 (by decide) (fun c1 => ?_) (fun c1 => ?_)
  · have h := And.left h c1
    refine j_iconst C dX2_takeCount_11 (v := 0) (by decide) ?_
    exact j_zret C dX2_takeCount_12 ⟨bz0, h⟩
  · have h := And.right h c1
    refine j_iload_n C dX2_takeCount_5 1 rfl rfl ?_
    refine j_bipush C dX2_takeCount_6 (v := 9) (by decide) ?_
    refine j_icmp_le (tgt := 13) C dX2_takeCount_8 (by decide) (fun c2 => ?_) (fun c2 => ?_)
    · have h := And.left h c2
      refine j_aload_n C dX2_takeCount_13 0 rfl rfl ?_
      refine gf_RX2_12_6 C dX2_takeCount_14 ?_
      refine j_iload_n C dX2_takeCount_17 1 rfl rfl ?_
      refine pf_RX2_31_7 C dX2_takeCount_18 (fun S3 eS3 => ?_)
      have h := h S3 eS3
      refine j_aload_n C dX2_takeCount_21 0 rfl rfl ?_
      refine j_iconst C dX2_takeCount_22 (v := 1) (by decide) ?_
      refine j_callVi (st := []) C 6 [.int 1] (m_X2_moveTo C.wok h) cv_RX2_38 rk_X2_takeCount_X2_moveTo rfl (rc_6 w) rfl (Nat.le_of_ble_eq_true rfl) dX2_takeCount_23 (fun r5 S4 h => ?_)
      exact j_zret C dX2_takeCount_26 h
    · have h := And.right h c2
      refine j_iconst C dX2_takeCount_11 (v := 0) (by decide) ?_
      exact j_zret C dX2_takeCount_12 ⟨bz0, h⟩
def rm_X2_takeBoundsEnd : Room := { frames := 1, cells := 0, slots := 0, locals := 21 }
theorem rk_X2_takeBoundsEnd_X2_moveTo : roomOk rm_X2_moveTo rm_X2_takeBoundsEnd 2 := ⟨⟨rfl, rfl⟩, Nat.le_of_ble_eq_true rfl, Nat.le_of_ble_eq_true rfl⟩
set_option maxRecDepth 20000 in
theorem m_X2_takeBoundsEnd {l : Launch} {w : Wt} (hw : WOK w) {x1 : Int32} {S : St} {Q0 : Int32 → St → Prop} (h : p_X2_takeBoundsEnd x1 S Q0) : MI l w yX2_takeBoundsEnd cX2_takeBoundsEnd 2 .boolean rm_X2_takeBoundsEnd [rr w 6, .int x1] S Q0 := by
  refine m_MI (own := RX2) (lv := [(0, rr w 6), (1, .int x1)]) hw (by decide) rfl (Nat.le_of_ble_eq_true rfl) rfl (fun X C => ?_)
  refine j_iload_n C dX2_takeBoundsEnd_0 1 rfl rfl ?_
  refine j_bipush C dX2_takeBoundsEnd_1 (v := 58) (by decide) ?_
  refine j_icmp_ne (tgt := 28) C dX2_takeBoundsEnd_3 (by decide) (fun c1 => ?_) (fun c1 => ?_)
  · have h := And.left h c1
    refine j_iconst C dX2_takeBoundsEnd_28 (v := 0) (by decide) ?_
    exact j_zret C dX2_takeBoundsEnd_29 ⟨bz0, h⟩
  · have h := And.right h c1
    refine j_aload_n C dX2_takeBoundsEnd_6 0 rfl rfl ?_
    refine gf_RX2_12_6 C dX2_takeBoundsEnd_7 ?_
    refine gf_RX2_56_7 C dX2_takeBoundsEnd_10 ?_
    refine j_if_le (tgt := 28) C dX2_takeBoundsEnd_13 (by decide) (fun c2 => ?_) (fun c2 => ?_)
    · have h := And.left h c2
      refine j_iconst C dX2_takeBoundsEnd_28 (v := 0) (by decide) ?_
      exact j_zret C dX2_takeBoundsEnd_29 ⟨bz0, h⟩
    · have h := And.right h c2
      refine j_aload_n C dX2_takeBoundsEnd_16 0 rfl rfl ?_
      refine j_iconst C dX2_takeBoundsEnd_17 (v := 3) (by decide) ?_
      refine j_callVi (st := []) C 6 [.int 3] (m_X2_moveTo C.wok h) cv_RX2_38 rk_X2_takeBoundsEnd_X2_moveTo rfl (rc_6 w) rfl (Nat.le_of_ble_eq_true rfl) dX2_takeBoundsEnd_18 (fun r4 S3 h => ?_)
      refine j_if_eq (tgt := 28) C dX2_takeBoundsEnd_21 (by decide) (fun c5 => ?_) (fun c5 => ?_)
      · have h := And.left h c5
        refine j_iconst C dX2_takeBoundsEnd_28 (v := 0) (by decide) ?_
        exact j_zret C dX2_takeBoundsEnd_29 ⟨bz0, h⟩
      · have h := And.right h c5
        refine j_iconst C dX2_takeBoundsEnd_24 (v := 1) (by decide) ?_
        refine j_goto (tgt := 29) C dX2_takeBoundsEnd_25 (by decide) ?_
        exact j_zret C dX2_takeBoundsEnd_29 ⟨bz1, h⟩
def rm_X2_takeBound : Room := { frames := 0, cells := 0, slots := 0, locals := 0 }
set_option maxRecDepth 20000 in
theorem m_X2_takeBound {l : Launch} {w : Wt} (hw : WOK w) {x1 : Int32} {S : St} {Q0 : Int32 → St → Prop} (h : p_X2_takeBound x1 S Q0) : MI l w yX2_takeBound cX2_takeBound 2 .boolean rm_X2_takeBound [rr w 6, .int x1] S Q0 := by
  refine m_MI (own := RX2) (lv := [(0, rr w 6), (1, .int x1)]) hw (by decide) rfl (Nat.le_of_ble_eq_true rfl) rfl (fun X C => ?_)
  refine j_iload_n C dX2_takeBound_0 1 rfl rfl ?_
  refine j_if_lt (tgt := 21) C dX2_takeBound_1 (by decide) (fun c1 => ?_) (fun c1 => ?_)
  · have h := And.left h c1
    refine j_iconst C dX2_takeBound_21 (v := 0) (by decide) ?_
    exact j_zret C dX2_takeBound_22 ⟨bz0, h⟩
  · have h := And.right h c1
    refine j_iload_n C dX2_takeBound_4 1 rfl rfl ?_
    refine j_bipush C dX2_takeBound_5 (v := 9) (by decide) ?_
    refine j_icmp_gt (tgt := 21) C dX2_takeBound_7 (by decide) (fun c2 => ?_) (fun c2 => ?_)
    · have h := And.left h c2
      refine j_iconst C dX2_takeBound_21 (v := 0) (by decide) ?_
      exact j_zret C dX2_takeBound_22 ⟨bz0, h⟩
    · have h := And.right h c2
      refine j_aload_n C dX2_takeBound_10 0 rfl rfl ?_
      refine gf_RX2_12_6 C dX2_takeBound_11 ?_
      refine gf_RX2_56_7 C dX2_takeBound_14 ?_
      refine j_iconst C dX2_takeBound_17 (v := 5) (by decide) ?_
      refine j_icmp_lt (tgt := 23) C dX2_takeBound_18 (by decide) (fun c3 => ?_) (fun c3 => ?_)
      · have h := And.left h c3
        refine j_aload_n C dX2_takeBound_23 0 rfl rfl ?_
        refine gf_RX2_12_6 C dX2_takeBound_24 ?_
        refine gf_RX2_59_7 C dX2_takeBound_27 ?_
        refine j_aload_n C dX2_takeBound_30 0 rfl rfl ?_
        refine gf_RX2_12_6 C dX2_takeBound_31 ?_
        refine gf_RX2_56_7 C dX2_takeBound_34 ?_
        refine j_iload_n C dX2_takeBound_37 1 rfl rfl ?_
        refine as_8 C dX2_takeBound_38 (And.left h) (fun S4 eS4 => ?_)
        have h := And.right h S4 eS4
        refine j_aload_n C dX2_takeBound_39 0 rfl rfl ?_
        refine gf_RX2_12_6 C dX2_takeBound_40 ?_
        refine j_dup C dX2_takeBound_43 rfl ?_
        refine gf_RX2_56_7 C dX2_takeBound_44 ?_
        refine j_iconst C dX2_takeBound_47 (v := 1) (by decide) ?_
        refine j_iadd C dX2_takeBound_48 ?_
        refine pf_RX2_56_7 C dX2_takeBound_49 (fun S5 eS5 => ?_)
        have h := h S5 eS5
        refine j_iconst C dX2_takeBound_52 (v := 1) (by decide) ?_
        exact j_zret C dX2_takeBound_53 ⟨bz1, h⟩
      · have h := And.right h c3
        refine j_iconst C dX2_takeBound_21 (v := 0) (by decide) ?_
        exact j_zret C dX2_takeBound_22 ⟨bz0, h⟩
def rm_X0_ofKind_c7 : Room := { frames := 0, cells := 0, slots := 0, locals := 0 }
set_option maxRecDepth 20000 in
theorem t_X0_ofKind_c7_28 {X : Mx} {w : Wt} {l0 : Launch} {Q0 : Int32 → St → Prop} {K4 : Int32 × Int32 × Int32 × St → Prop} (C : Cx X w l0 cX0_ofKind 4 RX0 rm_X0_ofKind_c7 (some .int)) (hK4 : ∀ (x1 : Int32) (x2 : Int32) (x3 : Int32) (S : St), K4 (x1, x2, x3, S) → J X w (QI X w Q0) 4 [(0, rr w 7), (1, .int x1), (2, .int x2), (3, .int x3)] [] S) {x1 : Int32} {x2 : Int32} {x3 : Int32} {S : St} (h : p_X0_ofKind_c7_28 Q0 K4 x1 x2 x3 S) : J X w (QI X w Q0) 28 [(0, rr w 7), (1, .int x1), (2, .int x2), (3, .int x3)] [] S := by
  refine j_iinc (lv' := [(3, .int (x3 + 1)), (0, rr w 7), (1, .int x1), (2, .int x2)]) C dX0_ofKind_28 3 rfl rfl (by decide) rfl ?_
  refine j_goto (tgt := 4) C dX0_ofKind_31 (by decide) ?_
  refine j_sub [1, 2, 3, 0] rfl ?_
  exact hK4 _ _ _ _ h
set_option maxRecDepth 20000 in
theorem t_X0_ofKind_c7_4 {X : Mx} {w : Wt} {l0 : Launch} {Q0 : Int32 → St → Prop} (C : Cx X w l0 cX0_ofKind 4 RX0 rm_X0_ofKind_c7 (some .int)) {x1 : Int32} {x2 : Int32} {x3 : Int32} {S : St} (h : Lq (p_X0_ofKind_c7_4 Q0) (x1, x2, x3, S)) : J X w (QI X w Q0) 4 [(0, rr w 7), (1, .int x1), (2, .int x2), (3, .int x3)] [] S := by
  have key : ∀ a : Int32 × Int32 × Int32 × St, Lq (p_X0_ofKind_c7_4 Q0) a → J X w (QI X w Q0) 4 [(0, rr w 7), (1, .int a.1), (2, .int a.2.1), (3, .int a.2.2.1)] [] a.2.2.2 := by
    intro a ha
    refine Lq_use (G := fun a => J X w (QI X w Q0) 4 [(0, rr w 7), (1, .int a.1), (2, .int a.2.1), (3, .int a.2.2.1)] [] a.2.2.2) ?_ ha
    intro K4 hK a h
    obtain ⟨x1, x2, x3, S⟩ := a
    have hK4 : ∀ (x1 : Int32) (x2 : Int32) (x3 : Int32) (S : St), K4 (x1, x2, x3, S) → J X w (QI X w Q0) 4 [(0, rr w 7), (1, .int x1), (2, .int x2), (3, .int x3)] [] S := fun x1 x2 x3 S h => hK (x1, x2, x3, S) h
    show J X w (QI X w Q0) 4 [(0, rr w 7), (1, .int x1), (2, .int x2), (3, .int x3)] [] S
    refine j_iload_n C dX0_ofKind_4 3 rfl rfl ?_
    refine j_aload_n C dX0_ofKind_5 0 rfl rfl ?_
    refine gf_RX0_21_7 C dX0_ofKind_6 ?_
    refine j_icmp_ge (tgt := 34) C dX0_ofKind_9 (by decide) (fun c1 => ?_) (fun c1 => ?_)
    · have h := And.left h c1
      refine j_iload_n C dX0_ofKind_34 2 rfl rfl ?_
      exact j_iret C dX0_ofKind_35 h
    · have h := And.right h c1
      refine j_aload_n C dX0_ofKind_12 0 rfl rfl ?_
      refine gf_RX0_15_7 C dX0_ofKind_13 ?_
      refine j_iload_n C dX0_ofKind_16 3 rfl rfl ?_
      refine al_9 C dX0_ofKind_17 (And.left h) ?_
      have h := And.right h
      refine j_iload_n C dX0_ofKind_18 1 rfl rfl ?_
      refine j_icmp_ne (tgt := 28) C dX0_ofKind_19 (by decide) (fun c2 => ?_) (fun c2 => ?_)
      · have h := And.left h c2
        exact t_X0_ofKind_c7_28 C hK4 h
      · have h := And.right h c2
        refine j_iload_n C dX0_ofKind_22 2 rfl rfl ?_
        refine j_iconst C dX0_ofKind_23 (v := 1) (by decide) ?_
        refine j_iload_n C dX0_ofKind_24 3 rfl rfl ?_
        refine j_ishl C dX0_ofKind_25 ?_
        refine j_ior C dX0_ofKind_26 ?_
        refine j_istore_n (lv' := [(2, .int (x2 ||| (1 <<< (x3 &&& 31)))), (0, rr w 7), (1, .int x1), (3, .int x3)]) C dX0_ofKind_27 rfl (by decide) rfl ?_
        refine j_sub [1, 2, 0, 3] rfl ?_
        exact t_X0_ofKind_c7_28 C hK4 h
  exact key (x1, x2, x3, S) h
set_option maxRecDepth 20000 in
theorem m_X0_ofKind_c7 {l : Launch} {w : Wt} (hw : WOK w) {x1 : Int32} {S : St} {Q0 : Int32 → St → Prop} (h : p_X0_ofKind_c7 x1 S Q0) : MI l w yX0_ofKind cX0_ofKind 4 .int rm_X0_ofKind_c7 [rr w 7, .int x1] S Q0 := by
  refine m_MI (own := RX0) (lv := [(0, rr w 7), (1, .int x1)]) hw (by decide) rfl (Nat.le_of_ble_eq_true rfl) rfl (fun X C => ?_)
  refine j_iconst C dX0_ofKind_0 (v := 0) (by decide) ?_
  refine j_istore_n (lv' := [(2, .int 0), (0, rr w 7), (1, .int x1)]) C dX0_ofKind_1 rfl (by decide) rfl ?_
  refine j_iconst C dX0_ofKind_2 (v := 0) (by decide) ?_
  refine j_istore_n (lv' := [(3, .int 0), (2, .int 0), (0, rr w 7), (1, .int x1)]) C dX0_ofKind_3 rfl (by decide) rfl ?_
  refine j_sub [2, 3, 1, 0] rfl ?_
  exact t_X0_ofKind_c7_4 C h
def rm_J6_bitCount_0f7a4 : Room := { frames := 0, cells := 0, slots := 0, locals := 0 }
set_option maxRecDepth 20000 in
theorem m_J6_bitCount_0f7a4 {l : Launch} {w : Wt} (hw : WOK w) {x0 : Int32} {S : St} {Q0 : Int32 → St → Prop} (h : p_J6_bitCount_0f7a4 x0 S Q0) : MI l w yJ6_bitCount_0f7a4 cJ6_bitCount_0f7a4 1 .int rm_J6_bitCount_0f7a4 [.int x0] S Q0 := by
  refine m_MI (own := RJ6) (lv := [(0, .int x0)]) hw (by decide) rfl (Nat.le_of_ble_eq_true rfl) rfl (fun X C => ?_)
  refine j_iload_n C dJ6_bitCount_0f7a4_0 0 rfl rfl ?_
  refine j_iload_n C dJ6_bitCount_0f7a4_1 0 rfl rfl ?_
  refine j_iconst C dJ6_bitCount_0f7a4_2 (v := 1) (by decide) ?_
  refine j_iushr C dJ6_bitCount_0f7a4_3 ?_
  refine j_ldcw C dJ6_bitCount_0f7a4_4 k_352 ?_
  refine j_iand C dJ6_bitCount_0f7a4_7 ?_
  refine j_isub C dJ6_bitCount_0f7a4_8 ?_
  refine j_topi (fun v1 ev1 => ?_)
  have h := h v1 ev1
  refine j_istore_n (lv' := [(0, .int v1)]) C dJ6_bitCount_0f7a4_9 rfl (by decide) rfl ?_
  refine j_iload_n C dJ6_bitCount_0f7a4_10 0 rfl rfl ?_
  refine j_ldcw C dJ6_bitCount_0f7a4_11 k_353 ?_
  refine j_iand C dJ6_bitCount_0f7a4_14 ?_
  refine j_iload_n C dJ6_bitCount_0f7a4_15 0 rfl rfl ?_
  refine j_iconst C dJ6_bitCount_0f7a4_16 (v := 2) (by decide) ?_
  refine j_iushr C dJ6_bitCount_0f7a4_17 ?_
  refine j_ldcw C dJ6_bitCount_0f7a4_18 k_353 ?_
  refine j_iand C dJ6_bitCount_0f7a4_21 ?_
  refine j_iadd C dJ6_bitCount_0f7a4_22 ?_
  refine j_topi (fun v2 ev2 => ?_)
  have h := h v2 ev2
  refine j_istore_n (lv' := [(0, .int v2)]) C dJ6_bitCount_0f7a4_23 rfl (by decide) rfl ?_
  refine j_iload_n C dJ6_bitCount_0f7a4_24 0 rfl rfl ?_
  refine j_iload_n C dJ6_bitCount_0f7a4_25 0 rfl rfl ?_
  refine j_iconst C dJ6_bitCount_0f7a4_26 (v := 4) (by decide) ?_
  refine j_iushr C dJ6_bitCount_0f7a4_27 ?_
  refine j_iadd C dJ6_bitCount_0f7a4_28 ?_
  refine j_ldcw C dJ6_bitCount_0f7a4_29 k_354 ?_
  refine j_iand C dJ6_bitCount_0f7a4_32 ?_
  refine j_topi (fun v3 ev3 => ?_)
  have h := h v3 ev3
  refine j_istore_n (lv' := [(0, .int v3)]) C dJ6_bitCount_0f7a4_33 rfl (by decide) rfl ?_
  refine j_iload_n C dJ6_bitCount_0f7a4_34 0 rfl rfl ?_
  refine j_iload_n C dJ6_bitCount_0f7a4_35 0 rfl rfl ?_
  refine j_bipush C dJ6_bitCount_0f7a4_36 (v := 8) (by decide) ?_
  refine j_iushr C dJ6_bitCount_0f7a4_38 ?_
  refine j_iadd C dJ6_bitCount_0f7a4_39 ?_
  refine j_topi (fun v4 ev4 => ?_)
  have h := h v4 ev4
  refine j_istore_n (lv' := [(0, .int v4)]) C dJ6_bitCount_0f7a4_40 rfl (by decide) rfl ?_
  refine j_iload_n C dJ6_bitCount_0f7a4_41 0 rfl rfl ?_
  refine j_iload_n C dJ6_bitCount_0f7a4_42 0 rfl rfl ?_
  refine j_bipush C dJ6_bitCount_0f7a4_43 (v := 16) (by decide) ?_
  refine j_iushr C dJ6_bitCount_0f7a4_45 ?_
  refine j_iadd C dJ6_bitCount_0f7a4_46 ?_
  refine j_topi (fun v5 ev5 => ?_)
  have h := h v5 ev5
  refine j_istore_n (lv' := [(0, .int v5)]) C dJ6_bitCount_0f7a4_47 rfl (by decide) rfl ?_
  refine j_iload_n C dJ6_bitCount_0f7a4_48 0 rfl rfl ?_
  refine j_bipush C dJ6_bitCount_0f7a4_49 (v := 63) (by decide) ?_
  refine j_iand C dJ6_bitCount_0f7a4_51 ?_
  exact j_iret C dJ6_bitCount_0f7a4_52 h
def rm_X2_takeKind : Room := { frames := 1, cells := 0, slots := 0, locals := 23 }
theorem rk_X2_takeKind_J6_bitCount_0f7a4 : roomOk rm_J6_bitCount_0f7a4 rm_X2_takeKind 1 := ⟨⟨rfl, rfl⟩, Nat.le_of_ble_eq_true rfl, Nat.le_of_ble_eq_true rfl⟩
theorem rk_X2_takeKind_X0_ofKind_c7 : roomOk rm_X0_ofKind_c7 rm_X2_takeKind 4 := ⟨⟨rfl, rfl⟩, Nat.le_of_ble_eq_true rfl, Nat.le_of_ble_eq_true rfl⟩
theorem rk_X2_takeKind_X2_moveTo : roomOk rm_X2_moveTo rm_X2_takeKind 2 := ⟨⟨rfl, rfl⟩, Nat.le_of_ble_eq_true rfl, Nat.le_of_ble_eq_true rfl⟩
set_option maxRecDepth 20000 in
theorem t_X2_takeKind_59 {X : Mx} {w : Wt} {l0 : Launch} {Q0 : Int32 → St → Prop} (C : Cx X w l0 cX2_takeKind 3 RX2 rm_X2_takeKind (some .boolean)) {t0 : Int32} {t1 : Int32} {S : St} (h : p_X2_takeKind_59 Q0 t0 t1 S) : J X w (QI X w Q0) 59 [(0, rr w 6)] [.int t0, .int t1, rr w 9] S := by
  refine as_9 C dX2_takeKind_59 (And.left h) (fun S4 eS4 => ?_)
  have h := And.right h S4 eS4
  refine j_aload_n C dX2_takeKind_60 0 rfl rfl ?_
  refine j_iconst C dX2_takeKind_61 (v := 4) (by decide) ?_
  refine j_callVi (st := []) C 6 [.int 4] (m_X2_moveTo C.wok h) cv_RX2_38 rk_X2_takeKind_X2_moveTo rfl (rc_6 w) rfl (Nat.le_of_ble_eq_true rfl) dX2_takeKind_62 (fun r6 S5 h => ?_)
  exact j_zret C dX2_takeKind_65 h
set_option maxRecDepth 20000 in
theorem t_X2_takeKind_39 {X : Mx} {w : Wt} {l0 : Launch} {Q0 : Int32 → St → Prop} (C : Cx X w l0 cX2_takeKind 3 RX2 rm_X2_takeKind (some .boolean)) {x2 : Int32} {S : St} (h : p_X2_takeKind_39 Q0 x2 S) : J X w (QI X w Q0) 39 [(0, rr w 6), (2, .int x2)] [] S := by
  refine j_aload_n C dX2_takeKind_39 0 rfl rfl ?_
  refine gf_RX2_12_6 C dX2_takeKind_40 ?_
  refine gf_RX2_72_7 C dX2_takeKind_43 ?_
  refine j_aload_n C dX2_takeKind_46 0 rfl rfl ?_
  refine gf_RX2_25_6 C dX2_takeKind_47 ?_
  refine j_iload_n C dX2_takeKind_50 1 rfl rfl ?_
  refine j_if_eq (tgt := 58) C dX2_takeKind_51 (by decide) (fun c3 => ?_) (fun c3 => ?_)
  · have h := And.left h c3
    refine j_iconst C dX2_takeKind_58 (v := 2) (by decide) ?_
    refine j_sub [0] rfl ?_
    exact t_X2_takeKind_59 C h
  · have h := And.right h c3
    refine j_iconst C dX2_takeKind_54 (v := 1) (by decide) ?_
    refine j_goto (tgt := 59) C dX2_takeKind_55 (by decide) ?_
    refine j_sub [0] rfl ?_
    exact t_X2_takeKind_59 C h
set_option maxRecDepth 20000 in
theorem t_X2_takeKind_26 {X : Mx} {w : Wt} {l0 : Launch} {Q0 : Int32 → St → Prop} (C : Cx X w l0 cX2_takeKind 3 RX2 rm_X2_takeKind (some .boolean)) {x1 : Int32} {t0 : Int32} {S : St} (h : p_X2_takeKind_26 Q0 x1 t0 S) : J X w (QI X w Q0) 26 [(0, rr w 6), (1, .int x1)] [.int t0] S := by
  refine j_istore_n (lv' := [(2, .int t0), (0, rr w 6), (1, .int x1)]) C dX2_takeKind_26 rfl (by decide) rfl ?_
  refine j_iload_n C dX2_takeKind_27 0 rfl rfl ?_
  refine j_if_ne (tgt := 39) C dX2_takeKind_28 (by decide) (fun c2 => ?_) (fun c2 => ?_)
  · have h := And.left h c2
    refine j_sub [1, 0] rfl ?_
    exact t_X2_takeKind_39 C h
  · have h := And.right h c2
    refine j_iload_n C dX2_takeKind_31 2 rfl rfl ?_
    refine j_bipush C dX2_takeKind_32 (v := 33) (by decide) ?_
    refine j_icmp_eq (tgt := 39) C dX2_takeKind_34 (by decide) (fun c7 => ?_) (fun c7 => ?_)
    · have h := And.left h c7
      refine j_sub [1, 0] rfl ?_
      exact t_X2_takeKind_39 C h
    · have h := And.right h c7
      refine j_iconst C dX2_takeKind_37 (v := 0) (by decide) ?_
      exact j_zret C dX2_takeKind_38 ⟨bz0, h⟩
set_option maxRecDepth 20000 in
theorem t_X2_takeKind_25 {X : Mx} {w : Wt} {l0 : Launch} {Q0 : Int32 → St → Prop} (C : Cx X w l0 cX2_takeKind 3 RX2 rm_X2_takeKind (some .boolean)) {x1 : Int32} {S : St} (h : p_X2_takeKind_25 Q0 x1 S) : J X w (QI X w Q0) 25 [(0, rr w 6), (1, .int x1)] [] S := by
  refine j_iconst C dX2_takeKind_25 (v := 0) (by decide) ?_
  exact t_X2_takeKind_26 C h
set_option maxRecDepth 20000 in
theorem m_X2_takeKind {l : Launch} {w : Wt} (hw : WOK w) {x1 : Int32} {S : St} {Q0 : Int32 → St → Prop} (h : p_X2_takeKind x1 S Q0) : MI l w yX2_takeKind cX2_takeKind 3 .boolean rm_X2_takeKind [rr w 6, .int x1] S Q0 := by
  refine m_MI (own := RX2) (lv := [(0, rr w 6), (1, .int x1)]) hw (by decide) rfl (Nat.le_of_ble_eq_true rfl) rfl (fun X C => ?_)
  refine j_iload_n C dX2_takeKind_0 1 rfl rfl ?_
  refine j_bipush C dX2_takeKind_1 (v := 42) (by decide) ?_
  refine j_icmp_ne (tgt := 25) C dX2_takeKind_3 (by decide) (fun c1 => ?_) (fun c1 => ?_)
  · have h := And.left h c1
    exact t_X2_takeKind_25 C h
  · have h := And.right h c1
    refine j_aload_n C dX2_takeKind_6 0 rfl rfl ?_
    refine gf_RX2_12_6 C dX2_takeKind_7 ?_
    refine j_iconst C dX2_takeKind_10 (v := 1) (by decide) ?_
    refine j_callVi (st := []) C 7 [.int 1] (m_X0_ofKind_c7 C.wok h) cv_RX2_63 rk_X2_takeKind_X0_ofKind_c7 rfl (rc_7 w) rfl (Nat.le_of_ble_eq_true rfl) dX2_takeKind_11 (fun r9 S8 h => ?_)
    refine j_callSi (st := []) C [.int r9] (m_J6_bitCount_0f7a4 C.wok h) cv_RX2_67 rk_X2_takeKind_J6_bitCount_0f7a4 rfl rfl (Nat.le_of_ble_eq_true rfl) dX2_takeKind_14 (fun r11 S10 h => ?_)
    refine j_iconst C dX2_takeKind_17 (v := 5) (by decide) ?_
    refine j_icmp_ge (tgt := 25) C dX2_takeKind_18 (by decide) (fun c12 => ?_) (fun c12 => ?_)
    · have h := And.left h c12
      exact t_X2_takeKind_25 C h
    · have h := And.right h c12
      refine j_iconst C dX2_takeKind_21 (v := 1) (by decide) ?_
      refine j_goto (tgt := 26) C dX2_takeKind_22 (by decide) ?_
      exact t_X2_takeKind_26 C h
def rm_X2_canVouchOn : Room := { frames := 1, cells := 0, slots := 0, locals := 20 }
theorem rk_X2_canVouchOn_J6_bitCount_0f7a4 : roomOk rm_J6_bitCount_0f7a4 rm_X2_canVouchOn 1 := ⟨⟨rfl, rfl⟩, Nat.le_of_ble_eq_true rfl, Nat.le_of_ble_eq_true rfl⟩
set_option maxRecDepth 20000 in
theorem t_X2_canVouchOn_28 {X : Mx} {w : Wt} {l0 : Launch} {Q0 : Int32 → St → Prop} (C : Cx X w l0 cX2_canVouchOn 2 RX2 rm_X2_canVouchOn (some .boolean)) {t0 : Int32} {S : St} (h : p_X2_canVouchOn_28 Q0 t0 S) : J X w (QI X w Q0) 28 [(0, rr w 6)] [.int t0] S := by
  refine j_istore_n (lv' := [(1, .int t0), (0, rr w 6)]) C dX2_canVouchOn_28 rfl (by decide) rfl ?_
  refine j_iload_n C dX2_canVouchOn_29 0 rfl rfl ?_
  refine j_aload_n C dX2_canVouchOn_30 1 rfl rfl ?_
  refine gf_RX2_12_6 C dX2_canVouchOn_31 ?_
  refine gf_RX2_31_7 C dX2_canVouchOn_34 ?_
  refine j_icmp_ge (tgt := 63) C dX2_canVouchOn_37 (by decide) (fun c2 => ?_) (fun c2 => ?_)
  · have h := And.left h c2
    refine j_iconst C dX2_canVouchOn_63 (v := 0) (by decide) ?_
    exact j_zret C dX2_canVouchOn_64 ⟨bz0, h⟩
  · have h := And.right h c2
    refine j_aload_n C dX2_canVouchOn_40 1 rfl rfl ?_
    refine gf_RX2_12_6 C dX2_canVouchOn_41 ?_
    refine gf_RX2_79_7 C dX2_canVouchOn_44 ?_
    refine j_aload_n C dX2_canVouchOn_47 1 rfl rfl ?_
    refine gf_RX2_25_6 C dX2_canVouchOn_48 ?_
    refine al_10 C dX2_canVouchOn_51 (And.left h) ?_
    have h := And.right h
    refine j_callSi (st := []) C [.int (S.1 10 (S.1 6 2).toNatClampNeg)] (m_J6_bitCount_0f7a4 C.wok h) cv_RX2_67 rk_X2_canVouchOn_J6_bitCount_0f7a4 rfl rfl (Nat.le_of_ble_eq_true rfl) dX2_canVouchOn_52 (fun r4 S3 h => ?_)
    refine j_iconst C dX2_canVouchOn_55 (v := 5) (by decide) ?_
    refine j_icmp_ge (tgt := 63) C dX2_canVouchOn_56 (by decide) (fun c5 => ?_) (fun c5 => ?_)
    · have h := And.left h c5
      refine j_iconst C dX2_canVouchOn_63 (v := 0) (by decide) ?_
      exact j_zret C dX2_canVouchOn_64 ⟨bz0, h⟩
    · have h := And.right h c5
      refine j_iconst C dX2_canVouchOn_59 (v := 1) (by decide) ?_
      refine j_goto (tgt := 64) C dX2_canVouchOn_60 (by decide) ?_
      exact j_zret C dX2_canVouchOn_64 ⟨bz1, h⟩
set_option maxRecDepth 20000 in
theorem m_X2_canVouchOn {l : Launch} {w : Wt} (hw : WOK w) {S : St} {Q0 : Int32 → St → Prop} (h : p_X2_canVouchOn S Q0) : MI l w yX2_canVouchOn cX2_canVouchOn 2 .boolean rm_X2_canVouchOn [rr w 6] S Q0 := by
  refine m_MI (own := RX2) (lv := [(0, rr w 6)]) hw (by decide) rfl (Nat.le_of_ble_eq_true rfl) rfl (fun X C => ?_)
  refine j_aload_n C dX2_canVouchOn_0 0 rfl rfl ?_
  refine gf_RX2_28_6 C dX2_canVouchOn_1 ?_
  refine j_iconst C dX2_canVouchOn_4 (v := 1) (by decide) ?_
  refine j_iadd C dX2_canVouchOn_5 ?_
  refine j_aload_n C dX2_canVouchOn_6 0 rfl rfl ?_
  refine gf_RX2_25_6 C dX2_canVouchOn_7 ?_
  refine j_icmp_ne (tgt := 22) C dX2_canVouchOn_10 (by decide) (fun c1 => ?_) (fun c1 => ?_)
  · have h := And.left h c1
    refine j_aload_n C dX2_canVouchOn_22 0 rfl rfl ?_
    refine gf_RX2_28_6 C dX2_canVouchOn_23 ?_
    refine j_iconst C dX2_canVouchOn_26 (v := 1) (by decide) ?_
    refine j_iadd C dX2_canVouchOn_27 ?_
    exact t_X2_canVouchOn_28 C h
  · have h := And.right h c1
    refine j_aload_n C dX2_canVouchOn_13 0 rfl rfl ?_
    refine gf_RX2_28_6 C dX2_canVouchOn_14 ?_
    refine j_iconst C dX2_canVouchOn_17 (v := 2) (by decide) ?_
    refine j_iadd C dX2_canVouchOn_18 ?_
    refine j_goto (tgt := 28) C dX2_canVouchOn_19 (by decide) ?_
    exact t_X2_canVouchOn_28 C h
def rm_X2_takeInPerson : Room := { frames := 2, cells := 0, slots := 0, locals := 41 }
theorem rk_X2_takeInPerson_X2_canVouchOn : roomOk rm_X2_canVouchOn rm_X2_takeInPerson 2 := ⟨⟨rfl, rfl⟩, Nat.le_of_ble_eq_true rfl, Nat.le_of_ble_eq_true rfl⟩
theorem rk_X2_takeInPerson_X2_moveTo : roomOk rm_X2_moveTo rm_X2_takeInPerson 2 := ⟨⟨rfl, rfl⟩, Nat.le_of_ble_eq_true rfl, Nat.le_of_ble_eq_true rfl⟩
set_option maxRecDepth 20000 in
theorem m_X2_takeInPerson {l : Launch} {w : Wt} (hw : WOK w) {x1 : Int32} {S : St} {Q0 : Int32 → St → Prop} (h : p_X2_takeInPerson x1 S Q0) : MI l w yX2_takeInPerson cX2_takeInPerson 2 .boolean rm_X2_takeInPerson [rr w 6, .int x1] S Q0 := by
  refine m_MI (own := RX2) (lv := [(0, rr w 6), (1, .int x1)]) hw (by decide) rfl (Nat.le_of_ble_eq_true rfl) rfl (fun X C => ?_)
  refine j_iload_n C dX2_takeInPerson_0 1 rfl rfl ?_
  refine j_bipush C dX2_takeInPerson_1 (v := 62) (by decide) ?_
  refine j_icmp_ne (tgt := 27) C dX2_takeInPerson_3 (by decide) (fun c1 => ?_) (fun c1 => ?_)
  · have h := And.left h c1
    refine j_iload_n C dX2_takeInPerson_27 1 rfl rfl ?_
    refine j_bipush C dX2_takeInPerson_28 (v := 59) (by decide) ?_
    refine j_icmp_ne (tgt := 49) C dX2_takeInPerson_30 (by decide) (fun c2 => ?_) (fun c2 => ?_)
    · have h := And.left h c2
      refine j_iconst C dX2_takeInPerson_49 (v := 0) (by decide) ?_
      exact j_zret C dX2_takeInPerson_50 ⟨bz0, h⟩
    · have h := And.right h c2
      refine j_aload_n C dX2_takeInPerson_33 0 rfl rfl ?_
      refine gf_RX2_25_6 C dX2_takeInPerson_34 ?_
      refine j_iconst C dX2_takeInPerson_37 (v := 1) (by decide) ?_
      refine j_iadd C dX2_takeInPerson_38 ?_
      refine j_aload_n C dX2_takeInPerson_39 0 rfl rfl ?_
      refine gf_RX2_12_6 C dX2_takeInPerson_40 ?_
      refine gf_RX2_31_7 C dX2_takeInPerson_43 ?_
      refine j_icmp_lt (tgt := 51) C dX2_takeInPerson_46 (by decide) (fun c3 => ?_) (fun c3 => ?_)
      · have h := And.left h c3
        refine j_aload_n C dX2_takeInPerson_51 0 rfl rfl ?_
        refine j_dup C dX2_takeInPerson_52 rfl ?_
        refine gf_RX2_25_6 C dX2_takeInPerson_53 ?_
        refine j_iconst C dX2_takeInPerson_56 (v := 1) (by decide) ?_
        refine j_iadd C dX2_takeInPerson_57 ?_
        refine pf_RX2_25_6 C dX2_takeInPerson_58 (fun S4 eS4 => ?_)
        have h := h S4 eS4
        refine j_aload_n C dX2_takeInPerson_61 0 rfl rfl ?_
        refine j_iconst C dX2_takeInPerson_62 (v := (-1)) (by decide) ?_
        refine pf_RX2_28_6 C dX2_takeInPerson_63 (fun S5 eS5 => ?_)
        have h := h S5 eS5
        refine j_aload_n C dX2_takeInPerson_66 0 rfl rfl ?_
        refine j_iconst C dX2_takeInPerson_67 (v := 3) (by decide) ?_
        refine j_callVi (st := []) C 6 [.int 3] (m_X2_moveTo C.wok h) cv_RX2_38 rk_X2_takeInPerson_X2_moveTo rfl (rc_6 w) rfl (Nat.le_of_ble_eq_true rfl) dX2_takeInPerson_68 (fun r7 S6 h => ?_)
        exact j_zret C dX2_takeInPerson_71 h
      · have h := And.right h c3
        refine j_iconst C dX2_takeInPerson_49 (v := 0) (by decide) ?_
        exact j_zret C dX2_takeInPerson_50 ⟨bz0, h⟩
  · have h := And.right h c1
    refine j_aload_n C dX2_takeInPerson_6 0 rfl rfl ?_
    refine j_callVi (st := []) C 6 [] (m_X2_canVouchOn C.wok h) cv_RX2_75 rk_X2_takeInPerson_X2_canVouchOn rfl (rc_6 w) rfl (Nat.le_of_ble_eq_true rfl) dX2_takeInPerson_7 (fun r9 S8 h => ?_)
    refine j_if_eq (tgt := 25) C dX2_takeInPerson_10 (by decide) (fun c10 => ?_) (fun c10 => ?_)
    · have h := And.left h c10
      refine j_iconst C dX2_takeInPerson_25 (v := 0) (by decide) ?_
      exact j_zret C dX2_takeInPerson_26 ⟨bz0, h⟩
    · have h := And.right h c10
      refine j_aload_n C dX2_takeInPerson_13 0 rfl rfl ?_
      refine j_iconst C dX2_takeInPerson_14 (v := 5) (by decide) ?_
      refine j_callVi (st := []) C 6 [.int 5] (m_X2_moveTo C.wok h) cv_RX2_38 rk_X2_takeInPerson_X2_moveTo rfl (rc_6 w) rfl (Nat.le_of_ble_eq_true rfl) dX2_takeInPerson_15 (fun r12 S11 h => ?_)
      refine j_if_eq (tgt := 25) C dX2_takeInPerson_18 (by decide) (fun c13 => ?_) (fun c13 => ?_)
      · have h := And.left h c13
        refine j_iconst C dX2_takeInPerson_25 (v := 0) (by decide) ?_
        exact j_zret C dX2_takeInPerson_26 ⟨bz0, h⟩
      · have h := And.right h c13
        refine j_iconst C dX2_takeInPerson_21 (v := 1) (by decide) ?_
        refine j_goto (tgt := 26) C dX2_takeInPerson_22 (by decide) ?_
        exact j_zret C dX2_takeInPerson_26 ⟨bz1, h⟩
def rm_X2_takeWhom : Room := { frames := 1, cells := 0, slots := 0, locals := 21 }
theorem rk_X2_takeWhom_X2_moveTo : roomOk rm_X2_moveTo rm_X2_takeWhom 2 := ⟨⟨rfl, rfl⟩, Nat.le_of_ble_eq_true rfl, Nat.le_of_ble_eq_true rfl⟩
set_option maxRecDepth 20000 in
theorem m_X2_takeWhom {l : Launch} {w : Wt} (hw : WOK w) {x1 : Int32} {S : St} {Q0 : Int32 → St → Prop} (h : p_X2_takeWhom x1 S Q0) : MI l w yX2_takeWhom cX2_takeWhom 2 .boolean rm_X2_takeWhom [rr w 6, .int x1] S Q0 := by
  refine m_MI (own := RX2) (lv := [(0, rr w 6), (1, .int x1)]) hw (by decide) rfl (Nat.le_of_ble_eq_true rfl) rfl (fun X C => ?_)
  refine j_iload_n C dX2_takeWhom_0 1 rfl rfl ?_
  refine j_aload_n C dX2_takeWhom_1 0 rfl rfl ?_
  refine gf_RX2_28_6 C dX2_takeWhom_2 ?_
  refine j_icmp_le (tgt := 27) C dX2_takeWhom_5 (by decide) (fun c1 => ?_) (fun c1 => ?_)
  · have h := And.left h c1
    refine j_iconst C dX2_takeWhom_27 (v := 0) (by decide) ?_
    exact j_zret C dX2_takeWhom_28 ⟨bz0, h⟩
  · have h := And.right h c1
    refine j_iload_n C dX2_takeWhom_8 1 rfl rfl ?_
    refine j_aload_n C dX2_takeWhom_9 0 rfl rfl ?_
    refine gf_RX2_12_6 C dX2_takeWhom_10 ?_
    refine gf_RX2_31_7 C dX2_takeWhom_13 ?_
    refine j_icmp_ge (tgt := 27) C dX2_takeWhom_16 (by decide) (fun c2 => ?_) (fun c2 => ?_)
    · have h := And.left h c2
      refine j_iconst C dX2_takeWhom_27 (v := 0) (by decide) ?_
      exact j_zret C dX2_takeWhom_28 ⟨bz0, h⟩
    · have h := And.right h c2
      refine j_iload_n C dX2_takeWhom_19 1 rfl rfl ?_
      refine j_aload_n C dX2_takeWhom_20 0 rfl rfl ?_
      refine gf_RX2_25_6 C dX2_takeWhom_21 ?_
      refine j_icmp_ne (tgt := 29) C dX2_takeWhom_24 (by decide) (fun c3 => ?_) (fun c3 => ?_)
      · have h := And.left h c3
        refine j_aload_n C dX2_takeWhom_29 0 rfl rfl ?_
        refine gf_RX2_12_6 C dX2_takeWhom_30 ?_
        refine gf_RX2_79_7 C dX2_takeWhom_33 ?_
        refine j_aload_n C dX2_takeWhom_36 0 rfl rfl ?_
        refine gf_RX2_25_6 C dX2_takeWhom_37 ?_
        refine j_dup2 C dX2_takeWhom_40 rfl rfl ?_
        refine al_10 C dX2_takeWhom_41 (And.left h) ?_
        have h := And.right h
        refine j_iconst C dX2_takeWhom_42 (v := 1) (by decide) ?_
        refine j_iload_n C dX2_takeWhom_43 1 rfl rfl ?_
        refine j_ishl C dX2_takeWhom_44 ?_
        refine j_ior C dX2_takeWhom_45 ?_
        refine as_10 C dX2_takeWhom_46 (And.left h) (fun S4 eS4 => ?_)
        have h := And.right h S4 eS4
        refine j_aload_n C dX2_takeWhom_47 0 rfl rfl ?_
        refine j_iload_n C dX2_takeWhom_48 1 rfl rfl ?_
        refine pf_RX2_28_6 C dX2_takeWhom_49 (fun S5 eS5 => ?_)
        have h := h S5 eS5
        refine j_aload_n C dX2_takeWhom_52 0 rfl rfl ?_
        refine j_iconst C dX2_takeWhom_53 (v := 4) (by decide) ?_
        refine j_callVi (st := []) C 6 [.int 4] (m_X2_moveTo C.wok h) cv_RX2_38 rk_X2_takeWhom_X2_moveTo rfl (rc_6 w) rfl (Nat.le_of_ble_eq_true rfl) dX2_takeWhom_54 (fun r7 S6 h => ?_)
        exact j_zret C dX2_takeWhom_57 h
      · have h := And.right h c3
        refine j_iconst C dX2_takeWhom_27 (v := 0) (by decide) ?_
        exact j_zret C dX2_takeWhom_28 ⟨bz0, h⟩
def rm_X2_take : Room := { frames := 3, cells := 0, slots := 0, locals := 62 }
theorem rk_X2_take_X2_moveTo : roomOk rm_X2_moveTo rm_X2_take 2 := ⟨⟨rfl, rfl⟩, Nat.le_of_ble_eq_true rfl, Nat.le_of_ble_eq_true rfl⟩
theorem rk_X2_take_X2_takeBound : roomOk rm_X2_takeBound rm_X2_take 2 := ⟨⟨rfl, rfl⟩, Nat.le_of_ble_eq_true rfl, Nat.le_of_ble_eq_true rfl⟩
theorem rk_X2_take_X2_takeBoundsEnd : roomOk rm_X2_takeBoundsEnd rm_X2_take 2 := ⟨⟨rfl, rfl⟩, Nat.le_of_ble_eq_true rfl, Nat.le_of_ble_eq_true rfl⟩
theorem rk_X2_take_X2_takeCount : roomOk rm_X2_takeCount rm_X2_take 2 := ⟨⟨rfl, rfl⟩, Nat.le_of_ble_eq_true rfl, Nat.le_of_ble_eq_true rfl⟩
theorem rk_X2_take_X2_takeInPerson : roomOk rm_X2_takeInPerson rm_X2_take 2 := ⟨⟨rfl, rfl⟩, Nat.le_of_ble_eq_true rfl, Nat.le_of_ble_eq_true rfl⟩
theorem rk_X2_take_X2_takeKind : roomOk rm_X2_takeKind rm_X2_take 3 := ⟨⟨rfl, rfl⟩, Nat.le_of_ble_eq_true rfl, Nat.le_of_ble_eq_true rfl⟩
theorem rk_X2_take_X2_takeWhom : roomOk rm_X2_takeWhom rm_X2_take 2 := ⟨⟨rfl, rfl⟩, Nat.le_of_ble_eq_true rfl, Nat.le_of_ble_eq_true rfl⟩
set_option maxRecDepth 20000 in
theorem t_X2_take_88 {X : Mx} {w : Wt} {l0 : Launch} {Q0 : Int32 → St → Prop} (C : Cx X w l0 cX2_take 2 RX2 rm_X2_take (some .boolean)) {S : St} (h : p_X2_take_88 Q0 S) : J X w (QI X w Q0) 88 [] [] S := by
  refine j_iconst C dX2_take_88 (v := 1) (by decide) ?_
  refine j_goto (tgt := 93) C dX2_take_89 (by decide) ?_
  exact j_zret C dX2_take_93 ⟨bz1, h⟩
set_option maxRecDepth 20000 in
theorem t_X2_take_110 {X : Mx} {w : Wt} {l0 : Launch} {Q0 : Int32 → St → Prop} (C : Cx X w l0 cX2_take 2 RX2 rm_X2_take (some .boolean)) {S : St} (h : p_X2_take_110 Q0 S) : J X w (QI X w Q0) 110 [] [] S := by
  refine j_iconst C dX2_take_110 (v := 1) (by decide) ?_
  refine j_goto (tgt := 115) C dX2_take_111 (by decide) ?_
  exact j_zret C dX2_take_115 ⟨bz1, h⟩
set_option maxRecDepth 20000 in
theorem m_X2_take {l : Launch} {w : Wt} (hw : WOK w) {x1 : Int32} {S : St} {Q0 : Int32 → St → Prop} (h : p_X2_take x1 S Q0) : MI l w yX2_take cX2_take 2 .boolean rm_X2_take [rr w 6, .int x1] S Q0 := by
  refine m_MI (own := RX2) (lv := [(0, rr w 6), (1, .int x1)]) hw (by decide) rfl (Nat.le_of_ble_eq_true rfl) rfl (fun X C => ?_)
  refine j_aload_n C dX2_take_0 0 rfl rfl ?_
  refine gf_RX2_21_6 C dX2_take_1 ?_
  by_cases c1 : (S.1 6 1) = 0
  · have h := And.left h c1
    refine j_tableIn (tgt := 40) (off := 36) C dX2_take_4 (by rw [c1]; decide) (by rw [c1]; decide) (by rw [c1]; decide) (by decide) ?_
    refine j_aload_n C dX2_take_40 0 rfl rfl ?_
    refine j_iload_n C dX2_take_41 1 rfl rfl ?_
    refine j_bipush C dX2_take_42 (v := 48) (by decide) ?_
    refine j_isub C dX2_take_44 ?_
    refine j_callVi (st := []) C 6 [.int (x1 - 48)] (m_X2_takeCount C.wok h) cv_RX2_34 rk_X2_take_X2_takeCount rfl (rc_6 w) rfl (Nat.le_of_ble_eq_true rfl) dX2_take_45 (fun r3 S2 h => ?_)
    exact j_zret C dX2_take_48 h
  · have h := And.right h c1
    by_cases c4 : (S.1 6 1) = 1
    · have h := And.left h c4
      refine j_tableIn (tgt := 49) (off := 45) C dX2_take_4 (by rw [c4]; decide) (by rw [c4]; decide) (by rw [c4]; decide) (by decide) ?_
      refine j_iload_n C dX2_take_49 1 rfl rfl ?_
      refine j_bipush C dX2_take_50 (v := 58) (by decide) ?_
      refine j_icmp_ne (tgt := 67) C dX2_take_52 (by decide) (fun c5 => ?_) (fun c5 => ?_)
      · have h := And.left h c5
        refine j_iconst C dX2_take_67 (v := 0) (by decide) ?_
        exact j_zret C dX2_take_68 ⟨bz0, h⟩
      · have h := And.right h c5
        refine j_aload_n C dX2_take_55 0 rfl rfl ?_
        refine j_iconst C dX2_take_56 (v := 2) (by decide) ?_
        refine j_callVi (st := []) C 6 [.int 2] (m_X2_moveTo C.wok h) cv_RX2_38 rk_X2_take_X2_moveTo rfl (rc_6 w) rfl (Nat.le_of_ble_eq_true rfl) dX2_take_57 (fun r7 S6 h => ?_)
        refine j_if_eq (tgt := 67) C dX2_take_60 (by decide) (fun c8 => ?_) (fun c8 => ?_)
        · have h := And.left h c8
          refine j_iconst C dX2_take_67 (v := 0) (by decide) ?_
          exact j_zret C dX2_take_68 ⟨bz0, h⟩
        · have h := And.right h c8
          refine j_iconst C dX2_take_63 (v := 1) (by decide) ?_
          refine j_goto (tgt := 68) C dX2_take_64 (by decide) ?_
          exact j_zret C dX2_take_68 ⟨bz1, h⟩
    · have h := And.right h c4
      by_cases c9 : (S.1 6 1) = 2
      · have h := And.left h c9
        refine j_tableIn (tgt := 69) (off := 65) C dX2_take_4 (by rw [c9]; decide) (by rw [c9]; decide) (by rw [c9]; decide) (by decide) ?_
        refine j_aload_n C dX2_take_69 0 rfl rfl ?_
        refine j_iload_n C dX2_take_70 1 rfl rfl ?_
        refine j_callVi (st := []) C 6 [.int x1] (m_X2_takeBoundsEnd C.wok h) cv_RX2_41 rk_X2_take_X2_takeBoundsEnd rfl (rc_6 w) rfl (Nat.le_of_ble_eq_true rfl) dX2_take_71 (fun r11 S10 h => ?_)
        refine j_if_ne (tgt := 88) C dX2_take_74 (by decide) (fun c12 => ?_) (fun c12 => ?_)
        · have h := And.left h c12
          refine j_sub [] rfl ?_
          exact t_X2_take_88 C h
        · have h := And.right h c12
          refine j_aload_n C dX2_take_77 0 rfl rfl ?_
          refine j_iload_n C dX2_take_78 1 rfl rfl ?_
          refine j_bipush C dX2_take_79 (v := 48) (by decide) ?_
          refine j_isub C dX2_take_81 ?_
          refine j_callVi (st := []) C 6 [.int (x1 - 48)] (m_X2_takeBound C.wok h) cv_RX2_44 rk_X2_take_X2_takeBound rfl (rc_6 w) rfl (Nat.le_of_ble_eq_true rfl) dX2_take_82 (fun r14 S13 h => ?_)
          refine j_if_eq (tgt := 92) C dX2_take_85 (by decide) (fun c15 => ?_) (fun c15 => ?_)
          · have h := And.left h c15
            refine j_iconst C dX2_take_92 (v := 0) (by decide) ?_
            exact j_zret C dX2_take_93 ⟨bz0, h⟩
          · have h := And.right h c15
            refine j_sub [] rfl ?_
            exact t_X2_take_88 C h
      · have h := And.right h c9
        by_cases c16 : (S.1 6 1) = 3
        · have h := And.left h c16
          refine j_tableIn (tgt := 94) (off := 90) C dX2_take_4 (by rw [c16]; decide) (by rw [c16]; decide) (by rw [c16]; decide) (by decide) ?_
          refine j_aload_n C dX2_take_94 0 rfl rfl ?_
          refine j_iload_n C dX2_take_95 1 rfl rfl ?_
          refine j_callVi (st := []) C 6 [.int x1] (m_X2_takeKind C.wok h) cv_RX2_47 rk_X2_take_X2_takeKind rfl (rc_6 w) rfl (Nat.le_of_ble_eq_true rfl) dX2_take_96 (fun r18 S17 h => ?_)
          refine j_if_ne (tgt := 110) C dX2_take_99 (by decide) (fun c19 => ?_) (fun c19 => ?_)
          · have h := And.left h c19
            refine j_sub [] rfl ?_
            exact t_X2_take_110 C h
          · have h := And.right h c19
            refine j_aload_n C dX2_take_102 0 rfl rfl ?_
            refine j_iload_n C dX2_take_103 1 rfl rfl ?_
            refine j_callVi (st := []) C 6 [.int x1] (m_X2_takeInPerson C.wok h) cv_RX2_50 rk_X2_take_X2_takeInPerson rfl (rc_6 w) rfl (Nat.le_of_ble_eq_true rfl) dX2_take_104 (fun r21 S20 h => ?_)
            refine j_if_eq (tgt := 114) C dX2_take_107 (by decide) (fun c22 => ?_) (fun c22 => ?_)
            · have h := And.left h c22
              refine j_iconst C dX2_take_114 (v := 0) (by decide) ?_
              exact j_zret C dX2_take_115 ⟨bz0, h⟩
            · have h := And.right h c22
              refine j_sub [] rfl ?_
              exact t_X2_take_110 C h
        · have h := And.right h c16
          by_cases c23 : (S.1 6 1) = 4
          · have h := And.left h c23
            refine j_tableIn (tgt := 116) (off := 112) C dX2_take_4 (by rw [c23]; decide) (by rw [c23]; decide) (by rw [c23]; decide) (by decide) ?_
            refine j_aload_n C dX2_take_116 0 rfl rfl ?_
            refine j_iload_n C dX2_take_117 1 rfl rfl ?_
            refine j_callVi (st := []) C 6 [.int x1] (m_X2_takeInPerson C.wok h) cv_RX2_50 rk_X2_take_X2_takeInPerson rfl (rc_6 w) rfl (Nat.le_of_ble_eq_true rfl) dX2_take_118 (fun r25 S24 h => ?_)
            exact j_zret C dX2_take_121 h
          · have h := And.right h c23
            have nc1 := lv_neT (a := 0) c1 (by decide)
            have nc4 := lv_neT (a := 1) c4 (by decide)
            have nc9 := lv_neT (a := 2) c9 (by decide)
            have nc16 := lv_neT (a := 3) c16 (by decide)
            have nc23 := lv_neT (a := 4) c23 (by decide)
            refine j_tableOut (tgt := 122) C dX2_take_4 (by omega) (by decide) ?_
            refine j_aload_n C dX2_take_122 0 rfl rfl ?_
            refine j_iload_n C dX2_take_123 1 rfl rfl ?_
            refine j_bipush C dX2_take_124 (v := 48) (by decide) ?_
            refine j_isub C dX2_take_126 ?_
            refine j_callVi (st := []) C 6 [.int (x1 - 48)] (m_X2_takeWhom C.wok h) cv_RX2_53 rk_X2_take_X2_takeWhom rfl (rc_6 w) rfl (Nat.le_of_ble_eq_true rfl) dX2_take_127 (fun r27 S26 h => ?_)
            exact j_zret C dX2_take_130 h
def rm_X6_fault : Room := { frames := 4, cells := 0, slots := 0, locals := 83 }
theorem rk_X6_fault_X2_begin : roomOk rm_X2_begin rm_X6_fault 1 := ⟨⟨rfl, rfl⟩, Nat.le_of_ble_eq_true rfl, Nat.le_of_ble_eq_true rfl⟩
theorem rk_X6_fault_X2_take : roomOk rm_X2_take rm_X6_fault 2 := ⟨⟨rfl, rfl⟩, Nat.le_of_ble_eq_true rfl, Nat.le_of_ble_eq_true rfl⟩
set_option maxRecDepth 20000 in
theorem t_X6_fault_9 {X : Mx} {w : Wt} {l0 : Launch} {Q0 : Int32 → St → Prop} (C : Cx X w l0 cX6_fault 2 RX6 rm_X6_fault (some .int)) {x1 : Int32} {S : St} (h : Lq (p_X6_fault_9 Q0) (x1, S)) : J X w (QI X w Q0) 9 [(0, rr w 0), (1, .int x1)] [] S := by
  have key : ∀ a : Int32 × St, Lq (p_X6_fault_9 Q0) a → J X w (QI X w Q0) 9 [(0, rr w 0), (1, .int a.1)] [] a.2 := by
    intro a ha
    refine Lq_use (G := fun a => J X w (QI X w Q0) 9 [(0, rr w 0), (1, .int a.1)] [] a.2) ?_ ha
    intro K9 hK a h
    obtain ⟨x1, S⟩ := a
    have hK9 : ∀ (x1 : Int32) (S : St), K9 (x1, S) → J X w (QI X w Q0) 9 [(0, rr w 0), (1, .int x1)] [] S := fun x1 S h => hK (x1, S) h
    show J X w (QI X w Q0) 9 [(0, rr w 0), (1, .int x1)] [] S
    refine j_iload_n C dX6_fault_9 1 rfl rfl ?_
    refine j_aload_n C dX6_fault_10 0 rfl rfl ?_
    refine gf_RX6_53_0 C dX6_fault_11 ?_
    refine j_icmp_ge (tgt := 41) C dX6_fault_14 (by decide) (fun c2 => ?_) (fun c2 => ?_)
    · have h := And.left h c2
      refine j_aload_n C dX6_fault_41 0 rfl rfl ?_
      refine gf_RX6_53_0 C dX6_fault_42 ?_
      exact j_iret C dX6_fault_45 h
    · have h := And.right h c2
      refine j_aload_n C dX6_fault_17 0 rfl rfl ?_
      refine gf_RX6_23_0 C dX6_fault_18 ?_
      refine j_aload_n C dX6_fault_21 0 rfl rfl ?_
      refine gf_RX6_9_0 C dX6_fault_22 ?_
      refine j_iload_n C dX6_fault_25 1 rfl rfl ?_
      refine al_1 C dX6_fault_26 (And.left h) ?_
      have h := And.right h
      refine j_callVi (st := []) C 6 [.int (S.1 1 x1.toNatClampNeg)] (m_X2_take C.wok h) cv_RX6_60 rk_X6_fault_X2_take rfl (rc_6 w) rfl (Nat.le_of_ble_eq_true rfl) dX6_fault_27 (fun r4 S3 h => ?_)
      refine j_if_ne (tgt := 35) C dX6_fault_30 (by decide) (fun c5 => ?_) (fun c5 => ?_)
      · have h := And.left h c5
        refine j_iinc (lv' := [(1, .int (x1 + 1)), (0, rr w 0)]) C dX6_fault_35 1 rfl rfl (by decide) rfl ?_
        refine j_goto (tgt := 9) C dX6_fault_38 (by decide) ?_
        refine j_sub [1, 0] rfl ?_
        exact hK9 _ _ h
      · have h := And.right h c5
        refine j_iload_n C dX6_fault_33 1 rfl rfl ?_
        exact j_iret C dX6_fault_34 h
  exact key (x1, S) h
set_option maxRecDepth 20000 in
theorem m_X6_fault {l : Launch} {w : Wt} (hw : WOK w) {S : St} {Q0 : Int32 → St → Prop} (h : p_X6_fault S Q0) : MI l w yX6_fault cX6_fault 2 .int rm_X6_fault [rr w 0] S Q0 := by
  refine m_MI (own := RX6) (lv := [(0, rr w 0)]) hw (by decide) rfl (Nat.le_of_ble_eq_true rfl) rfl (fun X C => ?_)
  refine j_aload_n C dX6_fault_0 0 rfl rfl ?_
  refine gf_RX6_23_0 C dX6_fault_1 ?_
  refine j_callVv (st := []) C 6 [] (m_X2_begin C.wok h) cv_RX6_57 rk_X6_fault_X2_begin rfl (rc_6 w) rfl (Nat.le_of_ble_eq_true rfl) dX6_fault_4 (fun S1 h => ?_)
  refine j_iconst C dX6_fault_7 (v := 0) (by decide) ?_
  refine j_istore_n (lv' := [(1, .int 0), (0, rr w 0)]) C dX6_fault_8 rfl (by decide) rfl ?_
  refine j_sub [1, 0] rfl ?_
  exact t_X6_fault_9 C h
def rm_X7_beginPerson : Room := { frames := 0, cells := 0, slots := 0, locals := 0 }
set_option maxRecDepth 20000 in
theorem m_X7_beginPerson {l : Launch} {w : Wt} (hw : WOK w) {x1 : Int32} {S : St} {Q0 : St → Prop} (h : p_X7_beginPerson x1 S Q0) : MV l w yX7_beginPerson cX7_beginPerson 2 rm_X7_beginPerson [rr w 25, .int x1] S Q0 := by
  refine m_MV (own := RX7) (lv := [(0, rr w 25), (1, .int x1)]) hw (by decide) rfl (Nat.le_of_ble_eq_true rfl) rfl (fun X C => ?_)
  refine j_aload_n C dX7_beginPerson_0 0 rfl rfl ?_
  refine j_iload_n C dX7_beginPerson_1 1 rfl rfl ?_
  refine pf_RX7_64_25 C dX7_beginPerson_2 (fun S1 eS1 => ?_)
  have h := h S1 eS1
  refine j_aload_n C dX7_beginPerson_5 0 rfl rfl ?_
  refine j_iconst C dX7_beginPerson_6 (v := (-1)) (by decide) ?_
  refine pf_RX7_58_25 C dX7_beginPerson_7 (fun S2 eS2 => ?_)
  have h := h S2 eS2
  refine j_aload_n C dX7_beginPerson_10 0 rfl rfl ?_
  refine j_iconst C dX7_beginPerson_11 (v := 3) (by decide) ?_
  refine pf_RX7_75_25 C dX7_beginPerson_12 (fun S3 eS3 => ?_)
  have h := h S3 eS3
  refine j_aload_n C dX7_beginPerson_15 0 rfl rfl ?_
  refine gf_RX7_25_25 C dX7_beginPerson_16 ?_
  refine j_iload_n C dX7_beginPerson_19 1 rfl rfl ?_
  refine j_iconst C dX7_beginPerson_20 (v := 0) (by decide) ?_
  refine as_31 C dX7_beginPerson_21 (And.left h) (fun S4 eS4 => ?_)
  have h := And.right h S4 eS4
  refine j_aload_n C dX7_beginPerson_22 0 rfl rfl ?_
  refine gf_RX7_28_25 C dX7_beginPerson_23 ?_
  refine j_iload_n C dX7_beginPerson_26 1 rfl rfl ?_
  refine j_iconst C dX7_beginPerson_27 (v := 0) (by decide) ?_
  refine as_32 C dX7_beginPerson_28 (And.left h) (fun S5 eS5 => ?_)
  have h := And.right h S5 eS5
  exact j_vret C dX7_beginPerson_29 h
def rm_X7_takesBounds : Room := { frames := 1, cells := 0, slots := 0, locals := 22 }
theorem rk_X7_takesBounds_X7_beginPerson : roomOk rm_X7_beginPerson rm_X7_takesBounds 2 := ⟨⟨rfl, rfl⟩, Nat.le_of_ble_eq_true rfl, Nat.le_of_ble_eq_true rfl⟩
theorem rk_X7_takesBounds_X7_within : roomOk rm_X7_within rm_X7_takesBounds 3 := ⟨⟨rfl, rfl⟩, Nat.le_of_ble_eq_true rfl, Nat.le_of_ble_eq_true rfl⟩
set_option maxRecDepth 20000 in
theorem t_X7_takesBounds_44 {X : Mx} {w : Wt} {l0 : Launch} {Q0 : Int32 → St → Prop} (C : Cx X w l0 cX7_takesBounds 3 RX7 rm_X7_takesBounds (some .boolean)) {x1 : Int32} {t0 : Int32} {S : St} (h : p_X7_takesBounds_44 Q0 x1 t0 S) : J X w (QI X w Q0) 44 [(0, rr w 25), (1, .int x1)] [.int t0] S := by
  refine j_istore_n (lv' := [(2, .int t0), (0, rr w 25), (1, .int x1)]) C dX7_takesBounds_44 rfl (by decide) rfl ?_
  refine j_iload_n C dX7_takesBounds_45 0 rfl rfl ?_
  refine j_if_eq (tgt := 72) C dX7_takesBounds_46 (by decide) (fun c5 => ?_) (fun c5 => ?_)
  · have h := And.left h c5
    refine j_iload_n C dX7_takesBounds_72 0 rfl rfl ?_
    exact j_zret C dX7_takesBounds_73 h
  · have h := And.right h c5
    refine j_aload_n C dX7_takesBounds_49 1 rfl rfl ?_
    refine gf_RX7_22_25 C dX7_takesBounds_50 ?_
    refine j_aload_n C dX7_takesBounds_53 1 rfl rfl ?_
    refine gf_RX7_78_25 C dX7_takesBounds_54 ?_
    refine j_iload_n C dX7_takesBounds_57 2 rfl rfl ?_
    refine j_bipush C dX7_takesBounds_58 (v := 48) (by decide) ?_
    refine j_isub C dX7_takesBounds_60 ?_
    refine as_30 C dX7_takesBounds_61 (And.left h) (fun S6 eS6 => ?_)
    have h := And.right h S6 eS6
    refine j_aload_n C dX7_takesBounds_62 1 rfl rfl ?_
    refine j_dup C dX7_takesBounds_63 rfl ?_
    refine gf_RX7_78_25 C dX7_takesBounds_64 ?_
    refine j_iconst C dX7_takesBounds_67 (v := 1) (by decide) ?_
    refine j_iadd C dX7_takesBounds_68 ?_
    refine pf_RX7_78_25 C dX7_takesBounds_69 (fun S7 eS7 => ?_)
    have h := h S7 eS7
    refine j_iload_n C dX7_takesBounds_72 0 rfl rfl ?_
    exact j_zret C dX7_takesBounds_73 h
set_option maxRecDepth 20000 in
theorem t_X7_takesBounds_43 {X : Mx} {w : Wt} {l0 : Launch} {Q0 : Int32 → St → Prop} (C : Cx X w l0 cX7_takesBounds 3 RX7 rm_X7_takesBounds (some .boolean)) {x1 : Int32} {S : St} (h : p_X7_takesBounds_43 Q0 x1 S) : J X w (QI X w Q0) 43 [(0, rr w 25), (1, .int x1)] [] S := by
  refine j_iconst C dX7_takesBounds_43 (v := 0) (by decide) ?_
  exact t_X7_takesBounds_44 C h
set_option maxRecDepth 20000 in
theorem t_X7_takesBounds_20 {X : Mx} {w : Wt} {l0 : Launch} {Q0 : Int32 → St → Prop} (C : Cx X w l0 cX7_takesBounds 3 RX7 rm_X7_takesBounds (some .boolean)) {x1 : Int32} {S : St} (h : p_X7_takesBounds_20 Q0 x1 S) : J X w (QI X w Q0) 20 [(0, rr w 25), (1, .int x1)] [] S := by
  refine j_iload_n C dX7_takesBounds_20 1 rfl rfl ?_
  refine j_bipush C dX7_takesBounds_21 (v := 48) (by decide) ?_
  refine j_bipush C dX7_takesBounds_23 (v := 57) (by decide) ?_
  refine j_callSi (st := []) C [.int x1, .int 48, .int 57] (m_X7_within C.wok h) cv_RX7_50 rk_X7_takesBounds_X7_within rfl rfl (Nat.le_of_ble_eq_true rfl) dX7_takesBounds_25 (fun r3 S2 h => ?_)
  refine j_if_eq (tgt := 43) C dX7_takesBounds_28 (by decide) (fun c4 => ?_) (fun c4 => ?_)
  · have h := And.left h c4
    exact t_X7_takesBounds_43 C h
  · have h := And.right h c4
    refine j_aload_n C dX7_takesBounds_31 0 rfl rfl ?_
    refine gf_RX7_78_25 C dX7_takesBounds_32 ?_
    refine j_iconst C dX7_takesBounds_35 (v := 5) (by decide) ?_
    refine j_icmp_ge (tgt := 43) C dX7_takesBounds_36 (by decide) (fun c8 => ?_) (fun c8 => ?_)
    · have h := And.left h c8
      exact t_X7_takesBounds_43 C h
    · have h := And.right h c8
      refine j_iconst C dX7_takesBounds_39 (v := 1) (by decide) ?_
      refine j_goto (tgt := 44) C dX7_takesBounds_40 (by decide) ?_
      exact t_X7_takesBounds_44 C h
set_option maxRecDepth 20000 in
theorem m_X7_takesBounds {l : Launch} {w : Wt} (hw : WOK w) {x1 : Int32} {S : St} {Q0 : Int32 → St → Prop} (h : p_X7_takesBounds x1 S Q0) : MI l w yX7_takesBounds cX7_takesBounds 3 .boolean rm_X7_takesBounds [rr w 25, .int x1] S Q0 := by
  refine m_MI (own := RX7) (lv := [(0, rr w 25), (1, .int x1)]) hw (by decide) rfl (Nat.le_of_ble_eq_true rfl) rfl (fun X C => ?_)
  refine j_iload_n C dX7_takesBounds_0 1 rfl rfl ?_
  refine j_bipush C dX7_takesBounds_1 (v := 58) (by decide) ?_
  refine j_icmp_ne (tgt := 20) C dX7_takesBounds_3 (by decide) (fun c1 => ?_) (fun c1 => ?_)
  · have h := And.left h c1
    exact t_X7_takesBounds_20 C h
  · have h := And.right h c1
    refine j_aload_n C dX7_takesBounds_6 0 rfl rfl ?_
    refine gf_RX7_78_25 C dX7_takesBounds_7 ?_
    refine j_if_le (tgt := 20) C dX7_takesBounds_10 (by decide) (fun c9 => ?_) (fun c9 => ?_)
    · have h := And.left h c9
      exact t_X7_takesBounds_20 C h
    · have h := And.right h c9
      refine j_aload_n C dX7_takesBounds_13 0 rfl rfl ?_
      refine j_iconst C dX7_takesBounds_14 (v := 0) (by decide) ?_
      refine j_callVv (st := []) C 25 [.int 0] (m_X7_beginPerson C.wok h) cv_RX7_81 rk_X7_takesBounds_X7_beginPerson rfl (rc_25 w) rfl (Nat.le_of_ble_eq_true rfl) dX7_takesBounds_15 (fun S10 h => ?_)
      refine j_iconst C dX7_takesBounds_18 (v := 1) (by decide) ?_
      exact j_zret C dX7_takesBounds_19 ⟨bz1, h⟩
def rm_X7_takesKind : Room := { frames := 0, cells := 0, slots := 0, locals := 0 }
set_option maxRecDepth 20000 in
theorem t_X7_takesKind_56 {X : Mx} {w : Wt} {l0 : Launch} {Q0 : Int32 → St → Prop} (C : Cx X w l0 cX7_takesKind 3 RX7 rm_X7_takesKind (some .boolean)) {x2 : Int32} {t0 : Int32} {t1 : Int32} {S : St} (h : p_X7_takesKind_56 Q0 x2 t0 t1 S) : J X w (QI X w Q0) 56 [(0, rr w 25), (2, .int x2)] [.int t0, .int t1, rr w 25] S := by
  refine j_iadd C dX7_takesKind_56 ?_
  refine pf_RX7_85_25 C dX7_takesKind_57 (fun S5 eS5 => ?_)
  have h := h S5 eS5
  refine j_aload_n C dX7_takesKind_60 0 rfl rfl ?_
  refine j_iconst C dX7_takesKind_61 (v := 4) (by decide) ?_
  refine pf_RX7_75_25 C dX7_takesKind_62 (fun S6 eS6 => ?_)
  have h := h S6 eS6
  refine j_iload_n C dX7_takesKind_65 1 rfl rfl ?_
  exact j_zret C dX7_takesKind_66 h
set_option maxRecDepth 20000 in
theorem t_X7_takesKind_26 {X : Mx} {w : Wt} {l0 : Launch} {Q0 : Int32 → St → Prop} (C : Cx X w l0 cX7_takesKind 3 RX7 rm_X7_takesKind (some .boolean)) {x1 : Int32} {t0 : Int32} {S : St} (h : p_X7_takesKind_26 Q0 x1 t0 S) : J X w (QI X w Q0) 26 [(0, rr w 25), (1, .int x1)] [.int t0] S := by
  refine j_istore_n (lv' := [(2, .int t0), (0, rr w 25), (1, .int x1)]) C dX7_takesKind_26 rfl (by decide) rfl ?_
  refine j_iload_n C dX7_takesKind_27 0 rfl rfl ?_
  refine j_if_eq (tgt := 65) C dX7_takesKind_28 (by decide) (fun c2 => ?_) (fun c2 => ?_)
  · have h := And.left h c2
    refine j_iload_n C dX7_takesKind_65 0 rfl rfl ?_
    exact j_zret C dX7_takesKind_66 h
  · have h := And.right h c2
    refine j_aload_n C dX7_takesKind_31 1 rfl rfl ?_
    refine gf_RX7_25_25 C dX7_takesKind_32 ?_
    refine j_aload_n C dX7_takesKind_35 1 rfl rfl ?_
    refine gf_RX7_64_25 C dX7_takesKind_36 ?_
    refine j_iload_n C dX7_takesKind_39 2 rfl rfl ?_
    refine as_31 C dX7_takesKind_40 (And.left h) (fun S3 eS3 => ?_)
    have h := And.right h S3 eS3
    refine j_aload_n C dX7_takesKind_41 1 rfl rfl ?_
    refine j_dup C dX7_takesKind_42 rfl ?_
    refine gf_RX7_85_25 C dX7_takesKind_43 ?_
    refine j_iload_n C dX7_takesKind_46 2 rfl rfl ?_
    refine j_iconst C dX7_takesKind_47 (v := 1) (by decide) ?_
    refine j_icmp_ne (tgt := 55) C dX7_takesKind_48 (by decide) (fun c4 => ?_) (fun c4 => ?_)
    · have h := And.left h c4
      refine j_iconst C dX7_takesKind_55 (v := 0) (by decide) ?_
      refine j_sub [1, 0] rfl ?_
      exact t_X7_takesKind_56 C h
    · have h := And.right h c4
      refine j_iconst C dX7_takesKind_51 (v := 1) (by decide) ?_
      refine j_goto (tgt := 56) C dX7_takesKind_52 (by decide) ?_
      refine j_sub [1, 0] rfl ?_
      exact t_X7_takesKind_56 C h
set_option maxRecDepth 20000 in
theorem t_X7_takesKind_25 {X : Mx} {w : Wt} {l0 : Launch} {Q0 : Int32 → St → Prop} (C : Cx X w l0 cX7_takesKind 3 RX7 rm_X7_takesKind (some .boolean)) {x1 : Int32} {S : St} (h : p_X7_takesKind_25 Q0 x1 S) : J X w (QI X w Q0) 25 [(0, rr w 25), (1, .int x1)] [] S := by
  refine j_iconst C dX7_takesKind_25 (v := 0) (by decide) ?_
  exact t_X7_takesKind_26 C h
set_option maxRecDepth 20000 in
theorem t_X7_takesKind_21 {X : Mx} {w : Wt} {l0 : Launch} {Q0 : Int32 → St → Prop} (C : Cx X w l0 cX7_takesKind 3 RX7 rm_X7_takesKind (some .boolean)) {x1 : Int32} {S : St} (h : p_X7_takesKind_21 Q0 x1 S) : J X w (QI X w Q0) 21 [(0, rr w 25), (1, .int x1)] [] S := by
  refine j_iconst C dX7_takesKind_21 (v := 1) (by decide) ?_
  refine j_goto (tgt := 26) C dX7_takesKind_22 (by decide) ?_
  exact t_X7_takesKind_26 C h
set_option maxRecDepth 20000 in
theorem m_X7_takesKind {l : Launch} {w : Wt} (hw : WOK w) {x1 : Int32} {S : St} {Q0 : Int32 → St → Prop} (h : p_X7_takesKind x1 S Q0) : MI l w yX7_takesKind cX7_takesKind 3 .boolean rm_X7_takesKind [rr w 25, .int x1] S Q0 := by
  refine m_MI (own := RX7) (lv := [(0, rr w 25), (1, .int x1)]) hw (by decide) rfl (Nat.le_of_ble_eq_true rfl) rfl (fun X C => ?_)
  refine j_aload_n C dX7_takesKind_0 0 rfl rfl ?_
  refine gf_RX7_75_25 C dX7_takesKind_1 ?_
  refine j_iconst C dX7_takesKind_4 (v := 3) (by decide) ?_
  refine j_icmp_ne (tgt := 25) C dX7_takesKind_5 (by decide) (fun c1 => ?_) (fun c1 => ?_)
  · have h := And.left h c1
    exact t_X7_takesKind_25 C h
  · have h := And.right h c1
    refine j_iload_n C dX7_takesKind_8 1 rfl rfl ?_
    refine j_iconst C dX7_takesKind_9 (v := 1) (by decide) ?_
    refine j_icmp_ne (tgt := 21) C dX7_takesKind_10 (by decide) (fun c7 => ?_) (fun c7 => ?_)
    · have h := And.left h c7
      exact t_X7_takesKind_21 C h
    · have h := And.right h c7
      refine j_aload_n C dX7_takesKind_13 0 rfl rfl ?_
      refine gf_RX7_85_25 C dX7_takesKind_14 ?_
      refine j_iconst C dX7_takesKind_17 (v := 5) (by decide) ?_
      refine j_icmp_ge (tgt := 25) C dX7_takesKind_18 (by decide) (fun c8 => ?_) (fun c8 => ?_)
      · have h := And.left h c8
        exact t_X7_takesKind_25 C h
      · have h := And.right h c8
        exact t_X7_takesKind_21 C h
def rm_X7_size : Room := { frames := 0, cells := 0, slots := 0, locals := 0 }
set_option maxRecDepth 20000 in
theorem t_X7_size_4 {X : Mx} {w : Wt} {l0 : Launch} {Q0 : Int32 → St → Prop} (C : Cx X w l0 cX7_size 3 RX7 rm_X7_size (some .int)) {x0 : Int32} {x1 : Int32} {x2 : Int32} {S : St} (h : Lq (p_X7_size_4 Q0) (x0, x1, x2, S)) : J X w (QI X w Q0) 4 [(0, .int x0), (1, .int x1), (2, .int x2)] [] S := by
  have key : ∀ a : Int32 × Int32 × Int32 × St, Lq (p_X7_size_4 Q0) a → J X w (QI X w Q0) 4 [(0, .int a.1), (1, .int a.2.1), (2, .int a.2.2.1)] [] a.2.2.2 := by
    intro a ha
    refine Lq_use (G := fun a => J X w (QI X w Q0) 4 [(0, .int a.1), (1, .int a.2.1), (2, .int a.2.2.1)] [] a.2.2.2) ?_ ha
    intro K4 hK a h
    obtain ⟨x0, x1, x2, S⟩ := a
    have hK4 : ∀ (x0 : Int32) (x1 : Int32) (x2 : Int32) (S : St), K4 (x0, x1, x2, S) → J X w (QI X w Q0) 4 [(0, .int x0), (1, .int x1), (2, .int x2)] [] S := fun x0 x1 x2 S h => hK (x0, x1, x2, S) h
    show J X w (QI X w Q0) 4 [(0, .int x0), (1, .int x1), (2, .int x2)] [] S
    refine j_iload_n C dX7_size_4 2 rfl rfl ?_
    refine j_bipush C dX7_size_5 (v := 9) (by decide) ?_
    refine j_icmp_ge (tgt := 24) C dX7_size_7 (by decide) (fun c1 => ?_) (fun c1 => ?_)
    · have h := And.left h c1
      refine j_iload_n C dX7_size_24 1 rfl rfl ?_
      exact j_iret C dX7_size_25 h
    · have h := And.right h c1
      refine j_iload_n C dX7_size_10 1 rfl rfl ?_
      refine j_iload_n C dX7_size_11 0 rfl rfl ?_
      refine j_iload_n C dX7_size_12 2 rfl rfl ?_
      refine j_ishr C dX7_size_13 ?_
      refine j_iconst C dX7_size_14 (v := 1) (by decide) ?_
      refine j_iand C dX7_size_15 ?_
      refine j_iadd C dX7_size_16 ?_
      refine j_istore_n (lv' := [(1, .int (x1 + ((x0 >>> (x2 &&& 31)) &&& 1))), (0, .int x0), (2, .int x2)]) C dX7_size_17 rfl (by decide) rfl ?_
      refine j_iinc (lv' := [(2, .int (x2 + 1)), (1, .int (x1 + ((x0 >>> (x2 &&& 31)) &&& 1))), (0, .int x0)]) C dX7_size_18 2 rfl rfl (by decide) rfl ?_
      refine j_goto (tgt := 4) C dX7_size_21 (by decide) ?_
      refine j_sub [2, 1, 0] rfl ?_
      exact hK4 _ _ _ _ h
  exact key (x0, x1, x2, S) h
set_option maxRecDepth 20000 in
theorem m_X7_size {l : Launch} {w : Wt} (hw : WOK w) {x0 : Int32} {S : St} {Q0 : Int32 → St → Prop} (h : p_X7_size x0 S Q0) : MI l w yX7_size cX7_size 3 .int rm_X7_size [.int x0] S Q0 := by
  refine m_MI (own := RX7) (lv := [(0, .int x0)]) hw (by decide) rfl (Nat.le_of_ble_eq_true rfl) rfl (fun X C => ?_)
  refine j_iconst C dX7_size_0 (v := 0) (by decide) ?_
  refine j_istore_n (lv' := [(1, .int 0), (0, .int x0)]) C dX7_size_1 rfl (by decide) rfl ?_
  refine j_iconst C dX7_size_2 (v := 0) (by decide) ?_
  refine j_istore_n (lv' := [(2, .int 0), (1, .int 0), (0, .int x0)]) C dX7_size_3 rfl (by decide) rfl ?_
  refine j_sub [2, 1, 0] rfl ?_
  exact t_X7_size_4 C h
def rm_X7_canVouch : Room := { frames := 0, cells := 0, slots := 0, locals := 0 }
set_option maxRecDepth 20000 in
theorem m_X7_canVouch {l : Launch} {w : Wt} (hw : WOK w) {x1 : Int32} {S : St} {Q0 : Int32 → St → Prop} (h : p_X7_canVouch x1 S Q0) : MI l w yX7_canVouch cX7_canVouch 2 .boolean rm_X7_canVouch [rr w 25, .int x1] S Q0 := by
  refine m_MI (own := RX7) (lv := [(0, rr w 25), (1, .int x1)]) hw (by decide) rfl (Nat.le_of_ble_eq_true rfl) rfl (fun X C => ?_)
  refine j_iload_n C dX7_canVouch_0 1 rfl rfl ?_
  refine j_aload_n C dX7_canVouch_1 0 rfl rfl ?_
  refine gf_RX7_58_25 C dX7_canVouch_2 ?_
  refine j_icmp_le (tgt := 28) C dX7_canVouch_5 (by decide) (fun c1 => ?_) (fun c1 => ?_)
  · have h := And.left h c1
    refine j_iconst C dX7_canVouch_28 (v := 0) (by decide) ?_
    exact j_zret C dX7_canVouch_29 ⟨bz0, h⟩
  · have h := And.right h c1
    refine j_iload_n C dX7_canVouch_8 1 rfl rfl ?_
    refine j_aload_n C dX7_canVouch_9 0 rfl rfl ?_
    refine gf_RX7_61_25 C dX7_canVouch_10 ?_
    refine j_icmp_ge (tgt := 28) C dX7_canVouch_13 (by decide) (fun c2 => ?_) (fun c2 => ?_)
    · have h := And.left h c2
      refine j_iconst C dX7_canVouch_28 (v := 0) (by decide) ?_
      exact j_zret C dX7_canVouch_29 ⟨bz0, h⟩
    · have h := And.right h c2
      refine j_iload_n C dX7_canVouch_16 1 rfl rfl ?_
      refine j_aload_n C dX7_canVouch_17 0 rfl rfl ?_
      refine gf_RX7_64_25 C dX7_canVouch_18 ?_
      refine j_icmp_eq (tgt := 28) C dX7_canVouch_21 (by decide) (fun c3 => ?_) (fun c3 => ?_)
      · have h := And.left h c3
        refine j_iconst C dX7_canVouch_28 (v := 0) (by decide) ?_
        exact j_zret C dX7_canVouch_29 ⟨bz0, h⟩
      · have h := And.right h c3
        refine j_iconst C dX7_canVouch_24 (v := 1) (by decide) ?_
        refine j_goto (tgt := 29) C dX7_canVouch_25 (by decide) ?_
        exact j_zret C dX7_canVouch_29 ⟨bz1, h⟩
def rm_X7_canBegin : Room := { frames := 1, cells := 0, slots := 0, locals := 22 }
theorem rk_X7_canBegin_X7_canVouch : roomOk rm_X7_canVouch rm_X7_canBegin 2 := ⟨⟨rfl, rfl⟩, Nat.le_of_ble_eq_true rfl, Nat.le_of_ble_eq_true rfl⟩
theorem rk_X7_canBegin_X7_size : roomOk rm_X7_size rm_X7_canBegin 3 := ⟨⟨rfl, rfl⟩, Nat.le_of_ble_eq_true rfl, Nat.le_of_ble_eq_true rfl⟩
set_option maxRecDepth 20000 in
theorem t_X7_canBegin_27 {X : Mx} {w : Wt} {l0 : Launch} {Q0 : Int32 → St → Prop} {K4 : Int32 × Int32 × St → Prop} (C : Cx X w l0 cX7_canBegin 3 RX7 rm_X7_canBegin (some .boolean)) (hK4 : ∀ (x1 : Int32) (x2 : Int32) (S : St), K4 (x1, x2, S) → J X w (QI X w Q0) 4 [(0, rr w 25), (1, .int x1), (2, .int x2)] [] S) {x2 : Int32} {t0 : Int32} {S : St} (h : p_X7_canBegin_27 Q0 K4 x2 t0 S) : J X w (QI X w Q0) 27 [(0, rr w 25), (2, .int x2)] [.int t0] S := by
  refine j_istore_n (lv' := [(1, .int t0), (0, rr w 25), (2, .int x2)]) C dX7_canBegin_27 rfl (by decide) rfl ?_
  refine j_iinc (lv' := [(2, .int (x2 + 1)), (1, .int t0), (0, rr w 25)]) C dX7_canBegin_28 2 rfl rfl (by decide) rfl ?_
  refine j_goto (tgt := 4) C dX7_canBegin_31 (by decide) ?_
  refine j_sub [2, 1, 0] rfl ?_
  exact hK4 _ _ _ h
set_option maxRecDepth 20000 in
theorem t_X7_canBegin_22 {X : Mx} {w : Wt} {l0 : Launch} {Q0 : Int32 → St → Prop} {K4 : Int32 × Int32 × St → Prop} (C : Cx X w l0 cX7_canBegin 3 RX7 rm_X7_canBegin (some .boolean)) (hK4 : ∀ (x1 : Int32) (x2 : Int32) (S : St), K4 (x1, x2, S) → J X w (QI X w Q0) 4 [(0, rr w 25), (1, .int x1), (2, .int x2)] [] S) {x2 : Int32} {S : St} (h : p_X7_canBegin_22 Q0 K4 x2 S) : J X w (QI X w Q0) 22 [(0, rr w 25), (2, .int x2)] [] S := by
  refine j_iconst C dX7_canBegin_22 (v := 1) (by decide) ?_
  refine j_goto (tgt := 27) C dX7_canBegin_23 (by decide) ?_
  exact t_X7_canBegin_27 C hK4 h
set_option maxRecDepth 20000 in
theorem t_X7_canBegin_4 {X : Mx} {w : Wt} {l0 : Launch} {Q0 : Int32 → St → Prop} (C : Cx X w l0 cX7_canBegin 3 RX7 rm_X7_canBegin (some .boolean)) {x1 : Int32} {x2 : Int32} {S : St} (h : Lq (p_X7_canBegin_4 Q0) (x1, x2, S)) : J X w (QI X w Q0) 4 [(0, rr w 25), (1, .int x1), (2, .int x2)] [] S := by
  have key : ∀ a : Int32 × Int32 × St, Lq (p_X7_canBegin_4 Q0) a → J X w (QI X w Q0) 4 [(0, rr w 25), (1, .int a.1), (2, .int a.2.1)] [] a.2.2 := by
    intro a ha
    refine Lq_use (G := fun a => J X w (QI X w Q0) 4 [(0, rr w 25), (1, .int a.1), (2, .int a.2.1)] [] a.2.2) ?_ ha
    intro K4 hK a h
    obtain ⟨x1, x2, S⟩ := a
    have hK4 : ∀ (x1 : Int32) (x2 : Int32) (S : St), K4 (x1, x2, S) → J X w (QI X w Q0) 4 [(0, rr w 25), (1, .int x1), (2, .int x2)] [] S := fun x1 x2 S h => hK (x1, x2, S) h
    show J X w (QI X w Q0) 4 [(0, rr w 25), (1, .int x1), (2, .int x2)] [] S
    refine j_iload_n C dX7_canBegin_4 2 rfl rfl ?_
    refine j_bipush C dX7_canBegin_5 (v := 9) (by decide) ?_
    refine j_icmp_ge (tgt := 34) C dX7_canBegin_7 (by decide) (fun c1 => ?_) (fun c1 => ?_)
    · have h := And.left h c1
      refine j_iload_n C dX7_canBegin_34 1 rfl rfl ?_
      refine j_if_eq (tgt := 58) C dX7_canBegin_35 (by decide) (fun c2 => ?_) (fun c2 => ?_)
      · have h := And.left h c2
        refine j_iconst C dX7_canBegin_58 (v := 0) (by decide) ?_
        exact j_zret C dX7_canBegin_59 ⟨bz0, h⟩
      · have h := And.right h c2
        refine j_aload_n C dX7_canBegin_38 0 rfl rfl ?_
        refine gf_RX7_28_25 C dX7_canBegin_39 ?_
        refine j_aload_n C dX7_canBegin_42 0 rfl rfl ?_
        refine gf_RX7_64_25 C dX7_canBegin_43 ?_
        refine al_32 C dX7_canBegin_46 (And.left h) ?_
        have h := And.right h
        refine j_callSi (st := []) C [.int (S.1 32 (S.1 25 14).toNatClampNeg)] (m_X7_size C.wok h) cv_RX7_71 rk_X7_canBegin_X7_size rfl rfl (Nat.le_of_ble_eq_true rfl) dX7_canBegin_47 (fun r4 S3 h => ?_)
        refine j_iconst C dX7_canBegin_50 (v := 5) (by decide) ?_
        refine j_icmp_ge (tgt := 58) C dX7_canBegin_51 (by decide) (fun c5 => ?_) (fun c5 => ?_)
        · have h := And.left h c5
          refine j_iconst C dX7_canBegin_58 (v := 0) (by decide) ?_
          exact j_zret C dX7_canBegin_59 ⟨bz0, h⟩
        · have h := And.right h c5
          refine j_iconst C dX7_canBegin_54 (v := 1) (by decide) ?_
          refine j_goto (tgt := 59) C dX7_canBegin_55 (by decide) ?_
          exact j_zret C dX7_canBegin_59 ⟨bz1, h⟩
    · have h := And.right h c1
      refine j_iload_n C dX7_canBegin_10 1 rfl rfl ?_
      refine j_if_ne (tgt := 22) C dX7_canBegin_11 (by decide) (fun c6 => ?_) (fun c6 => ?_)
      · have h := And.left h c6
        refine j_sub [0, 2] rfl ?_
        exact t_X7_canBegin_22 C hK4 h
      · have h := And.right h c6
        refine j_aload_n C dX7_canBegin_14 0 rfl rfl ?_
        refine j_iload_n C dX7_canBegin_15 2 rfl rfl ?_
        refine j_callVi (st := []) C 25 [.int x2] (m_X7_canVouch C.wok h) cv_RX7_67 rk_X7_canBegin_X7_canVouch rfl (rc_25 w) rfl (Nat.le_of_ble_eq_true rfl) dX7_canBegin_16 (fun r8 S7 h => ?_)
        refine j_if_eq (tgt := 26) C dX7_canBegin_19 (by decide) (fun c9 => ?_) (fun c9 => ?_)
        · have h := And.left h c9
          refine j_iconst C dX7_canBegin_26 (v := 0) (by decide) ?_
          refine j_sub [0, 2] rfl ?_
          exact t_X7_canBegin_27 C hK4 h
        · have h := And.right h c9
          refine j_sub [0, 2] rfl ?_
          exact t_X7_canBegin_22 C hK4 h
  exact key (x1, x2, S) h
set_option maxRecDepth 20000 in
theorem m_X7_canBegin {l : Launch} {w : Wt} (hw : WOK w) {S : St} {Q0 : Int32 → St → Prop} (h : p_X7_canBegin S Q0) : MI l w yX7_canBegin cX7_canBegin 3 .boolean rm_X7_canBegin [rr w 25] S Q0 := by
  refine m_MI (own := RX7) (lv := [(0, rr w 25)]) hw (by decide) rfl (Nat.le_of_ble_eq_true rfl) rfl (fun X C => ?_)
  refine j_iconst C dX7_canBegin_0 (v := 0) (by decide) ?_
  refine j_istore_n (lv' := [(1, .int 0), (0, rr w 25)]) C dX7_canBegin_1 rfl (by decide) rfl ?_
  refine j_iconst C dX7_canBegin_2 (v := 0) (by decide) ?_
  refine j_istore_n (lv' := [(2, .int 0), (1, .int 0), (0, rr w 25)]) C dX7_canBegin_3 rfl (by decide) rfl ?_
  refine j_sub [2, 1, 0] rfl ?_
  exact t_X7_canBegin_4 C h
def rm_X7_takesOfPerson : Room := { frames := 2, cells := 0, slots := 0, locals := 44 }
theorem rk_X7_takesOfPerson_X7_beginPerson : roomOk rm_X7_beginPerson rm_X7_takesOfPerson 2 := ⟨⟨rfl, rfl⟩, Nat.le_of_ble_eq_true rfl, Nat.le_of_ble_eq_true rfl⟩
theorem rk_X7_takesOfPerson_X7_canBegin : roomOk rm_X7_canBegin rm_X7_takesOfPerson 3 := ⟨⟨rfl, rfl⟩, Nat.le_of_ble_eq_true rfl, Nat.le_of_ble_eq_true rfl⟩
theorem rk_X7_takesOfPerson_X7_takesKind : roomOk rm_X7_takesKind rm_X7_takesOfPerson 3 := ⟨⟨rfl, rfl⟩, Nat.le_of_ble_eq_true rfl, Nat.le_of_ble_eq_true rfl⟩
set_option maxRecDepth 20000 in
theorem t_X7_takesOfPerson_72 {X : Mx} {w : Wt} {l0 : Launch} {Q0 : Int32 → St → Prop} (C : Cx X w l0 cX7_takesOfPerson 2 RX7 rm_X7_takesOfPerson (some .boolean)) {t0 : Int32} {S : St} (h : p_X7_takesOfPerson_72 Q0 t0 S) : J X w (QI X w Q0) 72 [(0, rr w 25)] [.int t0, rr w 25] S := by
  refine pf_RX7_75_25 C dX7_takesOfPerson_72 (fun S14 eS14 => ?_)
  have h := h S14 eS14
  refine j_aload_n C dX7_takesOfPerson_75 0 rfl rfl ?_
  refine gf_RX7_75_25 C dX7_takesOfPerson_76 ?_
  refine j_iconst C dX7_takesOfPerson_79 (v := 5) (by decide) ?_
  refine j_icmp_ne (tgt := 87) C dX7_takesOfPerson_80 (by decide) (fun c15 => ?_) (fun c15 => ?_)
  · have h := And.left h c15
    refine j_iconst C dX7_takesOfPerson_87 (v := 0) (by decide) ?_
    exact j_zret C dX7_takesOfPerson_88 ⟨bz0, h⟩
  · have h := And.right h c15
    refine j_iconst C dX7_takesOfPerson_83 (v := 1) (by decide) ?_
    refine j_goto (tgt := 88) C dX7_takesOfPerson_84 (by decide) ?_
    exact j_zret C dX7_takesOfPerson_88 ⟨bz1, h⟩
set_option maxRecDepth 20000 in
theorem m_X7_takesOfPerson {l : Launch} {w : Wt} (hw : WOK w) {x1 : Int32} {S : St} {Q0 : Int32 → St → Prop} (h : p_X7_takesOfPerson x1 S Q0) : MI l w yX7_takesOfPerson cX7_takesOfPerson 2 .boolean rm_X7_takesOfPerson [rr w 25, .int x1] S Q0 := by
  refine m_MI (own := RX7) (lv := [(0, rr w 25), (1, .int x1)]) hw (by decide) rfl (Nat.le_of_ble_eq_true rfl) rfl (fun X C => ?_)
  refine j_iload_n C dX7_takesOfPerson_0 1 rfl rfl ?_
  by_cases c1 : x1 = 33
  · have h := And.left h c1
    refine j_lookup (tgt := 50) (off := 49) C dX7_takesOfPerson_1 (by decide) (by rw [c1]; decide) (by decide) ?_
    refine j_aload_n C dX7_takesOfPerson_50 0 rfl rfl ?_
    refine j_iconst C dX7_takesOfPerson_51 (v := 2) (by decide) ?_
    refine j_callVi (st := []) C 25 [.int 2] (m_X7_takesKind C.wok h) cv_RX7_88 rk_X7_takesOfPerson_X7_takesKind rfl (rc_25 w) rfl (Nat.le_of_ble_eq_true rfl) dX7_takesOfPerson_52 (fun r3 S2 h => ?_)
    exact j_zret C dX7_takesOfPerson_55 h
  · have h := And.right h c1
    by_cases c4 : x1 = 42
    · have h := And.left h c4
      refine j_lookup (tgt := 44) (off := 43) C dX7_takesOfPerson_1 (by decide) (by rw [c4]; decide) (by decide) ?_
      refine j_aload_n C dX7_takesOfPerson_44 0 rfl rfl ?_
      refine j_iconst C dX7_takesOfPerson_45 (v := 1) (by decide) ?_
      refine j_callVi (st := []) C 25 [.int 1] (m_X7_takesKind C.wok h) cv_RX7_88 rk_X7_takesOfPerson_X7_takesKind rfl (rc_25 w) rfl (Nat.le_of_ble_eq_true rfl) dX7_takesOfPerson_46 (fun r6 S5 h => ?_)
      exact j_zret C dX7_takesOfPerson_49 h
    · have h := And.right h c4
      by_cases c7 : x1 = 59
      · have h := And.left h c7
        refine j_lookup (tgt := 89) (off := 88) C dX7_takesOfPerson_1 (by decide) (by rw [c7]; decide) (by decide) ?_
        refine j_aload_n C dX7_takesOfPerson_89 0 rfl rfl ?_
        refine gf_RX7_64_25 C dX7_takesOfPerson_90 ?_
        refine j_aload_n C dX7_takesOfPerson_93 0 rfl rfl ?_
        refine gf_RX7_61_25 C dX7_takesOfPerson_94 ?_
        refine j_iconst C dX7_takesOfPerson_97 (v := 1) (by decide) ?_
        refine j_isub C dX7_takesOfPerson_98 ?_
        refine j_icmp_ne (tgt := 104) C dX7_takesOfPerson_99 (by decide) (fun c8 => ?_) (fun c8 => ?_)
        · have h := And.left h c8
          refine j_aload_n C dX7_takesOfPerson_104 0 rfl rfl ?_
          refine j_aload_n C dX7_takesOfPerson_105 0 rfl rfl ?_
          refine gf_RX7_64_25 C dX7_takesOfPerson_106 ?_
          refine j_iconst C dX7_takesOfPerson_109 (v := 1) (by decide) ?_
          refine j_iadd C dX7_takesOfPerson_110 ?_
          refine j_callVv (st := []) C 25 [.int ((S.1 25 14) + 1)] (m_X7_beginPerson C.wok h) cv_RX7_81 rk_X7_takesOfPerson_X7_beginPerson rfl (rc_25 w) rfl (Nat.le_of_ble_eq_true rfl) dX7_takesOfPerson_111 (fun S9 h => ?_)
          refine j_iconst C dX7_takesOfPerson_114 (v := 1) (by decide) ?_
          exact j_zret C dX7_takesOfPerson_115 ⟨bz1, h⟩
        · have h := And.right h c8
          refine j_iconst C dX7_takesOfPerson_102 (v := 0) (by decide) ?_
          exact j_zret C dX7_takesOfPerson_103 ⟨bz0, h⟩
      · have h := And.right h c7
        by_cases c10 : x1 = 62
        · have h := And.left h c10
          refine j_lookup (tgt := 56) (off := 55) C dX7_takesOfPerson_1 (by decide) (by rw [c10]; decide) (by decide) ?_
          refine j_aload_n C dX7_takesOfPerson_56 0 rfl rfl ?_
          refine j_aload_n C dX7_takesOfPerson_57 0 rfl rfl ?_
          refine j_callVi (st := [rr w 25]) C 25 [] (m_X7_canBegin C.wok h) cv_RX7_91 rk_X7_takesOfPerson_X7_canBegin rfl (rc_25 w) rfl (Nat.le_of_ble_eq_true rfl) dX7_takesOfPerson_58 (fun r12 S11 h => ?_)
          refine j_if_eq (tgt := 68) C dX7_takesOfPerson_61 (by decide) (fun c13 => ?_) (fun c13 => ?_)
          · have h := And.left h c13
            refine j_aload_n C dX7_takesOfPerson_68 0 rfl rfl ?_
            refine gf_RX7_75_25 C dX7_takesOfPerson_69 ?_
            refine j_sub [0] rfl ?_
            exact t_X7_takesOfPerson_72 C h
          · have h := And.right h c13
            refine j_iconst C dX7_takesOfPerson_64 (v := 5) (by decide) ?_
            refine j_goto (tgt := 72) C dX7_takesOfPerson_65 (by decide) ?_
            refine j_sub [0] rfl ?_
            exact t_X7_takesOfPerson_72 C h
        · have h := And.right h c10
          refine j_lookup (tgt := 116) (off := 115) C dX7_takesOfPerson_1 (by decide) (by show Op.lookupswitch.offset [(33, 49), (42, 43), (59, 88), (62, 55)] 115 _ = _; rw [lv_osw c1 (by decide), lv_osw c4 (by decide), lv_osw c7 (by decide), lv_osw c10 (by decide)]; rfl) (by decide) ?_
          refine j_iconst C dX7_takesOfPerson_116 (v := 0) (by decide) ?_
          exact j_zret C dX7_takesOfPerson_117 ⟨bz0, h⟩
def rm_X7_takesWhom : Room := { frames := 1, cells := 0, slots := 0, locals := 21 }
theorem rk_X7_takesWhom_X7_canVouch : roomOk rm_X7_canVouch rm_X7_takesWhom 2 := ⟨⟨rfl, rfl⟩, Nat.le_of_ble_eq_true rfl, Nat.le_of_ble_eq_true rfl⟩
set_option maxRecDepth 20000 in
theorem m_X7_takesWhom {l : Launch} {w : Wt} (hw : WOK w) {x1 : Int32} {S : St} {Q0 : Int32 → St → Prop} (h : p_X7_takesWhom x1 S Q0) : MI l w yX7_takesWhom cX7_takesWhom 3 .boolean rm_X7_takesWhom [rr w 25, .int x1] S Q0 := by
  refine m_MI (own := RX7) (lv := [(0, rr w 25), (1, .int x1)]) hw (by decide) rfl (Nat.le_of_ble_eq_true rfl) rfl (fun X C => ?_)
  refine j_aload_n C dX7_takesWhom_0 0 rfl rfl ?_
  refine j_iload_n C dX7_takesWhom_1 1 rfl rfl ?_
  refine j_callVi (st := []) C 25 [.int x1] (m_X7_canVouch C.wok h) cv_RX7_67 rk_X7_takesWhom_X7_canVouch rfl (rc_25 w) rfl (Nat.le_of_ble_eq_true rfl) dX7_takesWhom_2 (fun r2 S1 h => ?_)
  refine j_istore_n (lv' := [(2, .int r2), (0, rr w 25), (1, .int x1)]) C dX7_takesWhom_5 rfl (by decide) rfl ?_
  refine j_iload_n C dX7_takesWhom_6 0 rfl rfl ?_
  refine j_if_eq (tgt := 35) C dX7_takesWhom_7 (by decide) (fun c3 => ?_) (fun c3 => ?_)
  · have h := And.left h c3
    refine j_iload_n C dX7_takesWhom_35 0 rfl rfl ?_
    exact j_zret C dX7_takesWhom_36 h
  · have h := And.right h c3
    refine j_aload_n C dX7_takesWhom_10 1 rfl rfl ?_
    refine gf_RX7_28_25 C dX7_takesWhom_11 ?_
    refine j_aload_n C dX7_takesWhom_14 1 rfl rfl ?_
    refine gf_RX7_64_25 C dX7_takesWhom_15 ?_
    refine j_dup2 C dX7_takesWhom_18 rfl rfl ?_
    refine al_32 C dX7_takesWhom_19 (And.left h) ?_
    have h := And.right h
    refine j_iconst C dX7_takesWhom_20 (v := 1) (by decide) ?_
    refine j_iload_n C dX7_takesWhom_21 2 rfl rfl ?_
    refine j_ishl C dX7_takesWhom_22 ?_
    refine j_ior C dX7_takesWhom_23 ?_
    refine as_32 C dX7_takesWhom_24 (And.left h) (fun S4 eS4 => ?_)
    have h := And.right h S4 eS4
    refine j_aload_n C dX7_takesWhom_25 1 rfl rfl ?_
    refine j_iload_n C dX7_takesWhom_26 2 rfl rfl ?_
    refine pf_RX7_58_25 C dX7_takesWhom_27 (fun S5 eS5 => ?_)
    have h := h S5 eS5
    refine j_aload_n C dX7_takesWhom_30 1 rfl rfl ?_
    refine j_iconst C dX7_takesWhom_31 (v := 4) (by decide) ?_
    refine pf_RX7_75_25 C dX7_takesWhom_32 (fun S6 eS6 => ?_)
    have h := h S6 eS6
    refine j_iload_n C dX7_takesWhom_35 0 rfl rfl ?_
    exact j_zret C dX7_takesWhom_36 h
def rm_X7_takes : Room := { frames := 3, cells := 0, slots := 0, locals := 65 }
theorem rk_X7_takes_X7_takesBounds : roomOk rm_X7_takesBounds rm_X7_takes 3 := ⟨⟨rfl, rfl⟩, Nat.le_of_ble_eq_true rfl, Nat.le_of_ble_eq_true rfl⟩
theorem rk_X7_takes_X7_takesOfPerson : roomOk rm_X7_takesOfPerson rm_X7_takes 2 := ⟨⟨rfl, rfl⟩, Nat.le_of_ble_eq_true rfl, Nat.le_of_ble_eq_true rfl⟩
theorem rk_X7_takes_X7_takesWhom : roomOk rm_X7_takesWhom rm_X7_takes 3 := ⟨⟨rfl, rfl⟩, Nat.le_of_ble_eq_true rfl, Nat.le_of_ble_eq_true rfl⟩
theorem rk_X7_takes_X7_within : roomOk rm_X7_within rm_X7_takes 3 := ⟨⟨rfl, rfl⟩, Nat.le_of_ble_eq_true rfl, Nat.le_of_ble_eq_true rfl⟩
set_option maxRecDepth 20000 in
theorem t_X7_takes_71 {X : Mx} {w : Wt} {l0 : Launch} {Q0 : Int32 → St → Prop} (C : Cx X w l0 cX7_takes 2 RX7 rm_X7_takes (some .boolean)) {t0 : Int32} {S : St} (h : p_X7_takes_71 Q0 t0 S) : J X w (QI X w Q0) 71 [(0, rr w 25)] [.int t0, rr w 25] S := by
  refine pf_RX7_75_25 C dX7_takes_71 (fun S6 eS6 => ?_)
  have h := h S6 eS6
  refine j_aload_n C dX7_takes_74 0 rfl rfl ?_
  refine gf_RX7_75_25 C dX7_takes_75 ?_
  refine j_iconst C dX7_takes_78 (v := 1) (by decide) ?_
  refine j_icmp_ne (tgt := 86) C dX7_takes_79 (by decide) (fun c7 => ?_) (fun c7 => ?_)
  · have h := And.left h c7
    refine j_iconst C dX7_takes_86 (v := 0) (by decide) ?_
    exact j_zret C dX7_takes_87 ⟨bz0, h⟩
  · have h := And.right h c7
    refine j_iconst C dX7_takes_82 (v := 1) (by decide) ?_
    refine j_goto (tgt := 87) C dX7_takes_83 (by decide) ?_
    exact j_zret C dX7_takes_87 ⟨bz1, h⟩
set_option maxRecDepth 20000 in
theorem t_X7_takes_100 {X : Mx} {w : Wt} {l0 : Launch} {Q0 : Int32 → St → Prop} (C : Cx X w l0 cX7_takes 2 RX7 rm_X7_takes (some .boolean)) {t0 : Int32} {S : St} (h : p_X7_takes_100 Q0 t0 S) : J X w (QI X w Q0) 100 [(0, rr w 25)] [.int t0, rr w 25] S := by
  refine pf_RX7_75_25 C dX7_takes_100 (fun S10 eS10 => ?_)
  have h := h S10 eS10
  refine j_aload_n C dX7_takes_103 0 rfl rfl ?_
  refine gf_RX7_75_25 C dX7_takes_104 ?_
  refine j_iconst C dX7_takes_107 (v := 2) (by decide) ?_
  refine j_icmp_ne (tgt := 115) C dX7_takes_108 (by decide) (fun c11 => ?_) (fun c11 => ?_)
  · have h := And.left h c11
    refine j_iconst C dX7_takes_115 (v := 0) (by decide) ?_
    exact j_zret C dX7_takes_116 ⟨bz0, h⟩
  · have h := And.right h c11
    refine j_iconst C dX7_takes_111 (v := 1) (by decide) ?_
    refine j_goto (tgt := 116) C dX7_takes_112 (by decide) ?_
    exact j_zret C dX7_takes_116 ⟨bz1, h⟩
set_option maxRecDepth 20000 in
theorem t_X7_takes_132 {X : Mx} {w : Wt} {l0 : Launch} {Q0 : Int32 → St → Prop} (C : Cx X w l0 cX7_takes 2 RX7 rm_X7_takes (some .boolean)) {x1 : Int32} {S : St} (h : p_X7_takes_132 Q0 x1 S) : J X w (QI X w Q0) 132 [(0, rr w 25), (1, .int x1)] [] S := by
  refine j_aload_n C dX7_takes_132 0 rfl rfl ?_
  refine j_iload_n C dX7_takes_133 1 rfl rfl ?_
  refine j_callVi (st := []) C 25 [.int x1] (m_X7_takesOfPerson C.wok h) cv_RX7_101 rk_X7_takes_X7_takesOfPerson rfl (rc_25 w) rfl (Nat.le_of_ble_eq_true rfl) dX7_takes_134 (fun r17 S16 h => ?_)
  exact j_zret C dX7_takes_137 h
set_option maxRecDepth 20000 in
theorem m_X7_takes {l : Launch} {w : Wt} (hw : WOK w) {x1 : Int32} {S : St} {Q0 : Int32 → St → Prop} (h : p_X7_takes x1 S Q0) : MI l w yX7_takes cX7_takes 2 .boolean rm_X7_takes [rr w 25, .int x1] S Q0 := by
  refine m_MI (own := RX7) (lv := [(0, rr w 25), (1, .int x1)]) hw (by decide) rfl (Nat.le_of_ble_eq_true rfl) rfl (fun X C => ?_)
  refine j_aload_n C dX7_takes_0 0 rfl rfl ?_
  refine gf_RX7_75_25 C dX7_takes_1 ?_
  by_cases c1 : (S.1 25 10) = 0
  · have h := And.left h c1
    refine j_tableIn (tgt := 44) (off := 40) C dX7_takes_4 (by rw [c1]; decide) (by rw [c1]; decide) (by rw [c1]; decide) (by decide) ?_
    refine j_aload_n C dX7_takes_44 0 rfl rfl ?_
    refine j_iload_n C dX7_takes_45 1 rfl rfl ?_
    refine j_bipush C dX7_takes_46 (v := 48) (by decide) ?_
    refine j_isub C dX7_takes_48 ?_
    refine pf_RX7_61_25 C dX7_takes_49 (fun S2 eS2 => ?_)
    have h := h S2 eS2
    refine j_aload_n C dX7_takes_52 0 rfl rfl ?_
    refine j_aload_n C dX7_takes_53 0 rfl rfl ?_
    refine gf_RX7_61_25 C dX7_takes_54 ?_
    refine j_iconst C dX7_takes_57 (v := 1) (by decide) ?_
    refine j_bipush C dX7_takes_58 (v := 9) (by decide) ?_
    refine j_callSi (st := [rr w 25]) C [.int (S2.1 25 11), .int 1, .int 9] (m_X7_within C.wok h) cv_RX7_50 rk_X7_takes_X7_within rfl rfl (Nat.le_of_ble_eq_true rfl) dX7_takes_60 (fun r4 S3 h => ?_)
    refine j_if_eq (tgt := 70) C dX7_takes_63 (by decide) (fun c5 => ?_) (fun c5 => ?_)
    · have h := And.left h c5
      refine j_iconst C dX7_takes_70 (v := 0) (by decide) ?_
      refine j_sub [0] rfl ?_
      exact t_X7_takes_71 C h
    · have h := And.right h c5
      refine j_iconst C dX7_takes_66 (v := 1) (by decide) ?_
      refine j_goto (tgt := 71) C dX7_takes_67 (by decide) ?_
      refine j_sub [0] rfl ?_
      exact t_X7_takes_71 C h
  · have h := And.right h c1
    by_cases c8 : (S.1 25 10) = 1
    · have h := And.left h c8
      refine j_tableIn (tgt := 88) (off := 84) C dX7_takes_4 (by rw [c8]; decide) (by rw [c8]; decide) (by rw [c8]; decide) (by decide) ?_
      refine j_aload_n C dX7_takes_88 0 rfl rfl ?_
      refine j_iload_n C dX7_takes_89 1 rfl rfl ?_
      refine j_bipush C dX7_takes_90 (v := 58) (by decide) ?_
      refine j_icmp_ne (tgt := 99) C dX7_takes_92 (by decide) (fun c9 => ?_) (fun c9 => ?_)
      · have h := And.left h c9
        refine j_iconst C dX7_takes_99 (v := 1) (by decide) ?_
        refine j_sub [0] rfl ?_
        exact t_X7_takes_100 C h
      · have h := And.right h c9
        refine j_iconst C dX7_takes_95 (v := 2) (by decide) ?_
        refine j_goto (tgt := 100) C dX7_takes_96 (by decide) ?_
        refine j_sub [0] rfl ?_
        exact t_X7_takes_100 C h
    · have h := And.right h c8
      by_cases c12 : (S.1 25 10) = 2
      · have h := And.left h c12
        refine j_tableIn (tgt := 117) (off := 113) C dX7_takes_4 (by rw [c12]; decide) (by rw [c12]; decide) (by rw [c12]; decide) (by decide) ?_
        refine j_aload_n C dX7_takes_117 0 rfl rfl ?_
        refine j_iload_n C dX7_takes_118 1 rfl rfl ?_
        refine j_callVi (st := []) C 25 [.int x1] (m_X7_takesBounds C.wok h) cv_RX7_95 rk_X7_takes_X7_takesBounds rfl (rc_25 w) rfl (Nat.le_of_ble_eq_true rfl) dX7_takes_119 (fun r14 S13 h => ?_)
        exact j_zret C dX7_takes_122 h
      · have h := And.right h c12
        by_cases c15 : (S.1 25 10) = 3
        · have h := And.left h c15
          refine j_tableIn (tgt := 132) (off := 128) C dX7_takes_4 (by rw [c15]; decide) (by rw [c15]; decide) (by rw [c15]; decide) (by decide) ?_
          exact t_X7_takes_132 C h
        · have h := And.right h c15
          by_cases c18 : (S.1 25 10) = 4
          · have h := And.left h c18
            refine j_tableIn (tgt := 132) (off := 128) C dX7_takes_4 (by rw [c18]; decide) (by rw [c18]; decide) (by rw [c18]; decide) (by decide) ?_
            exact t_X7_takes_132 C h
          · have h := And.right h c18
            by_cases c19 : (S.1 25 10) = 5
            · have h := And.left h c19
              refine j_tableIn (tgt := 123) (off := 119) C dX7_takes_4 (by rw [c19]; decide) (by rw [c19]; decide) (by rw [c19]; decide) (by decide) ?_
              refine j_aload_n C dX7_takes_123 0 rfl rfl ?_
              refine j_iload_n C dX7_takes_124 1 rfl rfl ?_
              refine j_bipush C dX7_takes_125 (v := 48) (by decide) ?_
              refine j_isub C dX7_takes_127 ?_
              refine j_callVi (st := []) C 25 [.int (x1 - 48)] (m_X7_takesWhom C.wok h) cv_RX7_98 rk_X7_takes_X7_takesWhom rfl (rc_25 w) rfl (Nat.le_of_ble_eq_true rfl) dX7_takes_128 (fun r21 S20 h => ?_)
              exact j_zret C dX7_takes_131 h
            · have h := And.right h c19
              have nc1 := lv_neT (a := 0) c1 (by decide)
              have nc8 := lv_neT (a := 1) c8 (by decide)
              have nc12 := lv_neT (a := 2) c12 (by decide)
              have nc15 := lv_neT (a := 3) c15 (by decide)
              have nc18 := lv_neT (a := 4) c18 (by decide)
              have nc19 := lv_neT (a := 5) c19 (by decide)
              refine j_tableOut (tgt := 132) C dX7_takes_4 (by omega) (by decide) ?_
              exact t_X7_takes_132 C h
def rm_X7_read : Room := { frames := 4, cells := 0, slots := 0, locals := 86 }
theorem rk_X7_read_X7_takes : roomOk rm_X7_takes rm_X7_read 2 := ⟨⟨rfl, rfl⟩, Nat.le_of_ble_eq_true rfl, Nat.le_of_ble_eq_true rfl⟩
set_option maxRecDepth 20000 in
theorem t_X7_read_17 {X : Mx} {w : Wt} {l0 : Launch} {Q0 : Int32 → St → Prop} (C : Cx X w l0 cX7_read 2 RX7 rm_X7_read (some .int)) {x1 : Int32} {S : St} (h : Lq (p_X7_read_17 Q0) (x1, S)) : J X w (QI X w Q0) 17 [(0, rr w 25), (1, .int x1)] [] S := by
  have key : ∀ a : Int32 × St, Lq (p_X7_read_17 Q0) a → J X w (QI X w Q0) 17 [(0, rr w 25), (1, .int a.1)] [] a.2 := by
    intro a ha
    refine Lq_use (G := fun a => J X w (QI X w Q0) 17 [(0, rr w 25), (1, .int a.1)] [] a.2) ?_ ha
    intro K17 hK a h
    obtain ⟨x1, S⟩ := a
    have hK17 : ∀ (x1 : Int32) (S : St), K17 (x1, S) → J X w (QI X w Q0) 17 [(0, rr w 25), (1, .int x1)] [] S := fun x1 S h => hK (x1, S) h
    show J X w (QI X w Q0) 17 [(0, rr w 25), (1, .int x1)] [] S
    refine j_iload_n C dX7_read_17 1 rfl rfl ?_
    refine j_aload_n C dX7_read_18 0 rfl rfl ?_
    refine gf_RX7_54_25 C dX7_read_19 ?_
    refine j_icmp_ge (tgt := 44) C dX7_read_22 (by decide) (fun c4 => ?_) (fun c4 => ?_)
    · have h := And.left h c4
      refine j_iload_n C dX7_read_44 1 rfl rfl ?_
      exact j_iret C dX7_read_45 h
    · have h := And.right h c4
      refine j_aload_n C dX7_read_25 0 rfl rfl ?_
      refine j_aload_n C dX7_read_26 0 rfl rfl ?_
      refine gf_RX7_19_25 C dX7_read_27 ?_
      refine j_iload_n C dX7_read_30 1 rfl rfl ?_
      refine al_29 C dX7_read_31 (And.left h) ?_
      have h := And.right h
      refine j_callVi (st := []) C 25 [.int (S.1 29 x1.toNatClampNeg)] (m_X7_takes C.wok h) cv_RX7_104 rk_X7_read_X7_takes rfl (rc_25 w) rfl (Nat.le_of_ble_eq_true rfl) dX7_read_32 (fun r6 S5 h => ?_)
      refine j_if_eq (tgt := 44) C dX7_read_35 (by decide) (fun c7 => ?_) (fun c7 => ?_)
      · have h := And.left h c7
        refine j_iload_n C dX7_read_44 1 rfl rfl ?_
        exact j_iret C dX7_read_45 h
      · have h := And.right h c7
        refine j_iinc (lv' := [(1, .int (x1 + 1)), (0, rr w 25)]) C dX7_read_38 1 rfl rfl (by decide) rfl ?_
        refine j_goto (tgt := 17) C dX7_read_41 (by decide) ?_
        refine j_sub [1, 0] rfl ?_
        exact hK17 _ _ h
  exact key (x1, S) h
set_option maxRecDepth 20000 in
theorem m_X7_read {l : Launch} {w : Wt} (hw : WOK w) {S : St} {Q0 : Int32 → St → Prop} (h : p_X7_read S Q0) : MI l w yX7_read cX7_read 2 .int rm_X7_read [rr w 25] S Q0 := by
  refine m_MI (own := RX7) (lv := [(0, rr w 25)]) hw (by decide) rfl (Nat.le_of_ble_eq_true rfl) rfl (fun X C => ?_)
  refine j_aload_n C dX7_read_0 0 rfl rfl ?_
  refine j_iconst C dX7_read_1 (v := 0) (by decide) ?_
  refine pf_RX7_75_25 C dX7_read_2 (fun S1 eS1 => ?_)
  have h := h S1 eS1
  refine j_aload_n C dX7_read_5 0 rfl rfl ?_
  refine j_iconst C dX7_read_6 (v := 0) (by decide) ?_
  refine pf_RX7_78_25 C dX7_read_7 (fun S2 eS2 => ?_)
  have h := h S2 eS2
  refine j_aload_n C dX7_read_10 0 rfl rfl ?_
  refine j_iconst C dX7_read_11 (v := 0) (by decide) ?_
  refine pf_RX7_85_25 C dX7_read_12 (fun S3 eS3 => ?_)
  have h := h S3 eS3
  refine j_iconst C dX7_read_15 (v := 0) (by decide) ?_
  refine j_istore_n (lv' := [(1, .int 0), (0, rr w 25)]) C dX7_read_16 rfl (by decide) rfl ?_
  refine j_sub [1, 0] rfl ?_
  exact t_X7_read_17 C h
def rm_X7_fault : Room := { frames := 5, cells := 0, slots := 0, locals := 107 }
theorem rk_X7_fault_X7_read : roomOk rm_X7_read rm_X7_fault 2 := ⟨⟨rfl, rfl⟩, Nat.le_of_ble_eq_true rfl, Nat.le_of_ble_eq_true rfl⟩
set_option maxRecDepth 20000 in
theorem m_X7_fault {l : Launch} {w : Wt} (hw : WOK w) {S : St} {Q0 : Int32 → St → Prop} (h : p_X7_fault S Q0) : MI l w yX7_fault cX7_fault 1 .int rm_X7_fault [rr w 25] S Q0 := by
  refine m_MI (own := RX7) (lv := [(0, rr w 25)]) hw (by decide) rfl (Nat.le_of_ble_eq_true rfl) rfl (fun X C => ?_)
  refine j_aload_n C dX7_fault_0 0 rfl rfl ?_
  refine j_callVi (st := []) C 25 [] (m_X7_read C.wok h) cv_RX7_107 rk_X7_fault_X7_read rfl (rc_25 w) rfl (Nat.le_of_ble_eq_true rfl) dX7_fault_1 (fun r2 S1 h => ?_)
  exact j_iret C dX7_fault_4 h
def rm_X2_isComplete : Room := { frames := 0, cells := 0, slots := 0, locals := 0 }
set_option maxRecDepth 20000 in
theorem t_X2_isComplete_16 {X : Mx} {w : Wt} {l0 : Launch} {Q0 : Int32 → St → Prop} (C : Cx X w l0 cX2_isComplete 1 RX2 rm_X2_isComplete (some .boolean)) {S : St} (h : p_X2_isComplete_16 Q0 S) : J X w (QI X w Q0) 16 [(0, rr w 6)] [] S := by
  refine j_aload_n C dX2_isComplete_16 0 rfl rfl ?_
  refine gf_RX2_25_6 C dX2_isComplete_17 ?_
  refine j_aload_n C dX2_isComplete_20 0 rfl rfl ?_
  refine gf_RX2_12_6 C dX2_isComplete_21 ?_
  refine gf_RX2_31_7 C dX2_isComplete_24 ?_
  refine j_iconst C dX2_isComplete_27 (v := 1) (by decide) ?_
  refine j_isub C dX2_isComplete_28 ?_
  refine j_icmp_ne (tgt := 36) C dX2_isComplete_29 (by decide) (fun c2 => ?_) (fun c2 => ?_)
  · have h := And.left h c2
    refine j_iconst C dX2_isComplete_36 (v := 0) (by decide) ?_
    exact j_zret C dX2_isComplete_37 ⟨bz0, h⟩
  · have h := And.right h c2
    refine j_iconst C dX2_isComplete_32 (v := 1) (by decide) ?_
    refine j_goto (tgt := 37) C dX2_isComplete_33 (by decide) ?_
    exact j_zret C dX2_isComplete_37 ⟨bz1, h⟩
set_option maxRecDepth 20000 in
theorem m_X2_isComplete {l : Launch} {w : Wt} (hw : WOK w) {S : St} {Q0 : Int32 → St → Prop} (h : p_X2_isComplete S Q0) : MI l w yX2_isComplete cX2_isComplete 1 .boolean rm_X2_isComplete [rr w 6] S Q0 := by
  refine m_MI (own := RX2) (lv := [(0, rr w 6)]) hw (by decide) rfl (Nat.le_of_ble_eq_true rfl) rfl (fun X C => ?_)
  refine j_aload_n C dX2_isComplete_0 0 rfl rfl ?_
  refine gf_RX2_21_6 C dX2_isComplete_1 ?_
  refine j_iconst C dX2_isComplete_4 (v := 3) (by decide) ?_
  refine j_icmp_eq (tgt := 16) C dX2_isComplete_5 (by decide) (fun c1 => ?_) (fun c1 => ?_)
  · have h := And.left h c1
    exact t_X2_isComplete_16 C h
  · have h := And.right h c1
    refine j_aload_n C dX2_isComplete_8 0 rfl rfl ?_
    refine gf_RX2_21_6 C dX2_isComplete_9 ?_
    refine j_iconst C dX2_isComplete_12 (v := 4) (by decide) ?_
    refine j_icmp_ne (tgt := 36) C dX2_isComplete_13 (by decide) (fun c3 => ?_) (fun c3 => ?_)
    · have h := And.left h c3
      refine j_iconst C dX2_isComplete_36 (v := 0) (by decide) ?_
      exact j_zret C dX2_isComplete_37 ⟨bz0, h⟩
    · have h := And.right h c3
      exact t_X2_isComplete_16 C h
def rm_X0_become_c7 : Room := { frames := 1, cells := 0, slots := 0, locals := 26 }
set_option maxRecDepth 20000 in
theorem m_X0_become_c7 {l : Launch} {w : Wt} (hw : WOK w) {S : St} {Q0 : St → Prop} (h : p_X0_become_c7 S Q0) : MV l w yX0_become cX0_become 2 rm_X0_become_c7 [rr w 2, rr w 7] S Q0 := by
  refine m_MV (own := RX0) (lv := [(0, rr w 2), (1, rr w 7)]) hw (by decide) rfl (Nat.le_of_ble_eq_true rfl) rfl (fun X C => ?_)
  refine j_aload_n C dX0_become_0 0 rfl rfl ?_
  refine j_aload_n C dX0_become_1 1 rfl rfl ?_
  refine gf_RX0_21_7 C dX0_become_2 ?_
  refine pf_RX0_21_2 C dX0_become_5 (fun S1 eS1 => ?_)
  have h := h S1 eS1
  refine j_aload_n C dX0_become_8 0 rfl rfl ?_
  refine j_aload_n C dX0_become_9 1 rfl rfl ?_
  refine gf_RX0_25_7 C dX0_become_10 ?_
  refine pf_RX0_25_2 C dX0_become_13 (fun S2 eS2 => ?_)
  have h := h S2 eS2
  refine j_aload_n C dX0_become_16 1 rfl rfl ?_
  refine gf_RX0_9_7 C dX0_become_17 ?_
  refine j_iconst C dX0_become_20 (v := 0) (by decide) ?_
  refine j_aload_n C dX0_become_21 0 rfl rfl ?_
  refine gf_RX0_9_2 C dX0_become_22 ?_
  refine j_iconst C dX0_become_25 (v := 0) (by decide) ?_
  refine j_iconst C dX0_become_26 (v := 5) (by decide) ?_
  refine cp_RX0_34_8_3_5 C dX0_become_27 (Nat.le_of_ble_eq_true rfl) (Nat.le_of_ble_eq_true rfl) (fun S3 eS3 => ?_)
  have h := h S3 eS3
  refine j_aload_n C dX0_become_30 1 rfl rfl ?_
  refine gf_RX0_15_7 C dX0_become_31 ?_
  refine j_iconst C dX0_become_34 (v := 0) (by decide) ?_
  refine j_aload_n C dX0_become_35 0 rfl rfl ?_
  refine gf_RX0_15_2 C dX0_become_36 ?_
  refine j_iconst C dX0_become_39 (v := 0) (by decide) ?_
  refine j_bipush C dX0_become_40 (v := 9) (by decide) ?_
  refine cp_RX0_34_9_4_9 C dX0_become_42 (Nat.le_of_ble_eq_true rfl) (Nat.le_of_ble_eq_true rfl) (fun S4 eS4 => ?_)
  have h := h S4 eS4
  refine j_aload_n C dX0_become_45 1 rfl rfl ?_
  refine gf_RX0_18_7 C dX0_become_46 ?_
  refine j_iconst C dX0_become_49 (v := 0) (by decide) ?_
  refine j_aload_n C dX0_become_50 0 rfl rfl ?_
  refine gf_RX0_18_2 C dX0_become_51 ?_
  refine j_iconst C dX0_become_54 (v := 0) (by decide) ?_
  refine j_bipush C dX0_become_55 (v := 9) (by decide) ?_
  refine cp_RX0_34_10_5_9 C dX0_become_57 (Nat.le_of_ble_eq_true rfl) (Nat.le_of_ble_eq_true rfl) (fun S5 eS5 => ?_)
  have h := h S5 eS5
  exact j_vret C dX0_become_60 h
def rm_X6_circle : Room := { frames := 5, cells := 0, slots := 0, locals := 104 }
theorem rk_X6_circle_X0_become_c7 : roomOk rm_X0_become_c7 rm_X6_circle 2 := ⟨⟨rfl, rfl⟩, Nat.le_of_ble_eq_true rfl, Nat.le_of_ble_eq_true rfl⟩
theorem rk_X6_circle_X2_isComplete : roomOk rm_X2_isComplete rm_X6_circle 1 := ⟨⟨rfl, rfl⟩, Nat.le_of_ble_eq_true rfl, Nat.le_of_ble_eq_true rfl⟩
theorem rk_X6_circle_X6_fault : roomOk rm_X6_fault rm_X6_circle 2 := ⟨⟨rfl, rfl⟩, Nat.le_of_ble_eq_true rfl, Nat.le_of_ble_eq_true rfl⟩
set_option maxRecDepth 20000 in
theorem m_X6_circle {l : Launch} {w : Wt} (hw : WOK w) {S : St} {Q0 : Int32 → St → Prop} (h : p_X6_circle S Q0) : MI l w yX6_circle cX6_circle 1 .int rm_X6_circle [rr w 0] S Q0 := by
  refine m_MI (own := RX6) (lv := [(0, rr w 0)]) hw (by decide) rfl (Nat.le_of_ble_eq_true rfl) rfl (fun X C => ?_)
  refine j_aload_n C dX6_circle_0 0 rfl rfl ?_
  refine j_callVi (st := []) C 0 [] (m_X6_fault C.wok h) cv_RX6_64 rk_X6_circle_X6_fault rfl (rc_0 w) rfl (Nat.le_of_ble_eq_true rfl) dX6_circle_1 (fun r2 S1 h => ?_)
  refine j_aload_n C dX6_circle_4 0 rfl rfl ?_
  refine gf_RX6_53_0 C dX6_circle_5 ?_
  refine j_icmp_lt (tgt := 21) C dX6_circle_8 (by decide) (fun c3 => ?_) (fun c3 => ?_)
  · have h := And.left h c3
    refine j_bipush C dX6_circle_21 (v := (-103)) (by decide) ?_
    exact j_iret C dX6_circle_23 h
  · have h := And.right h c3
    refine j_aload_n C dX6_circle_11 0 rfl rfl ?_
    refine gf_RX6_23_0 C dX6_circle_12 ?_
    refine j_callVi (st := []) C 6 [] (m_X2_isComplete C.wok h) cv_RX6_68 rk_X6_circle_X2_isComplete rfl (rc_6 w) rfl (Nat.le_of_ble_eq_true rfl) dX6_circle_15 (fun r5 S4 h => ?_)
    refine j_if_ne (tgt := 24) C dX6_circle_18 (by decide) (fun c6 => ?_) (fun c6 => ?_)
    · have h := And.left h c6
      refine j_aload_n C dX6_circle_24 0 rfl rfl ?_
      refine gf_RX6_16_0 C dX6_circle_25 ?_
      refine j_aload_n C dX6_circle_28 0 rfl rfl ?_
      refine gf_RX6_23_0 C dX6_circle_29 ?_
      refine gf_RX6_72_6 C dX6_circle_32 ?_
      refine j_callVv (st := []) C 2 [rr w 7] (m_X0_become_c7 C.wok h) cv_RX6_75 rk_X6_circle_X0_become_c7 rfl (rc_2 w) rfl (Nat.le_of_ble_eq_true rfl) dX6_circle_35 (fun S7 h => ?_)
      refine j_aload_n C dX6_circle_38 0 rfl rfl ?_
      refine j_iconst C dX6_circle_39 (v := 0) (by decide) ?_
      refine pf_RX6_53_0 C dX6_circle_40 (fun S8 eS8 => ?_)
      have h := h S8 eS8
      refine j_aload_n C dX6_circle_43 0 rfl rfl ?_
      refine j_dup C dX6_circle_44 rfl ?_
      refine gf_RX6_79_0 C dX6_circle_45 ?_
      refine j_iconst C dX6_circle_48 (v := 1) (by decide) ?_
      refine j_iadd C dX6_circle_49 ?_
      refine pf_RX6_79_0 C dX6_circle_50 (fun S9 eS9 => ?_)
      have h := h S9 eS9
      refine j_aload_n C dX6_circle_53 0 rfl rfl ?_
      refine gf_RX6_16_0 C dX6_circle_54 ?_
      refine gf_RX6_82_2 C dX6_circle_57 ?_
      exact j_iret C dX6_circle_60 h
    · have h := And.right h c6
      refine j_bipush C dX6_circle_21 (v := (-103)) (by decide) ?_
      exact j_iret C dX6_circle_23 h
