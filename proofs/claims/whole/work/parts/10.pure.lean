def p_X6_letter (x1 : Int32) (S : St) (Q0 : Int32 → St → Prop) : Prop :=
  ((x1 < 32) →
  Q0 (-102) S) ∧
  ((¬ (x1 < 32)) →
  ((x1 ≤ 126) →
  (((S.1 0 1) < 110) →
  vp_in (S.1 0 1) 110 ∧
  ∀ S4 : St, S4 = si S 1 (S.1 0 1).toNatClampNeg x1 →
  ∀ S5 : St, S5 = si S4 0 1 ((S4.1 0 1) + 1) →
  Q0 (S5.1 0 1) S5) ∧
  ((¬ ((S.1 0 1) < 110)) →
  Q0 (-104) S)) ∧
  ((¬ (x1 ≤ 126)) →
  Q0 (-102) S))
def p_X7_within (x0 : Int32) (x1 : Int32) (x2 : Int32) (S : St) (Q0 : Int32 → St → Prop) : Prop :=
  ((x0 < x1) →
  Q0 0 S) ∧
  ((¬ (x0 < x1)) →
  ((x2 < x0) →
  Q0 0 S) ∧
  ((¬ (x2 < x0)) →
  Q0 1 S))
def p_X7_letter (x1 : Int32) (S : St) (Q0 : Int32 → St → Prop) : Prop :=
  p_X7_within x1 32 126 S (fun r2 S1 =>
  ((¬ r2 = 0) →
  ((¬ (S1.1 25 8) = 110) →
  vp_in (S1.1 25 8) 110 ∧
  ∀ S5 : St, S5 = si S1 29 (S1.1 25 8).toNatClampNeg x1 →
  ∀ S6 : St, S6 = si S5 25 8 ((S5.1 25 8) + 1) →
  Q0 (S6.1 25 8) S6) ∧
  (((S1.1 25 8) = 110) →
  Q0 (-104) S1)) ∧
  ((r2 = 0) →
  Q0 (-102) S1))
def p_X6_blank (S : St) (Q0 : Int32 → St → Prop) : Prop :=
  ∀ S1 : St, S1 = si S 0 1 0 →
  Q0 (S.1 0 1) S1
def p_X7_blank (S : St) (Q0 : Int32 → St → Prop) : Prop :=
  ∀ S1 : St, S1 = si S 25 8 0 →
  Q0 (S.1 25 8) S1
def p_J7_fill_53178_c8_5 (Q0 : St → Prop) (K5 : Int32 × Int32 × Int32 × St → Prop) : Int32 × Int32 × Int32 × St → Prop
  | (x1, x2, x3, S) => ((x3 ≤ x2) →
  Q0 S) ∧
  ((¬ (x3 ≤ x2)) →
  vp_in x2 5 ∧
  ∀ S2 : St, S2 = si S 8 x2.toNatClampNeg x1 →
  K5 (x1, (x2 + 1), x3, S2))
def p_J7_fill_53178_c8 (x1 : Int32) (S : St) (Q0 : St → Prop) : Prop :=
  Lq (p_J7_fill_53178_c8_5 Q0) (x1, 0, 5, S)
def p_J7_fill_53178_c9_5 (Q0 : St → Prop) (K5 : Int32 × Int32 × Int32 × St → Prop) : Int32 × Int32 × Int32 × St → Prop
  | (x1, x2, x3, S) => ((x3 ≤ x2) →
  Q0 S) ∧
  ((¬ (x3 ≤ x2)) →
  vp_in x2 9 ∧
  ∀ S2 : St, S2 = si S 9 x2.toNatClampNeg x1 →
  K5 (x1, (x2 + 1), x3, S2))
def p_J7_fill_53178_c9 (x1 : Int32) (S : St) (Q0 : St → Prop) : Prop :=
  Lq (p_J7_fill_53178_c9_5 Q0) (x1, 0, 9, S)
def p_J7_fill_53178_c10_5 (Q0 : St → Prop) (K5 : Int32 × Int32 × Int32 × St → Prop) : Int32 × Int32 × Int32 × St → Prop
  | (x1, x2, x3, S) => ((x3 ≤ x2) →
  Q0 S) ∧
  ((¬ (x3 ≤ x2)) →
  vp_in x2 9 ∧
  ∀ S2 : St, S2 = si S 10 x2.toNatClampNeg x1 →
  K5 (x1, (x2 + 1), x3, S2))
def p_J7_fill_53178_c10 (x1 : Int32) (S : St) (Q0 : St → Prop) : Prop :=
  Lq (p_J7_fill_53178_c10_5 Q0) (x1, 0, 9, S)
def p_X0_clear_c7 (S : St) (Q0 : St → Prop) : Prop :=
  ∀ S1 : St, S1 = si S 7 0 0 →
  ∀ S2 : St, S2 = si S1 7 1 0 →
  p_J7_fill_53178_c8 0 S2 (fun S3 =>
  p_J7_fill_53178_c9 0 S3 (fun S4 =>
  p_J7_fill_53178_c10 0 S4 (fun S5 =>
  Q0 S5)))
def p_X2_begin (S : St) (Q0 : St → Prop) : Prop :=
  p_X0_clear_c7 S (fun S1 =>
  ∀ S2 : St, S2 = si S1 6 1 0 →
  ∀ S3 : St, S3 = si S2 6 2 0 →
  ∀ S4 : St, S4 = si S3 6 3 (-1) →
  Q0 S4)
def p_X2_moveTo (x1 : Int32) (S : St) (Q0 : Int32 → St → Prop) : Prop :=
  ∀ S1 : St, S1 = si S 6 1 x1 →
  Q0 1 S1
def p_X2_takeCount (x1 : Int32) (S : St) (Q0 : Int32 → St → Prop) : Prop :=
  ((x1 < 1) →
  Q0 0 S) ∧
  ((¬ (x1 < 1)) →
  ((x1 ≤ 9) →
  ∀ S3 : St, S3 = si S 7 0 x1 →
  p_X2_moveTo 1 S3 (fun r5 S4 =>
  bz r5 ∧ Q0 r5 S4)) ∧
  ((¬ (x1 ≤ 9)) →
  Q0 0 S))
def p_X2_takeBoundsEnd (x1 : Int32) (S : St) (Q0 : Int32 → St → Prop) : Prop :=
  ((¬ x1 = 58) →
  Q0 0 S) ∧
  ((x1 = 58) →
  (((S.1 7 1) ≤ 0) →
  Q0 0 S) ∧
  ((¬ ((S.1 7 1) ≤ 0)) →
  p_X2_moveTo 3 S (fun r4 S3 =>
  ((r4 = 0) →
  Q0 0 S3) ∧
  ((¬ (r4 = 0)) →
  Q0 1 S3))))
def p_X2_takeBound (x1 : Int32) (S : St) (Q0 : Int32 → St → Prop) : Prop :=
  ((x1 < 0) →
  Q0 0 S) ∧
  ((¬ (x1 < 0)) →
  ((9 < x1) →
  Q0 0 S) ∧
  ((¬ (9 < x1)) →
  (((S.1 7 1) < 5) →
  vp_in (S.1 7 1) 5 ∧
  ∀ S4 : St, S4 = si S 8 (S.1 7 1).toNatClampNeg x1 →
  ∀ S5 : St, S5 = si S4 7 1 ((S4.1 7 1) + 1) →
  Q0 1 S5) ∧
  ((¬ ((S.1 7 1) < 5)) →
  Q0 0 S)))
def p_X0_ofKind_c7_28 (Q0 : Int32 → St → Prop) (K4 : Int32 × Int32 × Int32 × St → Prop) (x1 : Int32) (x2 : Int32) (x3 : Int32) (S : St) : Prop :=
  K4 (x1, x2, (x3 + 1), S)
def p_X0_ofKind_c7_4 (Q0 : Int32 → St → Prop) (K4 : Int32 × Int32 × Int32 × St → Prop) : Int32 × Int32 × Int32 × St → Prop
  | (x1, x2, x3, S) => (((S.1 7 0) ≤ x3) →
  Q0 x2 S) ∧
  ((¬ ((S.1 7 0) ≤ x3)) →
  vp_in x3 9 ∧
  ((¬ (S.1 9 x3.toNatClampNeg) = x1) →
  p_X0_ofKind_c7_28 Q0 K4 x1 x2 x3 S) ∧
  (((S.1 9 x3.toNatClampNeg) = x1) →
  p_X0_ofKind_c7_28 Q0 K4 x1 (x2 ||| (1 <<< (x3 &&& 31))) x3 S))
def p_X0_ofKind_c7 (x1 : Int32) (S : St) (Q0 : Int32 → St → Prop) : Prop :=
  Lq (p_X0_ofKind_c7_4 Q0) (x1, 0, 0, S)
def p_J6_bitCount_0f7a4 (x0 : Int32) (S : St) (Q0 : Int32 → St → Prop) : Prop :=
  ∀ v1 : Int32, v1 = (x0 - ((x0.toUInt32 >>> (Int32.toUInt32 1 &&& Int32.toUInt32 31)).toInt32 &&& 1431655765)) →
  ∀ v2 : Int32, v2 = ((v1 &&& 858993459) + ((v1.toUInt32 >>> (Int32.toUInt32 2 &&& Int32.toUInt32 31)).toInt32 &&& 858993459)) →
  ∀ v3 : Int32, v3 = ((v2 + (v2.toUInt32 >>> (Int32.toUInt32 4 &&& Int32.toUInt32 31)).toInt32) &&& 252645135) →
  ∀ v4 : Int32, v4 = (v3 + (v3.toUInt32 >>> (Int32.toUInt32 8 &&& Int32.toUInt32 31)).toInt32) →
  ∀ v5 : Int32, v5 = (v4 + (v4.toUInt32 >>> (Int32.toUInt32 16 &&& Int32.toUInt32 31)).toInt32) →
  Q0 (v5 &&& 63) S
def p_X2_takeKind_59 (Q0 : Int32 → St → Prop) (t0 : Int32) (t1 : Int32) (S : St) : Prop :=
  vp_in t1 9 ∧
  ∀ S4 : St, S4 = si S 9 t1.toNatClampNeg t0 →
  p_X2_moveTo 4 S4 (fun r6 S5 =>
  bz r6 ∧ Q0 r6 S5)
def p_X2_takeKind_39 (Q0 : Int32 → St → Prop) (x2 : Int32) (S : St) : Prop :=
  ((x2 = 0) →
  p_X2_takeKind_59 Q0 2 (S.1 6 2) S) ∧
  ((¬ (x2 = 0)) →
  p_X2_takeKind_59 Q0 1 (S.1 6 2) S)
def p_X2_takeKind_26 (Q0 : Int32 → St → Prop) (x1 : Int32) (t0 : Int32) (S : St) : Prop :=
  ((¬ t0 = 0) →
  p_X2_takeKind_39 Q0 t0 S) ∧
  ((t0 = 0) →
  ((x1 = 33) →
  p_X2_takeKind_39 Q0 t0 S) ∧
  ((¬ (x1 = 33)) →
  Q0 0 S))
def p_X2_takeKind_25 (Q0 : Int32 → St → Prop) (x1 : Int32) (S : St) : Prop :=
  p_X2_takeKind_26 Q0 x1 0 S
def p_X2_takeKind (x1 : Int32) (S : St) (Q0 : Int32 → St → Prop) : Prop :=
  ((¬ x1 = 42) →
  p_X2_takeKind_25 Q0 x1 S) ∧
  ((x1 = 42) →
  p_X0_ofKind_c7 1 S (fun r9 S8 =>
  p_J6_bitCount_0f7a4 r9 S8 (fun r11 S10 =>
  ((5 ≤ r11) →
  p_X2_takeKind_25 Q0 x1 S10) ∧
  ((¬ (5 ≤ r11)) →
  p_X2_takeKind_26 Q0 x1 1 S10))))
def p_X2_canVouchOn_28 (Q0 : Int32 → St → Prop) (t0 : Int32) (S : St) : Prop :=
  (((S.1 7 0) ≤ t0) →
  Q0 0 S) ∧
  ((¬ ((S.1 7 0) ≤ t0)) →
  vp_in (S.1 6 2) 9 ∧
  p_J6_bitCount_0f7a4 (S.1 10 (S.1 6 2).toNatClampNeg) S (fun r4 S3 =>
  ((5 ≤ r4) →
  Q0 0 S3) ∧
  ((¬ (5 ≤ r4)) →
  Q0 1 S3)))
def p_X2_canVouchOn (S : St) (Q0 : Int32 → St → Prop) : Prop :=
  ((¬ ((S.1 6 3) + 1) = (S.1 6 2)) →
  p_X2_canVouchOn_28 Q0 ((S.1 6 3) + 1) S) ∧
  ((((S.1 6 3) + 1) = (S.1 6 2)) →
  p_X2_canVouchOn_28 Q0 ((S.1 6 3) + 2) S)
def p_X2_takeInPerson (x1 : Int32) (S : St) (Q0 : Int32 → St → Prop) : Prop :=
  ((¬ x1 = 62) →
  ((¬ x1 = 59) →
  Q0 0 S) ∧
  ((x1 = 59) →
  ((((S.1 6 2) + 1) < (S.1 7 0)) →
  ∀ S4 : St, S4 = si S 6 2 ((S.1 6 2) + 1) →
  ∀ S5 : St, S5 = si S4 6 3 (-1) →
  p_X2_moveTo 3 S5 (fun r7 S6 =>
  bz r7 ∧ Q0 r7 S6)) ∧
  ((¬ (((S.1 6 2) + 1) < (S.1 7 0))) →
  Q0 0 S))) ∧
  ((x1 = 62) →
  p_X2_canVouchOn S (fun r9 S8 =>
  ((r9 = 0) →
  Q0 0 S8) ∧
  ((¬ (r9 = 0)) →
  p_X2_moveTo 5 S8 (fun r12 S11 =>
  ((r12 = 0) →
  Q0 0 S11) ∧
  ((¬ (r12 = 0)) →
  Q0 1 S11)))))
def p_X2_takeWhom (x1 : Int32) (S : St) (Q0 : Int32 → St → Prop) : Prop :=
  ((x1 ≤ (S.1 6 3)) →
  Q0 0 S) ∧
  ((¬ (x1 ≤ (S.1 6 3))) →
  (((S.1 7 0) ≤ x1) →
  Q0 0 S) ∧
  ((¬ ((S.1 7 0) ≤ x1)) →
  ((¬ x1 = (S.1 6 2)) →
  vp_in (S.1 6 2) 9 ∧
  vp_in (S.1 6 2) 9 ∧
  ∀ S4 : St, S4 = si S 10 (S.1 6 2).toNatClampNeg ((S.1 10 (S.1 6 2).toNatClampNeg) ||| (1 <<< (x1 &&& 31))) →
  ∀ S5 : St, S5 = si S4 6 3 x1 →
  p_X2_moveTo 4 S5 (fun r7 S6 =>
  bz r7 ∧ Q0 r7 S6)) ∧
  ((x1 = (S.1 6 2)) →
  Q0 0 S)))
def p_X2_take_88 (Q0 : Int32 → St → Prop) (S : St) : Prop :=
  Q0 1 S
def p_X2_take_110 (Q0 : Int32 → St → Prop) (S : St) : Prop :=
  Q0 1 S
def p_X2_take (x1 : Int32) (S : St) (Q0 : Int32 → St → Prop) : Prop :=
  (((S.1 6 1) = 0) →
  p_X2_takeCount (x1 - 48) S (fun r3 S2 =>
  bz r3 ∧ Q0 r3 S2)) ∧
  ((¬ ((S.1 6 1) = 0)) →
  (((S.1 6 1) = 1) →
  ((¬ x1 = 58) →
  Q0 0 S) ∧
  ((x1 = 58) →
  p_X2_moveTo 2 S (fun r7 S6 =>
  ((r7 = 0) →
  Q0 0 S6) ∧
  ((¬ (r7 = 0)) →
  Q0 1 S6)))) ∧
  ((¬ ((S.1 6 1) = 1)) →
  (((S.1 6 1) = 2) →
  p_X2_takeBoundsEnd x1 S (fun r11 S10 =>
  ((¬ r11 = 0) →
  p_X2_take_88 Q0 S10) ∧
  ((r11 = 0) →
  p_X2_takeBound (x1 - 48) S10 (fun r14 S13 =>
  ((r14 = 0) →
  Q0 0 S13) ∧
  ((¬ (r14 = 0)) →
  p_X2_take_88 Q0 S13))))) ∧
  ((¬ ((S.1 6 1) = 2)) →
  (((S.1 6 1) = 3) →
  p_X2_takeKind x1 S (fun r18 S17 =>
  ((¬ r18 = 0) →
  p_X2_take_110 Q0 S17) ∧
  ((r18 = 0) →
  p_X2_takeInPerson x1 S17 (fun r21 S20 =>
  ((r21 = 0) →
  Q0 0 S20) ∧
  ((¬ (r21 = 0)) →
  p_X2_take_110 Q0 S20))))) ∧
  ((¬ ((S.1 6 1) = 3)) →
  (((S.1 6 1) = 4) →
  p_X2_takeInPerson x1 S (fun r25 S24 =>
  bz r25 ∧ Q0 r25 S24)) ∧
  ((¬ ((S.1 6 1) = 4)) →
  p_X2_takeWhom (x1 - 48) S (fun r27 S26 =>
  bz r27 ∧ Q0 r27 S26))))))
def p_X6_fault_9 (Q0 : Int32 → St → Prop) (K9 : Int32 × St → Prop) : Int32 × St → Prop
  | (x1, S) => (((S.1 0 1) ≤ x1) →
  Q0 (S.1 0 1) S) ∧
  ((¬ ((S.1 0 1) ≤ x1)) →
  vp_in x1 110 ∧
  p_X2_take (S.1 1 x1.toNatClampNeg) S (fun r4 S3 =>
  ((¬ r4 = 0) →
  K9 ((x1 + 1), S3)) ∧
  ((r4 = 0) →
  Q0 x1 S3)))
def p_X6_fault (S : St) (Q0 : Int32 → St → Prop) : Prop :=
  p_X2_begin S (fun S1 =>
  Lq (p_X6_fault_9 Q0) (0, S1))
def p_X7_beginPerson (x1 : Int32) (S : St) (Q0 : St → Prop) : Prop :=
  ∀ S1 : St, S1 = si S 25 14 x1 →
  ∀ S2 : St, S2 = si S1 25 15 (-1) →
  ∀ S3 : St, S3 = si S2 25 10 3 →
  vp_in x1 9 ∧
  ∀ S4 : St, S4 = si S3 31 x1.toNatClampNeg 0 →
  vp_in x1 9 ∧
  ∀ S5 : St, S5 = si S4 32 x1.toNatClampNeg 0 →
  Q0 S5
def p_X7_takesBounds_44 (Q0 : Int32 → St → Prop) (x1 : Int32) (t0 : Int32) (S : St) : Prop :=
  ((t0 = 0) →
  bz t0 ∧ Q0 t0 S) ∧
  ((¬ (t0 = 0)) →
  vp_in (S.1 25 12) 5 ∧
  ∀ S6 : St, S6 = si S 30 (S.1 25 12).toNatClampNeg (x1 - 48) →
  ∀ S7 : St, S7 = si S6 25 12 ((S6.1 25 12) + 1) →
  bz t0 ∧ Q0 t0 S7)
def p_X7_takesBounds_43 (Q0 : Int32 → St → Prop) (x1 : Int32) (S : St) : Prop :=
  p_X7_takesBounds_44 Q0 x1 0 S
def p_X7_takesBounds_20 (Q0 : Int32 → St → Prop) (x1 : Int32) (S : St) : Prop :=
  p_X7_within x1 48 57 S (fun r3 S2 =>
  ((r3 = 0) →
  p_X7_takesBounds_43 Q0 x1 S2) ∧
  ((¬ (r3 = 0)) →
  ((5 ≤ (S2.1 25 12)) →
  p_X7_takesBounds_43 Q0 x1 S2) ∧
  ((¬ (5 ≤ (S2.1 25 12))) →
  p_X7_takesBounds_44 Q0 x1 1 S2)))
def p_X7_takesBounds (x1 : Int32) (S : St) (Q0 : Int32 → St → Prop) : Prop :=
  ((¬ x1 = 58) →
  p_X7_takesBounds_20 Q0 x1 S) ∧
  ((x1 = 58) →
  (((S.1 25 12) ≤ 0) →
  p_X7_takesBounds_20 Q0 x1 S) ∧
  ((¬ ((S.1 25 12) ≤ 0)) →
  p_X7_beginPerson 0 S (fun S10 =>
  Q0 1 S10)))
def p_X7_takesKind_56 (Q0 : Int32 → St → Prop) (x2 : Int32) (t0 : Int32) (t1 : Int32) (S : St) : Prop :=
  ∀ S5 : St, S5 = si S 25 16 (t1 + t0) →
  ∀ S6 : St, S6 = si S5 25 10 4 →
  bz x2 ∧ Q0 x2 S6
def p_X7_takesKind_26 (Q0 : Int32 → St → Prop) (x1 : Int32) (t0 : Int32) (S : St) : Prop :=
  ((t0 = 0) →
  bz t0 ∧ Q0 t0 S) ∧
  ((¬ (t0 = 0)) →
  vp_in (S.1 25 14) 9 ∧
  ∀ S3 : St, S3 = si S 31 (S.1 25 14).toNatClampNeg x1 →
  ((¬ x1 = 1) →
  p_X7_takesKind_56 Q0 t0 0 (S3.1 25 16) S3) ∧
  ((x1 = 1) →
  p_X7_takesKind_56 Q0 t0 1 (S3.1 25 16) S3))
def p_X7_takesKind_25 (Q0 : Int32 → St → Prop) (x1 : Int32) (S : St) : Prop :=
  p_X7_takesKind_26 Q0 x1 0 S
def p_X7_takesKind_21 (Q0 : Int32 → St → Prop) (x1 : Int32) (S : St) : Prop :=
  p_X7_takesKind_26 Q0 x1 1 S
def p_X7_takesKind (x1 : Int32) (S : St) (Q0 : Int32 → St → Prop) : Prop :=
  ((¬ (S.1 25 10) = 3) →
  p_X7_takesKind_25 Q0 x1 S) ∧
  (((S.1 25 10) = 3) →
  ((¬ x1 = 1) →
  p_X7_takesKind_21 Q0 x1 S) ∧
  ((x1 = 1) →
  ((5 ≤ (S.1 25 16)) →
  p_X7_takesKind_25 Q0 x1 S) ∧
  ((¬ (5 ≤ (S.1 25 16))) →
  p_X7_takesKind_21 Q0 x1 S)))
def p_X7_size_4 (Q0 : Int32 → St → Prop) (K4 : Int32 × Int32 × Int32 × St → Prop) : Int32 × Int32 × Int32 × St → Prop
  | (x0, x1, x2, S) => ((9 ≤ x2) →
  Q0 x1 S) ∧
  ((¬ (9 ≤ x2)) →
  K4 (x0, (x1 + ((x0 >>> (x2 &&& 31)) &&& 1)), (x2 + 1), S))
def p_X7_size (x0 : Int32) (S : St) (Q0 : Int32 → St → Prop) : Prop :=
  Lq (p_X7_size_4 Q0) (x0, 0, 0, S)
def p_X7_canVouch (x1 : Int32) (S : St) (Q0 : Int32 → St → Prop) : Prop :=
  ((x1 ≤ (S.1 25 15)) →
  Q0 0 S) ∧
  ((¬ (x1 ≤ (S.1 25 15))) →
  (((S.1 25 11) ≤ x1) →
  Q0 0 S) ∧
  ((¬ ((S.1 25 11) ≤ x1)) →
  ((x1 = (S.1 25 14)) →
  Q0 0 S) ∧
  ((¬ (x1 = (S.1 25 14))) →
  Q0 1 S)))
def p_X7_canBegin_27 (Q0 : Int32 → St → Prop) (K4 : Int32 × Int32 × St → Prop) (x2 : Int32) (t0 : Int32) (S : St) : Prop :=
  K4 (t0, (x2 + 1), S)
def p_X7_canBegin_22 (Q0 : Int32 → St → Prop) (K4 : Int32 × Int32 × St → Prop) (x2 : Int32) (S : St) : Prop :=
  p_X7_canBegin_27 Q0 K4 x2 1 S
def p_X7_canBegin_4 (Q0 : Int32 → St → Prop) (K4 : Int32 × Int32 × St → Prop) : Int32 × Int32 × St → Prop
  | (x1, x2, S) => ((9 ≤ x2) →
  ((x1 = 0) →
  Q0 0 S) ∧
  ((¬ (x1 = 0)) →
  vp_in (S.1 25 14) 9 ∧
  p_X7_size (S.1 32 (S.1 25 14).toNatClampNeg) S (fun r4 S3 =>
  ((5 ≤ r4) →
  Q0 0 S3) ∧
  ((¬ (5 ≤ r4)) →
  Q0 1 S3)))) ∧
  ((¬ (9 ≤ x2)) →
  ((¬ x1 = 0) →
  p_X7_canBegin_22 Q0 K4 x2 S) ∧
  ((x1 = 0) →
  p_X7_canVouch x2 S (fun r8 S7 =>
  ((r8 = 0) →
  p_X7_canBegin_27 Q0 K4 x2 0 S7) ∧
  ((¬ (r8 = 0)) →
  p_X7_canBegin_22 Q0 K4 x2 S7))))
def p_X7_canBegin (S : St) (Q0 : Int32 → St → Prop) : Prop :=
  Lq (p_X7_canBegin_4 Q0) (0, 0, S)
def p_X7_takesOfPerson_72 (Q0 : Int32 → St → Prop) (t0 : Int32) (S : St) : Prop :=
  ∀ S14 : St, S14 = si S 25 10 t0 →
  ((¬ (S14.1 25 10) = 5) →
  Q0 0 S14) ∧
  (((S14.1 25 10) = 5) →
  Q0 1 S14)
def p_X7_takesOfPerson (x1 : Int32) (S : St) (Q0 : Int32 → St → Prop) : Prop :=
  ((x1 = 33) →
  p_X7_takesKind 2 S (fun r3 S2 =>
  bz r3 ∧ Q0 r3 S2)) ∧
  ((¬ (x1 = 33)) →
  ((x1 = 42) →
  p_X7_takesKind 1 S (fun r6 S5 =>
  bz r6 ∧ Q0 r6 S5)) ∧
  ((¬ (x1 = 42)) →
  ((x1 = 59) →
  ((¬ (S.1 25 14) = ((S.1 25 11) - 1)) →
  p_X7_beginPerson ((S.1 25 14) + 1) S (fun S9 =>
  Q0 1 S9)) ∧
  (((S.1 25 14) = ((S.1 25 11) - 1)) →
  Q0 0 S)) ∧
  ((¬ (x1 = 59)) →
  ((x1 = 62) →
  p_X7_canBegin S (fun r12 S11 =>
  ((r12 = 0) →
  p_X7_takesOfPerson_72 Q0 (S11.1 25 10) S11) ∧
  ((¬ (r12 = 0)) →
  p_X7_takesOfPerson_72 Q0 5 S11))) ∧
  ((¬ (x1 = 62)) →
  Q0 0 S))))
def p_X7_takesWhom (x1 : Int32) (S : St) (Q0 : Int32 → St → Prop) : Prop :=
  p_X7_canVouch x1 S (fun r2 S1 =>
  ((r2 = 0) →
  bz r2 ∧ Q0 r2 S1) ∧
  ((¬ (r2 = 0)) →
  vp_in (S1.1 25 14) 9 ∧
  vp_in (S1.1 25 14) 9 ∧
  ∀ S4 : St, S4 = si S1 32 (S1.1 25 14).toNatClampNeg ((S1.1 32 (S1.1 25 14).toNatClampNeg) ||| (1 <<< (x1 &&& 31))) →
  ∀ S5 : St, S5 = si S4 25 15 x1 →
  ∀ S6 : St, S6 = si S5 25 10 4 →
  bz r2 ∧ Q0 r2 S6))
def p_X7_takes_71 (Q0 : Int32 → St → Prop) (t0 : Int32) (S : St) : Prop :=
  ∀ S6 : St, S6 = si S 25 10 t0 →
  ((¬ (S6.1 25 10) = 1) →
  Q0 0 S6) ∧
  (((S6.1 25 10) = 1) →
  Q0 1 S6)
def p_X7_takes_100 (Q0 : Int32 → St → Prop) (t0 : Int32) (S : St) : Prop :=
  ∀ S10 : St, S10 = si S 25 10 t0 →
  ((¬ (S10.1 25 10) = 2) →
  Q0 0 S10) ∧
  (((S10.1 25 10) = 2) →
  Q0 1 S10)
def p_X7_takes_132 (Q0 : Int32 → St → Prop) (x1 : Int32) (S : St) : Prop :=
  p_X7_takesOfPerson x1 S (fun r17 S16 =>
  bz r17 ∧ Q0 r17 S16)
def p_X7_takes (x1 : Int32) (S : St) (Q0 : Int32 → St → Prop) : Prop :=
  (((S.1 25 10) = 0) →
  ∀ S2 : St, S2 = si S 25 11 (x1 - 48) →
  p_X7_within (S2.1 25 11) 1 9 S2 (fun r4 S3 =>
  ((r4 = 0) →
  p_X7_takes_71 Q0 0 S3) ∧
  ((¬ (r4 = 0)) →
  p_X7_takes_71 Q0 1 S3))) ∧
  ((¬ ((S.1 25 10) = 0)) →
  (((S.1 25 10) = 1) →
  ((¬ x1 = 58) →
  p_X7_takes_100 Q0 1 S) ∧
  ((x1 = 58) →
  p_X7_takes_100 Q0 2 S)) ∧
  ((¬ ((S.1 25 10) = 1)) →
  (((S.1 25 10) = 2) →
  p_X7_takesBounds x1 S (fun r14 S13 =>
  bz r14 ∧ Q0 r14 S13)) ∧
  ((¬ ((S.1 25 10) = 2)) →
  (((S.1 25 10) = 3) →
  p_X7_takes_132 Q0 x1 S) ∧
  ((¬ ((S.1 25 10) = 3)) →
  (((S.1 25 10) = 4) →
  p_X7_takes_132 Q0 x1 S) ∧
  ((¬ ((S.1 25 10) = 4)) →
  (((S.1 25 10) = 5) →
  p_X7_takesWhom (x1 - 48) S (fun r21 S20 =>
  bz r21 ∧ Q0 r21 S20)) ∧
  ((¬ ((S.1 25 10) = 5)) →
  p_X7_takes_132 Q0 x1 S))))))
def p_X7_read_17 (Q0 : Int32 → St → Prop) (K17 : Int32 × St → Prop) : Int32 × St → Prop
  | (x1, S) => (((S.1 25 8) ≤ x1) →
  Q0 x1 S) ∧
  ((¬ ((S.1 25 8) ≤ x1)) →
  vp_in x1 110 ∧
  p_X7_takes (S.1 29 x1.toNatClampNeg) S (fun r6 S5 =>
  ((r6 = 0) →
  Q0 x1 S5) ∧
  ((¬ (r6 = 0)) →
  K17 ((x1 + 1), S5))))
def p_X7_read (S : St) (Q0 : Int32 → St → Prop) : Prop :=
  ∀ S1 : St, S1 = si S 25 10 0 →
  ∀ S2 : St, S2 = si S1 25 12 0 →
  ∀ S3 : St, S3 = si S2 25 16 0 →
  Lq (p_X7_read_17 Q0) (0, S3)
def p_X7_fault (S : St) (Q0 : Int32 → St → Prop) : Prop :=
  p_X7_read S (fun r2 S1 =>
  Q0 r2 S1)
def p_X2_isComplete_16 (Q0 : Int32 → St → Prop) (S : St) : Prop :=
  ((¬ (S.1 6 2) = ((S.1 7 0) - 1)) →
  Q0 0 S) ∧
  (((S.1 6 2) = ((S.1 7 0) - 1)) →
  Q0 1 S)
def p_X2_isComplete (S : St) (Q0 : Int32 → St → Prop) : Prop :=
  (((S.1 6 1) = 3) →
  p_X2_isComplete_16 Q0 S) ∧
  ((¬ ((S.1 6 1) = 3)) →
  ((¬ (S.1 6 1) = 4) →
  Q0 0 S) ∧
  (((S.1 6 1) = 4) →
  p_X2_isComplete_16 Q0 S))
def p_X0_become_c7 (S : St) (Q0 : St → Prop) : Prop :=
  ∀ S1 : St, S1 = si S 2 0 (S.1 7 0) →
  ∀ S2 : St, S2 = si S1 2 1 (S1.1 7 1) →
  ∀ S3 : St, S3 = cI S2 3 (va_cpy (S2.1 8) (S2.1 3) 0 0 5) →
  ∀ S4 : St, S4 = cI S3 4 (va_cpy (S3.1 9) (S3.1 4) 0 0 9) →
  ∀ S5 : St, S5 = cI S4 5 (va_cpy (S4.1 10) (S4.1 5) 0 0 9) →
  Q0 S5
def p_X6_circle (S : St) (Q0 : Int32 → St → Prop) : Prop :=
  p_X6_fault S (fun r2 S1 =>
  ((r2 < (S1.1 0 1)) →
  Q0 (-103) S1) ∧
  ((¬ (r2 < (S1.1 0 1))) →
  p_X2_isComplete S1 (fun r5 S4 =>
  ((¬ r5 = 0) →
  p_X0_become_c7 S4 (fun S7 =>
  ∀ S8 : St, S8 = si S7 0 1 0 →
  ∀ S9 : St, S9 = si S8 0 8 ((S8.1 0 8) + 1) →
  Q0 (S9.1 2 0) S9)) ∧
  ((r5 = 0) →
  Q0 (-103) S4))))
def p_X7_circle_86 (Q0 : Int32 → St → Prop) (K86 : Int32 × St → Prop) : Int32 × St → Prop
  | (x1, S) => (((S.1 25 0) ≤ x1) →
  ∀ S10 : St, S10 = si S 25 5 ((S.1 25 5) + 1) →
  ∀ S11 : St, S11 = si S10 25 8 0 →
  Q0 (S11.1 25 0) S11) ∧
  ((¬ ((S.1 25 0) ≤ x1)) →
  vp_in x1 9 ∧
  vp_in x1 9 ∧
  ∀ S12 : St, S12 = si S 26 x1.toNatClampNeg (S.1 31 x1.toNatClampNeg) →
  vp_in x1 9 ∧
  vp_in x1 9 ∧
  ∀ S13 : St, S13 = si S12 27 x1.toNatClampNeg (S12.1 32 x1.toNatClampNeg) →
  K86 ((x1 + 1), S13))
def p_X7_circle_61 (Q0 : Int32 → St → Prop) (K61 : Int32 × St → Prop) : Int32 × St → Prop
  | (x1, S) => ((5 ≤ x1) →
  Lq (p_X7_circle_86 Q0) (0, S)) ∧
  ((¬ (5 ≤ x1)) →
  vp_in x1 5 ∧
  vp_in x1 5 ∧
  ∀ S14 : St, S14 = si S 28 x1.toNatClampNeg (S.1 30 x1.toNatClampNeg) →
  K61 ((x1 + 1), S14))
def p_X7_circle_27 (Q0 : Int32 → St → Prop) (S : St) : Prop :=
  ((((S.1 25 11) - 1) ≤ (S.1 25 14)) →
  ∀ S6 : St, S6 = si S 25 0 (S.1 25 11) →
  ∀ S7 : St, S7 = si S6 25 3 (S6.1 25 12) →
  Lq (p_X7_circle_61 Q0) (0, S7)) ∧
  ((¬ (((S.1 25 11) - 1) ≤ (S.1 25 14))) →
  Q0 (-103) S)
def p_X7_circle (S : St) (Q0 : Int32 → St → Prop) : Prop :=
  p_X7_read S (fun r2 S1 =>
  ((r2 < (S1.1 25 8)) →
  Q0 (-103) S1) ∧
  ((¬ (r2 < (S1.1 25 8))) →
  (((S1.1 25 10) = 3) →
  p_X7_circle_27 Q0 S1) ∧
  ((¬ ((S1.1 25 10) = 3)) →
  ((¬ (S1.1 25 10) = 4) →
  Q0 (-103) S1) ∧
  (((S1.1 25 10) = 4) →
  p_X7_circle_27 Q0 S1))))
def p_X0_exists (S : St) (Q0 : Int32 → St → Prop) : Prop :=
  (((S.1 2 0) ≤ 0) →
  Q0 0 S) ∧
  ((¬ ((S.1 2 0) ≤ 0)) →
  Q0 1 S)
def p_X5_put (x1 : Int32) (S : St) (Q0 : St → Prop) : Prop :=
  ((115 ≤ (S.1 11 1)) →
  Q0 S) ∧
  ((¬ (115 ≤ (S.1 11 1))) →
  vp_in (S.1 11 1) 115 ∧
  ∀ S2 : St, S2 = si S 12 (S.1 11 1).toNatClampNeg x1 →
  ∀ S3 : St, S3 = si S2 11 1 ((S2.1 11 1) + 1) →
  Q0 S3)
def p_X6_bit (x0 : Int32) (x1 : Int32) (S : St) (Q0 : Int32 → St → Prop) : Prop :=
  Q0 ((x0 >>> (x1 &&& 31)) &&& 1) S
def p_X0_hasVouch (x1 : Int32) (x2 : Int32) (S : St) (Q0 : Int32 → St → Prop) : Prop :=
  vp_in x1 9 ∧
  p_X6_bit (S.1 5 x1.toNatClampNeg) x2 S (fun r2 S1 =>
  ((¬ r2 = 1) →
  Q0 0 S1) ∧
  ((r2 = 1) →
  Q0 1 S1))
def p_X5_writePerson_65 (Q0 : St → Prop) (K34 : Int32 × Int32 × St → Prop) (x2 : Int32) (x3 : Int32) (S : St) : Prop :=
  K34 (x2, (x3 + 1), S)
def p_X5_writePerson_34 (Q0 : St → Prop) (K34 : Int32 × Int32 × St → Prop) : Int32 × Int32 × St → Prop
  | (x2, x3, S) => (((S.1 2 0) ≤ x3) →
  Q0 S) ∧
  ((¬ ((S.1 2 0) ≤ x3)) →
  p_X0_hasVouch x2 x3 S (fun r5 S4 =>
  ((r5 = 0) →
  p_X5_writePerson_65 Q0 K34 x2 x3 S4) ∧
  ((¬ (r5 = 0)) →
  p_X5_put 62 S4 (fun S7 =>
  p_X5_put (48 + x3) S7 (fun S8 =>
  p_X5_writePerson_65 Q0 K34 x2 x3 S8)))))
def p_X5_writePerson_32 (Q0 : St → Prop) (x2 : Int32) (S : St) : Prop :=
  Lq (p_X5_writePerson_34 Q0) (x2, 0, S)
def p_X5_writePerson_16 (Q0 : St → Prop) (x2 : Int32) (S : St) : Prop :=
  vp_in x2 9 ∧
  ((¬ (S.1 4 x2.toNatClampNeg) = 2) →
  p_X5_writePerson_32 Q0 x2 S) ∧
  (((S.1 4 x2.toNatClampNeg) = 2) →
  p_X5_put 33 S (fun S9 =>
  p_X5_writePerson_32 Q0 x2 S9))
def p_X5_writePerson (x2 : Int32) (S : St) (Q0 : St → Prop) : Prop :=
  vp_in x2 9 ∧
  ((¬ (S.1 4 x2.toNatClampNeg) = 1) →
  p_X5_writePerson_16 Q0 x2 S) ∧
  (((S.1 4 x2.toNatClampNeg) = 1) →
  p_X5_put 42 S (fun S10 =>
  p_X5_writePerson_16 Q0 x2 S10))
def p_X5_write_77 (Q0 : St → Prop) (K59 : Int32 × St → Prop) (x2 : Int32) (S : St) : Prop :=
  p_X5_writePerson x2 S (fun S8 =>
  K59 ((x2 + 1), S8))
def p_X5_write_59 (Q0 : St → Prop) (K59 : Int32 × St → Prop) : Int32 × St → Prop
  | (x2, S) => (((S.1 2 0) ≤ x2) →
  Q0 S) ∧
  ((¬ ((S.1 2 0) ≤ x2)) →
  ((x2 ≤ 0) →
  p_X5_write_77 Q0 K59 x2 S) ∧
  ((¬ (x2 ≤ 0)) →
  p_X5_put 59 S (fun S9 =>
  p_X5_write_77 Q0 K59 x2 S9)))
def p_X5_write_24 (Q0 : St → Prop) (K24 : Int32 × St → Prop) : Int32 × St → Prop
  | (x2, S) => (((S.1 2 1) ≤ x2) →
  p_X5_put 58 S (fun S5 =>
  Lq (p_X5_write_59 Q0) (0, S5))) ∧
  ((¬ ((S.1 2 1) ≤ x2)) →
  vp_in x2 5 ∧
  p_X5_put (48 + (S.1 3 x2.toNatClampNeg)) S (fun S10 =>
  K24 ((x2 + 1), S10)))
def p_X5_write (S : St) (Q0 : St → Prop) : Prop :=
  ∀ S1 : St, S1 = si S 11 1 0 →
  p_X5_put (48 + (S1.1 2 0)) S1 (fun S2 =>
  p_X5_put 58 S2 (fun S3 =>
  Lq (p_X5_write_24 Q0) (0, S3)))
def p_X6_ink (x1 : Int32) (S : St) (Q0 : Int32 → St → Prop) : Prop :=
  p_X0_exists S (fun r2 S1 =>
  ((¬ r2 = 0) →
  ((0 ≤ x1) →
  p_X5_write S1 (fun S5 =>
  (((S5.1 11 1) ≤ x1) →
  Q0 (-1) S5) ∧
  ((¬ ((S5.1 11 1) ≤ x1)) →
  vp_in x1 115 ∧
  Q0 (S5.1 12 x1.toNatClampNeg) S5))) ∧
  ((¬ (0 ≤ x1)) →
  Q0 (-101) S1)) ∧
  ((r2 = 0) →
  Q0 (-103) S1))
def p_X7_isCircle (S : St) (Q0 : Int32 → St → Prop) : Prop :=
  (((S.1 25 0) ≤ 0) →
  Q0 0 S) ∧
  ((¬ ((S.1 25 0) ≤ 0)) →
  Q0 1 S)
def p_X7_ink1_20 (Q0 : St → Prop) (t0 : Int32) (S : St) : Prop :=
  ∀ S2 : St, S2 = si S 25 21 t0 →
  ∀ S3 : St, S3 = si S2 25 20 ((S2.1 25 20) + 1) →
  Q0 S3
def p_X7_ink1 (x1 : Int32) (S : St) (Q0 : St → Prop) : Prop :=
  ((¬ (S.1 25 20) = (S.1 25 19)) →
  p_X7_ink1_20 Q0 (S.1 25 21) S) ∧
  (((S.1 25 20) = (S.1 25 19)) →
  p_X7_ink1_20 Q0 x1 S)
def p_X7_has (x0 : Int32) (x1 : Int32) (S : St) (Q0 : Int32 → St → Prop) : Prop :=
  ((¬ ((x0 >>> (x1 &&& 31)) &&& 1) = 1) →
  Q0 0 S) ∧
  ((((x0 >>> (x1 &&& 31)) &&& 1) = 1) →
  Q0 1 S)
def p_X7_inkPerson_77 (Q0 : St → Prop) (K42 : Int32 × Int32 × St → Prop) (x1 : Int32) (x2 : Int32) (S : St) : Prop :=
  K42 (x1, (x2 + 1), S)
def p_X7_inkPerson_42 (Q0 : St → Prop) (K42 : Int32 × Int32 × St → Prop) : Int32 × Int32 × St → Prop
  | (x1, x2, S) => (((S.1 25 0) ≤ x2) →
  Q0 S) ∧
  ((¬ ((S.1 25 0) ≤ x2)) →
  vp_in x1 9 ∧
  p_X7_has (S.1 27 x1.toNatClampNeg) x2 S (fun r5 S4 =>
  ((r5 = 0) →
  p_X7_inkPerson_77 Q0 K42 x1 x2 S4) ∧
  ((¬ (r5 = 0)) →
  p_X7_ink1 62 S4 (fun S7 =>
  p_X7_ink1 (48 + x2) S7 (fun S8 =>
  p_X7_inkPerson_77 Q0 K42 x1 x2 S8)))))
def p_X7_inkPerson_40 (Q0 : St → Prop) (x1 : Int32) (S : St) : Prop :=
  Lq (p_X7_inkPerson_42 Q0) (x1, 0, S)
def p_X7_inkPerson_37 (Q0 : St → Prop) (x1 : Int32) (t0 : Int32) (S : St) : Prop :=
  p_X7_ink1 t0 S (fun S10 =>
  p_X7_inkPerson_40 Q0 x1 S10)
def p_X7_inkPerson_10 (Q0 : St → Prop) (x1 : Int32) (S : St) : Prop :=
  vp_in x1 9 ∧
  (((S.1 26 x1.toNatClampNeg) ≤ 0) →
  p_X7_inkPerson_40 Q0 x1 S) ∧
  ((¬ ((S.1 26 x1.toNatClampNeg) ≤ 0)) →
  vp_in x1 9 ∧
  ((¬ (S.1 26 x1.toNatClampNeg) = 1) →
  p_X7_inkPerson_37 Q0 x1 33 S) ∧
  (((S.1 26 x1.toNatClampNeg) = 1) →
  p_X7_inkPerson_37 Q0 x1 42 S))
def p_X7_inkPerson (x1 : Int32) (S : St) (Q0 : St → Prop) : Prop :=
  ((x1 ≤ 0) →
  p_X7_inkPerson_10 Q0 x1 S) ∧
  ((¬ (x1 ≤ 0)) →
  p_X7_ink1 59 S (fun S11 =>
  p_X7_inkPerson_10 Q0 x1 S11))
def p_X7_inkNow_69 (Q0 : Int32 → St → Prop) (K69 : Int32 × St → Prop) : Int32 × St → Prop
  | (x2, S) => (((S.1 25 0) ≤ x2) →
  Q0 (S.1 25 21) S) ∧
  ((¬ ((S.1 25 0) ≤ x2)) →
  p_X7_inkPerson x2 S (fun S9 =>
  K69 ((x2 + 1), S9)))
def p_X7_inkNow_34 (Q0 : Int32 → St → Prop) (K34 : Int32 × St → Prop) : Int32 × St → Prop
  | (x2, S) => (((S.1 25 3) ≤ x2) →
  p_X7_ink1 58 S (fun S7 =>
  Lq (p_X7_inkNow_69 Q0) (0, S7))) ∧
  ((¬ ((S.1 25 3) ≤ x2)) →
  vp_in x2 5 ∧
  p_X7_ink1 (48 + (S.1 28 x2.toNatClampNeg)) S (fun S10 =>
  K34 ((x2 + 1), S10)))
def p_X7_inkNow (x1 : Int32) (S : St) (Q0 : Int32 → St → Prop) : Prop :=
  ∀ S1 : St, S1 = si S 25 19 x1 →
  ∀ S2 : St, S2 = si S1 25 20 0 →
  ∀ S3 : St, S3 = si S2 25 21 (-1) →
  p_X7_ink1 (48 + (S3.1 25 0)) S3 (fun S4 =>
  p_X7_ink1 58 S4 (fun S5 =>
  Lq (p_X7_inkNow_34 Q0) (0, S5)))
def p_X7_ink (x1 : Int32) (S : St) (Q0 : Int32 → St → Prop) : Prop :=
  p_X7_isCircle S (fun r2 S1 =>
  ((¬ r2 = 0) →
  ((0 ≤ x1) →
  p_X7_inkNow x1 S1 (fun r6 S5 =>
  Q0 r6 S5)) ∧
  ((¬ (0 ≤ x1)) →
  Q0 (-101) S1)) ∧
  ((r2 = 0) →
  Q0 (-103) S1))
def p_X0_has (x1 : Int32) (S : St) (Q0 : Int32 → St → Prop) : Prop :=
  ((x1 < 0) →
  Q0 0 S) ∧
  ((¬ (x1 < 0)) →
  (((S.1 2 0) ≤ x1) →
  Q0 0 S) ∧
  ((¬ ((S.1 2 0) ≤ x1)) →
  Q0 1 S))
def p_X6_isKind (x0 : Int32) (S : St) (Q0 : Int32 → St → Prop) : Prop :=
  ((x0 < 0) →
  Q0 0 S) ∧
  ((¬ (x0 < 0)) →
  ((2 < x0) →
  Q0 0 S) ∧
  ((¬ (2 < x0)) →
  Q0 1 S))
def p_X0_ofKind_28 (Q0 : Int32 → St → Prop) (K4 : Int32 × Int32 × Int32 × St → Prop) (x1 : Int32) (x2 : Int32) (x3 : Int32) (S : St) : Prop :=
  K4 (x1, x2, (x3 + 1), S)
def p_X0_ofKind_4 (Q0 : Int32 → St → Prop) (K4 : Int32 × Int32 × Int32 × St → Prop) : Int32 × Int32 × Int32 × St → Prop
  | (x1, x2, x3, S) => (((S.1 2 0) ≤ x3) →
  Q0 x2 S) ∧
  ((¬ ((S.1 2 0) ≤ x3)) →
  vp_in x3 9 ∧
  ((¬ (S.1 4 x3.toNatClampNeg) = x1) →
  p_X0_ofKind_28 Q0 K4 x1 x2 x3 S) ∧
  (((S.1 4 x3.toNatClampNeg) = x1) →
  p_X0_ofKind_28 Q0 K4 x1 (x2 ||| (1 <<< (x3 &&& 31))) x3 S))
def p_X0_ofKind (x1 : Int32) (S : St) (Q0 : Int32 → St → Prop) : Prop :=
  Lq (p_X0_ofKind_4 Q0) (x1, 0, 0, S)
def p_X6_kind_62 (Q0 : Int32 → St → Prop) (x1 : Int32) (x2 : Int32) (x3 : Int32) (S : St) : Prop :=
  vp_in x1 9 ∧
  ∀ S8 : St, S8 = si S 4 x1.toNatClampNeg x2 →
  Q0 x3 S8
def p_X6_kind (x1 : Int32) (x2 : Int32) (S : St) (Q0 : Int32 → St → Prop) : Prop :=
  p_X0_has x1 S (fun r2 S1 =>
  ((¬ r2 = 0) →
  p_X6_isKind x2 S1 (fun r5 S4 =>
  ((¬ r5 = 0) →
  vp_in x1 9 ∧
  ((¬ x2 = 1) →
  p_X6_kind_62 Q0 x1 x2 (S4.1 4 x1.toNatClampNeg) S4) ∧
  ((x2 = 1) →
  (((S4.1 4 x1.toNatClampNeg) = 1) →
  p_X6_kind_62 Q0 x1 x2 (S4.1 4 x1.toNatClampNeg) S4) ∧
  ((¬ ((S4.1 4 x1.toNatClampNeg) = 1)) →
  p_X0_ofKind 1 S4 (fun r11 S10 =>
  p_J6_bitCount_0f7a4 r11 S10 (fun r13 S12 =>
  ((r13 < 5) →
  p_X6_kind_62 Q0 x1 x2 (S4.1 4 x1.toNatClampNeg) S12) ∧
  ((¬ (r13 < 5)) →
  Q0 (-104) S12)))))) ∧
  ((r5 = 0) →
  Q0 (-102) S4))) ∧
  ((r2 = 0) →
  Q0 (-101) S1))
def p_X7_isPerson (x1 : Int32) (S : St) (Q0 : Int32 → St → Prop) : Prop :=
  p_X7_within x1 0 ((S.1 25 0) - 1) S (fun r2 S1 =>
  bz r2 ∧ Q0 r2 S1)
def p_X7_ofKind_30 (Q0 : Int32 → St → Prop) (K4 : Int32 × Int32 × Int32 × St → Prop) (x1 : Int32) (x3 : Int32) (t0 : Int32) (t1 : Int32) (S : St) : Prop :=
  K4 (x1, (t1 ||| t0), (x3 + 1), S)
def p_X7_ofKind_4 (Q0 : Int32 → St → Prop) (K4 : Int32 × Int32 × Int32 × St → Prop) : Int32 × Int32 × Int32 × St → Prop
  | (x1, x2, x3, S) => (((S.1 25 0) ≤ x3) →
  Q0 x2 S) ∧
  ((¬ ((S.1 25 0) ≤ x3)) →
  vp_in x3 9 ∧
  ((¬ (S.1 26 x3.toNatClampNeg) = x1) →
  p_X7_ofKind_30 Q0 K4 x1 x3 0 x2 S) ∧
  (((S.1 26 x3.toNatClampNeg) = x1) →
  p_X7_ofKind_30 Q0 K4 x1 x3 (1 <<< (x3 &&& 31)) x2 S))
def p_X7_ofKind (x1 : Int32) (S : St) (Q0 : Int32 → St → Prop) : Prop :=
  Lq (p_X7_ofKind_4 Q0) (x1, 0, 0, S)
def p_X7_kind_55 (Q0 : Int32 → St → Prop) (x1 : Int32) (x2 : Int32) (x3 : Int32) (S : St) : Prop :=
  vp_in x1 9 ∧
  ∀ S8 : St, S8 = si S 26 x1.toNatClampNeg x2 →
  Q0 x3 S8
def p_X7_kind (x1 : Int32) (x2 : Int32) (S : St) (Q0 : Int32 → St → Prop) : Prop :=
  p_X7_isPerson x1 S (fun r2 S1 =>
  ((¬ r2 = 0) →
  p_X7_within x2 0 2 S1 (fun r5 S4 =>
  ((¬ r5 = 0) →
  vp_in x1 9 ∧
  ((¬ x2 = 1) →
  p_X7_kind_55 Q0 x1 x2 (S4.1 26 x1.toNatClampNeg) S4) ∧
  ((x2 = 1) →
  (((S4.1 26 x1.toNatClampNeg) = 1) →
  p_X7_kind_55 Q0 x1 x2 (S4.1 26 x1.toNatClampNeg) S4) ∧
  ((¬ ((S4.1 26 x1.toNatClampNeg) = 1)) →
  p_X7_ofKind 1 S4 (fun r11 S10 =>
  p_X7_size r11 S10 (fun r13 S12 =>
  ((¬ r13 = 5) →
  p_X7_kind_55 Q0 x1 x2 (S4.1 26 x1.toNatClampNeg) S12) ∧
  ((r13 = 5) →
  Q0 (-104) S12)))))) ∧
  ((r5 = 0) →
  Q0 (-102) S4))) ∧
  ((r2 = 0) →
  Q0 (-101) S1))
def p_X6_as_43 (Q0 : Int32 → St → Prop) (x3 : Int32) (S : St) : Prop :=
  Q0 x3 S
def p_X6_as (x1 : Int32) (x2 : Int32) (S : St) (Q0 : Int32 → St → Prop) : Prop :=
  p_X0_has x1 S (fun r2 S1 =>
  ((¬ r2 = 0) →
  p_X6_isKind x2 S1 (fun r5 S4 =>
  ((¬ r5 = 0) →
  vp_in x1 9 ∧
  ((x2 = 0) →
  p_X6_as_43 Q0 (S4.1 4 x1.toNatClampNeg) S4) ∧
  ((¬ (x2 = 0)) →
  ((¬ x2 = (S4.1 4 x1.toNatClampNeg)) →
  Q0 (-1) S4) ∧
  ((x2 = (S4.1 4 x1.toNatClampNeg)) →
  p_X6_as_43 Q0 (S4.1 4 x1.toNatClampNeg) S4))) ∧
  ((r5 = 0) →
  Q0 (-102) S4))) ∧
  ((r2 = 0) →
  Q0 (-101) S1))
def p_X7_as_37 (Q0 : Int32 → St → Prop) (x1 : Int32) (S : St) : Prop :=
  vp_in x1 9 ∧
  Q0 (S.1 26 x1.toNatClampNeg) S
def p_X7_as (x1 : Int32) (x2 : Int32) (S : St) (Q0 : Int32 → St → Prop) : Prop :=
  p_X7_isPerson x1 S (fun r2 S1 =>
  ((¬ r2 = 0) →
  p_X7_within x2 0 2 S1 (fun r5 S4 =>
  ((¬ r5 = 0) →
  ((x2 = 0) →
  p_X7_as_37 Q0 x1 S4) ∧
  ((¬ (x2 = 0)) →
  vp_in x1 9 ∧
  ((¬ x2 = (S4.1 26 x1.toNatClampNeg)) →
  Q0 (-1) S4) ∧
  ((x2 = (S4.1 26 x1.toNatClampNeg)) →
  p_X7_as_37 Q0 x1 S4))) ∧
  ((r5 = 0) →
  Q0 (-102) S4))) ∧
  ((r2 = 0) →
  Q0 (-101) S1))
def p_X0_hasPair (x1 : Int32) (x2 : Int32) (S : St) (Q0 : Int32 → St → Prop) : Prop :=
  p_X0_has x1 S (fun r2 S1 =>
  ((r2 = 0) →
  Q0 0 S1) ∧
  ((¬ (r2 = 0)) →
  p_X0_has x2 S1 (fun r5 S4 =>
  ((r5 = 0) →
  Q0 0 S4) ∧
  ((¬ (r5 = 0)) →
  ((x1 = x2) →
  Q0 0 S4) ∧
  ((¬ (x1 = x2)) →
  Q0 1 S4)))))
def p_X6_vouch (x1 : Int32) (x2 : Int32) (S : St) (Q0 : Int32 → St → Prop) : Prop :=
  p_X0_hasPair x1 x2 S (fun r2 S1 =>
  ((¬ r2 = 0) →
  p_X0_hasVouch x1 x2 S1 (fun r5 S4 =>
  ((r5 = 0) →
  vp_in x1 9 ∧
  p_J6_bitCount_0f7a4 (S4.1 5 x1.toNatClampNeg) S4 (fun r8 S7 =>
  ((r8 < 5) →
  vp_in x1 9 ∧
  vp_in x1 9 ∧
  ∀ S10 : St, S10 = si S7 5 x1.toNatClampNeg ((S7.1 5 x1.toNatClampNeg) ||| (1 <<< (x2 &&& 31))) →
  ∀ S11 : St, S11 = si S10 0 9 ((S10.1 0 9) + 1) →
  Q0 (r8 + 1) S11) ∧
  ((¬ (r8 < 5)) →
  Q0 (-104) S7))) ∧
  ((¬ (r5 = 0)) →
  Q0 (-103) S4))) ∧
  ((r2 = 0) →
  Q0 (-101) S1))
def p_X7_areTwo (x1 : Int32) (x2 : Int32) (S : St) (Q0 : Int32 → St → Prop) : Prop :=
  p_X7_isPerson x1 S (fun r2 S1 =>
  ((r2 = 0) →
  Q0 0 S1) ∧
  ((¬ (r2 = 0)) →
  p_X7_isPerson x2 S1 (fun r5 S4 =>
  ((r5 = 0) →
  Q0 0 S4) ∧
  ((¬ (r5 = 0)) →
  ((x1 = x2) →
  Q0 0 S4) ∧
  ((¬ (x1 = x2)) →
  Q0 1 S4)))))
def p_X7_vouch (x1 : Int32) (x2 : Int32) (S : St) (Q0 : Int32 → St → Prop) : Prop :=
  p_X7_areTwo x1 x2 S (fun r2 S1 =>
  ((¬ r2 = 0) →
  vp_in x1 9 ∧
  p_X7_has (S1.1 27 x1.toNatClampNeg) x2 S1 (fun r5 S4 =>
  ((r5 = 0) →
  vp_in x1 9 ∧
  p_X7_size (S4.1 27 x1.toNatClampNeg) S4 (fun r8 S7 =>
  ((¬ r8 = 5) →
  vp_in x1 9 ∧
  vp_in x1 9 ∧
  ∀ S10 : St, S10 = si S7 27 x1.toNatClampNeg ((S7.1 27 x1.toNatClampNeg) ||| (1 <<< (x2 &&& 31))) →
  ∀ S11 : St, S11 = si S10 25 6 ((S10.1 25 6) + 1) →
  vp_in x1 9 ∧
  p_X7_size (S11.1 27 x1.toNatClampNeg) S11 (fun r13 S12 =>
  Q0 r13 S12)) ∧
  ((r8 = 5) →
  Q0 (-104) S7))) ∧
  ((¬ (r5 = 0)) →
  Q0 (-103) S4))) ∧
  ((r2 = 0) →
  Q0 (-101) S1))
def p_X6_recall (x1 : Int32) (x2 : Int32) (S : St) (Q0 : Int32 → St → Prop) : Prop :=
  p_X0_hasPair x1 x2 S (fun r2 S1 =>
  ((¬ r2 = 0) →
  p_X0_hasVouch x1 x2 S1 (fun r5 S4 =>
  ((¬ r5 = 0) →
  vp_in x1 9 ∧
  vp_in x1 9 ∧
  ∀ S7 : St, S7 = si S4 5 x1.toNatClampNeg ((S4.1 5 x1.toNatClampNeg) &&& ((1 <<< (x2 &&& 31)) ^^^ (-1))) →
  ∀ S8 : St, S8 = si S7 0 10 ((S7.1 0 10) + 1) →
  vp_in x1 9 ∧
  p_J6_bitCount_0f7a4 (S8.1 5 x1.toNatClampNeg) S8 (fun r10 S9 =>
  Q0 r10 S9)) ∧
  ((r5 = 0) →
  Q0 (-103) S4))) ∧
  ((r2 = 0) →
  Q0 (-101) S1))
def p_X7_recall (x1 : Int32) (x2 : Int32) (S : St) (Q0 : Int32 → St → Prop) : Prop :=
  p_X7_areTwo x1 x2 S (fun r2 S1 =>
  ((¬ r2 = 0) →
  vp_in x1 9 ∧
  p_X7_has (S1.1 27 x1.toNatClampNeg) x2 S1 (fun r5 S4 =>
  ((¬ r5 = 0) →
  vp_in x1 9 ∧
  vp_in x1 9 ∧
  ∀ S7 : St, S7 = si S4 27 x1.toNatClampNeg ((S4.1 27 x1.toNatClampNeg) &&& ((1 <<< (x2 &&& 31)) ^^^ (-1))) →
  ∀ S8 : St, S8 = si S7 25 7 ((S7.1 25 7) + 1) →
  vp_in x1 9 ∧
  p_X7_size (S8.1 27 x1.toNatClampNeg) S8 (fun r10 S9 =>
  Q0 r10 S9)) ∧
  ((r5 = 0) →
  Q0 (-103) S4))) ∧
  ((r2 = 0) →
  Q0 (-101) S1))
def p_X6_bound (x1 : Int32) (x2 : Int32) (S : St) (Q0 : Int32 → St → Prop) : Prop :=
  ((x1 < 0) →
  Q0 (-101) S) ∧
  ((¬ (x1 < 0)) →
  ((x1 < (S.1 2 1)) →
  ((x2 < 0) →
  Q0 (-102) S) ∧
  ((¬ (x2 < 0)) →
  ((x2 ≤ 9) →
  vp_in x1 5 ∧
  vp_in x1 5 ∧
  ∀ S5 : St, S5 = si S 3 x1.toNatClampNeg x2 →
  Q0 (S.1 3 x1.toNatClampNeg) S5) ∧
  ((¬ (x2 ≤ 9)) →
  Q0 (-102) S))) ∧
  ((¬ (x1 < (S.1 2 1))) →
  Q0 (-101) S))
def p_X7_bound (x1 : Int32) (x2 : Int32) (S : St) (Q0 : Int32 → St → Prop) : Prop :=
  p_X7_isCircle S (fun r2 S1 =>
  ((r2 = 0) →
  Q0 (-101) S1) ∧
  ((¬ (r2 = 0)) →
  p_X7_within x1 0 ((S1.1 25 3) - 1) S1 (fun r5 S4 =>
  ((¬ r5 = 0) →
  p_X7_within x2 0 9 S4 (fun r8 S7 =>
  ((¬ r8 = 0) →
  vp_in x1 5 ∧
  vp_in x1 5 ∧
  ∀ S10 : St, S10 = si S7 28 x1.toNatClampNeg x2 →
  Q0 (S7.1 28 x1.toNatClampNeg) S10) ∧
  ((r8 = 0) →
  Q0 (-102) S7))) ∧
  ((r5 = 0) →
  Q0 (-101) S4))))
def p_X0_vouchCount_4 (Q0 : Int32 → St → Prop) (K4 : Int32 × Int32 × St → Prop) : Int32 × Int32 × St → Prop
  | (x1, x2, S) => (((S.1 2 0) ≤ x2) →
  Q0 x1 S) ∧
  ((¬ ((S.1 2 0) ≤ x2)) →
  vp_in x2 9 ∧
  p_J6_bitCount_0f7a4 (S.1 5 x2.toNatClampNeg) S (fun r3 S2 =>
  K4 ((x1 + r3), (x2 + 1), S2)))
def p_X0_vouchCount (S : St) (Q0 : Int32 → St → Prop) : Prop :=
  Lq (p_X0_vouchCount_4 Q0) (0, 0, S)
def p_X4_copy (S : St) (Q0 : St → Prop) : Prop :=
  ∀ S1 : St, S1 = si S 14 0 (S.1 2 0) →
  p_X0_ofKind 1 S1 (fun r3 S2 =>
  ∀ S4 : St, S4 = si S2 14 1 r3 →
  ∀ S5 : St, S5 = cI S4 15 (va_cpy (S4.1 5) (S4.1 15) 0 0 9) →
  Q0 S5)
def p_J7_fill_53178_c16_5 (Q0 : St → Prop) (K5 : Int32 × Int32 × Int32 × St → Prop) : Int32 × Int32 × Int32 × St → Prop
  | (x1, x2, x3, S) => ((x3 ≤ x2) →
  Q0 S) ∧
  ((¬ (x3 ≤ x2)) →
  vp_in x2 9 ∧
  ∀ S2 : St, S2 = si S 16 x2.toNatClampNeg x1 →
  K5 (x1, (x2 + 1), x3, S2))
def p_J7_fill_53178_c16 (x1 : Int32) (S : St) (Q0 : St → Prop) : Prop :=
  Lq (p_J7_fill_53178_c16_5 Q0) (x1, 0, 9, S)
def p_J7_fill_53178_c17_5 (Q0 : St → Prop) (K5 : Int32 × Int32 × Int32 × St → Prop) : Int32 × Int32 × Int32 × St → Prop
  | (x1, x2, x3, S) => ((x3 ≤ x2) →
  Q0 S) ∧
  ((¬ (x3 ≤ x2)) →
  vp_in x2 9 ∧
  ∀ S2 : St, S2 = si S 17 x2.toNatClampNeg x1 →
  K5 (x1, (x2 + 1), x3, S2))
def p_J7_fill_53178_c17 (x1 : Int32) (S : St) (Q0 : St → Prop) : Prop :=
  Lq (p_J7_fill_53178_c17_5 Q0) (x1, 0, 9, S)
def p_X4_vouchedBy_30 (Q0 : Int32 → St → Prop) (K4 : Int32 × Int32 × Int32 × St → Prop) (x1 : Int32) (x2 : Int32) (x3 : Int32) (S : St) : Prop :=
  K4 (x1, x2, (x3 + 1), S)
def p_X4_vouchedBy_4 (Q0 : Int32 → St → Prop) (K4 : Int32 × Int32 × Int32 × St → Prop) : Int32 × Int32 × Int32 × St → Prop
  | (x1, x2, x3, S) => (((S.1 14 0) ≤ x3) →
  Q0 x2 S) ∧
  ((¬ ((S.1 14 0) ≤ x3)) →
  p_X6_bit x1 x3 S (fun r3 S2 =>
  ((¬ r3 = 1) →
  p_X4_vouchedBy_30 Q0 K4 x1 x2 x3 S2) ∧
  ((r3 = 1) →
  vp_in x3 9 ∧
  p_X4_vouchedBy_30 Q0 K4 x1 (x2 ||| (S2.1 15 x3.toNatClampNeg)) x3 S2)))
def p_X4_vouchedBy (x1 : Int32) (S : St) (Q0 : Int32 → St → Prop) : Prop :=
  Lq (p_X4_vouchedBy_4 Q0) (x1, 0, 0, S)
def p_X4_settle_101 (Q0 : St → Prop) (K26 : Int32 × Int32 × Int32 × St → Prop) (K64 : Int32 × Int32 × Int32 × Int32 × Int32 × St → Prop) (x2 : Int32) (x3 : Int32) (x4 : Int32) (x5 : Int32) (x6 : Int32) (S : St) : Prop :=
  K64 (x2, x3, x4, x5, (x6 + 1), S)
def p_X4_settle_64 (Q0 : St → Prop) (K26 : Int32 × Int32 × Int32 × St → Prop) (K64 : Int32 × Int32 × Int32 × Int32 × Int32 × St → Prop) : Int32 × Int32 × Int32 × Int32 × Int32 × St → Prop
  | (x2, x3, x4, x5, x6, S) => (((S.1 14 0) ≤ x6) →
  p_X4_vouchedBy x3 S (fun r8 S7 =>
  K26 ((x2 ||| x3), (r8 &&& ((x2 ||| x3) ^^^ (-1))), (x4 + 1), S7))) ∧
  ((¬ ((S.1 14 0) ≤ x6)) →
  p_X6_bit x3 x6 S (fun r10 S9 =>
  ((¬ r10 = 1) →
  p_X4_settle_101 Q0 K26 K64 x2 x3 x4 x5 x6 S9) ∧
  ((r10 = 1) →
  vp_in x6 9 ∧
  ∀ S12 : St, S12 = si S9 16 x6.toNatClampNeg x4 →
  vp_in x6 9 ∧
  ∀ S13 : St, S13 = si S12 17 x6.toNatClampNeg x5 →
  p_X4_settle_101 Q0 K26 K64 x2 x3 x4 x5 x6 S13)))
def p_X4_settle_59 (Q0 : St → Prop) (K26 : Int32 × Int32 × Int32 × St → Prop) (x2 : Int32) (x3 : Int32) (x4 : Int32) (t0 : Int32) (S : St) : Prop :=
  Lq (p_X4_settle_64 Q0 K26) (x2, x3, x4, t0, 0, S)
def p_X4_settle_26 (Q0 : St → Prop) (K26 : Int32 × Int32 × Int32 × St → Prop) : Int32 × Int32 × Int32 × St → Prop
  | (x2, x3, x4, S) => (((S.1 14 0) ≤ x4) →
  Q0 S) ∧
  ((¬ ((S.1 14 0) ≤ x4)) →
  ((x3 = 0) →
  Q0 S) ∧
  ((¬ (x3 = 0)) →
  (((S.1 2 1) ≤ x4) →
  p_X4_settle_59 Q0 K26 x2 x3 x4 0 S) ∧
  ((¬ ((S.1 2 1) ≤ x4)) →
  vp_in x4 5 ∧
  p_X4_settle_59 Q0 K26 x2 x3 x4 (S.1 3 x4.toNatClampNeg) S)))
def p_X4_settle (S : St) (Q0 : St → Prop) : Prop :=
  p_J7_fill_53178_c16 (-1) S (fun S1 =>
  p_J7_fill_53178_c17 0 S1 (fun S2 =>
  Lq (p_X4_settle_26 Q0) (0, (S2.1 14 1), 0, S2)))
def p_X6_prepareWeb (S : St) (Q0 : St → Prop) : Prop :=
  p_X4_copy S (fun S1 =>
  p_X4_settle S1 (fun S2 =>
  Q0 S2))
def p_X4_personsWithLevel_25 (Q0 : Int32 → St → Prop) (K4 : Int32 × Int32 × St → Prop) (x1 : Int32) (x2 : Int32) (S : St) : Prop :=
  K4 (x1, (x2 + 1), S)
def p_X4_personsWithLevel_4 (Q0 : Int32 → St → Prop) (K4 : Int32 × Int32 × St → Prop) : Int32 × Int32 × St → Prop
  | (x1, x2, S) => (((S.1 14 0) ≤ x2) →
  Q0 x1 S) ∧
  ((¬ ((S.1 14 0) ≤ x2)) →
  vp_in x2 9 ∧
  (((S.1 16 x2.toNatClampNeg) = (-1)) →
  p_X4_personsWithLevel_25 Q0 K4 x1 x2 S) ∧
  ((¬ ((S.1 16 x2.toNatClampNeg) = (-1))) →
  p_X4_personsWithLevel_25 Q0 K4 (x1 + 1) x2 S))
def p_X4_personsWithLevel (S : St) (Q0 : Int32 → St → Prop) : Prop :=
  Lq (p_X4_personsWithLevel_4 Q0) (0, 0, S)
def p_X4_greatestLevel_4 (Q0 : Int32 → St → Prop) (K4 : Int32 × Int32 × St → Prop) : Int32 × Int32 × St → Prop
  | (x1, x2, S) => (((S.1 14 0) ≤ x2) →
  Q0 x1 S) ∧
  ((¬ ((S.1 14 0) ≤ x2)) →
  vp_in x2 9 ∧
  ∀ v2 : Int32, v2 = (if x1 < (S.1 16 x2.toNatClampNeg) then (S.1 16 x2.toNatClampNeg) else x1) →
  K4 (v2, (x2 + 1), S))
def p_X4_greatestLevel (S : St) (Q0 : Int32 → St → Prop) : Prop :=
  Lq (p_X4_greatestLevel_4 Q0) ((-1), 0, S)
def p_X0_everyone (S : St) (Q0 : Int32 → St → Prop) : Prop :=
  Q0 ((1 <<< ((S.1 2 0) &&& 31)) - 1) S
def p_X4_limitsOf_30 (Q0 : Int32 → St → Prop) (K4 : Int32 × Int32 × Int32 × St → Prop) (x1 : Int32) (x2 : Int32) (x3 : Int32) (S : St) : Prop :=
  K4 (x1, x2, (x3 + 1), S)
def p_X4_limitsOf_4 (Q0 : Int32 → St → Prop) (K4 : Int32 × Int32 × Int32 × St → Prop) : Int32 × Int32 × Int32 × St → Prop
  | (x1, x2, x3, S) => (((S.1 14 0) ≤ x3) →
  Q0 x2 S) ∧
  ((¬ ((S.1 14 0) ≤ x3)) →
  p_X6_bit x1 x3 S (fun r3 S2 =>
  ((¬ r3 = 1) →
  p_X4_limitsOf_30 Q0 K4 x1 x2 x3 S2) ∧
  ((r3 = 1) →
  vp_in x3 9 ∧
  p_X4_limitsOf_30 Q0 K4 x1 (x2 + (S2.1 17 x3.toNatClampNeg)) x3 S2)))
def p_X4_limitsOf (x1 : Int32) (S : St) (Q0 : Int32 → St → Prop) : Prop :=
  Lq (p_X4_limitsOf_4 Q0) (x1, 0, 0, S)
def p_X6_about (x1 : Int32) (S : St) (Q0 : Int32 → St → Prop) : Prop :=
  ((x1 < 0) →
  Q0 (-102) S) ∧
  ((¬ (x1 < 0)) →
  ((x1 ≤ 7) →
  p_X0_exists S (fun r4 S3 =>
  ((¬ r4 = 0) →
  ((x1 = 0) →
  Q0 (S3.1 2 0) S3) ∧
  ((¬ (x1 = 0)) →
  ((x1 = 1) →
  p_X0_ofKind 1 S3 (fun r9 S8 =>
  p_J6_bitCount_0f7a4 r9 S8 (fun r11 S10 =>
  Q0 r11 S10))) ∧
  ((¬ (x1 = 1)) →
  ((x1 = 2) →
  p_X0_ofKind 2 S3 (fun r14 S13 =>
  p_J6_bitCount_0f7a4 r14 S13 (fun r16 S15 =>
  Q0 r16 S15))) ∧
  ((¬ (x1 = 2)) →
  ((x1 = 3) →
  p_X0_vouchCount S3 (fun r19 S18 =>
  Q0 r19 S18)) ∧
  ((¬ (x1 = 3)) →
  ((x1 = 4) →
  Q0 (S3.1 2 1) S3) ∧
  ((¬ (x1 = 4)) →
  p_X6_prepareWeb S3 (fun S21 =>
  ((x1 = 5) →
  p_X4_personsWithLevel S21 (fun r24 S23 =>
  Q0 r24 S23)) ∧
  ((¬ (x1 = 5)) →
  ((x1 = 6) →
  p_X4_greatestLevel S21 (fun r27 S26 =>
  Q0 r27 S26)) ∧
  ((¬ (x1 = 6)) →
  p_X0_everyone S21 (fun r29 S28 =>
  p_X4_limitsOf r29 S28 (fun r31 S30 =>
  Q0 r31 S30))))))))))) ∧
  ((r4 = 0) →
  Q0 (-103) S3))) ∧
  ((¬ (x1 ≤ 7)) →
  Q0 (-102) S))
def p_X7_vouchedBy_31 (Q0 : Int32 → St → Prop) (K4 : Int32 × Int32 × Int32 × St → Prop) (x1 : Int32) (x3 : Int32) (t0 : Int32) (t1 : Int32) (S : St) : Prop :=
  K4 (x1, (t1 ||| t0), (x3 + 1), S)
def p_X7_vouchedBy_4 (Q0 : Int32 → St → Prop) (K4 : Int32 × Int32 × Int32 × St → Prop) : Int32 × Int32 × Int32 × St → Prop
  | (x1, x2, x3, S) => (((S.1 25 0) ≤ x3) →
  Q0 x2 S) ∧
  ((¬ ((S.1 25 0) ≤ x3)) →
  p_X7_has x1 x3 S (fun r3 S2 =>
  ((r3 = 0) →
  p_X7_vouchedBy_31 Q0 K4 x1 x3 0 x2 S2) ∧
  ((¬ (r3 = 0)) →
  vp_in x3 9 ∧
  p_X7_vouchedBy_31 Q0 K4 x1 x3 (S2.1 27 x3.toNatClampNeg) x2 S2)))
def p_X7_vouchedBy (x1 : Int32) (S : St) (Q0 : Int32 → St → Prop) : Prop :=
  Lq (p_X7_vouchedBy_4 Q0) (x1, 0, 0, S)
def p_X7_layLevels_163 (Q0 : St → Prop) (K116 : Int32 × St → Prop) (x2 : Int32) (t0 : Int32) (t1 : Int32) (S : St) : Prop :=
  vp_in t1 9 ∧
  ∀ S9 : St, S9 = si S 34 t1.toNatClampNeg t0 →
  K116 ((x2 + 1), S9)
def p_X7_layLevels_116 (Q0 : St → Prop) (K116 : Int32 × St → Prop) : Int32 × St → Prop
  | (x2, S) => (((S.1 25 0) ≤ x2) →
  Q0 S) ∧
  ((¬ ((S.1 25 0) ≤ x2)) →
  vp_in x2 9 ∧
  p_X7_within (S.1 33 x2.toNatClampNeg) 0 ((S.1 25 3) - 1) S (fun r7 S6 =>
  ((r7 = 0) →
  p_X7_layLevels_163 Q0 K116 x2 0 x2 S6) ∧
  ((¬ (r7 = 0)) →
  vp_in x2 9 ∧
  vp_in (S6.1 33 x2.toNatClampNeg) 5 ∧
  p_X7_layLevels_163 Q0 K116 x2 (S6.1 28 (S6.1 33 x2.toNatClampNeg).toNatClampNeg) x2 S6)))
def p_X7_layLevels_97 (Q0 : St → Prop) (K43 : Int32 × Int32 × St → Prop) (K62 : Int32 × Int32 × Int32 × Int32 × St → Prop) (x1 : Int32) (x2 : Int32) (x3 : Int32) (x4 : Int32) (t0 : Int32) (t1 : Int32) (S : St) : Prop :=
  vp_in t1 9 ∧
  ∀ S16 : St, S16 = si S 33 t1.toNatClampNeg t0 →
  K62 (x1, x2, x3, (x4 + 1), S16)
def p_X7_layLevels_62 (Q0 : St → Prop) (K43 : Int32 × Int32 × St → Prop) (K62 : Int32 × Int32 × Int32 × Int32 × St → Prop) : Int32 × Int32 × Int32 × Int32 × St → Prop
  | (x1, x2, x3, x4, S) => (((S.1 25 0) ≤ x4) →
  K43 ((x1 ||| x3), (x2 + 1), S)) ∧
  ((¬ ((S.1 25 0) ≤ x4)) →
  p_X7_has x3 x4 S (fun r14 S13 =>
  ((r14 = 0) →
  vp_in x4 9 ∧
  p_X7_layLevels_97 Q0 K43 K62 x1 x2 x3 x4 (S13.1 33 x4.toNatClampNeg) x4 S13) ∧
  ((¬ (r14 = 0)) →
  p_X7_layLevels_97 Q0 K43 K62 x1 x2 x3 x4 x2 x4 S13)))
def p_X7_layLevels_43 (Q0 : St → Prop) (K43 : Int32 × Int32 × St → Prop) : Int32 × Int32 × St → Prop
  | (x1, x2, S) => ((9 ≤ x2) →
  Lq (p_X7_layLevels_116 Q0) (0, S)) ∧
  ((¬ (9 ≤ x2)) →
  p_X7_vouchedBy x1 S (fun r11 S10 =>
  Lq (p_X7_layLevels_62 Q0 K43) (x1, x2, (r11 &&& (x1 ^^^ (-1))), 0, S10)))
def p_X7_layLevels_34 (Q0 : St → Prop) (K8 : Int32 × Int32 × St → Prop) (x1 : Int32) (x2 : Int32) (t0 : Int32) (t1 : Int32) (S : St) : Prop :=
  vp_in t1 9 ∧
  ∀ S20 : St, S20 = si S 33 t1.toNatClampNeg t0 →
  K8 (x1, (x2 + 1), S20)
def p_X7_layLevels_8 (Q0 : St → Prop) (K8 : Int32 × Int32 × St → Prop) : Int32 × Int32 × St → Prop
  | (x1, x2, S) => (((S.1 25 0) ≤ x2) →
  Lq (p_X7_layLevels_43 Q0) (x1, 1, S)) ∧
  ((¬ ((S.1 25 0) ≤ x2)) →
  p_X7_has x1 x2 S (fun r18 S17 =>
  ((r18 = 0) →
  p_X7_layLevels_34 Q0 K8 x1 x2 (-1) x2 S17) ∧
  ((¬ (r18 = 0)) →
  p_X7_layLevels_34 Q0 K8 x1 x2 0 x2 S17)))
def p_X7_layLevels (S : St) (Q0 : St → Prop) : Prop :=
  p_X7_ofKind 1 S (fun r2 S1 =>
  Lq (p_X7_layLevels_8 Q0) (r2, 0, S1))
def p_X7_vouchesAll_4 (Q0 : Int32 → St → Prop) (K4 : Int32 × Int32 × St → Prop) : Int32 × Int32 × St → Prop
  | (x1, x2, S) => (((S.1 25 0) ≤ x2) →
  Q0 x1 S) ∧
  ((¬ ((S.1 25 0) ≤ x2)) →
  vp_in x2 9 ∧
  p_X7_size (S.1 27 x2.toNatClampNeg) S (fun r3 S2 =>
  K4 ((x1 + r3), (x2 + 1), S2)))
def p_X7_vouchesAll (S : St) (Q0 : Int32 → St → Prop) : Prop :=
  Lq (p_X7_vouchesAll_4 Q0) (0, 0, S)
def p_X7_levelsMany_28 (Q0 : Int32 → St → Prop) (K4 : Int32 × Int32 × St → Prop) (x2 : Int32) (t0 : Int32) (t1 : Int32) (S : St) : Prop :=
  K4 ((t1 + t0), (x2 + 1), S)
def p_X7_levelsMany_4 (Q0 : Int32 → St → Prop) (K4 : Int32 × Int32 × St → Prop) : Int32 × Int32 × St → Prop
  | (x1, x2, S) => (((S.1 25 0) ≤ x2) →
  Q0 x1 S) ∧
  ((¬ ((S.1 25 0) ≤ x2)) →
  vp_in x2 9 ∧
  ((¬ (S.1 33 x2.toNatClampNeg) = (-1)) →
  p_X7_levelsMany_28 Q0 K4 x2 1 x1 S) ∧
  (((S.1 33 x2.toNatClampNeg) = (-1)) →
  p_X7_levelsMany_28 Q0 K4 x2 0 x1 S))
def p_X7_levelsMany (S : St) (Q0 : Int32 → St → Prop) : Prop :=
  Lq (p_X7_levelsMany_4 Q0) (0, 0, S)
def p_X7_greatestLevel_32 (Q0 : Int32 → St → Prop) (K4 : Int32 × Int32 × St → Prop) (x2 : Int32) (t0 : Int32) (S : St) : Prop :=
  K4 (t0, (x2 + 1), S)
def p_X7_greatestLevel_4 (Q0 : Int32 → St → Prop) (K4 : Int32 × Int32 × St → Prop) : Int32 × Int32 × St → Prop
  | (x1, x2, S) => (((S.1 25 0) ≤ x2) →
  Q0 x1 S) ∧
  ((¬ ((S.1 25 0) ≤ x2)) →
  vp_in x2 9 ∧
  (((S.1 33 x2.toNatClampNeg) ≤ x1) →
  p_X7_greatestLevel_32 Q0 K4 x2 x1 S) ∧
  ((¬ ((S.1 33 x2.toNatClampNeg) ≤ x1)) →
  vp_in x2 9 ∧
  p_X7_greatestLevel_32 Q0 K4 x2 (S.1 33 x2.toNatClampNeg) S))
def p_X7_greatestLevel (S : St) (Q0 : Int32 → St → Prop) : Prop :=
  Lq (p_X7_greatestLevel_4 Q0) ((-1), 0, S)
def p_X7_mostOf_31 (Q0 : Int32 → St → Prop) (K4 : Int32 × Int32 × Int32 × St → Prop) (x1 : Int32) (x3 : Int32) (t0 : Int32) (t1 : Int32) (S : St) : Prop :=
  K4 (x1, (t1 + t0), (x3 + 1), S)
def p_X7_mostOf_4 (Q0 : Int32 → St → Prop) (K4 : Int32 × Int32 × Int32 × St → Prop) : Int32 × Int32 × Int32 × St → Prop
  | (x1, x2, x3, S) => (((S.1 25 0) ≤ x3) →
  Q0 x2 S) ∧
  ((¬ ((S.1 25 0) ≤ x3)) →
  p_X7_has x1 x3 S (fun r3 S2 =>
  ((r3 = 0) →
  p_X7_mostOf_31 Q0 K4 x1 x3 0 x2 S2) ∧
  ((¬ (r3 = 0)) →
  vp_in x3 9 ∧
  p_X7_mostOf_31 Q0 K4 x1 x3 (S2.1 34 x3.toNatClampNeg) x2 S2)))
def p_X7_mostOf (x1 : Int32) (S : St) (Q0 : Int32 → St → Prop) : Prop :=
  Lq (p_X7_mostOf_4 Q0) (x1, 0, 0, S)
def p_X7_aboutNow (x1 : Int32) (S : St) (Q0 : Int32 → St → Prop) : Prop :=
  p_X7_layLevels S (fun S1 =>
  ((x1 = 0) →
  Q0 (S1.1 25 0) S1) ∧
  ((¬ (x1 = 0)) →
  ((x1 = 1) →
  p_X7_ofKind 1 S1 (fun r5 S4 =>
  p_X7_size r5 S4 (fun r7 S6 =>
  Q0 r7 S6))) ∧
  ((¬ (x1 = 1)) →
  ((x1 = 2) →
  p_X7_ofKind 2 S1 (fun r10 S9 =>
  p_X7_size r10 S9 (fun r12 S11 =>
  Q0 r12 S11))) ∧
  ((¬ (x1 = 2)) →
  ((x1 = 3) →
  p_X7_vouchesAll S1 (fun r15 S14 =>
  Q0 r15 S14)) ∧
  ((¬ (x1 = 3)) →
  ((x1 = 4) →
  Q0 (S1.1 25 3) S1) ∧
  ((¬ (x1 = 4)) →
  ((x1 = 5) →
  p_X7_levelsMany S1 (fun r19 S18 =>
  Q0 r19 S18)) ∧
  ((¬ (x1 = 5)) →
  ((x1 = 6) →
  p_X7_greatestLevel S1 (fun r22 S21 =>
  Q0 r22 S21)) ∧
  ((¬ (x1 = 6)) →
  p_X7_mostOf ((1 <<< ((S1.1 25 0) &&& 31)) - 1) S1 (fun r24 S23 =>
  Q0 r24 S23)))))))))
def p_X7_about (x1 : Int32) (S : St) (Q0 : Int32 → St → Prop) : Prop :=
  p_X7_within x1 0 7 S (fun r2 S1 =>
  ((¬ r2 = 0) →
  p_X7_isCircle S1 (fun r5 S4 =>
  ((r5 = 0) →
  Q0 (-103) S4) ∧
  ((¬ (r5 = 0)) →
  p_X7_aboutNow x1 S4 (fun r8 S7 =>
  Q0 r8 S7)))) ∧
  ((r2 = 0) →
  Q0 (-102) S1))
def p_X6_takenIn_69 (Q0 : Int32 → St → Prop) (K13 : Int32 × Int32 × Int32 × St → Prop) (x1 : Int32) (x2 : Int32) (x3 : Int32) (S : St) : Prop :=
  K13 (x1, x2, (x3 + 1), S)
def p_X6_takenIn_13 (Q0 : Int32 → St → Prop) (K13 : Int32 × Int32 × Int32 × St → Prop) : Int32 × Int32 × Int32 × St → Prop
  | (x1, x2, x3, S) => (((S.1 2 0) ≤ x3) →
  Q0 x2 S) ∧
  ((¬ ((S.1 2 0) ≤ x3)) →
  vp_in x3 9 ∧
  (((S.1 4 x3.toNatClampNeg) = 2) →
  p_X6_takenIn_69 Q0 K13 x1 x2 x3 S) ∧
  ((¬ ((S.1 4 x3.toNatClampNeg) = 2)) →
  vp_in x3 9 ∧
  (((S.1 17 x3.toNatClampNeg) ≤ 0) →
  p_X6_takenIn_69 Q0 K13 x1 x2 x3 S) ∧
  ((¬ ((S.1 17 x3.toNatClampNeg) ≤ 0)) →
  vp_in x3 9 ∧
  ((((S.1 5 x3.toNatClampNeg) &&& x1) = 0) →
  p_X6_takenIn_69 Q0 K13 x1 x2 x3 S) ∧
  ((¬ (((S.1 5 x3.toNatClampNeg) &&& x1) = 0)) →
  p_X6_takenIn_69 Q0 K13 x1 (x2 ||| (1 <<< (x3 &&& 31))) x3 S))))
def p_X6_takenIn (S : St) (Q0 : Int32 → St → Prop) : Prop :=
  p_X0_ofKind 2 S (fun r2 S1 =>
  Lq (p_X6_takenIn_13 Q0) (r2, 0, 0, S1))
def p_J7_fill_53178_c18_5 (Q0 : St → Prop) (K5 : Int32 × Int32 × Int32 × St → Prop) : Int32 × Int32 × Int32 × St → Prop
  | (x1, x2, x3, S) => ((x3 ≤ x2) →
  Q0 S) ∧
  ((¬ (x3 ≤ x2)) →
  vp_in x2 9 ∧
  ∀ S2 : St, S2 = si S 18 x2.toNatClampNeg x1 →
  K5 (x1, (x2 + 1), x3, S2))
def p_J7_fill_53178_c18 (x1 : Int32) (S : St) (Q0 : St → Prop) : Prop :=
  Lq (p_J7_fill_53178_c18_5 Q0) (x1, 0, 9, S)
def p_J7_fill_53178_c19_5 (Q0 : St → Prop) (K5 : Int32 × Int32 × Int32 × St → Prop) : Int32 × Int32 × Int32 × St → Prop
  | (x1, x2, x3, S) => ((x3 ≤ x2) →
  Q0 S) ∧
  ((¬ (x3 ≤ x2)) →
  vp_in x2 81 ∧
  ∀ S2 : St, S2 = si S 19 x2.toNatClampNeg x1 →
  K5 (x1, (x2 + 1), x3, S2))
def p_J7_fill_53178_c19 (x1 : Int32) (S : St) (Q0 : St → Prop) : Prop :=
  Lq (p_J7_fill_53178_c19_5 Q0) (x1, 0, 81, S)
def p_X1_begin (S : St) (Q0 : St → Prop) : Prop :=
  p_J7_fill_53178_c18 0 S (fun S1 =>
  p_J7_fill_53178_c19 0 S1 (fun S2 =>
  Q0 S2))
def p_X1_note_80 (Q0 : St → Prop) (x3 : Int32) (S : St) : Prop :=
  ∀ S2 : St, S2 = si S 13 6 ((S.1 13 6) ||| x3) →
  Q0 S2
def p_X1_note_74 (Q0 : St → Prop) (K12 : Int32 × Int32 × Int32 × St → Prop) (x2 : Int32) (x3 : Int32) (x4 : Int32) (S : St) : Prop :=
  K12 (x2, x3, (x4 + 1), S)
def p_X1_note_12 (Q0 : St → Prop) (K12 : Int32 × Int32 × Int32 × St → Prop) : Int32 × Int32 × Int32 × St → Prop
  | (x2, x3, x4, S) => ((18 ≤ x4) →
  p_X1_note_80 Q0 x3 S) ∧
  ((¬ (18 ≤ x4)) →
  (((x3 >>> (x4 &&& 31)) = 0) →
  p_X1_note_80 Q0 x3 S) ∧
  ((¬ ((x3 >>> (x4 &&& 31)) = 0)) →
  ((¬ ((x3 >>> (x4 &&& 31)) &&& 1) = 1) →
  p_X1_note_74 Q0 K12 x2 x3 x4 S) ∧
  ((((x3 >>> (x4 &&& 31)) &&& 1) = 1) →
  ((18 ≤ (S.1 13 5)) →
  p_X1_note_74 Q0 K12 x2 x3 x4 S) ∧
  ((¬ (18 ≤ (S.1 13 5))) →
  vp_in x4 18 ∧
  ∀ S6 : St, S6 = si S 20 x4.toNatClampNeg x2 →
  vp_in (S6.1 13 5) 18 ∧
  ∀ S7 : St, S7 = si S6 21 (S6.1 13 5).toNatClampNeg x4 →
  ∀ S8 : St, S8 = si S7 13 5 ((S7.1 13 5) + 1) →
  p_X1_note_74 Q0 K12 x2 x3 x4 S8))))
def p_X1_note (x1 : Int32) (x2 : Int32) (S : St) (Q0 : St → Prop) : Prop :=
  Lq (p_X1_note_12 Q0) (x2, (x1 &&& ((S.1 13 6) ^^^ (-1))), 0, S)
def p_X1_nextOfGoing (x1 : Int32) (S : St) (Q0 : Int32 → St → Prop) : Prop :=
  vp_in x1 9 ∧
  vp_in x1 9 ∧
  (((S.1 18 x1.toNatClampNeg) ≤ 0) →
  Q0 ((S.1 15 x1.toNatClampNeg) ||| 0) S) ∧
  ((¬ ((S.1 18 x1.toNatClampNeg) ≤ 0)) →
  Q0 ((S.1 15 x1.toNatClampNeg) ||| (1 <<< (x1 &&& 31))) S)
def p_X1_nextOfComing_74 (Q0 : Int32 → St → Prop) (K31 : Int32 × Int32 × Int32 × St → Prop) (x1 : Int32) (x2 : Int32) (x3 : Int32) (S : St) : Prop :=
  K31 (x1, x2, (x3 + 1), S)
def p_X1_nextOfComing_31 (Q0 : Int32 → St → Prop) (K31 : Int32 × Int32 × Int32 × St → Prop) : Int32 × Int32 × Int32 × St → Prop
  | (x1, x2, x3, S) => (((S.1 14 0) ≤ x3) →
  Q0 x2 S) ∧
  ((¬ ((S.1 14 0) ≤ x3)) →
  vp_in x1 9 ∧
  (((S.1 18 x1.toNatClampNeg) ≤ 0) →
  Q0 x2 S) ∧
  ((¬ ((S.1 18 x1.toNatClampNeg) ≤ 0)) →
  vp_in ((x3 * 9) + x1) 81 ∧
  (((S.1 19 ((x3 * 9) + x1).toNatClampNeg) ≤ 0) →
  p_X1_nextOfComing_74 Q0 K31 x1 x2 x3 S) ∧
  ((¬ ((S.1 19 ((x3 * 9) + x1).toNatClampNeg) ≤ 0)) →
  p_X1_nextOfComing_74 Q0 K31 x1 (x2 ||| (1 <<< ((9 + x3) &&& 31))) x3 S)))
def p_X1_nextOfComing_28 (Q0 : Int32 → St → Prop) (x1 : Int32) (t0 : Int32) (S : St) : Prop :=
  Lq (p_X1_nextOfComing_31 Q0) (x1, t0, 0, S)
def p_X1_nextOfComing (x1 : Int32) (S : St) (Q0 : Int32 → St → Prop) : Prop :=
  vp_in x1 9 ∧
  vp_in x1 9 ∧
  (((S.1 17 x1.toNatClampNeg) ≤ (S.1 18 x1.toNatClampNeg)) →
  p_X1_nextOfComing_28 Q0 x1 0 S) ∧
  ((¬ ((S.1 17 x1.toNatClampNeg) ≤ (S.1 18 x1.toNatClampNeg))) →
  p_X1_nextOfComing_28 Q0 x1 (1 <<< ((9 + x1) &&& 31)) S)
def p_X1_search_74 (Q0 : St → Prop) (K24 : Int32 × Int32 × St → Prop) (x1 : Int32) (x2 : Int32) (x3 : Int32) (t0 : Int32) (S : St) : Prop :=
  p_X1_note t0 x3 S (fun S10 =>
  K24 (x1, (x2 + 1), S10))
def p_X1_search_24 (Q0 : St → Prop) (K24 : Int32 × Int32 × St → Prop) : Int32 × Int32 × St → Prop
  | (x1, x2, S) => (((S.1 13 5) ≤ x2) →
  Q0 S) ∧
  ((¬ ((S.1 13 5) ≤ x2)) →
  ((18 ≤ x2) →
  Q0 S) ∧
  ((¬ (18 ≤ x2)) →
  vp_in x2 18 ∧
  ((¬ (S.1 21 x2.toNatClampNeg) = x1) →
  ((9 ≤ (S.1 21 x2.toNatClampNeg)) →
  p_X1_nextOfGoing ((S.1 21 x2.toNatClampNeg) - 9) S (fun r9 S8 =>
  p_X1_search_74 Q0 K24 x1 x2 (S.1 21 x2.toNatClampNeg) r9 S8)) ∧
  ((¬ (9 ≤ (S.1 21 x2.toNatClampNeg))) →
  p_X1_nextOfComing (S.1 21 x2.toNatClampNeg) S (fun r12 S11 =>
  p_X1_search_74 Q0 K24 x1 x2 (S.1 21 x2.toNatClampNeg) r12 S11))) ∧
  (((S.1 21 x2.toNatClampNeg) = x1) →
  Q0 S)))
def p_X1_search (x1 : Int32) (S : St) (Q0 : St → Prop) : Prop :=
  ∀ S1 : St, S1 = si S 13 6 0 →
  ∀ S2 : St, S2 = si S1 13 5 0 →
  p_X1_note (S2.1 14 1) (-1) S2 (fun S3 =>
  Lq (p_X1_search_24 Q0) (x1, 0, S3))
def p_X1_moveFromGoing (x1 : Int32) (x2 : Int32) (S : St) (Q0 : St → Prop) : Prop :=
  ((¬ x1 = x2) →
  vp_in ((x1 * 9) + x2) 81 ∧
  vp_in ((x1 * 9) + x2) 81 ∧
  ∀ S2 : St, S2 = si S 19 ((x1 * 9) + x2).toNatClampNeg ((S.1 19 ((x1 * 9) + x2).toNatClampNeg) + 1) →
  Q0 S2) ∧
  ((x1 = x2) →
  vp_in x1 9 ∧
  vp_in x1 9 ∧
  ∀ S3 : St, S3 = si S 18 x1.toNatClampNeg ((S.1 18 x1.toNatClampNeg) - 1) →
  Q0 S3)
def p_X1_moveFromComing (x1 : Int32) (x2 : Int32) (S : St) (Q0 : St → Prop) : Prop :=
  ((¬ x1 = x2) →
  vp_in ((x2 * 9) + x1) 81 ∧
  vp_in ((x2 * 9) + x1) 81 ∧
  ∀ S2 : St, S2 = si S 19 ((x2 * 9) + x1).toNatClampNeg ((S.1 19 ((x2 * 9) + x1).toNatClampNeg) - 1) →
  Q0 S2) ∧
  ((x1 = x2) →
  vp_in x1 9 ∧
  vp_in x1 9 ∧
  ∀ S3 : St, S3 = si S 18 x1.toNatClampNeg ((S.1 18 x1.toNatClampNeg) + 1) →
  Q0 S3)
def p_X1_move (x1 : Int32) (x2 : Int32) (S : St) (Q0 : St → Prop) : Prop :=
  ((9 ≤ x1) →
  p_X1_moveFromGoing (x1 - 9) x2 S (fun S2 =>
  Q0 S2)) ∧
  ((¬ (9 ≤ x1)) →
  p_X1_moveFromComing x1 (x2 - 9) S (fun S3 =>
  Q0 S3))
def p_X1_sendTo_25 (Q0 : Int32 → St → Prop) (K25 : Int32 × Int32 × St → Prop) : Int32 × Int32 × St → Prop
  | (x2, x3, S) => ((18 ≤ x3) →
  Q0 1 S) ∧
  ((¬ (18 ≤ x3)) →
  vp_in x2 18 ∧
  (((S.1 20 x2.toNatClampNeg) = (-1)) →
  Q0 1 S) ∧
  ((¬ ((S.1 20 x2.toNatClampNeg) = (-1))) →
  vp_in x2 18 ∧
  p_X1_move (S.1 20 x2.toNatClampNeg) x2 S (fun S7 =>
  vp_in x2 18 ∧
  K25 ((S7.1 20 x2.toNatClampNeg), (x3 + 1), S7))))
def p_X1_sendTo (x1 : Int32) (S : St) (Q0 : Int32 → St → Prop) : Prop :=
  p_X1_search (9 + x1) S (fun S1 =>
  p_X6_bit (S1.1 13 6) (9 + x1) S1 (fun r3 S2 =>
  ((¬ r3 = 0) →
  Lq (p_X1_sendTo_25 Q0) ((9 + x1), 0, S2)) ∧
  ((r3 = 0) →
  Q0 0 S2)))
def p_X6_admitted_48 (Q0 : Int32 → St → Prop) (K11 : Int32 × Int32 × Int32 × St → Prop) (x1 : Int32) (x2 : Int32) (x3 : Int32) (S : St) : Prop :=
  K11 (x1, x2, (x3 + 1), S)
def p_X6_admitted_11 (Q0 : Int32 → St → Prop) (K11 : Int32 × Int32 × Int32 × St → Prop) : Int32 × Int32 × Int32 × St → Prop
  | (x1, x2, x3, S) => (((S.1 2 0) ≤ x3) →
  Q0 x2 S) ∧
  ((¬ ((S.1 2 0) ≤ x3)) →
  p_X6_bit x1 x3 S (fun r4 S3 =>
  ((¬ r4 = 1) →
  p_X6_admitted_48 Q0 K11 x1 x2 x3 S3) ∧
  ((r4 = 1) →
  p_X1_sendTo x3 S3 (fun r7 S6 =>
  ((r7 = 0) →
  p_X6_admitted_48 Q0 K11 x1 x2 x3 S6) ∧
  ((¬ (r7 = 0)) →
  p_X6_admitted_48 Q0 K11 x1 (x2 ||| (1 <<< (x3 &&& 31))) x3 S6)))))
def p_X6_admitted (x1 : Int32) (S : St) (Q0 : Int32 → St → Prop) : Prop :=
  p_X1_begin S (fun S1 =>
  Lq (p_X6_admitted_11 Q0) (x1, 0, 0, S1))
def p_X0_vouchersOf_27 (Q0 : Int32 → St → Prop) (K4 : Int32 × Int32 × Int32 × St → Prop) (x1 : Int32) (x2 : Int32) (x3 : Int32) (S : St) : Prop :=
  K4 (x1, x2, (x3 + 1), S)
def p_X0_vouchersOf_4 (Q0 : Int32 → St → Prop) (K4 : Int32 × Int32 × Int32 × St → Prop) : Int32 × Int32 × Int32 × St → Prop
  | (x1, x2, x3, S) => (((S.1 2 0) ≤ x3) →
  Q0 x2 S) ∧
  ((¬ ((S.1 2 0) ≤ x3)) →
  p_X0_hasVouch x3 x1 S (fun r3 S2 =>
  ((r3 = 0) →
  p_X0_vouchersOf_27 Q0 K4 x1 x2 x3 S2) ∧
  ((¬ (r3 = 0)) →
  p_X0_vouchersOf_27 Q0 K4 x1 (x2 ||| (1 <<< (x3 &&& 31))) x3 S2)))
def p_X0_vouchersOf (x1 : Int32) (S : St) (Q0 : Int32 → St → Prop) : Prop :=
  Lq (p_X0_vouchersOf_4 Q0) (x1, 0, 0, S)
def p_X4_allowOnePathThroughAllBut (x1 : Int32) (S : St) (Q0 : St → Prop) : Prop :=
  p_J7_fill_53178_c17 1 S (fun S1 =>
  vp_in x1 9 ∧
  ∀ S2 : St, S2 = si S1 17 x1.toNatClampNeg 9 →
  Q0 S2)
def p_X6_waysTo_45 (Q0 : Int32 → St → Prop) (K45 : Int32 × Int32 × Int32 × St → Prop) : Int32 × Int32 × Int32 × St → Prop
  | (x1, x2, x3, S) => ((9 ≤ x3) →
  Q0 x2 S) ∧
  ((¬ (9 ≤ x3)) →
  p_X1_sendTo x1 S (fun r7 S6 =>
  ((r7 = 0) →
  Q0 x2 S6) ∧
  ((¬ (r7 = 0)) →
  K45 (x1, (x2 + 1), (x3 + 1), S6))))
def p_X6_waysTo (x1 : Int32) (S : St) (Q0 : Int32 → St → Prop) : Prop :=
  vp_in x1 9 ∧
  ((¬ (S.1 4 x1.toNatClampNeg) = 1) →
  p_X4_copy S (fun S2 =>
  p_X4_allowOnePathThroughAllBut x1 S2 (fun S3 =>
  p_X1_begin S3 (fun S4 =>
  Lq (p_X6_waysTo_45 Q0) (x1, 0, 0, S4))))) ∧
  (((S.1 4 x1.toNatClampNeg) = 1) →
  Q0 (-1) S)
def p_X6_person_192 (Q0 : Int32 → St → Prop) (x1 : Int32) (S : St) : Prop :=
  p_X6_takenIn S (fun r13 S12 =>
  p_X6_bit r13 x1 S12 (fun r15 S14 =>
  Q0 r15 S14))
def p_X6_person_117 (Q0 : Int32 → St → Prop) (x1 : Int32) (x2 : Int32) (S : St) : Prop :=
  p_X6_prepareWeb S (fun S8 =>
  ((x2 = 1) →
  vp_in x1 9 ∧
  Q0 (S8.1 16 x1.toNatClampNeg) S8) ∧
  ((¬ (x2 = 1)) →
  ((x2 = 2) →
  vp_in x1 9 ∧
  Q0 (S8.1 17 x1.toNatClampNeg) S8) ∧
  ((¬ (x2 = 2)) →
  ((x2 = 3) →
  p_X6_person_192 Q0 x1 S8) ∧
  ((¬ (x2 = 3)) →
  ((x2 = 4) →
  p_X6_person_192 Q0 x1 S8) ∧
  ((¬ (x2 = 4)) →
  ((x2 = 5) →
  p_X0_everyone S8 (fun r19 S18 =>
  p_X6_admitted r19 S18 (fun r21 S20 =>
  p_X6_bit r21 x1 S20 (fun r23 S22 =>
  Q0 r23 S22)))) ∧
  ((¬ (x2 = 5)) →
  p_X6_person_192 Q0 x1 S8))))))
def p_X6_person (x1 : Int32) (x2 : Int32) (S : St) (Q0 : Int32 → St → Prop) : Prop :=
  p_X0_has x1 S (fun r2 S1 =>
  ((¬ r2 = 0) →
  ((x2 < 0) →
  Q0 (-102) S1) ∧
  ((¬ (x2 < 0)) →
  ((x2 ≤ 7) →
  ((x2 = 0) →
  vp_in x1 9 ∧
  Q0 (S1.1 4 x1.toNatClampNeg) S1) ∧
  ((¬ (x2 = 0)) →
  ((x2 = 1) →
  p_X6_person_117 Q0 x1 x2 S1) ∧
  ((¬ (x2 = 1)) →
  ((x2 = 2) →
  p_X6_person_117 Q0 x1 x2 S1) ∧
  ((¬ (x2 = 2)) →
  ((x2 = 3) →
  vp_in x1 9 ∧
  p_J6_bitCount_0f7a4 (S1.1 5 x1.toNatClampNeg) S1 (fun r27 S26 =>
  Q0 r27 S26)) ∧
  ((¬ (x2 = 3)) →
  ((x2 = 4) →
  p_X0_vouchersOf x1 S1 (fun r30 S29 =>
  p_J6_bitCount_0f7a4 r30 S29 (fun r32 S31 =>
  Q0 r32 S31))) ∧
  ((¬ (x2 = 4)) →
  ((x2 = 5) →
  p_X6_person_117 Q0 x1 x2 S1) ∧
  ((¬ (x2 = 5)) →
  ((x2 = 6) →
  p_X6_person_117 Q0 x1 x2 S1) ∧
  ((¬ (x2 = 6)) →
  ((x2 = 7) →
  p_X6_waysTo x1 S1 (fun r37 S36 =>
  Q0 r37 S36)) ∧
  ((¬ (x2 = 7)) →
  p_X6_person_117 Q0 x1 x2 S1))))))))) ∧
  ((¬ (x2 ≤ 7)) →
  Q0 (-102) S1))) ∧
  ((r2 = 0) →
  Q0 (-101) S1))
def p_X7_wallOf (x1 : Int32) (S : St) (Q0 : Int32 → St → Prop) : Prop :=
  p_X7_ofKind 1 S (fun r2 S1 =>
  p_X7_vouchedBy x1 S1 (fun r4 S3 =>
  Q0 ((r2 ||| r4) &&& (x1 ^^^ (-1))) S3))
def p_X7_lay_6 (Q0 : St → Prop) (K6 : Int32 × St → Prop) : Int32 × St → Prop
  | (x1, S) => (((1 <<< ((S.1 25 0) &&& 31)) ≤ x1) →
  Q0 S) ∧
  ((¬ ((1 <<< ((S.1 25 0) &&& 31)) ≤ x1)) →
  p_X7_wallOf x1 S (fun r4 S3 =>
  p_X7_mostOf r4 S3 (fun r6 S5 =>
  vp_in x1 512 ∧
  ∀ S7 : St, S7 = si S5 35 x1.toNatClampNeg r6 →
  K6 ((x1 + 1), S7))))
def p_X7_lay (S : St) (Q0 : St → Prop) : Prop :=
  p_X7_layLevels S (fun S1 =>
  Lq (p_X7_lay_6 Q0) (0, S1))
def p_X7_vouchersOf_31 (Q0 : Int32 → St → Prop) (K4 : Int32 × Int32 × Int32 × St → Prop) (x1 : Int32) (x3 : Int32) (t0 : Int32) (t1 : Int32) (S : St) : Prop :=
  K4 (x1, (t1 + t0), (x3 + 1), S)
def p_X7_vouchersOf_4 (Q0 : Int32 → St → Prop) (K4 : Int32 × Int32 × Int32 × St → Prop) : Int32 × Int32 × Int32 × St → Prop
  | (x1, x2, x3, S) => (((S.1 25 0) ≤ x3) →
  Q0 x2 S) ∧
  ((¬ ((S.1 25 0) ≤ x3)) →
  vp_in x3 9 ∧
  p_X7_has (S.1 27 x3.toNatClampNeg) x1 S (fun r3 S2 =>
  ((r3 = 0) →
  p_X7_vouchersOf_31 Q0 K4 x1 x3 0 x2 S2) ∧
  ((¬ (r3 = 0)) →
  p_X7_vouchersOf_31 Q0 K4 x1 x3 1 x2 S2)))
def p_X7_vouchersOf (x1 : Int32) (S : St) (Q0 : Int32 → St → Prop) : Prop :=
  Lq (p_X7_vouchersOf_4 Q0) (x1, 0, 0, S)
def p_X7_canBe_40 (Q0 : Int32 → St → Prop) (K4 : Int32 × Int32 × Int32 × St → Prop) (x1 : Int32) (x3 : Int32) (t0 : Int32) (S : St) : Prop :=
  K4 (x1, t0, (x3 + 1), S)
def p_X7_canBe_4 (Q0 : Int32 → St → Prop) (K4 : Int32 × Int32 × Int32 × St → Prop) : Int32 × Int32 × Int32 × St → Prop
  | (x1, x2, x3, S) => (((1 <<< ((S.1 25 0) &&& 31)) ≤ x3) →
  bz x2 ∧ Q0 x2 S) ∧
  ((¬ ((1 <<< ((S.1 25 0) &&& 31)) ≤ x3)) →
  ((x2 = 0) →
  bz x2 ∧ Q0 x2 S) ∧
  ((¬ (x2 = 0)) →
  vp_in x3 512 ∧
  p_X7_size (x1 &&& (x3 ^^^ (-1))) S (fun r4 S3 =>
  (((S.1 35 x3.toNatClampNeg) < r4) →
  p_X7_canBe_40 Q0 K4 x1 x3 0 S3) ∧
  ((¬ ((S.1 35 x3.toNatClampNeg) < r4)) →
  p_X7_canBe_40 Q0 K4 x1 x3 1 S3))))
def p_X7_canBe (x1 : Int32) (S : St) (Q0 : Int32 → St → Prop) : Prop :=
  Lq (p_X7_canBe_4 Q0) (x1, 1, 0, S)
def p_X7_allIn_32 (Q0 : Int32 → St → Prop) (K4 : Int32 × Int32 × St → Prop) (x2 : Int32) (t0 : Int32) (t1 : Int32) (S : St) : Prop :=
  K4 ((t1 ||| t0), (x2 + 1), S)
def p_X7_allIn_4 (Q0 : Int32 → St → Prop) (K4 : Int32 × Int32 × St → Prop) : Int32 × Int32 × St → Prop
  | (x1, x2, S) => (((S.1 25 0) ≤ x2) →
  Q0 x1 S) ∧
  ((¬ ((S.1 25 0) ≤ x2)) →
  p_X7_canBe (x1 ||| (1 <<< (x2 &&& 31))) S (fun r3 S2 =>
  ((r3 = 0) →
  p_X7_allIn_32 Q0 K4 x2 0 x1 S2) ∧
  ((¬ (r3 = 0)) →
  p_X7_allIn_32 Q0 K4 x2 (1 <<< (x2 &&& 31)) x1 S2)))
def p_X7_allIn (S : St) (Q0 : Int32 → St → Prop) : Prop :=
  Lq (p_X7_allIn_4 Q0) (0, 0, S)
def p_X7_takenIn_64 (Q0 : Int32 → St → Prop) (K4 : Int32 × Int32 × St → Prop) (x2 : Int32) (t0 : Int32) (t1 : Int32) (S : St) : Prop :=
  K4 ((t1 ||| t0), (x2 + 1), S)
def p_X7_takenIn_51 (Q0 : Int32 → St → Prop) (K4 : Int32 × Int32 × St → Prop) (x1 : Int32) (x2 : Int32) (t0 : Int32) (S : St) : Prop :=
  ((t0 = 0) →
  p_X7_takenIn_64 Q0 K4 x2 0 x1 S) ∧
  ((¬ (t0 = 0)) →
  p_X7_takenIn_64 Q0 K4 x2 (1 <<< (x2 &&& 31)) x1 S)
def p_X7_takenIn_50 (Q0 : Int32 → St → Prop) (K4 : Int32 × Int32 × St → Prop) (x1 : Int32) (x2 : Int32) (S : St) : Prop :=
  p_X7_takenIn_51 Q0 K4 x1 x2 0 S
def p_X7_takenIn_4 (Q0 : Int32 → St → Prop) (K4 : Int32 × Int32 × St → Prop) : Int32 × Int32 × St → Prop
  | (x1, x2, S) => (((S.1 25 0) ≤ x2) →
  Q0 x1 S) ∧
  ((¬ ((S.1 25 0) ≤ x2)) →
  vp_in x2 9 ∧
  (((S.1 26 x2.toNatClampNeg) = 2) →
  p_X7_takenIn_50 Q0 K4 x1 x2 S) ∧
  ((¬ ((S.1 26 x2.toNatClampNeg) = 2)) →
  vp_in x2 9 ∧
  (((S.1 34 x2.toNatClampNeg) ≤ 0) →
  p_X7_takenIn_50 Q0 K4 x1 x2 S) ∧
  ((¬ ((S.1 34 x2.toNatClampNeg) ≤ 0)) →
  vp_in x2 9 ∧
  p_X7_ofKind 2 S (fun r6 S5 =>
  ((((S.1 27 x2.toNatClampNeg) &&& r6) = 0) →
  p_X7_takenIn_50 Q0 K4 x1 x2 S5) ∧
  ((¬ (((S.1 27 x2.toNatClampNeg) &&& r6) = 0)) →
  p_X7_takenIn_51 Q0 K4 x1 x2 1 S5)))))
def p_X7_takenIn (S : St) (Q0 : Int32 → St → Prop) : Prop :=
  Lq (p_X7_takenIn_4 Q0) (0, 0, S)
def p_X7_isLed_13 (Q0 : Int32 → St → Prop) (K13 : Int32 × Int32 × Int32 × Int32 × St → Prop) : Int32 × Int32 × Int32 × Int32 × St → Prop
  | (x1, x2, x3, x4, S) => (((S.1 25 0) ≤ x4) →
  p_X7_has x3 x1 S (fun r5 S4 =>
  bz r5 ∧ Q0 r5 S4)) ∧
  ((¬ ((S.1 25 0) ≤ x4)) →
  p_X7_vouchedBy x3 S (fun r7 S6 =>
  K13 (x1, x2, (x3 ||| (r7 &&& (x2 ^^^ (-1)))), (x4 + 1), S6)))
def p_X7_isLed (x1 : Int32) (x2 : Int32) (S : St) (Q0 : Int32 → St → Prop) : Prop :=
  p_X7_ofKind 1 S (fun r2 S1 =>
  Lq (p_X7_isLed_13 Q0) (x1, x2, (r2 &&& (x2 ^^^ (-1))), 0, S1))
def p_X7_apartNow_76 (Q0 : Int32 → St → Prop) (K16 : Int32 × Int32 × Int32 × St → Prop) (x1 : Int32) (x3 : Int32) (t0 : Int32) (S : St) : Prop :=
  K16 (x1, t0, (x3 + 1), S)
def p_X7_apartNow_75 (Q0 : Int32 → St → Prop) (K16 : Int32 × Int32 × Int32 × St → Prop) (x1 : Int32) (x2 : Int32) (x3 : Int32) (S : St) : Prop :=
  p_X7_apartNow_76 Q0 K16 x1 x3 x2 S
def p_X7_apartNow_55 (Q0 : Int32 → St → Prop) (K16 : Int32 × Int32 × Int32 × St → Prop) (x1 : Int32) (x2 : Int32) (x3 : Int32) (t0 : Int32) (S : St) : Prop :=
  ((t0 = 0) →
  p_X7_apartNow_75 Q0 K16 x1 x2 x3 S) ∧
  ((¬ (t0 = 0)) →
  p_X7_isLed x1 x3 S (fun r8 S7 =>
  ((¬ r8 = 0) →
  p_X7_apartNow_75 Q0 K16 x1 x2 x3 S7) ∧
  ((r8 = 0) →
  p_X7_apartNow_76 Q0 K16 x1 x3 x3 S7)))
def p_X7_apartNow_54 (Q0 : Int32 → St → Prop) (K16 : Int32 × Int32 × Int32 × St → Prop) (x1 : Int32) (x2 : Int32) (x3 : Int32) (S : St) : Prop :=
  p_X7_apartNow_55 Q0 K16 x1 x2 x3 0 S
def p_X7_apartNow_50 (Q0 : Int32 → St → Prop) (K16 : Int32 × Int32 × Int32 × St → Prop) (x1 : Int32) (x2 : Int32) (x3 : Int32) (S : St) : Prop :=
  p_X7_apartNow_55 Q0 K16 x1 x2 x3 1 S
def p_X7_apartNow_16 (Q0 : Int32 → St → Prop) (K16 : Int32 × Int32 × Int32 × St → Prop) : Int32 × Int32 × Int32 × St → Prop
  | (x1, x2, x3, S) => (((1 <<< ((S.1 25 0) &&& 31)) ≤ x3) →
  Q0 x2 S) ∧
  ((¬ ((1 <<< ((S.1 25 0) &&& 31)) ≤ x3)) →
  p_X7_has x3 x1 S (fun r4 S3 =>
  ((¬ r4 = 0) →
  p_X7_apartNow_54 Q0 K16 x1 x2 x3 S3) ∧
  ((r4 = 0) →
  ((x2 = (-1)) →
  p_X7_apartNow_50 Q0 K16 x1 x2 x3 S3) ∧
  ((¬ (x2 = (-1))) →
  p_X7_size x3 S3 (fun r12 S11 =>
  p_X7_size x2 S11 (fun r14 S13 =>
  ((r14 ≤ r12) →
  p_X7_apartNow_54 Q0 K16 x1 x2 x3 S13) ∧
  ((¬ (r14 ≤ r12)) →
  p_X7_apartNow_50 Q0 K16 x1 x2 x3 S13)))))))
def p_X7_apartNow (x1 : Int32) (S : St) (Q0 : Int32 → St → Prop) : Prop :=
  vp_in x1 9 ∧
  ((¬ (S.1 26 x1.toNatClampNeg) = 1) →
  Lq (p_X7_apartNow_16 Q0) (x1, (-1), 0, S)) ∧
  (((S.1 26 x1.toNatClampNeg) = 1) →
  Q0 (-1) S)
def p_X7_personNow (x1 : Int32) (x2 : Int32) (S : St) (Q0 : Int32 → St → Prop) : Prop :=
  p_X7_lay S (fun S1 =>
  ((x2 = 0) →
  vp_in x1 9 ∧
  Q0 (S1.1 26 x1.toNatClampNeg) S1) ∧
  ((¬ (x2 = 0)) →
  ((x2 = 1) →
  vp_in x1 9 ∧
  Q0 (S1.1 33 x1.toNatClampNeg) S1) ∧
  ((¬ (x2 = 1)) →
  ((x2 = 2) →
  vp_in x1 9 ∧
  Q0 (S1.1 34 x1.toNatClampNeg) S1) ∧
  ((¬ (x2 = 2)) →
  ((x2 = 3) →
  vp_in x1 9 ∧
  p_X7_size (S1.1 27 x1.toNatClampNeg) S1 (fun r7 S6 =>
  Q0 r7 S6)) ∧
  ((¬ (x2 = 3)) →
  ((x2 = 4) →
  p_X7_vouchersOf x1 S1 (fun r10 S9 =>
  Q0 r10 S9)) ∧
  ((¬ (x2 = 4)) →
  ((x2 = 5) →
  p_X7_allIn S1 (fun r13 S12 =>
  p_X7_has r13 x1 S12 (fun r15 S14 =>
  ((r15 = 0) →
  Q0 0 S14) ∧
  ((¬ (r15 = 0)) →
  Q0 1 S14)))) ∧
  ((¬ (x2 = 5)) →
  ((x2 = 6) →
  p_X7_takenIn S1 (fun r19 S18 =>
  p_X7_has r19 x1 S18 (fun r21 S20 =>
  ((r21 = 0) →
  Q0 0 S20) ∧
  ((¬ (r21 = 0)) →
  Q0 1 S20)))) ∧
  ((¬ (x2 = 6)) →
  vp_in x1 9 ∧
  ((¬ (S1.1 26 x1.toNatClampNeg) = 1) →
  p_X7_apartNow x1 S1 (fun r25 S24 =>
  p_X7_size r25 S24 (fun r27 S26 =>
  Q0 r27 S26))) ∧
  (((S1.1 26 x1.toNatClampNeg) = 1) →
  Q0 (-1) S1)))))))))
def p_X7_person (x1 : Int32) (x2 : Int32) (S : St) (Q0 : Int32 → St → Prop) : Prop :=
  p_X7_isPerson x1 S (fun r2 S1 =>
  ((¬ r2 = 0) →
  p_X7_within x2 0 7 S1 (fun r5 S4 =>
  ((r5 = 0) →
  Q0 (-102) S4) ∧
  ((¬ (r5 = 0)) →
  p_X7_personNow x1 x2 S4 (fun r8 S7 =>
  Q0 r8 S7)))) ∧
  ((r2 = 0) →
  Q0 (-101) S1))
def p_X6_vouches (x1 : Int32) (x2 : Int32) (S : St) (Q0 : Int32 → St → Prop) : Prop :=
  p_X0_hasPair x1 x2 S (fun r2 S1 =>
  ((¬ r2 = 0) →
  vp_in x1 9 ∧
  p_X6_bit (S1.1 5 x1.toNatClampNeg) x2 S1 (fun r5 S4 =>
  Q0 r5 S4)) ∧
  ((r2 = 0) →
  Q0 (-101) S1))
def p_X7_vouches (x1 : Int32) (x2 : Int32) (S : St) (Q0 : Int32 → St → Prop) : Prop :=
  p_X7_areTwo x1 x2 S (fun r2 S1 =>
  ((¬ r2 = 0) →
  vp_in x1 9 ∧
  p_X7_has (S1.1 27 x1.toNatClampNeg) x2 S1 (fun r5 S4 =>
  ((r5 = 0) →
  Q0 0 S4) ∧
  ((¬ (r5 = 0)) →
  Q0 1 S4))) ∧
  ((r2 = 0) →
  Q0 (-101) S1))
def p_X6_generous_93 (Q0 : Int32 → St → Prop) (K22 : Int32 × Int32 × Int32 × Int32 × St → Prop) (x1 : Int32) (x2 : Int32) (x3 : Int32) (x4 : Int32) (S : St) : Prop :=
  K22 (x1, x2, x3, (x4 + 1), S)
def p_X6_generous_84 (Q0 : Int32 → St → Prop) (K22 : Int32 × Int32 × Int32 × Int32 × St → Prop) (x4 : Int32) (x5 : Int32) (x6 : Int32) (S : St) : Prop :=
  p_X6_generous_93 Q0 K22 x4 x5 x6 x4 S
def p_X6_generous_22 (Q0 : Int32 → St → Prop) (K22 : Int32 × Int32 × Int32 × Int32 × St → Prop) : Int32 × Int32 × Int32 × Int32 × St → Prop
  | (x1, x2, x3, x4, S) => (((S.1 2 0) ≤ x4) →
  Q0 x1 S) ∧
  ((¬ ((S.1 2 0) ≤ x4)) →
  vp_in x4 9 ∧
  p_J6_bitCount_0f7a4 (S.1 5 x4.toNatClampNeg) S (fun r6 S5 =>
  p_X0_vouchersOf x4 S5 (fun r8 S7 =>
  p_J6_bitCount_0f7a4 r8 S7 (fun r10 S9 =>
  ((r10 ≤ 0) →
  p_X6_generous_93 Q0 K22 x1 x2 x3 x4 S9) ∧
  ((¬ (r10 ≤ 0)) →
  ((x1 = (-1)) →
  p_X6_generous_84 Q0 K22 x4 r6 r10 S9) ∧
  ((¬ (x1 = (-1))) →
  (((r6 * x3) ≤ (x2 * r10)) →
  p_X6_generous_93 Q0 K22 x1 x2 x3 x4 S9) ∧
  ((¬ ((r6 * x3) ≤ (x2 * r10))) →
  p_X6_generous_84 Q0 K22 x4 r6 r10 S9)))))))
def p_X6_generous (S : St) (Q0 : Int32 → St → Prop) : Prop :=
  p_X0_exists S (fun r2 S1 =>
  ((¬ r2 = 0) →
  Lq (p_X6_generous_22 Q0) ((-1), 0, 0, 0, S1)) ∧
  ((r2 = 0) →
  Q0 (-103) S1))
def p_X7_generousNow_70 (Q0 : Int32 → St → Prop) (K4 : Int32 × Int32 × St → Prop) (x1 : Int32) (x2 : Int32) (S : St) : Prop :=
  K4 (x1, (x2 + 1), S)
def p_X7_generousNow_68 (Q0 : Int32 → St → Prop) (K4 : Int32 × Int32 × St → Prop) (x2 : Int32) (S : St) : Prop :=
  p_X7_generousNow_70 Q0 K4 x2 x2 S
def p_X7_generousNow_25 (Q0 : Int32 → St → Prop) (K4 : Int32 × Int32 × St → Prop) (x1 : Int32) (x2 : Int32) (t0 : Int32) (S : St) : Prop :=
  ((t0 = 0) →
  p_X7_generousNow_70 Q0 K4 x1 x2 S) ∧
  ((¬ (t0 = 0)) →
  ((x1 = (-1)) →
  p_X7_generousNow_68 Q0 K4 x2 S) ∧
  ((¬ (x1 = (-1))) →
  vp_in x2 9 ∧
  p_X7_size (S.1 27 x2.toNatClampNeg) S (fun r8 S7 =>
  p_X7_vouchersOf x1 S7 (fun r10 S9 =>
  vp_in x1 9 ∧
  p_X7_size (S9.1 27 x1.toNatClampNeg) S9 (fun r12 S11 =>
  p_X7_vouchersOf x2 S11 (fun r14 S13 =>
  (((r8 * r10) ≤ (r12 * r14)) →
  p_X7_generousNow_70 Q0 K4 x1 x2 S13) ∧
  ((¬ ((r8 * r10) ≤ (r12 * r14))) →
  p_X7_generousNow_68 Q0 K4 x2 S13)))))))
def p_X7_generousNow_4 (Q0 : Int32 → St → Prop) (K4 : Int32 × Int32 × St → Prop) : Int32 × Int32 × St → Prop
  | (x1, x2, S) => (((S.1 25 0) ≤ x2) →
  Q0 x1 S) ∧
  ((¬ ((S.1 25 0) ≤ x2)) →
  p_X7_vouchersOf x2 S (fun r3 S2 =>
  ((r3 ≤ 0) →
  p_X7_generousNow_25 Q0 K4 x1 x2 0 S2) ∧
  ((¬ (r3 ≤ 0)) →
  p_X7_generousNow_25 Q0 K4 x1 x2 1 S2)))
def p_X7_generousNow (S : St) (Q0 : Int32 → St → Prop) : Prop :=
  Lq (p_X7_generousNow_4 Q0) ((-1), 0, S)
def p_X7_generous (S : St) (Q0 : Int32 → St → Prop) : Prop :=
  p_X7_isCircle S (fun r2 S1 =>
  ((r2 = 0) →
  Q0 (-103) S1) ∧
  ((¬ (r2 = 0)) →
  p_X7_generousNow S1 (fun r5 S4 =>
  Q0 r5 S4)))
def p_X4_silence_26 (Q0 : St → Prop) (K2 : Int32 × Int32 × St → Prop) (x1 : Int32) (x2 : Int32) (S : St) : Prop :=
  K2 (x1, (x2 + 1), S)
def p_X4_silence_2 (Q0 : St → Prop) (K2 : Int32 × Int32 × St → Prop) : Int32 × Int32 × St → Prop
  | (x1, x2, S) => (((S.1 14 0) ≤ x2) →
  Q0 S) ∧
  ((¬ ((S.1 14 0) ≤ x2)) →
  p_X6_bit x1 x2 S (fun r3 S2 =>
  ((¬ r3 = 1) →
  p_X4_silence_26 Q0 K2 x1 x2 S2) ∧
  ((r3 = 1) →
  vp_in x2 9 ∧
  ∀ S5 : St, S5 = si S2 15 x2.toNatClampNeg 0 →
  p_X4_silence_26 Q0 K2 x1 x2 S5)))
def p_X4_silence (x1 : Int32) (S : St) (Q0 : St → Prop) : Prop :=
  Lq (p_X4_silence_2 Q0) (x1, 0, S)
def p_X6_trust_76 (Q0 : Int32 → St → Prop) (x1 : Int32) (x2 : Int32) (S : St) : Prop :=
  ((x1 = 1) →
  p_X0_everyone S (fun r12 S11 =>
  p_X6_admitted r12 S11 (fun r14 S13 =>
  p_J6_bitCount_0f7a4 (r14 &&& x2) S13 (fun r16 S15 =>
  Q0 r16 S15)))) ∧
  ((¬ (x1 = 1)) →
  ((x1 = 2) →
  p_X6_admitted x2 S (fun r19 S18 =>
  p_J6_bitCount_0f7a4 r19 S18 (fun r21 S20 =>
  Q0 r21 S20))) ∧
  ((¬ (x1 = 2)) →
  ((x1 = 3) →
  p_X6_takenIn S (fun r24 S23 =>
  p_X4_limitsOf r24 S23 (fun r26 S25 =>
  Q0 r26 S25))) ∧
  ((¬ (x1 = 3)) →
  p_X0_everyone S (fun r28 S27 =>
  p_X6_admitted r28 S27 (fun r30 S29 =>
  p_J6_bitCount_0f7a4 r30 S29 (fun r32 S31 =>
  Q0 r32 S31))))))
def p_X6_trust (x1 : Int32) (S : St) (Q0 : Int32 → St → Prop) : Prop :=
  ((x1 < 0) →
  Q0 (-102) S) ∧
  ((¬ (x1 < 0)) →
  ((x1 ≤ 4) →
  p_X0_exists S (fun r4 S3 =>
  ((¬ r4 = 0) →
  p_X0_ofKind 2 S3 (fun r7 S6 =>
  ((¬ x1 = 4) →
  p_X6_prepareWeb S6 (fun S9 =>
  p_X6_trust_76 Q0 x1 r7 S9)) ∧
  ((x1 = 4) →
  p_X4_copy S6 (fun S33 =>
  p_X4_silence r7 S33 (fun S34 =>
  p_X4_settle S34 (fun S35 =>
  p_X6_trust_76 Q0 x1 r7 S35)))))) ∧
  ((r4 = 0) →
  Q0 (-103) S3))) ∧
  ((¬ (x1 ≤ 4)) →
  Q0 (-102) S))
def p_X7_flood_64 (Q0 : Int32 → St → Prop) (K10 : Int32 × Int32 × Int32 × St → Prop) (x1 : Int32) (x3 : Int32) (t0 : Int32) (S : St) : Prop :=
  K10 (x1, t0, (x3 + 1), S)
def p_X7_flood_63 (Q0 : Int32 → St → Prop) (K10 : Int32 × Int32 × Int32 × St → Prop) (x1 : Int32) (x2 : Int32) (x3 : Int32) (S : St) : Prop :=
  p_X7_flood_64 Q0 K10 x1 x3 x2 S
def p_X7_flood_41 (Q0 : Int32 → St → Prop) (K10 : Int32 × Int32 × Int32 × St → Prop) (x1 : Int32) (x2 : Int32) (x3 : Int32) (t0 : Int32) (S : St) : Prop :=
  ((t0 = 0) →
  p_X7_flood_63 Q0 K10 x1 x2 x3 S) ∧
  ((¬ (t0 = 0)) →
  p_X7_canBe x3 S (fun r7 S6 =>
  ((r7 = 0) →
  p_X7_flood_63 Q0 K10 x1 x2 x3 S6) ∧
  ((¬ (r7 = 0)) →
  p_X7_size x3 S6 (fun r10 S9 =>
  p_X7_flood_64 Q0 K10 x1 x3 r10 S9))))
def p_X7_flood_40 (Q0 : Int32 → St → Prop) (K10 : Int32 × Int32 × Int32 × St → Prop) (x1 : Int32) (x2 : Int32) (x3 : Int32) (S : St) : Prop :=
  p_X7_flood_41 Q0 K10 x1 x2 x3 0 S
def p_X7_flood_10 (Q0 : Int32 → St → Prop) (K10 : Int32 × Int32 × Int32 × St → Prop) : Int32 × Int32 × Int32 × St → Prop
  | (x1, x2, x3, S) => (((1 <<< ((S.1 25 0) &&& 31)) ≤ x3) →
  Q0 x2 S) ∧
  ((¬ ((1 <<< ((S.1 25 0) &&& 31)) ≤ x3)) →
  ((¬ (x3 &&& (x1 ^^^ (-1))) = 0) →
  p_X7_flood_40 Q0 K10 x1 x2 x3 S) ∧
  (((x3 &&& (x1 ^^^ (-1))) = 0) →
  p_X7_size x3 S (fun r12 S11 =>
  ((r12 ≤ x2) →
  p_X7_flood_40 Q0 K10 x1 x2 x3 S11) ∧
  ((¬ (r12 ≤ x2)) →
  p_X7_flood_41 Q0 K10 x1 x2 x3 1 S11))))
def p_X7_flood (S : St) (Q0 : Int32 → St → Prop) : Prop :=
  p_X7_ofKind 2 S (fun r2 S1 =>
  Lq (p_X7_flood_10 Q0) (r2, 0, 0, S1))
def p_X7_withoutFalse_70 (Q0 : Int32 → St → Prop) (K70 : Int32 × Int32 × St → Prop) : Int32 × Int32 × St → Prop
  | (x1, x2, S) => (((S.1 25 0) ≤ x2) →
  Q0 x1 S) ∧
  ((¬ ((S.1 25 0) ≤ x2)) →
  vp_in x2 9 ∧
  vp_in x2 9 ∧
  ∀ S8 : St, S8 = si S 27 x2.toNatClampNeg (S.1 36 x2.toNatClampNeg) →
  K70 (x1, (x2 + 1), S8))
def p_X7_withoutFalse_49 (Q0 : Int32 → St → Prop) (K4 : Int32 × St → Prop) (x2 : Int32) (t0 : Int32) (t1 : Int32) (S : St) : Prop :=
  vp_in t1 9 ∧
  ∀ S11 : St, S11 = si S 27 t1.toNatClampNeg t0 →
  K4 ((x2 + 1), S11)
def p_X7_withoutFalse_4 (Q0 : Int32 → St → Prop) (K4 : Int32 × St → Prop) : Int32 × St → Prop
  | (x2, S) => (((S.1 25 0) ≤ x2) →
  p_X7_lay S (fun S2 =>
  p_X7_allIn S2 (fun r4 S3 =>
  p_X7_size r4 S3 (fun r6 S5 =>
  Lq (p_X7_withoutFalse_70 Q0) (r6, 0, S5))))) ∧
  ((¬ ((S.1 25 0) ≤ x2)) →
  vp_in x2 9 ∧
  vp_in x2 9 ∧
  ∀ S9 : St, S9 = si S 36 x2.toNatClampNeg (S.1 27 x2.toNatClampNeg) →
  vp_in x2 9 ∧
  ((¬ (S9.1 26 x2.toNatClampNeg) = 2) →
  vp_in x2 9 ∧
  p_X7_withoutFalse_49 Q0 K4 x2 (S9.1 27 x2.toNatClampNeg) x2 S9) ∧
  (((S9.1 26 x2.toNatClampNeg) = 2) →
  p_X7_withoutFalse_49 Q0 K4 x2 0 x2 S9))
def p_X7_withoutFalse (S : St) (Q0 : Int32 → St → Prop) : Prop :=
  Lq (p_X7_withoutFalse_4 Q0) (0, S)
def p_X7_trustNow (x1 : Int32) (S : St) (Q0 : Int32 → St → Prop) : Prop :=
  p_X7_lay S (fun S1 =>
  ((x1 = 0) →
  p_X7_allIn S1 (fun r4 S3 =>
  p_X7_size r4 S3 (fun r6 S5 =>
  Q0 r6 S5))) ∧
  ((¬ (x1 = 0)) →
  ((x1 = 1) →
  p_X7_allIn S1 (fun r9 S8 =>
  p_X7_ofKind 2 S8 (fun r11 S10 =>
  p_X7_size (r9 &&& r11) S10 (fun r13 S12 =>
  Q0 r13 S12)))) ∧
  ((¬ (x1 = 1)) →
  ((x1 = 2) →
  p_X7_flood S1 (fun r16 S15 =>
  Q0 r16 S15)) ∧
  ((¬ (x1 = 2)) →
  ((x1 = 3) →
  p_X7_takenIn S1 (fun r19 S18 =>
  p_X7_mostOf r19 S18 (fun r21 S20 =>
  Q0 r21 S20))) ∧
  ((¬ (x1 = 3)) →
  p_X7_withoutFalse S1 (fun r23 S22 =>
  Q0 r23 S22))))))
def p_X7_trust (x1 : Int32) (S : St) (Q0 : Int32 → St → Prop) : Prop :=
  p_X7_within x1 0 4 S (fun r2 S1 =>
  ((¬ r2 = 0) →
  p_X7_isCircle S1 (fun r5 S4 =>
  ((r5 = 0) →
  Q0 (-103) S4) ∧
  ((¬ (r5 = 0)) →
  p_X7_trustNow x1 S4 (fun r8 S7 =>
  Q0 r8 S7)))) ∧
  ((r2 = 0) →
  Q0 (-102) S1))
def p_X6_together (x1 : Int32) (S : St) (Q0 : Int32 → St → Prop) : Prop :=
  p_X0_exists S (fun r2 S1 =>
  ((¬ r2 = 0) →
  p_X0_everyone S1 (fun r5 S4 =>
  (((x1 &&& (r5 ^^^ (-1))) = 0) →
  p_X6_prepareWeb S4 (fun S7 =>
  p_X6_admitted x1 S7 (fun r9 S8 =>
  ((¬ r9 = x1) →
  Q0 0 S8) ∧
  ((r9 = x1) →
  Q0 1 S8)))) ∧
  ((¬ ((x1 &&& (r5 ^^^ (-1))) = 0)) →
  Q0 (-101) S4))) ∧
  ((r2 = 0) →
  Q0 (-103) S1))
def p_X7_togetherNow (x1 : Int32) (S : St) (Q0 : Int32 → St → Prop) : Prop :=
  p_X7_lay S (fun S1 =>
  p_X7_canBe x1 S1 (fun r3 S2 =>
  ((r3 = 0) →
  Q0 0 S2) ∧
  ((¬ (r3 = 0)) →
  Q0 1 S2)))
def p_X7_together_24 (Q0 : Int32 → St → Prop) (S : St) : Prop :=
  Q0 (-101) S
def p_X7_together (x1 : Int32) (S : St) (Q0 : Int32 → St → Prop) : Prop :=
  p_X7_isCircle S (fun r2 S1 =>
  ((¬ r2 = 0) →
  ((x1 < 0) →
  p_X7_together_24 Q0 S1) ∧
  ((¬ (x1 < 0)) →
  ((x1 < (1 <<< ((S1.1 25 0) &&& 31))) →
  p_X7_togetherNow x1 S1 (fun r7 S6 =>
  Q0 r7 S6)) ∧
  ((¬ (x1 < (1 <<< ((S1.1 25 0) &&& 31)))) →
  p_X7_together_24 Q0 S1))) ∧
  ((r2 = 0) →
  Q0 (-103) S1))
def p_X1_reached (S : St) (Q0 : Int32 → St → Prop) : Prop :=
  p_X1_search (-2) S (fun S1 =>
  Q0 ((S1.1 13 6) >>> (9 &&& 31)) S1)
def p_X6_cut (x1 : Int32) (S : St) (Q0 : Int32 → St → Prop) : Prop :=
  ((x1 < 0) →
  Q0 (-102) S) ∧
  ((¬ (x1 < 0)) →
  ((x1 ≤ 2) →
  p_X0_exists S (fun r4 S3 =>
  ((¬ r4 = 0) →
  p_X0_ofKind 2 S3 (fun r7 S6 =>
  p_X6_prepareWeb S6 (fun S8 =>
  p_X6_admitted r7 S8 (fun r10 S9 =>
  p_X1_reached S9 (fun r12 S11 =>
  p_X4_vouchedBy r12 S11 (fun r14 S13 =>
  ((x1 = 0) →
  p_X4_limitsOf (((S11.1 14 1) ||| r14) &&& (r12 ^^^ (-1))) S13 (fun r17 S16 =>
  p_J6_bitCount_0f7a4 (r12 &&& r7) S16 (fun r19 S18 =>
  Q0 (r17 + r19) S18))) ∧
  ((¬ (x1 = 0)) →
  ((x1 = 1) →
  Q0 (((S11.1 14 1) ||| r14) &&& (r12 ^^^ (-1))) S13) ∧
  ((¬ (x1 = 1)) →
  Q0 r12 S13)))))))) ∧
  ((r4 = 0) →
  Q0 (-103) S3))) ∧
  ((¬ (x1 ≤ 2)) →
  Q0 (-102) S))
def p_X7_costOf (x1 : Int32) (S : St) (Q0 : Int32 → St → Prop) : Prop :=
  vp_in x1 512 ∧
  p_X7_ofKind 2 S (fun r2 S1 =>
  p_X7_size (x1 &&& r2) S1 (fun r4 S3 =>
  Q0 ((S.1 35 x1.toNatClampNeg) + r4) S3))
def p_X7_cutSet_50 (Q0 : Int32 → St → Prop) (K4 : Int32 × Int32 × St → Prop) (x2 : Int32) (t0 : Int32) (S : St) : Prop :=
  K4 (t0, (x2 + 1), S)
def p_X7_cutSet_45 (Q0 : Int32 → St → Prop) (K4 : Int32 × Int32 × St → Prop) (x2 : Int32) (S : St) : Prop :=
  p_X7_cutSet_50 Q0 K4 x2 x2 S
def p_X7_cutSet_49 (Q0 : Int32 → St → Prop) (K4 : Int32 × Int32 × St → Prop) (x1 : Int32) (x2 : Int32) (S : St) : Prop :=
  p_X7_cutSet_50 Q0 K4 x2 x1 S
def p_X7_cutSet_4 (Q0 : Int32 → St → Prop) (K4 : Int32 × Int32 × St → Prop) : Int32 × Int32 × St → Prop
  | (x1, x2, S) => (((1 <<< ((S.1 25 0) &&& 31)) ≤ x2) →
  Q0 x1 S) ∧
  ((¬ ((1 <<< ((S.1 25 0) &&& 31)) ≤ x2)) →
  p_X7_costOf x2 S (fun r3 S2 =>
  p_X7_costOf x1 S2 (fun r5 S4 =>
  (((r3 - r5) < 0) →
  p_X7_cutSet_45 Q0 K4 x2 S4) ∧
  ((¬ ((r3 - r5) < 0)) →
  ((¬ (r3 - r5) = 0) →
  p_X7_cutSet_49 Q0 K4 x1 x2 S4) ∧
  (((r3 - r5) = 0) →
  p_X7_size x2 S4 (fun r9 S8 =>
  p_X7_size x1 S8 (fun r11 S10 =>
  ((r11 ≤ r9) →
  p_X7_cutSet_49 Q0 K4 x1 x2 S10) ∧
  ((¬ (r11 ≤ r9)) →
  p_X7_cutSet_45 Q0 K4 x2 S10))))))))
def p_X7_cutSet (S : St) (Q0 : Int32 → St → Prop) : Prop :=
  Lq (p_X7_cutSet_4 Q0) (0, 1, S)
def p_X7_cutNow (x1 : Int32) (S : St) (Q0 : Int32 → St → Prop) : Prop :=
  p_X7_lay S (fun S1 =>
  p_X7_cutSet S1 (fun r3 S2 =>
  ((¬ x1 = 0) →
  ((¬ x1 = 1) →
  Q0 r3 S2) ∧
  ((x1 = 1) →
  p_X7_wallOf r3 S2 (fun r7 S6 =>
  Q0 r7 S6))) ∧
  ((x1 = 0) →
  p_X7_costOf r3 S2 (fun r9 S8 =>
  Q0 r9 S8))))
def p_X7_cut (x1 : Int32) (S : St) (Q0 : Int32 → St → Prop) : Prop :=
  p_X7_within x1 0 2 S (fun r2 S1 =>
  ((¬ r2 = 0) →
  p_X7_isCircle S1 (fun r5 S4 =>
  ((r5 = 0) →
  Q0 (-103) S4) ∧
  ((¬ (r5 = 0)) →
  p_X7_cutNow x1 S4 (fun r8 S7 =>
  Q0 r8 S7)))) ∧
  ((r2 = 0) →
  Q0 (-102) S1))
def p_X4_reachedWithout_14 (Q0 : Int32 → St → Prop) (K14 : Int32 × Int32 × Int32 × Int32 × St → Prop) : Int32 × Int32 × Int32 × Int32 × St → Prop
  | (x1, x2, x3, x4, S) => (((S.1 14 0) ≤ x4) →
  Q0 x2 S) ∧
  ((¬ ((S.1 14 0) ≤ x4)) →
  ((x3 = 0) →
  Q0 x2 S) ∧
  ((¬ (x3 = 0)) →
  p_X4_vouchedBy x3 S (fun r4 S3 =>
  K14 (x1, (x2 ||| ((r4 &&& (x1 ^^^ (-1))) &&& (x2 ^^^ (-1)))), ((r4 &&& (x1 ^^^ (-1))) &&& (x2 ^^^ (-1))), (x4 + 1), S3))))
def p_X4_reachedWithout (x1 : Int32) (S : St) (Q0 : Int32 → St → Prop) : Prop :=
  Lq (p_X4_reachedWithout_14 Q0) (x1, ((S.1 14 1) &&& (x1 ^^^ (-1))), ((S.1 14 1) &&& (x1 ^^^ (-1))), 0, S)
def p_X6_apart_95 (Q0 : Int32 → St → Prop) (K52 : Int32 × Int32 × Int32 × Int32 × St → Prop) (x1 : Int32) (x2 : Int32) (x3 : Int32) (x4 : Int32) (S : St) : Prop :=
  K52 (x1, x2, x3, (x4 + 1), S)
def p_X6_apart_52 (Q0 : Int32 → St → Prop) (K52 : Int32 × Int32 × Int32 × Int32 × St → Prop) : Int32 × Int32 × Int32 × Int32 × St → Prop
  | (x1, x2, x3, x4, S) => ((x3 < x4) →
  Q0 x3 S) ∧
  ((¬ (x3 < x4)) →
  ((¬ (x4 &&& (x3 ^^^ (-1))) = 0) →
  p_X6_apart_95 Q0 K52 x1 x2 x3 x4 S) ∧
  (((x4 &&& (x3 ^^^ (-1))) = 0) →
  p_J6_bitCount_0f7a4 x4 S (fun r12 S11 =>
  ((¬ r12 = x2) →
  p_X6_apart_95 Q0 K52 x1 x2 x3 x4 S11) ∧
  ((r12 = x2) →
  p_X4_reachedWithout x4 S11 (fun r15 S14 =>
  p_X6_bit r15 x1 S14 (fun r17 S16 =>
  ((¬ r17 = 0) →
  p_X6_apart_95 Q0 K52 x1 x2 x3 x4 S16) ∧
  ((r17 = 0) →
  Q0 x4 S16)))))))
def p_X6_apart (x1 : Int32) (S : St) (Q0 : Int32 → St → Prop) : Prop :=
  p_X0_has x1 S (fun r2 S1 =>
  ((¬ r2 = 0) →
  vp_in x1 9 ∧
  ((¬ (S1.1 4 x1.toNatClampNeg) = 1) →
  p_X6_waysTo x1 S1 (fun r6 S5 =>
  p_X0_everyone S5 (fun r8 S7 =>
  Lq (p_X6_apart_52 Q0) (x1, r6, (r8 &&& ((1 <<< (x1 &&& 31)) ^^^ (-1))), 0, S7)))) ∧
  (((S1.1 4 x1.toNatClampNeg) = 1) →
  Q0 (-1) S1)) ∧
  ((r2 = 0) →
  Q0 (-101) S1))
def p_X7_apart (x1 : Int32) (S : St) (Q0 : Int32 → St → Prop) : Prop :=
  p_X7_isPerson x1 S (fun r2 S1 =>
  ((r2 = 0) →
  Q0 (-101) S1) ∧
  ((¬ (r2 = 0)) →
  p_X7_apartNow x1 S1 (fun r5 S4 =>
  Q0 r5 S4)))
def p_X4_leaveOut (x1 : Int32) (x2 : Int32) (S : St) (Q0 : St → Prop) : Prop :=
  vp_in x1 9 ∧
  vp_in x1 9 ∧
  ∀ S1 : St, S1 = si S 15 x1.toNatClampNeg ((S.1 15 x1.toNatClampNeg) &&& ((1 <<< (x2 &&& 31)) ^^^ (-1))) →
  Q0 S1
def p_X6_prepareWebWithout (x1 : Int32) (x2 : Int32) (S : St) (Q0 : St → Prop) : Prop :=
  p_X4_copy S (fun S1 =>
  p_X4_leaveOut x1 x2 S1 (fun S2 =>
  p_X4_settle S2 (fun S3 =>
  Q0 S3)))
def p_X6_without (x1 : Int32) (x2 : Int32) (x3 : Int32) (S : St) (Q0 : Int32 → St → Prop) : Prop :=
  p_X0_hasPair x1 x2 S (fun r2 S1 =>
  ((¬ r2 = 0) →
  p_X0_hasVouch x1 x2 S1 (fun r5 S4 =>
  ((¬ r5 = 0) →
  ((x3 < 0) →
  Q0 (-102) S4) ∧
  ((¬ (x3 < 0)) →
  ((x3 ≤ 2) →
  p_X6_prepareWebWithout x1 x2 S4 (fun S9 =>
  ((x3 = 0) →
  p_X0_everyone S9 (fun r12 S11 =>
  p_X6_admitted r12 S11 (fun r14 S13 =>
  p_J6_bitCount_0f7a4 r14 S13 (fun r16 S15 =>
  Q0 r16 S15)))) ∧
  ((¬ (x3 = 0)) →
  ((x3 = 1) →
  p_X0_everyone S9 (fun r19 S18 =>
  p_X6_admitted r19 S18 (fun r21 S20 =>
  p_X0_ofKind 2 S20 (fun r23 S22 =>
  p_J6_bitCount_0f7a4 (r21 &&& r23) S22 (fun r25 S24 =>
  Q0 r25 S24))))) ∧
  ((¬ (x3 = 1)) →
  vp_in x2 9 ∧
  Q0 (S9.1 16 x2.toNatClampNeg) S9)))) ∧
  ((¬ (x3 ≤ 2)) →
  Q0 (-102) S4))) ∧
  ((r5 = 0) →
  Q0 (-103) S4))) ∧
  ((r2 = 0) →
  Q0 (-101) S1))
def p_X7_withoutNow (x1 : Int32) (x2 : Int32) (x3 : Int32) (S : St) (Q0 : Int32 → St → Prop) : Prop :=
  vp_in x1 9 ∧
  vp_in x1 9 ∧
  ∀ S1 : St, S1 = si S 27 x1.toNatClampNeg ((S.1 27 x1.toNatClampNeg) &&& ((1 <<< (x2 &&& 31)) ^^^ (-1))) →
  p_X7_lay S1 (fun S2 =>
  p_X7_allIn S2 (fun r4 S3 =>
  vp_in x1 9 ∧
  ∀ S5 : St, S5 = si S3 27 x1.toNatClampNeg (S.1 27 x1.toNatClampNeg) →
  ((¬ x3 = 0) →
  ((¬ x3 = 1) →
  vp_in x2 9 ∧
  Q0 (S5.1 33 x2.toNatClampNeg) S5) ∧
  ((x3 = 1) →
  p_X7_ofKind 2 S5 (fun r9 S8 =>
  p_X7_size (r4 &&& r9) S8 (fun r11 S10 =>
  Q0 r11 S10)))) ∧
  ((x3 = 0) →
  p_X7_size r4 S5 (fun r13 S12 =>
  Q0 r13 S12))))
def p_X7_without (x1 : Int32) (x2 : Int32) (x3 : Int32) (S : St) (Q0 : Int32 → St → Prop) : Prop :=
  p_X7_areTwo x1 x2 S (fun r2 S1 =>
  ((¬ r2 = 0) →
  vp_in x1 9 ∧
  p_X7_has (S1.1 27 x1.toNatClampNeg) x2 S1 (fun r5 S4 =>
  ((¬ r5 = 0) →
  p_X7_within x3 0 2 S4 (fun r8 S7 =>
  ((r8 = 0) →
  Q0 (-102) S7) ∧
  ((¬ (r8 = 0)) →
  p_X7_withoutNow x1 x2 x3 S7 (fun r11 S10 =>
  Q0 r11 S10)))) ∧
  ((r5 = 0) →
  Q0 (-103) S4))) ∧
  ((r2 = 0) →
  Q0 (-101) S1))
def p_X6_dearest_102 (Q0 : Int32 → St → Prop) (K20 : Int32 × Int32 × Int32 × St → Prop) (K34 : Int32 × Int32 × Int32 × Int32 × St → Prop) (x1 : Int32) (x2 : Int32) (x3 : Int32) (x4 : Int32) (S : St) : Prop :=
  K34 (x1, x2, x3, (x4 + 1), S)
def p_X6_dearest_34 (Q0 : Int32 → St → Prop) (K20 : Int32 × Int32 × Int32 × St → Prop) (K34 : Int32 × Int32 × Int32 × Int32 × St → Prop) : Int32 × Int32 × Int32 × Int32 × St → Prop
  | (x1, x2, x3, x4, S) => (((S.1 2 0) ≤ x4) →
  K20 (x1, x2, (x3 + 1), S)) ∧
  ((¬ ((S.1 2 0) ≤ x4)) →
  p_X0_hasVouch x3 x4 S (fun r7 S6 =>
  ((¬ r7 = 0) →
  p_X6_prepareWebWithout x3 x4 S6 (fun S9 =>
  p_X0_everyone S9 (fun r11 S10 =>
  p_X6_admitted r11 S10 (fun r13 S12 =>
  p_J6_bitCount_0f7a4 r13 S12 (fun r15 S14 =>
  ((x2 ≤ r15) →
  p_X6_dearest_102 Q0 K20 K34 x1 x2 x3 x4 S14) ∧
  ((¬ (x2 ≤ r15)) →
  p_X6_dearest_102 Q0 K20 K34 ((10 * x3) + x4) r15 x3 x4 S14)))))) ∧
  ((r7 = 0) →
  p_X6_dearest_102 Q0 K20 K34 x1 x2 x3 x4 S6)))
def p_X6_dearest_20 (Q0 : Int32 → St → Prop) (K20 : Int32 × Int32 × Int32 × St → Prop) : Int32 × Int32 × Int32 × St → Prop
  | (x1, x2, x3, S) => (((S.1 2 0) ≤ x3) →
  Q0 x1 S) ∧
  ((¬ ((S.1 2 0) ≤ x3)) →
  Lq (p_X6_dearest_34 Q0 K20) (x1, x2, x3, 0, S))
def p_X6_dearest (S : St) (Q0 : Int32 → St → Prop) : Prop :=
  p_X0_exists S (fun r2 S1 =>
  ((¬ r2 = 0) →
  Lq (p_X6_dearest_20 Q0) ((-1), 10, 0, S1)) ∧
  ((r2 = 0) →
  Q0 (-103) S1))
def p_X7_dearestNow_109 (Q0 : Int32 → St → Prop) (K6 : Int32 × Int32 × Int32 × St → Prop) (x1 : Int32) (x2 : Int32) (x3 : Int32) (S : St) : Prop :=
  K6 (x1, x2, (x3 + 1), S)
def p_X7_dearestNow_108 (Q0 : Int32 → St → Prop) (K6 : Int32 × Int32 × Int32 × St → Prop) (x1 : Int32) (x3 : Int32) (t0 : Int32) (S : St) : Prop :=
  p_X7_dearestNow_109 Q0 K6 x1 t0 x3 S
def p_X7_dearestNow_96 (Q0 : Int32 → St → Prop) (K6 : Int32 × Int32 × Int32 × St → Prop) (x2 : Int32) (x3 : Int32) (x6 : Int32) (x7 : Int32) (t0 : Int32) (S : St) : Prop :=
  ((x7 = 0) →
  p_X7_dearestNow_108 Q0 K6 t0 x3 x2 S) ∧
  ((¬ (x7 = 0)) →
  p_X7_dearestNow_108 Q0 K6 t0 x3 x6 S)
def p_X7_dearestNow_84 (Q0 : Int32 → St → Prop) (K6 : Int32 × Int32 × Int32 × St → Prop) (x1 : Int32) (x2 : Int32) (x3 : Int32) (x6 : Int32) (t0 : Int32) (S : St) : Prop :=
  ((t0 = 0) →
  p_X7_dearestNow_96 Q0 K6 x2 x3 x6 t0 x1 S) ∧
  ((¬ (t0 = 0)) →
  p_X7_dearestNow_96 Q0 K6 x2 x3 x6 t0 x3 S)
def p_X7_dearestNow_79 (Q0 : Int32 → St → Prop) (K6 : Int32 × Int32 × Int32 × St → Prop) (x1 : Int32) (x2 : Int32) (x3 : Int32) (x6 : Int32) (S : St) : Prop :=
  p_X7_dearestNow_84 Q0 K6 x1 x2 x3 x6 1 S
def p_X7_dearestNow_6 (Q0 : Int32 → St → Prop) (K6 : Int32 × Int32 × Int32 × St → Prop) : Int32 × Int32 × Int32 × St → Prop
  | (x1, x2, x3, S) => ((100 ≤ x3) →
  Q0 x1 S) ∧
  ((¬ (100 ≤ x3)) →
  (((S.1 25 0) ≤ (x3 / 10)) →
  p_X7_dearestNow_109 Q0 K6 x1 x2 x3 S) ∧
  ((¬ ((S.1 25 0) ≤ (x3 / 10))) →
  (((S.1 25 0) ≤ (x3 - x3 / 10 * 10)) →
  p_X7_dearestNow_109 Q0 K6 x1 x2 x3 S) ∧
  ((¬ ((S.1 25 0) ≤ (x3 - x3 / 10 * 10))) →
  vp_in (x3 / 10) 9 ∧
  p_X7_has (S.1 27 (x3 / 10).toNatClampNeg) (x3 - x3 / 10 * 10) S (fun r5 S4 =>
  ((r5 = 0) →
  p_X7_dearestNow_109 Q0 K6 x1 x2 x3 S4) ∧
  ((¬ (r5 = 0)) →
  p_X7_withoutNow (x3 / 10) (x3 - x3 / 10 * 10) 0 S4 (fun r8 S7 =>
  ((x1 = (-1)) →
  p_X7_dearestNow_79 Q0 K6 x1 x2 x3 r8 S7) ∧
  ((¬ (x1 = (-1))) →
  ((x2 ≤ r8) →
  p_X7_dearestNow_84 Q0 K6 x1 x2 x3 r8 0 S7) ∧
  ((¬ (x2 ≤ r8)) →
  p_X7_dearestNow_79 Q0 K6 x1 x2 x3 r8 S7))))))))
def p_X7_dearestNow (S : St) (Q0 : Int32 → St → Prop) : Prop :=
  Lq (p_X7_dearestNow_6 Q0) ((-1), 0, 0, S)
def p_X7_dearest (S : St) (Q0 : Int32 → St → Prop) : Prop :=
  p_X7_isCircle S (fun r2 S1 =>
  ((r2 = 0) →
  Q0 (-103) S1) ∧
  ((¬ (r2 = 0)) →
  p_X7_dearestNow S1 (fun r5 S4 =>
  Q0 r5 S4)))
def p_X6_isStepCount (x0 : Int32) (S : St) (Q0 : Int32 → St → Prop) : Prop :=
  ((x0 < 0) →
  Q0 0 S) ∧
  ((¬ (x0 < 0)) →
  ((4 < x0) →
  Q0 0 S) ∧
  ((¬ (4 < x0)) →
  Q0 1 S))
def p_J7_fill_d0a16_c24_6 (Q0 : St → Prop) (K6 : Int64 × Int32 × Int32 × St → Prop) : Int64 × Int32 × Int32 × St → Prop
  | (x1, x3, x4, S) => ((x4 ≤ x3) →
  Q0 S) ∧
  ((¬ (x4 ≤ x3)) →
  vp_in x3 9 ∧
  ∀ S2 : St, S2 = sj S 24 x3.toNatClampNeg x1 →
  K6 (x1, (x3 + 1), x4, S2))
def p_J7_fill_d0a16_c24 (x1 : Int64) (S : St) (Q0 : St → Prop) : Prop :=
  Lq (p_J7_fill_d0a16_c24_6 Q0) (x1, 0, 9, S)
def p_X3_share_59 (Q0 : St → Prop) (K28 : Int32 × Int64 × Int32 × St → Prop) (x3 : Int32) (x5 : Int64) (x7 : Int32) (S : St) : Prop :=
  K28 (x3, x5, (x7 + 1), S)
def p_X3_share_28 (Q0 : St → Prop) (K28 : Int32 × Int64 × Int32 × St → Prop) : Int32 × Int64 × Int32 × St → Prop
  | (x3, x5, x7, S) => (((S.1 22 0) ≤ x7) →
  Q0 S) ∧
  ((¬ ((S.1 22 0) ≤ x7)) →
  p_X6_bit x3 x7 S (fun r7 S6 =>
  ((¬ r7 = 1) →
  p_X3_share_59 Q0 K28 x3 x5 x7 S6) ∧
  ((r7 = 1) →
  vp_in x7 9 ∧
  vp_in x7 9 ∧
  ∀ S9 : St, S9 = sj S6 24 x7.toNatClampNeg ((S6.2 24 x7.toNatClampNeg) + x5) →
  p_X3_share_59 Q0 K28 x3 x5 x7 S9)))
def p_X3_share (x1 : Int64) (x3 : Int32) (S : St) (Q0 : St → Prop) : Prop :=
  p_J6_bitCount_0f7a4 x3 S (fun r2 S1 =>
  (((lg_cmp x1 0) = 0) →
  Q0 S1) ∧
  ((¬ ((lg_cmp x1 0) = 0)) →
  ((¬ r2 = 0) →
  (¬ r2.toInt64 = 0) ∧
  Lq (p_X3_share_28 Q0) (x3, (x1 / r2.toInt64), 0, S1)) ∧
  ((r2 = 0) →
  Q0 S1)))
def p_X3_step_48 (Q0 : St → Prop) (K10 : Int32 × Int32 × St → Prop) (x2 : Int32) (x3 : Int32) (t0 : Int32) (t1 : Int64) (S : St) : Prop :=
  p_X3_share t1 t0 S (fun S6 =>
  K10 (x2, (x3 + 1), S6))
def p_X3_step_10 (Q0 : St → Prop) (K10 : Int32 × Int32 × St → Prop) : Int32 × Int32 × St → Prop
  | (x2, x3, S) => (((S.1 22 0) ≤ x3) →
  ∀ S3 : St, S3 = cJ S 23 (va_cpy (S.2 24) (S.2 23) 0 0 9) →
  ∀ S4 : St, S4 = sj S3 22 1 ((S3.2 22 1) * 60) →
  Q0 S4) ∧
  ((¬ ((S.1 22 0) ≤ x3)) →
  vp_in x3 9 ∧
  vp_in x3 9 ∧
  ((¬ (S.1 5 x3.toNatClampNeg) = 0) →
  vp_in x3 9 ∧
  p_X3_step_48 Q0 K10 x2 x3 (S.1 5 x3.toNatClampNeg) (60 * (S.2 23 x3.toNatClampNeg)) S) ∧
  (((S.1 5 x3.toNatClampNeg) = 0) →
  p_X3_step_48 Q0 K10 x2 x3 x2 (60 * (S.2 23 x3.toNatClampNeg)) S))
def p_X3_step (x2 : Int32) (S : St) (Q0 : St → Prop) : Prop :=
  p_J7_fill_d0a16_c24 0 S (fun S1 =>
  Lq (p_X3_step_10 Q0) (x2, 0, S1))
def p_X3_go_55 (Q0 : St → Prop) (K55 : Int32 × Int32 × Int32 × St → Prop) : Int32 × Int32 × Int32 × St → Prop
  | (x2, x3, x4, S) => ((x2 ≤ x4) →
  Q0 S) ∧
  ((¬ (x2 ≤ x4)) →
  p_X3_step x3 S (fun S9 =>
  K55 (x2, x3, (x4 + 1), S9)))
def p_X3_go (x2 : Int32) (S : St) (Q0 : St → Prop) : Prop :=
  p_X0_ofKind 1 S (fun r2 S1 =>
  ∀ S3 : St, S3 = si S1 22 0 (S1.1 2 0) →
  ∀ S4 : St, S4 = sj S3 22 1 60 →
  p_J7_fill_d0a16_c24 0 S4 (fun S5 =>
  p_X3_share 60 r2 S5 (fun S6 =>
  ∀ S7 : St, S7 = cJ S6 23 (va_cpy (S6.2 24) (S6.2 23) 0 0 9) →
  Lq (p_X3_go_55 Q0) (x2, r2, 0, S7))))
def p_X3_commonDivisor_49 (Q0 : Int64 → St → Prop) (x2 : Int64) (S : St) : Prop :=
  Q0 (if 1 < x2 then x2 else 1) S
def p_X3_commonDivisor_16 (Q0 : Int64 → St → Prop) (K16 : Int64 × Int64 × Int32 × St → Prop) : Int64 × Int64 × Int32 × St → Prop
  | (x2, x4, x6, S) => ((100 ≤ x6) →
  p_X3_commonDivisor_49 Q0 x2 S) ∧
  ((¬ (100 ≤ x6)) →
  (((lg_cmp x4 0) = 0) →
  p_X3_commonDivisor_49 Q0 x2 S) ∧
  ((¬ ((lg_cmp x4 0) = 0)) →
  (¬ x4 = 0) ∧
  K16 (x4, (x2 - x2 / x4 * x4), (x6 + 1), S)))
def p_X3_commonDivisor (x1 : Int32) (S : St) (Q0 : Int64 → St → Prop) : Prop :=
  vp_in x1 9 ∧
  Lq (p_X3_commonDivisor_16 Q0) ((S.2 22 1), (S.2 23 x1.toNatClampNeg), 0, S)
def p_X3_denominator (x1 : Int32) (S : St) (Q0 : Int32 → St → Prop) : Prop :=
  p_X3_commonDivisor x1 S (fun r2 S1 =>
  (¬ r2 = 0) ∧
  Q0 (((S.2 22 1) / r2).toInt32) S1)
def p_X3_numerator (x1 : Int32) (S : St) (Q0 : Int32 → St → Prop) : Prop :=
  vp_in x1 9 ∧
  p_X3_commonDivisor x1 S (fun r2 S1 =>
  (¬ r2 = 0) ∧
  Q0 (((S.2 23 x1.toNatClampNeg) / r2).toInt32) S1)
def p_X6_chance (x1 : Int32) (x2 : Int32) (x3 : Int32) (S : St) (Q0 : Int32 → St → Prop) : Prop :=
  p_X0_has x1 S (fun r2 S1 =>
  ((¬ r2 = 0) →
  p_X6_isStepCount x2 S1 (fun r5 S4 =>
  ((r5 = 0) →
  Q0 (-102) S4) ∧
  ((¬ (r5 = 0)) →
  ((x3 < 0) →
  Q0 (-102) S4) ∧
  ((¬ (x3 < 0)) →
  ((x3 ≤ 1) →
  p_X0_ofKind 1 S4 (fun r10 S9 =>
  ((¬ r10 = 0) →
  p_X3_go x2 S9 (fun S12 =>
  ((¬ x3 = 0) →
  p_X3_denominator x1 S12 (fun r15 S14 =>
  Q0 r15 S14)) ∧
  ((x3 = 0) →
  p_X3_numerator x1 S12 (fun r17 S16 =>
  Q0 r17 S16)))) ∧
  ((r10 = 0) →
  Q0 (-103) S9))) ∧
  ((¬ (x3 ≤ 1)) →
  Q0 (-102) S4))))) ∧
  ((r2 = 0) →
  Q0 (-101) S1))
def p_X7_areSeeds (S : St) (Q0 : Int32 → St → Prop) : Prop :=
  p_X7_ofKind 1 S (fun r2 S1 =>
  ((r2 = 0) →
  Q0 0 S1) ∧
  ((¬ (r2 = 0)) →
  Q0 1 S1))
def p_X7_goesTo_45 (Q0 : St → Prop) (K3 : Int32 × Int32 × Int32 × Int32 × St → Prop) (x1 : Int32) (x2 : Int32) (x3 : Int32) (x4 : Int32) (t0 : Int64) (t1 : Int64) (t2 : Int32) (S : St) : Prop :=
  vp_in t2 9 ∧
  ∀ S5 : St, S5 = sj S 38 t2.toNatClampNeg (t1 + t0) →
  K3 (x1, x2, x3, (x4 + 1), S5)
def p_X7_goesTo_3 (Q0 : St → Prop) (K3 : Int32 × Int32 × Int32 × Int32 × St → Prop) : Int32 × Int32 × Int32 × Int32 × St → Prop
  | (x1, x2, x3, x4, S) => (((S.1 25 0) ≤ x4) →
  Q0 S) ∧
  ((¬ ((S.1 25 0) ≤ x4)) →
  vp_in x4 9 ∧
  p_X7_has x2 x4 S (fun r3 S2 =>
  ((r3 = 0) →
  p_X7_goesTo_45 Q0 K3 x1 x2 x3 x4 0 (S.2 38 x4.toNatClampNeg) x4 S2) ∧
  ((¬ (r3 = 0)) →
  vp_in x1 9 ∧
  (¬ x3 = 0) ∧
  p_X7_goesTo_45 Q0 K3 x1 x2 x3 x4 ((S2.2 37 x1.toNatClampNeg) * (60 / x3).toInt64) (S.2 38 x4.toNatClampNeg) x4 S2)))
def p_X7_goesTo (x1 : Int32) (x2 : Int32) (x3 : Int32) (S : St) (Q0 : St → Prop) : Prop :=
  Lq (p_X7_goesTo_3 Q0) (x1, x2, x3, 0, S)
def p_X7_layChances_140 (Q0 : St → Prop) (K52 : Int32 × Int32 × Int32 × St → Prop) (K140 : Int32 × Int32 × Int32 × Int32 × St → Prop) : Int32 × Int32 × Int32 × Int32 × St → Prop
  | (x1, x2, x3, x4, S) => (((S.1 25 0) ≤ x4) →
  ∀ S11 : St, S11 = sj S 25 28 ((S.2 25 28) * 60) →
  K52 (x1, x2, (x3 + 1), S11)) ∧
  ((¬ ((S.1 25 0) ≤ x4)) →
  vp_in x4 9 ∧
  vp_in x4 9 ∧
  ∀ S12 : St, S12 = sj S 37 x4.toNatClampNeg (S.2 38 x4.toNatClampNeg) →
  K140 (x1, x2, x3, (x4 + 1), S12))
def p_X7_layChances_116 (Q0 : St → Prop) (K52 : Int32 × Int32 × Int32 × St → Prop) (K86 : Int32 × Int32 × Int32 × Int32 × St → Prop) (x1 : Int32) (x2 : Int32) (x3 : Int32) (x4 : Int32) (t0 : Int32) (S : St) : Prop :=
  p_X7_size t0 S (fun r15 S14 =>
  p_X7_goesTo x4 t0 r15 S14 (fun S16 =>
  K86 (x1, x2, x3, (x4 + 1), S16)))
def p_X7_layChances_86 (Q0 : St → Prop) (K52 : Int32 × Int32 × Int32 × St → Prop) (K86 : Int32 × Int32 × Int32 × Int32 × St → Prop) : Int32 × Int32 × Int32 × Int32 × St → Prop
  | (x1, x2, x3, x4, S) => (((S.1 25 0) ≤ x4) →
  Lq (p_X7_layChances_140 Q0 K52) (x1, x2, x3, 0, S)) ∧
  ((¬ ((S.1 25 0) ≤ x4)) →
  vp_in x4 9 ∧
  ((¬ (S.1 27 x4.toNatClampNeg) = 0) →
  vp_in x4 9 ∧
  p_X7_layChances_116 Q0 K52 K86 x1 x2 x3 x4 (S.1 27 x4.toNatClampNeg) S) ∧
  (((S.1 27 x4.toNatClampNeg) = 0) →
  p_X7_layChances_116 Q0 K52 K86 x1 x2 x3 x4 x2 S))
def p_X7_layChances_60 (Q0 : St → Prop) (K52 : Int32 × Int32 × Int32 × St → Prop) (K60 : Int32 × Int32 × Int32 × Int32 × St → Prop) : Int32 × Int32 × Int32 × Int32 × St → Prop
  | (x1, x2, x3, x4, S) => (((S.1 25 0) ≤ x4) →
  Lq (p_X7_layChances_86 Q0 K52) (x1, x2, x3, 0, S)) ∧
  ((¬ ((S.1 25 0) ≤ x4)) →
  vp_in x4 9 ∧
  ∀ S17 : St, S17 = sj S 38 x4.toNatClampNeg 0 →
  K60 (x1, x2, x3, (x4 + 1), S17))
def p_X7_layChances_52 (Q0 : St → Prop) (K52 : Int32 × Int32 × Int32 × St → Prop) : Int32 × Int32 × Int32 × St → Prop
  | (x1, x2, x3, S) => ((x1 ≤ x3) →
  Q0 S) ∧
  ((¬ (x1 ≤ x3)) →
  Lq (p_X7_layChances_60 Q0 K52) (x1, x2, x3, 0, S))
def p_X7_layChances_43 (Q0 : St → Prop) (K17 : Int32 × Int32 × Int32 × St → Prop) (x1 : Int32) (x2 : Int32) (x3 : Int32) (t0 : Int64) (t1 : Int32) (S : St) : Prop :=
  vp_in t1 9 ∧
  ∀ S21 : St, S21 = sj S 37 t1.toNatClampNeg t0 →
  K17 (x1, x2, (x3 + 1), S21)
def p_X7_layChances_17 (Q0 : St → Prop) (K17 : Int32 × Int32 × Int32 × St → Prop) : Int32 × Int32 × Int32 × St → Prop
  | (x1, x2, x3, S) => (((S.1 25 0) ≤ x3) →
  Lq (p_X7_layChances_52 Q0) (x1, x2, 0, S)) ∧
  ((¬ ((S.1 25 0) ≤ x3)) →
  p_X7_has x2 x3 S (fun r19 S18 =>
  ((r19 = 0) →
  p_X7_layChances_43 Q0 K17 x1 x2 x3 0 x3 S18) ∧
  ((¬ (r19 = 0)) →
  p_X7_layChances_43 Q0 K17 x1 x2 x3 1 x3 S18)))
def p_X7_layChances (x1 : Int32) (S : St) (Q0 : St → Prop) : Prop :=
  p_X7_ofKind 1 S (fun r2 S1 =>
  p_X7_size r2 S1 (fun r4 S3 =>
  ∀ S5 : St, S5 = sj S3 25 28 r4.toInt64 →
  Lq (p_X7_layChances_17 Q0) (x1, r2, 0, S5)))
def p_X7_common_6 (Q0 : Int64 → St → Prop) (K6 : Int64 × Int64 × St → Prop) : Int64 × Int64 × St → Prop
  | (x4, x6, S) => (((lg_cmp x6 0) = 0) →
  Q0 x4 S) ∧
  ((¬ ((lg_cmp x6 0) = 0)) →
  (¬ x6 = 0) ∧
  K6 (x6, (x4 - x4 / x6 * x6), S))
def p_X7_common (x0 : Int64) (x2 : Int64) (S : St) (Q0 : Int64 → St → Prop) : Prop :=
  Lq (p_X7_common_6 Q0) (x0, x2, S)
def p_X7_chanceNow (x1 : Int32) (x2 : Int32) (x3 : Int32) (S : St) (Q0 : Int32 → St → Prop) : Prop :=
  p_X7_layChances x2 S (fun S1 =>
  vp_in x1 9 ∧
  p_X7_common (S1.2 37 x1.toNatClampNeg) (S1.2 25 28) S1 (fun r3 S2 =>
  ((¬ x3 = 0) →
  (¬ r3 = 0) ∧
  Q0 (((S2.2 25 28) / r3).toInt32) S2) ∧
  ((x3 = 0) →
  vp_in x1 9 ∧
  (¬ r3 = 0) ∧
  Q0 (((S2.2 37 x1.toNatClampNeg) / r3).toInt32) S2)))
def p_X7_chance (x1 : Int32) (x2 : Int32) (x3 : Int32) (S : St) (Q0 : Int32 → St → Prop) : Prop :=
  p_X7_isPerson x1 S (fun r2 S1 =>
  ((¬ r2 = 0) →
  p_X7_within x2 0 4 S1 (fun r5 S4 =>
  ((r5 = 0) →
  Q0 (-102) S4) ∧
  ((¬ (r5 = 0)) →
  p_X7_within x3 0 1 S4 (fun r8 S7 =>
  ((¬ r8 = 0) →
  p_X7_areSeeds S7 (fun r11 S10 =>
  ((r11 = 0) →
  Q0 (-103) S10) ∧
  ((¬ (r11 = 0)) →
  p_X7_chanceNow x1 x2 x3 S10 (fun r14 S13 =>
  Q0 r14 S13)))) ∧
  ((r8 = 0) →
  Q0 (-102) S7))))) ∧
  ((r2 = 0) →
  Q0 (-101) S1))
def p_X3_thousandPart (x1 : Int32) (S : St) (Q0 : Int32 → St → Prop) : Prop :=
  ((¬ (lg_cmp (S.2 22 1) 0) = 0) →
  vp_in x1 9 ∧
  (¬ (S.2 22 1) = 0) ∧
  Q0 (((1000 * (S.2 23 x1.toNatClampNeg)) / (S.2 22 1)).toInt32) S) ∧
  (((lg_cmp (S.2 22 1) 0) = 0) →
  Q0 0 S)
def p_X6_thousandths (x1 : Int32) (x2 : Int32) (S : St) (Q0 : Int32 → St → Prop) : Prop :=
  p_X0_has x1 S (fun r2 S1 =>
  ((¬ r2 = 0) →
  p_X6_isStepCount x2 S1 (fun r5 S4 =>
  ((¬ r5 = 0) →
  p_X0_ofKind 1 S4 (fun r8 S7 =>
  ((¬ r8 = 0) →
  p_X3_go x2 S7 (fun S10 =>
  p_X3_thousandPart x1 S10 (fun r12 S11 =>
  Q0 r12 S11))) ∧
  ((r8 = 0) →
  Q0 (-103) S7))) ∧
  ((r5 = 0) →
  Q0 (-102) S4))) ∧
  ((r2 = 0) →
  Q0 (-101) S1))
def p_X7_thousandthsNow (x1 : Int32) (x2 : Int32) (S : St) (Q0 : Int32 → St → Prop) : Prop :=
  p_X7_layChances x2 S (fun S1 =>
  vp_in x1 9 ∧
  (¬ (S1.2 25 28) = 0) ∧
  Q0 (((1000 * (S1.2 37 x1.toNatClampNeg)) / (S1.2 25 28)).toInt32) S1)
def p_X7_thousandths (x1 : Int32) (x2 : Int32) (S : St) (Q0 : Int32 → St → Prop) : Prop :=
  p_X7_isPerson x1 S (fun r2 S1 =>
  ((¬ r2 = 0) →
  p_X7_within x2 0 4 S1 (fun r5 S4 =>
  ((¬ r5 = 0) →
  p_X7_areSeeds S4 (fun r8 S7 =>
  ((r8 = 0) →
  Q0 (-103) S7) ∧
  ((¬ (r8 = 0)) →
  p_X7_thousandthsNow x1 x2 S7 (fun r11 S10 =>
  Q0 r11 S10)))) ∧
  ((r5 = 0) →
  Q0 (-102) S4))) ∧
  ((r2 = 0) →
  Q0 (-101) S1))
def p_X3_comingBefore_52 (Q0 : Int32 → St → Prop) (K4 : Int32 × Int32 × Int32 × St → Prop) (x1 : Int32) (x2 : Int32) (x3 : Int32) (S : St) : Prop :=
  K4 (x1, x2, (x3 + 1), S)
def p_X3_comingBefore_49 (Q0 : Int32 → St → Prop) (K4 : Int32 × Int32 × Int32 × St → Prop) (x1 : Int32) (x2 : Int32) (x3 : Int32) (S : St) : Prop :=
  p_X3_comingBefore_52 Q0 K4 x1 (x2 + 1) x3 S
def p_X3_comingBefore_4 (Q0 : Int32 → St → Prop) (K4 : Int32 × Int32 × Int32 × St → Prop) : Int32 × Int32 × Int32 × St → Prop
  | (x1, x2, x3, S) => (((S.1 22 0) ≤ x3) →
  Q0 x2 S) ∧
  ((¬ ((S.1 22 0) ≤ x3)) →
  vp_in x3 9 ∧
  vp_in x1 9 ∧
  ((0 < (lg_cmp (S.2 23 x3.toNatClampNeg) (S.2 23 x1.toNatClampNeg))) →
  p_X3_comingBefore_49 Q0 K4 x1 x2 x3 S) ∧
  ((¬ (0 < (lg_cmp (S.2 23 x3.toNatClampNeg) (S.2 23 x1.toNatClampNeg)))) →
  vp_in x3 9 ∧
  vp_in x1 9 ∧
  ((¬ (lg_cmp (S.2 23 x3.toNatClampNeg) (S.2 23 x1.toNatClampNeg)) = 0) →
  p_X3_comingBefore_52 Q0 K4 x1 x2 x3 S) ∧
  (((lg_cmp (S.2 23 x3.toNatClampNeg) (S.2 23 x1.toNatClampNeg)) = 0) →
  ((x1 ≤ x3) →
  p_X3_comingBefore_52 Q0 K4 x1 x2 x3 S) ∧
  ((¬ (x1 ≤ x3)) →
  p_X3_comingBefore_49 Q0 K4 x1 x2 x3 S))))
def p_X3_comingBefore (x1 : Int32) (S : St) (Q0 : Int32 → St → Prop) : Prop :=
  Lq (p_X3_comingBefore_4 Q0) (x1, 0, 0, S)
def p_X3_personAt_2 (Q0 : Int32 → St → Prop) (K2 : Int32 × Int32 × St → Prop) : Int32 × Int32 × St → Prop
  | (x1, x2, S) => (((S.1 22 0) ≤ x2) →
  Q0 (-101) S) ∧
  ((¬ ((S.1 22 0) ≤ x2)) →
  p_X3_comingBefore x2 S (fun r3 S2 =>
  ((¬ r3 = x1) →
  K2 (x1, (x2 + 1), S2)) ∧
  ((r3 = x1) →
  Q0 x2 S2)))
def p_X3_personAt (x1 : Int32) (S : St) (Q0 : Int32 → St → Prop) : Prop :=
  Lq (p_X3_personAt_2 Q0) (x1, 0, S)
def p_X6_order (x1 : Int32) (x2 : Int32) (S : St) (Q0 : Int32 → St → Prop) : Prop :=
  p_X6_isStepCount x1 S (fun r2 S1 =>
  ((¬ r2 = 0) →
  p_X0_ofKind 1 S1 (fun r5 S4 =>
  ((¬ r5 = 0) →
  p_X0_has x2 S4 (fun r8 S7 =>
  ((¬ r8 = 0) →
  p_X3_go x1 S7 (fun S10 =>
  p_X3_personAt x2 S10 (fun r12 S11 =>
  Q0 r12 S11))) ∧
  ((r8 = 0) →
  Q0 (-101) S7))) ∧
  ((r5 = 0) →
  Q0 (-103) S4))) ∧
  ((r2 = 0) →
  Q0 (-102) S1))
def p_X7_placeOf_67 (Q0 : Int32 → St → Prop) (K4 : Int32 × Int32 × Int32 × St → Prop) (x1 : Int32) (x3 : Int32) (t0 : Int32) (t1 : Int32) (S : St) : Prop :=
  K4 (x1, (t1 + t0), (x3 + 1), S)
def p_X7_placeOf_54 (Q0 : Int32 → St → Prop) (K4 : Int32 × Int32 × Int32 × St → Prop) (x1 : Int32) (x2 : Int32) (x3 : Int32) (t0 : Int32) (S : St) : Prop :=
  ((t0 = 0) →
  p_X7_placeOf_67 Q0 K4 x1 x3 0 x2 S) ∧
  ((¬ (t0 = 0)) →
  p_X7_placeOf_67 Q0 K4 x1 x3 1 x2 S)
def p_X7_placeOf_49 (Q0 : Int32 → St → Prop) (K4 : Int32 × Int32 × Int32 × St → Prop) (x1 : Int32) (x2 : Int32) (x3 : Int32) (S : St) : Prop :=
  p_X7_placeOf_54 Q0 K4 x1 x2 x3 1 S
def p_X7_placeOf_53 (Q0 : Int32 → St → Prop) (K4 : Int32 × Int32 × Int32 × St → Prop) (x1 : Int32) (x2 : Int32) (x3 : Int32) (S : St) : Prop :=
  p_X7_placeOf_54 Q0 K4 x1 x2 x3 0 S
def p_X7_placeOf_4 (Q0 : Int32 → St → Prop) (K4 : Int32 × Int32 × Int32 × St → Prop) : Int32 × Int32 × Int32 × St → Prop
  | (x1, x2, x3, S) => (((S.1 25 0) ≤ x3) →
  Q0 x2 S) ∧
  ((¬ ((S.1 25 0) ≤ x3)) →
  vp_in x3 9 ∧
  vp_in x1 9 ∧
  ((0 < (lg_cmp (S.2 37 x3.toNatClampNeg) (S.2 37 x1.toNatClampNeg))) →
  p_X7_placeOf_49 Q0 K4 x1 x2 x3 S) ∧
  ((¬ (0 < (lg_cmp (S.2 37 x3.toNatClampNeg) (S.2 37 x1.toNatClampNeg)))) →
  vp_in x3 9 ∧
  vp_in x1 9 ∧
  ((¬ (lg_cmp (S.2 37 x3.toNatClampNeg) (S.2 37 x1.toNatClampNeg)) = 0) →
  p_X7_placeOf_53 Q0 K4 x1 x2 x3 S) ∧
  (((lg_cmp (S.2 37 x3.toNatClampNeg) (S.2 37 x1.toNatClampNeg)) = 0) →
  ((x1 ≤ x3) →
  p_X7_placeOf_53 Q0 K4 x1 x2 x3 S) ∧
  ((¬ (x1 ≤ x3)) →
  p_X7_placeOf_49 Q0 K4 x1 x2 x3 S))))
def p_X7_placeOf (x1 : Int32) (S : St) (Q0 : Int32 → St → Prop) : Prop :=
  Lq (p_X7_placeOf_4 Q0) (x1, 0, 0, S)
def p_X7_orderNow_7 (Q0 : Int32 → St → Prop) (K7 : Int32 × Int32 × St → Prop) : Int32 × Int32 × St → Prop
  | (x2, x3, S) => p_X7_placeOf x3 S (fun r3 S2 =>
  ((r3 = x2) →
  Q0 x3 S2) ∧
  ((¬ (r3 = x2)) →
  K7 (x2, (x3 + 1), S2)))
def p_X7_orderNow (x1 : Int32) (x2 : Int32) (S : St) (Q0 : Int32 → St → Prop) : Prop :=
  p_X7_layChances x1 S (fun S1 =>
  Lq (p_X7_orderNow_7 Q0) (x2, 0, S1))
def p_X7_order (x1 : Int32) (x2 : Int32) (S : St) (Q0 : Int32 → St → Prop) : Prop :=
  p_X7_within x1 0 4 S (fun r2 S1 =>
  ((¬ r2 = 0) →
  p_X7_isCircle S1 (fun r5 S4 =>
  ((r5 = 0) →
  Q0 (-103) S4) ∧
  ((¬ (r5 = 0)) →
  p_X7_areSeeds S4 (fun r8 S7 =>
  ((¬ r8 = 0) →
  p_X7_isPerson x2 S7 (fun r11 S10 =>
  ((r11 = 0) →
  Q0 (-101) S10) ∧
  ((¬ (r11 = 0)) →
  p_X7_orderNow x1 x2 S10 (fun r14 S13 =>
  Q0 r14 S13)))) ∧
  ((r8 = 0) →
  Q0 (-103) S7))))) ∧
  ((r2 = 0) →
  Q0 (-102) S1))
def p_X6_count (x1 : Int32) (S : St) (Q0 : Int32 → St → Prop) : Prop :=
  ((x1 = 0) →
  Q0 (S.1 2 0) S) ∧
  ((¬ (x1 = 0)) →
  ((x1 = 1) →
  Q0 (S.1 0 1) S) ∧
  ((¬ (x1 = 1)) →
  ((x1 = 2) →
  Q0 (S.1 0 8) S) ∧
  ((¬ (x1 = 2)) →
  ((x1 = 3) →
  Q0 (S.1 0 9) S) ∧
  ((¬ (x1 = 3)) →
  ((x1 = 4) →
  Q0 (S.1 0 10) S) ∧
  ((¬ (x1 = 4)) →
  Q0 (-102) S)))))
def p_X7_howMany (x1 : Int32) (S : St) (Q0 : Int32 → St → Prop) : Prop :=
  ((x1 = 0) →
  Q0 (S.1 25 0) S) ∧
  ((¬ (x1 = 0)) →
  ((x1 = 1) →
  Q0 (S.1 25 8) S) ∧
  ((¬ (x1 = 1)) →
  ((x1 = 2) →
  Q0 (S.1 25 5) S) ∧
  ((¬ (x1 = 2)) →
  ((x1 = 3) →
  Q0 (S.1 25 6) S) ∧
  ((¬ (x1 = 3)) →
  ((x1 = 4) →
  Q0 (S.1 25 7) S) ∧
  ((¬ (x1 = 4)) →
  Q0 (-102) S)))))
def p_X7_count (x1 : Int32) (S : St) (Q0 : Int32 → St → Prop) : Prop :=
  p_X7_howMany x1 S (fun r2 S1 =>
  Q0 r2 S1)
def p_X6_add (x0 : Int64) (x2 : Int32) (S : St) (Q0 : Int64 → St → Prop) : Prop :=
  Q0 ((31 * x0) + x2.toInt64) S
def p_X6_addWalks_90 (Q0 : Int64 → St → Prop) (K5 : Int64 × Int32 × St → Prop) (K90 : Int64 × Int32 × Int32 × St → Prop) : Int64 × Int32 × Int32 × St → Prop
  | (x3, x5, x6, S) => (((S.1 2 0) ≤ x6) →
  K5 (x3, (x5 + 1), S)) ∧
  ((¬ ((S.1 2 0) ≤ x6)) →
  p_X3_personAt x6 S (fun r6 S5 =>
  p_X6_add x3 r6 S5 (fun r8 S7 =>
  K90 (r8, x5, (x6 + 1), S7))))
def p_X6_addWalks_27 (Q0 : Int64 → St → Prop) (K5 : Int64 × Int32 × St → Prop) (K27 : Int64 × Int32 × Int32 × St → Prop) : Int64 × Int32 × Int32 × St → Prop
  | (x3, x5, x6, S) => (((S.1 2 0) ≤ x6) →
  Lq (p_X6_addWalks_90 Q0 K5) (x3, x5, 0, S)) ∧
  ((¬ ((S.1 2 0) ≤ x6)) →
  p_X3_numerator x6 S (fun r10 S9 =>
  p_X6_add x3 r10 S9 (fun r12 S11 =>
  p_X3_denominator x6 S11 (fun r14 S13 =>
  p_X6_add r12 r14 S13 (fun r16 S15 =>
  p_X3_thousandPart x6 S15 (fun r18 S17 =>
  p_X6_add r16 r18 S17 (fun r20 S19 =>
  K27 (r20, x5, (x6 + 1), S19))))))))
def p_X6_addWalks_5 (Q0 : Int64 → St → Prop) (K5 : Int64 × Int32 × St → Prop) : Int64 × Int32 × St → Prop
  | (x3, x5, S) => ((4 < x5) →
  Q0 x3 S) ∧
  ((¬ (4 < x5)) →
  p_X3_go x5 S (fun S2 =>
  Lq (p_X6_addWalks_27 Q0 K5) (x3, x5, 0, S2)))
def p_X6_addWalks (x1 : Int64) (S : St) (Q0 : Int64 → St → Prop) : Prop :=
  Lq (p_X6_addWalks_5 Q0) (x1, 0, S)
def p_X6_addInk_16 (Q0 : Int64 → St → Prop) (K16 : Int64 × Int32 × St → Prop) : Int64 × Int32 × St → Prop
  | (x3, x5, S) => (((S.1 11 1) ≤ x5) →
  Q0 x3 S) ∧
  ((¬ ((S.1 11 1) ≤ x5)) →
  vp_in x5 115 ∧
  p_X6_add x3 (S.1 12 x5.toNatClampNeg) S (fun r4 S3 =>
  K16 (r4, (x5 + 1), S3)))
def p_X6_addInk (x1 : Int64) (S : St) (Q0 : Int64 → St → Prop) : Prop :=
  p_X5_write S (fun S1 =>
  Lq (p_X6_addInk_16 Q0) (x1, 0, S1))
def p_X6_addPersons_47 (Q0 : Int64 → St → Prop) (K32 : Int64 × Int32 × St → Prop) (K47 : Int64 × Int32 × Int32 × St → Prop) : Int64 × Int32 × Int32 × St → Prop
  | (x3, x5, x6, S) => ((7 < x6) →
  p_X6_apart x5 S (fun r9 S8 =>
  p_X6_add x3 r9 S8 (fun r11 S10 =>
  K32 (r11, (x5 + 1), S10)))) ∧
  ((¬ (7 < x6)) →
  p_X6_person x5 x6 S (fun r13 S12 =>
  p_X6_add x3 r13 S12 (fun r15 S14 =>
  K47 (r15, x5, (x6 + 1), S14))))
def p_X6_addPersons_32 (Q0 : Int64 → St → Prop) (K32 : Int64 × Int32 × St → Prop) : Int64 × Int32 × St → Prop
  | (x3, x5, S) => (((S.1 2 0) ≤ x5) →
  p_X6_generous S (fun r4 S3 =>
  p_X6_add x3 r4 S3 (fun r6 S5 =>
  Q0 r6 S5))) ∧
  ((¬ ((S.1 2 0) ≤ x5)) →
  Lq (p_X6_addPersons_47 Q0 K32) (x3, x5, 0, S))
def p_X6_addPersons_5 (Q0 : Int64 → St → Prop) (K5 : Int64 × Int32 × St → Prop) : Int64 × Int32 × St → Prop
  | (x3, x5, S) => ((7 < x5) →
  Lq (p_X6_addPersons_32 Q0) (x3, 0, S)) ∧
  ((¬ (7 < x5)) →
  p_X6_about x5 S (fun r17 S16 =>
  p_X6_add x3 r17 S16 (fun r19 S18 =>
  K5 (r19, (x5 + 1), S18))))
def p_X6_addPersons (x1 : Int64) (S : St) (Q0 : Int64 → St → Prop) : Prop :=
  Lq (p_X6_addPersons_5 Q0) (x1, 0, S)
def p_X6_addTrust_76 (Q0 : Int64 → St → Prop) (K76 : Int64 × Int32 × Int32 × St → Prop) : Int64 × Int32 × Int32 × St → Prop
  | (x3, x5, x6, S) => ((2 < x6) →
  Q0 x3 S) ∧
  ((¬ (2 < x6)) →
  p_X6_without (x5 / 10) (x5 - x5 / 10 * 10) x6 S (fun r10 S9 =>
  p_X6_add x3 r10 S9 (fun r12 S11 =>
  K76 (r12, x5, (x6 + 1), S11))))
def p_X6_addTrust_31 (Q0 : Int64 → St → Prop) (K31 : Int64 × Int32 × St → Prop) : Int64 × Int32 × St → Prop
  | (x3, x5, S) => ((2 < x5) →
  p_X6_dearest S (fun r4 S3 =>
  p_X6_add x3 r4 S3 (fun r6 S5 =>
  ((r4 = (-1)) →
  Q0 r6 S5) ∧
  ((¬ (r4 = (-1))) →
  Lq (p_X6_addTrust_76 Q0) (r6, r4, 0, S5))))) ∧
  ((¬ (2 < x5)) →
  p_X6_cut x5 S (fun r14 S13 =>
  p_X6_add x3 r14 S13 (fun r16 S15 =>
  K31 (r16, (x5 + 1), S15))))
def p_X6_addTrust_5 (Q0 : Int64 → St → Prop) (K5 : Int64 × Int32 × St → Prop) : Int64 × Int32 × St → Prop
  | (x3, x5, S) => ((4 < x5) →
  Lq (p_X6_addTrust_31 Q0) (x3, 0, S)) ∧
  ((¬ (4 < x5)) →
  p_X6_trust x5 S (fun r18 S17 =>
  p_X6_add x3 r18 S17 (fun r20 S19 =>
  K5 (r20, (x5 + 1), S19))))
def p_X6_addTrust (x1 : Int64) (S : St) (Q0 : Int64 → St → Prop) : Prop :=
  Lq (p_X6_addTrust_5 Q0) (x1, 0, S)
def p_X6_digest_78 (Q0 : Int64 → St → Prop) (K78 : Int64 × Int32 × St → Prop) : Int64 × Int32 × St → Prop
  | (x1, x3, S) => ((4 < x3) →
  Q0 x1 S) ∧
  ((¬ (4 < x3)) →
  p_X6_count x3 S (fun r10 S9 =>
  p_X6_add x1 r10 S9 (fun r12 S11 =>
  K78 (r12, (x3 + 1), S11))))
def p_X6_digest_51 (Q0 : Int64 → St → Prop) (K51 : Int64 × Int32 × St → Prop) : Int64 × Int32 × St → Prop
  | (x1, x3, S) => (((S.1 0 1) ≤ x3) →
  Lq (p_X6_digest_78 Q0) (x1, 0, S)) ∧
  ((¬ ((S.1 0 1) ≤ x3)) →
  vp_in x3 110 ∧
  p_X6_add x1 (S.1 1 x3.toNatClampNeg) S (fun r14 S13 =>
  K51 (r14, (x3 + 1), S13)))
def p_X6_digest_49 (Q0 : Int64 → St → Prop) (x1 : Int64) (S : St) : Prop :=
  Lq (p_X6_digest_51 Q0) (x1, 0, S)
def p_X6_digest_32 (Q0 : Int64 → St → Prop) (x1 : Int64) (S : St) : Prop :=
  p_X0_ofKind 1 S (fun r5 S4 =>
  ((r5 = 0) →
  p_X6_digest_49 Q0 x1 S4) ∧
  ((¬ (r5 = 0)) →
  p_X6_addWalks x1 S4 (fun r16 S15 =>
  p_X6_digest_49 Q0 r16 S15)))
def p_X6_digest (S : St) (Q0 : Int64 → St → Prop) : Prop :=
  p_X0_exists S (fun r2 S1 =>
  ((r2 = 0) →
  p_X6_digest_32 Q0 1553 S1) ∧
  ((¬ (r2 = 0)) →
  p_X6_addInk 1553 S1 (fun r18 S17 =>
  p_X6_addPersons r18 S17 (fun r20 S19 =>
  p_X6_addTrust r20 S19 (fun r22 S21 =>
  p_X6_digest_32 Q0 r22 S21)))))
def p_X7_mix (x1 : Int64) (S : St) (Q0 : St → Prop) : Prop :=
  ∀ S1 : St, S1 = sj S 25 29 ((31 * (S.2 25 29)) + x1) →
  Q0 S1
def p_X7_mixWalk_53 (Q0 : St → Prop) (K53 : Int32 × Int32 × St → Prop) : Int32 × Int32 × St → Prop
  | (x1, x2, S) => (((S.1 25 0) ≤ x2) →
  Q0 S) ∧
  ((¬ ((S.1 25 0) ≤ x2)) →
  p_X7_orderNow x1 x2 S (fun r4 S3 =>
  p_X7_mix r4.toInt64 S3 (fun S5 =>
  K53 (x1, (x2 + 1), S5))))
def p_X7_mixWalk_2 (Q0 : St → Prop) (K2 : Int32 × Int32 × St → Prop) : Int32 × Int32 × St → Prop
  | (x1, x2, S) => (((S.1 25 0) ≤ x2) →
  Lq (p_X7_mixWalk_53 Q0) (x1, 0, S)) ∧
  ((¬ ((S.1 25 0) ≤ x2)) →
  p_X7_chanceNow x2 x1 0 S (fun r7 S6 =>
  p_X7_mix r7.toInt64 S6 (fun S8 =>
  p_X7_chanceNow x2 x1 1 S8 (fun r10 S9 =>
  p_X7_mix r10.toInt64 S9 (fun S11 =>
  p_X7_thousandthsNow x2 x1 S11 (fun r13 S12 =>
  p_X7_mix r13.toInt64 S12 (fun S14 =>
  K2 (x1, (x2 + 1), S14))))))))
def p_X7_mixWalk (x1 : Int32) (S : St) (Q0 : St → Prop) : Prop :=
  Lq (p_X7_mixWalk_2 Q0) (x1, 0, S)
def p_X7_mixInk_2 (Q0 : St → Prop) (K2 : Int32 × St → Prop) : Int32 × St → Prop
  | (x1, S) => p_X7_inkNow x1 S (fun r2 S1 =>
  ((r2 = (-1)) →
  Q0 S1) ∧
  ((¬ (r2 = (-1))) →
  p_X7_inkNow x1 S1 (fun r5 S4 =>
  p_X7_mix r5.toInt64 S4 (fun S6 =>
  K2 ((x1 + 1), S6)))))
def p_X7_mixInk (S : St) (Q0 : St → Prop) : Prop :=
  Lq (p_X7_mixInk_2 Q0) (0, S)
def p_X7_mixPersons_36 (Q0 : St → Prop) (K26 : Int32 × St → Prop) (K36 : Int32 × Int32 × St → Prop) : Int32 × Int32 × St → Prop
  | (x1, x2, S) => ((8 ≤ x2) →
  p_X7_apartNow x1 S (fun r8 S7 =>
  p_X7_mix r8.toInt64 S7 (fun S9 =>
  K26 ((x1 + 1), S9)))) ∧
  ((¬ (8 ≤ x2)) →
  p_X7_personNow x1 x2 S (fun r11 S10 =>
  p_X7_mix r11.toInt64 S10 (fun S12 =>
  K36 (x1, (x2 + 1), S12))))
def p_X7_mixPersons_26 (Q0 : St → Prop) (K26 : Int32 × St → Prop) : Int32 × St → Prop
  | (x1, S) => (((S.1 25 0) ≤ x1) →
  p_X7_generousNow S (fun r4 S3 =>
  p_X7_mix r4.toInt64 S3 (fun S5 =>
  Q0 S5))) ∧
  ((¬ ((S.1 25 0) ≤ x1)) →
  Lq (p_X7_mixPersons_36 Q0 K26) (x1, 0, S))
def p_X7_mixPersons_2 (Q0 : St → Prop) (K2 : Int32 × St → Prop) : Int32 × St → Prop
  | (x1, S) => ((8 ≤ x1) →
  Lq (p_X7_mixPersons_26 Q0) (0, S)) ∧
  ((¬ (8 ≤ x1)) →
  p_X7_aboutNow x1 S (fun r14 S13 =>
  p_X7_mix r14.toInt64 S13 (fun S15 =>
  K2 ((x1 + 1), S15))))
def p_X7_mixPersons (S : St) (Q0 : St → Prop) : Prop :=
  Lq (p_X7_mixPersons_2 Q0) (0, S)
def p_X7_mixTrust_59 (Q0 : St → Prop) (K59 : Int32 × Int32 × St → Prop) : Int32 × Int32 × St → Prop
  | (x1, x2, S) => ((3 ≤ x2) →
  Q0 S) ∧
  ((¬ (3 ≤ x2)) →
  ((x1 = (-1)) →
  Q0 S) ∧
  ((¬ (x1 = (-1))) →
  p_X7_withoutNow (x1 / 10) (x1 - x1 / 10 * 10) x2 S (fun r9 S8 =>
  p_X7_mix r9.toInt64 S8 (fun S10 =>
  K59 (x1, (x2 + 1), S10)))))
def p_X7_mixTrust_25 (Q0 : St → Prop) (K25 : Int32 × St → Prop) : Int32 × St → Prop
  | (x1, S) => ((3 ≤ x1) →
  p_X7_dearestNow S (fun r4 S3 =>
  p_X7_mix r4.toInt64 S3 (fun S5 =>
  Lq (p_X7_mixTrust_59 Q0) (r4, 0, S5)))) ∧
  ((¬ (3 ≤ x1)) →
  p_X7_cutNow x1 S (fun r12 S11 =>
  p_X7_mix r12.toInt64 S11 (fun S13 =>
  K25 ((x1 + 1), S13))))
def p_X7_mixTrust_2 (Q0 : St → Prop) (K2 : Int32 × St → Prop) : Int32 × St → Prop
  | (x1, S) => ((5 ≤ x1) →
  Lq (p_X7_mixTrust_25 Q0) (0, S)) ∧
  ((¬ (5 ≤ x1)) →
  p_X7_trustNow x1 S (fun r15 S14 =>
  p_X7_mix r15.toInt64 S14 (fun S16 =>
  K2 ((x1 + 1), S16))))
def p_X7_mixTrust (S : St) (Q0 : St → Prop) : Prop :=
  Lq (p_X7_mixTrust_2 Q0) (0, S)
def p_X7_digest_80 (Q0 : Int64 → St → Prop) (K80 : Int32 × St → Prop) : Int32 × St → Prop
  | (x1, S) => ((5 ≤ x1) →
  Q0 (S.2 25 29) S) ∧
  ((¬ (5 ≤ x1)) →
  p_X7_howMany x1 S (fun r9 S8 =>
  p_X7_mix r9.toInt64 S8 (fun S10 =>
  K80 ((x1 + 1), S10))))
def p_X7_digest_53 (Q0 : Int64 → St → Prop) (K53 : Int32 × St → Prop) : Int32 × St → Prop
  | (x1, S) => (((S.1 25 8) ≤ x1) →
  Lq (p_X7_digest_80 Q0) (0, S)) ∧
  ((¬ ((S.1 25 8) ≤ x1)) →
  vp_in x1 110 ∧
  p_X7_mix ((S.1 29 x1.toNatClampNeg).toInt64) S (fun S11 =>
  K53 ((x1 + 1), S11)))
def p_X7_digest_51 (Q0 : Int64 → St → Prop) (S : St) : Prop :=
  Lq (p_X7_digest_53 Q0) (0, S)
def p_X7_digest_28 (Q0 : Int64 → St → Prop) (K28 : Int32 × St → Prop) : Int32 × St → Prop
  | (x1, S) => ((4 < x1) →
  p_X7_digest_51 Q0 S) ∧
  ((¬ (4 < x1)) →
  p_X7_areSeeds S (fun r13 S12 =>
  ((r13 = 0) →
  p_X7_digest_51 Q0 S12) ∧
  ((¬ (r13 = 0)) →
  p_X7_mixWalk x1 S12 (fun S15 =>
  K28 ((x1 + 1), S15)))))
def p_X7_digest_26 (Q0 : Int64 → St → Prop) (S : St) : Prop :=
  Lq (p_X7_digest_28 Q0) (0, S)
def p_X7_digest (S : St) (Q0 : Int64 → St → Prop) : Prop :=
  ∀ S1 : St, S1 = sj S 25 29 1553 →
  p_X7_isCircle S1 (fun r3 S2 =>
  ((r3 = 0) →
  p_X7_digest_26 Q0 S2) ∧
  ((¬ (r3 = 0)) →
  p_X7_mixInk S2 (fun S16 =>
  p_X7_mixPersons S16 (fun S17 =>
  p_X7_mixTrust S17 (fun S18 =>
  p_X7_digest_26 Q0 S18)))))
def p_L_law_794 (L : Nat) (xs : Nat → Int32) (K18 : Int32 × St → Prop) (x3 : Int32) (S : St) : Prop :=
  K18 ((x3 + 4), S)
def p_L_law_18 (L : Nat) (xs : Nat → Int32) (K18 : Int32 × St → Prop) : Int32 × St → Prop
  | (x3, S) => ((((Int32.ofNat L) - 4) < x3) →
  True) ∧
  ((¬ (((Int32.ofNat L) - 4) < x3)) →
  vp_in x3 L ∧
  ((((xs x3.toNatClampNeg) &&& 31) = 0) →
  vp_in (x3 + 1) L ∧
  p_X6_letter (xs (x3 + 1).toNatClampNeg) S (fun r4 S3 =>
  vp_in (x3 + 1) L ∧
  p_X7_letter (xs (x3 + 1).toNatClampNeg) S3 (fun r6 S5 =>
  ((r4 = r6) →
  p_L_law_794 L xs K18 x3 S5) ∧
  ((¬ (r4 = r6)) →
  False)))) ∧
  ((¬ (((xs x3.toNatClampNeg) &&& 31) = 0)) →
  ((((xs x3.toNatClampNeg) &&& 31) = 1) →
  p_X6_blank S (fun r10 S9 =>
  p_X7_blank S9 (fun r12 S11 =>
  ((r10 = r12) →
  p_L_law_794 L xs K18 x3 S11) ∧
  ((¬ (r10 = r12)) →
  False)))) ∧
  ((¬ (((xs x3.toNatClampNeg) &&& 31) = 1)) →
  ((((xs x3.toNatClampNeg) &&& 31) = 2) →
  p_X6_fault S (fun r16 S15 =>
  p_X7_fault S15 (fun r18 S17 =>
  ((r16 = r18) →
  p_L_law_794 L xs K18 x3 S17) ∧
  ((¬ (r16 = r18)) →
  False)))) ∧
  ((¬ (((xs x3.toNatClampNeg) &&& 31) = 2)) →
  ((((xs x3.toNatClampNeg) &&& 31) = 3) →
  p_X6_circle S (fun r22 S21 =>
  p_X7_circle S21 (fun r24 S23 =>
  ((r22 = r24) →
  p_L_law_794 L xs K18 x3 S23) ∧
  ((¬ (r22 = r24)) →
  False)))) ∧
  ((¬ (((xs x3.toNatClampNeg) &&& 31) = 3)) →
  ((((xs x3.toNatClampNeg) &&& 31) = 4) →
  vp_in (x3 + 1) L ∧
  p_X6_ink (xs (x3 + 1).toNatClampNeg) S (fun r28 S27 =>
  vp_in (x3 + 1) L ∧
  p_X7_ink (xs (x3 + 1).toNatClampNeg) S27 (fun r30 S29 =>
  ((r28 = r30) →
  p_L_law_794 L xs K18 x3 S29) ∧
  ((¬ (r28 = r30)) →
  False)))) ∧
  ((¬ (((xs x3.toNatClampNeg) &&& 31) = 4)) →
  ((((xs x3.toNatClampNeg) &&& 31) = 5) →
  vp_in (x3 + 1) L ∧
  vp_in (x3 + 2) L ∧
  p_X6_kind (xs (x3 + 1).toNatClampNeg) (xs (x3 + 2).toNatClampNeg) S (fun r34 S33 =>
  vp_in (x3 + 1) L ∧
  vp_in (x3 + 2) L ∧
  p_X7_kind (xs (x3 + 1).toNatClampNeg) (xs (x3 + 2).toNatClampNeg) S33 (fun r36 S35 =>
  ((r34 = r36) →
  p_L_law_794 L xs K18 x3 S35) ∧
  ((¬ (r34 = r36)) →
  False)))) ∧
  ((¬ (((xs x3.toNatClampNeg) &&& 31) = 5)) →
  ((((xs x3.toNatClampNeg) &&& 31) = 6) →
  vp_in (x3 + 1) L ∧
  vp_in (x3 + 2) L ∧
  p_X6_as (xs (x3 + 1).toNatClampNeg) (xs (x3 + 2).toNatClampNeg) S (fun r40 S39 =>
  vp_in (x3 + 1) L ∧
  vp_in (x3 + 2) L ∧
  p_X7_as (xs (x3 + 1).toNatClampNeg) (xs (x3 + 2).toNatClampNeg) S39 (fun r42 S41 =>
  ((r40 = r42) →
  p_L_law_794 L xs K18 x3 S41) ∧
  ((¬ (r40 = r42)) →
  False)))) ∧
  ((¬ (((xs x3.toNatClampNeg) &&& 31) = 6)) →
  ((((xs x3.toNatClampNeg) &&& 31) = 7) →
  vp_in (x3 + 1) L ∧
  vp_in (x3 + 2) L ∧
  p_X6_vouch (xs (x3 + 1).toNatClampNeg) (xs (x3 + 2).toNatClampNeg) S (fun r46 S45 =>
  vp_in (x3 + 1) L ∧
  vp_in (x3 + 2) L ∧
  p_X7_vouch (xs (x3 + 1).toNatClampNeg) (xs (x3 + 2).toNatClampNeg) S45 (fun r48 S47 =>
  ((r46 = r48) →
  p_L_law_794 L xs K18 x3 S47) ∧
  ((¬ (r46 = r48)) →
  False)))) ∧
  ((¬ (((xs x3.toNatClampNeg) &&& 31) = 7)) →
  ((((xs x3.toNatClampNeg) &&& 31) = 8) →
  vp_in (x3 + 1) L ∧
  vp_in (x3 + 2) L ∧
  p_X6_recall (xs (x3 + 1).toNatClampNeg) (xs (x3 + 2).toNatClampNeg) S (fun r52 S51 =>
  vp_in (x3 + 1) L ∧
  vp_in (x3 + 2) L ∧
  p_X7_recall (xs (x3 + 1).toNatClampNeg) (xs (x3 + 2).toNatClampNeg) S51 (fun r54 S53 =>
  ((r52 = r54) →
  p_L_law_794 L xs K18 x3 S53) ∧
  ((¬ (r52 = r54)) →
  False)))) ∧
  ((¬ (((xs x3.toNatClampNeg) &&& 31) = 8)) →
  ((((xs x3.toNatClampNeg) &&& 31) = 9) →
  vp_in (x3 + 1) L ∧
  vp_in (x3 + 2) L ∧
  p_X6_bound (xs (x3 + 1).toNatClampNeg) (xs (x3 + 2).toNatClampNeg) S (fun r58 S57 =>
  vp_in (x3 + 1) L ∧
  vp_in (x3 + 2) L ∧
  p_X7_bound (xs (x3 + 1).toNatClampNeg) (xs (x3 + 2).toNatClampNeg) S57 (fun r60 S59 =>
  ((r58 = r60) →
  p_L_law_794 L xs K18 x3 S59) ∧
  ((¬ (r58 = r60)) →
  False)))) ∧
  ((¬ (((xs x3.toNatClampNeg) &&& 31) = 9)) →
  ((((xs x3.toNatClampNeg) &&& 31) = 10) →
  vp_in (x3 + 1) L ∧
  p_X6_about (xs (x3 + 1).toNatClampNeg) S (fun r64 S63 =>
  vp_in (x3 + 1) L ∧
  p_X7_about (xs (x3 + 1).toNatClampNeg) S63 (fun r66 S65 =>
  ((r64 = r66) →
  p_L_law_794 L xs K18 x3 S65) ∧
  ((¬ (r64 = r66)) →
  False)))) ∧
  ((¬ (((xs x3.toNatClampNeg) &&& 31) = 10)) →
  ((((xs x3.toNatClampNeg) &&& 31) = 11) →
  vp_in (x3 + 1) L ∧
  vp_in (x3 + 2) L ∧
  p_X6_person (xs (x3 + 1).toNatClampNeg) (xs (x3 + 2).toNatClampNeg) S (fun r70 S69 =>
  vp_in (x3 + 1) L ∧
  vp_in (x3 + 2) L ∧
  p_X7_person (xs (x3 + 1).toNatClampNeg) (xs (x3 + 2).toNatClampNeg) S69 (fun r72 S71 =>
  ((r70 = r72) →
  p_L_law_794 L xs K18 x3 S71) ∧
  ((¬ (r70 = r72)) →
  False)))) ∧
  ((¬ (((xs x3.toNatClampNeg) &&& 31) = 11)) →
  ((((xs x3.toNatClampNeg) &&& 31) = 12) →
  vp_in (x3 + 1) L ∧
  vp_in (x3 + 2) L ∧
  p_X6_vouches (xs (x3 + 1).toNatClampNeg) (xs (x3 + 2).toNatClampNeg) S (fun r76 S75 =>
  vp_in (x3 + 1) L ∧
  vp_in (x3 + 2) L ∧
  p_X7_vouches (xs (x3 + 1).toNatClampNeg) (xs (x3 + 2).toNatClampNeg) S75 (fun r78 S77 =>
  ((r76 = r78) →
  p_L_law_794 L xs K18 x3 S77) ∧
  ((¬ (r76 = r78)) →
  False)))) ∧
  ((¬ (((xs x3.toNatClampNeg) &&& 31) = 12)) →
  ((((xs x3.toNatClampNeg) &&& 31) = 13) →
  p_X6_generous S (fun r82 S81 =>
  p_X7_generous S81 (fun r84 S83 =>
  ((r82 = r84) →
  p_L_law_794 L xs K18 x3 S83) ∧
  ((¬ (r82 = r84)) →
  False)))) ∧
  ((¬ (((xs x3.toNatClampNeg) &&& 31) = 13)) →
  ((((xs x3.toNatClampNeg) &&& 31) = 14) →
  vp_in (x3 + 1) L ∧
  p_X6_trust (xs (x3 + 1).toNatClampNeg) S (fun r88 S87 =>
  vp_in (x3 + 1) L ∧
  p_X7_trust (xs (x3 + 1).toNatClampNeg) S87 (fun r90 S89 =>
  ((r88 = r90) →
  p_L_law_794 L xs K18 x3 S89) ∧
  ((¬ (r88 = r90)) →
  False)))) ∧
  ((¬ (((xs x3.toNatClampNeg) &&& 31) = 14)) →
  ((((xs x3.toNatClampNeg) &&& 31) = 15) →
  vp_in (x3 + 1) L ∧
  p_X6_together (xs (x3 + 1).toNatClampNeg) S (fun r94 S93 =>
  vp_in (x3 + 1) L ∧
  p_X7_together (xs (x3 + 1).toNatClampNeg) S93 (fun r96 S95 =>
  ((r94 = r96) →
  p_L_law_794 L xs K18 x3 S95) ∧
  ((¬ (r94 = r96)) →
  False)))) ∧
  ((¬ (((xs x3.toNatClampNeg) &&& 31) = 15)) →
  ((((xs x3.toNatClampNeg) &&& 31) = 16) →
  vp_in (x3 + 1) L ∧
  p_X6_cut (xs (x3 + 1).toNatClampNeg) S (fun r100 S99 =>
  vp_in (x3 + 1) L ∧
  p_X7_cut (xs (x3 + 1).toNatClampNeg) S99 (fun r102 S101 =>
  ((r100 = r102) →
  p_L_law_794 L xs K18 x3 S101) ∧
  ((¬ (r100 = r102)) →
  False)))) ∧
  ((¬ (((xs x3.toNatClampNeg) &&& 31) = 16)) →
  ((((xs x3.toNatClampNeg) &&& 31) = 17) →
  vp_in (x3 + 1) L ∧
  p_X6_apart (xs (x3 + 1).toNatClampNeg) S (fun r106 S105 =>
  vp_in (x3 + 1) L ∧
  p_X7_apart (xs (x3 + 1).toNatClampNeg) S105 (fun r108 S107 =>
  ((r106 = r108) →
  p_L_law_794 L xs K18 x3 S107) ∧
  ((¬ (r106 = r108)) →
  False)))) ∧
  ((¬ (((xs x3.toNatClampNeg) &&& 31) = 17)) →
  ((((xs x3.toNatClampNeg) &&& 31) = 18) →
  vp_in (x3 + 1) L ∧
  vp_in (x3 + 2) L ∧
  vp_in (x3 + 3) L ∧
  p_X6_without (xs (x3 + 1).toNatClampNeg) (xs (x3 + 2).toNatClampNeg) (xs (x3 + 3).toNatClampNeg) S (fun r112 S111 =>
  vp_in (x3 + 1) L ∧
  vp_in (x3 + 2) L ∧
  vp_in (x3 + 3) L ∧
  p_X7_without (xs (x3 + 1).toNatClampNeg) (xs (x3 + 2).toNatClampNeg) (xs (x3 + 3).toNatClampNeg) S111 (fun r114 S113 =>
  ((r112 = r114) →
  p_L_law_794 L xs K18 x3 S113) ∧
  ((¬ (r112 = r114)) →
  False)))) ∧
  ((¬ (((xs x3.toNatClampNeg) &&& 31) = 18)) →
  ((((xs x3.toNatClampNeg) &&& 31) = 19) →
  p_X6_dearest S (fun r118 S117 =>
  p_X7_dearest S117 (fun r120 S119 =>
  ((r118 = r120) →
  p_L_law_794 L xs K18 x3 S119) ∧
  ((¬ (r118 = r120)) →
  False)))) ∧
  ((¬ (((xs x3.toNatClampNeg) &&& 31) = 19)) →
  ((((xs x3.toNatClampNeg) &&& 31) = 20) →
  vp_in (x3 + 1) L ∧
  vp_in (x3 + 2) L ∧
  vp_in (x3 + 3) L ∧
  p_X6_chance (xs (x3 + 1).toNatClampNeg) (xs (x3 + 2).toNatClampNeg) (xs (x3 + 3).toNatClampNeg) S (fun r124 S123 =>
  vp_in (x3 + 1) L ∧
  vp_in (x3 + 2) L ∧
  vp_in (x3 + 3) L ∧
  p_X7_chance (xs (x3 + 1).toNatClampNeg) (xs (x3 + 2).toNatClampNeg) (xs (x3 + 3).toNatClampNeg) S123 (fun r126 S125 =>
  ((r124 = r126) →
  p_L_law_794 L xs K18 x3 S125) ∧
  ((¬ (r124 = r126)) →
  False)))) ∧
  ((¬ (((xs x3.toNatClampNeg) &&& 31) = 20)) →
  ((((xs x3.toNatClampNeg) &&& 31) = 21) →
  vp_in (x3 + 1) L ∧
  vp_in (x3 + 2) L ∧
  p_X6_thousandths (xs (x3 + 1).toNatClampNeg) (xs (x3 + 2).toNatClampNeg) S (fun r130 S129 =>
  vp_in (x3 + 1) L ∧
  vp_in (x3 + 2) L ∧
  p_X7_thousandths (xs (x3 + 1).toNatClampNeg) (xs (x3 + 2).toNatClampNeg) S129 (fun r132 S131 =>
  ((r130 = r132) →
  p_L_law_794 L xs K18 x3 S131) ∧
  ((¬ (r130 = r132)) →
  False)))) ∧
  ((¬ (((xs x3.toNatClampNeg) &&& 31) = 21)) →
  ((((xs x3.toNatClampNeg) &&& 31) = 22) →
  vp_in (x3 + 1) L ∧
  vp_in (x3 + 2) L ∧
  p_X6_order (xs (x3 + 1).toNatClampNeg) (xs (x3 + 2).toNatClampNeg) S (fun r136 S135 =>
  vp_in (x3 + 1) L ∧
  vp_in (x3 + 2) L ∧
  p_X7_order (xs (x3 + 1).toNatClampNeg) (xs (x3 + 2).toNatClampNeg) S135 (fun r138 S137 =>
  ((r136 = r138) →
  p_L_law_794 L xs K18 x3 S137) ∧
  ((¬ (r136 = r138)) →
  False)))) ∧
  ((¬ (((xs x3.toNatClampNeg) &&& 31) = 22)) →
  ((((xs x3.toNatClampNeg) &&& 31) = 23) →
  vp_in (x3 + 1) L ∧
  p_X6_count (xs (x3 + 1).toNatClampNeg) S (fun r142 S141 =>
  vp_in (x3 + 1) L ∧
  p_X7_count (xs (x3 + 1).toNatClampNeg) S141 (fun r144 S143 =>
  ((r142 = r144) →
  p_L_law_794 L xs K18 x3 S143) ∧
  ((¬ (r142 = r144)) →
  False)))) ∧
  ((¬ (((xs x3.toNatClampNeg) &&& 31) = 23)) →
  ((((xs x3.toNatClampNeg) &&& 31) = 24) →
  p_X6_digest S (fun r148 S147 =>
  p_X7_digest S147 (fun r150 S149 =>
  (((lg_cmp r148 r150) = 0) →
  p_L_law_794 L xs K18 x3 S149) ∧
  ((¬ ((lg_cmp r148 r150) = 0)) →
  False)))) ∧
  ((¬ (((xs x3.toNatClampNeg) &&& 31) = 24)) →
  p_L_law_794 L xs K18 x3 S))))))))))))))))))))))))))
