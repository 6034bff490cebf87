/-! ===== texts are read: state (stage, persons, bounds so far, bound, person, least next whom, kinds, vouches) ===== -/
theorem si_r (S : St) (k j : Nat) (v : Int32) (a b : Nat) : (si S k j v).1 a b = if a = k then (if b = j then v else S.1 k b) else S.1 a b := by
  show (if a = k then upd (S.1 k) j v else S.1 a) b = _
  by_cases h : a = k
  · rw [if_pos h, if_pos h]; rfl
  · rw [if_neg h, if_neg h]
abbrev Rs : Type := Nat × Nat × Nat × (Nat → Nat) × Nat × Nat × (Nat → Nat) × (Nat → Nat)
def pt (f : Nat → Nat) (p v : Nat) : Nat → Nat := fun q => if q = p then v else f q
theorem pt_s {f : Nat → Nat} {p v : Nat} : pt f p v p = v := if_pos rfl
theorem pt_n {f : Nat → Nat} {p v q : Nat} (h : q ≠ p) : pt f p v q = f q := if_neg h
def rper (st n bc : Nat) (bd : Nat → Nat) (cur nx : Nat) (kd vz : Nat → Nat) (x : Int32) : Option Rs :=
  if x = 62 then (if (if nx = cur then nx + 1 else nx) < n ∧ crd (vz cur) < 5 then some (5, n, bc, bd, cur, nx, kd, vz) else none)
  else if x = 59 then (if cur + 1 < n then some (3, n, bc, bd, cur + 1, 0, kd, vz) else none)
  else none
def rstep : Rs → Int32 → Option Rs
  | (st, n, bc, bd, cur, nx, kd, vz), x =>
    if st = 0 then (if 1 ≤ x - 48 ∧ x - 48 ≤ 9 then some (1, (x - 48).toNatClampNeg, bc, bd, cur, nx, kd, vz) else none)
    else if st = 1 then (if x = 58 then some (2, n, bc, bd, cur, nx, kd, vz) else none)
    else if st = 2 then (if x = 58 ∧ 0 < bc then some (3, n, bc, bd, cur, nx, kd, vz) else if 0 ≤ x - 48 ∧ x - 48 ≤ 9 ∧ bc < 5 then some (2, n, bc + 1, pt bd bc (x - 48).toNatClampNeg, cur, nx, kd, vz) else none)
    else if st = 5 then (if nI nx ≤ x - 48 ∧ x - 48 < nI n ∧ x - 48 ≠ nI cur then some (4, n, bc, bd, cur, (x - 48).toNatClampNeg + 1, kd, pt vz cur (vz cur ||| 2 ^ (x - 48).toNatClampNeg)) else none)
    else if st = 3 ∧ x = 42 ∧ fb_ct (knd kd 1) n < 5 then some (4, n, bc, bd, cur, nx, pt kd cur 1, vz)
    else if st = 3 ∧ x = 33 then some (4, n, bc, bd, cur, nx, pt kd cur 2, vz)
    else rper st n bc bd cur nx kd vz x
/-- what holds of a reader's state -/
def RW : Rs → Prop
  | (st, n, bc, bd, cur, nx, kd, vz) => st ≤ 5 ∧ n ≤ 9 ∧ (1 ≤ st → 1 ≤ n) ∧ bc ≤ 5 ∧ (∀ i, i < bc → bd i ≤ 9) ∧ (3 ≤ st → 1 ≤ bc) ∧ (1 ≤ st → cur < n) ∧ cur < 9 ∧ (∀ p, kd p ≤ 2) ∧ (∀ p, cur < p → kd p = 0 ∧ vz p = 0) ∧ (∀ p, vz p < 2 ^ n ∧ crd (vz p) ≤ 5 ∧ (vz p).testBit p = false) ∧ fb_ct (knd kd 1) 9 ≤ 5 ∧ nx ≤ 9 ∧ (st = 5 → crd (vz cur) < 5) ∧ (∀ q, (vz cur).testBit q = true → q < nx) ∧ (st ≤ 3 → kd cur = 0 ∧ vz cur = 0 ∧ nx = 0) ∧ (st ≤ 2 → cur = 0) ∧ (st = 0 → n = 0)
def RCs (S : St) : Rs → Prop
  | (st, n, bc, bd, cur, nx, kd, vz) => S.1 6 1 = nI st ∧ S.1 7 0 = nI n ∧ S.1 7 1 = nI bc ∧ (∀ i, i < bc → S.1 8 i = nI (bd i)) ∧ S.1 6 2 = nI cur ∧ S.1 6 3 = nI nx - 1 ∧ (∀ p, p < 9 → S.1 9 p = nI (kd p)) ∧ (∀ p, p < 9 → S.1 10 p = nI (vz p))
def RMs (S : St) : Rs → Prop
  | (st, n, bc, bd, cur, nx, kd, vz) => S.1 25 10 = nI st ∧ (1 ≤ st → S.1 25 11 = nI n) ∧ S.1 25 12 = nI bc ∧ (∀ i, i < bc → S.1 30 i = nI (bd i)) ∧ (3 ≤ st → S.1 25 14 = nI cur ∧ S.1 25 15 = nI nx - 1 ∧ ∀ p, p ≤ cur → S.1 31 p = nI (kd p) ∧ S.1 32 p = nI (vz p)) ∧ S.1 25 16 = nI (fb_ct (knd kd 1) 9)
theorem lt1_iff {y : Int32} : y < 1 ↔ ¬ (1 : Int32) ≤ y := by rw [Int32.lt_iff_toInt_lt, Int32.le_iff_toInt_le]; omega
theorem i_nle {x y : Int32} : ¬ x ≤ y ↔ y < x := by rw [Int32.lt_iff_toInt_lt, Int32.le_iff_toInt_le]; omega
theorem i_nlt {x y : Int32} : ¬ x < y ↔ y ≤ x := by rw [Int32.lt_iff_toInt_lt, Int32.le_iff_toInt_le]; omega
theorem dg_of {y : Int32} {n : Nat} (hn : n ≤ 1000) (h1 : 0 ≤ y) (h2 : y ≤ nI n) : ∃ d, d ≤ n ∧ y = nI d := by
  obtain ⟨j, hj, rfl⟩ := nI_of (i_nlt.mpr h1)
  exact ⟨j, (nI_leI hj (by omega)).mp h2, rfl⟩
theorem m1_toInt {k : Nat} (hk : k ≤ 1000) : (nI k - 1).toInt = (k : Int) - 1 := by
  rw [fb_subI (by rw [nI_toInt (by omega), show (1 : Int32).toInt = 1 from rfl]; omega) (by rw [nI_toInt (by omega), show (1 : Int32).toInt = 1 from rfl]; omega), nI_toInt (by omega)]; rfl
theorem le_m1 {y : Int32} {k : Nat} (hk : k ≤ 1000) : y ≤ nI k - 1 ↔ ¬ nI k ≤ y := by
  rw [Int32.le_iff_toInt_le, Int32.le_iff_toInt_le, m1_toInt hk, nI_toInt (by omega)]; omega
theorem m1_p1 {k : Nat} : (nI k - 1 : Int32) + 1 = nI k := by rw [Int32.sub_add_cancel]
theorem m1_p2 {k : Nat} : (nI k - 1 : Int32) + 2 = nI (k + 1) := by
  rw [show (2 : Int32) = 1 + 1 from rfl, ← Int32.add_assoc, m1_p1, nI_1]
theorem moveTo_s {st n bc cur nx t : Nat} {bd kd vz : Nat → Nat} {S : St} {Q : Int32 → St → Prop} (h : RCs S (st, n, bc, bd, cur, nx, kd, vz)) (hq : ∀ S1, RCs S1 (t, n, bc, bd, cur, nx, kd, vz) → KC S S1 → Q 1 S1) : p_X2_moveTo (nI t) S Q := by
  intro S1 e
  subst e
  obtain ⟨h1, h2, h3, h4, h5, h6, h7, h8⟩ := h
  refine hq _ ⟨?_, ?_, ?_, ?_, ?_, ?_, ?_, ?_⟩ (KC.ci (by omega) (by omega))
  all_goals simp only [si_r]
  · rfl
  · simpa using h2
  · simpa using h3
  · simpa using h4
  · simpa using h5
  · simpa using h6
  · simpa using h7
  · simpa using h8
theorem knd_ct {kd : Nat → Nat} {n cur : Nat} (hn : n ≤ 9) (hc : cur < n) (h : ∀ p, cur < p → kd p = 0) : fb_ct (knd kd 1) n = fb_ct (knd kd 1) 9 := by
  obtain ⟨d, e⟩ : ∃ d, 9 = n + d := ⟨9 - n, by omega⟩
  rw [e, fb_ct_split]
  have : fb_ct (fun k => knd kd 1 (n + k)) d = 0 := fb_ct_zero.mpr (fun k _ => by unfold knd; rw [h (n + k) (by omega)]; rfl)
  omega
theorem canV_s {st n bc cur nx : Nat} {bd kd vz : Nat → Nat} {S : St} {Q : Int32 → St → Prop} (w : RW (st, n, bc, bd, cur, nx, kd, vz)) (h : RCs S (st, n, bc, bd, cur, nx, kd, vz)) (hq : Q (if (if nx = cur then nx + 1 else nx) < n ∧ crd (vz cur) < 5 then 1 else 0) S) : p_X2_canVouchOn S Q := by
  obtain ⟨w1, w2, w3, w4, w5, w6, w7, w8, w9, w10, w11, w12, w13, w14, w15, w16, w17, w18⟩ := w
  obtain ⟨h1, h2, h3, h4, h5, h6, h7, h8⟩ := h
  have key : ∀ t : Nat, t ≤ 11 → (if nx = cur then nx + 1 else nx) = t → p_X2_canVouchOn_28 Q (nI t) S := by
    intro t ht et
    rw [et] at hq
    refine ⟨fun c => ?_, fun c => ⟨by rw [h5]; exact vp_in_nI w8 (by decide), ?_⟩⟩
    · rw [h2, ni_le (by omega) (by omega)] at c
      rw [if_neg (by omega)] at hq; exact hq
    · rw [h2, ni_le (by omega) (by omega)] at c
      rw [h5, nI_clamp (by omega), h8 cur w8]
      refine bc_s (lt_512 (w11 cur).1 w2) ⟨fun c2 => ?_, fun c2 => ?_⟩
      · rw [show (5 : Int32) = nI 5 from rfl, ni_le (by omega) (by have := crd_le (vz cur); omega)] at c2
        rw [if_neg (by omega)] at hq; exact hq
      · rw [show (5 : Int32) = nI 5 from rfl, ni_le (by omega) (by have := crd_le (vz cur); omega)] at c2
        rw [if_pos (by omega)] at hq; exact hq
  refine ⟨fun c => ?_, fun c => ?_⟩
  · rw [h6, m1_p1, h5] at c
    rw [h6, m1_p1]
    refine key nx (by omega) (if_neg (fun e => c (by rw [e])))
  · rw [h6, m1_p1, h5] at c
    rw [h6, m1_p2]
    exact key (nx + 1) (by omega) (if_pos (ni_inj (by omega) (by omega) c))
/-- the answer of a step -/
def rans (S : St) (Q : Int32 → St → Prop) : Option Rs → Prop
  | some r => ∀ S1, RCs S1 r → KC S S1 → Q 1 S1
  | none => ∀ S1, KC S S1 → Q 0 S1
theorem takeIn_s {st n bc cur nx : Nat} {bd kd vz : Nat → Nat} {x : Int32} {S : St} {Q : Int32 → St → Prop} (w : RW (st, n, bc, bd, cur, nx, kd, vz)) (h : RCs S (st, n, bc, bd, cur, nx, kd, vz)) (hq : rans S Q (rper st n bc bd cur nx kd vz x)) : p_X2_takeInPerson x S Q := by
  have w0 := w
  have h0 := h
  obtain ⟨w1, w2, w3, w4, w5, w6, w7, w8, w9, w10, w11, w12, w13, w14, w15, w16, w17, w18⟩ := w
  obtain ⟨h1, h2, h3, h4, h5, h6, h7, h8⟩ := h
  unfold rper at hq
  refine ⟨fun c1 => ⟨fun c2 => ?_, fun c2 => ⟨fun c3 => ?_, fun c3 => ?_⟩⟩, fun c1 => ?_⟩
  · rw [if_neg c1, if_neg c2] at hq
    exact hq S (KC.rf S)
  · rw [h5, h2, nI_1, ni_lt (by omega) (by omega)] at c3
    rw [if_neg c1, if_pos c2, if_pos c3] at hq
    intro S4 e4 S5 e5
    have hR : RCs S5 (st, n, bc, bd, cur + 1, 0, kd, vz) := by
      subst e4; subst e5
      rw [h5, nI_1]
      refine ⟨?_, ?_, ?_, ?_, ?_, ?_, ?_, ?_⟩
      all_goals simp only [si_r]
      · simpa using h1
      · simpa using h2
      · simpa using h3
      · simpa using h4
      · simp
      · simp; rfl
      · simpa using h7
      · simpa using h8
    have hK : KC S S5 := by subst e4; subst e5; exact (KC.ci (by omega) (by omega)).tr (KC.ci (by omega) (by omega))
    exact moveTo_s (t := 3) hR (fun S6 r k => ⟨bz1, hq S6 r (hK.tr k)⟩)
  · rw [h5, h2, nI_1, ni_lt (by omega) (by omega)] at c3
    rw [if_neg c1, if_pos c2, if_neg c3] at hq
    exact hq S (KC.rf S)
  · rw [if_pos c1] at hq
    refine canV_s w0 h0 ?_
    by_cases c : (if nx = cur then nx + 1 else nx) < n ∧ crd (vz cur) < 5
    · rw [if_pos c] at hq ⊢
      refine br_f n10 (moveTo_s (t := 5) h0 (fun S6 r k => br_f n10 (hq S6 r k)))
    · rw [if_neg c] at hq ⊢
      exact br_t rfl (hq S (KC.rf S))
theorem take_s {ρ : Rs} {x : Int32} {S : St} {Q : Int32 → St → Prop} (w : RW ρ) (h : RCs S ρ) (hq : rans S Q (rstep ρ x)) : p_X2_take x S Q := by
  obtain ⟨st, n, bc, bd, cur, nx, kd, vz⟩ := ρ
  have w0 := w
  have h0 := h
  obtain ⟨w1, w2, w3, w4, w5, w6, w7, w8, w9, w10, w11, w12, w13, w14, w15, w16, w17, w18⟩ := w
  obtain ⟨h1, h2, h3, h4, h5, h6, h7, h8⟩ := h
  have sti : ∀ k : Nat, k ≤ 5 → (S.1 6 1 = nI k ↔ st = k) := fun k hk => by rw [h1]; exact ⟨fun e => ni_inj (by omega) (by omega) e, fun e => by rw [e]⟩
  simp only [rstep] at hq
  refine ⟨fun c0 => ?_, fun c0 => ⟨fun c1 => ?_, fun c1 => ⟨fun c2 => ?_, fun c2 => ⟨fun c3 => ?_, fun c3 => ⟨fun c4 => ?_, fun c4 => ?_⟩⟩⟩⟩⟩
  · have e := (sti 0 (by omega)).mp c0
    rw [if_pos e] at hq
    refine ⟨fun c => ⟨bz0, ?_⟩, fun c => ⟨fun c5 => ?_, fun c5 => ⟨bz0, ?_⟩⟩⟩
    · rw [if_neg (fun z => (lt1_iff.mp c) z.1)] at hq; exact hq S (KC.rf S)
    · rw [if_pos ⟨Decidable.of_not_not (fun z => c (lt1_iff.mpr z)), c5⟩] at hq
      intro S3 e3
      have hge : (0 : Int32) ≤ x - 48 := by
        have : (1 : Int32) ≤ x - 48 := Decidable.of_not_not (fun z => c (lt1_iff.mpr z))
        rw [Int32.le_iff_toInt_le] at this ⊢
        rw [show (1 : Int32).toInt = 1 from rfl] at this; rw [Int32.toInt_zero]; omega
      obtain ⟨d, hd, ed⟩ := dg_of (n := 9) (by omega) hge c5
      have hR : RCs S3 (st, (x - 48).toNatClampNeg, bc, bd, cur, nx, kd, vz) := by
        subst e3
        rw [ed, nI_clamp (by omega)]
        refine ⟨?_, ?_, ?_, ?_, ?_, ?_, ?_, ?_⟩
        all_goals simp only [si_r]
        · simpa using h1
        · simp
        · simpa using h3
        · simpa using h4
        · simpa using h5
        · simpa using h6
        · simpa using h7
        · simpa using h8
      have hK : KC S S3 := by subst e3; exact KC.ci (by omega) (by omega)
      exact moveTo_s (t := 1) hR (fun S6 r k => ⟨bz1, bz1, hq S6 r (hK.tr k)⟩)
    · rw [if_neg (fun z => c5 z.2)] at hq; exact hq S (KC.rf S)
  · have e := (sti 1 (by omega)).mp c1
    rw [if_neg (by omega), if_pos e] at hq
    refine ⟨fun c => ?_, fun c => ?_⟩
    · rw [if_neg c] at hq; exact hq S (KC.rf S)
    · rw [if_pos c] at hq
      exact moveTo_s (t := 2) h0 (fun S6 r k => br_f n10 (hq S6 r k))
  · have e := (sti 2 (by omega)).mp c2
    rw [if_neg (by omega), if_neg (by omega), if_pos e] at hq
    have hB : ∀ (S' : St), S' = S → (¬ (x = 58 ∧ 0 < bc)) → p_X2_takeBound (x - 48) S' (fun r14 S13 => ((r14 = 0) → Q 0 S13) ∧ ((¬ (r14 = 0)) → p_X2_take_88 Q S13)) := by
      intro S' eS hn
      subst eS
      rw [if_neg hn] at hq
      refine ⟨fun c => br_t rfl ?_, fun c => ⟨fun c5 => br_t rfl ?_, fun c5 => ⟨fun c6 => ⟨?_, fun S4 e4 S5 e5 => ?_⟩, fun c6 => br_t rfl ?_⟩⟩⟩
      · rw [if_neg (fun z => i_nle.mpr c z.1)] at hq; exact hq _ (KC.rf _)
      · rw [if_neg (fun z => i_nle.mpr c5 z.2.1)] at hq; exact hq _ (KC.rf _)
      · rw [h3, show (5 : Int32) = nI 5 from rfl, ni_lt (by omega) (by omega)] at c6
        rw [h3]; exact vp_in_nI c6 (by decide)
      · rw [h3, show (5 : Int32) = nI 5 from rfl, ni_lt (by omega) (by omega)] at c6
        rw [if_pos ⟨i_nlt.mp c, i_nlt.mp c5, c6⟩] at hq
        obtain ⟨d, hd, ed⟩ := dg_of (n := 9) (by omega) (i_nlt.mp c) (i_nlt.mp c5)
        have hR : RCs S5 (2, n, bc + 1, pt bd bc (x - 48).toNatClampNeg, cur, nx, kd, vz) := by
          subst e4; subst e5
          rw [ed, nI_clamp (by omega), h3, nI_clamp (by omega)]
          refine ⟨?_, ?_, ?_, ?_, ?_, ?_, ?_, ?_⟩
          all_goals simp only [si_r]
          · rw [e] at h1; simpa using h1
          · simpa using h2
          · simp [h3, nI_1]
          · intro i hi
            by_cases ei : i = bc
            · subst ei; simp [pt_s]
            · simp [ei, pt_n ei]; exact h4 i (by omega)
          · simpa using h5
          · simpa using h6
          · simpa using h7
          · simpa using h8
        have hK : KC S' S5 := by subst e4; subst e5; exact (KC.ci (by omega) (by omega)).tr (KC.ci (by omega) (by omega))
        exact br_f n10 (hq S5 hR hK)
      · rw [h3, show (5 : Int32) = nI 5 from rfl, ni_lt (by omega) (by omega)] at c6
        rw [if_neg (fun z => c6 z.2.2)] at hq; exact hq _ (KC.rf _)
    refine ⟨fun c => ne_f rfl (hB S rfl (fun z => c z.1)), fun c => ⟨fun c5 => ne_f rfl (hB S rfl (fun z => ?_)), fun c5 => ?_⟩⟩
    · rw [h3, ni_zero, ni_le (by omega) (by omega)] at c5; omega
    · rw [h3, ni_zero, ni_le (by omega) (by omega)] at c5
      rw [if_pos ⟨c, by omega⟩] at hq
      exact moveTo_s (t := 3) h0 (fun S6 r k => br_f n10 (ne_t n10 (hq S6 r k)))
  · have e := (sti 3 (by omega)).mp c3
    rw [if_neg (by omega), if_neg (by omega), if_neg (by omega), if_neg (by omega)] at hq
    have hcn : cur < n := w7 (by omega)
    have hct : fb_ct (knd kd 1) n = fb_ct (knd kd 1) 9 := knd_ct w2 hcn (fun p hp => (w10 p hp).1)
    have hP : rans S Q (rper st n bc bd cur nx kd vz x) → p_X2_takeInPerson x S (fun r21 S20 => ((r21 = 0) → Q 0 S20) ∧ ((¬ (r21 = 0)) → p_X2_take_110 Q S20)) := fun hq => by
      refine takeIn_s w0 h0 ?_
      cases hr : rper st n bc bd cur nx kd vz x with
      | none => rw [hr] at hq; exact fun S1 k => br_t rfl (hq S1 k)
      | some r => rw [hr] at hq; exact fun S1 hr1 k => br_f n10 (hq S1 hr1 k)
    have hset : ∀ t : Nat, t ≤ 2 → (∀ S1, RCs S1 (4, n, bc, bd, cur, nx, pt kd cur t, vz) → KC S S1 → Q 1 S1) → p_X2_takeKind_59 (fun r18 S17 => ((¬ r18 = 0) → p_X2_take_110 Q S17) ∧ ((r18 = 0) → p_X2_takeInPerson x S17 (fun r21 S20 => ((r21 = 0) → Q 0 S20) ∧ ((¬ (r21 = 0)) → p_X2_take_110 Q S20)))) (nI t) (S.1 6 2) S := fun t ht hq => by
      refine ⟨by rw [h5]; exact vp_in_nI w8 (by decide), fun S4 e4 => ?_⟩
      have hR : RCs S4 (st, n, bc, bd, cur, nx, pt kd cur t, vz) := by
        subst e4
        rw [h5, nI_clamp (by omega)]
        refine ⟨?_, ?_, ?_, ?_, ?_, ?_, ?_, ?_⟩
        all_goals simp only [si_r]
        · simpa using h1
        · simpa using h2
        · simpa using h3
        · simpa using h4
        · simpa using h5
        · simpa using h6
        · intro p hp
          by_cases ep : p = cur
          · subst ep; simp [pt_s]
          · simp [ep, pt_n ep]; exact h7 p hp
        · simpa using h8
      have hK : KC S S4 := by subst e4; exact KC.ci (by omega) (by omega)
      exact moveTo_s (t := 4) hR (fun S6 r k => ⟨bz1, ne_t n10 (hq S6 r (hK.tr k))⟩)
    have h33 : ∀ (hns : ¬ (st = 3 ∧ x = 42 ∧ fb_ct (knd kd 1) n < 5)), p_X2_takeKind_26 (fun r18 S17 => ((¬ r18 = 0) → p_X2_take_110 Q S17) ∧ ((r18 = 0) → p_X2_takeInPerson x S17 (fun r21 S20 => ((r21 = 0) → Q 0 S20) ∧ ((¬ (r21 = 0)) → p_X2_take_110 Q S20)))) x 0 S := fun hns => by
      rw [if_neg hns] at hq
      refine ne_f rfl ⟨fun c => ?_, fun c => ?_⟩
      · rw [if_pos ⟨e, c⟩] at hq
        exact br_t rfl (hset 2 (by omega) hq)
      · rw [if_neg (fun z => c z.2)] at hq
        exact ne_f rfl (hP hq)
    refine ⟨fun c => h33 (fun z => c z.2.1), fun c => ?_⟩
    refine ofKd_s (t := 1) h2 w2 (fun q hq => ⟨h7 q (by omega), w9 q⟩) (by omega) (bc_s (lt_512 (mkm_lt _ _) w2) ?_)
    rw [crd_mkm w2]
    have hle := fb_ct_le (knd kd 1) n
    refine ⟨fun c5 => ?_, fun c5 => ?_⟩
    · rw [show (5 : Int32) = nI 5 from rfl, ni_le (by omega) (by omega)] at c5
      exact h33 (fun z => by omega)
    · rw [show (5 : Int32) = nI 5 from rfl, ni_le (by omega) (by omega)] at c5
      rw [if_pos ⟨e, c, by omega⟩] at hq
      exact ne_t n10 (br_f n10 (hset 1 (by omega) hq))
  · have e := (sti 4 (by omega)).mp c4
    rw [if_neg (by omega), if_neg (by omega), if_neg (by omega), if_neg (by omega), if_neg (by omega), if_neg (by omega)] at hq
    refine takeIn_s w0 h0 ?_
    cases hr : rper st n bc bd cur nx kd vz x with
    | none => rw [hr] at hq; exact fun S1 k => ⟨bz0, hq S1 k⟩
    | some r => rw [hr] at hq; exact fun S1 hr1 k => ⟨bz1, hq S1 hr1 k⟩
  · have e : st = 5 := by
      have a0 := mt (sti 0 (by omega)).mpr c0
      have a1 := mt (sti 1 (by omega)).mpr c1
      have a2 := mt (sti 2 (by omega)).mpr c2
      have a3 := mt (sti 3 (by omega)).mpr c3
      have a4 := mt (sti 4 (by omega)).mpr c4
      omega
    rw [if_neg (by omega), if_neg (by omega), if_neg (by omega), if_pos e] at hq
    refine ⟨fun c => ⟨bz0, ?_⟩, fun c => ⟨fun c5 => ⟨bz0, ?_⟩, fun c5 => ⟨fun c6 => ?_, fun c6 => ⟨bz0, ?_⟩⟩⟩⟩
    · rw [h6, le_m1 (by omega)] at c
      rw [if_neg (fun z => c z.1)] at hq; exact hq S (KC.rf S)
    · rw [h2] at c5
      rw [if_neg (fun z => i_nlt.mpr c5 z.2.1)] at hq; exact hq S (KC.rf S)
    · rw [h6, le_m1 (by omega)] at c
      have c := Decidable.of_not_not c
      rw [h2, i_nle] at c5
      rw [h5] at c6
      rw [if_pos ⟨c, c5, c6⟩] at hq
      have hge : (0 : Int32) ≤ x - 48 := by
        rw [Int32.le_iff_toInt_le] at c ⊢
        rw [nI_toInt (by omega)] at c; rw [Int32.toInt_zero]; omega
      obtain ⟨d, hd, ed⟩ := dg_of (n := 9) (by omega) hge (by
        rw [Int32.lt_iff_toInt_lt] at c5; rw [Int32.le_iff_toInt_le]; rw [nI_toInt (by omega)] at c5 ⊢; omega)
      refine ⟨by rw [h5]; exact vp_in_nI w8 (by decide), by rw [h5]; exact vp_in_nI w8 (by decide), fun S4 e4 S5 e5 => ?_⟩
      have hR : RCs S5 (st, n, bc, bd, cur, (x - 48).toNatClampNeg + 1, kd, pt vz cur (vz cur ||| 2 ^ (x - 48).toNatClampNeg)) := by
        subst e4; subst e5
        rw [ed, nI_clamp (by omega), h5, nI_clamp (by omega), h8 cur w8, ni_shl1 d (by omega), fa_or]
        refine ⟨?_, ?_, ?_, ?_, ?_, ?_, ?_, ?_⟩
        all_goals simp only [si_r]
        · simpa using h1
        · simpa using h2
        · simpa using h3
        · simpa using h4
        · simpa using h5
        · simp [nI_pred]
        · simpa using h7
        · intro p hp
          by_cases ep : p = cur
          · subst ep; simp [pt_s]
          · simp [ep, pt_n ep]; exact h8 p hp
      have hK : KC S S5 := by subst e4; subst e5; exact (KC.ci (by omega) (by omega)).tr (KC.ci (by omega) (by omega))
      exact moveTo_s (t := 4) hR (fun S6 r k => ⟨bz1, bz1, hq S6 r (hK.tr k)⟩)
    · rw [h5] at c6
      rw [if_neg (fun z => z.2.2 c6)] at hq; exact hq S (KC.rf S)
