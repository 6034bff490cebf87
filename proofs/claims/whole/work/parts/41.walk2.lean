/-! ===== the reference's walks; chance, thousandths, order ===== -/
def WMs (S : St) (g : Gp) (k : Nat) : Prop := S.2 25 28 = lN (crd (sdm g) * 60 ^ k) ∧ ∀ q, q < gN g → S.2 37 q = lN (chg g k q)
theorem nI_div {a b : Nat} (ha : a < 2 ^ 30) (hb : b < 2 ^ 30) : nI a / nI b = nI (a / b) := by
  apply Int32.toInt_inj.mp
  have hd : a / b ≤ a := Nat.div_le_self _ _
  rw [Int32.toInt_div_of_ne_right, nI_toInt (by omega), nI_toInt (by omega), nI_toInt (by omega)]
  · rfl
  · intro e
    have h := congrArg Int32.toInt e
    rw [nI_toInt (by omega), show (-1 : Int32).toInt = -1 from rfl] at h
    omega
theorem goesTo_s {S : St} {g : Gp} {i m cv : Nat} {f : Nat → Nat} {Q : St → Prop} (h9 : gN g ≤ 9) (hm : m < 512) (hi : i < gN g) (h25 : S.1 25 0 = nI (gN g)) (h37 : S.2 37 i = lN cv) (hc1 : m ≠ 0 → 1 ≤ crd m) (hf : ∀ q, q < gN g → S.2 38 q = lN (f q)) (hq : ∀ S1 : St, S1.1 = S.1 → (∀ a, a ≠ 38 → S1.2 a = S.2 a) → (∀ q, q < gN g → S1.2 38 q = lN (f q + (if m.testBit q then cv * (60 / crd m) else 0))) → Q S1) : p_X7_goesTo (nI i) (nI m) (nI (crd m)) S Q := by
  have hle := crd_le m
  refine Lq_rel (gN g) (fun j a => ∃ S1 : St, a = (nI i, nI m, nI (crd m), nI j, S1) ∧ S1.1 = S.1 ∧ (∀ a, a ≠ 38 → S1.2 a = S.2 a) ∧ (∀ q, q < gN g → S1.2 38 q = lN (f q + (if q < j ∧ m.testBit q = true then cv * (60 / crd m) else 0)))) ?_ ?_ 0 _ (by omega) ⟨S, rfl, rfl, fun _ _ => rfl, fun q hq => by rw [hf q hq, if_neg (by omega)]; rfl⟩
  · rintro j a hj ⟨S1, rfl, a1, a2, a3⟩ K hK
    refine br_f (by rw [a1, h25, ni_le (by omega) (by omega)]; omega) ⟨vp_in_nI (by omega) (by decide), ?_⟩
    rw [nI_clamp (n := j) (by omega)]
    have a3j := a3 j hj
    rw [if_neg (by omega), Nat.add_zero] at a3j
    by_cases hb : m.testBit j = true
    · have hm0 : m ≠ 0 := fun z => by rw [z, Nat.zero_testBit] at hb; cases hb
      have hc := hc1 hm0
      refine hasM_t (by omega) (by omega) hb (br_f n10 ⟨vp_in_nI (by omega) (by decide), fun z => by have := ni_inj (b := 0) (by omega) (by omega) z; omega, vp_in_nI (by omega) (by decide), fun S5 e5 => ?_⟩)
      rw [nI_clamp (by omega), nI_clamp (by omega), a3j, a2 37 (by omega), h37, show (60 : Int32) = nI 60 from rfl, nI_div (by omega) (by omega), nI_l (by have := Nat.div_le_self 60 (crd m); omega), lN_mul, lN_add] at e5
      show K (_, _, _, _, _)
      rw [nI_1]
      refine hK _ ⟨S5, rfl, by rw [e5]; exact a1, fun a ha => by rw [e5, cJ_n ha]; exact a2 a ha, fun q hq => ?_⟩
      rw [e5, cJ_s]
      by_cases e : q = j
      · subst e; rw [updL_s, if_pos ⟨by omega, hb⟩]
      · rw [updL_n e, a3 q hq]
        by_cases c3 : q < j ∧ m.testBit q = true
        · rw [if_pos c3, if_pos ⟨by omega, c3.2⟩]
        · rw [if_neg c3, if_neg (fun z => c3 ⟨by omega, z.2⟩)]
    · refine hasM_f (by omega) (by omega) (bool_f hb) (br_t rfl ⟨vp_in_nI (by omega) (by decide), fun S5 e5 => ?_⟩)
      rw [nI_clamp (by omega), a3j, show (0 : Int64) = lN 0 from rfl, lN_add, Nat.add_zero] at e5
      show K (_, _, _, _, _)
      rw [nI_1]
      refine hK _ ⟨S5, rfl, by rw [e5]; exact a1, fun a ha => by rw [e5, cJ_n ha]; exact a2 a ha, fun q hq => ?_⟩
      rw [e5, cJ_s]
      by_cases e : q = j
      · subst e; rw [updL_s, if_neg (fun z => hb z.2)]; rfl
      · rw [updL_n e, a3 q hq]
        by_cases c3 : q < j ∧ m.testBit q = true
        · rw [if_pos c3, if_pos ⟨by omega, c3.2⟩]
        · rw [if_neg c3, if_neg (fun z => c3 ⟨by omega, z.2⟩)]
  · rintro a ⟨S1, rfl, a1, a2, a3⟩ K
    refine br_t (by rw [a1, h25, ni_le (by omega) (by omega)]; omega) (hq S1 a1 a2 (fun q hq => ?_))
    rw [a3 q hq]
    by_cases c3 : m.testBit q = true
    · rw [if_pos ⟨hq, c3⟩, if_pos c3]
    · rw [if_neg (fun z => c3 z.2), if_neg c3]
theorem lay_s {S : St} {g : Gp} {k : Nat} {Q : St → Prop} (hw : WFg g) (hk : k ≤ 4) (h0 : sdm g ≠ 0) (c : CM S g) (hq : ∀ S1 : St, WMs S1 g k → S1.1 = S.1 → S1.2 25 29 = S.2 25 29 → Q S1) : p_X7_layChances (nI k) S Q := by
  have h9 := hw.1
  have hsl := sd_lt hw
  have hle := crd_le (sdm g)
  refine ofKM_s (t := 1) c.1 h9 (fun q hq => ⟨c.2.2.1 q hq, hw.2.2.2.1 q hq⟩) (by omega) (size_s (by have : mkm (gN g) (knd (gK g) 1) < 512 := hsl; omega) (fun S5 e5 => ?_))
  rw [nI_l (by have : crd (mkm (gN g) (knd (gK g) 1)) ≤ 9 := hle; omega)] at e5
  refine Lq_rel (gN g) (fun i a => ∃ S6 : St, a = (nI k, nI (sdm g), nI i, S6) ∧ S6.1 = S.1 ∧ S6.2 25 29 = S.2 25 29 ∧ S6.2 25 28 = lN (crd (sdm g)) ∧ ∀ q, q < i → S6.2 37 q = lN (b1 (sdm g) q)) ?_ ?_ 0 _ (by omega) ⟨S5, rfl, by rw [e5]; rfl, by rw [e5, cJ_s, updL_n (by omega)], by rw [e5, cJ_s, updL_s], fun q hq => by omega⟩
  · rintro i a hi ⟨S6, rfl, a1, a4, a2, a3⟩ K hK
    have fin : ∀ t : Nat, t = b1 (sdm g) i → p_X7_layChances_43 Q K (nI k) (nI (sdm g)) (nI i) (lN t) (nI i) S6 := by
      intro t ht
      refine ⟨vp_in_nI (by omega) (by decide), fun S21 e21 => ?_⟩
      rw [nI_clamp (by omega)] at e21
      rw [nI_1]
      refine hK _ ⟨S21, rfl, by rw [e21]; exact a1, by rw [e21, cJ_n (by omega)]; exact a4, by rw [e21, cJ_n (by omega)]; exact a2, fun q hq => ?_⟩
      rw [e21, cJ_s]
      by_cases e : q = i
      · rw [e, updL_s, ht]
      · rw [updL_n e]; exact a3 q (by omega)
    refine br_f (by rw [a1, c.1, ni_le (by omega) (by omega)]; omega) ?_
    by_cases hb : (sdm g).testBit i = true
    · exact hasM_t (by omega) (by omega) hb (br_f n10 (fin 1 (b1_t hb).symm))
    · exact hasM_f (by omega) (by omega) (bool_f hb) (br_t rfl (fin 0 (b1_n hb).symm))
  · rintro a ⟨S6, rfl, a1, a4, a2, a3⟩ K
    refine br_t (by rw [a1, c.1, ni_le (by omega) (by omega)]; omega) ?_
    refine Lq_rel k (fun i a => ∃ S7 : St, a = (nI k, nI (sdm g), nI i, S7) ∧ S7.1 = S.1 ∧ S7.2 25 29 = S.2 25 29 ∧ WMs S7 g i) ?_ ?_ 0 _ (by omega) ⟨S6, rfl, a1, a4, by rw [Nat.pow_zero, Nat.mul_one]; exact a2, a3⟩
    · rintro i a hi ⟨S7, rfl, b1', b4, ⟨b2, b3⟩⟩ K hK
      refine br_f (by rw [ni_le (by omega) (by omega)]; omega) ?_
      refine Lq_rel (gN g) (fun j a => ∃ S8 : St, a = (nI k, nI (sdm g), nI i, nI j, S8) ∧ S8.1 = S.1 ∧ (∀ a, a ≠ 38 → S8.2 a = S7.2 a) ∧ ∀ q, q < j → S8.2 38 q = lN 0) ?_ ?_ 0 _ (by omega) ⟨S7, rfl, b1', fun _ _ => rfl, fun q hq => by omega⟩
      · rintro j a hj ⟨S8, rfl, c1, c2, c3⟩ K2 hK2
        refine br_f (by rw [c1, c.1, ni_le (by omega) (by omega)]; omega) ⟨vp_in_nI (by omega) (by decide), fun S17 e17 => ?_⟩
        rw [nI_clamp (by omega)] at e17
        show K2 (_, _, _, _, _)
        rw [nI_1]
        refine hK2 _ ⟨S17, rfl, by rw [e17]; exact c1, fun a ha => by rw [e17, cJ_n ha]; exact c2 a ha, fun q hq => ?_⟩
        rw [e17, cJ_s]
        by_cases e : q = j
        · rw [e, updL_s]; rfl
        · rw [updL_n e]; exact c3 q (by omega)
      · rintro a ⟨S8, rfl, c1, c2, c3⟩ K2
        refine br_t (by rw [c1, c.1, ni_le (by omega) (by omega)]; omega) ?_
        refine Lq_rel (gN g) (fun j a => ∃ S9 : St, a = (nI k, nI (sdm g), nI i, nI j, S9) ∧ S9.1 = S.1 ∧ (∀ a, a ≠ 38 → S9.2 a = S7.2 a) ∧ ∀ q, q < gN g → S9.2 38 q = lN (fb_sm (fun p => if (outs (sdm g) (gV g) p).testBit q then chg g i p * (60 / crd (outs (sdm g) (gV g) p)) else 0) j)) ?_ ?_ 0 _ (by omega) ⟨S8, rfl, c1, c2, c3⟩
        · rintro j a hj ⟨S9, rfl, d1, d2, d3⟩ K3 hK3
          obtain ⟨o1, o2, o3⟩ := outs_ok hw h0 hj
          have fin : p_X7_layChances_116 Q K K3 (nI k) (nI (sdm g)) (nI i) (nI j) (nI (outs (sdm g) (gV g) j)) S9 := by
            refine size_s (by omega) (goesTo_s h9 o1 hj (by rw [d1]; exact c.1) (by rw [d2 37 (by omega)]; exact b3 j hj) (fun _ => o2) d3 (fun S10 e1 e2 e3 => ?_))
            rw [nI_1]
            exact hK3 _ ⟨S10, rfl, e1.trans d1, fun a ha => (e2 a ha).trans (d2 a ha), fun q hq => by rw [e3 q hq, fb_sm_succ]⟩
          refine br_f (by rw [d1, c.1, ni_le (by omega) (by omega)]; omega) ⟨vp_in_nI (by omega) (by decide), ?_⟩
          rw [nI_clamp (by omega)]
          have c5 : S9.1 27 j = nI (gV g j) := by rw [d1]; exact c.2.2.2.1 j hj
          have hv := hw.v512 hj
          refine ⟨fun e => ⟨vp_in_nI (by omega) (by decide), ?_⟩, fun e => ?_⟩
          · have e : gV g j ≠ 0 := fun z => e (by rw [c5, z]; rfl)
            unfold outs at fin
            rw [if_neg e, ← c5] at fin; exact fin
          · have e : gV g j = 0 := by rw [c5] at e; exact ni_inj (by omega) (by omega) e
            unfold outs at fin
            rw [if_pos e] at fin; exact fin
        · rintro a ⟨S9, rfl, d1, d2, d3⟩ K3
          refine br_t (by rw [d1, c.1, ni_le (by omega) (by omega)]; omega) ?_
          refine Lq_rel (gN g) (fun j a => ∃ S10 : St, a = (nI k, nI (sdm g), nI i, nI j, S10) ∧ S10.1 = S.1 ∧ (∀ a, a ≠ 37 → S10.2 a = S9.2 a) ∧ ∀ q, q < j → S10.2 37 q = lN (chg g (i + 1) q)) ?_ ?_ 0 _ (by omega) ⟨S9, rfl, d1, fun _ _ => rfl, fun q hq => by omega⟩
          · rintro j a hj ⟨S10, rfl, f1, f2, f3⟩ K4 hK4
            refine br_f (by rw [f1, c.1, ni_le (by omega) (by omega)]; omega) ⟨vp_in_nI (by omega) (by decide), vp_in_nI (by omega) (by decide), fun S12 e12 => ?_⟩
            rw [nI_clamp (by omega), f2 38 (by omega), d3 j hj] at e12
            show K4 (_, _, _, _, _)
            rw [nI_1]
            refine hK4 _ ⟨S12, rfl, by rw [e12]; exact f1, fun a ha => by rw [e12, cJ_n ha]; exact f2 a ha, fun q hq => ?_⟩
            rw [e12, cJ_s]
            by_cases e : q = j
            · rw [e, updL_s]; rfl
            · rw [updL_n e]; exact f3 q (by omega)
          · rintro a ⟨S10, rfl, f1, f2, f3⟩ K4
            refine br_t (by rw [f1, c.1, ni_le (by omega) (by omega)]; omega) (fun S11 e11 => ?_)
            rw [nI_1]
            refine hK _ ⟨S11, rfl, by rw [e11]; exact f1, by rw [e11, cJ_s, updL_n (by omega), f2 25 (by omega), d2 25 (by omega)]; exact b4, ?_, fun q hq => by rw [e11, cJ_n (by omega)]; exact f3 q hq⟩
            rw [e11, cJ_s, updL_s, f2 25 (by omega), d2 25 (by omega), b2, show (60 : Int64) = lN 60 from rfl, lN_mul, Nat.pow_succ, Nat.mul_assoc]
    · rintro a ⟨S7, rfl, b1', b4, b2⟩ K
      exact br_t (by rw [ni_le (by omega) (by omega)]; omega) (hq S7 b2 b1' b4)
theorem upr4 {g : Gp} (hw : WFg g) {k : Nat} (hk : k ≤ 4) (q : Nat) : ugg g * chg g k q ≤ 5101833600000 := by
  have h1 := chn_le (sd := sdm g) (vz := gV g) hw.1 k q
  have h2 : 540 ^ k ≤ 85030560000 := Nat.le_trans (Nat.pow_le_pow_right (by omega) hk) (by decide)
  calc ugg g * chg g k q ≤ 60 * 85030560000 := Nat.mul_le_mul (ug_le g) (Nat.le_trans h1 h2)
    _ = 5101833600000 := by decide
/-- the answers of walks -/
def cgv (g : Gp) (p k : Nat) (w : Nat) : Int32 := nI ((if w = 0 then chg g k p else crd (sdm g) * 60 ^ k) / Nat.gcd (chg g k p) (crd (sdm g) * 60 ^ k))
def tsv (g : Gp) (p k : Nat) : Int32 := nI (1000 * chg g k p / (crd (sdm g) * 60 ^ k))
theorem whole_eq {g : Gp} (hw : WFg g) (h0 : sdm g ≠ 0) (k : Nat) : 60 ^ (k + 1) = ugg g * (crd (sdm g) * 60 ^ k) := by
  rw [← Nat.mul_assoc, show ugg g * crd (sdm g) = 60 from mul60 (crd_pos (sd_lt hw) h0) hw.2.2.2.2.2.2.1, Nat.pow_succ, Nat.mul_comm]
theorem ug_pos {g : Gp} (hw : WFg g) (h0 : sdm g ≠ 0) : 0 < ugg g := by
  have h1 := crd_pos (sd_lt hw) h0
  have h2 : crd (sdm g) ≤ 5 := hw.2.2.2.2.2.2.1
  exact Nat.div_pos (by omega) (by omega)
theorem p60 {k : Nat} (h : k ≤ 5) : 60 ^ k ≤ 777600000 := Nat.le_trans (Nat.pow_le_pow_right (by omega) h) (by decide)
theorem bel_le {g : Gp} {k : Nat} (h : k ≤ 4) : crd (sdm g) * 60 ^ k ≤ 9 * 777600000 := Nat.mul_le_mul (crd_le _) (p60 (by omega))
theorem bel_pos {g : Gp} (hw : WFg g) (h0 : sdm g ≠ 0) (k : Nat) : 0 < crd (sdm g) * 60 ^ k := Nat.mul_pos (crd_pos (sd_lt hw) h0) (Nat.pow_pos (by omega))
theorem num_s {S : St} {g : Gp} {p k : Nat} {Q : Int32 → St → Prop} (hw : WFg g) (h0 : sdm g ≠ 0) (hk : k ≤ 4) (hp : p < gN g) (h : WKs S g k) (hq : Q (cgv g p k 0) S) : p_X3_numerator (nI p) S Q := by
  have h9 := hw.1
  have h1 := upr4 hw hk p
  have h2 := p60 (k := k + 1) (by omega)
  have hu := ug_pos hw h0
  have hb := bel_pos hw h0 k
  refine ⟨vp_in_nI (by omega) (by decide), gcd_c (by omega) (Nat.pow_pos (by omega)) (by omega) (by omega) h.2.1 (h.2.2 p hp) ?_⟩
  rw [nI_clamp (by omega), h.2.2 p hp, whole_eq hw h0 k, Nat.gcd_mul_left, Nat.gcd_comm]
  have hgp : 0 < Nat.gcd (chg g k p) (crd (sdm g) * 60 ^ k) := Nat.gcd_pos_of_pos_right _ hb
  have hgl : Nat.gcd (chg g k p) (crd (sdm g) * 60 ^ k) ≤ crd (sdm g) * 60 ^ k := Nat.gcd_le_right _ hb
  have hbl := bel_le (g := g) hk
  have hle : ugg g * Nat.gcd (chg g k p) (crd (sdm g) * 60 ^ k) ≤ 60 * (9 * 777600000) := Nat.mul_le_mul (ug_le g) (Nat.le_trans hgl hbl)
  refine ⟨lN_ne (by omega) (Nat.ne_of_gt (Nat.mul_pos hu hgp)), ?_⟩
  rw [lN_div (by omega) (by omega), Nat.mul_div_mul_left _ _ hu, lN_i]
  exact hq
theorem den_s {S : St} {g : Gp} {p k : Nat} {Q : Int32 → St → Prop} (hw : WFg g) (h0 : sdm g ≠ 0) (hk : k ≤ 4) (hp : p < gN g) (h : WKs S g k) (hq : Q (cgv g p k 1) S) : p_X3_denominator (nI p) S Q := by
  have h9 := hw.1
  have h1 := upr4 hw hk p
  have h2 := p60 (k := k + 1) (by omega)
  have hu := ug_pos hw h0
  have hb := bel_pos hw h0 k
  refine gcd_c (by omega) (Nat.pow_pos (by omega)) (by omega) (by omega) h.2.1 (h.2.2 p hp) ?_
  rw [h.2.1, whole_eq hw h0 k, Nat.gcd_mul_left, Nat.gcd_comm]
  have hgp : 0 < Nat.gcd (chg g k p) (crd (sdm g) * 60 ^ k) := Nat.gcd_pos_of_pos_right _ hb
  have hgl : Nat.gcd (chg g k p) (crd (sdm g) * 60 ^ k) ≤ crd (sdm g) * 60 ^ k := Nat.gcd_le_right _ hb
  have hbl := bel_le (g := g) hk
  have hle : ugg g * Nat.gcd (chg g k p) (crd (sdm g) * 60 ^ k) ≤ 60 * (9 * 777600000) := Nat.mul_le_mul (ug_le g) (Nat.le_trans hgl hbl)
  have hle2 : ugg g * (crd (sdm g) * 60 ^ k) ≤ 60 * (9 * 777600000) := Nat.mul_le_mul (ug_le g) hbl
  refine ⟨lN_ne (by omega) (Nat.ne_of_gt (Nat.mul_pos hu hgp)), ?_⟩
  rw [lN_div (by omega) (by omega), Nat.mul_div_mul_left _ _ hu, lN_i]
  exact hq
theorem thp_s {S : St} {g : Gp} {p k : Nat} {Q : Int32 → St → Prop} (hw : WFg g) (h0 : sdm g ≠ 0) (hk : k ≤ 4) (hp : p < gN g) (h : WKs S g k) (hq : Q (tsv g p k) S) : p_X3_thousandPart (nI p) S Q := by
  have h9 := hw.1
  have h1 := upr4 hw hk p
  have h2 := p60 (k := k + 1) (by omega)
  have hu := ug_pos hw h0
  have hpos : 0 < 60 ^ (k + 1) := Nat.pow_pos (by omega)
  refine ne_t ?_ ⟨vp_in_nI (by omega) (by decide), ?_, ?_⟩
  · rw [h.2.1, lc0 (by omega)]; omega
  · rw [h.2.1]; exact lN_ne (by omega) (by omega)
  · rw [h.2.1, nI_clamp (by omega), h.2.2 p hp, show (1000 : Int64) = lN 1000 from rfl, lN_mul, lN_div (by omega) (by omega), lN_i, whole_eq hw h0 k,
      show 1000 * (ugg g * chg g k p) = ugg g * (1000 * chg g k p) by rw [← Nat.mul_assoc, ← Nat.mul_assoc, Nat.mul_comm 1000], Nat.mul_div_mul_left _ _ hu]
    exact hq
theorem cnow_s {S : St} {g : Gp} {p k w : Nat} {Q : Int32 → St → Prop} (hw : WFg g) (h0 : sdm g ≠ 0) (hk : k ≤ 4) (hw1 : w ≤ 1) (hp : p < gN g) (c : CM S g) (hq : ∀ S1, KM S S1 → Q (cgv g p k w) S1) : p_X7_chanceNow (nI p) (nI k) (nI w) S Q := by
  have h9 := hw.1
  refine lay_s hw hk h0 c (fun S1 m1 e1 z1 => ?_)
  have k1 : KM S S1 := ⟨by unfold KM0; rw [e1]; exact KM0.rf S, z1⟩
  have hc := chn_le (sd := sdm g) (vz := gV g) h9 k p
  have h540 := p540 (k := k) (by omega)
  have hb := bel_pos hw h0 k
  have hbl := bel_le (g := g) hk
  have hgp : 0 < Nat.gcd (chg g k p) (crd (sdm g) * 60 ^ k) := Nat.gcd_pos_of_pos_right _ hb
  have hgl : Nat.gcd (chg g k p) (crd (sdm g) * 60 ^ k) ≤ crd (sdm g) * 60 ^ k := Nat.gcd_le_right _ hb
  have hch : chg g k p ≤ 45916502400000 := Nat.le_trans hc h540
  refine ⟨vp_in_nI (by omega) (by decide), ?_⟩
  rw [nI_clamp (by omega), m1.2 p hp, m1.1]
  refine gcd_m (by omega) (by omega) ⟨fun e => ⟨lN_ne (by omega) (by omega), ?_⟩, fun e => ⟨vp_in_nI (by omega) (by decide), lN_ne (by omega) (by omega), ?_⟩⟩
  · have e : w = 1 := by
      have : w ≠ 0 := fun z => e (by rw [z]; rfl)
      omega
    rw [m1.1, lN_div (by omega) (by omega), lN_i]
    subst e
    exact hq S1 k1
  · have e : w = 0 := ni_inj (by omega) (by omega) e
    rw [m1.2 p hp, lN_div (by omega) (by omega), lN_i]
    subst e
    exact hq S1 k1
theorem tnow_s {S : St} {g : Gp} {p k : Nat} {Q : Int32 → St → Prop} (hw : WFg g) (h0 : sdm g ≠ 0) (hk : k ≤ 4) (hp : p < gN g) (c : CM S g) (hq : ∀ S1, KM S S1 → Q (tsv g p k) S1) : p_X7_thousandthsNow (nI p) (nI k) S Q := by
  have h9 := hw.1
  refine lay_s hw hk h0 c (fun S1 m1 e1 z1 => ?_)
  have k1 : KM S S1 := ⟨by unfold KM0; rw [e1]; exact KM0.rf S, z1⟩
  have hc := chn_le (sd := sdm g) (vz := gV g) h9 k p
  have h540 := p540 (k := k) (by omega)
  have hb := bel_pos hw h0 k
  have hbl := bel_le (g := g) hk
  have hch : chg g k p ≤ 45916502400000 := Nat.le_trans hc h540
  refine ⟨vp_in_nI (by omega) (by decide), by rw [m1.1]; exact lN_ne (by omega) (by omega), ?_⟩
  rw [nI_clamp (by omega), m1.2 p hp, m1.1, show (1000 : Int64) = lN 1000 from rfl, lN_mul, lN_div (by omega) (by omega), lN_i]
  exact hq S1 k1
/-- the order -/
theorem fb_ct_succ_t {p : Nat → Bool} {n : Nat} (h : p n = true) : fb_ct p (n + 1) = fb_ct p n + 1 := by rw [fb_ct_succ, if_pos h]
theorem fb_ct_succ_f {p : Nat → Bool} {n : Nat} (h : p n = false) : fb_ct p (n + 1) = fb_ct p n := by rw [fb_ct_succ, h]; rfl
def bef (f : Nat → Nat) (p : Nat) : Nat → Bool := fun q => decide (f p < f q ∨ (f q = f p ∧ q < p))
def rnk (n : Nat) (f : Nat → Nat) (p : Nat) : Nat := fb_ct (bef f p) n
theorem rnk_lt {n : Nat} {f : Nat → Nat} {p : Nat} (hp : p < n) : rnk n f p < n := by
  have h1 := fb_ct_le (bef f p) n
  rcases Nat.lt_or_ge (rnk n f p) n with q | q
  · exact q
  · exfalso
    have h2 : fb_ct (bef f p) n = n := Nat.le_antisymm h1 q
    have h3 := fb_ct_all.mp h2 p hp
    unfold bef at h3
    simp at h3
theorem rnk_inj {n : Nat} {f : Nat → Nat} {p q : Nat} (hp : p < n) (hq : q < n) (hb : bef f q p = true) : rnk n f p < rnk n f q := by
  have hsub : ∀ k, k < n → bef f p k = true → bef f q k = true := by
    intro k _ h
    unfold bef at *
    simp at *
    omega
  have hle : rnk n f p ≤ rnk n f q := fb_ct_sub hsub
  rcases Nat.lt_or_ge (rnk n f p) (rnk n f q) with z | z
  · exact z
  · exfalso
    have heq : fb_ct (bef f q) n = fb_ct (bef f p) n := Nat.le_antisymm z hle
    have hup := fb_ct_upd (bef f p) true hp
    have hpp : bef f p p = false := by unfold bef; simp
    rw [hpp, if_neg (by decide), if_pos rfl] at hup
    have h2 : fb_ct (fun k => if k = p then true else bef f p k) n ≤ fb_ct (bef f q) n := fb_ct_sub (fun k hk h => by
      by_cases e : k = p
      · rw [e]; exact hb
      · simp [e] at h; exact hsub k hk h)
    omega
theorem bef_tot {f : Nat → Nat} {p q : Nat} (h : p ≠ q) : bef f q p = true ∨ bef f p q = true := by
  unfold bef
  simp
  omega
theorem rnk_onto {n : Nat} {f : Nat → Nat} {y : Nat} (hy : y < n) : ∃ p, p < n ∧ rnk n f p = y := by
  refine fb_onto (f := rnk n f) (fun i hi => rnk_lt hi) (fun i j hij hj e => ?_) hy
  rcases bef_tot (f := f) (p := i) (q := j) (by omega) with h | h
  · have := rnk_inj (f := f) (n := n) (by omega) hj h; omega
  · have := rnk_inj (f := f) (n := n) hj (by omega) h; omega
theorem rnk_one {n : Nat} {f : Nat → Nat} {p q : Nat} (hp : p < n) (hq : q < n) (e : rnk n f p = rnk n f q) : p = q := by
  by_cases h : p = q
  · exact h
  · exfalso
    rcases bef_tot (f := f) h with z | z
    · have := rnk_inj (f := f) hp hq z; omega
    · have := rnk_inj (f := f) hq hp z; omega
theorem lc_gt {a b : Nat} (ha : a < 2 ^ 62) (hb : b < 2 ^ 62) : (0 < lg_cmp (lN a) (lN b)) ↔ b < a := by
  rw [lg_cmp_gt, Int64.lt_iff_toInt_lt, lN_toInt62 ha, lN_toInt62 hb]; omega
theorem lc_eq {a b : Nat} (ha : a < 2 ^ 62) (hb : b < 2 ^ 62) : (lg_cmp (lN a) (lN b) = 0) ↔ a = b := by
  rw [lg_cmp_eq, fb_lN_inj (by omega) (by omega)]
theorem cbf_s {S : St} {n p : Nat} {f : Nat → Nat} {Q : Int32 → St → Prop} (h9 : n ≤ 9) (hp : p < n) (h22 : S.1 22 0 = nI n) (hf : ∀ q, q < n → S.2 23 q = lN (f q) ∧ f q < 2 ^ 62) (hq : Q (nI (rnk n f p)) S) : p_X3_comingBefore (nI p) S Q := by
  refine Lq_cnt n (fun i => (nI p, nI (fb_ct (bef f p) i), nI i, S)) (fun i hi K hK => ?_) (fun K => ?_)
  · refine br_f (by rw [h22, ni_le (by omega) (by omega)]; omega) ⟨vp_in_nI (by omega) (by decide), vp_in_nI (by omega) (by decide), ?_⟩
    rw [nI_clamp (by omega), nI_clamp (by omega), (hf i hi).1, (hf p hp).1, lc_gt (hf i hi).2 (hf p hp).2, lc_eq (hf i hi).2 (hf p hp).2]
    have yes : bef f p i = true → p_X3_comingBefore_49 Q K (nI p) (nI (fb_ct (bef f p) i)) (nI i) S := fun h => by
      show K (_, _, _, _)
      rw [nI_1, nI_1, ← fb_ct_succ_t h]; exact hK
    have no : bef f p i = false → p_X3_comingBefore_52 Q K (nI p) (nI (fb_ct (bef f p) i)) (nI i) S := fun h => by
      show K (_, _, _, _)
      rw [nI_1, ← fb_ct_succ_f h]; exact hK
    refine ⟨fun e => yes ?_, fun e => ⟨vp_in_nI (by omega) (by decide), vp_in_nI (by omega) (by decide), ⟨fun e2 => no ?_, fun e2 => ⟨fun e3 => no ?_, fun e3 => yes ?_⟩⟩⟩⟩
    · unfold bef; simp; omega
    · unfold bef; simp; omega
    · rw [ni_le (by omega) (by omega)] at e3; unfold bef; simp; omega
    · rw [ni_le (by omega) (by omega)] at e3; unfold bef; simp; omega
  · exact br_t (by rw [h22, ni_le (by omega) (by omega)]; omega) hq
theorem plo_s {S : St} {n p : Nat} {f : Nat → Nat} {Q : Int32 → St → Prop} (h9 : n ≤ 9) (hp : p < n) (h22 : S.1 25 0 = nI n) (hf : ∀ q, q < n → S.2 37 q = lN (f q) ∧ f q < 2 ^ 62) (hq : Q (nI (rnk n f p)) S) : p_X7_placeOf (nI p) S Q := by
  refine Lq_cnt n (fun i => (nI p, nI (fb_ct (bef f p) i), nI i, S)) (fun i hi K hK => ?_) (fun K => ?_)
  · refine br_f (by rw [h22, ni_le (by omega) (by omega)]; omega) ⟨vp_in_nI (by omega) (by decide), vp_in_nI (by omega) (by decide), ?_⟩
    rw [nI_clamp (by omega), nI_clamp (by omega), (hf i hi).1, (hf p hp).1, lc_gt (hf i hi).2 (hf p hp).2, lc_eq (hf i hi).2 (hf p hp).2]
    have yes : bef f p i = true → p_X7_placeOf_49 Q K (nI p) (nI (fb_ct (bef f p) i)) (nI i) S := fun h => by
      refine br_f n10 ?_
      show K (_, _, _, _)
      rw [nI_1, nI_1, ← fb_ct_succ_t h]; exact hK
    have no : bef f p i = false → p_X7_placeOf_53 Q K (nI p) (nI (fb_ct (bef f p) i)) (nI i) S := fun h => by
      refine br_t rfl ?_
      show K (_, _, _, _)
      rw [nI_1, ni_zero, nI_add, Nat.add_zero, ← fb_ct_succ_f h]; exact hK
    refine ⟨fun e => yes ?_, fun e => ⟨vp_in_nI (by omega) (by decide), vp_in_nI (by omega) (by decide), ⟨fun e2 => no ?_, fun e2 => ⟨fun e3 => no ?_, fun e3 => yes ?_⟩⟩⟩⟩
    · unfold bef; simp; omega
    · unfold bef; simp; omega
    · rw [ni_le (by omega) (by omega)] at e3; unfold bef; simp; omega
    · rw [ni_le (by omega) (by omega)] at e3; unfold bef; simp; omega
  · exact br_t (by rw [h22, ni_le (by omega) (by omega)]; omega) hq
