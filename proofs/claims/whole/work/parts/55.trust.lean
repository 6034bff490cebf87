/-! ===== together, trust ===== -/
theorem ni_z {a : Nat} (ha : a < 2 ^ 32) : nI a = 0 ↔ a = 0 := by
  constructor
  · intro e
    have h := congrArg (fun x : Int32 => x.toBitVec.toNat) e
    have h2 : (BitVec.ofNat 32 a).toNat = 0 := h
    rw [BitVec.toNat_ofNat] at h2
    omega
  · intro e; rw [e]; rfl
theorem ni_of (x : Int32) : ∃ a, a < 2 ^ 32 ∧ x = nI a := ⟨x.toBitVec.toNat, x.toBitVec.isLt, by
  apply Int32.toBitVec_inj.mp
  show x.toBitVec = BitVec.ofNat 32 x.toBitVec.toNat
  simp⟩
theorem df_z {a b : Nat} (ha : a < 2 ^ 32) : df a b = 0 ↔ ∀ i, a.testBit i = true → b.testBit i = true := by
  constructor
  · intro e i hi
    have := df_tb (b := b) ha i
    rw [e, Nat.zero_testBit, hi] at this
    simp at this; exact this
  · intro h
    refine tb_ext (fun i => ?_)
    rw [df_tb ha, Nat.zero_testBit]
    cases hi : a.testBit i
    · rfl
    · rw [h i hi]; rfl
theorem sub_all {a n : Nat} : (∀ i, a.testBit i = true → (2 ^ n - 1).testBit i = true) ↔ a < 2 ^ n := by
  constructor
  · intro h
    refine lt_of_tb (fun i hi => bool_f (fun z => ?_))
    have := h i z
    rw [Nat.testBit_two_pow_sub_one] at this
    simp at this; omega
  · intro h i hi
    rw [Nat.testBit_two_pow_sub_one]; simp; exact tb_lt h hi
def tgv (g : Gp) (s : Nat) : Int32 := if cbb (gN g) (sdm g) (gV g) (limg g) s = true then 1 else 0
theorem ok_together (x : Int32) : OpOK (p_X6_together x) (p_X7_together x) := by
  refine op_ro (fun g hw => ?_)
  have h9 := hw.1
  have h2 := two_le h9
  rcases Nat.eq_zero_or_pos (gN g) with h0 | h0
  · exact ⟨-103, fun S Q c h => ex_f (by rw [c.1, h0]) (ne_f rfl (h S (KC.rf S))), fun S Q c h => isC_f (by rw [c.1, h0]) (ne_f rfl (h S (KM.rf S)))⟩
  · rcases rg_split x (2 ^ gN g) with ⟨s, hs, rfl⟩ | hx
    · have hs5 : s < 512 := by omega
      refine ⟨tgv g s, fun S Q c h => ex_t c.1 h9 h0 (ne_t n10 (all_s c.1 h9 (br_t ?_ (prep_s hw c (fun S1 b1 k1 => ?_))))), fun S Q c h => isC_t c.1 h9 h0 (ne_t n10 (br_f (ni_nneg (by omega)) (br_t ?_ ?_)))⟩
      · rw [ni_df, ni_z (Nat.lt_of_lt_of_le (df_lt (n := 9) hs5) (by decide)), df_z (by omega), sub_all]; exact hs
      · refine adm_s hw (by omega) (c.kc k1).1 b1 (fun S2 c2 a2 f2 v2 b2 k2 => ?_)
        have hal := lt_512 (inn_lt g s) h9
        have h' := h S2 (k1.tr k2)
        unfold tgv at h'
        by_cases hc : cbe (gN g) (sdm g) (gV g) (limg g) s
        · rw [if_pos (cbb_t.mpr hc)] at h'
          exact ne_f (by rw [show inn g s = s from (adm_all h9 hs).mpr hc]) h'
        · rw [if_neg (fun z => hc (cbb_t.mp z))] at h'
          exact ne_t (fun e => hc ((adm_all h9 hs).mp (show inn g s = s from ni_inj (by omega) (by omega) e))) h'
      · rw [pow_s c.1 h9, ni_lt (by omega) (by omega)]; exact hs
      · refine lay_m hw c (fun S1 m1 k1 => can_s hw (c.km k1).1 m1 hs5 ?_)
        have h' := h S1 k1
        unfold tgv at h'
        split
        · rename_i z; rw [if_pos z] at h'; exact br_f n10 h'
        · rename_i z; rw [if_neg z] at h'; exact br_t rfl h'
    · refine ⟨-101, fun S Q c h => ex_t c.1 h9 h0 (ne_t n10 (all_s c.1 h9 (br_f ?_ (h S (KC.rf S))))), fun S Q c h => isC_t c.1 h9 h0 (ne_t n10 ?_)⟩
      · obtain ⟨a, ha, rfl⟩ := ni_of x
        rw [ni_df, ni_z (df_lt ha), df_z ha, sub_all]
        intro z; exact hx a z rfl
      · by_cases hn : x < 0
        · exact br_t hn (h S (KM.rf S))
        · refine br_f hn (br_f ?_ (h S (KM.rf S)))
          rw [pow_s c.1 h9]
          intro z
          obtain ⟨j, j1, j2⟩ := rng_of (n := 2 ^ gN g) (by omega) hn (fun y => by
            have := Int32.lt_of_lt_of_le z y
            exact Int32.lt_irrefl this)
          exact hx j j1 j2
/-- the false persons vouch for nobody -/
def sil (g : Gp) : Gp := (g.1, g.2.1, g.2.2.1, (fun p => if gK g p = 2 then 0 else gV g p), g.2.2.2.2)
theorem sil_wf {g : Gp} (hw : WFg g) : WFg (sil g) := by
  refine ⟨hw.1, hw.2.1, hw.2.2.1, hw.2.2.2.1, fun p hp => ?_, hw.2.2.2.2.2⟩
  show (if gK g p = 2 then 0 else gV g p) < 2 ^ gN g ∧ crd (if gK g p = 2 then 0 else gV g p) ≤ 5 ∧ (if gK g p = 2 then 0 else gV g p).testBit p = false
  split
  · exact ⟨Nat.two_pow_pos _, by rw [crd_0]; omega, Nat.zero_testBit p⟩
  · exact hw.2.2.2.2.1 p hp
theorem fl_tb {g : Gp} {p : Nat} (hp : p < gN g) : (flm g).testBit p = decide (gK g p = 2) := by
  unfold flm
  rw [mkm_tb]
  unfold knd
  simp [hp]
  by_cases h : gK g p = 2 <;> simp [h]
theorem sil_s {S : St} {g : Gp} {Q : St → Prop} (hw : WFg g) (b : WB0 S g) (hq : ∀ S1, WB0 S1 (sil g) → (∀ a, a ≠ 15 → S1.1 a = S.1 a) → Q S1) : p_X4_silence (nI (flm g)) S Q := by
  have h9 := hw.1
  refine Lq_rel (gN g) (fun i t => ∃ S1, t = (nI (flm g), nI i, S1) ∧ (∀ a, a ≠ 15 → S1.1 a = S.1 a) ∧ ∀ p, p < gN g → S1.1 15 p = nI (if p < i ∧ gK g p = 2 then 0 else gV g p)) ?_ ?_ 0 _ (by omega) ⟨S, rfl, fun _ _ => rfl, fun p hp => by rw [if_neg (by omega)]; exact b.2.2 p hp⟩
  · rintro i t hi ⟨S1, rfl, o1, v1⟩ K hK
    refine br_f (by rw [o1 14 (by omega), b.1, ni_le (by omega) (by omega)]; omega) (bit_s (by have := fl_lt hw; omega) (by omega) ?_)
    by_cases hb : gK g i = 2
    · rw [b1_t (by rw [fl_tb hi]; simp [hb])]
      refine ne_f rfl ⟨vp_in_nI (by omega) (by decide), fun S5 e5 => ?_⟩
      rw [nI_clamp (by omega)] at e5
      show K _
      rw [nI_1]
      refine hK _ ⟨S5, rfl, fun a y => by rw [e5, cI_n y]; exact o1 a y, fun p hp => ?_⟩
      rw [e5, si_r, if_pos rfl]
      by_cases e : p = i
      · rw [if_pos e, if_pos ⟨by omega, by rw [e]; exact hb⟩]; rfl
      · rw [if_neg e, v1 p hp]
        have : (p < i ∧ gK g p = 2) ↔ (p < i + 1 ∧ gK g p = 2) := by omega
        simp only [this]
    · rw [b1_f (by rw [fl_tb hi]; simp [hb])]
      refine ne_t (by decide) ?_
      show K _
      rw [nI_1]
      refine hK _ ⟨S1, rfl, o1, fun p hp => ?_⟩
      rw [v1 p hp]
      by_cases e : p = i
      · subst e; simp [hb]
      · have : (p < i ∧ gK g p = 2) ↔ (p < i + 1 ∧ gK g p = 2) := by omega
        simp only [this]
  · rintro t ⟨S1, rfl, o1, v1⟩ K
    refine br_t (by rw [o1 14 (by omega), b.1, ni_le (by omega) (by omega)]; omega) (hq S1 ⟨by rw [o1 14 (by omega)]; exact b.1, by rw [o1 14 (by omega)]; exact b.2.1, fun p hp => ?_⟩ o1)
    rw [v1 p hp]
    show _ = nI (if gK g p = 2 then 0 else gV g p)
    have hp' : p < gN g := hp
    simp [hp']
theorem flood_s {S : St} {g : Gp} {Q : Int32 → St → Prop} (hw : WFg g) (c : CM S g) (m : LM S g) (hq : Q (nI (crd (inn g (flm g)))) S) : p_X7_flood S Q := by
  have h9 := hw.1
  have h2 := two_le h9
  have hf := fl_lt hw
  refine fls_m hw c ?_
  show Lq (p_X7_flood_10 Q) (nI (flm g), 0, 0, S)
  refine Lq_rel (2 ^ gN g) (fun i t => ∃ v, t = (nI (flm g), nI v, nI i, S) ∧ v ≤ crd (inn g (flm g)) ∧ ∀ s, s < i → (∀ q, s.testBit q = true → (flm g).testBit q = true) → cb g s → crd s ≤ v) ?_ ?_ 0 _ (Nat.zero_le _) ⟨0, rfl, Nat.zero_le _, fun s hs => absurd hs (Nat.not_lt_zero _)⟩
  · rintro i t hi ⟨v, rfl, hv, hm⟩ K hK
    have hv9 : v ≤ 9 := Nat.le_trans hv (crd_le _)
    have hi5 : i < 512 := by omega
    have skip : (∀ q, i.testBit q = true → (flm g).testBit q = true) → cb g i → crd i ≤ v → K (nI (flm g), nI v, nI (i + 1), S) := fun _ _ h => hK _ ⟨v, rfl, hv, fun s hs f1 f2 => by
      rcases Nat.lt_or_ge s i with z | z
      · exact hm s z f1 f2
      · have : s = i := by omega
        rw [this]; exact h⟩
    have skip2 : ¬ ((∀ q, i.testBit q = true → (flm g).testBit q = true) ∧ cb g i ∧ ¬ crd i ≤ v) → K (nI (flm g), nI v, nI i + 1, S) := fun h => by
      rw [nI_1]
      refine hK _ ⟨v, rfl, hv, fun s hs f1 f2 => ?_⟩
      rcases Nat.lt_or_ge s i with z | z
      · exact hm s z f1 f2
      · have : s = i := by omega
        subst this
        exact Classical.byContradiction fun y => h ⟨f1, f2, y⟩
    refine br_f (by rw [pow_s c.1 h9, ni_le (by omega) (by omega)]; omega) ?_
    rw [ni_df, ni_z (Nat.lt_of_lt_of_le (df_lt (n := 9) hi5) (by decide)), df_z (by omega)]
    by_cases h1 : ∀ q, i.testBit q = true → (flm g).testBit q = true
    · refine ne_f h1 (size_s (by omega) ?_)
      have hc9 := crd_le i
      by_cases h3 : crd i ≤ v
      · refine br_t (by rw [ni_le (by omega) (by omega)]; exact h3) (br_t rfl ?_)
        exact skip2 (fun z => z.2.2 h3)
      · refine br_f (by rw [ni_le (by omega) (by omega)]; exact h3) (br_f n10 (can_s hw c.1 m hi5 ?_))
        by_cases h4 : cb g i
        · rw [if_pos (cbb_t.mpr h4)]
          refine br_f n10 (size_s (by omega) ?_)
          show K _
          rw [nI_1]
          refine hK _ ⟨crd i, rfl, adm_max h9 hw.sd hw.vl hi h1 h4, fun s hs f1 f2 => ?_⟩
          rcases Nat.lt_or_ge s i with z | z
          · have := hm s z f1 f2; omega
          · have : s = i := by omega
            rw [this]; omega
        · rw [if_neg (fun z => h4 (cbb_t.mp z))]
          refine br_t rfl ?_
          exact skip2 (fun z => h4 z.2.1)
    · refine ne_t h1 (br_t rfl ?_)
      exact skip2 (fun z => h1 z.1)
  · rintro t ⟨v, rfl, hv, hm⟩ K
    refine br_t (by rw [pow_s c.1 h9, ni_le (by omega) (by omega)]; omega) ?_
    have := hm (inn g (flm g)) (inn_lt _ _) (fun q hq => adm_sub (flm g) (gN g) q hq) (adm_cbe (flm g) (gN g))
    have e : v = crd (inn g (flm g)) := by omega
    rw [e]; exact hq
theorem wof_s {S : St} {g : Gp} {Q : Int32 → St → Prop} (hw : WFg g) (c : CM S g) (hq : ∀ S1, KM S S1 → Q (nI (crd (inn (sil g) (2 ^ gN g - 1)))) S1) : p_X7_withoutFalse S Q := by
  have h9 := hw.1
  refine Lq_rel (gN g) (fun i t => ∃ S1, t = (nI i, S1) ∧ S1.2 = S.2 ∧ (∀ a, a ≠ 27 → a ≠ 36 → S1.1 a = S.1 a) ∧ (∀ p, p < i → S1.1 36 p = S.1 27 p) ∧ (∀ p, S1.1 27 p = if p < i ∧ gK g p = 2 then 0 else S.1 27 p)) ?_ ?_ 0 _ (by omega) ⟨S, rfl, rfl, fun _ _ _ => rfl, fun p hp => absurd hp (Nat.not_lt_zero _), fun p => by rw [if_neg (by omega)]⟩
  · rintro i t hi ⟨S1, rfl, z1, o1, e36, e27⟩ K hK
    refine br_f (by rw [o1 25 (by omega) (by omega), c.1, ni_le (by omega) (by omega)]; omega) ⟨vp_in_nI (by omega) (by decide), vp_in_nI (by omega) (by decide), fun S9 e9 => ⟨vp_in_nI (by omega) (by decide), ?_⟩⟩
    rw [nI_clamp (by omega)] at e9 ⊢
    have k26 : S9.1 26 i = nI (gK g i) := by rw [e9, cI_n (by omega), o1 26 (by omega) (by omega)]; exact c.2.2.1 i hi
    have i27 : S1.1 27 i = S.1 27 i := by rw [e27, if_neg (by omega)]
    have hk := hw.2.2.2.1 i hi
    have fin : ∀ (t0 : Int32) , t0 = (if gK g i = 2 then 0 else S.1 27 i) → p_X7_withoutFalse_49 Q K (nI i) t0 (nI i) S9 := by
      intro t0 ht0
      refine ⟨vp_in_nI (by omega) (by decide), fun S11 e11 => ?_⟩
      rw [nI_clamp (by omega)] at e11
      rw [nI_1]
      refine hK _ ⟨S11, rfl, by rw [e11, cI_2, e9]; exact z1, fun a y1 y2 => by rw [e11, cI_n y1, e9, cI_n y2]; exact o1 a y1 y2, fun p hp => ?_, fun p => ?_⟩
      · rw [e11, cI_n (by omega), e9, si_r, if_pos rfl]
        by_cases e : p = i
        · rw [if_pos e, e]; exact i27
        · rw [if_neg e]; exact e36 p (by omega)
      · rw [e11, si_r, if_pos rfl, e9, cI_n (by omega)]
        by_cases e : p = i
        · rw [if_pos e, ht0]
          subst e
          by_cases hb : gK g p = 2
          · rw [if_pos hb, if_pos ⟨by omega, hb⟩]
          · rw [if_neg hb, if_neg (fun z => hb z.2)]
        · rw [if_neg e, e27]
          have : (p < i ∧ gK g p = 2) ↔ (p < i + 1 ∧ gK g p = 2) := by omega
          simp only [this]
    rw [k26]
    by_cases hb : gK g i = 2
    · exact ne_f (by rw [hb]; rfl) (fin 0 (by rw [if_pos hb]))
    · refine ne_t (fun e => hb (ni_inj (b := 2) (by omega) (by omega) e)) ⟨vp_in_nI (by omega) (by decide), fin _ ?_⟩
      rw [if_neg hb, e9, cI_n (by omega)]; exact i27
  · rintro t ⟨S1, rfl, z1, o1, e36, e27⟩ K
    have hw' := sil_wf hw
    have c1 : CM S1 (sil g) := by
      obtain ⟨c1, c2, c3, c4, c5, c6, c7, c8⟩ := c
      refine ⟨by rw [o1 25 (by omega) (by omega)]; exact c1, by rw [o1 25 (by omega) (by omega)]; exact c2, fun p hp => by rw [o1 26 (by omega) (by omega)]; exact c3 p hp, fun p hp => ?_, fun p hp => by rw [o1 28 (by omega) (by omega)]; exact c5 p hp, by rw [o1 25 (by omega) (by omega)]; exact c6, fun p hp => by rw [o1 29 (by omega) (by omega)]; exact c7 p hp, by rw [o1 25 (by omega) (by omega)]; exact c8⟩
      have hp' : p < gN g := hp
      rw [e27]
      show _ = nI (if gK g p = 2 then 0 else gV g p)
      by_cases hb : gK g p = 2
      · rw [if_pos ⟨hp', hb⟩, if_pos hb]; rfl
      · rw [if_neg (fun z => hb z.2), if_neg hb]; exact c4 p hp'
    refine br_t (by rw [c1.1]; exact Int32.le_refl _) (lay_o hw' c1 (fun S2 m2 o2 z2 => allin_s hw' (by rw [o2 25 (by omega) (by omega) (by omega)]; exact c1.1) m2 (size_s (by have := lt_512 (inn_lt (sil g) (2 ^ gN g - 1)) hw'.1; show inn (sil g) (2 ^ gN g - 1) < 2 ^ 31; omega) ?_)))
    refine Lq_rel (gN g) (fun i t => ∃ S3, t = (nI (crd (inn (sil g) (2 ^ gN g - 1))), nI i, S3) ∧ S3.2 = S.2 ∧ (∀ a, a ≠ 27 → S3.1 a = S2.1 a) ∧ (∀ p, S3.1 27 p = if i ≤ p ∧ p < gN g ∧ gK g p = 2 then 0 else S.1 27 p)) ?_ ?_ 0 _ (by omega) ⟨S2, rfl, z2.trans z1, fun _ _ => rfl, fun p => ?_⟩
    · rintro i t hi ⟨S3, rfl, z3, o3, f27⟩ K2 hK
      have n25 : S3.1 25 0 = nI (gN g) := by rw [o3 25 (by omega), o2 25 (by omega) (by omega) (by omega)]; exact c1.1
      refine br_f (by rw [n25, ni_le (by omega) (by omega)]; omega) ⟨vp_in_nI (by omega) (by decide), vp_in_nI (by omega) (by decide), fun S8 e8 => ?_⟩
      rw [nI_clamp (by omega), o3 36 (by omega), o2 36 (by omega) (by omega) (by omega), e36 i hi] at e8
      rw [nI_1]
      refine hK _ ⟨S8, rfl, by rw [e8]; exact z3, fun a y => by rw [e8, cI_n y]; exact o3 a y, fun p => ?_⟩
      rw [e8, si_r, if_pos rfl]
      by_cases e : p = i
      · rw [if_pos e, if_neg (by omega), e]
      · rw [if_neg e, f27]
        have : (i ≤ p ∧ p < gN g ∧ gK g p = 2) ↔ (i + 1 ≤ p ∧ p < gN g ∧ gK g p = 2) := by omega
        simp only [this]
    · rintro t ⟨S3, rfl, z3, o3, f27⟩ K2
      have n25 : S3.1 25 0 = nI (gN g) := by rw [o3 25 (by omega), o2 25 (by omega) (by omega) (by omega)]; exact c1.1
      have oo : ∀ a, a ≠ 33 → a ≠ 34 → a ≠ 35 → a ≠ 36 → S3.1 a = S.1 a := fun a y1 y2 y3 y4 => by
        by_cases e : a = 27
        · subst e; funext p; rw [f27, if_neg (by omega)]
        · rw [o3 a e, o2 a y1 y2 y3, o1 a e y4]
      refine br_t (by rw [n25]; exact Int32.le_refl _) (hq S3 ⟨⟨fun k hk => oo k (by omega) (by omega) (by omega) (by omega), fun k y1 y2 => oo k (by omega) (by omega) (by omega) (by omega), ?_, ?_, ?_, ?_, ?_, ?_⟩, by rw [z3]⟩)
      all_goals rw [oo 25 (by omega) (by omega) (by omega) (by omega)]
    · rw [o2 27 (by omega) (by omega) (by omega), e27]
      simp
def tru (g : Gp) (k : Nat) : Int32 := if k = 0 then nI (crd (inn g (2 ^ gN g - 1))) else if k = 1 then nI (crd (inn g (2 ^ gN g - 1) &&& flm g)) else if k = 2 then nI (crd (inn g (flm g))) else if k = 3 then nI (lsum g (mkm (gN g) (tak g))) else nI (crd (inn (sil g) (2 ^ gN g - 1)))
theorem all31 {n : Nat} (h : n ≤ 9) : 2 ^ n - 1 < 2 ^ 31 := by have := two_le h; omega
theorem trust_c {S : St} {g : Gp} {k : Nat} {Q : Int32 → St → Prop} (hw : WFg g) (c : CC S g) (hN : 0 < gN g) (hk : k ≤ 4) (hq : ∀ S1, KC S S1 → Q (tru g k) S1) : p_X6_trust (nI k) S Q := by
  have h9 := hw.1
  refine br_f (ni_nneg (by omega)) (br_t (by rw [show (4 : Int32) = nI 4 from rfl, ni_le (by omega) (by omega)]; omega) (ex_t c.1 h9 hN (ne_t n10 (fls_c hw c ?_))))
  have inl : ∀ s, inn g s < 512 := fun s => lt_512 (inn_lt g s) h9
  by_cases h4 : k = 4
  · subst h4
    refine ne_f rfl (copy_s hw c (fun S1 b1 k1 => sil_s hw b1 (fun S2 b2 o2 => settle_s (sil_wf hw) b2 ?_ ?_ (fun S3 b3 o3 => ?_))))
    · rw [o2 2 (by omega)]; exact (c.kc k1).2.1
    · intro i hi; rw [o2 3 (by omega)]; exact (c.kc k1).2.2.2.2.1 i hi
    · have k3 : KC S S3 := k1.tr ⟨fun z hz => by rw [o3 z (by omega) (by omega), o2 z (by omega)], fun z hz => by rw [o3 z (by omega) (by omega), o2 z (by omega)]⟩
      refine br_f (by decide) (br_f (by decide) (br_f (by decide) (all_s (c.kc k3).1 h9 (adm_s (sil_wf hw) (all31 h9) (c.kc k3).1 b3 (fun S4 c4 a4 f4 v4 b4 k4 => bc_s (lt_512 (inn_lt (sil g) _) h9) ?_)))))
      exact hq S4 (k3.tr k4)
  · refine ne_t (lit_ne (b := 4) (by omega) (by omega) h4) (prep_s hw c (fun S1 b1 k1 => ?_))
    have c1 := c.kc k1
    have hq1 : ∀ S2, KC S1 S2 → Q (tru g k) S2 := fun S2 k2 => hq S2 (k1.tr k2)
    by_cases h1 : k = 1
    · subst h1
      refine br_t rfl (all_s c1.1 h9 (adm_s hw (all31 h9) c1.1 b1 (fun S4 c4 a4 f4 v4 b4 k4 => ?_)))
      rw [fa_and]
      refine bc_s (Nat.lt_of_le_of_lt Nat.and_le_left (inl _)) (hq1 S4 k4)
    · refine br_f (lit_ne (b := 1) (by omega) (by omega) h1) ?_
      by_cases h2 : k = 2
      · subst h2
        exact br_t rfl (adm_s (cand := flm g) hw (by have := fl_lt hw; omega) c1.1 b1 (fun S4 c4 a4 f4 v4 b4 k4 => bc_s (inl _) (hq1 S4 k4)))
      · refine br_f (lit_ne (b := 2) (by omega) (by omega) h2) ?_
        by_cases h3 : k = 3
        · subst h3
          exact br_t rfl (tak_c hw c1 b1 (lim_s hw (lt_512 (mkm_lt _ _) h9) b1 (hq1 S1 (KC.rf _))))
        · have h0 : k = 0 := by omega
          subst h0
          exact br_f (by decide) (all_s c1.1 h9 (adm_s hw (all31 h9) c1.1 b1 (fun S4 c4 a4 f4 v4 b4 k4 => bc_s (inl _) (hq1 S4 k4))))
theorem trustN_s {S : St} {g : Gp} {k : Nat} {Q : Int32 → St → Prop} (hw : WFg g) (c : CM S g) (hk : k ≤ 4) (hq : ∀ S1, KM S S1 → Q (tru g k) S1) : p_X7_trustNow (nI k) S Q := by
  have h9 := hw.1
  have inl : ∀ s, inn g s < 512 := fun s => lt_512 (inn_lt g s) h9
  have in31 : ∀ s, inn g s < 2 ^ 31 := fun s => by have := inl s; omega
  refine lay_m hw c (fun S1 m1 k1 => ?_)
  have c1 := c.km k1
  have hq1 : ∀ S2, KM S1 S2 → Q (tru g k) S2 := fun S2 k2 => hq S2 (k1.tr k2)
  by_cases h0 : k = 0
  · subst h0
    exact br_t rfl (allin_s hw c1.1 m1 (size_s (in31 _) (hq S1 k1)))
  · refine br_f (lit_ne (b := 0) (by omega) (by omega) h0) ?_
    by_cases h1 : k = 1
    · subst h1
      refine br_t rfl (allin_s hw c1.1 m1 (fls_m hw c1 ?_))
      rw [fa_and]
      exact size_s (Nat.lt_of_le_of_lt Nat.and_le_left (in31 _)) (hq S1 k1)
    · refine br_f (lit_ne (b := 1) (by omega) (by omega) h1) ?_
      by_cases h2 : k = 2
      · subst h2
        exact br_t rfl (flood_s hw c1 m1 (hq S1 k1))
      · refine br_f (lit_ne (b := 2) (by omega) (by omega) h2) ?_
        by_cases h3 : k = 3
        · subst h3
          exact br_t rfl (tak_m hw c1 m1.1 (most_s hw (lt_512 (mkm_lt _ _) h9) c1.1 m1.1 (hq S1 k1)))
        · have h4 : k = 4 := by omega
          subst h4
          exact br_f (by decide) (wof_s hw c1 (fun S2 k2 => hq S2 (k1.tr k2)))
theorem ok_trust (x : Int32) : OpOK (p_X6_trust x) (p_X7_trust x) := by
  refine op_ro (fun g hw => ?_)
  have h9 := hw.1
  rcases wi_split x 0 4 with ⟨k, -, hk, rfl⟩ | hx
  · rcases Nat.eq_zero_or_pos (gN g) with h0 | h0
    · refine ⟨-103, fun S Q c h => br_f (ni_nneg (by omega)) (br_t (by rw [show (4 : Int32) = nI 4 from rfl, ni_le (by omega) (by omega)]; omega) (ex_f (by rw [c.1, h0]) (ne_f rfl (h S (KC.rf S))))), fun S Q c h => wi_t (a := 0) (b := 4) rfl (by omega) hk (by omega) (ne_t n10 (isC_f (by rw [c.1, h0]) (br_t rfl (h S (KM.rf S)))))⟩
    · exact ⟨tru g k, fun S Q c h => trust_c hw c h0 hk h, fun S Q c h => wi_t (a := 0) (b := 4) rfl (by omega) hk (by omega) (ne_t n10 (isC_t c.1 h9 h0 (br_f n10 (trustN_s hw c hk h))))⟩
  · refine ⟨-102, fun S Q c h => ?_, fun S Q c h => wi_f (a := 0) (b := 4) (by omega) (by omega) hx (ne_f rfl (h S (KM.rf S)))⟩
    by_cases hn : x < 0
    · exact br_t hn (h S (KC.rf S))
    · refine br_f hn (br_f (fun z => ?_) (h S (KC.rf S)))
      obtain ⟨j, j1, j2⟩ := rng_of (n := 5) (by omega) hn (fun y => by
        have := Int32.le_trans y z
        exact absurd this (by decide))
      exact hx j (by omega) (by omega) j2
