/-! ===== apart ===== -/
theorem prt_ex {g : Gp} {p : Nat} (hw : WFg g) (hp : p < gN g) (hk : gK g p ≠ 1) : ∃ X, X < 2 ^ gN g ∧ prt g p X = true := by
  have h9 := hw.1
  have hpw := Nat.two_pow_pos (gN g)
  have hal : 2 ^ gN g - 1 < 2 ^ gN g := by omega
  have hsd : (sdm g).testBit p = false := by
    have : (mkm (gN g) (knd (gK g) 1)).testBit p = false := by
      rw [mkm_tb]; unfold knd; simp [hp, hk]
    exact this
  have hX : ∀ q, (df (2 ^ gN g - 1) (2 ^ p)).testBit q = (decide (q < gN g) && !decide (q = p)) := fun q => by
    rw [df_tb (pw32 h9 hal), Nat.testBit_two_pow_sub_one]
    have := fb_bit_set 0 p q
    rw [Nat.zero_or, Nat.zero_testBit] at this
    rw [this]; rfl
  refine ⟨df (2 ^ gN g - 1) (2 ^ p), df_lt hal, ?_⟩
  have hno : ∀ l q, (rwx g (df (2 ^ gN g - 1) (2 ^ p)) l).testBit q = false := by
    intro l
    induction l with
    | zero =>
      intro q
      show (sx g _).testBit q = false
      unfold sx
      rw [df_tb (pw32 h9 hw.sd), hX]
      by_cases e : q = p
      · rw [e, hsd]; rfl
      · by_cases hq : q < gN g
        · simp [hq, e]
        · rw [tb_ge hw.sd (by omega)]; rfl
    | succ l ih =>
      intro q
      refine bool_f (fun z => ?_)
      have z' : (rwx g (df (2 ^ gN g - 1) (2 ^ p)) l ||| vbm (vx g (df (2 ^ gN g - 1) (2 ^ p))) (rwx g (df (2 ^ gN g - 1) (2 ^ p)) l) (gN g)).testBit q = true := z
      rw [Nat.testBit_or, ih q, Bool.false_or, vbm_tb] at z'
      obtain ⟨r, r1, r2, r3⟩ := z'
      rw [ih r] at r2; cases r2
  unfold prt
  rw [hno, hX]; simp
theorem apf_le (g : Gp) (p : Nat) : ∀ i, apf g p i ≤ i
  | 0 => Nat.le_refl _
  | i + 1 => by
    have := apf_le g p i
    rw [apf_step]
    split <;> omega
def apv (g : Gp) (p : Nat) : Int32 := if gK g p = 1 then -1 else nI (apf g p (2 ^ gN g)) - 1
def wyv (g : Gp) (p : Nat) : Int32 := if gK g p = 1 then -1 else nI (crd (apf g p (2 ^ gN g) - 1))
theorem apN_s {S : St} {g : Gp} {p : Nat} {Q : Int32 → St → Prop} (hw : WFg g) (c : CM S g) (hp : p < gN g) (hq : Q (apv g p) S) : p_X7_apartNow (nI p) S Q := by
  have h9 := hw.1
  have h2 := two_le h9
  have hkp := hw.2.2.2.1 p hp
  refine ⟨vp_in_nI (by omega) (by decide), ?_⟩
  rw [nI_clamp (by omega), c.2.2.1 p hp]
  unfold apv at hq
  by_cases hk : gK g p = 1
  · rw [if_pos hk] at hq
    exact ne_f (by rw [hk]; rfl) hq
  · rw [if_neg hk] at hq
    refine ne_t (lit_ne (b := 1) (by omega) (by omega) hk) ?_
    refine Lq_cnt (2 ^ gN g) (fun i => (nI p, nI (apf g p i) - 1, nI i, S)) (fun i hi K hK => ?_) (fun K => ?_)
    · have hb := apf_le g p i
      refine br_f (by rw [pow_s c.1 h9, ni_le (by omega) (by omega)]; omega) ?_
      have no : ¬ (prt g p i = true ∧ (apf g p i = 0 ∨ crd i < crd (apf g p i - 1))) → K (nI p, nI (apf g p i) - 1, nI i + 1, S) := fun h => by
        rw [nI_1]
        have e := apf_step g p i
        rw [if_neg h] at e
        rw [← e]; exact hK
      by_cases hpi : i.testBit p = true
      · exact hasM_t (by omega) (by omega) hpi (ne_t n10 (br_t rfl (no (fun z => by
          have := z.1
          unfold prt at this
          rw [hpi] at this; cases this))))
      · refine hasM_f (by omega) (by omega) (bool_f hpi) (ne_f rfl ?_)
        have led : (apf g p i = 0 ∨ crd i < crd (apf g p i - 1)) → p_X7_apartNow_50 Q K (nI p) (nI (apf g p i) - 1) (nI i) S := fun h => by
          refine br_f n10 (led_s hw c hp ?_)
          by_cases hr : (rwx g i (gN g)).testBit p = true
          · rw [if_pos hr]
            exact ne_t n10 (no (fun z => by
              have := z.1
              unfold prt at this
              rw [hr] at this; simp at this))
          · rw [if_neg hr]
            refine ne_f rfl ?_
            show K _
            rw [nI_1]
            have e := apf_step g p i
            rw [if_pos ⟨by unfold prt; simp [hpi, hr], h⟩] at e
            have e2 : nI i = nI (apf g p (i + 1)) - 1 := by rw [e, nI_pred]
            rw [e2]; exact hK
        by_cases h0 : apf g p i = 0
        · exact br_t ((m1_none (by omega)).mpr h0) (led (Or.inl h0))
        · refine br_f (fun z => h0 ((m1_none (by omega)).mp z)) (size_s (by omega) ?_)
          rw [ni_pred (by omega)]
          have q1 := crd_le i
          have q2 := crd_le (apf g p i - 1)
          refine size_s (by omega) ?_
          rw [← ni_pred (show 0 < apf g p i by omega)]
          by_cases hl : crd (apf g p i - 1) ≤ crd i
          · exact br_t (by rw [ni_le (by omega) (by omega)]; exact hl) (br_t rfl (no (by omega)))
          · exact br_f (by rw [ni_le (by omega) (by omega)]; exact hl) (led (Or.inr (by omega)))
    · exact br_t (by rw [pow_s c.1 h9, ni_le (by omega) (by omega)]; omega) hq
/-- what both take -/
theorem ap_x {g : Gp} {p : Nat} (hw : WFg g) (hp : p < gN g) (hk : gK g p ≠ 1) : ∃ X, X < 2 ^ gN g ∧ apf g p (2 ^ gN g) = X + 1 ∧ prt g p X = true ∧ (∀ Y, Y < 2 ^ gN g → prt g p Y = true → crd X ≤ crd Y) ∧ ∀ Y, Y < X → prt g p Y = true → crd X < crd Y := by
  rcases apf_spec g p (2 ^ gN g) with ⟨-, hn⟩ | h
  · obtain ⟨X, x1, x2⟩ := prt_ex hw hp hk
    rw [hn X x1] at x2; cases x2
  · exact h
theorem wy_c {S : St} {g : Gp} {p : Nat} {Q : Int32 → St → Prop} (hw : WFg g) (c : CC S g) (hp : p < gN g) (hq : ∀ S1, (gK g p ≠ 1 → WB0 S1 g) → KC S S1 → Q (wyv g p) S1) : p_X6_waysTo (nI p) S Q := by
  have h9 := hw.1
  have hkp := hw.2.2.2.1 p hp
  by_cases hk : gK g p = 1
  · have h' := hq S (fun z => absurd hk z) (KC.rf S)
    unfold wyv at h'
    rw [if_pos hk] at h'
    refine ⟨vp_in_nI (by omega) (by decide), ne_f ?_ h'⟩
    rw [nI_clamp (by omega), c.2.2.1 p hp, hk]; rfl
  · refine ways_s hw c hp hk (fun S1 W hW hx hm b1 k1 => ?_)
    have h' := hq S1 (fun _ => b1) k1
    obtain ⟨X, x1, x2, x3, x4, x5⟩ := ap_x hw hp hk
    obtain ⟨Y, y1, y2, y3⟩ := hx
    have e : W = crd (apf g p (2 ^ gN g) - 1) := by
      rw [x2, show X + 1 - 1 = X by omega]
      have := hm X x1 x3
      have := x4 Y y1 y2
      omega
    unfold wyv at h'
    rw [if_neg hk, ← e] at h'
    exact h'
theorem ap_c {S : St} {g : Gp} {p : Nat} {Q : Int32 → St → Prop} (hw : WFg g) (c : CC S g) (hp : p < gN g) (hq : ∀ S1, KC S S1 → Q (apv g p) S1) : p_X6_apart (nI p) S Q := by
  have h9 := hw.1
  have h2 := two_le h9
  have hpw := Nat.two_pow_pos (gN g)
  have hkp := hw.2.2.2.1 p hp
  refine has_t c.1 h9 hp (ne_t n10 ⟨vp_in_nI (by omega) (by decide), ?_⟩)
  rw [nI_clamp (by omega), c.2.2.1 p hp]
  by_cases hk : gK g p = 1
  · have h' := hq S (KC.rf S)
    unfold apv at h'
    rw [if_pos hk] at h'
    exact ne_f (by rw [hk]; rfl) h'
  · refine ne_t (lit_ne (b := 1) (by omega) (by omega) hk) (wy_c hw c hp (fun S1 b1 k1 => all_s (c.kc k1).1 h9 ?_))
    have b0 := b1 hk
    have h' := hq S1 k1
    unfold apv at h'
    rw [if_neg hk] at h'
    unfold wyv
    rw [if_neg hk, ni_shl1 p (by omega), ni_df]
    obtain ⟨X, x1, x2, x3, x4, x5⟩ := ap_x hw hp hk
    rw [x2, show X + 1 - 1 = X by omega]
    rw [x2, nI_pred] at h'
    have hal : 2 ^ gN g - 1 < 2 ^ gN g := by omega
    have ho : df (2 ^ gN g - 1) (2 ^ p) < 2 ^ gN g := df_lt hal
    have hot : ∀ q, (df (2 ^ gN g - 1) (2 ^ p)).testBit q = (decide (q < gN g) && !decide (q = p)) := fun q => by
      rw [df_tb (pw32 h9 hal), Nat.testBit_two_pow_sub_one]
      have := fb_bit_set 0 p q
      rw [Nat.zero_or, Nat.zero_testBit] at this
      rw [this]; rfl
    have hXs : ∀ q, X.testBit q = true → (df (2 ^ gN g - 1) (2 ^ p)).testBit q = true := fun q hq => by
      rw [hot]
      have := tb_lt x1 hq
      have hne : q ≠ p := fun e => by
        unfold prt at x3
        rw [← e, hq] at x3; cases x3
      simp [this, hne]
    have hXo : X ≤ df (2 ^ gN g - 1) (2 ^ p) := by
      have e : X &&& df (2 ^ gN g - 1) (2 ^ p) = X := tb_ext (fun i => by
        rw [Nat.testBit_and]
        cases hb : X.testBit i
        · rfl
        · rw [hXs i hb]; rfl)
      rw [← e]; exact Nat.and_le_right
    have cX := crd_le X
    have stop : ∀ K, p_X6_apart_52 Q K (nI p, nI (crd X), nI (df (2 ^ gN g - 1) (2 ^ p)), nI X, S1) := fun K => by
      refine br_f (by rw [ni_lt (by omega) (by omega)]; omega) ?_
      rw [ni_df, ni_z (Nat.lt_of_lt_of_le (df_lt x1) (by omega)), df_z (by omega)]
      refine ne_f hXs (bc_s (by omega) (ne_f rfl (rw_s hw b0 ?_)))
      have r5 : rwx g X (gN g) < 512 := lt_512 (met_lt (sx_lt hw X) (vx_lt hw X) (gN g)) h9
      refine bit_s (by omega) (by omega) ?_
      have hr : (rwx g X (gN g)).testBit p = false := by
        unfold prt at x3
        rw [Bool.and_eq_true] at x3
        simpa using x3.2
      rw [b1_f hr]
      exact ne_f rfl h'
    refine Lq_cnt X (fun i => (nI p, nI (crd X), nI (df (2 ^ gN g - 1) (2 ^ p)), nI i, S1)) (fun i hi K hK => ?_) stop
    refine br_f (by rw [ni_lt (by omega) (by omega)]; omega) ?_
    rw [ni_df, ni_z (Nat.lt_of_lt_of_le (df_lt (n := gN g) (by omega)) (by omega)), df_z (by omega)]
    have go : K (nI p, nI (crd X), nI (df (2 ^ gN g - 1) (2 ^ p)), nI i + 1, S1) := by rw [nI_1]; exact hK
    by_cases hs : ∀ q, i.testBit q = true → (df (2 ^ gN g - 1) (2 ^ p)).testBit q = true
    · refine ne_f hs (bc_s (by omega) ?_)
      have ci := crd_le i
      by_cases hc : crd i = crd X
      · refine ne_f (by rw [hc]) (rw_s hw b0 ?_)
        have r5 : rwx g i (gN g) < 512 := lt_512 (met_lt (sx_lt hw i) (vx_lt hw i) (gN g)) h9
        refine bit_s (by omega) (by omega) ?_
        by_cases hr : (rwx g i (gN g)).testBit p = true
        · rw [b1_t hr]; exact ne_t n10 go
        · have hip : i.testBit p = false := bool_f (fun z => by
            have := hs p z
            rw [hot] at this; simp at this)
          have := x5 i hi (by unfold prt; rw [hip, bool_f hr]; rfl)
          omega
      · exact ne_t (fun e => hc (ni_inj (by omega) (by omega) e)) go
    · exact ne_t hs go
