/-! ===== the dearest vouch ===== -/
def wc (g : Gp) (p q : Nat) : Nat := crd (inn (lo g p q) (2 ^ gN g - 1))
def dok (g : Gp) (k : Nat) : Bool := decide (k / 10 < gN g) && (decide (k % 10 < gN g) && (gV g (k / 10)).testBit (k % 10))
def dst (g : Gp) (k : Nat) (t : Nat × Nat) : Nat × Nat := if t.1 = 0 ∨ wc g (k / 10) (k % 10) < t.2 then (k + 1, wc g (k / 10) (k % 10)) else t
def dee (g : Gp) : Nat → Nat × Nat
  | 0 => (0, 0)
  | k + 1 => if dok g k = true then dst g k (dee g k) else dee g k
theorem dee_step (g : Gp) (k : Nat) : dee g (k + 1) = if dok g k = true then dst g k (dee g k) else dee g k := rfl
def dea (g : Gp) : Int32 := nI (dee g 100).1 - 1
theorem wc_le (g : Gp) (p q : Nat) : wc g p q ≤ 9 := crd_le _
theorem dee_b (g : Gp) : ∀ k, (dee g k).1 ≤ k ∧ (dee g k).2 ≤ 9
  | 0 => ⟨Nat.le_refl _, Nat.zero_le _⟩
  | k + 1 => by
    obtain ⟨h1, h2⟩ := dee_b g k
    rw [dee_step]
    split
    · unfold dst
      split
      · exact ⟨Nat.le_refl _, wc_le _ _ _⟩
      · exact ⟨by omega, h2⟩
    · exact ⟨by omega, h2⟩
theorem dee_skip (g : Gp) {a : Nat} : ∀ b, a ≤ b → (∀ k, a ≤ k → k < b → dok g k = false) → dee g b = dee g a
  | 0, h, _ => by
    have : a = 0 := by omega
    rw [this]
  | b + 1, h, hk => by
    by_cases e : a = b + 1
    · rw [e]
    · rw [dee_step, if_neg (by rw [hk b (by omega) (by omega)]; decide)]
      exact dee_skip g b (by omega) (fun k h1 h2 => hk k h1 (by omega))
theorem dd10 : ∀ k, k < 100 → nI k / 10 = nI (k / 10) ∧ nI k - nI k / 10 * 10 = nI (k % 10) := by decide +kernel
theorem pm1 {d : Nat} (h : d ≤ 900) : (nI d - 1 : Int32) = -1 ↔ d = 0 := m1_none (by omega)
theorem deN_s {S : St} {g : Gp} {Q : Int32 → St → Prop} (hw : WFg g) (c : CM S g) (hq : ∀ S1, KM S S1 → Q (dea g) S1) : p_X7_dearestNow S Q := by
  have h9 := hw.1
  refine Lq_rel 100 (fun k t => ∃ S1, t = (nI (dee g k).1 - 1, nI (dee g k).2, nI k, S1) ∧ KM S S1) ?_ ?_ 0 _ (by omega) ⟨S, rfl, KM.rf S⟩
  · rintro k t hk ⟨S1, rfl, k1⟩ K hK
    have c1 := c.km k1
    obtain ⟨d1, d2⟩ := dee_b g k
    obtain ⟨e1, e2⟩ := dd10 k hk
    refine br_f (by rw [show (100 : Int32) = nI 100 from rfl, ni_le (by omega) (by omega)]; omega) ?_
    rw [e2, e1, c1.1]
    have skip : dok g k = false → ∀ S2, KM S S2 → K (nI (dee g k).1 - 1, nI (dee g k).2, nI k + 1, S2) := fun h S2 k2 => by
      rw [nI_1]
      exact hK _ ⟨S2, by rw [dee_step, if_neg (by rw [h]; decide)], k2⟩
    by_cases h1 : k / 10 < gN g
    · refine br_f (by rw [ni_le (by omega) (by omega)]; omega) ?_
      by_cases h2 : k % 10 < gN g
      · refine br_f (by rw [ni_le (by omega) (by omega)]; omega) ⟨vp_in_nI (by omega) (by decide), ?_⟩
        rw [nI_clamp (by omega), c1.2.2.2.1 _ h1]
        have hv := hw.v512 h1
        by_cases hb : (gV g (k / 10)).testBit (k % 10) = true
        · refine hasM_t (by omega) (by omega) hb (br_f n10 (woN_s (k := 0) hw c1 h1 h2 (by omega) (fun S2 k2 => ?_)))
          have hok : dok g k = true := by unfold dok; simp [h1, h2, hb]
          have hw9 := wc_le g (k / 10) (k % 10)
          show (_ → p_X7_dearestNow_79 Q K _ _ _ (nI (wc g (k / 10) (k % 10))) S2) ∧ (_ → (_ ≤ nI (wc g (k / 10) (k % 10)) → p_X7_dearestNow_84 Q K _ _ _ (nI (wc g (k / 10) (k % 10))) 0 S2) ∧ (_ → p_X7_dearestNow_79 Q K _ _ _ (nI (wc g (k / 10) (k % 10))) S2))
          have yes : ((dee g k).1 = 0 ∨ wc g (k / 10) (k % 10) < (dee g k).2) → p_X7_dearestNow_79 Q K (nI (dee g k).1 - 1) (nI (dee g k).2) (nI k) (nI (wc g (k / 10) (k % 10))) S2 := fun h => by
            refine br_f n10 (br_f n10 ?_)
            show K _
            rw [nI_1]
            refine hK _ ⟨S2, ?_, k1.tr k2⟩
            rw [dee_step, if_pos hok]
            unfold dst
            rw [if_pos h]
            show _ = (nI (k + 1) - 1, _, _, _)
            rw [nI_pred]
          by_cases hz : (dee g k).1 = 0
          · exact br_t ((pm1 (by omega)).mpr hz) (yes (Or.inl hz))
          · refine br_f (fun z => hz ((pm1 (by omega)).mp z)) ?_
            by_cases hl : (dee g k).2 ≤ wc g (k / 10) (k % 10)
            · refine br_t (by rw [ni_le (by omega) (by omega)]; exact hl) (br_t rfl (br_t rfl ?_))
              show K _
              rw [nI_1]
              refine hK _ ⟨S2, ?_, k1.tr k2⟩
              rw [dee_step, if_pos hok]
              unfold dst
              rw [if_neg (by omega)]
            · exact br_f (by rw [ni_le (by omega) (by omega)]; exact hl) (yes (Or.inr (by omega)))
        · refine hasM_f (by omega) (by omega) (bool_f hb) (br_t rfl ?_)
          exact skip (by unfold dok; simp [hb]) S1 k1
      · exact br_t (by rw [ni_le (by omega) (by omega)]; omega) (skip (by unfold dok; simp [h2]) S1 k1)
    · exact br_t (by rw [ni_le (by omega) (by omega)]; omega) (skip (by unfold dok; simp [h1]) S1 k1)
  · rintro t ⟨S1, rfl, k1⟩ K
    exact br_t (by decide) (hq S1 k1)
def few (t : Nat × Nat) : Nat := if t.1 = 0 then 10 else t.2
theorem dea_c {S : St} {g : Gp} {Q : Int32 → St → Prop} (hw : WFg g) (c : CC S g) (hN : 0 < gN g) (hq : ∀ S1, KC S S1 → Q (dea g) S1) : p_X6_dearest S Q := by
  have h9 := hw.1
  refine ex_t c.1 h9 hN (ne_t n10 ?_)
  refine Lq_rel (gN g) (fun i t => ∃ S1, t = (nI (dee g (10 * i)).1 - 1, nI (few (dee g (10 * i))), nI i, S1) ∧ KC S S1) ?_ ?_ 0 _ (by omega) ⟨S, rfl, KC.rf S⟩
  · rintro i t hi ⟨S1, rfl, k1⟩ K hK
    refine br_f (by rw [(c.kc k1).1, ni_le (by omega) (by omega)]; omega) ?_
    refine Lq_rel (gN g) (fun j t => ∃ S1, t = (nI (dee g (10 * i + j)).1 - 1, nI (few (dee g (10 * i + j))), nI i, nI j, S1) ∧ KC S S1) ?_ ?_ 0 _ (by omega) ⟨S1, rfl, k1⟩
    · rintro j t hj ⟨S2, rfl, k2⟩ K2 hK2
      have c2 := c.kc k2
      have hv := hw.v512 hi
      obtain ⟨d1, d2⟩ := dee_b g (10 * i + j)
      have q1 : (10 * i + j) / 10 = i := by omega
      have q2 : (10 * i + j) % 10 = j := by omega
      refine br_f (by rw [c2.1, ni_le (by omega) (by omega)]; omega) (hasV (by omega) (by omega) (c2.2.2.2.1 i hi) hv ?_)
      have st := dee_step g (10 * i + j)
      by_cases hb : (gV g i).testBit j = true
      · rw [b1_t hb]
        have hok : dok g (10 * i + j) = true := by unfold dok; rw [q1, q2]; simp [hi, hj, hb]
        rw [if_pos hok] at st
        unfold dst at st
        rw [q1, q2] at st
        refine ne_t n10 (prepW_s hw c2 hi hj (fun S3 b3 k3 => all_s (c2.kc k3).1 h9 (adm_s (lo_wf hw hi) (all31 h9) (c2.kc k3).1 b3 (fun S4 c4 a4 f4 v4 b4 k4 => bc_s (lt_512 (inn_lt (lo g i j) _) h9) ?_))))
        have hw9 := wc_le g i j
        have kk := (k2.tr k3).tr k4
        have hf : few (dee g (10 * i + j)) ≤ 10 := by unfold few; split <;> omega
        show (nI (few (dee g (10 * i + j))) ≤ nI (wc g i j) → _) ∧ (_ → p_X6_dearest_102 Q K K2 _ (nI (wc g i j)) _ _ _)
        by_cases hc : (dee g (10 * i + j)).1 = 0 ∨ wc g i j < (dee g (10 * i + j)).2
        · rw [if_pos hc] at st
          refine br_f (by rw [ni_le (by omega) (by omega)]; unfold few; split <;> omega) ?_
          show K2 _
          rw [nI_1, show (10 : Int32) = nI 10 from rfl, ni_mul, nI_add]
          refine hK2 _ ⟨S4, ?_, kk⟩
          rw [show 10 * i + (j + 1) = 10 * i + j + 1 by omega, st]
          show _ = (nI (10 * i + j + 1) - 1, nI (few (10 * i + j + 1, wc g i j)), _, _, _)
          rw [nI_pred]
          unfold few
          rw [if_neg (by omega)]
        · rw [if_neg hc] at st
          refine br_t (by rw [ni_le (by omega) (by omega)]; unfold few; rw [if_neg (fun z => hc (Or.inl z))]; omega) ?_
          show K2 _
          rw [nI_1]
          refine hK2 _ ⟨S4, ?_, kk⟩
          rw [show 10 * i + (j + 1) = 10 * i + j + 1 by omega, st]
      · rw [b1_n hb]
        have hok : ¬ dok g (10 * i + j) = true := by unfold dok; rw [q1, q2]; simp [hb]
        rw [if_neg hok] at st
        refine ne_f rfl ?_
        show K2 _
        rw [nI_1]
        refine hK2 _ ⟨S2, ?_, k2⟩
        rw [show 10 * i + (j + 1) = 10 * i + j + 1 by omega, st]
    · rintro t ⟨S2, rfl, k2⟩ K2
      refine br_t (by rw [(c.kc k2).1, ni_le (by omega) (by omega)]; omega) ?_
      rw [nI_1]
      refine hK _ ⟨S2, ?_, k2⟩
      rw [dee_skip g (a := 10 * i + gN g) (10 * (i + 1)) (by omega) (fun k h1 h2 => ?_)]
      unfold dok
      have : ¬ k % 10 < gN g := by omega
      simp [this]
  · rintro t ⟨S1, rfl, k1⟩ K
    refine br_t (by rw [(c.kc k1).1, ni_le (by omega) (by omega)]; omega) ?_
    have := hq S1 k1
    unfold dea at this
    rw [dee_skip g (a := 10 * gN g) 100 (by omega) (fun k h1 h2 => by
      unfold dok
      have : ¬ k / 10 < gN g := by omega
      simp [this])] at this
    exact this
theorem ok_dearest : OpOK p_X6_dearest p_X7_dearest := by
  refine op_ro (fun g hw => ?_)
  have h9 := hw.1
  rcases Nat.eq_zero_or_pos (gN g) with h0 | h0
  · exact ⟨-103, fun S Q c h => ex_f (by rw [c.1, h0]) (ne_f rfl (h S (KC.rf S))), fun S Q c h => isC_f (by rw [c.1, h0]) (br_t rfl (h S (KM.rf S)))⟩
  · exact ⟨dea g, fun S Q c h => dea_c hw c h0 h, fun S Q c h => isC_t c.1 h9 h0 (br_f n10 (deN_s hw c h))⟩
