/-! ===== without a vouch ===== -/
def lo (g : Gp) (p q : Nat) : Gp := gsV g p (df (gV g p) (2 ^ q))
theorem lo_wf {g : Gp} {p q : Nat} (hw : WFg g) (hp : p < gN g) : WFg (lo g p q) := by
  obtain ⟨v1, v2, v3⟩ := hw.2.2.2.2.1 p hp
  have h32 := pw32 hw.1 v1
  refine wf_V hw ⟨df_lt v1, Nat.le_trans (crd_df h32) v2, ?_⟩
  rw [df_tb h32, v3]; rfl
def wov (g : Gp) (p q k : Nat) : Int32 := if k = 0 then nI (crd (inn (lo g p q) (2 ^ gN g - 1))) else if k = 1 then nI (crd (inn (lo g p q) (2 ^ gN g - 1) &&& flm g)) else nI (lef (lo g p q) q) - 1
theorem prepW_s {S : St} {g : Gp} {p q : Nat} {Q : St → Prop} (hw : WFg g) (c : CC S g) (hp : p < gN g) (hq9 : q < gN g) (hq : ∀ S1, WB S1 (lo g p q) → KC S S1 → Q S1) : p_X6_prepareWebWithout (nI p) (nI q) S Q := by
  have h9 := hw.1
  refine copy_s hw c (fun S1 b1 k1 => ⟨vp_in_nI (by omega) (by decide), vp_in_nI (by omega) (by decide), fun S2 e2 => ?_⟩)
  rw [nI_clamp (by omega), b1.2.2 p hp, ni_shl1 q (by omega), ni_df] at e2
  have b2 : WB0 S2 (lo g p q) := ⟨by rw [e2, cI_n (by omega)]; exact b1.1, by rw [e2, cI_n (by omega)]; exact b1.2.1, fun r hr => by
    rw [e2, si_r, if_pos rfl]
    show _ = nI (if r = p then df (gV g p) (2 ^ q) else gV g r)
    split
    · rfl
    · exact b1.2.2 r hr⟩
  refine settle_s (lo_wf hw hp) b2 (by rw [e2, cI_n (by omega)]; exact (c.kc k1).2.1) (fun i hi => by rw [e2, cI_n (by omega)]; exact (c.kc k1).2.2.2.2.1 i hi) (fun S3 b3 o3 => hq S3 b3 (k1.tr ⟨fun z hz => by rw [o3 z (by omega) (by omega), e2, cI_n (by omega)], fun z hz => by rw [o3 z (by omega) (by omega), e2, cI_n (by omega)]⟩))
theorem woN_s {S : St} {g : Gp} {p q k : Nat} {Q : Int32 → St → Prop} (hw : WFg g) (c : CM S g) (hp : p < gN g) (hq9 : q < gN g) (hk : k ≤ 2) (hq : ∀ S1, KM S S1 → Q (wov g p q k) S1) : p_X7_withoutNow (nI p) (nI q) (nI k) S Q := by
  have h9 := hw.1
  have hw' := lo_wf (q := q) hw hp
  have inl : inn (lo g p q) (2 ^ gN g - 1) < 512 := lt_512 (inn_lt (lo g p q) _) h9
  refine ⟨vp_in_nI (by omega) (by decide), vp_in_nI (by omega) (by decide), fun S1 e1 => ?_⟩
  rw [nI_clamp (by omega), c.2.2.2.1 p hp, ni_shl1 q (by omega), ni_df] at e1
  have c1 : CM S1 (lo g p q) := by rw [e1]; exact cm_V c
  refine lay_o hw' c1 (fun S2 m2 o2 z2 => allin_s hw' (by rw [o2 25 (by omega) (by omega) (by omega)]; exact c1.1) m2 ⟨vp_in_nI (by omega) (by decide), fun S5 e5 => ?_⟩)
  rw [nI_clamp (by omega)] at e5
  have oo : ∀ a, a ≠ 33 → a ≠ 34 → a ≠ 35 → S5.1 a = S.1 a := fun a y1 y2 y3 => by
    by_cases e : a = 27
    · subst e
      funext r
      rw [e5, si_r, if_pos rfl, o2 27 y1 y2 y3, e1, si_r, if_pos rfl]
      split
      · rename_i er; rw [er]
      · rfl
    · rw [e5, cI_n e, o2 a y1 y2 y3, e1, cI_n e]
  have k5 := KM.l3 oo (by rw [e5, cI_2, z2, e1]; rfl)
  have h' := hq S5 k5
  by_cases h0 : k = 0
  · subst h0
    exact ne_f rfl (size_s (show inn (lo g p q) (2 ^ gN g - 1) < 2 ^ 31 by omega) h')
  · refine ne_t (lit_ne (b := 0) (by omega) (by omega) h0) ?_
    by_cases h1 : k = 1
    · subst h1
      refine ne_f rfl (fls_m hw (c.km k5) ?_)
      rw [fa_and]
      exact size_s (Nat.lt_of_le_of_lt Nat.and_le_left (show inn (lo g p q) (2 ^ gN g - 1) < 2 ^ 31 by omega)) h'
    · have h2 : k = 2 := by omega
      subst h2
      refine ne_t (by decide) ⟨vp_in_nI (by omega) (by decide), ?_⟩
      rw [nI_clamp (by omega), e5, cI_n (by omega), m2.1.1 q hq9, ← e5]
      exact h'
theorem wo_c {S : St} {g : Gp} {p q k : Nat} {Q : Int32 → St → Prop} (hw : WFg g) (c : CC S g) (hp : p < gN g) (hq9 : q < gN g) (hpq : p ≠ q) (hv : (gV g p).testBit q = true) (hk : k ≤ 2) (hq : ∀ S1, KC S S1 → Q (wov g p q k) S1) : p_X6_without (nI p) (nI q) (nI k) S Q := by
  have h9 := hw.1
  have hw' := lo_wf (q := q) hw hp
  have inl : inn (lo g p q) (2 ^ gN g - 1) < 512 := lt_512 (inn_lt (lo g p q) _) h9
  refine pair_t c.1 h9 hp hq9 hpq (ne_t n10 (hasV (by omega) (by omega) (c.2.2.2.1 p hp) (hw.v512 hp) ?_))
  rw [b1_t hv]
  refine ne_t n10 (br_f (ni_nneg (by omega)) (br_t (by rw [show (2 : Int32) = nI 2 from rfl, ni_le (by omega) (by omega)]; omega) (prepW_s hw c hp hq9 (fun S1 b1 k1 => ?_))))
  have c1 := c.kc k1
  by_cases h0 : k = 0
  · subst h0
    exact br_t rfl (all_s c1.1 h9 (adm_s hw' (all31 h9) c1.1 b1 (fun S4 c4 a4 f4 v4 b4 k4 => bc_s inl (hq S4 (k1.tr k4)))))
  · refine br_f (lit_ne (b := 0) (by omega) (by omega) h0) ?_
    by_cases h1 : k = 1
    · subst h1
      refine br_t rfl (all_s c1.1 h9 (adm_s hw' (all31 h9) c1.1 b1 (fun S4 c4 a4 f4 v4 b4 k4 => fls_c hw (c1.kc k4) ?_)))
      rw [fa_and]
      exact bc_s (Nat.lt_of_le_of_lt Nat.and_le_left inl) (hq S4 (k1.tr k4))
    · have h2 : k = 2 := by omega
      subst h2
      refine br_f (by decide) ⟨vp_in_nI (by omega) (by decide), ?_⟩
      rw [nI_clamp (by omega), b1.2.1 q hq9]
      exact hq S1 k1
theorem ok_without (x y z : Int32) : OpOK (p_X6_without x y z) (p_X7_without x y z) := by
  refine op_ro (fun g hw => ?_)
  have h9 := hw.1
  rcases pr_split x y (gN g) with ⟨p, q, hp, hq, hpq, rfl, rfl⟩ | hx
  · have hv := hw.v512 hp
    by_cases hb : (gV g p).testBit q = true
    · rcases wi_split z 0 2 with ⟨k, -, hk, rfl⟩ | hz
      · refine ⟨wov g p q k, fun S Q c h => wo_c hw c hp hq hpq hb hk h, fun S Q c h => two_t c.1 h9 hp hq hpq (ne_t n10 ⟨vp_in_nI (by omega) (by decide), ?_⟩)⟩
        rw [nI_clamp (by omega), c.2.2.2.1 p hp]
        exact hasM_t (by omega) (by omega) hb (ne_t n10 (wi_t (a := 0) (b := 2) rfl (by omega) hk (by omega) (br_f n10 (woN_s hw c hp hq hk h))))
      · refine ⟨-102, fun S Q c h => pair_t c.1 h9 hp hq hpq (ne_t n10 (hasV (by omega) (by omega) (c.2.2.2.1 p hp) hv ?_)), fun S Q c h => two_t c.1 h9 hp hq hpq (ne_t n10 ⟨vp_in_nI (by omega) (by decide), ?_⟩)⟩
        · rw [b1_t hb]
          refine ne_t n10 ?_
          by_cases hn : z < 0
          · exact br_t hn (h S (KC.rf S))
          · refine br_f hn (br_f (fun w => ?_) (h S (KC.rf S)))
            obtain ⟨j, j1, j2⟩ := rng_of (n := 3) (by omega) hn (fun u => by
              have := Int32.le_trans u w
              exact absurd this (by decide))
            exact hz j (by omega) (by omega) j2
        · rw [nI_clamp (by omega), c.2.2.2.1 p hp]
          exact hasM_t (by omega) (by omega) hb (ne_t n10 (wi_f (a := 0) (b := 2) (by omega) (by omega) hz (br_t rfl (h S (KM.rf S)))))
    · refine ⟨-103, fun S Q c h => pair_t c.1 h9 hp hq hpq (ne_t n10 (hasV (by omega) (by omega) (c.2.2.2.1 p hp) hv ?_)), fun S Q c h => two_t c.1 h9 hp hq hpq (ne_t n10 ⟨vp_in_nI (by omega) (by decide), ?_⟩)⟩
      · rw [b1_n hb]
        exact ne_f rfl (h S (KC.rf S))
      · rw [nI_clamp (by omega), c.2.2.2.1 p hp]
        exact hasM_f (by omega) (by omega) (bool_f hb) (ne_f rfl (h S (KM.rf S)))
  · exact ⟨-101, fun S Q c h => pair_f c.1 h9 hx (ne_f rfl (h S (KC.rf S))), fun S Q c h => two_f c.1 h9 hx (ne_f rfl (h S (KM.rf S)))⟩
