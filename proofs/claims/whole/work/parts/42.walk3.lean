theorem rnk_scale {n u : Nat} {f : Nat → Nat} (hu : 0 < u) (p : Nat) : rnk n (fun q => u * f q) p = rnk n f p := by
  refine fb_ct_cong (fun k _ => ?_)
  unfold bef
  have h1 : u * f p < u * f k ↔ f p < f k := Nat.mul_lt_mul_left hu
  have h2 : u * f k = u * f p ↔ f k = f p := Nat.mul_right_inj (Nat.ne_of_gt hu)
  simp only [h1, h2]
theorem pat_s {S : St} {g : Gp} {y p k : Nat} {Q : Int32 → St → Prop} (hw : WFg g) (h0 : sdm g ≠ 0) (hk : k ≤ 4) (h : WKs S g k) (hp : p < gN g) (hr : rnk (gN g) (chg g k) p = y) (hq : Q (nI p) S) : p_X3_personAt (nI y) S Q := by
  have h9 := hw.1
  have hyn : y < gN g := by rw [← hr]; exact rnk_lt hp
  refine Lq_rel p (fun i a => a = (nI y, nI i, S)) ?_ ?_ 0 _ (Nat.zero_le _) rfl
  · rintro i a hi rfl K hK
    refine br_f (by rw [h.1, ni_le (by omega) (by omega)]; omega) (cbf_s (f := fun q => ugg g * chg g k q) h9 (by omega) h.1 (fun q hq => ⟨h.2.2 q hq, by have := upr4 hw hk q; omega⟩) ?_)
    rw [rnk_scale (ug_pos hw h0)]
    have hlt := rnk_lt (f := chg g k) (show i < gN g by omega)
    refine ne_t (fun e => ?_) ?_
    · have e := ni_inj (by omega) (by omega) e
      have := rnk_one (f := chg g k) (show i < gN g by omega) hp (by omega)
      omega
    · rw [nI_1]; exact hK _ rfl
  · rintro a rfl K
    refine br_f (by rw [h.1, ni_le (by omega) (by omega)]; omega) (cbf_s (f := fun q => ugg g * chg g k q) h9 hp h.1 (fun q hq => ⟨h.2.2 q hq, by have := upr4 hw hk q; omega⟩) ?_)
    rw [rnk_scale (ug_pos hw h0), hr]
    exact ne_f rfl hq
theorem onow_s {S : St} {g : Gp} {y p k : Nat} {Q : Int32 → St → Prop} (hw : WFg g) (h0 : sdm g ≠ 0) (hk : k ≤ 4) (c : CM S g) (hp : p < gN g) (hr : rnk (gN g) (chg g k) p = y) (hq : ∀ S1, KM S S1 → Q (nI p) S1) : p_X7_orderNow (nI k) (nI y) S Q := by
  have h9 := hw.1
  have hyn : y < gN g := by rw [← hr]; exact rnk_lt hp
  refine lay_s hw hk h0 c (fun S1 m1 e1 z1 => ?_)
  have k1 : KM S S1 := ⟨by unfold KM0; rw [e1]; exact KM0.rf S, z1⟩
  have c1 := c.km k1
  have hf : ∀ q, q < gN g → S1.2 37 q = lN (chg g k q) ∧ chg g k q < 2 ^ 62 := fun q hq => ⟨m1.2 q hq, by
    have h1 := chn_le (sd := sdm g) (vz := gV g) h9 k q
    have h2 := p540 (k := k) (by omega)
    have h3 : chg g k q ≤ 540 ^ k := h1
    omega⟩
  refine Lq_rel p (fun i a => a = (nI y, nI i, S1)) ?_ ?_ 0 _ (Nat.zero_le _) rfl
  · rintro i a hi rfl K hK
    refine plo_s h9 (by omega) c1.1 hf ?_
    have hlt := rnk_lt (f := chg g k) (show i < gN g by omega)
    refine br_f (fun e => ?_) ?_
    · have e := ni_inj (by omega) (by omega) e
      have := rnk_one (f := chg g k) (show i < gN g by omega) hp (by omega)
      omega
    · rw [nI_1]; exact hK _ rfl
  · rintro a rfl K
    refine plo_s h9 hp c1.1 hf ?_
    rw [hr]
    exact br_t rfl (hq S1 k1)
theorem isS_t {k : Nat} {S : St} {Q : Int32 → St → Prop} (hk : k ≤ 4) (h : Q 1 S) : p_X6_isStepCount (nI k) S Q := by
  refine br_f (ni_nneg (by omega)) (br_f ?_ h)
  rw [show (4 : Int32) = nI 4 from rfl, ni_lt (by omega) (by omega)]; omega
theorem isS_f {x : Int32} {S : St} {Q : Int32 → St → Prop} (hx : ∀ k, 0 ≤ k → k ≤ 4 → x ≠ nI k) (h : Q 0 S) : p_X6_isStepCount x S Q := by
  refine ⟨fun _ => h, fun h0 => ⟨fun _ => h, fun h1 => ?_⟩⟩
  exfalso
  obtain ⟨j, hj, rfl⟩ := nI_of h0
  rw [show (4 : Int32) = nI 4 from rfl, nI_ltI (by omega) hj] at h1
  exact hx j (Nat.zero_le j) (by omega) rfl
theorem sds_c {S : St} {g : Gp} {Q : Int32 → St → Prop} (hw : WFg g) (c : CC S g) (h : Q (nI (sdm g)) S) : p_X0_ofKind 1 S Q := ofK_s (t := 1) c.1 hw.1 (fun q hq => ⟨c.2.2.1 q hq, hw.2.2.2.1 q hq⟩) (by omega) h
theorem sds_m {S : St} {g : Gp} {Q : Int32 → St → Prop} (hw : WFg g) (c : CM S g) (h : Q (nI (sdm g)) S) : p_X7_ofKind 1 S Q := ofKM_s (t := 1) c.1 hw.1 (fun q hq => ⟨c.2.2.1 q hq, hw.2.2.2.1 q hq⟩) (by omega) h
theorem sd_ne {g : Gp} (hw : WFg g) (h : sdm g ≠ 0) : ¬ nI (sdm g) = 0 := fun e => h (ni_inj (b := 0) (by have := sd_lt hw; omega) (by omega) e)
theorem are_t {S : St} {g : Gp} {Q : Int32 → St → Prop} (hw : WFg g) (c : CM S g) (h0 : sdm g ≠ 0) (h : Q 1 S) : p_X7_areSeeds S Q := sds_m hw c (br_f (sd_ne hw h0) h)
theorem are_f {S : St} {g : Gp} {Q : Int32 → St → Prop} (hw : WFg g) (c : CM S g) (h0 : sdm g = 0) (h : Q 0 S) : p_X7_areSeeds S Q := sds_m hw c (br_t (by rw [h0]; rfl) h)
theorem ok_chance (x y z : Int32) : OpOK (p_X6_chance x y z) (p_X7_chance x y z) := by
  refine op_ro (fun g hw => ?_)
  have h9 := hw.1
  rcases rg_split x (gN g) with ⟨p, hp, rfl⟩ | hx
  · rcases wi_split y 0 4 with ⟨k, -, hk, rfl⟩ | hy
    · rcases wi_split z 0 1 with ⟨w, -, hw1, rfl⟩ | hz
      · by_cases h0 : sdm g = 0
        · refine ⟨-103, fun S Q c h => ?_, fun S Q m h => ?_⟩
          · refine has_t c.1 h9 hp (ne_t n10 (isS_t hk (br_f n10 (br_f (ni_nneg (by omega)) (br_t ?_ (sds_c hw c (ne_f (by rw [h0]; rfl) (h S (KC.rf S)))))))))
            rw [ni_one, ni_le (by omega) (by omega)]; exact hw1
          · exact isP_t m.1 h9 hp (ne_t n10 (wi_t (a := 0) (b := 4) rfl (by omega) hk (by omega) (br_f n10 (wi_t (a := 0) (b := 1) rfl (by omega) hw1 (by omega) (ne_t n10 (are_f hw m h0 (br_t rfl (h S (KM.rf S)))))))))
        · refine ⟨cgv g p k w, fun S Q c h => ?_, fun S Q m h => ?_⟩
          · refine has_t c.1 h9 hp (ne_t n10 (isS_t hk (br_f n10 (br_f (ni_nneg (by omega)) (br_t ?_ (sds_c hw c (ne_t (sd_ne hw h0) (go_s hw hk h0 c (fun S12 w12 k12 => ⟨fun e => ?_, fun e => ?_⟩)))))))))
            · rw [ni_one, ni_le (by omega) (by omega)]; exact hw1
            · have e : w = 1 := by
                have : w ≠ 0 := fun q => e (by rw [q]; rfl)
                omega
              subst e
              exact den_s hw h0 hk hp w12 (h S12 k12)
            · have e : w = 0 := ni_inj (by omega) (by omega) e
              subst e
              exact num_s hw h0 hk hp w12 (h S12 k12)
          · exact isP_t m.1 h9 hp (ne_t n10 (wi_t (a := 0) (b := 4) rfl (by omega) hk (by omega) (br_f n10 (wi_t (a := 0) (b := 1) rfl (by omega) hw1 (by omega) (ne_t n10 (are_t hw m h0 (br_f n10 (cnow_s hw h0 hk hw1 hp m h))))))))
      · refine ⟨-102, fun S Q c h => ?_, fun S Q m h => ?_⟩
        · refine has_t c.1 h9 hp (ne_t n10 (isS_t hk (br_f n10 ⟨fun _ => h S (KC.rf S), fun h0 => ⟨fun h1 => ?_, fun _ => h S (KC.rf S)⟩⟩)))
          exfalso
          obtain ⟨j, hj, rfl⟩ := nI_of h0
          rw [ni_one, nI_leI hj (by omega)] at h1
          exact hz j (Nat.zero_le j) h1 rfl
        · exact isP_t m.1 h9 hp (ne_t n10 (wi_t (a := 0) (b := 4) rfl (by omega) hk (by omega) (br_f n10 (wi_f (a := 0) (b := 1) (by omega) (by omega) hz (ne_f rfl (h S (KM.rf S)))))))
    · exact ⟨-102, fun S Q c h => has_t c.1 h9 hp (ne_t n10 (isS_f hy (br_t rfl (h S (KC.rf S))))), fun S Q m h => isP_t m.1 h9 hp (ne_t n10 (wi_f (a := 0) (b := 4) (by omega) (by omega) hy (br_t rfl (h S (KM.rf S)))))⟩
  · exact ⟨-101, fun S Q c h => has_f c.1 h9 hx (ne_f rfl (h S (KC.rf S))), fun S Q m h => isP_f m.1 h9 hx (ne_f rfl (h S (KM.rf S)))⟩
theorem ok_thousandths (x y : Int32) : OpOK (p_X6_thousandths x y) (p_X7_thousandths x y) := by
  refine op_ro (fun g hw => ?_)
  have h9 := hw.1
  rcases rg_split x (gN g) with ⟨p, hp, rfl⟩ | hx
  · rcases wi_split y 0 4 with ⟨k, -, hk, rfl⟩ | hy
    · by_cases h0 : sdm g = 0
      · exact ⟨-103, fun S Q c h => has_t c.1 h9 hp (ne_t n10 (isS_t hk (ne_t n10 (sds_c hw c (ne_f (by rw [h0]; rfl) (h S (KC.rf S))))))), fun S Q m h => isP_t m.1 h9 hp (ne_t n10 (wi_t (a := 0) (b := 4) rfl (by omega) hk (by omega) (ne_t n10 (are_f hw m h0 (br_t rfl (h S (KM.rf S)))))))⟩
      · exact ⟨tsv g p k, fun S Q c h => has_t c.1 h9 hp (ne_t n10 (isS_t hk (ne_t n10 (sds_c hw c (ne_t (sd_ne hw h0) (go_s hw hk h0 c (fun S12 w12 k12 => thp_s hw h0 hk hp w12 (h S12 k12)))))))), fun S Q m h => isP_t m.1 h9 hp (ne_t n10 (wi_t (a := 0) (b := 4) rfl (by omega) hk (by omega) (ne_t n10 (are_t hw m h0 (br_f n10 (tnow_s hw h0 hk hp m h))))))⟩
    · exact ⟨-102, fun S Q c h => has_t c.1 h9 hp (ne_t n10 (isS_f hy (ne_f rfl (h S (KC.rf S))))), fun S Q m h => isP_t m.1 h9 hp (ne_t n10 (wi_f (a := 0) (b := 4) (by omega) (by omega) hy (ne_f rfl (h S (KM.rf S)))))⟩
  · exact ⟨-101, fun S Q c h => has_f c.1 h9 hx (ne_f rfl (h S (KC.rf S))), fun S Q m h => isP_f m.1 h9 hx (ne_f rfl (h S (KM.rf S)))⟩
theorem sd_n0 {g : Gp} (h : gN g = 0) : sdm g = 0 := by
  have h1 : sdm g < 2 ^ gN g := mkm_lt _ _
  rw [h] at h1; omega
theorem ok_order (x y : Int32) : OpOK (p_X6_order x y) (p_X7_order x y) := by
  refine op_ro (fun g hw => ?_)
  have h9 := hw.1
  rcases wi_split x 0 4 with ⟨k, -, hk, rfl⟩ | hx
  · by_cases h0 : sdm g = 0
    · refine ⟨-103, fun S Q c h => isS_t hk (ne_t n10 (sds_c hw c (ne_f (by rw [h0]; rfl) (h S (KC.rf S))))), fun S Q m h => ?_⟩
      refine wi_t (a := 0) (b := 4) rfl (by omega) hk (by omega) (ne_t n10 ?_)
      by_cases hN : gN g = 0
      · exact isC_f (by rw [m.1, hN]) (br_t rfl (h S (KM.rf S)))
      · exact isC_t m.1 h9 (by omega) (br_f n10 (are_f hw m h0 (ne_f rfl (h S (KM.rf S)))))
    · have hN : 0 < gN g := by
        rcases Nat.eq_zero_or_pos (gN g) with z | z
        · exact absurd (sd_n0 z) h0
        · exact z
      rcases rg_split y (gN g) with ⟨r, hr, rfl⟩ | hy
      · obtain ⟨p, hp, e⟩ := rnk_onto (f := chg g k) hr
        exact ⟨nI p, fun S Q c h => isS_t hk (ne_t n10 (sds_c hw c (ne_t (sd_ne hw h0) (has_t c.1 h9 hr (ne_t n10 (go_s hw hk h0 c (fun S10 w10 k10 => pat_s hw h0 hk w10 hp e (h S10 k10)))))))), fun S Q m h => wi_t (a := 0) (b := 4) rfl (by omega) hk (by omega) (ne_t n10 (isC_t m.1 h9 hN (br_f n10 (are_t hw m h0 (ne_t n10 (isP_t m.1 h9 hr (br_f n10 (onow_s hw h0 hk m hp e h))))))))⟩
      · exact ⟨-101, fun S Q c h => isS_t hk (ne_t n10 (sds_c hw c (ne_t (sd_ne hw h0) (has_f c.1 h9 hy (ne_f rfl (h S (KC.rf S))))))), fun S Q m h => wi_t (a := 0) (b := 4) rfl (by omega) hk (by omega) (ne_t n10 (isC_t m.1 h9 hN (br_f n10 (are_t hw m h0 (ne_t n10 (isP_f m.1 h9 hy (br_t rfl (h S (KM.rf S)))))))))⟩
  · exact ⟨-102, fun S Q c h => isS_f hx (ne_f rfl (h S (KC.rf S))), fun S Q m h => wi_f (a := 0) (b := 4) (by omega) (by omega) hx (ne_f rfl (h S (KM.rf S)))⟩
