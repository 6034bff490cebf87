/-! ===== apart and person ===== -/
theorem ok_apart (x : Int32) : OpOK (p_X6_apart x) (p_X7_apart x) := by
  refine op_ro (fun g hw => ?_)
  have h9 := hw.1
  rcases rg_split x (gN g) with ⟨p, hp, rfl⟩ | hx
  · exact ⟨apv g p, fun S Q c h => ap_c hw c hp h, fun S Q c h => isP_t c.1 h9 hp (br_f n10 (apN_s hw c hp (h S (KM.rf S))))⟩
  · exact ⟨-101, fun S Q c h => has_f c.1 h9 hx (ne_f rfl (h S (KC.rf S))), fun S Q c h => isP_f c.1 h9 hx (br_t rfl (h S (KM.rf S)))⟩
def pev (g : Gp) (p k : Nat) : Int32 := if k = 0 then nI (gK g p) else if k = 1 then nI (lef g p) - 1 else if k = 2 then nI (limg g p) else if k = 3 then nI (crd (gV g p)) else if k = 4 then nI (got g p) else if k = 5 then nI (b1 (inn g (2 ^ gN g - 1)) p) else if k = 6 then nI (b1 (mkm (gN g) (tak g)) p) else wyv g p
theorem per_c {S : St} {g : Gp} {p k : Nat} {Q : Int32 → St → Prop} (hw : WFg g) (c : CC S g) (hp : p < gN g) (hk : k ≤ 7) (hq : ∀ S1, KC S S1 → Q (pev g p k) S1) : p_X6_person (nI p) (nI k) S Q := by
  have h9 := hw.1
  refine has_t c.1 h9 hp (ne_t n10 (br_f (ni_nneg (by omega)) (br_t (by rw [show (7 : Int32) = nI 7 from rfl, ni_le (by omega) (by omega)]; omega) ?_)))
  have ne : ∀ b, b ≤ 7 → k ≠ b → ¬ nI k = nI b := fun b hb h => lit_ne (by omega) (by omega) h
  have web : (k = 1 ∨ k = 2 ∨ k = 5 ∨ k = 6) → p_X6_person_117 Q (nI p) (nI k) S := fun hc => by
    refine prep_s hw c (fun S1 b1' k1 => ?_)
    have c1 := c.kc k1
    have h' := hq S1 k1
    rcases hc with rfl | rfl | rfl | rfl
    · refine br_t rfl ⟨vp_in_nI (by omega) (by decide), ?_⟩
      rw [nI_clamp (by omega), b1'.2.1 p hp]; exact h'
    · refine br_f (by decide) (br_t rfl ⟨vp_in_nI (by omega) (by decide), ?_⟩)
      rw [nI_clamp (by omega), b1'.2.2 p hp]; exact h'
    · refine br_f (by decide) (br_f (by decide) (br_f (by decide) (br_f (by decide) (br_t rfl (all_s c1.1 h9 (adm_s hw (all31 h9) c1.1 b1' (fun S4 c4 a4 f4 v4 b4 k4 => bit_s (by have := lt_512 (inn_lt g (2 ^ gN g - 1)) h9; omega) (by omega) (hq S4 (k1.tr k4)))))))))
    · refine br_f (by decide) (br_f (by decide) (br_f (by decide) (br_f (by decide) (br_f (by decide) (tak_c hw c1 b1' (bit_s (by have := lt_512 (mkm_lt (tak g) (gN g)) h9; omega) (by omega) h'))))))
  by_cases h0 : k = 0
  · subst h0
    refine br_t rfl ⟨vp_in_nI (by omega) (by decide), ?_⟩
    rw [nI_clamp (by omega), c.2.2.1 p hp]; exact hq S (KC.rf S)
  refine br_f (ne 0 (by omega) h0) ?_
  by_cases h1 : k = 1
  · exact br_t (by rw [h1]; rfl) (web (Or.inl h1))
  refine br_f (ne 1 (by omega) h1) ?_
  by_cases h2 : k = 2
  · exact br_t (by rw [h2]; rfl) (web (Or.inr (Or.inl h2)))
  refine br_f (ne 2 (by omega) h2) ?_
  by_cases h3 : k = 3
  · subst h3
    refine br_t rfl ⟨vp_in_nI (by omega) (by decide), ?_⟩
    rw [nI_clamp (by omega), c.2.2.2.1 p hp]
    exact bc_s (hw.v512 hp) (hq S (KC.rf S))
  refine br_f (ne 3 (by omega) h3) ?_
  by_cases h4 : k = 4
  · subst h4
    refine br_t rfl (vo_s hw c (by omega) (bc_s (lt_512 (mkm_lt _ _) h9) ?_))
    rw [vo_crd hw]; exact hq S (KC.rf S)
  refine br_f (ne 4 (by omega) h4) ?_
  by_cases h5 : k = 5
  · exact br_t (by rw [h5]; rfl) (web (Or.inr (Or.inr (Or.inl h5))))
  refine br_f (ne 5 (by omega) h5) ?_
  by_cases h6 : k = 6
  · exact br_t (by rw [h6]; rfl) (web (Or.inr (Or.inr (Or.inr h6))))
  refine br_f (ne 6 (by omega) h6) ?_
  have h7 : k = 7 := by omega
  subst h7
  exact br_t rfl (wy_c hw c hp (fun S1 _ k1 => hq S1 k1))
theorem perN_s {S : St} {g : Gp} {p k : Nat} {Q : Int32 → St → Prop} (hw : WFg g) (c : CM S g) (hp : p < gN g) (hk : k ≤ 7) (hq : ∀ S1, KM S S1 → Q (pev g p k) S1) : p_X7_personNow (nI p) (nI k) S Q := by
  have h9 := hw.1
  have h2' := two_le h9
  have ne : ∀ b, b ≤ 7 → k ≠ b → ¬ nI k = nI b := fun b hb h => lit_ne (by omega) (by omega) h
  refine lay_m hw c (fun S1 m1 k1 => ?_)
  have c1 := c.km k1
  have h' := hq S1 k1
  have hb1 : ∀ m, m < 512 → Q (nI (b1 m p)) S1 → p_X7_has (nI m) (nI p) S1 (fun r15 S14 => ((r15 = 0) → Q 0 S14) ∧ ((¬ (r15 = 0)) → Q 1 S14)) := fun m hm hx => by
    by_cases hb : m.testBit p = true
    · rw [b1_t hb] at hx
      exact hasM_t (by omega) (by omega) hb (br_f n10 hx)
    · rw [b1_n hb] at hx
      exact hasM_f (by omega) (by omega) (bool_f hb) (br_t rfl hx)
  by_cases h0 : k = 0
  · subst h0
    refine br_t rfl ⟨vp_in_nI (by omega) (by decide), ?_⟩
    rw [nI_clamp (by omega), c1.2.2.1 p hp]; exact h'
  refine br_f (ne 0 (by omega) h0) ?_
  by_cases h1 : k = 1
  · subst h1
    refine br_t rfl ⟨vp_in_nI (by omega) (by decide), ?_⟩
    rw [nI_clamp (by omega), m1.1.1 p hp]; exact h'
  refine br_f (ne 1 (by omega) h1) ?_
  by_cases h2 : k = 2
  · subst h2
    refine br_t rfl ⟨vp_in_nI (by omega) (by decide), ?_⟩
    rw [nI_clamp (by omega), m1.1.2 p hp]; exact h'
  refine br_f (ne 2 (by omega) h2) ?_
  by_cases h3 : k = 3
  · subst h3
    refine br_t rfl ⟨vp_in_nI (by omega) (by decide), ?_⟩
    rw [nI_clamp (by omega), c1.2.2.2.1 p hp]
    exact size_s (by have := hw.v512 hp; omega) h'
  refine br_f (ne 3 (by omega) h3) ?_
  by_cases h4 : k = 4
  · subst h4
    exact br_t rfl (voM_s hw c1 (by omega) h')
  refine br_f (ne 4 (by omega) h4) ?_
  by_cases h5 : k = 5
  · subst h5
    exact br_t rfl (allin_s hw c1.1 m1 (hb1 _ (lt_512 (inn_lt _ _) h9) h'))
  refine br_f (ne 5 (by omega) h5) ?_
  by_cases h6 : k = 6
  · subst h6
    exact br_t rfl (tak_m hw c1 m1.1 (hb1 _ (lt_512 (mkm_lt _ _) h9) h'))
  refine br_f (ne 6 (by omega) h6) ?_
  have h7 : k = 7 := by omega
  subst h7
  have h'' : Q (wyv g p) S1 := h'
  have hkp := hw.2.2.2.1 p hp
  refine ⟨vp_in_nI (by omega) (by decide), ?_⟩
  rw [nI_clamp (by omega), c1.2.2.1 p hp]
  unfold wyv at h''
  by_cases hk1 : gK g p = 1
  · rw [if_pos hk1] at h''
    exact ne_f (by rw [hk1]; rfl) h''
  · rw [if_neg hk1] at h''
    refine ne_t (lit_ne (b := 1) (by omega) (by omega) hk1) (apN_s hw c1 hp ?_)
    unfold apv
    rw [if_neg hk1]
    obtain ⟨X, x1, x2, -⟩ := ap_x hw hp hk1
    rw [x2, show X + 1 - 1 = X by omega] at h''
    rw [x2, nI_pred]
    exact size_s (by omega) h''
theorem ok_person (x y : Int32) : OpOK (p_X6_person x y) (p_X7_person x y) := by
  refine op_ro (fun g hw => ?_)
  have h9 := hw.1
  rcases rg_split x (gN g) with ⟨p, hp, rfl⟩ | hx
  · rcases wi_split y 0 7 with ⟨k, -, hk, rfl⟩ | hy
    · exact ⟨pev g p k, fun S Q c h => per_c hw c hp hk h, fun S Q c h => isP_t c.1 h9 hp (ne_t n10 (wi_t (a := 0) (b := 7) rfl (by omega) hk (by omega) (br_f n10 (perN_s hw c hp hk h))))⟩
    · refine ⟨-102, fun S Q c h => has_t c.1 h9 hp (ne_t n10 ?_), fun S Q c h => isP_t c.1 h9 hp (ne_t n10 (wi_f (a := 0) (b := 7) (by omega) (by omega) hy (br_t rfl (h S (KM.rf S)))))⟩
      by_cases hn : y < 0
      · exact br_t hn (h S (KC.rf S))
      · refine br_f hn (br_f (fun z => ?_) (h S (KC.rf S)))
        obtain ⟨j, j1, j2⟩ := rng_of (n := 8) (by omega) hn (fun u => by
          have := Int32.le_trans u z
          exact absurd this (by decide))
        exact hy j (by omega) (by omega) j2
  · exact ⟨-101, fun S Q c h => has_f c.1 h9 hx (ne_f rfl (h S (KC.rf S))), fun S Q c h => isP_f c.1 h9 hx (ne_f rfl (h S (KM.rf S)))⟩
