/-! ===== the digest of the reference ===== -/
theorem mix_s {S : St} {r : Int32} {h : Int64} {Q : St → Prop} (hh : S.2 25 29 = h) (hq : ∀ S1, KM0 S S1 → S1.2 25 29 = ad h r → Q S1) : p_X7_mix r.toInt64 S Q := by
  intro S1 e
  refine hq S1 ?_ ?_
  · rw [e]; exact KM0.rf S
  · rw [e, cJ_s, updL_s, hh]; rfl
theorem nim1 {n : Nat} (h : n ≤ 1000) : nI n ≠ -1 := by
  intro e
  have := ni_nneg (a := n) (by omega)
  rw [e] at this
  exact this (by decide)
theorem n48 (k : Nat) : (48 : Int32) + nI k = nI (48 + k) := by rw [show (48 : Int32) = nI 48 from rfl, nI_add]
theorem txV_ne (m : Nat) : ∀ w, w ≤ 9 → ∀ x, x ∈ txV m w → x ≠ -1
  | 0, _, x, hx => by cases hx
  | w + 1, h, x, hx => by
    rw [txV] at hx
    rcases List.mem_append.mp hx with hx | hx
    · exact txV_ne m w (by omega) x hx
    · split at hx
      · rcases List.mem_cons.mp hx with rfl | hx
        · decide
        · rw [List.mem_singleton.mp hx, n48]; exact nim1 (by omega)
      · cases hx
theorem txK_ne (k : Nat) : ∀ x, x ∈ txK k → x ≠ -1 := by
  intro x hx
  unfold txK at hx
  split at hx
  · rw [List.mem_singleton.mp hx]; decide
  · split at hx
    · rw [List.mem_singleton.mp hx]; decide
    · cases hx
theorem txP_ne {g : Gp} (hw : WFg g) : ∀ p, ∀ x, x ∈ txP g p → x ≠ -1
  | 0, x, hx => by cases hx
  | p + 1, x, hx => by
    rw [txP] at hx
    rcases List.mem_append.mp hx with hx | hx
    · exact txP_ne hw p x hx
    · rcases List.mem_append.mp hx with hx | hx
      · split at hx
        · cases hx
        · rw [List.mem_singleton.mp hx]; decide
      · rcases List.mem_append.mp hx with hx | hx
        · exact txK_ne _ x hx
        · exact txV_ne _ _ hw.1 x hx
theorem txB_ne {g : Gp} (hw : WFg g) : ∀ i, i ≤ gB g → ∀ x, x ∈ txB g i → x ≠ -1
  | 0, _, x, hx => by cases hx
  | i + 1, h, x, hx => by
    rw [txB] at hx
    rcases List.mem_append.mp hx with hx | hx
    · exact txB_ne hw i (by omega) x hx
    · have := hw.2.2.2.2.2.1 i (by omega)
      rw [List.mem_singleton.mp hx, n48]; exact nim1 (by omega)
theorem txt_ne {g : Gp} (hw : WFg g) : ∀ x, x ∈ txt g → x ≠ -1 := by
  intro x hx
  have h9 := hw.1
  unfold txt txH at hx
  rcases List.mem_append.mp hx with hx | hx
  · rcases List.mem_append.mp hx with hx | hx
    · rcases List.mem_append.mp hx with hx | hx
      · rcases List.mem_cons.mp hx with rfl | hx
        · rw [n48]; exact nim1 (by omega)
        · rw [List.mem_singleton.mp hx]; decide
      · exact txB_ne hw _ (Nat.le_refl _) x hx
    · rw [List.mem_singleton.mp hx]; decide
  · exact txP_ne hw _ x hx
theorem inkD_m {S : St} {g : Gp} {h : Int64} {Q : St → Prop} (hw : WFg g) (c : CM S g) (hh : S.2 25 29 = h) (hq : ∀ S1, KM0 S S1 → S1.2 25 29 = dgI g h → Q S1) : p_X7_mixInk S Q := by
  have hlen := txt_len hw
  refine Lq_rel (txt g).length (fun i a => ∃ S1, a = (nI i, S1) ∧ KM0 S S1 ∧ S1.2 25 29 = fo (fun i => (txt g).getD i 0) h i) ?_ ?_ 0 _ (by omega) ⟨S, rfl, KM0.rf S, hh⟩
  · rintro i a hi ⟨S1, rfl, k1, e1⟩ K hK
    have c1 := c.km0 k1
    have ht : tch (txt g) i = (txt g).getD i 0 := by unfold tch; rw [if_pos hi]
    refine inkN_s (by omega) hw c1 (fun S2 k2 => br_f ?_ (inkN_s (by omega) hw (c1.km k2) (fun S3 k3 => mix_s (k3.2.trans (k2.2.trans e1)) (fun S4 k4 e4 => ?_))))
    · rw [ht, List.getD_eq_getElem?_getD, List.getElem?_eq_getElem hi]
      exact txt_ne hw _ (List.getElem_mem hi)
    · show K (_, _)
      rw [nI_1]
      refine hK _ ⟨S4, rfl, ((k1.tr k2.1).tr k3.1).tr k4, ?_⟩
      rw [e4, ht]; rfl
  · rintro a ⟨S1, rfl, k1, e1⟩ K
    refine inkN_s (by omega) hw (c.km0 k1) (fun S2 k2 => br_t ?_ (hq S2 (k1.tr k2.1) (k2.2.trans e1)))
    unfold tch; rw [if_neg (by omega)]
theorem persD_m {S : St} {g : Gp} {h : Int64} {Q : St → Prop} (hw : WFg g) (c : CM S g) (hh : S.2 25 29 = h) (hq : ∀ S1, KM0 S S1 → S1.2 25 29 = dgP g h → Q S1) : p_X7_mixPersons S Q := by
  have h9 := hw.1
  refine Lq_rel 8 (fun i a => ∃ S1, a = (nI i, S1) ∧ KM0 S S1 ∧ S1.2 25 29 = fo (abv g) h i) ?_ ?_ 0 _ (by omega) ⟨S, rfl, KM0.rf S, hh⟩
  · rintro i a hi ⟨S1, rfl, k1, e1⟩ K hK
    refine br_f (le_f (a := 8) (by omega) (by omega)) (aboutN_s hw (c.km0 k1) (by omega) (fun S2 k2 => mix_s (k2.2.trans e1) (fun S3 k3 e3 => ?_)))
    show K (_, _)
    rw [nI_1]
    exact hK _ ⟨S3, rfl, (k1.tr k2.1).tr k3, e3⟩
  · rintro a ⟨S1, rfl, k1, e1⟩ K
    refine br_t (le_t (a := 8) (by omega) (by omega)) ?_
    refine Lq_rel (gN g) (fun i a => ∃ S2, a = (nI i, S2) ∧ KM0 S S2 ∧ S2.2 25 29 = fl (dgq g) (fo (abv g) h 8) i) ?_ ?_ 0 _ (by omega) ⟨S1, rfl, k1, e1⟩
    · rintro i a hi ⟨S2, rfl, k2, e2⟩ K2 hK2
      refine br_f (by rw [(c.km0 k2).1]; exact le_f (by omega) hi) ?_
      refine Lq_rel 8 (fun j a => ∃ S3, a = (nI i, nI j, S3) ∧ KM0 S S3 ∧ S3.2 25 29 = fo (pev g i) (fl (dgq g) (fo (abv g) h 8) i) j) ?_ ?_ 0 _ (by omega) ⟨S2, rfl, k2, e2⟩
      · rintro j a hj ⟨S3, rfl, k3, e3⟩ K3 hK3
        refine br_f (le_f (a := 8) (by omega) (by omega)) (perN_s hw (c.km0 k3) hi (by omega) (fun S4 k4 => mix_s (k4.2.trans e3) (fun S5 k5 e5 => ?_)))
        show K3 (_, _, _)
        rw [nI_1]
        exact hK3 _ ⟨S5, rfl, (k3.tr k4.1).tr k5, e5⟩
      · rintro a ⟨S3, rfl, k3, e3⟩ K3
        refine br_t (le_t (a := 8) (by omega) (by omega)) (apN_s hw (c.km0 k3) hi (mix_s e3 (fun S4 k4 e4 => ?_)))
        show K2 (_, _)
        rw [nI_1]
        exact hK2 _ ⟨S4, rfl, k3.tr k4, e4⟩
    · rintro a ⟨S2, rfl, k2, e2⟩ K2
      exact br_t (by rw [(c.km0 k2).1]; exact le_t (by omega) (Nat.le_refl _)) (genN_s hw (c.km0 k2) (mix_s e2 (fun S3 k3 e3 => hq S3 (k2.tr k3) e3)))
theorem truD_m {S : St} {g : Gp} {h : Int64} {Q : St → Prop} (hw : WFg g) (c : CM S g) (hh : S.2 25 29 = h) (hq : ∀ S1, KM0 S S1 → S1.2 25 29 = dgT g h → Q S1) : p_X7_mixTrust S Q := by
  have h9 := hw.1
  refine Lq_rel 5 (fun i a => ∃ S1, a = (nI i, S1) ∧ KM0 S S1 ∧ S1.2 25 29 = fo (tru g) h i) ?_ ?_ 0 _ (by omega) ⟨S, rfl, KM0.rf S, hh⟩
  · rintro i a hi ⟨S1, rfl, k1, e1⟩ K hK
    refine br_f (le_f (a := 5) (by omega) (by omega)) (trustN_s hw (c.km0 k1) (by omega) (fun S2 k2 => mix_s (k2.2.trans e1) (fun S3 k3 e3 => ?_)))
    show K (_, _)
    rw [nI_1]
    exact hK _ ⟨S3, rfl, (k1.tr k2.1).tr k3, e3⟩
  · rintro a ⟨S1, rfl, k1, e1⟩ K
    refine br_t (le_t (a := 5) (by omega) (by omega)) ?_
    refine Lq_rel 3 (fun i a => ∃ S2, a = (nI i, S2) ∧ KM0 S S2 ∧ S2.2 25 29 = fo (ctv g) (fo (tru g) h 5) i) ?_ ?_ 0 _ (by omega) ⟨S1, rfl, k1, e1⟩
    · rintro i a hi ⟨S2, rfl, k2, e2⟩ K2 hK2
      refine br_f (le_f (a := 3) (by omega) (by omega)) (cutN_s hw (c.km0 k2) (by omega) (fun S3 k3 => mix_s (k3.2.trans e2) (fun S4 k4 e4 => ?_)))
      show K2 (_, _)
      rw [nI_1]
      exact hK2 _ ⟨S4, rfl, (k2.tr k3.1).tr k4, e4⟩
    · rintro a ⟨S2, rfl, k2, e2⟩ K2
      refine br_t (le_t (a := 3) (by omega) (by omega)) (deN_s hw (c.km0 k2) (fun S3 k3 => mix_s (k3.2.trans e2) (fun S4 k4 e4 => ?_)))
      have k24 := (k2.tr k3.1).tr k4
      have e4 : S4.2 25 29 = dgU g h := e4
      unfold dgT at hq
      by_cases e : dea g = -1
      · rw [if_pos e] at hq
        exact Lq_rel 0 (fun i a => a = (dea g, nI i, S4)) (fun i a hi => absurd hi (Nat.not_lt_zero _)) (by
          rintro a rfl K3
          exact br_f (by decide) (br_t e (hq S4 k24 e4))) 0 _ (Nat.le_refl _) rfl
      · rw [if_neg e] at hq
        obtain ⟨j, ej, q1, q2, hp, hq9, hpq, hv⟩ := dea_ok hw e
        rw [ej, Nat.add_sub_cancel] at hq
        refine Lq_rel 3 (fun i a => ∃ S5, a = (dea g, nI i, S5) ∧ KM0 S S5 ∧ S5.2 25 29 = fo (wov g (j / 10) (j % 10)) (dgU g h) i) ?_ ?_ 0 _ (by omega) ⟨S4, rfl, k24, e4⟩
        · rintro i a hi ⟨S5, rfl, k5, e5⟩ K3 hK3
          refine br_f (le_f (a := 3) (by omega) (by omega)) (br_f e ?_)
          rw [q2, q1]
          refine woN_s hw (c.km0 k5) hp hq9 (by omega) (fun S6 k6 => mix_s (k6.2.trans e5) (fun S7 k7 e7 => ?_))
          show K3 (_, _, _)
          rw [nI_1]
          exact hK3 _ ⟨S7, rfl, (k5.tr k6.1).tr k7, e7⟩
        · rintro a ⟨S5, rfl, k5, e5⟩ K3
          exact br_t (le_t (a := 3) (by omega) (by omega)) (hq S5 k5 e5)
theorem wlkD_m {S : St} {g : Gp} {h : Int64} {k : Nat} {Q : St → Prop} (hw : WFg g) (c : CM S g) (h0 : sdm g ≠ 0) (hk : k ≤ 4) (hh : S.2 25 29 = h) (hq : ∀ S1, KM0 S S1 → S1.2 25 29 = dgw g k h → Q S1) : p_X7_mixWalk (nI k) S Q := by
  have h9 := hw.1
  refine Lq_rel (gN g) (fun p a => ∃ S1, a = (nI k, nI p, S1) ∧ KM0 S S1 ∧ S1.2 25 29 = fl (dgx g k) h p) ?_ ?_ 0 _ (by omega) ⟨S, rfl, KM0.rf S, hh⟩
  · rintro p a hp ⟨S1, rfl, k1, e1⟩ K hK
    have c1 := c.km0 k1
    refine br_f (by rw [c1.1]; exact le_f (by omega) hp) (cnow_s (w := 0) hw h0 hk (by omega) hp c1 (fun S2 k2 => mix_s (k2.2.trans e1) (fun S3 k3 e3 => ?_)))
    have c3 := (c1.km k2).km0 k3
    refine cnow_s (w := 1) hw h0 hk (by omega) hp c3 (fun S4 k4 => mix_s (k4.2.trans e3) (fun S5 k5 e5 => ?_))
    have c5 := (c3.km k4).km0 k5
    refine tnow_s hw h0 hk hp c5 (fun S6 k6 => mix_s (k6.2.trans e5) (fun S7 k7 e7 => ?_))
    show K (_, _, _)
    rw [nI_1]
    exact hK _ ⟨S7, rfl, ((((((k1.tr k2.1).tr k3).tr k4.1).tr k5).tr k6.1).tr k7), e7⟩
  · rintro a ⟨S1, rfl, k1, e1⟩ K
    refine br_t (by rw [(c.km0 k1).1]; exact le_t (by omega) (Nat.le_refl _)) ?_
    refine Lq_rel (gN g) (fun y a => ∃ S2, a = (nI k, nI y, S2) ∧ KM0 S S2 ∧ S2.2 25 29 = fo (fun y => nI (ordv g k y)) (fl (dgx g k) h (gN g)) y) ?_ ?_ 0 _ (by omega) ⟨S1, rfl, k1, e1⟩
    · rintro y a hy ⟨S2, rfl, k2, e2⟩ K2 hK2
      have c2 := c.km0 k2
      obtain ⟨o1, o2⟩ := ordv_ok (g := g) (k := k) hy
      refine br_f (by rw [c2.1]; exact le_f (by omega) hy) (onow_s hw h0 hk c2 o1 o2 (fun S3 k3 => mix_s (k3.2.trans e2) (fun S4 k4 e4 => ?_)))
      show K2 (_, _, _)
      rw [nI_1]
      exact hK2 _ ⟨S4, rfl, (k2.tr k3.1).tr k4, e4⟩
    · rintro a ⟨S2, rfl, k2, e2⟩ K2
      exact br_t (by rw [(c.km0 k2).1]; exact le_t (by omega) (Nat.le_refl _)) (hq S2 k2 e2)
theorem endD_m {S : St} {g : Gp} {h : Int64} {Q : Int64 → St → Prop} (hw : WFg g) (c : CM S g) (hh : S.2 25 29 = h) (hq : ∀ S1, KM0 S S1 → Q (dgE g h) S1) : p_X7_digest_51 Q S := by
  have hP : gP g ≤ 110 := hw.2.2.2.2.2.2.2
  refine Lq_rel (gP g) (fun i a => ∃ S1, a = (nI i, S1) ∧ KM0 S S1 ∧ S1.2 25 29 = fo (gQ g) h i) ?_ ?_ 0 _ (by omega) ⟨S, rfl, KM0.rf S, hh⟩
  · rintro i a hi ⟨S1, rfl, k1, e1⟩ K hK
    have c1 := c.km0 k1
    refine br_f (by rw [c1.2.2.2.2.2.1]; exact le_f (by omega) hi) ⟨vp_in_nI (by omega) (by decide), ?_⟩
    rw [nI_clamp (by omega), c1.2.2.2.2.2.2.1 i hi]
    refine mix_s e1 (fun S2 k2 e2 => ?_)
    show K (_, _)
    rw [nI_1]
    exact hK _ ⟨S2, rfl, k1.tr k2, e2⟩
  · rintro a ⟨S1, rfl, k1, e1⟩ K
    refine br_t (by rw [(c.km0 k1).2.2.2.2.2.1]; exact le_t (by omega) (Nat.le_refl _)) ?_
    refine Lq_rel 5 (fun i a => ∃ S2, a = (nI i, S2) ∧ KM0 S S2 ∧ S2.2 25 29 = fo (fun k => cntv g (nI k)) (fo (gQ g) h (gP g)) i) ?_ ?_ 0 _ (by omega) ⟨S1, rfl, k1, e1⟩
    · rintro i a hi ⟨S2, rfl, k2, e2⟩ K2 hK2
      refine br_f (le_f (a := 5) (by omega) (by omega)) (hm_s (c.km0 k2) (mix_s e2 (fun S3 k3 e3 => ?_)))
      show K2 (_, _)
      rw [nI_1]
      exact hK2 _ ⟨S3, rfl, k2.tr k3, e3⟩
    · rintro a ⟨S2, rfl, k2, e2⟩ K2
      refine br_t (le_t (a := 5) (by omega) (by omega)) ?_
      rw [e2]; exact hq S2 k2
theorem dig_m {S : St} {g : Gp} {Q : Int64 → St → Prop} (hw : WFg g) (c : CM S g) (hq : ∀ S1, KM0 S S1 → Q (dig g) S1) : p_X7_digest S Q := by
  have e26 : ∀ S1 h, KM0 S S1 → S1.2 25 29 = h → (dgE g (dgS g h) = dig g) → p_X7_digest_26 Q S1 := by
    intro S1 h k1 hh e
    have c1 := c.km0 k1
    unfold dgS at e
    by_cases z : sdm g = 0
    · rw [if_pos z] at e
      exact Lq_rel 0 (fun i a => a = (nI i, S1)) (fun i a hi => absurd hi (Nat.not_lt_zero _)) (by
        rintro a rfl K3
        refine br_f (by decide) (are_f hw c1 z (br_t rfl (endD_m hw c1 hh (fun S2 k2 => ?_))))
        rw [e]; exact hq S2 (k1.tr k2)) 0 _ (Nat.le_refl _) rfl
    · rw [if_neg z] at e
      refine Lq_rel 5 (fun k a => ∃ S2, a = (nI k, S2) ∧ KM0 S S2 ∧ S2.2 25 29 = fl (dgw g) h k) ?_ ?_ 0 _ (by omega) ⟨S1, rfl, k1, hh⟩
      · rintro k a hk ⟨S2, rfl, k2, e2⟩ K hK
        have c2 := c.km0 k2
        refine br_f (lt_f (a := 4) (by omega) (by omega)) (are_t hw c2 z (br_f n10 (wlkD_m hw c2 z (by omega) e2 (fun S3 k3 e3 => ?_))))
        show K (_, _)
        rw [nI_1]
        exact hK _ ⟨S3, rfl, k2.tr k3, e3⟩
      · rintro a ⟨S2, rfl, k2, e2⟩ K
        refine br_t (lt_t (a := 4) (by omega) (by omega)) (endD_m hw (c.km0 k2) e2 (fun S3 k3 => ?_))
        rw [e]; exact hq S3 (k2.tr k3)
  intro S1 e1
  have k1 : KM0 S S1 := by rw [e1]; exact KM0.rf S
  have hh : S1.2 25 29 = 1553 := by rw [e1, cJ_s, updL_s]
  have c1 := c.km0 k1
  by_cases h0 : gN g = 0
  · exact isC_f (by rw [c1.1, h0]) (br_t rfl (e26 S1 1553 k1 hh (by unfold dig; rw [if_pos h0])))
  · refine isC_t c1.1 hw.1 (by omega) (br_f n10 (inkD_m hw c1 hh (fun S2 k2 e2 => persD_m hw (c1.km0 k2) e2 (fun S3 k3 e3 => truD_m hw ((c1.km0 k2).km0 k3) e3 (fun S4 k4 e4 => e26 S4 _ (((k1.tr k2).tr k3).tr k4) e4 ?_)))))
    unfold dig; rw [if_neg h0]
theorem CC.km0 {S S1 : St} {g : Gp} (h : CC S g) (k : KM0 S S1) : CC S1 g := by
  obtain ⟨k1, k2⟩ := k
  unfold CC at *
  rw [k1 2 (by omega), k1 4 (by omega), k1 5 (by omega), k1 3 (by omega), k1 0 (by omega), k1 1 (by omega)]
  exact h
