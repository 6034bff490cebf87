/-! ===== the digest: its value, and the class ===== -/
def ad (h : Int64) (r : Int32) : Int64 := 31 * h + r.toInt64
def fo (f : Nat → Int32) (h : Int64) : Nat → Int64
  | 0 => h
  | n + 1 => ad (fo f h n) (f n)
def fl (f : Nat → Int64 → Int64) (h : Int64) : Nat → Int64
  | 0 => h
  | n + 1 => f n (fl f h n)
noncomputable def ordv (g : Gp) (k y : Nat) : Nat := if h : y < gN g then Classical.choose (rnk_onto (f := chg g k) h) else 0
theorem ordv_ok {g : Gp} {k y : Nat} (h : y < gN g) : ordv g k y < gN g ∧ rnk (gN g) (chg g k) (ordv g k y) = y := by
  unfold ordv; rw [dif_pos h]; exact Classical.choose_spec (rnk_onto (f := chg g k) h)
def dgI (g : Gp) (h : Int64) : Int64 := fo (fun i => (txt g).getD i 0) h (txt g).length
def dgq (g : Gp) (p : Nat) (h : Int64) : Int64 := ad (fo (pev g p) h 8) (apv g p)
def dgP (g : Gp) (h : Int64) : Int64 := ad (fl (dgq g) (fo (abv g) h 8) (gN g)) (nI (gen g (gN g)) - 1)
def dgU (g : Gp) (h : Int64) : Int64 := ad (fo (ctv g) (fo (tru g) h 5) 3) (dea g)
def dgT (g : Gp) (h : Int64) : Int64 := if dea g = -1 then dgU g h else fo (wov g (((dee g 100).1 - 1) / 10) (((dee g 100).1 - 1) % 10)) (dgU g h) 3
def dgx (g : Gp) (k p : Nat) (h : Int64) : Int64 := ad (ad (ad h (cgv g p k 0)) (cgv g p k 1)) (tsv g p k)
noncomputable def dgw (g : Gp) (k : Nat) (h : Int64) : Int64 := fo (fun y => nI (ordv g k y)) (fl (dgx g k) h (gN g)) (gN g)
def dgE (g : Gp) (h : Int64) : Int64 := fo (fun k => cntv g (nI k)) (fo (gQ g) h (gP g)) 5
noncomputable def dgS (g : Gp) (h : Int64) : Int64 := if sdm g = 0 then h else fl (dgw g) h 5
noncomputable def dig (g : Gp) : Int64 := dgE g (dgS g (if gN g = 0 then 1553 else dgT g (dgP g (dgI g 1553))))
theorem dee_ok (g : Gp) : ∀ k, (dee g k).1 ≠ 0 → ∃ j, (dee g k).1 = j + 1 ∧ j < k ∧ dok g j = true
  | 0, h => absurd rfl h
  | k + 1, h => by
    have ih := dee_ok g k
    rw [dee_step] at h ⊢
    by_cases hk : dok g k = true
    · rw [if_pos hk] at h ⊢
      unfold dst at h ⊢
      by_cases hc : (dee g k).1 = 0 ∨ wc g (k / 10) (k % 10) < (dee g k).2
      · rw [if_pos hc]; exact ⟨k, rfl, by omega, hk⟩
      · rw [if_neg hc] at h ⊢
        obtain ⟨j, a, b, d⟩ := ih h
        exact ⟨j, a, by omega, d⟩
    · rw [if_neg hk] at h ⊢
      obtain ⟨j, a, b, d⟩ := ih h
      exact ⟨j, a, by omega, d⟩
/-- what the dearest vouch is -/
theorem dea_ok {g : Gp} (hw : WFg g) (h : ¬ dea g = -1) : ∃ j, (dee g 100).1 = j + 1 ∧ dea g / 10 = nI (j / 10) ∧ dea g - dea g / 10 * 10 = nI (j % 10) ∧ j / 10 < gN g ∧ j % 10 < gN g ∧ j / 10 ≠ j % 10 ∧ (gV g (j / 10)).testBit (j % 10) = true := by
  have hb := (dee_b g 100).1
  have hd0 : (dee g 100).1 ≠ 0 := fun z => h ((pm1 (by omega)).mpr z)
  obtain ⟨j, ej, hj, ok⟩ := dee_ok g 100 hd0
  have ed : dea g = nI j := by unfold dea; rw [ej, nI_pred]
  obtain ⟨q1, q2⟩ := dd10 j hj
  unfold dok at ok
  simp only [Bool.and_eq_true, decide_eq_true_eq] at ok
  obtain ⟨o1, o2, o3⟩ := ok
  refine ⟨j, ej, by rw [ed]; exact q1, by rw [ed]; exact q2, o1, o2, fun e => ?_, o3⟩
  have hs := (hw.2.2.2.2.1 _ o1).2.2
  rw [← e, hs] at o3
  cases o3
theorem add_s {h : Int64} {r : Int32} {S : St} {Q : Int64 → St → Prop} (hq : Q (ad h r) S) : p_X6_add h r S Q := hq
theorem lt_f {a i : Nat} (ha : a ≤ 1000) (h : i ≤ a) : ¬ (nI a < nI i) := by rw [ni_lt (by omega) (by omega)]; omega
theorem lt_t {a i : Nat} (hi : i ≤ 1000) (h : a < i) : nI a < nI i := by rw [ni_lt (by omega) (by omega)]; omega
theorem le_f {a i : Nat} (ha : a ≤ 1000) (h : i < a) : ¬ (nI a ≤ nI i) := by rw [ni_le (by omega) (by omega)]; omega
theorem le_t {a i : Nat} (hi : i ≤ 1000) (h : a ≤ i) : nI a ≤ nI i := by rw [ni_le (by omega) (by omega)]; omega
theorem inkD_c {S : St} {g : Gp} {h : Int64} {Q : Int64 → St → Prop} (hw : WFg g) (c : CC S g) (hq : ∀ S1, KC S S1 → Q (dgI g h) S1) : p_X6_addInk h S Q := by
  have hlen := txt_len hw
  refine write_s hw c (fun S1 t1 k1 => ?_)
  refine Lq_cnt (txt g).length (fun i => (fo (fun i => (txt g).getD i 0) h i, nI i, S1)) (fun i hi K hK => ?_) (fun K => ?_)
  · refine br_f (by rw [t1.1]; exact le_f (by omega) hi) ⟨vp_in_nI (by omega) (by decide), add_s ?_⟩
    show K (_, _, _)
    rw [nI_clamp (by omega), t1.2 i hi, nI_1]; exact hK
  · exact br_t (by rw [t1.1]; exact le_t (by omega) (Nat.le_refl _)) (hq S1 k1)
theorem persD_c {S : St} {g : Gp} {h : Int64} {Q : Int64 → St → Prop} (hw : WFg g) (c : CC S g) (hN : 0 < gN g) (hq : ∀ S1, KC S S1 → Q (dgP g h) S1) : p_X6_addPersons h S Q := by
  have h9 := hw.1
  refine Lq_rel 8 (fun i a => ∃ S1, a = (fo (abv g) h i, nI i, S1) ∧ KC S S1) ?_ ?_ 0 _ (by omega) ⟨S, rfl, KC.rf S⟩
  · rintro i a hi ⟨S1, rfl, k1⟩ K hK
    refine br_f (lt_f (a := 7) (by omega) (by omega)) (about_c hw (c.kc k1) hN (by omega) (fun S2 k2 => add_s ?_))
    show K (_, _, _)
    rw [nI_1]
    exact hK _ ⟨S2, rfl, k1.tr k2⟩
  · rintro a ⟨S1, rfl, k1⟩ K
    refine br_t (lt_t (a := 7) (by omega) (by omega)) ?_
    refine Lq_rel (gN g) (fun i a => ∃ S2, a = (fl (dgq g) (fo (abv g) h 8) i, nI i, S2) ∧ KC S S2) ?_ ?_ 0 _ (by omega) ⟨S1, rfl, k1⟩
    · rintro i a hi ⟨S2, rfl, k2⟩ K2 hK2
      refine br_f (by rw [(c.kc k2).1]; exact le_f (by omega) hi) ?_
      refine Lq_rel 8 (fun j a => ∃ S3, a = (fo (pev g i) (fl (dgq g) (fo (abv g) h 8) i) j, nI i, nI j, S3) ∧ KC S S3) ?_ ?_ 0 _ (by omega) ⟨S2, rfl, k2⟩
      · rintro j a hj ⟨S3, rfl, k3⟩ K3 hK3
        refine br_f (lt_f (a := 7) (by omega) (by omega)) (per_c hw (c.kc k3) hi (by omega) (fun S4 k4 => add_s ?_))
        show K3 (_, _, _, _)
        rw [nI_1]
        exact hK3 _ ⟨S4, rfl, k3.tr k4⟩
      · rintro a ⟨S3, rfl, k3⟩ K3
        refine br_t (lt_t (a := 7) (by omega) (by omega)) (ap_c hw (c.kc k3) hi (fun S4 k4 => add_s ?_))
        show K2 (_, _, _)
        rw [nI_1]
        exact hK2 _ ⟨S4, rfl, k3.tr k4⟩
    · rintro a ⟨S2, rfl, k2⟩ K2
      refine br_t (by rw [(c.kc k2).1]; exact le_t (by omega) (Nat.le_refl _)) (gen_c hw (c.kc k2) hN (add_s ?_))
      exact hq S2 k2
theorem truD_c {S : St} {g : Gp} {h : Int64} {Q : Int64 → St → Prop} (hw : WFg g) (c : CC S g) (hN : 0 < gN g) (hq : ∀ S1, KC S S1 → Q (dgT g h) S1) : p_X6_addTrust h S Q := by
  have h9 := hw.1
  refine Lq_rel 5 (fun i a => ∃ S1, a = (fo (tru g) h i, nI i, S1) ∧ KC S S1) ?_ ?_ 0 _ (by omega) ⟨S, rfl, KC.rf S⟩
  · rintro i a hi ⟨S1, rfl, k1⟩ K hK
    refine br_f (lt_f (a := 4) (by omega) (by omega)) (trust_c hw (c.kc k1) hN (by omega) (fun S2 k2 => add_s ?_))
    show K (_, _, _)
    rw [nI_1]
    exact hK _ ⟨S2, rfl, k1.tr k2⟩
  · rintro a ⟨S1, rfl, k1⟩ K
    refine br_t (lt_t (a := 4) (by omega) (by omega)) ?_
    refine Lq_rel 3 (fun i a => ∃ S2, a = (fo (ctv g) (fo (tru g) h 5) i, nI i, S2) ∧ KC S S2) ?_ ?_ 0 _ (by omega) ⟨S1, rfl, k1⟩
    · rintro i a hi ⟨S2, rfl, k2⟩ K2 hK2
      refine br_f (lt_f (a := 2) (by omega) (by omega)) (cut_c hw (c.kc k2) hN (by omega) (fun S3 k3 => add_s ?_))
      show K2 (_, _, _)
      rw [nI_1]
      exact hK2 _ ⟨S3, rfl, k2.tr k3⟩
    · rintro a ⟨S2, rfl, k2⟩ K2
      refine br_t (lt_t (a := 2) (by omega) (by omega)) (dea_c hw (c.kc k2) hN (fun S3 k3 => add_s ⟨fun e => ?_, fun e => ?_⟩))
      · unfold dgT at hq
        rw [if_pos e] at hq; exact hq S3 (k2.tr k3)
      · unfold dgT at hq
        rw [if_neg e] at hq
        obtain ⟨j, ej, q1, q2, hp, hq9, hpq, hv⟩ := dea_ok hw e
        rw [ej, Nat.add_sub_cancel] at hq
        refine Lq_rel 3 (fun i a => ∃ S4, a = (fo (wov g (j / 10) (j % 10)) (dgU g h) i, dea g, nI i, S4) ∧ KC S S4) ?_ ?_ 0 _ (by omega) ⟨S3, rfl, k2.tr k3⟩
        · rintro i a hi ⟨S4, rfl, k4⟩ K3 hK3
          refine br_f (lt_f (a := 2) (by omega) (by omega)) ?_
          rw [q2, q1]
          refine wo_c hw (c.kc k4) hp hq9 hpq hv (by omega) (fun S5 k5 => add_s ?_)
          show K3 (_, _, _, _)
          rw [nI_1]
          exact hK3 _ ⟨S5, rfl, k4.tr k5⟩
        · rintro a ⟨S4, rfl, k4⟩ K3
          exact br_t (lt_t (a := 2) (by omega) (by omega)) (hq S4 k4)
theorem wlkD_c {S : St} {g : Gp} {h : Int64} {Q : Int64 → St → Prop} (hw : WFg g) (c : CC S g) (h0 : sdm g ≠ 0) (hq : ∀ S1, KC S S1 → Q (fl (dgw g) h 5) S1) : p_X6_addWalks h S Q := by
  have h9 := hw.1
  refine Lq_rel 5 (fun k a => ∃ S1, a = (fl (dgw g) h k, nI k, S1) ∧ KC S S1) ?_ ?_ 0 _ (by omega) ⟨S, rfl, KC.rf S⟩
  · rintro k a hk ⟨S1, rfl, k1⟩ K hK
    refine br_f (lt_f (a := 4) (by omega) (by omega)) (go_s hw (by omega) h0 (c.kc k1) (fun S2 w2 k2 => ?_))
    have c2 := c.kc (k1.tr k2)
    refine Lq_cnt (gN g) (fun p => (fl (dgx g k) (fl (dgw g) h k) p, nI k, nI p, S2)) (fun p hp K2 hK2 => ?_) (fun K2 => ?_)
    · refine br_f (by rw [c2.1]; exact le_f (by omega) hp) (num_s hw h0 (by omega) hp w2 (add_s (den_s hw h0 (by omega) hp w2 (add_s (thp_s hw h0 (by omega) hp w2 (add_s ?_))))))
      show K2 (_, _, _, _)
      rw [nI_1]; exact hK2
    · refine br_t (by rw [c2.1]; exact le_t (by omega) (Nat.le_refl _)) ?_
      refine Lq_cnt (gN g) (fun y => (fo (fun y => nI (ordv g k y)) (fl (dgx g k) (fl (dgw g) h k) (gN g)) y, nI k, nI y, S2)) (fun y hy K3 hK3 => ?_) (fun K3 => ?_)
      · obtain ⟨o1, o2⟩ := ordv_ok (g := g) (k := k) hy
        refine br_f (by rw [c2.1]; exact le_f (by omega) hy) (pat_s hw h0 (by omega) w2 o1 o2 (add_s ?_))
        show K3 (_, _, _, _)
        rw [nI_1]; exact hK3
      · refine br_t (by rw [c2.1]; exact le_t (by omega) (Nat.le_refl _)) ?_
        show K (_, _, _)
        rw [nI_1]; exact hK _ ⟨S2, rfl, k1.tr k2⟩
  · rintro a ⟨S1, rfl, k1⟩ K
    exact br_t (lt_t (a := 4) (by omega) (by omega)) (hq S1 k1)
theorem endD_c {S : St} {g : Gp} {h : Int64} {Q : Int64 → St → Prop} (hw : WFg g) (c : CC S g) (hq : Q (dgE g h) S) : p_X6_digest_49 Q h S := by
  have hP : gP g ≤ 110 := hw.2.2.2.2.2.2.2
  refine Lq_cnt (gP g) (fun i => (fo (gQ g) h i, nI i, S)) (fun i hi K hK => ?_) (fun K => ?_)
  · refine br_f (by rw [c.2.2.2.2.2.1]; exact le_f (by omega) hi) ⟨vp_in_nI (by omega) (by decide), add_s ?_⟩
    show K (_, _, _)
    rw [nI_clamp (by omega), c.2.2.2.2.2.2.1 i hi, nI_1]; exact hK
  · refine br_t (by rw [c.2.2.2.2.2.1]; exact le_t (by omega) (Nat.le_refl _)) ?_
    refine Lq_cnt 5 (fun i => (fo (fun k => cntv g (nI k)) (fo (gQ g) h (gP g)) i, nI i, S)) (fun i hi K2 hK2 => ?_) (fun K2 => ?_)
    · refine br_f (lt_f (a := 4) (by omega) (by omega)) (cnt_s c (add_s ?_))
      show K2 (_, _, _)
      rw [nI_1]; exact hK2
    · exact br_t (lt_t (a := 4) (by omega) (by omega)) hq
theorem dig_c {S : St} {g : Gp} {Q : Int64 → St → Prop} (hw : WFg g) (c : CC S g) (hq : ∀ S1, KC S S1 → Q (dig g) S1) : p_X6_digest S Q := by
  have e32 : ∀ S1 h, KC S S1 → (dgE g (dgS g h) = dig g) → p_X6_digest_32 Q h S1 := by
    intro S1 h k1 e
    have c1 := c.kc k1
    refine sds_c hw c1 ⟨fun z => ?_, fun z => ?_⟩
    · have z : sdm g = 0 := ni_inj (b := 0) (by have := sd_lt hw; omega) (by omega) z
      unfold dgS at e
      rw [if_pos z] at e
      refine endD_c hw c1 ?_
      rw [e]; exact hq S1 k1
    · have z : sdm g ≠ 0 := fun y => z (by rw [y]; rfl)
      unfold dgS at e
      rw [if_neg z] at e
      refine wlkD_c hw c1 z (fun S2 k2 => endD_c hw (c1.kc k2) ?_)
      rw [e]; exact hq S2 (k1.tr k2)
  by_cases h0 : gN g = 0
  · exact ex_f (by rw [c.1, h0]) (br_t rfl (e32 S 1553 (KC.rf S) (by unfold dig; rw [if_pos h0])))
  · exact ex_t c.1 hw.1 (by omega) (br_f n10 (inkD_c hw c (fun S1 k1 => persD_c hw (c.kc k1) (by omega) (fun S2 k2 => truD_c hw (c.kc (k1.tr k2)) (by omega) (fun S3 k3 => e32 S3 _ ((k1.tr k2).tr k3) (by unfold dig; rw [if_neg h0]))))))
