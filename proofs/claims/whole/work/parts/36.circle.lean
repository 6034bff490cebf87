/-! ===== fills; texts read whole ===== -/
theorem fill_8 {x : Int32} {S : St} {Q : St → Prop} (h : ∀ S1 : St, (∀ a, a ≠ 8 → S1.1 a = S.1 a) → S1.2 = S.2 → (∀ j, j < 5 → S1.1 8 j = x) → Q S1) : p_J7_fill_53178_c8 x S Q := by
  refine Lq_rel 5 (fun i a => ∃ S1 : St, a = (x, nI i, nI 5, S1) ∧ (∀ a, a ≠ 8 → S1.1 a = S.1 a) ∧ S1.2 = S.2 ∧ ∀ j, j < i → S1.1 8 j = x) ?_ ?_ 0 _ (by omega) ⟨S, rfl, fun _ _ => rfl, rfl, fun j hj => absurd hj (Nat.not_lt_zero j)⟩
  · rintro i a hi ⟨S1, rfl, h1, h2, h3⟩ K hK
    refine br_f (by rw [ni_le (by omega) (by omega)]; omega) ⟨vp_in_nI hi (by decide), fun S2 e2 => ?_⟩
    rw [nI_clamp (by omega)] at e2
    show K (_, _, _, _)
    rw [nI_1]
    refine hK _ ⟨S2, rfl, fun a ha => ?_, ?_, fun j hj => ?_⟩
    · rw [e2, cI_n ha]; exact h1 a ha
    · rw [e2]; exact h2
    · rw [e2, cI_s]
      by_cases e : j = i
      · rw [e, upd_s]
      · rw [upd_n e]; exact h3 j (by omega)
  · rintro a ⟨S1, rfl, h1, h2, h3⟩ K
    exact br_t (by rw [ni_le (by omega) (by omega)]; omega) (h S1 h1 h2 h3)
theorem fill_9 {x : Int32} {S : St} {Q : St → Prop} (h : ∀ S1 : St, (∀ a, a ≠ 9 → S1.1 a = S.1 a) → S1.2 = S.2 → (∀ j, j < 9 → S1.1 9 j = x) → Q S1) : p_J7_fill_53178_c9 x S Q := by
  refine Lq_rel 9 (fun i a => ∃ S1 : St, a = (x, nI i, nI 9, S1) ∧ (∀ a, a ≠ 9 → S1.1 a = S.1 a) ∧ S1.2 = S.2 ∧ ∀ j, j < i → S1.1 9 j = x) ?_ ?_ 0 _ (by omega) ⟨S, rfl, fun _ _ => rfl, rfl, fun j hj => absurd hj (Nat.not_lt_zero j)⟩
  · rintro i a hi ⟨S1, rfl, h1, h2, h3⟩ K hK
    refine br_f (by rw [ni_le (by omega) (by omega)]; omega) ⟨vp_in_nI hi (by decide), fun S2 e2 => ?_⟩
    rw [nI_clamp (by omega)] at e2
    show K (_, _, _, _)
    rw [nI_1]
    refine hK _ ⟨S2, rfl, fun a ha => ?_, ?_, fun j hj => ?_⟩
    · rw [e2, cI_n ha]; exact h1 a ha
    · rw [e2]; exact h2
    · rw [e2, cI_s]
      by_cases e : j = i
      · rw [e, upd_s]
      · rw [upd_n e]; exact h3 j (by omega)
  · rintro a ⟨S1, rfl, h1, h2, h3⟩ K
    exact br_t (by rw [ni_le (by omega) (by omega)]; omega) (h S1 h1 h2 h3)
theorem fill_10 {x : Int32} {S : St} {Q : St → Prop} (h : ∀ S1 : St, (∀ a, a ≠ 10 → S1.1 a = S.1 a) → S1.2 = S.2 → (∀ j, j < 9 → S1.1 10 j = x) → Q S1) : p_J7_fill_53178_c10 x S Q := by
  refine Lq_rel 9 (fun i a => ∃ S1 : St, a = (x, nI i, nI 9, S1) ∧ (∀ a, a ≠ 10 → S1.1 a = S.1 a) ∧ S1.2 = S.2 ∧ ∀ j, j < i → S1.1 10 j = x) ?_ ?_ 0 _ (by omega) ⟨S, rfl, fun _ _ => rfl, rfl, fun j hj => absurd hj (Nat.not_lt_zero j)⟩
  · rintro i a hi ⟨S1, rfl, h1, h2, h3⟩ K hK
    refine br_f (by rw [ni_le (by omega) (by omega)]; omega) ⟨vp_in_nI hi (by decide), fun S2 e2 => ?_⟩
    rw [nI_clamp (by omega)] at e2
    show K (_, _, _, _)
    rw [nI_1]
    refine hK _ ⟨S2, rfl, fun a ha => ?_, ?_, fun j hj => ?_⟩
    · rw [e2, cI_n ha]; exact h1 a ha
    · rw [e2]; exact h2
    · rw [e2, cI_s]
      by_cases e : j = i
      · rw [e, upd_s]
      · rw [upd_n e]; exact h3 j (by omega)
  · rintro a ⟨S1, rfl, h1, h2, h3⟩ K
    exact br_t (by rw [ni_le (by omega) (by omega)]; omega) (h S1 h1 h2 h3)
theorem fill_16 {x : Int32} {S : St} {Q : St → Prop} (h : ∀ S1 : St, (∀ a, a ≠ 16 → S1.1 a = S.1 a) → S1.2 = S.2 → (∀ j, j < 9 → S1.1 16 j = x) → Q S1) : p_J7_fill_53178_c16 x S Q := by
  refine Lq_rel 9 (fun i a => ∃ S1 : St, a = (x, nI i, nI 9, S1) ∧ (∀ a, a ≠ 16 → S1.1 a = S.1 a) ∧ S1.2 = S.2 ∧ ∀ j, j < i → S1.1 16 j = x) ?_ ?_ 0 _ (by omega) ⟨S, rfl, fun _ _ => rfl, rfl, fun j hj => absurd hj (Nat.not_lt_zero j)⟩
  · rintro i a hi ⟨S1, rfl, h1, h2, h3⟩ K hK
    refine br_f (by rw [ni_le (by omega) (by omega)]; omega) ⟨vp_in_nI hi (by decide), fun S2 e2 => ?_⟩
    rw [nI_clamp (by omega)] at e2
    show K (_, _, _, _)
    rw [nI_1]
    refine hK _ ⟨S2, rfl, fun a ha => ?_, ?_, fun j hj => ?_⟩
    · rw [e2, cI_n ha]; exact h1 a ha
    · rw [e2]; exact h2
    · rw [e2, cI_s]
      by_cases e : j = i
      · rw [e, upd_s]
      · rw [upd_n e]; exact h3 j (by omega)
  · rintro a ⟨S1, rfl, h1, h2, h3⟩ K
    exact br_t (by rw [ni_le (by omega) (by omega)]; omega) (h S1 h1 h2 h3)
theorem fill_17 {x : Int32} {S : St} {Q : St → Prop} (h : ∀ S1 : St, (∀ a, a ≠ 17 → S1.1 a = S.1 a) → S1.2 = S.2 → (∀ j, j < 9 → S1.1 17 j = x) → Q S1) : p_J7_fill_53178_c17 x S Q := by
  refine Lq_rel 9 (fun i a => ∃ S1 : St, a = (x, nI i, nI 9, S1) ∧ (∀ a, a ≠ 17 → S1.1 a = S.1 a) ∧ S1.2 = S.2 ∧ ∀ j, j < i → S1.1 17 j = x) ?_ ?_ 0 _ (by omega) ⟨S, rfl, fun _ _ => rfl, rfl, fun j hj => absurd hj (Nat.not_lt_zero j)⟩
  · rintro i a hi ⟨S1, rfl, h1, h2, h3⟩ K hK
    refine br_f (by rw [ni_le (by omega) (by omega)]; omega) ⟨vp_in_nI hi (by decide), fun S2 e2 => ?_⟩
    rw [nI_clamp (by omega)] at e2
    show K (_, _, _, _)
    rw [nI_1]
    refine hK _ ⟨S2, rfl, fun a ha => ?_, ?_, fun j hj => ?_⟩
    · rw [e2, cI_n ha]; exact h1 a ha
    · rw [e2]; exact h2
    · rw [e2, cI_s]
      by_cases e : j = i
      · rw [e, upd_s]
      · rw [upd_n e]; exact h3 j (by omega)
  · rintro a ⟨S1, rfl, h1, h2, h3⟩ K
    exact br_t (by rw [ni_le (by omega) (by omega)]; omega) (h S1 h1 h2 h3)
theorem fill_18 {x : Int32} {S : St} {Q : St → Prop} (h : ∀ S1 : St, (∀ a, a ≠ 18 → S1.1 a = S.1 a) → S1.2 = S.2 → (∀ j, j < 9 → S1.1 18 j = x) → Q S1) : p_J7_fill_53178_c18 x S Q := by
  refine Lq_rel 9 (fun i a => ∃ S1 : St, a = (x, nI i, nI 9, S1) ∧ (∀ a, a ≠ 18 → S1.1 a = S.1 a) ∧ S1.2 = S.2 ∧ ∀ j, j < i → S1.1 18 j = x) ?_ ?_ 0 _ (by omega) ⟨S, rfl, fun _ _ => rfl, rfl, fun j hj => absurd hj (Nat.not_lt_zero j)⟩
  · rintro i a hi ⟨S1, rfl, h1, h2, h3⟩ K hK
    refine br_f (by rw [ni_le (by omega) (by omega)]; omega) ⟨vp_in_nI hi (by decide), fun S2 e2 => ?_⟩
    rw [nI_clamp (by omega)] at e2
    show K (_, _, _, _)
    rw [nI_1]
    refine hK _ ⟨S2, rfl, fun a ha => ?_, ?_, fun j hj => ?_⟩
    · rw [e2, cI_n ha]; exact h1 a ha
    · rw [e2]; exact h2
    · rw [e2, cI_s]
      by_cases e : j = i
      · rw [e, upd_s]
      · rw [upd_n e]; exact h3 j (by omega)
  · rintro a ⟨S1, rfl, h1, h2, h3⟩ K
    exact br_t (by rw [ni_le (by omega) (by omega)]; omega) (h S1 h1 h2 h3)
theorem fill_19 {x : Int32} {S : St} {Q : St → Prop} (h : ∀ S1 : St, (∀ a, a ≠ 19 → S1.1 a = S.1 a) → S1.2 = S.2 → (∀ j, j < 81 → S1.1 19 j = x) → Q S1) : p_J7_fill_53178_c19 x S Q := by
  refine Lq_rel 81 (fun i a => ∃ S1 : St, a = (x, nI i, nI 81, S1) ∧ (∀ a, a ≠ 19 → S1.1 a = S.1 a) ∧ S1.2 = S.2 ∧ ∀ j, j < i → S1.1 19 j = x) ?_ ?_ 0 _ (by omega) ⟨S, rfl, fun _ _ => rfl, rfl, fun j hj => absurd hj (Nat.not_lt_zero j)⟩
  · rintro i a hi ⟨S1, rfl, h1, h2, h3⟩ K hK
    refine br_f (by rw [ni_le (by omega) (by omega)]; omega) ⟨vp_in_nI hi (by decide), fun S2 e2 => ?_⟩
    rw [nI_clamp (by omega)] at e2
    show K (_, _, _, _)
    rw [nI_1]
    refine hK _ ⟨S2, rfl, fun a ha => ?_, ?_, fun j hj => ?_⟩
    · rw [e2, cI_n ha]; exact h1 a ha
    · rw [e2]; exact h2
    · rw [e2, cI_s]
      by_cases e : j = i
      · rw [e, upd_s]
      · rw [upd_n e]; exact h3 j (by omega)
  · rintro a ⟨S1, rfl, h1, h2, h3⟩ K
    exact br_t (by rw [ni_le (by omega) (by omega)]; omega) (h S1 h1 h2 h3)
theorem fillJ_24 {x : Int64} {S : St} {Q : St → Prop} (h : ∀ S1 : St, (∀ a, a ≠ 24 → S1.2 a = S.2 a) → S1.1 = S.1 → (∀ j, j < 9 → S1.2 24 j = x) → Q S1) : p_J7_fill_d0a16_c24 x S Q := by
  refine Lq_rel 9 (fun i a => ∃ S1 : St, a = (x, nI i, nI 9, S1) ∧ (∀ a, a ≠ 24 → S1.2 a = S.2 a) ∧ S1.1 = S.1 ∧ ∀ j, j < i → S1.2 24 j = x) ?_ ?_ 0 _ (by omega) ⟨S, rfl, fun _ _ => rfl, rfl, fun j hj => absurd hj (Nat.not_lt_zero j)⟩
  · rintro i a hi ⟨S1, rfl, h1, h2, h3⟩ K hK
    refine br_f (by rw [ni_le (by omega) (by omega)]; omega) ⟨vp_in_nI hi (by decide), fun S2 e2 => ?_⟩
    rw [nI_clamp (by omega)] at e2
    show K (_, _, _, _)
    rw [nI_1]
    refine hK _ ⟨S2, rfl, fun a ha => ?_, ?_, fun j hj => ?_⟩
    · rw [e2, cJ_n ha]; exact h1 a ha
    · rw [e2]; exact h2
    · rw [e2, cJ_s]
      by_cases e : j = i
      · rw [e, updL_s]
      · rw [updL_n e]; exact h3 j (by omega)
  · rintro a ⟨S1, rfl, h1, h2, h3⟩ K
    exact br_t (by rw [ni_le (by omega) (by omega)]; omega) (h S1 h1 h2 h3)
def ρ0 : Rs := (0, 0, 0, fun _ => 0, 0, 0, fun _ => 0, fun _ => 0)
theorem rw0 : RW ρ0 := by
  refine ⟨by omega, by omega, fun q => by omega, by omega, fun i hi => by omega, fun q => by omega, fun q => by omega, by omega, fun _ => Nat.zero_le 2, fun _ _ => ⟨rfl, rfl⟩, fun p => ⟨by show (0 : Nat) < 2 ^ 0; omega, by show crd 0 ≤ 5; decide, Nat.zero_testBit p⟩, by decide, by omega, fun q => by omega, fun q hq => ?_, fun _ => ⟨rfl, rfl, rfl⟩, fun _ => rfl, fun _ => rfl⟩
  have hq : (0 : Nat).testBit q = true := hq
  rw [Nat.zero_testBit] at hq; cases hq
theorem begin_c {S : St} {Q : St → Prop} (h : ∀ S1, RCs S1 ρ0 → KC S S1 → Q S1) : p_X2_begin S Q := by
  intro S1 e1 S2 e2
  refine fill_8 (fun S3 a1 a2 a3 => fill_9 (fun S4 b1 b2 b3 => fill_10 (fun S5 c1 c2 c3 S6 e6 S7 e7 S8 e8 => ?_)))
  refine h S8 ⟨?_, ?_, ?_, fun i hi => by omega, ?_, ?_, fun p hp => ?_, fun p hp => ?_⟩ ⟨fun k hk => ?_, fun k hk => ?_⟩
  all_goals subst e6; subst e7; subst e8
  · simp only [si_r]; simp; rfl
  · simp only [si_r]; simp; rw [c1 7 (by omega), b1 7 (by omega), a1 7 (by omega), e2, e1]; simp only [si_r]; simp; rfl
  · simp only [si_r]; simp; rw [c1 7 (by omega), b1 7 (by omega), a1 7 (by omega), e2]; simp only [si_r]; simp; rfl
  · simp only [si_r]; simp; rfl
  · simp only [si_r]; simp; rfl
  · simp only [si_r]; simp; rw [c1 9 (by omega), b3 p hp]; rfl
  · simp only [si_r]; simp; rw [c3 p hp]; rfl
  · rw [cI_n (by omega), cI_n (by omega), cI_n (by omega), c1 k (by omega), b1 k (by omega), a1 k (by omega), e2, e1, cI_n (by omega), cI_n (by omega)]
  · rw [cI_n (by omega), cI_n (by omega), cI_n (by omega), c1 k (by omega), b1 k (by omega), a1 k (by omega), e2, e1, cI_n (by omega), cI_n (by omega)]
def rrun (pg : Nat → Int32) : Nat → Nat → Rs → Nat × Option Rs
  | 0, i, r => (i, some r)
  | k + 1, i, r => match rstep r (pg i) with
    | none => (i, none)
    | some r' => rrun pg k (i + 1) r'
theorem rrun_some (pg : Nat → Int32) : ∀ (k i : Nat) (r r' : Rs), (rrun pg k i r).2 = some r' → (rrun pg k i r).1 = i + k
  | 0, i, r, r', _ => rfl
  | k + 1, i, r, r', h => by
    rw [rrun] at h ⊢
    cases hs : rstep r (pg i) with
    | none => rw [hs] at h; cases h
    | some r2 => rw [hs] at h; have := rrun_some pg k (i + 1) r2 r' h; simp only; omega
theorem rrun_none (pg : Nat → Int32) : ∀ (k i : Nat) (r : Rs), (rrun pg k i r).2 = none → (rrun pg k i r).1 < i + k
  | 0, i, r, h => by cases h
  | k + 1, i, r, h => by
    rw [rrun] at h ⊢
    cases hs : rstep r (pg i) with
    | none => simp only; omega
    | some r2 => rw [hs] at h; have := rrun_none pg k (i + 1) r2 h; simp only; omega
theorem fault_c {S : St} {g : Gp} {Q : Int32 → St → Prop} (hw : WFg g) (c : CC S g) (h : ∀ S1, KC S S1 → (∀ r, (rrun (gQ g) (gP g) 0 ρ0).2 = some r → RCs S1 r ∧ RW r) → Q (nI (rrun (gQ g) (gP g) 0 ρ0).1) S1) : p_X6_fault S Q := by
  have hpl := hw.2.2.2.2.2.2.2
  refine begin_c (fun S1 r1 k1 => ?_)
  refine Lq_rel (gP g) (fun i a => ∃ S2 r, a = (nI i, S2) ∧ KC S S2 ∧ RCs S2 r ∧ RW r ∧ rrun (gQ g) (gP g - i) i r = rrun (gQ g) (gP g) 0 ρ0) ?_ ?_ 0 _ (by omega) ⟨S1, ρ0, rfl, k1, r1, rw0, rfl⟩
  · rintro i a hi ⟨S2, r, rfl, k2, r2, w2, e2⟩ K hK
    have c2 := c.kc k2
    refine br_f (by rw [c2.2.2.2.2.2.1, ni_le (by omega) (by omega)]; omega) ⟨vp_in_nI (by omega) (by decide), ?_⟩
    rw [nI_clamp (by omega), c2.2.2.2.2.2.2.1 i hi]
    refine take_s w2 r2 ?_
    rw [show gP g - i = (gP g - (i + 1)) + 1 by omega, rrun] at e2
    cases hs : rstep r (gQ g i) with
    | none =>
      rw [hs] at e2
      refine fun S3 k3 => ne_f rfl ?_
      have hh := h S3 (k2.tr k3) (fun r' hr => by rw [← e2] at hr; cases hr)
      rw [← e2] at hh
      exact hh
    | some r' =>
      rw [hs] at e2
      refine fun S3 r3 k3 => ne_t n10 ?_
      show K (_, _)
      rw [nI_1]
      exact hK _ ⟨S3, r', rfl, k2.tr k3, r3, rw_step w2 hs, e2⟩
  · rintro a ⟨S2, r, rfl, k2, r2, w2, e2⟩ K
    have c2 := c.kc k2
    rw [Nat.sub_self, rrun] at e2
    have hh := h S2 k2 (fun r' hr => by rw [← e2] at hr; cases hr; exact ⟨r2, w2⟩)
    rw [← e2] at hh
    refine br_t (by rw [c2.2.2.2.2.2.1, ni_le (by omega) (by omega)]; omega) ?_
    rw [c2.2.2.2.2.2.1]; exact hh
theorem read_m {S : St} {g : Gp} {Q : Int32 → St → Prop} (hw : WFg g) (c : CM S g) (h : ∀ S1, KM S S1 → (∀ r, (rrun (gQ g) (gP g) 0 ρ0).2 = some r → RMs S1 r ∧ RW r) → Q (nI (rrun (gQ g) (gP g) 0 ρ0).1) S1) : p_X7_read S Q := by
  have hpl := hw.2.2.2.2.2.2.2
  intro S1 e1 S2 e2 S3 e3
  have k3 : KM S S3 := by subst e1; subst e2; subst e3; exact ((KM.sf (by omega)).tr (KM.sf (by omega))).tr (KM.sf (by omega))
  have r3 : RMs S3 ρ0 := by
    subst e1; subst e2; subst e3
    refine ⟨?_, fun q => by omega, ?_, fun i hi => by omega, fun q => by omega, ?_⟩
    · simp only [si_r]; simp; rfl
    · simp only [si_r]; simp; rfl
    · simp only [si_r]; simp; rfl
  refine Lq_rel (gP g) (fun i a => ∃ S2 r, a = (nI i, S2) ∧ KM S S2 ∧ RMs S2 r ∧ RW r ∧ rrun (gQ g) (gP g - i) i r = rrun (gQ g) (gP g) 0 ρ0) ?_ ?_ 0 _ (by omega) ⟨S3, ρ0, rfl, k3, r3, rw0, rfl⟩
  · rintro i a hi ⟨S2, r, rfl, k2, r2, w2, e2⟩ K hK
    have c2 := c.km k2
    refine br_f (by rw [c2.2.2.2.2.2.1, ni_le (by omega) (by omega)]; omega) ⟨vp_in_nI (by omega) (by decide), ?_⟩
    rw [nI_clamp (by omega), c2.2.2.2.2.2.2.1 i hi]
    refine takes_s w2 r2 ?_
    rw [show gP g - i = (gP g - (i + 1)) + 1 by omega, rrun] at e2
    cases hs : rstep r (gQ g i) with
    | none =>
      rw [hs] at e2
      refine fun S3 k3 => br_t rfl ?_
      have hh := h S3 (k2.tr k3) (fun r' hr => by rw [← e2] at hr; cases hr)
      rw [← e2] at hh
      exact hh
    | some r' =>
      rw [hs] at e2
      refine fun S3 r3 k3 => br_f n10 ?_
      show K (_, _)
      rw [nI_1]
      exact hK _ ⟨S3, r', rfl, k2.tr k3, r3, rw_step w2 hs, e2⟩
  · rintro a ⟨S2, r, rfl, k2, r2, w2, e2⟩ K
    have c2 := c.km k2
    rw [Nat.sub_self, rrun] at e2
    have hh := h S2 k2 (fun r' hr => by rw [← e2] at hr; cases hr; exact ⟨r2, w2⟩)
    rw [← e2] at hh
    exact br_t (by rw [c2.2.2.2.2.2.1, ni_le (by omega) (by omega)]; omega) hh
theorem ok_fault : OpOK p_X6_fault p_X7_fault :=
  op_ro (fun g hw => ⟨nI (rrun (gQ g) (gP g) 0 ρ0).1, fun S Q c h => fault_c hw c (fun S1 k _ => h S1 k), fun S Q m h => read_m hw m (fun S1 k _ => h S1 k)⟩)
def rdone : Rs → Prop
  | (st, n, bc, bd, cur, nx, kd, vz) => (st = 3 ∨ st = 4) ∧ cur = n - 1
theorem comp_s {r : Rs} {S : St} {Q : Int32 → St → Prop} (w : RW r) (h : RCs S r) (h1 : rdone r → Q 1 S) (h0 : ¬ rdone r → Q 0 S) : p_X2_isComplete S Q := by
  obtain ⟨st, n, bc, bd, cur, nx, kd, vz⟩ := r
  obtain ⟨w1, w2, w3, w4, w5, w6, w7, w8, w9, w10, w11, w12, w13, w14, w15, w16, w17, w18⟩ := w
  obtain ⟨a1, a2, a3, a4, a5, a6, a7, a8⟩ := h
  have sti : ∀ k : Nat, k ≤ 5 → (S.1 6 1 = nI k ↔ st = k) := fun k hk => by rw [a1]; exact ⟨fun e => ni_inj (by omega) (by omega) e, fun e => by rw [e]⟩
  have key : (st = 3 ∨ st = 4) → p_X2_isComplete_16 Q S := fun hst => by
    have hn := w3 (by omega)
    refine ⟨fun c => h0 (fun z => c ?_), fun c => h1 ⟨hst, ?_⟩⟩
    · rw [a5, a2, ni_pred hn, z.2]
    · rw [a5, a2, ni_pred hn] at c
      exact ni_inj (by omega) (by omega) c
  refine ⟨fun c => key (Or.inl ((sti 3 (by omega)).mp c)), fun c => ⟨fun c2 => h0 (fun z => ?_), fun c2 => key (Or.inr ((sti 4 (by omega)).mp c2))⟩⟩
  rcases z.1 with q | q
  · exact c ((sti 3 (by omega)).mpr q)
  · exact c2 ((sti 4 (by omega)).mpr q)
theorem ok_circle : OpOK p_X6_circle p_X7_circle := by
  intro g hw
  have hpl := hw.2.2.2.2.2.2.2
  cases hr : (rrun (gQ g) (gP g) 0 ρ0).2 with
  | none =>
    have hlt := rrun_none _ _ _ _ hr
    have hc : nI (rrun (gQ g) (gP g) 0 ρ0).1 < nI (gP g) := (ni_lt (by omega) (by omega)).mpr (by omega)
    refine ⟨-103, g, hw, fun S Q c m h => ?_, fun S Q c m h => ?_⟩
    · refine fault_c hw c (fun S1 k _ => br_t ?_ (h S1 (c.kc k) (m.kc k)))
      rw [(c.kc k).2.2.2.2.2.1]; exact hc
    · refine read_m hw m (fun S1 k _ => br_t ?_ (h S1 (c.km k) (m.km k)))
      rw [(m.km k).2.2.2.2.2.1]; exact hc
  | some r =>
    have heq := rrun_some _ _ _ _ _ hr
    have hc : ¬ nI (rrun (gQ g) (gP g) 0 ρ0).1 < nI (gP g) := by rw [ni_lt (by omega) (by omega)]; omega
    by_cases hd : rdone r
    · obtain ⟨st, n, bc, bd, cur, nx, kd, vz⟩ := r
      by_cases w : RW (st, n, bc, bd, cur, nx, kd, vz)
      · obtain ⟨w1, w2, w3, w4, w5, w6, w7, w8, w9, w10, w11, w12, w13, w14, w15, w16, w17, w18⟩ := id w
        obtain ⟨hst, hcur⟩ := hd
        have hn := w3 (by omega)
        have hct : fb_ct (knd kd 1) n = fb_ct (knd kd 1) 9 := knd_ct w2 (w7 (by omega)) (fun p hp => (w10 p hp).1)
        refine ⟨nI n, (n, bc, kd, vz, bd, 0, gQ g, gC g + 1, gA g, gR g), ⟨w2, w4, fun z => by have z : n = 0 := z; omega, fun p _ => w9 p, fun p _ => w11 p, w5, by show crd (mkm n (knd kd 1)) ≤ 5; rw [crd_mkm w2, hct]; exact w12, Nat.zero_le _⟩, fun S Q c m h => ?_, fun S Q c m h => ?_⟩
        · refine fault_c hw c (fun S1 k hS => br_f ?_ ?_)
          · rw [(c.kc k).2.2.2.2.2.1]; exact hc
          · obtain ⟨r1, -⟩ := hS _ hr
            have c1 := c.kc k
            have m1 := m.kc k
            refine comp_s w r1 (fun _ => ne_t n10 ?_) (fun z => absurd ⟨hst, hcur⟩ z)
            intro S2 e2 S3 e3 S4 e4 S5 e5 S6 e6 S8 e8 S9 e9
            obtain ⟨a1, a2, a3, a4, a5, a6, a7, a8⟩ := r1
            have o2 : ∀ a, a ≠ 2 → S3.1 a = S1.1 a := fun a ha => by rw [e3, cI_n ha, e2, cI_n ha]
            have o3 : ∀ a, a ≠ 3 → S4.1 a = S3.1 a := fun a ha => by rw [e4, cI_n ha]
            have o4 : ∀ a, a ≠ 4 → S5.1 a = S4.1 a := fun a ha => by rw [e5, cI_n ha]
            have o5 : ∀ a, a ≠ 5 → S6.1 a = S5.1 a := fun a ha => by rw [e6, cI_n ha]
            have o0 : ∀ a, a ≠ 0 → S9.1 a = S6.1 a := fun a ha => by rw [e9, cI_n ha, e8, cI_n ha]
            have p0 : S9.1 2 0 = nI n := by
              rw [o0 2 (by omega), o5 2 (by omega), o4 2 (by omega), o3 2 (by omega), e3, e2]; simp only [si_r]; simpa using a2
            rw [p0]
            refine h S9 ⟨p0, ?_, fun p hp => ?_, fun p hp => ?_, fun i hi => ?_, ?_, fun i hi => absurd hi (Nat.not_lt_zero i), ?_, ?_, ?_⟩ ?_
            · rw [o0 2 (by omega), o5 2 (by omega), o4 2 (by omega), o3 2 (by omega), e3, e2]; simp only [si_r]; simpa using a3
            · have hp : p < n := hp
              rw [o0 4 (by omega), o5 4 (by omega), e5, cI_s, pk_cpy_in (by omega) (by omega), o3 9 (by omega), o2 9 (by omega), Nat.zero_add, Nat.sub_zero]; exact a7 p (by omega)
            · have hp : p < n := hp
              rw [o0 5 (by omega), e6, cI_s, pk_cpy_in (by omega) (by omega), o4 10 (by omega), o3 10 (by omega), o2 10 (by omega), Nat.zero_add, Nat.sub_zero]; exact a8 p (by omega)
            · have hi : i < bc := hi
              rw [o0 3 (by omega), o5 3 (by omega), o4 3 (by omega), e4, cI_s, pk_cpy_in (by omega) (by omega), o2 8 (by omega), Nat.zero_add, Nat.sub_zero]; exact a4 i hi
            · rw [e9, e8]; simp only [si_r]; simp; rfl
            · rw [e9, e8]; simp only [si_r]; simp; rw [o5 0 (by omega), o4 0 (by omega), o3 0 (by omega), o2 0 (by omega), c1.2.2.2.2.2.2.2.1]
            · rw [e9, e8]; simp only [si_r]; simp; rw [o5 0 (by omega), o4 0 (by omega), o3 0 (by omega), o2 0 (by omega)]; exact c1.2.2.2.2.2.2.2.2.1
            · rw [e9, e8]; simp only [si_r]; simp; rw [o5 0 (by omega), o4 0 (by omega), o3 0 (by omega), o2 0 (by omega)]; exact c1.2.2.2.2.2.2.2.2.2
            · have hk : ∀ a, 25 ≤ a → S9.1 a = S1.1 a := fun a ha => by rw [o0 a (by omega), o5 a (by omega), o4 a (by omega), o3 a (by omega), o2 a (by omega)]
              unfold CM at *
              rw [hk 25 (by omega), hk 26 (by omega), hk 27 (by omega), hk 28 (by omega), hk 29 (by omega)]
              exact m1
        · refine read_m hw m (fun S1 k hS => br_f ?_ ?_)
          · rw [(m.km k).2.2.2.2.2.1]; exact hc
          · obtain ⟨r1, -⟩ := hS _ hr
            have c1 := c.km k
            have m1 := m.km k
            obtain ⟨a1, a2, a3, a4, a5, a6⟩ := r1
            obtain ⟨a14, a15, a3x⟩ := a5 (by omega)
            have key : p_X7_circle_27 Q S1 := by
              refine br_t ?_ (fun S6 e6 S7 e7 => ?_)
              · rw [a2 (by omega), a14, ni_pred hn, ni_le (by omega) (by omega)]; omega
              have b0 : S7.1 25 0 = nI n := by rw [e7, e6]; simp only [si_r]; simpa using a2 (by omega)
              have b3 : S7.1 25 3 = nI bc := by rw [e7, e6]; simp only [si_r]; simpa using a3
              have bo : ∀ j, j ≠ 0 → j ≠ 3 → S7.1 25 j = S1.1 25 j := fun j j1 j2 => by rw [e7, e6]; simp only [si_r]; simp [j1, j2]
              have ba : ∀ a, a ≠ 25 → S7.1 a = S1.1 a := fun a ha => by rw [e7, cI_n ha, e6, cI_n ha]
              refine Lq_rel 5 (fun i a => ∃ S8 : St, a = (nI i, S8) ∧ (∀ a, a ≠ 28 → S8.1 a = S7.1 a) ∧ ∀ j, j < i → S8.1 28 j = S7.1 30 j) ?_ ?_ 0 _ (by omega) ⟨S7, rfl, fun _ _ => rfl, fun j hj => absurd hj (Nat.not_lt_zero j)⟩
              · rintro i a hi ⟨S8, rfl, d1, d2⟩ K hK
                refine br_f (by rw [show (5 : Int32) = nI 5 from rfl, ni_le (by omega) (by omega)]; omega) ⟨vp_in_nI hi (by decide), vp_in_nI hi (by decide), fun S9 e9 => ?_⟩
                rw [nI_clamp (by omega)] at e9
                show K (_, _)
                rw [nI_1]
                refine hK _ ⟨S9, rfl, fun a ha => by rw [e9, cI_n ha]; exact d1 a ha, fun j hj => ?_⟩
                rw [e9, cI_s]
                by_cases e : j = i
                · rw [e, upd_s, d1 30 (by omega)]
                · rw [upd_n e]; exact d2 j (by omega)
              · rintro a ⟨S8, rfl, d1, d2⟩ K
                refine br_t (by decide) ?_
                refine Lq_rel n (fun i a => ∃ S9 : St, a = (nI i, S9) ∧ (∀ a, a ≠ 26 → a ≠ 27 → S9.1 a = S8.1 a) ∧ ∀ j, j < i → S9.1 26 j = nI (kd j) ∧ S9.1 27 j = nI (vz j)) ?_ ?_ 0 _ (by omega) ⟨S8, rfl, fun _ _ _ => rfl, fun j hj => absurd hj (Nat.not_lt_zero j)⟩
                · rintro i a hi ⟨S9, rfl, f1, f2⟩ K hK
                  have hl : ∀ a, a ≠ 25 → a ≠ 26 → a ≠ 27 → a ≠ 28 → S9.1 a = S1.1 a := fun a h1 h2 h3 h4 => by rw [f1 a h2 h3, d1 a h4, ba a h1]
                  refine br_f (by rw [f1 25 (by omega) (by omega), d1 25 (by omega), b0, ni_le (by omega) (by omega)]; omega) ⟨vp_in_nI (by omega) (by decide), vp_in_nI (by omega) (by decide), fun S12 e12 => ⟨vp_in_nI (by omega) (by decide), vp_in_nI (by omega) (by decide), fun S13 e13 => ?_⟩⟩
                  rw [nI_clamp (by omega)] at e12 e13
                  rw [hl 31 (by omega) (by omega) (by omega) (by omega), (a3x i (by omega)).1] at e12
                  rw [show S12.1 32 = S1.1 32 by rw [e12, cI_n (by omega), hl 32 (by omega) (by omega) (by omega) (by omega)], (a3x i (by omega)).2] at e13
                  show K (_, _)
                  rw [nI_1]
                  refine hK _ ⟨S13, rfl, fun a h2 h3 => by rw [e13, cI_n h3, e12, cI_n h2]; exact f1 a h2 h3, fun j hj => ?_⟩
                  rw [e13, cI_n (by omega), e12, cI_s, cI_s, cI_n (by omega)]
                  by_cases e : j = i
                  · rw [e, upd_s, upd_s]; exact ⟨rfl, rfl⟩
                  · rw [upd_n e, upd_n e]; exact f2 j (by omega)
                · rintro a ⟨S9, rfl, f1, f2⟩ K
                  have g25 : S9.1 25 = S7.1 25 := by rw [f1 25 (by omega) (by omega), d1 25 (by omega)]
                  refine br_t (by rw [g25, b0, ni_le (by omega) (by omega)]; omega) (fun S10 e10 S11 e11 => ?_)
                  have q0 : S11.1 25 0 = nI n := by rw [e11, e10]; simp only [si_r]; simp; rw [g25, b0]
                  rw [q0]
                  have ho : ∀ a, a ≠ 25 → S11.1 a = S9.1 a := fun a ha => by rw [e11, cI_n ha, e10, cI_n ha]
                  refine h S11 ?_ ⟨q0, ?_, fun p hp => ?_, fun p hp => ?_, fun i hi => ?_, ?_, fun i hi => absurd hi (Nat.not_lt_zero i), ?_, ?_, ?_⟩
                  · have hk : ∀ a, a ≤ 24 → S11.1 a = S1.1 a := fun a ha => by rw [ho a (by omega), f1 a (by omega) (by omega), d1 a (by omega), ba a (by omega)]
                    unfold CC at *
                    rw [hk 0 (by omega), hk 1 (by omega), hk 2 (by omega), hk 3 (by omega), hk 4 (by omega), hk 5 (by omega)]
                    exact c1
                  · rw [e11, e10]; simp only [si_r]; simp; rw [g25, b3]
                  · rw [ho 26 (by omega)]; exact (f2 p hp).1
                  · rw [ho 27 (by omega)]; exact (f2 p hp).2
                  · have hi : i < bc := hi
                    rw [ho 28 (by omega), f1 28 (by omega) (by omega), d2 i (by omega), ba 30 (by omega)]; exact a4 i hi
                  · rw [e11, e10]; simp only [si_r]; simp; rfl
                  · rw [e11, e10]; simp only [si_r]; simp; rw [g25, bo 5 (by omega) (by omega), m1.2.2.2.2.2.2.2.1]
                  · rw [e11, e10]; simp only [si_r]; simp; rw [g25, bo 6 (by omega) (by omega)]; exact m1.2.2.2.2.2.2.2.2.1
                  · rw [e11, e10]; simp only [si_r]; simp; rw [g25, bo 7 (by omega) (by omega)]; exact m1.2.2.2.2.2.2.2.2.2
            refine ⟨fun _ => key, fun c3 => ⟨fun c4 => ?_, fun _ => key⟩⟩
            exfalso
            rcases hst with q | q
            · exact c3 (by rw [a1, q]; rfl)
            · exact c4 (by rw [a1, q]; rfl)
      · exfalso
        have hrun : ∀ k i r, RW r → (rrun (gQ g) k i r).2 = some (st, n, bc, bd, cur, nx, kd, vz) → RW (st, n, bc, bd, cur, nx, kd, vz) := by
          intro k
          induction k with
          | zero => intro i r hr h; cases h; exact hr
          | succ k ih =>
            intro i r hr h
            rw [rrun] at h
            cases hs : rstep r (gQ g i) with
            | none => rw [hs] at h; cases h
            | some r2 => rw [hs] at h; exact ih _ _ (rw_step hr hs) h
        exact w (hrun _ _ _ rw0 hr)
    · refine ⟨-103, g, hw, fun S Q c m h => ?_, fun S Q c m h => ?_⟩
      · refine fault_c hw c (fun S1 k hS => br_f ?_ ?_)
        · rw [(c.kc k).2.2.2.2.2.1]; exact hc
        · obtain ⟨r1, w⟩ := hS _ hr
          exact comp_s w r1 (fun z => absurd z hd) (fun _ => ne_f rfl (h S1 (c.kc k) (m.kc k)))
      · refine read_m hw m (fun S1 k hS => br_f ?_ ?_)
        · rw [(m.km k).2.2.2.2.2.1]; exact hc
        · obtain ⟨r1, w⟩ := hS _ hr
          have fin := h S1 (c.km k) (m.km k)
          obtain ⟨st, n, bc, bd, cur, nx, kd, vz⟩ := r
          obtain ⟨a1, a2, a3, a4, a5, a6⟩ := r1
          obtain ⟨w1, w2, w3, w4, w5, w6, w7, w8, w9, w10, w11, w12, w13, w14, w15, w16, w17, w18⟩ := w
          have key : (st = 3 ∨ st = 4) → p_X7_circle_27 Q S1 := fun hst => by
            have hn := w3 (by omega)
            have hcn := w7 (by omega)
            refine br_f ?_ fin
            rw [a2 (by omega), (a5 (by omega)).1, ni_pred hn, ni_le (by omega) (by omega)]
            intro z
            exact hd ⟨hst, by omega⟩
          refine ⟨fun c3 => key (Or.inl ?_), fun c3 => ⟨fun c4 => fin, fun c4 => key (Or.inr ?_)⟩⟩
          · rw [a1] at c3; exact ni_inj (by omega) (by omega) c3
          · rw [a1] at c4; exact ni_inj (by omega) (by omega) c4
