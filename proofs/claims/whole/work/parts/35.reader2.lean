/-! ===== the reference's reader ===== -/
theorem rw_step {ρ ρ' : Rs} {x : Int32} (w : RW ρ) (h : rstep ρ x = some ρ') : RW ρ' := by
  obtain ⟨st, n, bc, bd, cur, nx, kd, vz⟩ := ρ
  obtain ⟨w1, w2, w3, w4, w5, w6, w7, w8, w9, w10, w11, w12, w13, w14, w15, w16, w17, w18⟩ := w
  simp only [rstep] at h
  by_cases e0 : st = 0
  · rw [if_pos e0] at h
    by_cases c : 1 ≤ x - 48 ∧ x - 48 ≤ 9
    · rw [if_pos c] at h
      cases h
      have hge : (0 : Int32) ≤ x - 48 := by
        have := c.1
        rw [Int32.le_iff_toInt_le] at this ⊢
        rw [show (1 : Int32).toInt = 1 from rfl] at this; rw [Int32.toInt_zero]; omega
      obtain ⟨d, hd, ed⟩ := dg_of (n := 9) (by omega) hge c.2
      have hd1 : 1 ≤ d := by
        have := c.1
        rw [ed, ni_one, ni_le (by omega) (by omega)] at this; exact this
      rw [ed, nI_clamp (by omega)]
      have hc0 := w17 (by omega)
      refine ⟨by omega, hd, fun _ => hd1, w4, w5, fun q => by omega, fun _ => by omega, w8, w9, w10, fun p => ?_, w12, w13, fun q => by omega, w15, fun _ => w16 (by omega), fun _ => hc0, fun q => by omega⟩
      have hn := w18 e0
      have := (w11 p).1
      rw [hn] at this
      have hz : vz p = 0 := by omega
      rw [hz]
      exact ⟨Nat.two_pow_pos d, by decide, Nat.zero_testBit p⟩
    · rw [if_neg c] at h; cases h
  · rw [if_neg e0] at h
    by_cases e1 : st = 1
    · rw [if_pos e1] at h
      by_cases c : x = 58
      · rw [if_pos c] at h
        cases h
        exact ⟨by omega, w2, fun _ => w3 (by omega), w4, w5, fun q => by omega, fun _ => w7 (by omega), w8, w9, w10, w11, w12, w13, fun q => by omega, w15, fun _ => w16 (by omega), fun _ => w17 (by omega), fun q => by omega⟩
      · rw [if_neg c] at h; cases h
    · rw [if_neg e1] at h
      by_cases e2 : st = 2
      · rw [if_pos e2] at h
        by_cases c : x = 58 ∧ 0 < bc
        · rw [if_pos c] at h
          cases h
          exact ⟨by omega, w2, fun _ => w3 (by omega), w4, w5, fun q => c.2, fun _ => w7 (by omega), w8, w9, w10, w11, w12, w13, fun q => by omega, w15, fun _ => w16 (by omega), fun _ => w17 (by omega), fun q => by omega⟩
        · rw [if_neg c] at h
          by_cases c2 : 0 ≤ x - 48 ∧ x - 48 ≤ 9 ∧ bc < 5
          · rw [if_pos c2] at h
            cases h
            obtain ⟨d, hd, ed⟩ := dg_of (n := 9) (by omega) c2.1 c2.2.1
            rw [ed, nI_clamp (by omega)]
            refine ⟨by omega, w2, fun _ => w3 (by omega), by omega, fun i hi => ?_, fun q => by omega, fun _ => w7 (by omega), w8, w9, w10, w11, w12, w13, fun q => by omega, w15, fun _ => w16 (by omega), fun _ => w17 (by omega), fun q => by omega⟩
            by_cases ei : i = bc
            · rw [ei, pt_s]; exact hd
            · rw [pt_n ei]; exact w5 i (by omega)
          · rw [if_neg c2] at h; cases h
      · rw [if_neg e2] at h
        have hn1 := w3 (by omega)
        have hcn := w7 (by omega)
        by_cases e5 : st = 5
        · rw [if_pos e5] at h
          by_cases c : nI nx ≤ x - 48 ∧ x - 48 < nI n ∧ x - 48 ≠ nI cur
          · rw [if_pos c] at h
            cases h
            have hge : (0 : Int32) ≤ x - 48 := by
              have := c.1
              rw [Int32.le_iff_toInt_le] at this ⊢
              rw [nI_toInt (by omega)] at this; rw [Int32.toInt_zero]; omega
            obtain ⟨d, hd, ed⟩ := dg_of (n := 9) (by omega) hge (by
              have := c.2.1
              rw [Int32.lt_iff_toInt_lt] at this; rw [Int32.le_iff_toInt_le]; rw [nI_toInt (by omega)] at this ⊢; omega)
            rw [ed] at c
            obtain ⟨c1, c2, c3⟩ := c
            rw [ni_le (by omega) (by omega)] at c1
            rw [ni_lt (by omega) (by omega)] at c2
            have c3 : d ≠ cur := fun q => c3 (by rw [q])
            rw [ed, nI_clamp (by omega)]
            have hnb : (vz cur).testBit d = false := bool_f (fun q => by have := w15 d q; omega)
            refine ⟨by omega, w2, fun _ => hn1, w4, w5, fun q => w6 (by omega), fun _ => hcn, w8, w9, fun p hp => ⟨(w10 p hp).1, ?_⟩, fun p => ?_, w12, by omega, fun q => by omega, fun q hq => ?_, fun q => by omega, fun q => by omega, fun q => by omega⟩
            · rw [pt_n (by omega)]; exact (w10 p hp).2
            · by_cases ep : p = cur
              · subst ep
                rw [pt_s]
                refine ⟨Nat.or_lt_two_pow (w11 p).1 (Nat.pow_lt_pow_right (by omega) c2), ?_, ?_⟩
                · rw [crd_or (by omega) hnb]; have := w14 e5; omega
                · rw [fb_bit_set, (w11 p).2.2]; simp; omega
              · rw [pt_n ep]; exact w11 p
            · rw [pt_s, fb_bit_set] at hq
              simp at hq
              rcases hq with hq | hq
              · have := w15 q hq; omega
              · omega
          · rw [if_neg c] at h; cases h
        · rw [if_neg e5] at h
          have hct : fb_ct (knd kd 1) n = fb_ct (knd kd 1) 9 := knd_ct w2 hcn (fun p hp => (w10 p hp).1)
          have hkind : ∀ t, t ≤ 2 → st = 3 → (t = 1 → fb_ct (knd kd 1) 9 < 5) → RW (4, n, bc, bd, cur, nx, pt kd cur t, vz) := by
            intro t ht e3 hlt
            have hset := ct_set (n := 9) (t := t) (kd := kd) w8
            rw [(w16 (by omega)).1] at hset
            refine ⟨by omega, w2, fun _ => hn1, w4, w5, fun q => w6 (by omega), fun _ => hcn, w8, fun p => ?_, fun p hp => ⟨?_, (w10 p hp).2⟩, w11, ?_, w13, fun q => by omega, w15, fun q => by omega, fun q => by omega, fun q => by omega⟩
            · by_cases ep : p = cur
              · subst ep; rw [pt_s]; exact ht
              · rw [pt_n ep]; exact w9 p
            · rw [pt_n (by omega)]; exact (w10 p hp).1
            · show fb_ct (knd (fun q => if q = cur then t else kd q) 1) 9 ≤ 5
              by_cases et : t = 1
              · have := hlt et; rw [if_pos et] at hset; simp at hset; omega
              · rw [if_neg et] at hset; simp at hset; omega
          by_cases c1 : st = 3 ∧ x = 42 ∧ fb_ct (knd kd 1) n < 5
          · rw [if_pos c1] at h
            cases h
            exact hkind 1 (by omega) c1.1 (fun _ => by omega)
          · rw [if_neg c1] at h
            by_cases c2 : st = 3 ∧ x = 33
            · rw [if_pos c2] at h
              cases h
              exact hkind 2 (by omega) c2.1 (fun q => by omega)
            · rw [if_neg c2] at h
              unfold rper at h
              by_cases x1 : x = 62
              · rw [if_pos x1] at h
                by_cases c3 : (if nx = cur then nx + 1 else nx) < n ∧ crd (vz cur) < 5
                · rw [if_pos c3] at h
                  cases h
                  exact ⟨by omega, w2, fun _ => hn1, w4, w5, fun q => w6 (by omega), fun _ => hcn, w8, w9, w10, w11, w12, w13, fun _ => c3.2, w15, fun q => by omega, fun q => by omega, fun q => by omega⟩
                · rw [if_neg c3] at h; cases h
              · rw [if_neg x1] at h
                by_cases x2 : x = 59
                · rw [if_pos x2] at h
                  by_cases c3 : cur + 1 < n
                  · rw [if_pos c3] at h
                    cases h
                    have hv := w10 (cur + 1) (by omega)
                    refine ⟨by omega, w2, fun _ => hn1, w4, w5, fun q => w6 (by omega), fun _ => c3, by omega, w9, fun p hp => w10 p (by omega), w11, w12, by omega, fun q => by omega, fun q hq => ?_, fun _ => ⟨hv.1, hv.2, rfl⟩, fun q => by omega, fun q => by omega⟩
                    rw [hv.2, Nat.zero_testBit] at hq; cases hq
                  · rw [if_neg c3] at h; cases h
                · rw [if_neg x2] at h; cases h
def ransM (S : St) (Q : Int32 → St → Prop) : Option Rs → Prop
  | some r => ∀ S1, RMs S1 r → KM S S1 → Q 1 S1
  | none => ∀ S1, KM S S1 → Q 0 S1
theorem begin_s {st n bc cur nx c : Nat} {bd kd vz : Nat → Nat} {S : St} {Q : St → Prop} (hc : c < 9) (hst : 1 ≤ st) (h : RMs S (st, n, bc, bd, cur, nx, kd, vz)) (hk : kd c = 0 ∧ vz c = 0) (hb : ∀ p, p < c → S.1 31 p = nI (kd p) ∧ S.1 32 p = nI (vz p)) (hq : ∀ S1, RMs S1 (3, n, bc, bd, c, 0, kd, vz) → KM S S1 → Q S1) : p_X7_beginPerson (nI c) S Q := by
  intro S1 e1 S2 e2 S3 e3
  refine ⟨vp_in_nI hc (by decide), fun S4 e4 => ⟨vp_in_nI hc (by decide), fun S5 e5 => ?_⟩⟩
  rw [nI_clamp (by omega)] at e4 e5
  obtain ⟨h1, h2, h3, h4, h5, h6⟩ := h
  refine hq S5 ⟨?_, fun _ => ?_, ?_, ?_, fun _ => ⟨?_, ?_, fun p hp => ⟨?_, ?_⟩⟩, ?_⟩ ?_
  all_goals subst e1; subst e2; subst e3; subst e4; subst e5
  · simp only [si_r]; simp; rfl
  · simp only [si_r]; simpa using h2 hst
  · simp only [si_r]; simpa using h3
  · intro i hi; simp only [si_r]; simpa using h4 i hi
  · simp only [si_r]; simp
  · simp only [si_r]; simp; rfl
  · simp only [si_r]
    by_cases e : p = c
    · subst e; simp [hk.1]; rfl
    · simp [e]; exact (hb p (by omega)).1
  · simp only [si_r]
    by_cases e : p = c
    · subst e; simp [hk.2]; rfl
    · simp [e]; exact (hb p (by omega)).2
  · simp only [si_r]; simpa using h6
  · exact ((((KM.sf (by omega)).tr (KM.sf (by omega))).tr (KM.sf (by omega))).tr (KM.ci (by omega))).tr (KM.ci (by omega))
theorem stage_s {st n bc cur nx t : Nat} {bd kd vz : Nat → Nat} {S : St} (ht : (3 ≤ t → 3 ≤ st) ∧ (1 ≤ t → 1 ≤ st)) (h : RMs S (st, n, bc, bd, cur, nx, kd, vz)) : RMs (si S 25 10 (nI t)) (t, n, bc, bd, cur, nx, kd, vz) := by
  obtain ⟨h1, h2, h3, h4, h5, h6⟩ := h
  refine ⟨?_, fun q => ?_, ?_, ?_, fun q => ⟨?_, ?_, fun p hp => ⟨?_, ?_⟩⟩, ?_⟩
  · simp only [si_r]; simp
  · simp only [si_r]; simpa using h2 (ht.2 q)
  · simp only [si_r]; simpa using h3
  · intro i hi; simp only [si_r]; simpa using h4 i hi
  · simp only [si_r]; simpa using (h5 (ht.1 q)).1
  · simp only [si_r]; simpa using (h5 (ht.1 q)).2.1
  · simp only [si_r]; simpa using ((h5 (ht.1 q)).2.2 p hp).1
  · simp only [si_r]; simpa using ((h5 (ht.1 q)).2.2 p hp).2
  · simp only [si_r]; simpa using h6
theorem canVM_s {n cur nx : Nat} {y : Int32} {S : St} {Q : Int32 → St → Prop} (hn : n ≤ 9) (hx : nx ≤ 9) (h11 : S.1 25 11 = nI n) (h14 : S.1 25 14 = nI cur) (h15 : S.1 25 15 = nI nx - 1) (hq : Q (if nI nx ≤ y ∧ y < nI n ∧ y ≠ nI cur then 1 else 0) S) : p_X7_canVouch y S Q := by
  refine ⟨fun c => ?_, fun c => ⟨fun c2 => ?_, fun c2 => ⟨fun c3 => ?_, fun c3 => ?_⟩⟩⟩
  · rw [h15, le_m1 (by omega)] at c
    rw [if_neg (fun z => c z.1)] at hq; exact hq
  · rw [h11] at c2
    rw [if_neg (fun z => i_nlt.mpr c2 z.2.1)] at hq; exact hq
  · rw [h14] at c3
    rw [if_neg (fun z => z.2.2 c3)] at hq; exact hq
  · rw [h15, le_m1 (by omega)] at c
    rw [h11, i_nle] at c2
    rw [h14] at c3
    rw [if_pos ⟨Decidable.of_not_not c, c2, c3⟩] at hq; exact hq
theorem canB_s {n cur nx m : Nat} {S : St} {Q : Int32 → St → Prop} (hn : n ≤ 9) (hx : nx ≤ 9) (hc : cur < 9) (h11 : S.1 25 11 = nI n) (h14 : S.1 25 14 = nI cur) (h15 : S.1 25 15 = nI nx - 1) (h32 : S.1 32 cur = nI m) (hm : m < 512) (hq : Q (if (if nx = cur then nx + 1 else nx) < n ∧ crd m < 5 then 1 else 0) S) : p_X7_canBegin S Q := by
  have key : ∀ i, i ≤ 9 → ((∃ k, k < i ∧ nx ≤ k ∧ k < n ∧ k ≠ cur) ∨ ¬ ∃ k, k < i ∧ nx ≤ k ∧ k < n ∧ k ≠ cur) := fun i _ => Classical.em _
  refine Lq_rel 9 (fun i a => ((∃ k, k < i ∧ nx ≤ k ∧ k < n ∧ k ≠ cur) ∧ a = (1, nI i, S)) ∨ ((¬ ∃ k, k < i ∧ nx ≤ k ∧ k < n ∧ k ≠ cur) ∧ a = (0, nI i, S))) ?_ ?_ 0 _ (by omega) (Or.inr ⟨fun ⟨k, hk, _⟩ => absurd hk (Nat.not_lt_zero k), rfl⟩)
  · intro i a hi ha K hK
    rcases ha with ⟨he, rfl⟩ | ⟨he, rfl⟩
    · refine br_f (ge9 hi) (ne_t n10 ?_)
      show K (_, _, _)
      rw [nI_1]
      obtain ⟨k, hk, hk2⟩ := he
      exact hK _ (Or.inl ⟨⟨k, by omega, hk2⟩, rfl⟩)
    · refine br_f (ge9 hi) (ne_f rfl (canVM_s hn hx h11 h14 h15 ?_))
      by_cases c : nI nx ≤ nI i ∧ nI i < nI n ∧ nI i ≠ nI cur
      · rw [if_pos c]
        refine br_f n10 ?_
        show K (_, _, _)
        rw [nI_1]
        obtain ⟨c1, c2, c3⟩ := c
        rw [ni_le (by omega) (by omega)] at c1
        rw [ni_lt (by omega) (by omega)] at c2
        exact hK _ (Or.inl ⟨⟨i, by omega, c1, c2, fun q => c3 (by rw [q])⟩, rfl⟩)
      · rw [if_neg c]
        refine br_t rfl ?_
        show K (_, _, _)
        rw [nI_1]
        refine hK _ (Or.inr ⟨fun ⟨k, hk, k1, k2, k3⟩ => ?_, rfl⟩)
        by_cases e : k = i
        · subst e
          exact c ⟨(ni_le (by omega) (by omega)).mpr k1, (ni_lt (by omega) (by omega)).mpr k2, fun q => k3 (ni_inj (by omega) (by omega) q)⟩
        · exact he ⟨k, by omega, k1, k2, k3⟩
  · intro a ha K
    have hex : (∃ k, k < 9 ∧ nx ≤ k ∧ k < n ∧ k ≠ cur) ↔ (if nx = cur then nx + 1 else nx) < n := by
      constructor
      · rintro ⟨k, k0, k1, k2, k3⟩
        split <;> omega
      · intro h
        by_cases e : nx = cur
        · rw [if_pos e] at h; exact ⟨nx + 1, by omega, by omega, h, by omega⟩
        · rw [if_neg e] at h; exact ⟨nx, by omega, by omega, h, e⟩
    rcases ha with ⟨he, rfl⟩ | ⟨he, rfl⟩
    · rw [hex] at he
      refine br_t ge9' (br_f n10 ⟨by rw [h14]; exact vp_in_nI hc (by decide), ?_⟩)
      rw [h14, nI_clamp (by omega), h32]
      have := crd_le m
      refine size_s (by omega) ⟨fun c2 => ?_, fun c2 => ?_⟩
      · rw [show (5 : Int32) = nI 5 from rfl, ni_le (by omega) (by omega)] at c2
        rw [if_neg (by omega)] at hq; exact hq
      · rw [show (5 : Int32) = nI 5 from rfl, ni_le (by omega) (by omega)] at c2
        rw [if_pos (by omega)] at hq; exact hq
    · rw [hex] at he
      rw [if_neg (fun z => he z.1)] at hq
      exact br_t ge9' (br_t rfl hq)
theorem tk_s {n bc cur nx t : Nat} {bd kd vz : Nat → Nat} {S : St} {Q : Int32 → St → Prop} (ht : t = 1 ∨ t = 2) (w : RW (3, n, bc, bd, cur, nx, kd, vz)) (h : RMs S (3, n, bc, bd, cur, nx, kd, vz)) (hq : ransM S Q (if t = 1 ∧ ¬ fb_ct (knd kd 1) 9 < 5 then none else some (4, n, bc, bd, cur, nx, pt kd cur t, vz))) : p_X7_takesKind (nI t) S Q := by
  obtain ⟨w1, w2, w3, w4, w5, w6, w7, w8, w9, w10, w11, w12, w13, w14, w15, w16, w17, w18⟩ := w
  obtain ⟨h1, h2, h3, h4, h5, h6⟩ := h
  obtain ⟨h14, h15, h3x⟩ := h5 (by omega)
  have hle := fb_ct_le (knd kd 1) 9
  have hset := ct_set (n := 9) (t := t) (kd := kd) w8
  rw [(w16 (by omega)).1] at hset
  have good : (¬ (t = 1 ∧ ¬ fb_ct (knd kd 1) 9 < 5)) → p_X7_takesKind_26 Q (nI t) 1 S := fun hn => by
    rw [if_neg hn] at hq
    refine br_f n10 ⟨by rw [h14]; exact vp_in_nI w8 (by decide), fun S3 e3 => ?_⟩
    rw [h14, nI_clamp (by omega)] at e3
    have h16 : S3.1 25 16 = nI (fb_ct (knd kd 1) 9) := by subst e3; simp only [si_r]; simpa using h6
    have fin : ∀ d : Nat, fb_ct (knd (pt kd cur t) 1) 9 = fb_ct (knd kd 1) 9 + d → p_X7_takesKind_56 Q 1 (nI d) (S3.1 25 16) S3 := fun d hd => by
      intro S5 e5 S6 e6
      rw [h16, nI_add, ← hd] at e5
      refine ⟨bz1, hq S6 ?_ ?_⟩
      · subst e3; subst e5; subst e6
        refine ⟨?_, fun _ => ?_, ?_, ?_, fun _ => ⟨?_, ?_, fun p hp => ⟨?_, ?_⟩⟩, ?_⟩
        · simp only [si_r]; simp; rfl
        · simp only [si_r]; simpa using h2 (by omega)
        · simp only [si_r]; simpa using h3
        · intro i hi; simp only [si_r]; simpa using h4 i hi
        · simp only [si_r]; simpa using h14
        · simp only [si_r]; simpa using h15
        · simp only [si_r]
          by_cases e : p = cur
          · subst e; simp [pt_s]
          · simp [e, pt_n e]; exact (h3x p hp).1
        · simp only [si_r]; simpa using (h3x p hp).2
        · simp only [si_r]; simp
      · subst e3; subst e5; subst e6
        exact ((KM.ci (by omega)).tr (KM.sf (by omega))).tr (KM.sf (by omega))
    rcases ht with rfl | rfl
    · refine ne_f rfl (fin 1 ?_)
      simp at hset; exact hset
    · refine ne_t (by decide) (fin 0 ?_)
      simp at hset; exact hset
  refine ne_f (by rw [h1]; rfl) ?_
  rcases ht with rfl | rfl
  · refine ne_f rfl ⟨fun c => ?_, fun c => good (fun z => ?_)⟩
    · rw [h6, show (5 : Int32) = nI 5 from rfl, ni_le (by omega) (by omega)] at c
      rw [if_pos ⟨rfl, by omega⟩] at hq
      exact br_t rfl ⟨bz0, hq S (KM.rf S)⟩
    · rw [h6, show (5 : Int32) = nI 5 from rfl, ni_le (by omega) (by omega)] at c; omega
  · exact ne_t (by decide) (good (fun z => by omega))
theorem tk4_s {t : Int32} {S : St} {Q : Int32 → St → Prop} (h1 : S.1 25 10 = nI 4) (hq : Q 0 S) : p_X7_takesKind t S Q :=
  ne_t (by rw [h1]; decide) (br_t rfl ⟨bz0, hq⟩)
theorem toP_s {st n bc cur nx : Nat} {bd kd vz : Nat → Nat} {x : Int32} {S : St} {Q : Int32 → St → Prop} (hst : st = 3 ∨ st = 4) (w : RW (st, n, bc, bd, cur, nx, kd, vz)) (h : RMs S (st, n, bc, bd, cur, nx, kd, vz)) (hq : ransM S Q (rstep (st, n, bc, bd, cur, nx, kd, vz) x)) : p_X7_takesOfPerson x S Q := by
  have w0 := w
  have h0 := h
  obtain ⟨w1, w2, w3, w4, w5, w6, w7, w8, w9, w10, w11, w12, w13, w14, w15, w16, w17, w18⟩ := w
  obtain ⟨h1, h2, h3, h4, h5, h6⟩ := h
  obtain ⟨h14, h15, h3x⟩ := h5 (by omega)
  have hn1 := w3 (by omega)
  have hcn := w7 (by omega)
  have hct : fb_ct (knd kd 1) n = fb_ct (knd kd 1) 9 := knd_ct w2 hcn (fun p hp => (w10 p hp).1)
  simp only [rstep] at hq
  rw [if_neg (by omega), if_neg (by omega), if_neg (by omega), if_neg (by omega), hct] at hq
  refine ⟨fun x1 => ?_, fun x1 => ⟨fun x2 => ?_, fun x2 => ⟨fun x3 => ?_, fun x3 => ⟨fun x4 => ?_, fun x4 => ?_⟩⟩⟩⟩
  · rcases hst with rfl | rfl
    · rw [if_neg (fun z => by rw [x1] at z; exact absurd z.2.1 (by decide)), if_pos ⟨rfl, x1⟩] at hq
      refine tk_s (t := 2) (Or.inr rfl) w0 h0 ?_
      rw [if_neg (by omega)]
      exact fun S1 r k => ⟨bz1, hq S1 r k⟩
    · rw [if_neg (by omega), if_neg (by omega)] at hq
      unfold rper at hq
      rw [if_neg (by rw [x1]; decide), if_neg (by rw [x1]; decide)] at hq
      exact tk4_s h1 ⟨bz0, hq S (KM.rf S)⟩
  · rcases hst with rfl | rfl
    · refine tk_s (t := 1) (Or.inl rfl) w0 h0 ?_
      by_cases c : fb_ct (knd kd 1) 9 < 5
      · rw [if_pos ⟨rfl, x2, c⟩] at hq
        rw [if_neg (by omega)]
        exact fun S1 r k => ⟨bz1, hq S1 r k⟩
      · rw [if_neg (fun z => c z.2.2), if_neg (fun z => x1 z.2)] at hq
        unfold rper at hq
        rw [if_neg (by rw [x2]; decide), if_neg (by rw [x2]; decide)] at hq
        rw [if_pos ⟨rfl, c⟩]
        exact fun S1 k => ⟨bz0, hq S1 k⟩
    · rw [if_neg (by omega), if_neg (by omega)] at hq
      unfold rper at hq
      rw [if_neg (by rw [x2]; decide), if_neg (by rw [x2]; decide)] at hq
      exact tk4_s h1 ⟨bz0, hq S (KM.rf S)⟩
  · rw [if_neg (fun z => x2 z.2.1), if_neg (fun z => x1 z.2)] at hq
    unfold rper at hq
    rw [if_neg (by rw [x3]; decide), if_pos x3] at hq
    have hn11 := h2 (by omega)
    refine ⟨fun c => ?_, fun c => ?_⟩
    · rw [h14, hn11, ni_pred (by omega)] at c
      have c : cur ≠ n - 1 := fun q => c (by rw [q])
      rw [if_pos (by omega)] at hq
      rw [h14, nI_1]
      exact begin_s (by omega) (by omega) h0 (w10 (cur + 1) (by omega)) (fun p hp => h3x p (by omega)) hq
    · rw [h14, hn11, ni_pred (by omega)] at c
      have c := ni_inj (by omega) (by omega) c
      rw [if_neg (by omega)] at hq
      exact hq S (KM.rf S)
  · rw [if_neg (fun z => x2 z.2.1), if_neg (fun z => x1 z.2)] at hq
    unfold rper at hq
    rw [if_pos x4] at hq
    refine canB_s w2 w13 w8 (h2 (by omega)) h14 h15 (h3x cur (by omega)).2 (lt_512 (w11 cur).1 w2) ?_
    by_cases c : (if nx = cur then nx + 1 else nx) < n ∧ crd (vz cur) < 5
    · rw [if_pos c] at hq ⊢
      refine br_f n10 (fun S1 e1 => ?_)
      subst e1
      exact ne_f (by simp only [si_r]; simp) (hq _ (stage_s (t := 5) ⟨fun _ => by omega, fun _ => by omega⟩ h0) (KM.sf (by omega)))
    · rw [if_neg c] at hq ⊢
      refine br_t rfl (fun S1 e1 => ?_)
      subst e1
      refine ne_t ?_ (hq _ (KM.sf (by omega)))
      simp only [si_r, h1]; simp
      rcases hst with rfl | rfl <;> decide
  · rw [if_neg (fun z => x2 z.2.1), if_neg (fun z => x1 z.2)] at hq
    unfold rper at hq
    rw [if_neg x4, if_neg x3] at hq
    exact hq S (KM.rf S)
theorem dg48 (x : Int32) : (∀ k, 48 ≤ k → k ≤ 57 → x ≠ nI k) ↔ ¬ (0 ≤ x - 48 ∧ x - 48 ≤ 9) := by
  constructor
  · rintro h ⟨h1, h2⟩
    obtain ⟨d, hd, ed⟩ := dg_of (n := 9) (by omega) h1 h2
    refine h (d + 48) (by omega) (by omega) ?_
    rw [← nI_add, ← ed, show (nI 48 : Int32) = 48 from rfl, Int32.sub_add_cancel]
  · intro h k k1 k2 e
    apply h
    have : x - 48 = nI (k - 48) := by
      obtain ⟨j, rfl⟩ : ∃ j, k = j + 48 := ⟨k - 48, by omega⟩
      rw [e, ← nI_add, show (nI 48 : Int32) = 48 from rfl, Int32.add_sub_cancel]
      congr 1
    rw [this, show (9 : Int32) = nI 9 from rfl, ni_zero, ni_le (by omega) (by omega), ni_le (by omega) (by omega)]
    omega
theorem takes_s {ρ : Rs} {x : Int32} {S : St} {Q : Int32 → St → Prop} (w : RW ρ) (h : RMs S ρ) (hq : ransM S Q (rstep ρ x)) : p_X7_takes x S Q := by
  obtain ⟨st, n, bc, bd, cur, nx, kd, vz⟩ := ρ
  have w0 := w
  have h0 := h
  have hq0 := hq
  obtain ⟨w1, w2, w3, w4, w5, w6, w7, w8, w9, w10, w11, w12, w13, w14, w15, w16, w17, w18⟩ := w
  obtain ⟨h1, h2, h3, h4, h5, h6⟩ := h
  have sti : ∀ k : Nat, k ≤ 5 → (S.1 25 10 = nI k ↔ st = k) := fun k hk => by rw [h1]; exact ⟨fun e => ni_inj (by omega) (by omega) e, fun e => by rw [e]⟩
  simp only [rstep] at hq
  have hper : st = 3 ∨ st = 4 → p_X7_takes_132 Q x S := fun hst => by
    refine toP_s hst w0 h0 ?_
    revert hq0
    cases rstep (st, n, bc, bd, cur, nx, kd, vz) x with
    | none => exact fun hq0 S1 k => ⟨bz0, hq0 S1 k⟩
    | some r => exact fun hq0 S1 r1 k => ⟨bz1, hq0 S1 r1 k⟩
  refine ⟨fun c0 => ?_, fun c0 => ⟨fun c1 => ?_, fun c1 => ⟨fun c2 => ?_, fun c2 => ⟨fun c3 => ?_, fun c3 => ⟨fun c4 => ?_, fun c4 => ⟨fun c5 => ?_, fun c5 => ?_⟩⟩⟩⟩⟩⟩
  · have e := (sti 0 (by omega)).mp c0
    rw [if_pos e] at hq
    intro S2 e2
    have h11 : S2.1 25 11 = x - 48 := by subst e2; simp only [si_r]; simp
    rw [h11]
    have hRest : S2.1 25 12 = nI bc ∧ (∀ i, i < bc → S2.1 30 i = nI (bd i)) ∧ S2.1 25 16 = nI (fb_ct (knd kd 1) 9) := by
      subst e2
      refine ⟨?_, fun i hi => ?_, ?_⟩
      · simp only [si_r]; simpa using h3
      · simp only [si_r]; simpa using h4 i hi
      · simp only [si_r]; simpa using h6
    have hK : KM S S2 := by subst e2; exact KM.sf (by omega)
    have fin0 : (¬ (1 ≤ x - 48 ∧ x - 48 ≤ 9)) → p_X7_takes_71 Q 0 S2 := fun hn => by
      rw [if_neg hn] at hq
      intro S6 e6
      subst e6
      exact ne_t (by simp only [si_r]; simp) (hq _ (hK.tr (KM.sf (by omega))))
    refine ⟨fun c => br_t rfl (fin0 (fun z => lt1_iff.mp c z.1)), fun c => ⟨fun c5 => br_t rfl (fin0 (fun z => i_nle.mpr c5 z.2)), fun c5 => br_f n10 ?_⟩⟩
    have hok : 1 ≤ x - 48 ∧ x - 48 ≤ 9 := ⟨Decidable.of_not_not (fun z => c (lt1_iff.mpr z)), i_nlt.mp c5⟩
    rw [if_pos hok] at hq
    have hge : (0 : Int32) ≤ x - 48 := by
      have := hok.1
      rw [Int32.le_iff_toInt_le] at this ⊢
      rw [show (1 : Int32).toInt = 1 from rfl] at this; rw [Int32.toInt_zero]; omega
    obtain ⟨d, hd, ed⟩ := dg_of (n := 9) (by omega) hge hok.2
    intro S6 e6
    refine ne_f (by subst e6; simp only [si_r]; simp) (hq S6 ⟨?_, fun _ => ?_, ?_, ?_, fun q => by omega, ?_⟩ (by subst e6; exact hK.tr (KM.sf (by omega))))
    all_goals subst e6
    · simp only [si_r]; simp; rfl
    · simp only [si_r]; simp [h11]; rw [ed, nI_clamp (by omega)]
    · simp only [si_r]; simpa using hRest.1
    · intro i hi; simp only [si_r]; simpa using hRest.2.1 i hi
    · simp only [si_r]; simpa using hRest.2.2
  · have e := (sti 1 (by omega)).mp c1
    subst e
    rw [if_neg (by omega), if_pos rfl] at hq
    refine ⟨fun c => ?_, fun c => ?_⟩
    · rw [if_neg c] at hq
      intro S6 e6
      subst e6
      exact ne_t (by simp only [si_r]; simp) (hq _ (KM.sf (by omega)))
    · rw [if_pos c] at hq
      intro S6 e6
      subst e6
      exact ne_f (by simp only [si_r]; simp) (hq _ (stage_s (t := 2) ⟨fun q => by omega, fun _ => by omega⟩ h0) (KM.sf (by omega)))
  · have e := (sti 2 (by omega)).mp c2
    subst e
    rw [if_neg (by omega), if_neg (by omega), if_pos rfl] at hq
    have hB : (¬ (x = 58 ∧ 0 < bc)) → p_X7_takesBounds_20 (fun r14 S13 => bz r14 ∧ Q r14 S13) x S := fun hn => by
      rw [if_neg hn] at hq
      have no : ¬ (0 ≤ x - 48 ∧ x - 48 ≤ 9 ∧ bc < 5) → p_X7_takesBounds_43 (fun r14 S13 => bz r14 ∧ Q r14 S13) x S := fun z => by
        rw [if_neg z] at hq
        exact br_t rfl ⟨bz0, bz0, hq S (KM.rf S)⟩
      by_cases c : 0 ≤ x - 48 ∧ x - 48 ≤ 9
      · obtain ⟨d, hd, ed⟩ := dg_of (n := 9) (by omega) c.1 c.2
        have ex : x = nI (d + 48) := by rw [← nI_add, ← ed, show (nI 48 : Int32) = 48 from rfl, Int32.sub_add_cancel]
        refine wi_t (a := 48) (b := 57) ex (by omega) (by omega) (by omega) (br_f n10 ⟨fun c6 => ?_, fun c6 => ?_⟩)
        · rw [h3, show (5 : Int32) = nI 5 from rfl, ni_le (by omega) (by omega)] at c6
          exact no (fun z => by omega)
        · rw [h3, show (5 : Int32) = nI 5 from rfl, ni_le (by omega) (by omega)] at c6
          rw [if_pos ⟨c.1, c.2, by omega⟩] at hq
          refine br_f n10 ⟨by rw [h3]; exact vp_in_nI (by omega) (by decide), fun S6 e6 S7 e7 => ⟨bz1, bz1, hq S7 ⟨?_, fun _ => ?_, ?_, ?_, fun q => by omega, ?_⟩ ?_⟩⟩
          all_goals rw [h3, nI_clamp (by omega)] at e6; subst e6; subst e7
          · simp only [si_r]; simpa using h1
          · simp only [si_r]; simpa using h2 (by omega)
          · simp only [si_r]; simp [h3, nI_1]
          · intro i hi
            simp only [si_r]
            by_cases ei : i = bc
            · subst ei; simp [pt_s]; rw [ed, nI_clamp (by omega)]
            · simp [ei, pt_n ei]; exact h4 i (by omega)
          · simp only [si_r]; simpa using h6
          · exact (KM.ci (by omega)).tr (KM.sf (by omega))
      · exact wi_f (a := 48) (b := 57) (by omega) (by omega) ((dg48 x).mpr c) (br_t rfl (no (fun z => c ⟨z.1, z.2.1⟩)))
    refine ⟨fun c => hB (fun z => c z.1), fun c => ⟨fun c6 => hB (fun z => ?_), fun c6 => ?_⟩⟩
    · rw [h3, ni_zero, ni_le (by omega) (by omega)] at c6; omega
    · rw [h3, ni_zero, ni_le (by omega) (by omega)] at c6
      rw [if_pos ⟨c, by omega⟩] at hq
      have hc0 := w17 (by omega)
      obtain ⟨k1, k2, k3⟩ := w16 (by omega)
      subst hc0
      refine begin_s (c := 0) (by omega) (by omega) h0 ⟨k1, k2⟩ (fun p hp => by omega) (fun S1 r k => ⟨bz1, hq S1 ?_ k⟩)
      rw [k3]; exact r
  · exact hper (Or.inl ((sti 3 (by omega)).mp c3))
  · exact hper (Or.inr ((sti 4 (by omega)).mp c4))
  · have e := (sti 5 (by omega)).mp c5
    subst e
    rw [if_neg (by omega), if_neg (by omega), if_neg (by omega), if_pos rfl] at hq
    obtain ⟨h14, h15, h3x⟩ := h5 (by omega)
    refine canVM_s w2 w13 (h2 (by omega)) h14 h15 ?_
    by_cases c : nI nx ≤ x - 48 ∧ x - 48 < nI n ∧ x - 48 ≠ nI cur
    · rw [if_pos c] at hq ⊢
      have hge : (0 : Int32) ≤ x - 48 := by
        have := c.1
        rw [Int32.le_iff_toInt_le] at this ⊢
        rw [nI_toInt (by omega)] at this; rw [Int32.toInt_zero]; omega
      obtain ⟨d, hd, ed⟩ := dg_of (n := 9) (by omega) hge (by
        have := c.2.1
        rw [Int32.lt_iff_toInt_lt] at this; rw [Int32.le_iff_toInt_le]; rw [nI_toInt (by omega)] at this ⊢; omega)
      refine br_f n10 ⟨by rw [h14]; exact vp_in_nI w8 (by decide), by rw [h14]; exact vp_in_nI w8 (by decide), fun S4 e4 S5 e5 S6 e6 => ⟨bz1, bz1, hq S6 ⟨?_, fun _ => ?_, ?_, ?_, fun _ => ⟨?_, ?_, fun p hp => ⟨?_, ?_⟩⟩, ?_⟩ ?_⟩⟩
      all_goals rw [h14, nI_clamp (by omega), (h3x cur (by omega)).2, ed, ni_shl1 d (by omega), fa_or] at e4; subst e4; subst e5; subst e6
      · simp only [si_r]; simp; rfl
      · simp only [si_r]; simpa using h2 (by omega)
      · simp only [si_r]; simpa using h3
      · intro i hi; simp only [si_r]; simpa using h4 i hi
      · simp only [si_r]; simpa using h14
      · simp only [si_r]; simp; rw [ed, nI_clamp (by omega), nI_pred]
      · simp only [si_r]; simpa using (h3x p hp).1
      · simp only [si_r]
        by_cases ep : p = cur
        · subst ep; simp [pt_s]; rw [ed, nI_clamp (by omega)]
        · simp [ep, pt_n ep]; exact (h3x p hp).2
      · simp only [si_r]; simpa using h6
      · exact ((KM.ci (by omega)).tr (KM.sf (by omega))).tr (KM.sf (by omega))
    · rw [if_neg c] at hq ⊢
      exact br_t rfl ⟨bz0, bz0, hq S (KM.rf S)⟩
  · have a0 := mt (sti 0 (by omega)).mpr c0
    have a1 := mt (sti 1 (by omega)).mpr c1
    have a2 := mt (sti 2 (by omega)).mpr c2
    have a3 := mt (sti 3 (by omega)).mpr c3
    have a4 := mt (sti 4 (by omega)).mpr c4
    have a5 := mt (sti 5 (by omega)).mpr c5
    omega
