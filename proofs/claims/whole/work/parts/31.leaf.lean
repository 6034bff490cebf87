/-! ===== small methods ===== -/
theorem Lq_rel {α : Type} {F : (α → Prop) → α → Prop} (n : Nat) (I : Nat → α → Prop) (h : ∀ i a, i < n → I i a → ∀ K : α → Prop, (∀ a', I (i + 1) a' → K a') → F K a) (hx : ∀ a, I n a → ∀ K : α → Prop, F K a) : ∀ i a, i ≤ n → I i a → Lq F a := by
  have key : ∀ d i a, n - i = d → i ≤ n → I i a → Lp F (d + 1) a := by
    intro d
    induction d with
    | zero => intro i a hd hi ha; have e : i = n := by omega
              subst e; exact hx a ha _
    | succ d ih => intro i a hd hi ha; exact h i a (by omega) ha _ (fun a' h' => ih (i + 1) a' (by omega) (by omega) h')
  exact fun i a hi ha => ⟨_, key _ i a rfl hi ha⟩
theorem Lq_cnt {α : Type} {F : (α → Prop) → α → Prop} (n : Nat) (st : Nat → α) (h : ∀ i, i < n → ∀ K : α → Prop, K (st (i + 1)) → F K (st i)) (hx : ∀ K : α → Prop, F K (st n)) : Lq F (st 0) :=
  Lq_rel n (fun i a => a = st i) (fun i a hi ha K hK => by rw [ha]; exact h i hi K (hK _ rfl)) (fun a ha K => by rw [ha]; exact hx K) 0 _ (Nat.zero_le _) rfl
theorem nin {n : Nat} (h : n ≤ 1000000) : n < 2 ^ 31 := by omega
theorem ni_inj {a b : Nat} (ha : a ≤ 1000000) (hb : b ≤ 1000000) (h : nI a = nI b) : a = b := (nI_eq (nin ha) (nin hb)).mp h
theorem ni_le {a b : Nat} (ha : a ≤ 1000000) (hb : b ≤ 1000000) : nI a ≤ nI b ↔ a ≤ b := nI_leI (nin ha) (nin hb)
theorem ni_lt {a b : Nat} (ha : a ≤ 1000000) (hb : b ≤ 1000000) : nI a < nI b ↔ a < b := nI_ltI (nin ha) (nin hb)
theorem ni_nneg {a : Nat} (ha : a ≤ 1000000) : ¬ nI a < 0 := nI_pos (nin ha)
theorem ni_pred {n : Nat} (h : 0 < n) : nI n - 1 = nI (n - 1) := by
  obtain ⟨m, rfl⟩ : ∃ m, n = m + 1 := ⟨n - 1, by omega⟩
  exact nI_pred m
theorem has_t {S : St} {n p : Nat} {Q : Int32 → St → Prop} (hn : S.1 2 0 = nI n) (h9 : n ≤ 9) (hp : p < n) (h : Q 1 S) : p_X0_has (nI p) S Q := by
  refine br_f (ni_nneg (by omega)) (br_f ?_ h)
  rw [hn, ni_le (by omega) (by omega)]; omega
theorem has_f {S : St} {n : Nat} {x : Int32} {Q : Int32 → St → Prop} (hn : S.1 2 0 = nI n) (h9 : n ≤ 9) (hx : ∀ p, p < n → x ≠ nI p) (h : Q 0 S) : p_X0_has x S Q := by
  refine ⟨fun _ => h, fun h0 => ⟨fun _ => h, fun h1 => ?_⟩⟩
  rw [hn] at h1
  obtain ⟨j, hj, e⟩ := rng_of (by omega) h0 h1
  exact absurd e (hx j hj)
theorem pair_t {S : St} {n p q : Nat} {Q : Int32 → St → Prop} (hn : S.1 2 0 = nI n) (h9 : n ≤ 9) (hp : p < n) (hq : q < n) (hpq : p ≠ q) (h : Q 1 S) : p_X0_hasPair (nI p) (nI q) S Q := by
  refine has_t hn h9 hp (br_f n10 (has_t hn h9 hq (br_f n10 (br_f ?_ h))))
  exact fun e => hpq (ni_inj (by omega) (by omega) e)
theorem pair_f {S : St} {n : Nat} {x y : Int32} {Q : Int32 → St → Prop} (hn : S.1 2 0 = nI n) (h9 : n ≤ 9) (hx : ∀ p q, p < n → q < n → p ≠ q → x = nI p → y ≠ nI q) (h : Q 0 S) : p_X0_hasPair x y S Q := by
  by_cases h1 : ∃ p, p < n ∧ x = nI p
  · obtain ⟨p, hp, rfl⟩ := h1
    refine has_t hn h9 hp (br_f n10 ?_)
    by_cases h2 : ∃ q, q < n ∧ y = nI q
    · obtain ⟨q, hq, rfl⟩ := h2
      refine has_t hn h9 hq (br_f n10 (br_t ?_ h))
      by_cases e : p = q
      · rw [e]
      · exact absurd rfl (hx p q hp hq e rfl)
    · exact has_f hn h9 (fun q hq e => h2 ⟨q, hq, e⟩) (br_t rfl h)
  · exact has_f hn h9 (fun p hp e => h1 ⟨p, hp, e⟩) (br_t rfl h)
theorem isP_t {S : St} {n p : Nat} {Q : Int32 → St → Prop} (hn : S.1 25 0 = nI n) (h9 : n ≤ 9) (hp : p < n) (h : Q 1 S) : p_X7_isPerson (nI p) S Q := by
  refine br_f (ni_nneg (by omega)) (br_f ?_ ⟨bz1, h⟩)
  rw [hn, ni_pred (by omega), ni_lt (by omega) (by omega)]; omega
theorem isP_f {S : St} {n : Nat} {x : Int32} {Q : Int32 → St → Prop} (hn : S.1 25 0 = nI n) (h9 : n ≤ 9) (hx : ∀ p, p < n → x ≠ nI p) (h : Q 0 S) : p_X7_isPerson x S Q := by
  refine ⟨fun _ => ⟨bz0, h⟩, fun h0 => ⟨fun _ => ⟨bz0, h⟩, fun h1 => ?_⟩⟩
  exfalso
  rw [hn] at h1
  by_cases z : n = 0
  · subst z
    apply h1
    obtain ⟨j, hj, rfl⟩ := nI_of h0
    rw [Int32.lt_iff_toInt_lt, nI_toInt hj, show (nI 0 - 1 : Int32).toInt = -1 from by decide +kernel]
    omega
  · rw [ni_pred (by omega)] at h1
    obtain ⟨j, hj, rfl⟩ := nI_of h0
    have : j < n := by
      rcases Nat.lt_or_ge j n with q | q
      · exact q
      · exact absurd (nI_lt (a := n - 1) (b := j) (by omega) hj) h1
    exact hx j this rfl
theorem two_t {S : St} {n p q : Nat} {Q : Int32 → St → Prop} (hn : S.1 25 0 = nI n) (h9 : n ≤ 9) (hp : p < n) (hq : q < n) (hpq : p ≠ q) (h : Q 1 S) : p_X7_areTwo (nI p) (nI q) S Q := by
  refine isP_t hn h9 hp (br_f n10 (isP_t hn h9 hq (br_f n10 (br_f ?_ h))))
  exact fun e => hpq (ni_inj (by omega) (by omega) e)
theorem two_f {S : St} {n : Nat} {x y : Int32} {Q : Int32 → St → Prop} (hn : S.1 25 0 = nI n) (h9 : n ≤ 9) (hx : ∀ p q, p < n → q < n → p ≠ q → x = nI p → y ≠ nI q) (h : Q 0 S) : p_X7_areTwo x y S Q := by
  by_cases h1 : ∃ p, p < n ∧ x = nI p
  · obtain ⟨p, hp, rfl⟩ := h1
    refine isP_t hn h9 hp (br_f n10 ?_)
    by_cases h2 : ∃ q, q < n ∧ y = nI q
    · obtain ⟨q, hq, rfl⟩ := h2
      refine isP_t hn h9 hq (br_f n10 (br_t ?_ h))
      by_cases e : p = q
      · rw [e]
      · exact absurd rfl (hx p q hp hq e rfl)
    · exact isP_f hn h9 (fun q hq e => h2 ⟨q, hq, e⟩) (br_t rfl h)
  · exact isP_f hn h9 (fun p hp e => h1 ⟨p, hp, e⟩) (br_t rfl h)
/-- a bit -/
theorem bit_s {m k : Nat} {S : St} {Q : Int32 → St → Prop} (hm : m < 2 ^ 31) (hk : k < 32) (h : Q (nI (b1 m k)) S) : p_X6_bit (nI m) (nI k) S Q := by
  show Q _ S
  rw [ni_bit hm hk]; exact h
theorem hasM_t {m k : Nat} {S : St} {Q : Int32 → St → Prop} (hm : m < 2 ^ 31) (hk : k < 32) (hb : m.testBit k = true) (h : Q 1 S) : p_X7_has (nI m) (nI k) S Q := by
  refine ne_f ?_ h
  rw [ni_bit hm hk, b1_t hb]; rfl
theorem hasM_f {m k : Nat} {S : St} {Q : Int32 → St → Prop} (hm : m < 2 ^ 31) (hk : k < 32) (hb : m.testBit k = false) (h : Q 0 S) : p_X7_has (nI m) (nI k) S Q := by
  refine ne_t ?_ h
  rw [ni_bit hm hk, b1_f hb]; decide
theorem ge9 {i : Nat} (h : i < 9) : ¬ (9 : Int32) ≤ nI i := by
  rw [show (9 : Int32) = nI 9 from rfl, ni_le (by omega) (by omega)]; omega
theorem ge9' : (9 : Int32) ≤ nI 9 := by decide
theorem size_s {m : Nat} {S : St} {Q : Int32 → St → Prop} (hm : m < 2 ^ 31) (h : Q (nI (crd m)) S) : p_X7_size (nI m) S Q := by
  refine Lq_cnt 9 (fun i => (nI m, nI (fb_ct (fun k => m.testBit k) i), nI i, S)) (fun i hi K hK => ?_) (fun K => ?_)
  · refine br_f (ge9 hi) ?_
    rw [ni_bit hm (by omega), nI_add, nI_1]
    exact hK
  · exact br_t ge9' h
def bc32 (x : Int32) : Int32 :=
  let v1 := (x - ((x.toUInt32 >>> (Int32.toUInt32 1 &&& Int32.toUInt32 31)).toInt32 &&& 1431655765))
  let v2 := ((v1 &&& 858993459) + ((v1.toUInt32 >>> (Int32.toUInt32 2 &&& Int32.toUInt32 31)).toInt32 &&& 858993459))
  let v3 := ((v2 + (v2.toUInt32 >>> (Int32.toUInt32 4 &&& Int32.toUInt32 31)).toInt32) &&& 252645135)
  let v4 := (v3 + (v3.toUInt32 >>> (Int32.toUInt32 8 &&& Int32.toUInt32 31)).toInt32)
  let v5 := (v4 + (v4.toUInt32 >>> (Int32.toUInt32 16 &&& Int32.toUInt32 31)).toInt32)
  v5 &&& 63
theorem bc32_all : ∀ m, m < 512 → bc32 (nI m) = nI (crd m) := by decide +kernel
theorem bc_s {m : Nat} {S : St} {Q : Int32 → St → Prop} (hm : m < 512) (h : Q (nI (crd m)) S) : p_J6_bitCount_0f7a4 (nI m) S Q := by
  intro v1 e1 v2 e2 v3 e3 v4 e4 v5 e5
  have e : (v5 &&& 63) = bc32 (nI m) := by rw [e5, e4, e3, e2, e1]; rfl
  rw [e, bc32_all m hm]; exact h
theorem hasV {S : St} {p q m : Nat} {Q : Int32 → St → Prop} (hp : p < 9) (hq : q < 9) (hv : S.1 5 p = nI m) (hm : m < 512) (h : Q (nI (b1 m q)) S) : p_X0_hasVouch (nI p) (nI q) S Q := by
  refine ⟨vp_in_nI hp (by decide), ?_⟩
  rw [nI_clamp (by omega), hv]
  refine bit_s (by omega) (by omega) ?_
  by_cases hb : m.testBit q = true
  · rw [b1_t hb] at h ⊢; exact ne_f rfl h
  · rw [b1_n hb] at h ⊢; exact ne_t (by decide) h
theorem ex_t {S : St} {n : Nat} {Q : Int32 → St → Prop} (hn : S.1 2 0 = nI n) (h9 : n ≤ 9) (h0 : 0 < n) (h : Q 1 S) : p_X0_exists S Q := by
  refine br_f ?_ h
  rw [hn, ni_zero, ni_le (by omega) (by omega)]; omega
theorem ex_f {S : St} {Q : Int32 → St → Prop} (hn : S.1 2 0 = nI 0) (h : Q 0 S) : p_X0_exists S Q := by
  refine br_t ?_ h
  rw [hn]; decide
theorem isC_t {S : St} {n : Nat} {Q : Int32 → St → Prop} (hn : S.1 25 0 = nI n) (h9 : n ≤ 9) (h0 : 0 < n) (h : Q 1 S) : p_X7_isCircle S Q := by
  refine br_f ?_ h
  rw [hn, ni_zero, ni_le (by omega) (by omega)]; omega
theorem isC_f {S : St} {Q : Int32 → St → Prop} (hn : S.1 25 0 = nI 0) (h : Q 0 S) : p_X7_isCircle S Q := by
  refine br_t ?_ h
  rw [hn]; decide
theorem all_eq : ∀ n, n ≤ 9 → ((1 : Int32) <<< (nI n &&& 31)) - 1 = nI (2 ^ n - 1) := by decide +kernel
theorem all_s {S : St} {n : Nat} {Q : Int32 → St → Prop} (hn : S.1 2 0 = nI n) (h9 : n ≤ 9) (h : Q (nI (2 ^ n - 1)) S) : p_X0_everyone S Q := by
  show Q _ S
  rw [hn, all_eq n h9]; exact h
/-- who is of a kind -/
def knd (kd : Nat → Nat) (t : Nat) : Nat → Bool := fun p => kd p == t
theorem mkm_step (P : Nat → Bool) (i : Nat) (hi : i < 31) (c : Prop) [Decidable c] (hc : c ↔ P i = true) : nI (mkm i P) ||| (if c then (1 : Int32) <<< (nI i &&& 31) else 0) = nI (mkm (i + 1) P) := by
  rw [mkm, ni_shl1 i (by omega)]
  by_cases h : P i = true
  · rw [if_pos (hc.mpr h), if_pos h, fa_or]
  · rw [if_neg (fun q => h (hc.mp q)), if_neg h, ni_zero, fa_or]
theorem ofK_s {S : St} {n t : Nat} {kd : Nat → Nat} {Q : Int32 → St → Prop} (hn : S.1 2 0 = nI n) (h9 : n ≤ 9) (hk : ∀ p, p < n → S.1 4 p = nI (kd p) ∧ kd p ≤ 2) (ht : t ≤ 2) (h : Q (nI (mkm n (knd kd t))) S) : p_X0_ofKind (nI t) S Q := by
  refine Lq_cnt n (fun i => (nI t, nI (mkm i (knd kd t)), nI i, S)) (fun i hi K hK => ?_) (fun K => ?_)
  · refine br_f ?_ ⟨vp_in_nI (by omega) (by decide), ?_⟩
    · rw [hn, ni_le (by omega) (by omega)]; omega
    · rw [nI_clamp (by omega), (hk i hi).1]
      have e := mkm_step (knd kd t) i (by omega) (nI (kd i) = nI t) (by
        unfold knd
        constructor
        · intro q; have := ni_inj (by have := (hk i hi).2; omega) (by omega) q; simp [this]
        · intro q; have : kd i = t := by simpa using q
          rw [this])
      refine ⟨fun c => ?_, fun c => ?_⟩
      · rw [if_neg c, ni_zero, fa_or, Nat.or_zero] at e
        show K (_, _, _, _)
        rw [nI_1, e]; exact hK
      · rw [if_pos c] at e
        show K (_, _, _, _)
        rw [nI_1, e]; exact hK
  · refine br_t ?_ h
    rw [hn, ni_le (by omega) (by omega)]; omega
theorem ofKM_s {S : St} {n t : Nat} {kd : Nat → Nat} {Q : Int32 → St → Prop} (hn : S.1 25 0 = nI n) (h9 : n ≤ 9) (hk : ∀ p, p < n → S.1 26 p = nI (kd p) ∧ kd p ≤ 2) (ht : t ≤ 2) (h : Q (nI (mkm n (knd kd t))) S) : p_X7_ofKind (nI t) S Q := by
  refine Lq_cnt n (fun i => (nI t, nI (mkm i (knd kd t)), nI i, S)) (fun i hi K hK => ?_) (fun K => ?_)
  · refine br_f ?_ ⟨vp_in_nI (by omega) (by decide), ?_⟩
    · rw [hn, ni_le (by omega) (by omega)]; omega
    · rw [nI_clamp (by omega), (hk i hi).1]
      have e := mkm_step (knd kd t) i (by omega) (nI (kd i) = nI t) (by
        unfold knd
        constructor
        · intro q; have := ni_inj (by have := (hk i hi).2; omega) (by omega) q; simp [this]
        · intro q; have : kd i = t := by simpa using q
          rw [this])
      refine ⟨fun c => ?_, fun c => ?_⟩
      · rw [if_neg c] at e
        show K (_, _, _, _)
        rw [nI_1, e]; exact hK
      · rw [if_pos c] at e
        show K (_, _, _, _)
        rw [nI_1, e]; exact hK
  · refine br_t ?_ h
    rw [hn, ni_le (by omega) (by omega)]; omega
theorem ofKd_s {S : St} {n t : Nat} {kd : Nat → Nat} {Q : Int32 → St → Prop} (hn : S.1 7 0 = nI n) (h9 : n ≤ 9) (hk : ∀ p, p < n → S.1 9 p = nI (kd p) ∧ kd p ≤ 2) (ht : t ≤ 2) (h : Q (nI (mkm n (knd kd t))) S) : p_X0_ofKind_c7 (nI t) S Q := by
  refine Lq_cnt n (fun i => (nI t, nI (mkm i (knd kd t)), nI i, S)) (fun i hi K hK => ?_) (fun K => ?_)
  · refine br_f ?_ ⟨vp_in_nI (by omega) (by decide), ?_⟩
    · rw [hn, ni_le (by omega) (by omega)]; omega
    · rw [nI_clamp (by omega), (hk i hi).1]
      have e := mkm_step (knd kd t) i (by omega) (nI (kd i) = nI t) (by
        unfold knd
        constructor
        · intro q; have := ni_inj (by have := (hk i hi).2; omega) (by omega) q; simp [this]
        · intro q; have : kd i = t := by simpa using q
          rw [this])
      refine ⟨fun c => ?_, fun c => ?_⟩
      · rw [if_neg c, ni_zero, fa_or, Nat.or_zero] at e
        show K (_, _, _, _)
        rw [nI_1, e]; exact hK
      · rw [if_pos c] at e
        show K (_, _, _, _)
        rw [nI_1, e]; exact hK
  · refine br_t ?_ h
    rw [hn, ni_le (by omega) (by omega)]; omega
