/-! ===== tight sets ===== -/
theorem crd_split {T R : Nat} (hT : T < 2 ^ 32) : crd T = crd (df T R) + crd (T &&& R) := by
  have : ∀ m, fb_ct (fun k => T.testBit k) m = fb_ct (fun k => (df T R).testBit k) m + fb_ct (fun k => (T &&& R).testBit k) m := by
    intro m
    induction m with
    | zero => rfl
    | succ m ih =>
      rw [fb_ct_succ, fb_ct_succ, fb_ct_succ, ih, df_tb hT, Nat.testBit_and]
      cases T.testBit m <;> cases R.testBit m <;> simp <;> omega
  exact this 9
theorem crd_and_lt {a b n : Nat} (ha : a < 2 ^ n) : a &&& b < 2 ^ n := Nat.lt_of_le_of_lt Nat.and_le_left ha
section Ti
variable {n sd : Nat} {vz lim : Nat → Nat}
theorem submod (hn : n ≤ 9) (hs : sd < 2 ^ n) (hv : ∀ p, p < n → vz p < 2 ^ n) (R1 R2 : Nat) : lsm n lim (wal n sd vz (R1 &&& R2)) + lsm n lim (wal n sd vz (R1 ||| R2)) ≤ lsm n lim (wal n sd vz R1) + lsm n lim (wal n sd vz R2) := by
  unfold lsm
  rw [← fb_sm_add, ← fb_sm_add]
  refine fb_sm_le (fun p hp => ?_)
  show (if (wal n sd vz (R1 &&& R2)).testBit p = true then lim p else 0) + (if (wal n sd vz (R1 ||| R2)).testBit p = true then lim p else 0) ≤ (if (wal n sd vz R1).testBit p = true then lim p else 0) + (if (wal n sd vz R2).testBit p = true then lim p else 0)
  rw [wal_tb hn hs hv, wal_tb hn hs hv, wal_tb hn hs hv, wal_tb hn hs hv, Nat.testBit_and, Nat.testBit_or]
  have e1 : (vbm vz (R1 ||| R2) n).testBit p = ((vbm vz R1 n).testBit p || (vbm vz R2 n).testBit p) := by
    rw [Bool.eq_iff_iff, Bool.or_eq_true, vbm_tb, vbm_tb, vbm_tb]
    constructor
    · rintro ⟨q, q1, q2, q3⟩
      rw [Nat.testBit_or, Bool.or_eq_true] at q2
      rcases q2 with z | z
      · exact Or.inl ⟨q, q1, z, q3⟩
      · exact Or.inr ⟨q, q1, z, q3⟩
    · rintro (⟨q, q1, q2, q3⟩ | ⟨q, q1, q2, q3⟩)
      · exact ⟨q, q1, by rw [Nat.testBit_or, q2]; rfl, q3⟩
      · exact ⟨q, q1, by rw [Nat.testBit_or, q2]; simp, q3⟩
  have e2 : (vbm vz (R1 &&& R2) n).testBit p = true → (vbm vz R1 n).testBit p = true ∧ (vbm vz R2 n).testBit p = true := by
    rw [vbm_tb, vbm_tb, vbm_tb]
    rintro ⟨q, q1, q2, q3⟩
    rw [Nat.testBit_and, Bool.and_eq_true] at q2
    exact ⟨⟨q, q1, q2.1, q3⟩, ⟨q, q1, q2.2, q3⟩⟩
  rw [e1]
  revert e2
  generalize (vbm vz (R1 &&& R2) n).testBit p = vi
  generalize (vbm vz R1 n).testBit p = v1
  generalize (vbm vz R2 n).testBit p = v2
  generalize R1.testBit p = r1
  generalize R2.testBit p = r2
  generalize sd.testBit p = s
  intro e2
  cases vi
  · cases s <;> cases v1 <;> cases v2 <;> cases r1 <;> cases r2 <;> simp
  · obtain ⟨z1, z2⟩ := e2 rfl
    subst z1 z2
    cases s <;> cases r1 <;> cases r2 <;> simp
theorem crd_mod {T : Nat} (hn : n ≤ 9) (hT : T < 2 ^ n) (R1 R2 : Nat) : crd (df T (R1 &&& R2)) + crd (df T (R1 ||| R2)) = crd (df T R1) + crd (df T R2) := by
  rw [← kept_crd hn hT, ← kept_crd hn hT, ← kept_crd hn hT, ← kept_crd hn hT, ← fb_sm_add, ← fb_sm_add]
  refine fb_sm_cong (fun p hp => ?_)
  show (if (R1 &&& R2).testBit p = true then 0 else b1 T p) + (if (R1 ||| R2).testBit p = true then 0 else b1 T p) = (if R1.testBit p = true then 0 else b1 T p) + (if R2.testBit p = true then 0 else b1 T p)
  rw [Nat.testBit_and, Nat.testBit_or]
  cases R1.testBit p <;> cases R2.testBit p <;> simp
def tgt (n sd : Nat) (vz lim : Nat → Nat) (T R : Nat) : Prop := R < 2 ^ n ∧ crd (df T R) = lsm n lim (wal n sd vz R)
theorem tgt_and {T R1 R2 : Nat} (hn : n ≤ 9) (hs : sd < 2 ^ n) (hv : ∀ p, p < n → vz p < 2 ^ n) (hT : T < 2 ^ n) (hc : cbe n sd vz lim T) (h1 : tgt n sd vz lim T R1) (h2 : tgt n sd vz lim T R2) : tgt n sd vz lim T (R1 &&& R2) := by
  have l1 : R1 &&& R2 < 2 ^ n := crd_and_lt h1.1
  have l2 : R1 ||| R2 < 2 ^ n := Nat.or_lt_two_pow h1.1 h2.1
  have a1 := hc _ l1
  have a2 := hc _ l2
  have a3 := submod (lim := lim) hn hs hv R1 R2
  have a4 := crd_mod hn hT R1 R2
  have a5 := h1.2
  have a6 := h2.2
  exact ⟨l1, by omega⟩
theorem df_full {T n : Nat} (hn : n ≤ 9) (hT : T < 2 ^ n) : df T (2 ^ n - 1) = 0 := tb_ext (fun i => by
  rw [df_tb (pw32 hn hT), Nat.testBit_two_pow_sub_one, Nat.zero_testBit]
  by_cases h : i < n
  · simp [h]
  · rw [tb_ge hT (by omega)]; rfl)
theorem crd_0 : crd 0 = 0 := by decide
theorem lsm_0 (n : Nat) (lim : Nat → Nat) : lsm n lim 0 = 0 := sm_if0 (fun k _ => by rw [Nat.zero_testBit]; rfl)
theorem tgt_full {T : Nat} (hn : n ≤ 9) (hs : sd < 2 ^ n) (hv : ∀ p, p < n → vz p < 2 ^ n) (hT : T < 2 ^ n) : tgt n sd vz lim T (2 ^ n - 1) := by
  refine ⟨by have := Nat.two_pow_pos n; omega, ?_⟩
  rw [df_full hn hT, crd_0]
  unfold wal
  rw [df_full hn (Nat.or_lt_two_pow hs (vbm_lt hv)), lsm_0]
theorem adm_step (cand p : Nat) : adm n sd vz lim cand (p + 1) = if cand.testBit p = true ∧ cbb n sd vz lim (adm n sd vz lim cand p ||| 2 ^ p) = true then adm n sd vz lim cand p ||| 2 ^ p else adm n sd vz lim cand p := rfl
theorem adm_cbe (cand : Nat) : ∀ i, cbe n sd vz lim (adm n sd vz lim cand i)
  | 0 => fun R _ => by
    show crd (df 0 R) ≤ _
    have : df 0 R = 0 := tb_ext (fun i => by rw [df_tb (by decide)]; simp)
    rw [this, crd_0]; omega
  | i + 1 => by
    rw [adm_step]
    split
    · rename_i h; exact cbb_t.mp h.2
    · exact adm_cbe cand i
theorem adm_sub (cand : Nat) : ∀ i q, (adm n sd vz lim cand i).testBit q = true → cand.testBit q = true
  | 0, q => fun h => by
    have : (0 : Nat).testBit q = true := h
    rw [Nat.zero_testBit] at this; cases this
  | i + 1, q => by
    rw [adm_step]
    split
    · rename_i h
      rw [fb_bit_set, Bool.or_eq_true]
      rintro (z | z)
      · exact adm_sub cand i q z
      · have : q = i := by simpa using z
        rw [this]; exact h.1
    · exact adm_sub cand i q
theorem adm_mono (cand : Nat) {i : Nat} : ∀ j, i ≤ j → ∀ q, (adm n sd vz lim cand i).testBit q = true → (adm n sd vz lim cand j).testBit q = true
  | 0, h => fun q hq => by
    have : i = 0 := by omega
    rw [this] at hq; exact hq
  | j + 1, h => fun q hq => by
    by_cases e : i = j + 1
    · rw [← e]; exact hq
    · have := adm_mono cand j (by omega) q hq
      rw [adm_step]
      split
      · rw [fb_bit_set, this]; rfl
      · exact this
theorem adm_ref (hn : n ≤ 9) (cand : Nat) {q : Nat} (hq : q < n) (h1 : cand.testBit q = true) (h2 : (adm n sd vz lim cand n).testBit q = false) : ¬ cbe n sd vz lim (adm n sd vz lim cand n ||| 2 ^ q) := by
  intro hc
  have hl := adm_lt n sd vz lim cand n
  have hlq : adm n sd vz lim cand q < 2 ^ n := Nat.lt_of_lt_of_le (adm_lt n sd vz lim cand q) (Nat.pow_le_pow_right (by omega) (by omega))
  have h2q : 2 ^ q < 2 ^ n := Nat.pow_lt_pow_right (by omega) hq
  have hc2 : cbe n sd vz lim (adm n sd vz lim cand q ||| 2 ^ q) := cbe_mono hn (Nat.or_lt_two_pow hlq h2q) (Nat.or_lt_two_pow hl h2q) (fun i hi => by
    rw [fb_bit_set, Bool.or_eq_true] at hi ⊢
    rcases hi with z | z
    · exact Or.inl (adm_mono cand n (by omega) i z)
    · exact Or.inr z) hc
  have e : adm n sd vz lim cand (q + 1) = adm n sd vz lim cand q ||| 2 ^ q := by rw [adm_step, if_pos ⟨h1, cbb_t.mpr hc2⟩]
  have : (adm n sd vz lim cand (q + 1)).testBit q = true := by rw [e, fb_bit_set]; simp
  rw [adm_mono cand n (by omega) q this] at h2; cases h2
theorem ref_tgt {T q : Nat} (hn : n ≤ 9) (hT : T < 2 ^ n) (hq : q < n) (hTq : T.testBit q = false) (hc : cbe n sd vz lim T) (hx : ¬ cbe n sd vz lim (T ||| 2 ^ q)) : ∃ R, tgt n sd vz lim T R ∧ R.testBit q = false := by
  refine Classical.byContradiction fun hno => hx (fun R hR => ?_)
  have hT2 : T ||| 2 ^ q < 2 ^ n := Nat.or_lt_two_pow hT (Nat.pow_lt_pow_right (by omega) hq)
  have h0 := hc R hR
  by_cases hRq : R.testBit q = true
  · have e : df (T ||| 2 ^ q) R = df T R := tb_ext (fun i => by
      rw [df_tb (pw32 hn hT2), fb_bit_set, df_tb (pw32 hn hT)]
      by_cases ei : i = q
      · subst ei; simp [hRq]
      · simp [ei])
    rw [e]; exact h0
  · have hRq' := bool_f hRq
    have e : df (T ||| 2 ^ q) R = df T R ||| 2 ^ q := tb_ext (fun i => by
      rw [df_tb (pw32 hn hT2), fb_bit_set, fb_bit_set, df_tb (pw32 hn hT)]
      by_cases ei : i = q
      · subst ei; simp [hRq']
      · simp [ei])
    rw [e, crd_or (by omega) (by rw [df_tb (pw32 hn hT), hTq]; rfl)]
    rcases Nat.lt_or_ge (crd (df T R)) (lsm n lim (wal n sd vz R)) with z | z
    · omega
    · exact absurd ⟨R, ⟨hR, by omega⟩, hRq'⟩ hno
theorem adm_tgt (hn : n ≤ 9) (hs : sd < 2 ^ n) (hv : ∀ p, p < n → vz p < 2 ^ n) (F : Nat) : ∃ R, tgt n sd vz lim (adm n sd vz lim F n) R ∧ ∀ q, q < n → F.testBit q = true → R.testBit q = true → (adm n sd vz lim F n).testBit q = true := by
  have hT := adm_lt n sd vz lim F n
  have hc := adm_cbe (n := n) (sd := sd) (vz := vz) (lim := lim) F n
  have : ∀ i, i ≤ n → ∃ R, tgt n sd vz lim (adm n sd vz lim F n) R ∧ ∀ q, q < i → F.testBit q = true → R.testBit q = true → (adm n sd vz lim F n).testBit q = true := by
    intro i
    induction i with
    | zero => exact fun _ => ⟨2 ^ n - 1, tgt_full hn hs hv hT, fun q hq => absurd hq (Nat.not_lt_zero _)⟩
    | succ i ih =>
      intro hi
      obtain ⟨R, r1, r2⟩ := ih (by omega)
      by_cases h : F.testBit i = true ∧ (adm n sd vz lim F n).testBit i = false
      · obtain ⟨R2, s1, s2⟩ := ref_tgt hn hT (by omega) h.2 hc (adm_ref hn F (by omega) h.1 h.2)
        refine ⟨R &&& R2, tgt_and hn hs hv hT hc r1 s1, fun q hq f1 f2 => ?_⟩
        rw [Nat.testBit_and, Bool.and_eq_true] at f2
        rcases Nat.lt_or_ge q i with z | z
        · exact r2 q z f1 f2.1
        · have : q = i := by omega
          rw [this, s2] at f2; cases f2.2
      · refine ⟨R, r1, fun q hq f1 f2 => ?_⟩
        rcases Nat.lt_or_ge q i with z | z
        · exact r2 q z f1 f2
        · have : q = i := by omega
          subst this
          exact bool_t (fun e => h ⟨f1, e⟩)
  exact this n (Nat.le_refl n)
/-- one after another is as many as can be -/
theorem adm_max (hn : n ≤ 9) (hs : sd < 2 ^ n) (hv : ∀ p, p < n → vz p < 2 ^ n) {F U : Nat} (hU : U < 2 ^ n) (hUF : ∀ q, U.testBit q = true → F.testBit q = true) (hc : cbe n sd vz lim U) : crd U ≤ crd (adm n sd vz lim F n) := by
  obtain ⟨R, r1, r2⟩ := adm_tgt (lim := lim) hn hs hv F
  have hT := adm_lt n sd vz lim F n
  have a1 := hc R r1.1
  have a2 := r1.2
  have a3 := crd_split (R := R) (pw32 hn hU)
  have a4 := crd_split (R := R) (pw32 hn hT)
  have a5 : crd (U &&& R) ≤ crd (adm n sd vz lim F n &&& R) := crd_sub (fun i hi => by
    rw [Nat.testBit_and, Bool.and_eq_true] at hi ⊢
    exact ⟨r2 i (tb_lt hU hi.1) (hUF i hi.1) hi.2, hi.2⟩)
  omega
theorem adm_all (hn : n ≤ 9) {F : Nat} (hF : F < 2 ^ n) : adm n sd vz lim F n = F ↔ cbe n sd vz lim F := by
  constructor
  · intro e
    have := adm_cbe (n := n) (sd := sd) (vz := vz) (lim := lim) F n
    rw [e] at this; exact this
  · intro hc
    refine tb_ext' (adm_lt n sd vz lim F n) hF (fun i hi => ?_)
    cases hb : F.testBit i
    · exact bool_f (fun z => by rw [adm_sub F n i z] at hb; cases hb)
    · refine bool_t (fun z => adm_ref hn F hi hb z (cbe_mono hn (Nat.or_lt_two_pow (adm_lt n sd vz lim F n) (Nat.pow_lt_pow_right (by omega) hi)) hF (fun q hq => ?_) hc))
      rw [fb_bit_set, Bool.or_eq_true] at hq
      rcases hq with y | y
      · exact adm_sub F n q y
      · have : q = i := by simpa using y
        rw [this]; exact hb
end Ti
