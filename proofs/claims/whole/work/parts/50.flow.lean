/-! ===== flows and cuts: numbers alone ===== -/
theorem sm_swap (f : Nat → Nat → Nat) (m : Nat) : ∀ n, fb_sm (fun q => fb_sm (fun b => f q b) m) n = fb_sm (fun b => fb_sm (fun q => f q b) n) m
  | 0 => by
    have : ∀ m, fb_sm (fun _ => 0) m = 0 := fun m => by rw [fb_sm_const]; omega
    exact (this m).symm
  | n + 1 => by
    rw [fb_sm_succ, sm_swap f m n, ← fb_sm_add]
    exact fb_sm_cong (fun b _ => (fb_sm_succ _ n).symm)
theorem sm_if0 {f : Nat → Nat} {n : Nat} (h : ∀ k, k < n → f k = 0) : fb_sm f n = 0 := by
  rw [fb_sm_cong (g := fun _ => 0) h, fb_sm_const]; omega
theorem sm_split (P : Nat → Bool) (f : Nat → Nat) (n : Nat) : fb_sm f n = fb_sm (fun k => if P k then f k else 0) n + fb_sm (fun k => if P k then 0 else f k) n := by
  rw [← fb_sm_add]
  exact fb_sm_cong (fun k _ => by cases P k <;> simp)
theorem sm_ge {f : Nat → Nat} {n i : Nat} (h : i < n) : f i ≤ fb_sm f n := by have := fb_sm_part f h; omega
/-- a flow: c comes to each, a goes along the vouches, k is kept -/
def FV (n sd : Nat) (vz lim c : Nat → Nat) (a : Nat → Nat → Nat) (k : Nat → Nat) : Prop :=
  (∀ p, p < n → c p ≤ lim p) ∧ (∀ p, p < n → c p = k p + fb_sm (a p) n) ∧ (∀ p, p < n → fb_sm (fun b => a b p) n ≤ c p) ∧ (∀ p, p < n → sd.testBit p = false → fb_sm (fun b => a b p) n = c p) ∧ (∀ p q, p < n → q < n → 0 < a p q → (vz p).testBit q = true)
def wal (n sd : Nat) (vz : Nat → Nat) (R : Nat) : Nat := df (sd ||| vbm vz R n) R
def lsm (n : Nat) (lim : Nat → Nat) (s : Nat) : Nat := fb_sm (fun p => if s.testBit p then lim p else 0) n
section Fl
variable {n sd : Nat} {vz lim c k : Nat → Nat} {a : Nat → Nat → Nat}
theorem wal_tb (hn : n ≤ 9) (hs : sd < 2 ^ n) (hv : ∀ p, p < n → vz p < 2 ^ n) (R q : Nat) : (wal n sd vz R).testBit q = ((sd.testBit q || (vbm vz R n).testBit q) && !R.testBit q) := by
  unfold wal
  rw [df_tb (pw32 hn (Nat.or_lt_two_pow hs (vbm_lt hv))), Nat.testBit_or]
theorem wal_lt (hs : sd < 2 ^ n) (hv : ∀ p, p < n → vz p < 2 ^ n) (R : Nat) : wal n sd vz R < 2 ^ n := df_lt (Nat.or_lt_two_pow hs (vbm_lt hv))
/-- what is kept behind a wall, and what comes back over it, comes through the wall -/
theorem flow_id (hn : n ≤ 9) (hs : sd < 2 ^ n) (hv : ∀ p, p < n → vz p < 2 ^ n) (h : FV n sd vz lim c a k) (R : Nat) :
    fb_sm (fun q => if R.testBit q then 0 else k q) n + fb_sm (fun b => if R.testBit b then 0 else fb_sm (fun r => if R.testBit r || (wal n sd vz R).testBit r then a b r else 0) n) n = fb_sm (fun q => if (wal n sd vz R).testBit q then c q else 0) n := by
  obtain ⟨h1, h2, h3, h4, h5⟩ := h
  have e1 : fb_sm (fun q => if R.testBit q then 0 else c q) n = fb_sm (fun q => if R.testBit q then 0 else k q) n + fb_sm (fun q => if R.testBit q then 0 else fb_sm (a q) n) n := by
    rw [← fb_sm_add]
    refine fb_sm_cong (fun q hq => ?_)
    cases R.testBit q
    · simp; exact h2 q hq
    · simp
  have e2 : fb_sm (fun q => if R.testBit q then 0 else c q) n = fb_sm (fun q => if (wal n sd vz R).testBit q then c q else 0) n + fb_sm (fun q => if R.testBit q || (wal n sd vz R).testBit q then 0 else c q) n := by
    rw [← fb_sm_add]
    refine fb_sm_cong (fun q hq => ?_)
    have hw := wal_tb hn hs hv R q
    cases hR : R.testBit q
    · cases hW : (wal n sd vz R).testBit q <;> simp
    · rw [hR] at hw
      simp at hw
      rw [hw]; simp
  have e3 : fb_sm (fun q => if R.testBit q || (wal n sd vz R).testBit q then 0 else c q) n = fb_sm (fun q => fb_sm (fun b => if R.testBit q || (wal n sd vz R).testBit q then 0 else if R.testBit b then 0 else a b q) n) n := by
    refine fb_sm_cong (fun q hq => ?_)
    cases hRW : (R.testBit q || (wal n sd vz R).testBit q)
    · simp
      have hR : R.testBit q = false := by cases z : R.testBit q; rfl; rw [z] at hRW; cases hRW
      have hW : (wal n sd vz R).testBit q = false := by rw [hR] at hRW; simpa using hRW
      rw [wal_tb hn hs hv, hR] at hW
      simp at hW
      rw [← h4 q hq hW.1]
      refine fb_sm_cong (fun b hb => ?_)
      cases hRb : R.testBit b
      · simp
      · simp
        rcases Nat.eq_zero_or_pos (a b q) with z | z
        · exact z
        · exfalso
          have : (vbm vz R n).testBit q = true := (vbm_tb _ _ _ _).mpr ⟨b, hb, hRb, h5 b q hb hq z⟩
          rw [this] at hW; cases hW.2
    · simp
      exact (sm_if0 (fun _ _ => rfl)).symm
  have e4 : fb_sm (fun b => if R.testBit b then 0 else fb_sm (a b) n) n = fb_sm (fun b => if R.testBit b then 0 else fb_sm (fun r => if R.testBit r || (wal n sd vz R).testBit r then a b r else 0) n) n + fb_sm (fun b => fb_sm (fun q => if R.testBit q || (wal n sd vz R).testBit q then 0 else if R.testBit b then 0 else a b q) n) n := by
    rw [← fb_sm_add]
    refine fb_sm_cong (fun b hb => ?_)
    cases hRb : R.testBit b
    · simp
      have := sm_split (fun r => R.testBit r || (wal n sd vz R).testBit r) (a b) n
      simpa using this
    · simp
      exact (sm_if0 (fun q _ => rfl)).symm
  rw [sm_swap (fun q b => if R.testBit q || (wal n sd vz R).testBit q then 0 else if R.testBit b then 0 else a b q) n n] at e3
  omega
theorem flow_le (hn : n ≤ 9) (hs : sd < 2 ^ n) (hv : ∀ p, p < n → vz p < 2 ^ n) (h : FV n sd vz lim c a k) (R : Nat) : fb_sm (fun q => if R.testBit q then 0 else k q) n ≤ lsm n lim (wal n sd vz R) := by
  have e := flow_id hn hs hv h R
  have hle : fb_sm (fun q => if (wal n sd vz R).testBit q then c q else 0) n ≤ lsm n lim (wal n sd vz R) := fb_sm_le (fun q hq => by
    show (if (wal n sd vz R).testBit q then c q else 0) ≤ (if (wal n sd vz R).testBit q then lim q else 0)
    split
    · exact h.1 q hq
    · omega)
  omega
/-- closed under what could still move: I where parts could come, R from where they could go on -/
def FC (n sd : Nat) (vz lim c : Nat → Nat) (a : Nat → Nat → Nat) (I R : Nat) : Prop :=
  (∀ q, sd.testBit q = true → I.testBit q = true) ∧ (∀ q, q < n → I.testBit q = true → c q < lim q → R.testBit q = true) ∧ (∀ q b, q < n → b < n → I.testBit q = true → 0 < a b q → R.testBit b = true) ∧ (∀ q r, q < n → R.testBit q = true → (vz q).testBit r = true → I.testBit r = true) ∧ (∀ q, q < n → R.testBit q = true → 0 < c q → I.testBit q = true)
theorem flow_eq (hn : n ≤ 9) (hs : sd < 2 ^ n) (hv : ∀ p, p < n → vz p < 2 ^ n) (h : FV n sd vz lim c a k) {I R : Nat} (hc : FC n sd vz lim c a I R) : fb_sm (fun q => if R.testBit q then 0 else k q) n = lsm n lim (wal n sd vz R) := by
  have e := flow_id hn hs hv h R
  obtain ⟨h1, h2, h3, h4, h5⟩ := h
  obtain ⟨c1, c2, c3, c4, c5⟩ := hc
  have hW : ∀ q, q < n → (wal n sd vz R).testBit q = true → I.testBit q = true ∧ R.testBit q = false := by
    intro q hq hw
    rw [wal_tb hn hs hv] at hw
    simp at hw
    refine ⟨?_, hw.2⟩
    rcases hw.1 with z | z
    · exact c1 q z
    · obtain ⟨p, p1, p2, p3⟩ := (vbm_tb _ _ _ _).mp z
      exact c4 p q p1 p2 p3
  have z1 : fb_sm (fun b => if R.testBit b then 0 else fb_sm (fun r => if R.testBit r || (wal n sd vz R).testBit r then a b r else 0) n) n = 0 := sm_if0 (fun b hb => by
    cases hRb : R.testBit b
    · rw [if_neg (by decide)]
      refine sm_if0 (fun r hr => ?_)
      show (if (R.testBit r || (wal n sd vz R).testBit r) = true then a b r else 0) = 0
      cases hRW : (R.testBit r || (wal n sd vz R).testBit r)
      · rw [if_neg (by decide)]
      · rw [if_pos rfl]
        rcases Nat.eq_zero_or_pos (a b r) with z | z
        · exact z
        · exfalso
          have hI : I.testBit r = true := by
            cases hRr : R.testBit r
            · rw [hRr] at hRW
              exact (hW r hr (by simpa using hRW)).1
            · refine c5 r hr hRr ?_
              have := h3 r hr
              have h6 := sm_ge (f := fun b => a b r) hb
              have h7 : a b r ≤ fb_sm (fun b => a b r) n := h6
              omega
          rw [c3 r b hr hb hI z] at hRb; cases hRb
    · simp)
  have z2 : fb_sm (fun q => if (wal n sd vz R).testBit q then c q else 0) n = lsm n lim (wal n sd vz R) := fb_sm_cong (fun q hq => by
    show (if (wal n sd vz R).testBit q then c q else 0) = (if (wal n sd vz R).testBit q then lim q else 0)
    cases hw : (wal n sd vz R).testBit q
    · rfl
    · simp
      obtain ⟨i1, i2⟩ := hW q hq hw
      have := h1 q hq
      rcases Nat.lt_or_ge (c q) (lim q) with z | z
      · rw [c2 q hq i1 z] at i2; cases i2
      · omega)
  omega
end Fl
/-- a set can be in together -/
def cbe (n sd : Nat) (vz lim : Nat → Nat) (s : Nat) : Prop := ∀ R, R < 2 ^ n → crd (df s R) ≤ lsm n lim (wal n sd vz R)
theorem kept_crd {n s R : Nat} (hn : n ≤ 9) (hs : s < 2 ^ n) : fb_sm (fun q => if R.testBit q then 0 else b1 s q) n = crd (df s R) := by
  rw [crd_n (df_lt hs) hn]
  have : ∀ m, m ≤ n → fb_sm (fun q => if R.testBit q then 0 else b1 s q) m = fb_ct (fun k => (df s R).testBit k) m := by
    intro m
    induction m with
    | zero => intro _; rfl
    | succ m ih =>
      intro hm
      rw [fb_sm_succ, fb_ct_succ, ih (by omega), df_tb (pw32 hn hs)]
      congr 1
      cases R.testBit m
      · cases hb : s.testBit m
        · simp [b1, hb]
        · simp [b1, hb]
      · simp
  exact this n (Nat.le_refl n)
theorem cbe_of {n sd s : Nat} {vz lim c : Nat → Nat} {a : Nat → Nat → Nat} (hn : n ≤ 9) (hs : sd < 2 ^ n) (hv : ∀ p, p < n → vz p < 2 ^ n) (hst : s < 2 ^ n) (h : FV n sd vz lim c a (b1 s)) : cbe n sd vz lim s := fun R _ => by
  rw [← kept_crd hn hst]; exact flow_le hn hs hv h R
theorem cbe_mono {n sd s t : Nat} {vz lim : Nat → Nat} (hn : n ≤ 9) (hs : s < 2 ^ n) (ht : t < 2 ^ n) (hst : ∀ i, s.testBit i = true → t.testBit i = true) (h : cbe n sd vz lim t) : cbe n sd vz lim s := fun R hR => by
  refine Nat.le_trans (crd_sub (fun i hi => ?_)) (h R hR)
  rw [df_tb (pw32 hn hs)] at hi
  rw [df_tb (pw32 hn ht)]
  simp at hi ⊢
  exact ⟨hst i hi.1, hi.2⟩
theorem not_cbe {n sd s p : Nat} {vz lim c : Nat → Nat} {a : Nat → Nat → Nat} (hn : n ≤ 9) (hs : sd < 2 ^ n) (hv : ∀ p, p < n → vz p < 2 ^ n) (hst : s < 2 ^ n) (h : FV n sd vz lim c a (b1 s)) (hp : p < n) (hps : s.testBit p = false) {I R : Nat} (hR : R < 2 ^ n) (hc : FC n sd vz lim c a I R) (hpR : R.testBit p = false) : ¬ cbe n sd vz lim (s ||| 2 ^ p) := by
  intro z
  have h1 := z R hR
  have hst2 : s ||| 2 ^ p < 2 ^ n := Nat.or_lt_two_pow hst (Nat.pow_lt_pow_right (by omega) hp)
  have e := flow_eq hn hs hv h hc
  rw [kept_crd hn hst] at e
  have h2 : df (s ||| 2 ^ p) R = df s R ||| 2 ^ p := tb_ext (fun i => by
    rw [df_tb (pw32 hn hst2), fb_bit_set, fb_bit_set, df_tb (pw32 hn hst)]
    by_cases ei : i = p
    · subst ei; simp [hpR]
    · simp [ei])
  rw [h2, crd_or (by omega) (by rw [df_tb (pw32 hn hst), hps]; rfl)] at h1
  omega
