/-! ===== bits of nI numbers, masks, branches ===== -/
theorem zz_lit31 : (31 : Int32) = nI 31 := rfl
theorem zz_m1 : (-1 : Int32) = nI 4294967295 := by decide +kernel
theorem zz_and31 {k : Nat} (hk : k < 32) : nI k &&& 31 = nI k := by
  rw [zz_lit31, fa_and]
  have : k &&& 31 = k := by
    have h := Nat.and_two_pow_sub_one_eq_mod k 5
    rw [show (2 ^ 5 - 1 : Nat) = 31 from rfl] at h
    rw [h]; omega
  rw [this]
theorem zz_smod : ∀ k, k < 32 → ((nI k &&& 31).toBitVec.smod 32).toNat = k := by decide +kernel
theorem ni_shr {a k : Nat} (ha : a < 2 ^ 31) (hk : k < 32) : nI a >>> (nI k &&& 31) = nI (a >>> k) := by
  have hd : a / 2 ^ k ≤ a := Nat.div_le_self _ _
  apply Int32.toInt_inj.mp
  have e : (nI a >>> (nI k &&& 31)).toInt = (nI a).toInt >>> k := by
    rw [Int32.toInt, Int32.toBitVec_shiftRight]
    have h := zz_smod k hk
    show (BitVec.sshiftRight (nI a).toBitVec ((nI k &&& 31).toBitVec.smod 32).toNat).toInt = _
    rw [h]
    exact BitVec.toInt_sshiftRight ..
  rw [e, Int.shiftRight_eq_div_pow, Nat.shiftRight_eq_div_pow, nI_toInt ha, nI_toInt (by omega)]
  rfl
theorem ni_shl1 : ∀ k, k < 32 → (1 : Int32) <<< (nI k &&& 31) = nI (2 ^ k) := by decide +kernel
/-- one bit -/
def b1 (m k : Nat) : Nat := if m.testBit k then 1 else 0
theorem ni_and1 (a : Nat) : nI a &&& 1 = nI (a % 2) := by
  rw [show (1 : Int32) = nI 1 from rfl, fa_and, Nat.and_one_is_mod]
theorem b1_eq (m k : Nat) : (m >>> k) % 2 = b1 m k := by
  unfold b1
  have h := Nat.testBit_eq_decide_div_mod_eq (x := m) (i := k)
  rw [h, Nat.shiftRight_eq_div_pow]
  by_cases c : m / 2 ^ k % 2 = 1
  · simp [c]
  · have : m / 2 ^ k % 2 = 0 := by omega
    simp [this]
theorem ni_bit {m k : Nat} (hm : m < 2 ^ 31) (hk : k < 32) : (nI m >>> (nI k &&& 31)) &&& 1 = nI (b1 m k) := by
  rw [ni_shr hm hk, ni_and1, b1_eq]
theorem b1_le (m k : Nat) : b1 m k ≤ 1 := by unfold b1; split <;> omega
theorem b1_t {m k : Nat} (h : m.testBit k = true) : b1 m k = 1 := by unfold b1; rw [h]; rfl
theorem b1_f {m k : Nat} (h : m.testBit k = false) : b1 m k = 0 := by unfold b1; rw [h]; rfl
theorem b1_n {m k : Nat} (h : ¬ m.testBit k = true) : b1 m k = 0 := b1_f (by cases h2 : m.testBit k; rfl; exact absurd h2 h)
/-- difference of sets -/
def df (a b : Nat) : Nat := a &&& (b ^^^ 4294967295)
theorem ni_df (a b : Nat) : nI a &&& (nI b ^^^ (-1)) = nI (df a b) := by
  rw [zz_m1, fb_xorI, fa_and]; rfl
theorem tb_full (i : Nat) : (4294967295 : Nat).testBit i = decide (i < 32) := by
  rw [show (4294967295 : Nat) = 2 ^ 32 - 1 from rfl, Nat.testBit_two_pow_sub_one]
theorem df_tb {a b : Nat} (ha : a < 2 ^ 32) (i : Nat) : (df a b).testBit i = (a.testBit i && !b.testBit i) := by
  unfold df
  rw [Nat.testBit_and, Nat.testBit_xor, tb_full]
  by_cases h : i < 32
  · simp [h]
  · have : a.testBit i = false := Nat.testBit_lt_two_pow (Nat.lt_of_lt_of_le ha (Nat.pow_le_pow_right (by omega) (by omega)))
    simp [this]
theorem tb_ge {a n i : Nat} (ha : a < 2 ^ n) (h : n ≤ i) : a.testBit i = false := Nat.testBit_lt_two_pow (Nat.lt_of_lt_of_le ha (Nat.pow_le_pow_right (by omega) h))
theorem tb_lt {a n i : Nat} (ha : a < 2 ^ n) (h : a.testBit i = true) : i < n := by
  rcases Nat.lt_or_ge i n with q | q
  · exact q
  · rw [tb_ge ha q] at h; cases h
theorem tb_ext {a b : Nat} (h : ∀ i, a.testBit i = b.testBit i) : a = b := Nat.eq_of_testBit_eq h
theorem tb_ext' {a b n : Nat} (ha : a < 2 ^ n) (hb : b < 2 ^ n) (h : ∀ i, i < n → a.testBit i = b.testBit i) : a = b := by
  refine tb_ext (fun i => ?_)
  rcases Nat.lt_or_ge i n with q | q
  · exact h i q
  · rw [tb_ge ha q, tb_ge hb q]
theorem lt_of_tb {a n : Nat} (h : ∀ i, n ≤ i → a.testBit i = false) : a < 2 ^ n := Nat.lt_pow_two_of_testBit a (fun i hi => h i hi)
theorem df_lt {a b n : Nat} (ha : a < 2 ^ n) : df a b < 2 ^ n := lt_of_tb (fun i hi => by unfold df; rw [Nat.testBit_and, tb_ge ha hi]; rfl)
theorem bool_t {b : Bool} (h : ¬ b = false) : b = true := by cases b; exact absurd rfl h; rfl
theorem bool_f {b : Bool} (h : ¬ b = true) : b = false := by cases b; rfl; exact absurd rfl h
/-- the set of all k < n with P k -/
def mkm : Nat → (Nat → Bool) → Nat
  | 0, _ => 0
  | n + 1, P => mkm n P ||| (if P n then 2 ^ n else 0)
theorem mkm_tb (P : Nat → Bool) (k : Nat) : ∀ n, (mkm n P).testBit k = (decide (k < n) && P k)
  | 0 => by simp [mkm]
  | n + 1 => by
    rw [mkm, Nat.testBit_or, mkm_tb P k n]
    by_cases h : k = n
    · subst h
      cases hp : P k <;> simp [hp, Nat.testBit_two_pow_self]
    · have e : (if P n then 2 ^ n else 0).testBit k = false := by
        split
        · rw [Nat.testBit_two_pow]; simp; omega
        · simp
      rw [e]
      have : (decide (k < n + 1)) = (decide (k < n)) := by
        by_cases c : k < n
        · simp [c]; omega
        · simp [c]; omega
      rw [this]; simp
theorem mkm_lt (P : Nat → Bool) (n : Nat) : mkm n P < 2 ^ n := lt_of_tb (fun i hi => by rw [mkm_tb]; simp; intro h; omega)
theorem mkm_cong {P R : Nat → Bool} {n : Nat} (h : ∀ k, k < n → P k = R k) : mkm n P = mkm n R := tb_ext (fun i => by
  rw [mkm_tb, mkm_tb]
  by_cases c : i < n
  · rw [h i c]
  · simp [c])
theorem mkm_self {a n : Nat} (h : a < 2 ^ n) : mkm n (fun k => a.testBit k) = a := tb_ext (fun i => by
  rw [mkm_tb]
  by_cases c : i < n
  · simp [c]
  · rw [tb_ge h (by omega)]; simp)
/-- the union of the vm p, p in s, p < n -/
def vbm (vm : Nat → Nat) (s : Nat) : Nat → Nat
  | 0 => 0
  | n + 1 => vbm vm s n ||| (if s.testBit n then vm n else 0)
theorem vbm_tb (vm : Nat → Nat) (s q : Nat) : ∀ n, (vbm vm s n).testBit q = true ↔ ∃ p, p < n ∧ s.testBit p = true ∧ (vm p).testBit q = true
  | 0 => by simp [vbm]
  | n + 1 => by
    rw [vbm, Nat.testBit_or, Bool.or_eq_true, vbm_tb vm s q n]
    constructor
    · rintro (⟨p, h1, h2⟩ | h)
      · exact ⟨p, by omega, h2⟩
      · by_cases c : s.testBit n = true
        · rw [if_pos c] at h; exact ⟨n, by omega, c, h⟩
        · rw [if_neg c] at h; simp at h
    · rintro ⟨p, h1, h2, h3⟩
      by_cases c : p = n
      · subst c; right; rw [if_pos h2]; exact h3
      · left; exact ⟨p, by omega, h2, h3⟩
theorem vbm_lt {vm : Nat → Nat} {s n N : Nat} (h : ∀ p, p < n → vm p < 2 ^ N) : vbm vm s n < 2 ^ N := lt_of_tb (fun i hi => bool_f (fun hb => by
  obtain ⟨p, h1, -, h3⟩ := (vbm_tb vm s i n).mp hb
  rw [tb_ge (h p h1) hi] at h3; cases h3))
/-- how many persons a set has -/
def crd (m : Nat) : Nat := fb_ct (fun k => m.testBit k) 9
theorem crd_le (m : Nat) : crd m ≤ 9 := fb_ct_le _ 9
theorem crd_n {m n : Nat} (h : m < 2 ^ n) (hn : n ≤ 9) : crd m = fb_ct (fun k => m.testBit k) n := by
  unfold crd
  obtain ⟨d, e⟩ : ∃ d, 9 = n + d := ⟨9 - n, by omega⟩
  rw [e, fb_ct_split]
  have : fb_ct (fun k => m.testBit (n + k)) d = 0 := fb_ct_zero.mpr (fun k _ => tb_ge h (by omega))
  omega
theorem lt_512 {m n : Nat} (h : m < 2 ^ n) (hn : n ≤ 9) : m < 512 := Nat.lt_of_lt_of_le h (Nat.le_trans (Nat.pow_le_pow_right (by omega) hn) (by decide))
theorem lt_31 {m n : Nat} (h : m < 2 ^ n) (hn : n ≤ 31) : m < 2 ^ 31 := Nat.lt_of_lt_of_le h (Nat.pow_le_pow_right (by omega) hn)
theorem two_le {n : Nat} (hn : n ≤ 9) : 2 ^ n ≤ 512 := Nat.le_trans (Nat.pow_le_pow_right (by omega) hn) (by decide)
/-- branches -/
theorem if_ne {c A B : Prop} (a : ¬ c → A) (b : c → B) : (¬ c → A) ∧ (c → B) := ⟨a, b⟩
theorem ne_t {c A B : Prop} (h : ¬ c) (a : A) : (¬ c → A) ∧ (c → B) := ⟨fun _ => a, fun q => absurd q h⟩
theorem ne_f {c A B : Prop} (h : c) (b : B) : (¬ c → A) ∧ (c → B) := ⟨fun q => absurd h q, fun _ => b⟩
theorem n10 : ¬ (1 : Int32) = 0 := by decide
theorem ni_one : (1 : Int32) = nI 1 := rfl
theorem ni_zero : (0 : Int32) = nI 0 := rfl
theorem clamp_nI {n : Nat} (h : n < 2 ^ 31) : (nI n).toNatClampNeg = n := nI_clamp h
theorem vp_i {i : Int32} {N : Nat} (h : vp_in i N) (hN : N < 2 ^ 31) : ∃ j, j < N ∧ i = nI j := vp_in_of h hN
theorem rng_of {x : Int32} {n : Nat} (hn : n < 2 ^ 31) (h0 : ¬ x < 0) (h1 : ¬ nI n ≤ x) : ∃ j, j < n ∧ x = nI j := by
  obtain ⟨j, hj, rfl⟩ := nI_of h0
  exact ⟨j, by rcases Nat.lt_or_ge j n with q | q; exact q; exact absurd (nI_le q hj) h1, rfl⟩
theorem cI_s {S : St} {k : Nat} {f : Nat → Int32} : (cI S k f).1 k = f := by simp [cI]
theorem cI_n {S : St} {k a : Nat} {f : Nat → Int32} (h : a ≠ k) : (cI S k f).1 a = S.1 a := by simp [cI, h]
theorem cI_2 {S : St} {k : Nat} {f : Nat → Int32} : (cI S k f).2 = S.2 := rfl
theorem cJ_s {S : St} {k : Nat} {f : Nat → Int64} : (cJ S k f).2 k = f := by simp [cJ]
theorem cJ_n {S : St} {k a : Nat} {f : Nat → Int64} (h : a ≠ k) : (cJ S k f).2 a = S.2 a := by simp [cJ, h]
theorem cJ_1 {S : St} {k : Nat} {f : Nat → Int64} : (cJ S k f).1 = S.1 := rfl
theorem upd_s {f : Nat → Int32} {k : Nat} {x : Int32} : upd f k x k = x := pk_us
theorem upd_n {f : Nat → Int32} {k j : Nat} {x : Int32} (h : j ≠ k) : upd f k x j = f j := pk_un h
theorem updL_s {f : Nat → Int64} {k : Nat} {x : Int64} : vp_updL f k x k = x := pk_uLs
theorem updL_n {f : Nat → Int64} {k j : Nat} {x : Int64} (h : j ≠ k) : vp_updL f k x j = f j := pk_uLn h
