/-! ===== random walks ===== -/
theorem lN_div {a b : Nat} (ha : a < 2 ^ 62) (hb : b < 2 ^ 62) : lN a / lN b = lN (a / b) := by
  apply Int64.toInt_inj.mp
  have h1 : (lN a).toInt = (a : Int) := lg_ofNat_toInt (by omega)
  have h2 : (lN b).toInt = (b : Int) := lg_ofNat_toInt (by omega)
  have hd : a / b ≤ a := Nat.div_le_self _ _
  rw [Jvm.Kit.i64_div (by rw [h1, h2]; omega), h1, h2, show (lN (a / b)).toInt = ((a / b : Nat) : Int) from lg_ofNat_toInt (by omega)]
  rfl
theorem lN_rem {a b : Nat} (ha : a < 2 ^ 62) (hb : b < 2 ^ 62) : lN a - lN a / lN b * lN b = lN (a % b) := by
  have h := Nat.div_mul_le_self a b
  rw [lN_div ha hb, lN_mul, lN_sub h]
  congr 1
  have := Nat.div_add_mod a b
  rw [Nat.mul_comm] at this
  omega
theorem lN_ne {a : Nat} (ha : a < 2 ^ 62) (h : a ≠ 0) : ¬ lN a = 0 := fun e => h ((fb_lN_inj (a := a) (b := 0) (by omega) (by omega)).mp e)
theorem lc0 {a : Nat} (ha : a < 2 ^ 62) : lg_cmp (lN a) 0 = 0 ↔ a = 0 := by
  rw [lg_cmp_eq]
  exact ⟨fun e => (fb_lN_inj (a := a) (b := 0) (by omega) (by omega)).mp e, fun e => by rw [e]; rfl⟩
theorem lN_toInt62 {a : Nat} (ha : a < 2 ^ 62) : (lN a).toInt = (a : Int) := lg_ofNat_toInt (by omega)
theorem crd_pos {m : Nat} (h : m < 512) (h0 : m ≠ 0) : 1 ≤ crd m := by
  rcases Nat.eq_zero_or_pos (crd m) with z | z
  · exfalso
    apply h0
    have hz := fb_ct_zero.mp z
    exact tb_ext' (n := 9) (by omega) (by omega) (fun i hi => by rw [hz i hi]; exact (Nat.zero_testBit i).symm)
  · exact z
def outs (sd : Nat) (vz : Nat → Nat) (p : Nat) : Nat := if vz p = 0 then sd else vz p
def chn (n sd : Nat) (vz : Nat → Nat) : Nat → Nat → Nat
  | 0, q => b1 sd q
  | k + 1, q => fb_sm (fun p => if (outs sd vz p).testBit q then chn n sd vz k p * (60 / crd (outs sd vz p)) else 0) n
theorem chn_le {n sd : Nat} {vz : Nat → Nat} (hn : n ≤ 9) : ∀ k q, chn n sd vz k q ≤ 540 ^ k
  | 0, q => by rw [chn]; exact b1_le _ _
  | k + 1, q => by
    rw [chn]
    have : ∀ p, p < n → (if (outs sd vz p).testBit q then chn n sd vz k p * (60 / crd (outs sd vz p)) else 0) ≤ 60 * 540 ^ k := by
      intro p _
      split
      · have h1 := chn_le (sd := sd) (vz := vz) hn k p
        have h2 : 60 / crd (outs sd vz p) ≤ 60 := Nat.div_le_self _ _
        calc chn n sd vz k p * (60 / crd (outs sd vz p)) ≤ 540 ^ k * 60 := Nat.mul_le_mul h1 h2
          _ = 60 * 540 ^ k := Nat.mul_comm _ _
      · exact Nat.zero_le _
    have h := fb_sm_bound this
    have h3 : n * (60 * 540 ^ k) ≤ 9 * (60 * 540 ^ k) := Nat.mul_le_mul_right _ hn
    rw [Nat.pow_succ]
    omega
theorem chp_le {n sd : Nat} {vz : Nat → Nat} (hn : n ≤ 9) (k q i : Nat) (hi : i ≤ n) : fb_sm (fun p => if (outs sd vz p).testBit q then chn n sd vz k p * (60 / crd (outs sd vz p)) else 0) i ≤ 540 ^ (k + 1) := by
  have h := chn_le (sd := sd) (vz := vz) hn (k + 1) q
  rw [chn] at h
  obtain ⟨d, rfl⟩ : ∃ d, n = i + d := ⟨n - i, by omega⟩
  exact Nat.le_trans (fb_sm_mono _ i d) h
theorem p540 {k : Nat} (h : k ≤ 5) : 540 ^ k ≤ 45916502400000 := Nat.le_trans (Nat.pow_le_pow_right (by omega) h) (by decide)
theorem div60 {m : Nat} (h1 : 1 ≤ m) (h5 : m ≤ 5) (x : Nat) : 60 * x / m = x * (60 / m) := by
  rcases (show m = 1 ∨ m = 2 ∨ m = 3 ∨ m = 4 ∨ m = 5 by omega) with rfl | rfl | rfl | rfl | rfl <;> omega
theorem mul60 {m : Nat} (h1 : 1 ≤ m) (h5 : m ≤ 5) : (60 / m) * m = 60 := by
  rcases (show m = 1 ∨ m = 2 ∨ m = 3 ∨ m = 4 ∨ m = 5 by omega) with rfl | rfl | rfl | rfl | rfl <;> rfl
abbrev sdm (g : Gp) : Nat := mkm (gN g) (knd (gK g) 1)
abbrev ugg (g : Gp) : Nat := 60 / crd (sdm g)
abbrev chg (g : Gp) : Nat → Nat → Nat := chn (gN g) (sdm g) (gV g)
theorem sd_lt {g : Gp} (hw : WFg g) : sdm g < 512 := lt_512 (mkm_lt _ _) hw.1
theorem outs_ok {g : Gp} (hw : WFg g) (h0 : sdm g ≠ 0) {p : Nat} (hp : p < gN g) : outs (sdm g) (gV g) p < 512 ∧ 1 ≤ crd (outs (sdm g) (gV g) p) ∧ crd (outs (sdm g) (gV g) p) ≤ 5 := by
  unfold outs
  by_cases e : gV g p = 0
  · rw [if_pos e]; exact ⟨sd_lt hw, crd_pos (sd_lt hw) h0, hw.2.2.2.2.2.2.1⟩
  · rw [if_neg e]; exact ⟨hw.v512 hp, crd_pos (hw.v512 hp) e, (hw.2.2.2.2.1 p hp).2.1⟩
theorem share_s {S : St} {n m s : Nat} {f : Nat → Nat} {Q : St → Prop} (hn : n ≤ 9) (hm : m < 512) (hs : s < 2 ^ 61) (h22 : S.1 22 0 = nI n) (hf : ∀ q, q < n → S.2 24 q = lN (f q) ) (hq : ∀ S1 : St, S1.1 = S.1 → (∀ a, a ≠ 24 → S1.2 a = S.2 a) → (∀ q, q < n → S1.2 24 q = lN (f q + (if m.testBit q then s / crd m else 0))) → Q S1) : p_X3_share (lN s) (nI m) S Q := by
  refine bc_s hm ⟨fun c => ?_, fun c => ⟨fun c2 => ?_, fun c2 => ?_⟩⟩
  · rw [lc0 (by omega)] at c
    refine hq S rfl (fun _ _ => rfl) (fun q hq => ?_)
    rw [hf q hq, c, Nat.zero_div]
    congr 1
    split <;> omega
  · have hc : crd m ≠ 0 := fun z => c2 (by rw [z]; rfl)
    have hle := crd_le m
    rw [nI_l (by omega), lN_div (by omega) (by omega)]
    refine ⟨lN_ne (by omega) hc, ?_⟩
    refine Lq_rel n (fun i a => ∃ S1 : St, a = (nI m, lN (s / crd m), nI i, S1) ∧ S1.1 = S.1 ∧ (∀ a, a ≠ 24 → S1.2 a = S.2 a) ∧ (∀ q, q < n → S1.2 24 q = lN (f q + (if q < i ∧ m.testBit q = true then s / crd m else 0)))) ?_ ?_ 0 _ (by omega) ⟨S, rfl, rfl, fun _ _ => rfl, fun q hq => by rw [hf q hq, if_neg (by omega)]; rfl⟩
    · rintro i a hi ⟨S1, rfl, a1, a2, a3⟩ K hK
      refine br_f (by rw [a1, h22, ni_le (by omega) (by omega)]; omega) (bit_s (by omega) (by omega) ?_)
      by_cases hb : m.testBit i = true
      · rw [b1_t hb]
        refine ne_f rfl ⟨vp_in_nI (by omega) (by decide), vp_in_nI (by omega) (by decide), fun S9 e9 => ?_⟩
        rw [nI_clamp (by omega), a3 i hi, if_neg (by omega), Nat.add_zero, lN_add] at e9
        show K (_, _, _, _)
        rw [nI_1]
        refine hK _ ⟨S9, rfl, by rw [e9]; exact a1, fun a ha => by rw [e9, cJ_n ha]; exact a2 a ha, fun q hq => ?_⟩
        rw [e9, cJ_s]
        by_cases e : q = i
        · subst e; rw [updL_s, if_pos ⟨by omega, hb⟩]
        · rw [updL_n e, a3 q hq]
          by_cases c3 : q < i ∧ m.testBit q = true
          · rw [if_pos c3, if_pos ⟨by omega, c3.2⟩]
          · rw [if_neg c3, if_neg (fun z => c3 ⟨by omega, z.2⟩)]
      · rw [b1_n hb]
        refine ne_t (by decide) ?_
        show K (_, _, _, _)
        rw [nI_1]
        refine hK _ ⟨S1, rfl, a1, a2, fun q hq => ?_⟩
        rw [a3 q hq]
        by_cases e : q = i
        · subst e; rw [if_neg (by omega), if_neg (fun z => hb z.2)]
        · by_cases c3 : q < i ∧ m.testBit q = true
          · rw [if_pos c3, if_pos ⟨by omega, c3.2⟩]
          · rw [if_neg c3, if_neg (fun z => c3 ⟨by omega, z.2⟩)]
    · rintro a ⟨S1, rfl, a1, a2, a3⟩ K
      refine br_t (by rw [a1, h22, ni_le (by omega) (by omega)]; omega) (hq S1 a1 a2 (fun q hq => ?_))
      rw [a3 q hq]
      by_cases c3 : m.testBit q = true
      · rw [if_pos ⟨hq, c3⟩, if_pos c3]
      · rw [if_neg (fun z => c3 z.2), if_neg c3]
  · have hc : crd m = 0 := ni_inj (by have := crd_le m; omega) (by omega) c2
    refine hq S rfl (fun _ _ => rfl) (fun q hq => ?_)
    rw [hf q hq, if_neg]
    · rfl
    · intro z
      have := fb_ct_zero.mp hc q (by omega)
      rw [this] at z; cases z
def WKs (S : St) (g : Gp) (k : Nat) : Prop := S.1 22 0 = nI (gN g) ∧ S.2 22 1 = lN (60 ^ (k + 1)) ∧ ∀ q, q < gN g → S.2 23 q = lN (ugg g * chg g k q)
theorem ug_le (g : Gp) : ugg g ≤ 60 := Nat.div_le_self _ _
theorem upr_le {g : Gp} (hw : WFg g) {k : Nat} (hk : k ≤ 5) (q : Nat) : ugg g * chg g k q ≤ 2754990144000000 := by
  have h1 := chn_le (sd := sdm g) (vz := gV g) hw.1 k q
  have h2 := p540 hk
  have h3 := ug_le g
  calc ugg g * chg g k q ≤ 60 * 45916502400000 := Nat.mul_le_mul h3 (Nat.le_trans h1 h2)
    _ = 2754990144000000 := by decide
theorem step_s {S : St} {g : Gp} {k : Nat} {Q : St → Prop} (hw : WFg g) (hk : k ≤ 3) (h0 : sdm g ≠ 0) (c : CC S g) (h : WKs S g k) (hq : ∀ S1, WKs S1 g (k + 1) → KC S S1 → Q S1) : p_X3_step (nI (sdm g)) S Q := by
  have h9 := hw.1
  refine fillJ_24 (fun S1 a1 a2 a3 => ?_)
  have b1' : S1.1 22 0 = nI (gN g) := by rw [a2]; exact h.1
  have k1 : KC S S1 := ⟨fun _ _ => by rw [a2], fun _ _ => by rw [a2]⟩
  have c1 := c.kc k1
  refine Lq_rel (gN g) (fun i a => ∃ S2 : St, a = (nI (sdm g), nI i, S2) ∧ S2.1 = S.1 ∧ (∀ a, a ≠ 24 → S2.2 a = S.2 a) ∧ (∀ q, q < gN g → S2.2 24 q = lN (ugg g * fb_sm (fun p => if (outs (sdm g) (gV g) p).testBit q then chg g k p * (60 / crd (outs (sdm g) (gV g) p)) else 0) i))) ?_ ?_ 0 _ (by omega) ⟨S1, rfl, a2, a1, fun q hq => by rw [a3 q (by omega)]; rfl⟩
  · rintro i a hi ⟨S2, rfl, d1, d2, d3⟩ K hK
    obtain ⟨o1, o2, o3⟩ := outs_ok hw h0 hi
    have hpi : S2.2 23 i = lN (ugg g * chg g k i) := by rw [d2 23 (by omega)]; exact h.2.2 i hi
    have hub := upr_le hw (k := k) (by omega) i
    have fin : p_X3_step_48 Q K (nI (sdm g)) (nI i) (nI (outs (sdm g) (gV g) i)) (60 * S2.2 23 i) S2 := by
      rw [hpi, show (60 : Int64) = lN 60 from rfl, lN_mul]
      refine share_s h9 o1 (by omega) (by rw [d1]; exact h.1) d3 (fun S3 e1 e2 e3 => ?_)
      rw [nI_1]
      refine hK _ ⟨S3, rfl, e1.trans d1, fun a ha => (e2 a ha).trans (d2 a ha), fun q hq => ?_⟩
      rw [e3 q hq, fb_sm_succ, Nat.mul_add]
      congr 2
      by_cases hb : (outs (sdm g) (gV g) i).testBit q = true
      · rw [if_pos hb, if_pos hb, div60 o2 o3, Nat.mul_assoc]
      · rw [if_neg hb, if_neg hb, Nat.mul_zero]
    refine br_f (by rw [d1, h.1, ni_le (by omega) (by omega)]; omega) ⟨vp_in_nI (by omega) (by decide), vp_in_nI (by omega) (by decide), ?_⟩
    rw [nI_clamp (by omega)]
    have c5 : S2.1 5 i = nI (gV g i) := by rw [d1]; exact c.2.2.2.1 i hi
    have hv := hw.v512 hi
    refine ⟨fun e => ⟨vp_in_nI (by omega) (by decide), ?_⟩, fun e => ?_⟩
    · have e : gV g i ≠ 0 := fun z => e (by rw [c5, z]; rfl)
      unfold outs at fin
      rw [if_neg e, ← c5] at fin; exact fin
    · have e : gV g i = 0 := by rw [c5] at e; exact ni_inj (by omega) (by omega) e
      unfold outs at fin
      rw [if_pos e] at fin; exact fin
  · rintro a ⟨S2, rfl, d1, d2, d3⟩ K
    refine br_t (by rw [d1, h.1, ni_le (by omega) (by omega)]; omega) (fun S3 e3 S4 e4 => ?_)
    refine hq S4 ⟨?_, ?_, fun q hq => ?_⟩ ⟨fun _ _ => ?_, fun _ _ => ?_⟩
    · rw [e4, e3]; show S2.1 22 0 = _; rw [d1]; exact h.1
    · rw [e4, cJ_s, updL_s, e3, cJ_n (by omega), d2 22 (by omega), h.2.1, show (60 : Int64) = lN 60 from rfl, lN_mul]
      congr 1
    · rw [e4, cJ_n (by omega), e3, cJ_s, pk_cpy_in (by omega) (by omega), Nat.zero_add, Nat.sub_zero, d3 q hq]
      rfl
    · rw [e4, e3]; show S2.1 _ = _; rw [d1]
    · rw [e4, e3]; show S2.1 _ = _; rw [d1]
theorem go_s {S : St} {g : Gp} {k : Nat} {Q : St → Prop} (hw : WFg g) (hk : k ≤ 4) (h0 : sdm g ≠ 0) (c : CC S g) (hq : ∀ S1, WKs S1 g k → KC S S1 → Q S1) : p_X3_go (nI k) S Q := by
  have h9 := hw.1
  have hsl := sd_lt hw
  have hs5 := hw.2.2.2.2.2.2.1
  have hs1 := crd_pos hsl h0
  refine ofK_s (t := 1) c.1 h9 (fun q hq => ⟨c.2.2.1 q hq, hw.2.2.2.1 q hq⟩) (by omega) (fun S3 e3 S4 e4 => fillJ_24 (fun S5 a1 a2 a3 => ?_))
  have k5 : KC S S5 := ⟨fun a ha => by rw [a2, e4, e3]; exact cI_n (by omega), fun a ha => by rw [a2, e4, e3]; exact cI_n (by omega)⟩
  have n5 : S5.1 22 0 = nI (gN g) := by rw [a2, e4, e3]; show (si S 22 0 (S.1 2 0)).1 22 0 = _; simp only [si_r]; simp; exact c.1
  refine share_s (s := 60) (f := fun _ => 0) h9 hsl (by omega) n5 (fun q hq => by rw [a3 q (by omega)]; rfl) (fun S6 d1 d2 d3 S7 e7 => ?_)
  have w7 : WKs S7 g 0 := by
    refine ⟨?_, ?_, fun q hq => ?_⟩
    · rw [e7]; show S6.1 22 0 = _; rw [d1]; exact n5
    · rw [e7, cJ_n (by omega), d2 22 (by omega), a1 22 (by omega), e4, cJ_s, updL_s]; rfl
    · rw [e7, cJ_s, pk_cpy_in (by omega) (by omega), Nat.zero_add, Nat.sub_zero, d3 q hq]
      congr 1
      show 0 + _ = ugg g * b1 (sdm g) q
      by_cases hb : (sdm g).testBit q = true
      · rw [if_pos hb, b1_t hb, Nat.mul_one, Nat.zero_add]
      · rw [if_neg hb, b1_n hb, Nat.mul_zero]
  have k7 : KC S S7 := ⟨fun a ha => by rw [e7]; show S6.1 a = _; rw [d1]; exact k5.1 a ha, fun a ha => by rw [e7]; show S6.1 a = _; rw [d1]; exact k5.2 a ha⟩
  refine Lq_rel k (fun i a => ∃ S8, a = (nI k, nI (sdm g), nI i, S8) ∧ KC S S8 ∧ WKs S8 g i) ?_ ?_ 0 _ (by omega) ⟨S7, rfl, k7, w7⟩
  · rintro i a hi ⟨S8, rfl, k8, w8⟩ K hK
    refine br_f (by rw [ni_le (by omega) (by omega)]; omega) (step_s hw (by omega) h0 (c.kc k8) w8 (fun S9 w9 k9 => ?_))
    rw [nI_1]
    exact hK _ ⟨S9, rfl, k8.tr k9, w9⟩
  · rintro a ⟨S8, rfl, k8, w8⟩ K
    exact br_t (by rw [ni_le (by omega) (by omega)]; omega) (hq S8 w8 k8)
/-- the greatest common divisor, by a hundred rounds -/
theorem mod_half {a b : Nat} (h : b ≤ a) (hb : 0 < b) : 2 * (a % b) < a := by
  have h1 := Nat.mod_lt a hb
  have h2 := Nat.div_add_mod a b
  have h3 : 1 ≤ a / b := (Nat.one_le_div_iff hb).mpr h
  have h4 : b * 1 ≤ b * (a / b) := Nat.mul_le_mul_left b h3
  omega
theorem gcd_c {S : St} {p a b : Nat} {Q : Int64 → St → Prop} (hp : p < 9) (ha : 0 < a) (ha2 : a < 2 ^ 43) (hb2 : b < 2 ^ 43) (h22 : S.2 22 1 = lN a) (h23 : S.2 23 p = lN b) (hq : Q (lN (Nat.gcd a b)) S) : p_X3_commonDivisor (nI p) S Q := by
  refine ⟨vp_in_nI hp (by decide), ?_⟩
  rw [nI_clamp (by omega), h22, h23]
  have fin : ∀ x : Nat, 0 < x → x < 2 ^ 43 → Nat.gcd a b = x → p_X3_commonDivisor_49 Q (lN x) S := by
    intro x hx hx2 hg
    show Q (if 1 < lN x then lN x else 1) S
    by_cases e : (1 : Int64) < lN x
    · rw [if_pos e, ← hg]; exact hq
    · rw [if_neg e]
      have : x = 1 := by
        rw [Int64.lt_iff_toInt_lt, lN_toInt62 (by omega), show (1 : Int64).toInt = 1 from rfl] at e
        omega
      rw [hg, this] at hq; exact hq
  refine Lq_rel 100 (fun i s => ∃ x y : Nat, s = (lN x, lN y, nI i, S) ∧ 0 < x ∧ x < 2 ^ 43 ∧ y < 2 ^ 43 ∧ Nat.gcd x y = Nat.gcd a b ∧ (1 ≤ i → y < x ∧ x * y * 2 ^ (i - 1) < 2 ^ 86)) ?_ ?_ 0 _ (by omega) ⟨a, b, rfl, ha, ha2, hb2, rfl, fun q => by omega⟩
  · rintro i s hi ⟨x, y, rfl, hx, hx2, hy2, hg, hpot⟩ K hK
    refine br_f (by rw [show (100 : Int32) = nI 100 from rfl, ni_le (by omega) (by omega)]; omega) ⟨fun c => ?_, fun c => ⟨?_, ?_⟩⟩
    · rw [lc0 (by omega)] at c
      subst c
      rw [Nat.gcd_zero_right] at hg
      exact fin x hx hx2 hg.symm
    · rw [lc0 (by omega)] at c; exact lN_ne (by omega) c
    · rw [lc0 (by omega)] at c
      rw [lN_rem (by omega) (by omega), nI_1]
      have hm := Nat.mod_lt x (y := y) (by omega)
      refine hK _ ⟨y, x % y, rfl, by omega, hy2, by omega, ?_, fun _ => ⟨hm, ?_⟩⟩
      · rw [Nat.gcd_comm, ← Nat.gcd_rec, Nat.gcd_comm]; exact hg
      · rcases Nat.eq_zero_or_pos i with z | z
        · subst z
          show y * (x % y) * 2 ^ 0 < 2 ^ 86
          rw [Nat.pow_zero, Nat.mul_one]
          have h1 : y * (x % y) ≤ y * y := Nat.mul_le_mul_left y (by omega)
          have h2 : y * y < 2 ^ 43 * 2 ^ 43 := Nat.mul_lt_mul'' hy2 hy2
          have h3 : (2 : Nat) ^ 43 * 2 ^ 43 = 2 ^ 86 := by decide
          omega
        · obtain ⟨p1, p2⟩ := hpot (by omega)
          have hh := mod_half (a := x) (b := y) (by omega) (by omega)
          obtain ⟨j, rfl⟩ : ∃ j, i = j + 1 := ⟨i - 1, by omega⟩
          rw [Nat.add_sub_cancel] at p2
          show y * (x % y) * 2 ^ (j + 1) < 2 ^ 86
          have e1 : y * (x % y) * 2 ^ (j + 1) = y * (2 * (x % y)) * 2 ^ j := by
            rw [Nat.pow_succ, Nat.mul_comm (2 ^ j) 2, ← Nat.mul_assoc, Nat.mul_assoc y, Nat.mul_comm (x % y) 2]
          rw [e1]
          have e2 : y * (2 * (x % y)) ≤ x * y := by rw [Nat.mul_comm x y]; exact Nat.mul_le_mul_left y (by omega)
          exact Nat.lt_of_le_of_lt (Nat.mul_le_mul_right _ e2) p2
  · rintro s ⟨x, y, rfl, hx, hx2, hy2, hg, hpot⟩ K
    obtain ⟨p1, p2⟩ := hpot (by omega)
    have hy0 : y = 0 := by
      rcases Nat.eq_zero_or_pos y with z | z
      · exact z
      · exfalso
        have h1 : 1 ≤ x * y := Nat.mul_pos hx z
        have h2 : 1 * 2 ^ (100 - 1) ≤ x * y * 2 ^ (100 - 1) := Nat.mul_le_mul_right _ h1
        have h3 : (2 : Nat) ^ 86 ≤ 1 * 2 ^ (100 - 1) := by decide
        omega
    subst hy0
    rw [Nat.gcd_zero_right] at hg
    exact br_t (by decide) (fin x hx hx2 hg.symm)
theorem gcd_m {S : St} {a b : Nat} {Q : Int64 → St → Prop} (ha2 : a < 2 ^ 62) (hb2 : b < 2 ^ 62) (hq : Q (lN (Nat.gcd a b)) S) : p_X7_common (lN a) (lN b) S Q := by
  refine Lq_ind (fun s => ∃ x y : Nat, s = (lN x, lN y, S) ∧ x < 2 ^ 62 ∧ y < 2 ^ 62 ∧ Nat.gcd x y = Nat.gcd a b) (fun s => s.2.1.toInt.toNat) ?_ _ ⟨a, b, rfl, ha2, hb2, rfl⟩
  rintro s ⟨x, y, rfl, hx, hy, hg⟩ K hK
  refine ⟨fun c => ?_, fun c => ⟨?_, ?_⟩⟩
  · rw [lc0 hy] at c
    subst c
    rw [Nat.gcd_zero_right] at hg
    rw [hg]; exact hq
  · rw [lc0 hy] at c; exact lN_ne hy c
  · rw [lc0 hy] at c
    have hm := Nat.mod_lt x (y := y) (by omega)
    rw [lN_rem hx hy]
    refine hK _ ⟨y, x % y, rfl, hy, by omega, ?_⟩ ?_
    · rw [Nat.gcd_comm, ← Nat.gcd_rec, Nat.gcd_comm]; exact hg
    · show (lN (x % y)).toInt.toNat < (lN y).toInt.toNat
      rw [lN_toInt62 (by omega), lN_toInt62 hy]; omega
