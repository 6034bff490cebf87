/-! ===== figures ===== -/
def lsum (g : Gp) (s : Nat) : Nat := fb_sm (fun p => if s.testBit p then limg g p else 0) (gN g)
theorem lsum_p {g : Gp} (hw : WFg g) (s i : Nat) (hi : i ≤ 9) : fb_sm (fun p => if s.testBit p then limg g p else 0) i ≤ 81 := by
  have h := fb_sm_bound (f := fun p => if s.testBit p then limg g p else 0) (c := 9) (n := i) (fun k _ => by
    show (if s.testBit k then limg g k else 0) ≤ 9
    split
    · exact limg_le hw k
    · omega)
  omega
theorem lim_s {S : St} {g : Gp} {s : Nat} {Q : Int32 → St → Prop} (hw : WFg g) (hs : s < 512) (w : WB S g) (hq : Q (nI (lsum g s)) S) : p_X4_limitsOf (nI s) S Q := by
  have h9 := hw.1
  refine Lq_cnt (gN g) (fun i => (nI s, nI (fb_sm (fun p => if s.testBit p then limg g p else 0) i), nI i, S)) (fun i hi K hK => ?_) (fun K => ?_)
  · refine br_f (by rw [w.1.1, ni_le (by omega) (by omega)]; omega) (bit_s (by omega) (by omega) ?_)
    by_cases hb : s.testBit i = true
    · rw [b1_t hb]
      refine ne_f rfl ⟨vp_in_nI (by omega) (by decide), ?_⟩
      show K (_, _, _, _)
      rw [nI_clamp (by omega), w.2.2 i hi, nI_add, nI_1]
      rw [fb_sm_succ, if_pos hb] at hK; exact hK
    · rw [b1_n hb]
      refine ne_t (by decide) ?_
      show K (_, _, _, _)
      rw [nI_1]
      rw [fb_sm_succ, if_neg hb, Nat.add_zero] at hK; exact hK
  · exact br_t (by rw [w.1.1, ni_le (by omega) (by omega)]; omega) hq
theorem most_s {S : St} {g : Gp} {s : Nat} {Q : Int32 → St → Prop} (hw : WFg g) (hs : s < 512) (hn : S.1 25 0 = nI (gN g)) (w : WM S g) (hq : Q (nI (lsum g s)) S) : p_X7_mostOf (nI s) S Q := by
  have h9 := hw.1
  refine Lq_cnt (gN g) (fun i => (nI s, nI (fb_sm (fun p => if s.testBit p then limg g p else 0) i), nI i, S)) (fun i hi K hK => ?_) (fun K => ?_)
  · refine br_f (by rw [hn, ni_le (by omega) (by omega)]; omega) ?_
    by_cases hb : s.testBit i = true
    · refine hasM_t (by omega) (by omega) hb (br_f n10 ⟨vp_in_nI (by omega) (by decide), ?_⟩)
      show K (_, _, _, _)
      rw [nI_clamp (by omega), w.2 i hi, nI_add, nI_1]
      rw [fb_sm_succ, if_pos hb] at hK; exact hK
    · refine hasM_f (by omega) (by omega) (bool_f hb) (br_t rfl ?_)
      show K (_, _, _, _)
      rw [nI_1, ni_zero, nI_add, Nat.add_zero]
      rw [fb_sm_succ, if_neg hb, Nat.add_zero] at hK; exact hK
  · exact br_t (by rw [hn, ni_le (by omega) (by omega)]; omega) hq
def nlv (g : Gp) : Nat → Bool := fun p => decide (lef g p ≠ 0)
theorem m1_none {l : Nat} (hl : l ≤ 1000) : (nI l - 1 : Int32) = -1 ↔ l = 0 := by
  constructor
  · intro e
    have h := congrArg Int32.toInt e
    rw [m1_toInt hl, show (-1 : Int32).toInt = -1 from rfl] at h
    omega
  · intro e; rw [e]; rfl
theorem lef_le (g : Gp) (p : Nat) : lef g p ≤ 9 := lvc_le p 9
theorem pwl_s {S : St} {g : Gp} {Q : Int32 → St → Prop} (h9 : gN g ≤ 9) (w : WB S g) (hq : Q (nI (fb_ct (nlv g) (gN g))) S) : p_X4_personsWithLevel S Q := by
  refine Lq_cnt (gN g) (fun i => (nI (fb_ct (nlv g) i), nI i, S)) (fun i hi K hK => ?_) (fun K => ?_)
  · refine br_f (by rw [w.1.1, ni_le (by omega) (by omega)]; omega) ⟨vp_in_nI (by omega) (by decide), ?_⟩
    have hl := lef_le g i
    rw [nI_clamp (by omega), w.2.1 i hi, m1_none (by omega)]
    refine ⟨fun e => ?_, fun e => ?_⟩
    · show K (_, _, _)
      rw [fb_ct_succ_f (by unfold nlv; simp [e])] at hK
      rw [nI_1]; exact hK
    · show K (_, _, _)
      rw [fb_ct_succ_t (by unfold nlv; simp [e])] at hK
      rw [nI_1, nI_1]; exact hK
  · exact br_t (by rw [w.1.1, ni_le (by omega) (by omega)]; omega) hq
theorem lmy_s {S : St} {g : Gp} {Q : Int32 → St → Prop} (h9 : gN g ≤ 9) (hn : S.1 25 0 = nI (gN g)) (w : WM S g) (hq : Q (nI (fb_ct (nlv g) (gN g))) S) : p_X7_levelsMany S Q := by
  refine Lq_cnt (gN g) (fun i => (nI (fb_ct (nlv g) i), nI i, S)) (fun i hi K hK => ?_) (fun K => ?_)
  · refine br_f (by rw [hn, ni_le (by omega) (by omega)]; omega) ⟨vp_in_nI (by omega) (by decide), ?_⟩
    have hl := lef_le g i
    rw [nI_clamp (by omega), w.1 i hi, m1_none (by omega)]
    refine ⟨fun e => ?_, fun e => ?_⟩
    · show K (_, _, _)
      rw [fb_ct_succ_t (by unfold nlv; simp [e])] at hK
      rw [nI_1, nI_1]; exact hK
    · show K (_, _, _)
      rw [fb_ct_succ_f (by unfold nlv; simp [e])] at hK
      rw [nI_1, ni_zero, nI_add, Nat.add_zero]; exact hK
  · exact br_t (by rw [hn, ni_le (by omega) (by omega)]; omega) hq
def mxl (f : Nat → Nat) : Nat → Nat
  | 0 => 0
  | n + 1 => if mxl f n < f n then f n else mxl f n
theorem mxl_le {f : Nat → Nat} {c : Nat} (h : ∀ p, f p ≤ c) : ∀ n, mxl f n ≤ c
  | 0 => Nat.zero_le c
  | n + 1 => by
    rw [mxl]; split
    · exact h n
    · exact mxl_le h n
theorem m1_lt {a b : Nat} (ha : a ≤ 1000) (hb : b ≤ 1000) : (nI a - 1 : Int32) < nI b - 1 ↔ a < b := by
  rw [Int32.lt_iff_toInt_lt, m1_toInt ha, m1_toInt hb]; omega
theorem grl_s {S : St} {g : Gp} {Q : Int32 → St → Prop} (h9 : gN g ≤ 9) (w : WB S g) (hq : Q (nI (mxl (lef g) (gN g)) - 1) S) : p_X4_greatestLevel S Q := by
  refine Lq_cnt (gN g) (fun i => (nI (mxl (lef g) i) - 1, nI i, S)) (fun i hi K hK => ?_) (fun K => ?_)
  · refine br_f (by rw [w.1.1, ni_le (by omega) (by omega)]; omega) ⟨vp_in_nI (by omega) (by decide), fun v2 e2 => ?_⟩
    have hl := lef_le g i
    have hm := mxl_le (lef_le g) i
    rw [nI_clamp (by omega), w.2.1 i hi] at e2
    have : v2 = nI (mxl (lef g) (i + 1)) - 1 := by
      rw [e2, mxl]
      by_cases z : mxl (lef g) i < lef g i
      · rw [if_pos ((m1_lt (by omega) (by omega)).mpr z), if_pos z]
      · rw [if_neg (fun q => z ((m1_lt (by omega) (by omega)).mp q)), if_neg z]
    rw [this, nI_1]; exact hK
  · exact br_t (by rw [w.1.1, ni_le (by omega) (by omega)]; omega) hq
theorem grlM_s {S : St} {g : Gp} {Q : Int32 → St → Prop} (h9 : gN g ≤ 9) (hn : S.1 25 0 = nI (gN g)) (w : WM S g) (hq : Q (nI (mxl (lef g) (gN g)) - 1) S) : p_X7_greatestLevel S Q := by
  refine Lq_cnt (gN g) (fun i => (nI (mxl (lef g) i) - 1, nI i, S)) (fun i hi K hK => ?_) (fun K => ?_)
  · refine br_f (by rw [hn, ni_le (by omega) (by omega)]; omega) ⟨vp_in_nI (by omega) (by decide), ?_⟩
    have hl := lef_le g i
    have hm := mxl_le (lef_le g) i
    rw [nI_clamp (by omega), w.1 i hi]
    refine ⟨fun e => ?_, fun e => ⟨vp_in_nI (by omega) (by decide), ?_⟩⟩
    · have e : ¬ mxl (lef g) i < lef g i := fun z => i_nlt.mpr e ((m1_lt (by omega) (by omega)).mpr z)
      show K (_, _, _)
      rw [mxl, if_neg e] at hK
      rw [nI_1]; exact hK
    · have e : mxl (lef g) i < lef g i := (m1_lt (by omega) (by omega)).mp (i_nle.mp e)
      show K (_, _, _)
      rw [mxl, if_pos e] at hK
      rw [nI_1]; exact hK
  · exact br_t (by rw [hn, ni_le (by omega) (by omega)]; omega) hq
def vct (g : Gp) : Nat → Nat := fun p => crd (gV g p)
theorem vc_s {S : St} {g : Gp} {Q : Int32 → St → Prop} (hw : WFg g) (c : CC S g) (hq : Q (nI (fb_sm (vct g) (gN g))) S) : p_X0_vouchCount S Q := by
  have h9 := hw.1
  refine Lq_cnt (gN g) (fun i => (nI (fb_sm (vct g) i), nI i, S)) (fun i hi K hK => ?_) (fun K => ?_)
  · refine br_f (by rw [c.1, ni_le (by omega) (by omega)]; omega) ⟨vp_in_nI (by omega) (by decide), ?_⟩
    rw [nI_clamp (by omega), c.2.2.2.1 i hi]
    refine bc_s (hw.v512 hi) ?_
    rw [nI_add, nI_1]; exact hK
  · exact br_t (by rw [c.1, ni_le (by omega) (by omega)]; omega) hq
theorem va_s {S : St} {g : Gp} {Q : Int32 → St → Prop} (hw : WFg g) (c : CM S g) (hq : Q (nI (fb_sm (vct g) (gN g))) S) : p_X7_vouchesAll S Q := by
  have h9 := hw.1
  refine Lq_cnt (gN g) (fun i => (nI (fb_sm (vct g) i), nI i, S)) (fun i hi K hK => ?_) (fun K => ?_)
  · refine br_f (by rw [c.1, ni_le (by omega) (by omega)]; omega) ⟨vp_in_nI (by omega) (by decide), ?_⟩
    have := hw.v512 hi
    rw [nI_clamp (by omega), c.2.2.2.1 i hi]
    refine size_s (by omega) ?_
    rw [nI_add, nI_1]; exact hK
  · exact br_t (by rw [c.1, ni_le (by omega) (by omega)]; omega) hq
/-- about's answers -/
def abv (g : Gp) : Nat → Int32
  | 0 => nI (gN g)
  | 1 => nI (crd (sdm g))
  | 2 => nI (crd (mkm (gN g) (knd (gK g) 2)))
  | 3 => nI (fb_sm (vct g) (gN g))
  | 4 => nI (gB g)
  | 5 => nI (fb_ct (nlv g) (gN g))
  | 6 => nI (mxl (lef g) (gN g)) - 1
  | _ => nI (lsum g (2 ^ gN g - 1))
theorem fls_c {S : St} {g : Gp} {Q : Int32 → St → Prop} (hw : WFg g) (c : CC S g) (h : Q (nI (mkm (gN g) (knd (gK g) 2))) S) : p_X0_ofKind 2 S Q := ofK_s (t := 2) c.1 hw.1 (fun q hq => ⟨c.2.2.1 q hq, hw.2.2.2.1 q hq⟩) (by omega) h
theorem fls_m {S : St} {g : Gp} {Q : Int32 → St → Prop} (hw : WFg g) (c : CM S g) (h : Q (nI (mkm (gN g) (knd (gK g) 2))) S) : p_X7_ofKind 2 S Q := ofKM_s (t := 2) c.1 hw.1 (fun q hq => ⟨c.2.2.1 q hq, hw.2.2.2.1 q hq⟩) (by omega) h
theorem all_lt {n : Nat} (h : n ≤ 9) : 2 ^ n - 1 < 512 := by have := two_le h; have := Nat.two_pow_pos n; omega
theorem lit_ne {a b : Nat} (ha : a ≤ 1000) (hb : b ≤ 1000) (h : a ≠ b) : ¬ nI a = nI b := fun e => h (ni_inj (by omega) (by omega) e)
theorem KM.lv {S S1 : St} (o : ∀ a, a ≠ 33 → a ≠ 34 → S1.1 a = S.1 a) (z : S1.2 = S.2) : KM S S1 := ⟨⟨fun k hk => o k (by omega) (by omega), fun k h1 h2 => o k (by omega) (by omega), by rw [o 25 (by omega) (by omega)], by rw [o 25 (by omega) (by omega)], by rw [o 25 (by omega) (by omega)], by rw [o 25 (by omega) (by omega)], by rw [o 25 (by omega) (by omega)], by rw [o 25 (by omega) (by omega)]⟩, by rw [z]⟩
theorem about_c {S : St} {g : Gp} {k : Nat} {Q : Int32 → St → Prop} (hw : WFg g) (c : CC S g) (hN : 0 < gN g) (hk : k ≤ 7) (hq : ∀ S1, KC S S1 → Q (abv g k) S1) : p_X6_about (nI k) S Q := by
  have h9 := hw.1
  refine br_f (ni_nneg (by omega)) (br_t ?_ (ex_t c.1 h9 hN (ne_t n10 ?_)))
  · rw [show (7 : Int32) = nI 7 from rfl, ni_le (by omega) (by omega)]; exact hk
  refine ⟨fun e => ?_, fun n0 => ⟨fun e => ?_, fun n1 => ⟨fun e => ?_, fun n2 => ⟨fun e => ?_, fun n3 => ⟨fun e => ?_, fun n4 => prep_s hw c (fun S1 w1 k1 => ⟨fun e => ?_, fun n5 => ⟨fun e => ?_, fun n6 => ?_⟩⟩)⟩⟩⟩⟩⟩
  · have e := ni_inj (b := 0) (by omega) (by omega) e; subst e; rw [c.1]; exact hq S (KC.rf S)
  · have e := ni_inj (b := 1) (by omega) (by omega) e; subst e; exact sds_c hw c (bc_s (sd_lt hw) (hq S (KC.rf S)))
  · have e := ni_inj (b := 2) (by omega) (by omega) e; subst e; exact fls_c hw c (bc_s (lt_512 (mkm_lt _ _) h9) (hq S (KC.rf S)))
  · have e := ni_inj (b := 3) (by omega) (by omega) e; subst e; exact vc_s hw c (hq S (KC.rf S))
  · have e := ni_inj (b := 4) (by omega) (by omega) e; subst e; rw [c.2.1]; exact hq S (KC.rf S)
  · have e := ni_inj (b := 5) (by omega) (by omega) e; subst e; exact pwl_s h9 w1 (hq S1 k1)
  · have e := ni_inj (b := 6) (by omega) (by omega) e; subst e; exact grl_s h9 w1 (hq S1 k1)
  · have e : k = 7 := by
      have a0 : k ≠ 0 := fun z => n0 (by rw [z]; rfl)
      have a1 : k ≠ 1 := fun z => n1 (by rw [z]; rfl)
      have a2 : k ≠ 2 := fun z => n2 (by rw [z]; rfl)
      have a3 : k ≠ 3 := fun z => n3 (by rw [z]; rfl)
      have a4 : k ≠ 4 := fun z => n4 (by rw [z]; rfl)
      have a5 : k ≠ 5 := fun z => n5 (by rw [z]; rfl)
      have a6 : k ≠ 6 := fun z => n6 (by rw [z]; rfl)
      omega
    subst e
    exact all_s (c.kc k1).1 h9 (lim_s hw (all_lt h9) w1 (hq S1 k1))
theorem aboutN_s {S : St} {g : Gp} {k : Nat} {Q : Int32 → St → Prop} (hw : WFg g) (c : CM S g) (hk : k ≤ 7) (hq : ∀ S1, KM S S1 → Q (abv g k) S1) : p_X7_aboutNow (nI k) S Q := by
  have h9 := hw.1
  refine layL_s hw c (fun S1 w1 o1 z1 => ?_)
  have k1 := KM.lv o1 z1
  have c1 := c.km k1
  have hq := hq S1 k1
  refine ⟨fun e => ?_, fun n0 => ⟨fun e => ?_, fun n1 => ⟨fun e => ?_, fun n2 => ⟨fun e => ?_, fun n3 => ⟨fun e => ?_, fun n4 => ⟨fun e => ?_, fun n5 => ⟨fun e => ?_, fun n6 => ?_⟩⟩⟩⟩⟩⟩⟩
  · have e := ni_inj (b := 0) (by omega) (by omega) e; subst e; rw [c1.1]; exact hq
  · have e := ni_inj (b := 1) (by omega) (by omega) e; subst e; exact sds_m hw c1 (size_s (by have := sd_lt hw; have : mkm (gN g) (knd (gK g) 1) < 512 := this; omega) hq)
  · have e := ni_inj (b := 2) (by omega) (by omega) e; subst e; exact fls_m hw c1 (size_s (by have := lt_512 (mkm_lt (knd (gK g) 2) (gN g)) h9; omega) hq)
  · have e := ni_inj (b := 3) (by omega) (by omega) e; subst e; exact va_s hw c1 hq
  · have e := ni_inj (b := 4) (by omega) (by omega) e; subst e; rw [c1.2.1]; exact hq
  · have e := ni_inj (b := 5) (by omega) (by omega) e; subst e; exact lmy_s h9 c1.1 w1 hq
  · have e := ni_inj (b := 6) (by omega) (by omega) e; subst e; exact grlM_s h9 c1.1 w1 hq
  · have e : k = 7 := by
      have a0 : k ≠ 0 := fun z => n0 (by rw [z]; rfl)
      have a1 : k ≠ 1 := fun z => n1 (by rw [z]; rfl)
      have a2 : k ≠ 2 := fun z => n2 (by rw [z]; rfl)
      have a3 : k ≠ 3 := fun z => n3 (by rw [z]; rfl)
      have a4 : k ≠ 4 := fun z => n4 (by rw [z]; rfl)
      have a5 : k ≠ 5 := fun z => n5 (by rw [z]; rfl)
      have a6 : k ≠ 6 := fun z => n6 (by rw [z]; rfl)
      omega
    subst e
    rw [c1.1, all_eq _ h9]
    exact most_s hw (all_lt h9) c1.1 w1 hq
theorem ok_about (x : Int32) : OpOK (p_X6_about x) (p_X7_about x) := by
  refine op_ro (fun g hw => ?_)
  rcases wi_split x 0 7 with ⟨k, -, hk, rfl⟩ | hx
  · by_cases hN : gN g = 0
    · refine ⟨-103, fun S Q c h => ?_, fun S Q m h => ?_⟩
      · refine br_f (ni_nneg (by omega)) (br_t ?_ (ex_f (by rw [c.1, hN]) (ne_f rfl (h S (KC.rf S)))))
        rw [show (7 : Int32) = nI 7 from rfl, ni_le (by omega) (by omega)]; exact hk
      · exact wi_t (a := 0) (b := 7) rfl (by omega) hk (by omega) (ne_t n10 (isC_f (by rw [m.1, hN]) (br_t rfl (h S (KM.rf S)))))
    · exact ⟨abv g k, fun S Q c h => about_c hw c (by omega) hk h, fun S Q m h => wi_t (a := 0) (b := 7) rfl (by omega) hk (by omega) (ne_t n10 (isC_t m.1 hw.1 (by omega) (br_f n10 (aboutN_s hw m hk h))))⟩
  · refine ⟨-102, fun S Q c h => ?_, fun S Q m h => wi_f (a := 0) (b := 7) (by omega) (by omega) hx (ne_f rfl (h S (KM.rf S)))⟩
    refine ⟨fun _ => h S (KC.rf S), fun h0 => ⟨fun h1 => ?_, fun _ => h S (KC.rf S)⟩⟩
    exfalso
    obtain ⟨j, hj, rfl⟩ := nI_of h0
    rw [show (7 : Int32) = nI 7 from rfl, nI_leI hj (by omega)] at h1
    exact hx j (Nat.zero_le j) h1 rfl
/-- who vouches for a person -/
def vrs (g : Gp) (p : Nat) : Nat → Bool := fun b => (gV g b).testBit p
abbrev got (g : Gp) (p : Nat) : Nat := fb_ct (vrs g p) (gN g)
theorem vo_s {S : St} {g : Gp} {p : Nat} {Q : Int32 → St → Prop} (hw : WFg g) (c : CC S g) (hp : p < 9) (hq : Q (nI (mkm (gN g) (vrs g p))) S) : p_X0_vouchersOf (nI p) S Q := by
  have h9 := hw.1
  refine Lq_cnt (gN g) (fun i => (nI p, nI (mkm i (vrs g p)), nI i, S)) (fun i hi K hK => ?_) (fun K => ?_)
  · refine br_f (by rw [c.1, ni_le (by omega) (by omega)]; omega) (hasV (by omega) hp (c.2.2.2.1 i hi) (hw.v512 hi) ?_)
    have e := mkm_step (vrs g p) i (by omega) (vrs g p i = true) Iff.rfl
    by_cases hb : (gV g i).testBit p = true
    · rw [b1_t hb]
      refine br_f (by decide) ?_
      show K (_, _, _, _)
      rw [if_pos (show vrs g p i = true from hb)] at e
      rw [nI_1, e]; exact hK
    · rw [b1_n hb]
      refine br_t rfl ?_
      show K (_, _, _, _)
      rw [if_neg (show ¬ vrs g p i = true from hb), ni_zero, fa_or, Nat.or_zero] at e
      rw [nI_1, e]; exact hK
  · exact br_t (by rw [c.1, ni_le (by omega) (by omega)]; omega) hq
theorem voM_s {S : St} {g : Gp} {p : Nat} {Q : Int32 → St → Prop} (hw : WFg g) (c : CM S g) (hp : p < 9) (hq : Q (nI (got g p)) S) : p_X7_vouchersOf (nI p) S Q := by
  have h9 := hw.1
  refine Lq_cnt (gN g) (fun i => (nI p, nI (fb_ct (vrs g p) i), nI i, S)) (fun i hi K hK => ?_) (fun K => ?_)
  · have hv := hw.v512 hi
    refine br_f (by rw [c.1, ni_le (by omega) (by omega)]; omega) ⟨vp_in_nI (by omega) (by decide), ?_⟩
    rw [nI_clamp (by omega), c.2.2.2.1 i hi]
    by_cases hb : (gV g i).testBit p = true
    · refine hasM_t (by omega) (by omega) hb (br_f n10 ?_)
      show K (_, _, _, _)
      rw [fb_ct_succ_t (show vrs g p i = true from hb)] at hK
      rw [nI_1, nI_1]; exact hK
    · refine hasM_f (by omega) (by omega) (bool_f hb) (br_t rfl ?_)
      show K (_, _, _, _)
      rw [fb_ct_succ_f (show vrs g p i = false from bool_f hb)] at hK
      rw [nI_1, ni_zero, nI_add, Nat.add_zero]; exact hK
  · exact br_t (by rw [c.1, ni_le (by omega) (by omega)]; omega) hq
theorem vo_crd {g : Gp} (hw : WFg g) (p : Nat) : crd (mkm (gN g) (vrs g p)) = got g p := crd_mkm hw.1 _
/-- generous: 0 none, p + 1 the person p -/
def gen (g : Gp) : Nat → Nat
  | 0 => 0
  | p + 1 => if 0 < got g p ∧ (gen g p = 0 ∨ vct g (gen g p - 1) * got g p < vct g p * got g (gen g p - 1)) then p + 1 else gen g p
theorem gen_le (g : Gp) : ∀ p, gen g p ≤ p
  | 0 => Nat.le_refl _
  | p + 1 => by
    rw [gen]; split
    · omega
    · have := gen_le g p; omega
theorem got_le {g : Gp} (hw : WFg g) (p : Nat) : got g p ≤ 9 := Nat.le_trans (fb_ct_le _ _) hw.1
theorem ni_mul (a b : Nat) : nI a * nI b = nI (a * b) := by
  apply Int32.toBitVec_inj.mp
  show BitVec.ofNat 32 a * BitVec.ofNat 32 b = BitVec.ofNat 32 (a * b)
  exact (BitVec.ofNat_mul a b).symm
theorem mul_le81 {a b : Nat} (ha : a ≤ 9) (hb : b ≤ 9) : a * b ≤ 81 := Nat.mul_le_mul ha hb
theorem gen_c {S : St} {g : Gp} {Q : Int32 → St → Prop} (hw : WFg g) (c : CC S g) (hN : 0 < gN g) (hq : Q (nI (gen g (gN g)) - 1) S) : p_X6_generous S Q := by
  have h9 := hw.1
  refine ex_t c.1 h9 hN (ne_t n10 ?_)
  refine Lq_cnt (gN g) (fun i => (nI (gen g i) - 1, nI (if gen g i = 0 then 0 else vct g (gen g i - 1)), nI (if gen g i = 0 then 0 else got g (gen g i - 1)), nI i, S)) (fun i hi K hK => ?_) (fun K => ?_)
  · refine br_f (by rw [c.1, ni_le (by omega) (by omega)]; omega) ⟨vp_in_nI (by omega) (by decide), ?_⟩
    rw [nI_clamp (by omega), c.2.2.2.1 i hi]
    refine bc_s (hw.v512 hi) (vo_s hw c (by omega) (bc_s (lt_512 (mkm_lt _ _) h9) ?_))
    rw [vo_crd hw]
    have g1 := got_le hw i
    have g2 := gen_le g i
    have v1 := crd_le (gV g i)
    have no : ¬ (0 < got g i ∧ (gen g i = 0 ∨ vct g (gen g i - 1) * got g i < vct g i * got g (gen g i - 1))) → p_X6_generous_93 Q K (nI (gen g i) - 1) (nI (if gen g i = 0 then 0 else vct g (gen g i - 1))) (nI (if gen g i = 0 then 0 else got g (gen g i - 1))) (nI i) S := fun z => by
      show K (_, _, _, _, _)
      rw [gen, if_neg z] at hK
      rw [nI_1]; exact hK
    have yes : (0 < got g i ∧ (gen g i = 0 ∨ vct g (gen g i - 1) * got g i < vct g i * got g (gen g i - 1))) → p_X6_generous_84 Q K (nI i) (nI (crd (gV g i))) (nI (got g i)) S := fun z => by
      show K (_, _, _, _, _)
      rw [gen, if_pos z, if_neg (by omega), if_neg (by omega), m1_lvl, Nat.add_sub_cancel] at hK
      rw [nI_1]; exact hK
    refine ⟨fun e => no (fun z => ?_), fun e => ⟨fun e2 => yes ⟨?_, Or.inl ?_⟩, fun e2 => ?_⟩⟩
    · rw [ni_zero, ni_le (by omega) (by omega)] at e; omega
    · rw [ni_zero, ni_le (by omega) (by omega)] at e; omega
    · rw [m1_none (by omega)] at e2; exact e2
    · rw [ni_zero, ni_le (by omega) (by omega)] at e
      rw [m1_none (by omega)] at e2
      have g3 := got_le hw (gen g i - 1)
      have v3 := crd_le (gV g (gen g i - 1))
      have p1 := mul_le81 v1 g3
      have p2 := mul_le81 v3 g1
      rw [if_neg e2, if_neg e2, ni_mul, ni_mul, ni_le (by omega) (by have : vct g (gen g i - 1) * got g i ≤ 81 := p2; omega)]
      rw [if_neg e2, if_neg e2] at no
      refine ⟨fun e3 => no (fun z => ?_), fun e3 => yes ⟨by omega, Or.inr ?_⟩⟩
      · rcases z.2 with q | q
        · exact e2 q
        · have q : vct g (gen g i - 1) * got g i < crd (gV g i) * got g (gen g i - 1) := q
          omega
      · show _ < crd (gV g i) * got g (gen g i - 1)
        omega
  · exact br_t (by rw [c.1, ni_le (by omega) (by omega)]; omega) hq
theorem genN_s {S : St} {g : Gp} {Q : Int32 → St → Prop} (hw : WFg g) (c : CM S g) (hq : Q (nI (gen g (gN g)) - 1) S) : p_X7_generousNow S Q := by
  have h9 := hw.1
  refine Lq_cnt (gN g) (fun i => (nI (gen g i) - 1, nI i, S)) (fun i hi K hK => ?_) (fun K => ?_)
  · refine br_f (by rw [c.1, ni_le (by omega) (by omega)]; omega) (voM_s hw c (by omega) ?_)
    have g1 := got_le hw i
    have g2 := gen_le g i
    have v1 := crd_le (gV g i)
    have hvi := hw.v512 hi
    have no : ¬ (0 < got g i ∧ (gen g i = 0 ∨ vct g (gen g i - 1) * got g i < vct g i * got g (gen g i - 1))) → p_X7_generousNow_70 Q K (nI (gen g i) - 1) (nI i) S := fun z => by
      show K (_, _, _)
      rw [gen, if_neg z] at hK
      rw [nI_1]; exact hK
    have yes : (0 < got g i ∧ (gen g i = 0 ∨ vct g (gen g i - 1) * got g i < vct g i * got g (gen g i - 1))) → p_X7_generousNow_68 Q K (nI i) S := fun z => by
      show K (_, _, _)
      rw [gen, if_pos z, m1_lvl] at hK
      rw [nI_1]; exact hK
    refine ⟨fun e => br_t rfl (no (fun z => ?_)), fun e => br_f n10 ⟨fun e2 => yes ⟨?_, Or.inl ?_⟩, fun e2 => ⟨vp_in_nI (by omega) (by decide), ?_⟩⟩⟩
    · rw [ni_zero, ni_le (by omega) (by omega)] at e; omega
    · rw [ni_zero, ni_le (by omega) (by omega)] at e; omega
    · rw [m1_none (by omega)] at e2; exact e2
    · rw [ni_zero, ni_le (by omega) (by omega)] at e
      rw [m1_none (by omega)] at e2
      obtain ⟨b, hb⟩ : ∃ b, gen g i = b + 1 := ⟨gen g i - 1, by omega⟩
      have hbn : b < gN g := by omega
      have hvb := hw.v512 hbn
      have g3 := got_le hw b
      have v3 := crd_le (gV g b)
      have p1 := mul_le81 v1 g3
      have p2 := mul_le81 v3 g1
      have eb : (nI (gen g i) - 1 : Int32) = nI b := by rw [hb, m1_lvl]
      rw [nI_clamp (by omega), c.2.2.2.1 i hi]
      rw [eb] at no ⊢
      refine size_s (by omega) (voM_s hw c (by omega) ⟨vp_in_nI (by omega) (by decide), ?_⟩)
      rw [nI_clamp (by omega), c.2.2.2.1 b hbn]
      refine size_s (by omega) (voM_s hw c (by omega) ?_)
      rw [ni_mul, ni_mul, ni_le (by omega) (by omega)]
      rw [hb, Nat.add_sub_cancel] at no yes
      refine ⟨fun e3 => no (fun z => ?_), fun e3 => yes ⟨by omega, Or.inr ?_⟩⟩
      · rcases z.2 with q | q
        · omega
        · have q : crd (gV g b) * got g i < crd (gV g i) * got g b := q
          omega
      · show crd (gV g b) * got g i < crd (gV g i) * got g b
        omega
  · exact br_t (by rw [c.1, ni_le (by omega) (by omega)]; omega) hq
theorem ok_generous : OpOK p_X6_generous p_X7_generous := by
  refine op_ro (fun g hw => ?_)
  by_cases hN : gN g = 0
  · exact ⟨-103, fun S Q c h => ex_f (by rw [c.1, hN]) (ne_f rfl (h S (KC.rf S))), fun S Q m h => isC_f (by rw [m.1, hN]) (br_t rfl (h S (KM.rf S)))⟩
  · exact ⟨nI (gen g (gN g)) - 1, fun S Q c h => gen_c hw c (by omega) (h S (KC.rf S)), fun S Q m h => isC_t m.1 hw.1 (by omega) (br_f n10 (genN_s hw m (h S (KM.rf S))))⟩
/-- who is taken in -/
abbrev flm (g : Gp) : Nat := mkm (gN g) (knd (gK g) 2)
def tak (g : Gp) : Nat → Bool := fun p => decide (gK g p ≠ 2 ∧ 0 < limg g p ∧ gV g p &&& flm g ≠ 0)
theorem fl_lt {g : Gp} (hw : WFg g) : flm g < 512 := lt_512 (mkm_lt _ _) hw.1
theorem tak_c {S : St} {g : Gp} {Q : Int32 → St → Prop} (hw : WFg g) (c : CC S g) (w : WB S g) (hq : Q (nI (mkm (gN g) (tak g))) S) : p_X6_takenIn S Q := by
  have h9 := hw.1
  have hfl := fl_lt hw
  refine fls_c hw c ?_
  refine Lq_cnt (gN g) (fun i => (nI (flm g), nI (mkm i (tak g)), nI i, S)) (fun i hi K hK => ?_) (fun K => ?_)
  · have hk := hw.2.2.2.1 i hi
    have hl := limg_le hw i
    have hv := hw.v512 hi
    have e := mkm_step (tak g) i (by omega) (tak g i = true) Iff.rfl
    have no : ¬ tak g i = true → p_X6_takenIn_69 Q K (nI (flm g)) (nI (mkm i (tak g))) (nI i) S := fun z => by
      show K (_, _, _, _)
      rw [if_neg z, ni_zero, fa_or, Nat.or_zero] at e
      rw [nI_1, e]; exact hK
    refine br_f (by rw [c.1, ni_le (by omega) (by omega)]; omega) ⟨vp_in_nI (by omega) (by decide), ?_⟩
    rw [nI_clamp (by omega), c.2.2.1 i hi, w.2.2 i hi, c.2.2.2.1 i hi, fa_and]
    have handl : gV g i &&& flm g < 512 := by
      have := Nat.and_le_left (n := gV g i) (m := flm g); omega
    refine ⟨fun e1 => no (fun z => ?_), fun e1 => ⟨vp_in_nI (by omega) (by decide), fun e2 => no (fun z => ?_), fun e2 => ⟨vp_in_nI (by omega) (by decide), fun e3 => no (fun z => ?_), fun e3 => ?_⟩⟩⟩
    · unfold tak at z; simp at z; exact z.1 (ni_inj (b := 2) (by omega) (by omega) e1)
    · unfold tak at z; simp at z; rw [ni_zero, ni_le (by omega) (by omega)] at e2; omega
    · unfold tak at z; simp at z; exact z.2.2 (ni_inj (b := 0) (by omega) (by omega) e3)
    · have z : tak g i = true := by
        unfold tak; simp
        rw [ni_zero, ni_le (by omega) (by omega)] at e2
        exact ⟨fun q => e1 (by rw [q]; rfl), by omega, fun q => e3 (by rw [q]; rfl)⟩
      show K (_, _, _, _)
      rw [if_pos z] at e
      rw [nI_1, e]; exact hK
  · exact br_t (by rw [c.1, ni_le (by omega) (by omega)]; omega) hq
theorem tak_m {S : St} {g : Gp} {Q : Int32 → St → Prop} (hw : WFg g) (c : CM S g) (w : WM S g) (hq : Q (nI (mkm (gN g) (tak g))) S) : p_X7_takenIn S Q := by
  have h9 := hw.1
  have hfl := fl_lt hw
  refine Lq_cnt (gN g) (fun i => (nI (mkm i (tak g)), nI i, S)) (fun i hi K hK => ?_) (fun K => ?_)
  · have hk := hw.2.2.2.1 i hi
    have hl := limg_le hw i
    have hv := hw.v512 hi
    have e := mkm_step (tak g) i (by omega) (tak g i = true) Iff.rfl
    have no : ¬ tak g i = true → p_X7_takenIn_50 Q K (nI (mkm i (tak g))) (nI i) S := fun z => by
      refine br_t rfl ?_
      show K (_, _, _)
      rw [if_neg z] at e
      rw [nI_1, e]; exact hK
    have handl : gV g i &&& flm g < 512 := by
      have := Nat.and_le_left (n := gV g i) (m := flm g); omega
    refine br_f (by rw [c.1, ni_le (by omega) (by omega)]; omega) ⟨vp_in_nI (by omega) (by decide), ?_⟩
    rw [nI_clamp (by omega), c.2.2.1 i hi, w.2 i hi]
    refine ⟨fun e1 => no (fun z => ?_), fun e1 => ⟨vp_in_nI (by omega) (by decide), fun e2 => no (fun z => ?_), fun e2 => ⟨vp_in_nI (by omega) (by decide), fls_m hw c ?_⟩⟩⟩
    · unfold tak at z; simp at z; exact z.1 (ni_inj (b := 2) (by omega) (by omega) e1)
    · unfold tak at z; simp at z; rw [ni_zero, ni_le (by omega) (by omega)] at e2; omega
    rw [c.2.2.2.1 i hi, fa_and]
    refine ⟨fun e3 => no (fun z => ?_), fun e3 => ?_⟩
    · unfold tak at z; simp at z; exact z.2.2 (ni_inj (b := 0) (by omega) (by omega) e3)
    · have z : tak g i = true := by
        unfold tak; simp
        rw [ni_zero, ni_le (by omega) (by omega)] at e2
        exact ⟨fun q => e1 (by rw [q]; rfl), by omega, fun q => e3 (by rw [q]; rfl)⟩
      refine br_f n10 ?_
      show K (_, _, _)
      rw [if_pos z] at e
      rw [nI_1, e]; exact hK
  · exact br_t (by rw [c.1, ni_le (by omega) (by omega)]; omega) hq
