/-! ===== the cut ===== -/
theorem sm_eq_pt {f h : Nat → Nat} {n : Nat} (hle : ∀ k, k < n → f k ≤ h k) (he : fb_sm f n = fb_sm h n) {i : Nat} (hi : i < n) : f i = h i := by
  have e1 : fb_sm h n = fb_sm (fun k => f k + (h k - f k)) n := fb_sm_cong (fun k hk => by have := hle k hk; omega)
  rw [fb_sm_add] at e1
  have := sm_ge (f := fun k => h k - f k) hi
  have h2 : h i - f i ≤ fb_sm (fun k => h k - f k) n := this
  have := hle i hi
  omega
section Cu
variable {n sd : Nat} {vz lim c : Nat → Nat} {a : Nat → Nat → Nat}
theorem tgt_flow {T X : Nat} (w : NW n sd vz lim) (hT : T < 2 ^ n) (f : FV n sd vz lim c a (b1 T)) (h : tgt n sd vz lim T X) : (∀ q, q < n → (wal n sd vz X).testBit q = true → c q = lim q) ∧ ∀ b r, b < n → r < n → X.testBit b = false → (X.testBit r = true ∨ (wal n sd vz X).testBit r = true) → a b r = 0 := by
  have e := flow_id w.1 w.2.1 (fun p hp => (w.2.2.1 p hp).1) f X
  rw [kept_crd w.1 hT, h.2] at e
  have hpt : ∀ q, q < n → (if (wal n sd vz X).testBit q = true then c q else 0) ≤ (if (wal n sd vz X).testBit q = true then lim q else 0) := fun q hq => by
    split
    · exact f.1 q hq
    · omega
  have hle : fb_sm (fun q => if (wal n sd vz X).testBit q = true then c q else 0) n ≤ lsm n lim (wal n sd vz X) := fb_sm_le hpt
  have e1 : fb_sm (fun q => if (wal n sd vz X).testBit q = true then c q else 0) n = fb_sm (fun q => if (wal n sd vz X).testBit q = true then lim q else 0) n := by
    have : lsm n lim (wal n sd vz X) = fb_sm (fun q => if (wal n sd vz X).testBit q = true then lim q else 0) n := rfl
    omega
  refine ⟨fun q hq hw => ?_, fun b r hb hr hXb hXr => ?_⟩
  · have := sm_eq_pt hpt e1 hq
    simp only [hw, if_true] at this
    exact this
  · have z := sm_ge (f := fun b => if X.testBit b = true then 0 else fb_sm (fun r => if (X.testBit r || (wal n sd vz X).testBit r) = true then a b r else 0) n) hb
    have z' : (if X.testBit b = true then 0 else fb_sm (fun r => if (X.testBit r || (wal n sd vz X).testBit r) = true then a b r else 0) n) ≤ fb_sm (fun b => if X.testBit b = true then 0 else fb_sm (fun r => if (X.testBit r || (wal n sd vz X).testBit r) = true then a b r else 0) n) n := z
    rw [hXb, if_neg (by decide)] at z'
    have z2 := sm_ge (f := fun r => if (X.testBit r || (wal n sd vz X).testBit r) = true then a b r else 0) hr
    have hor : (X.testBit r || (wal n sd vz X).testBit r) = true := by rw [Bool.or_eq_true]; exact hXr
    simp only [hor, if_true] at z2
    omega
theorem SI.sub {S : St} {m s T X : Nat} {l : Nat → Nat} (w : NW n sd vz lim) (hT : T < 2 ^ n) (f : FV n sd vz lim c a (b1 T)) (hI : SI n sd vz lim c a S m l s) (h : tgt n sd vz lim T X) : ∀ i, i < m → (l i < 9 → X.testBit (l i) = true ∨ (wal n sd vz X).testBit (l i) = true) ∧ (9 ≤ l i → X.testBit (l i - 9) = true) := by
  obtain ⟨t1, t2⟩ := tgt_flow w hT f h
  have h9 := w.1
  have wt := wal_tb h9 w.2.1 (fun p hp => (w.2.2.1 p hp).1) X
  obtain ⟨-, -, a3, -, -, -, -, a8⟩ := hI
  intro i
  induction i using Nat.strongRecOn with
  | _ i ih =>
    intro hi
    have hli := (a3 i hi).1
    rcases a8 i hi with ⟨-, z2, z3⟩ | ⟨j, z1, -, z3⟩
    · refine ⟨fun _ => ?_, fun z => by omega⟩
      cases hX : X.testBit (l i)
      · right; rw [wt, z3, hX]; rfl
      · left; rfl
    · obtain ⟨i1, i2⟩ := ih j z1 (by omega)
      have hlj := (a3 j (by omega)).1
      unfold ed at z3
      by_cases hj9 : l j < 9
      · rw [if_pos hj9] at z3
        simp at z3
        obtain ⟨y1, y2, y3⟩ := z3
        refine ⟨fun z => by omega, fun _ => bool_t (fun hXi => ?_)⟩
        by_cases e : l i = 9 + l j
        · rw [if_pos e] at y3
          rcases i1 hj9 with x1 | x1
          · rw [show l i - 9 = l j by omega, x1] at hXi; cases hXi
          · have := t1 (l j) (by omega) x1; omega
        · rw [if_neg e] at y3
          have := t2 (l i - 9) (l j) (by omega) (by omega) hXi (i1 hj9)
          omega
      · rw [if_neg hj9] at z3
        simp at z3
        obtain ⟨y1, y3⟩ := z3
        have hXj := i2 (by omega)
        refine ⟨fun _ => ?_, fun z => by omega⟩
        rcases y3 with y3 | y3
        · cases hX : X.testBit (l i)
          · right
            rw [wt, hX, (vbm_tb vz X (l i) n).mpr ⟨l j - 9, by omega, hXj, y3⟩]; simp
          · left; rfl
        · left; rw [y3.1]; exact hXj
theorem reach2_s {S : St} {T : Nat} {Q : Int32 → St → Prop} (w : NW n sd vz lim) (hT : T < 2 ^ n) (f : FV n sd vz lim c a (b1 T)) (h : FS S n sd vz lim c a)
    (hq : ∀ S1 R, tgt n sd vz lim T R → (∀ X, tgt n sd vz lim T X → ∀ q, R.testBit q = true → X.testBit q = true) → FS S1 n sd vz lim c a → (∀ z, z ≠ 13 → (z < 18 ∨ 21 < z) → S1.1 z = S.1 z) → Q (nI R) S1) : p_X1_reached S Q := by
  have h9 := w.1
  refine search_s w f h (fun S1 m l sn hI h6 ho hsd hor => ?_)
  have hcl := hor.resolve_left (fun ⟨i, hi, e⟩ => by
    have := (hI.2.2.1 i hi).1
    have hx := congrArg Int32.toInt e
    rw [show (nI (l i)).toInt = (l i : Int) from nI_toInt (by omega)] at hx
    have : (-2 : Int32).toInt = -2 := by decide
    omega)
  rw [h6, show (9 : Int32) = nI 9 from rfl, ni_shr (lt_31 hI.2.2.2.2.2.1 (by omega)) (by omega)]
  have e := flow_eq h9 w.2.1 (fun p hp => (w.2.2.1 p hp).1) f (closed_FC w f hI hsd hcl)
  rw [kept_crd h9 hT] at e
  refine hq S1 (sn >>> 9) ⟨shr9_lt w hI, e⟩ (fun X hX q hq => ?_) (h.kp (fun z z1 z2 => ho z (by omega) (by omega) (by omega))) (fun z y1 y2 => ho z y1 (by omega) (by omega))
  rw [Nat.testBit_shiftRight] at hq
  obtain ⟨i, hi, e2⟩ := hI.2.2.2.1 _ hq
  have := (SI.sub w hT f hI hX i hi).2 (by omega)
  rw [e2, show 9 + q - 9 = q by omega] at this
  exact this
end Cu
/-- what a cut costs -/
def cst (g : Gp) (X : Nat) : Nat := lsum g (wl g X) + crd (X &&& flm g)
def btt (g : Gp) (X Y : Nat) : Prop := cst g X < cst g Y ∨ (cst g X = cst g Y ∧ crd X < crd Y)
def btb (g : Gp) (X Y : Nat) : Bool := decide (cst g X < cst g Y) || (decide (cst g X = cst g Y) && decide (crd X < crd Y))
def cuf (g : Gp) : Nat → Nat
  | 0 => 0
  | i + 1 => if btb g (i + 1) (cuf g i) = true then i + 1 else cuf g i
def cut0 (g : Gp) : Nat := cuf g (2 ^ gN g - 1)
theorem cuf_le (g : Gp) : ∀ i, cuf g i ≤ i
  | 0 => Nat.le_refl _
  | i + 1 => by
    have := cuf_le g i
    rw [show cuf g (i + 1) = if btb g (i + 1) (cuf g i) = true then i + 1 else cuf g i from rfl]
    split <;> omega
theorem cuf_min (g : Gp) : ∀ i Y, Y ≤ i → cst g (cuf g i) < cst g Y ∨ (cst g (cuf g i) = cst g Y ∧ crd (cuf g i) ≤ crd Y)
  | 0, Y, h => by
    have : Y = 0 := by omega
    subst this; right; exact ⟨rfl, Nat.le_refl _⟩
  | i + 1, Y, h => by
    have e : cuf g (i + 1) = if btb g (i + 1) (cuf g i) = true then i + 1 else cuf g i := rfl
    have ih := cuf_min g i
    by_cases hb : btb g (i + 1) (cuf g i) = true
    · rw [e, if_pos hb]
      unfold btb at hb
      simp at hb
      rcases Nat.lt_or_ge i Y with z | z
      · have : Y = i + 1 := by omega
        rw [this]; right; exact ⟨rfl, Nat.le_refl _⟩
      · have := ih Y z; omega
    · rw [e, if_neg hb]
      rcases Nat.lt_or_ge i Y with z | z
      · have : Y = i + 1 := by omega
        rw [this]
        unfold btb at hb
        simp at hb
        by_cases h1 : cst g (i + 1) = cst g (cuf g i)
        · have := hb.2 h1; omega
        · omega
      · exact ih Y z
theorem cut_eq {g : Gp} (hw : WFg g) {R : Nat} (h : tgt (gN g) (sdm g) (gV g) (limg g) (inn g (flm g)) R) (hm : ∀ X, tgt (gN g) (sdm g) (gV g) (limg g) (inn g (flm g)) X → ∀ q, R.testBit q = true → X.testBit q = true) : R = cut0 g := by
  have h9 := hw.1
  have hp := Nat.two_pow_pos (gN g)
  have hT := inn_lt g (flm g)
  have hTF : ∀ q, (inn g (flm g)).testBit q = true → (flm g).testBit q = true := fun q hq => adm_sub (flm g) (gN g) q hq
  have le : ∀ Y, Y < 2 ^ gN g → crd (inn g (flm g)) ≤ cst g Y ∧ (crd (inn g (flm g)) = cst g Y → tgt (gN g) (sdm g) (gV g) (limg g) (inn g (flm g)) Y) := by
    intro Y hY
    have a1 := crd_split (R := Y) (pw32 h9 hT)
    have a2 : crd (inn g (flm g) &&& Y) ≤ crd (Y &&& flm g) := crd_sub (fun i hi => by
      rw [Nat.testBit_and, Bool.and_eq_true] at hi ⊢
      exact ⟨hi.2, hTF i hi.1⟩)
    have a3 := adm_cbe (n := gN g) (sd := sdm g) (vz := gV g) (lim := limg g) (flm g) (gN g) Y hY
    have a3' : crd (df (inn g (flm g)) Y) ≤ lsum g (wl g Y) := a3
    have a4 : cst g Y = lsum g (wl g Y) + crd (Y &&& flm g) := rfl
    refine ⟨by omega, fun e => ⟨hY, ?_⟩⟩
    show crd (df (inn g (flm g)) Y) = lsum g (wl g Y)
    omega
  obtain ⟨Rs, s1, s2⟩ := adm_tgt (lim := limg g) h9 hw.sd hw.vl (flm g)
  have hRT : ∀ q, R.testBit q = true → (flm g).testBit q = true → (inn g (flm g)).testBit q = true := fun q hq hf => s2 q (tb_lt h.1 hq) hf (hm Rs s1 q hq)
  have eR : cst g R = crd (inn g (flm g)) := by
    have a1 := crd_split (R := R) (pw32 h9 hT)
    have a2 : crd (R &&& flm g) ≤ crd (inn g (flm g) &&& R) := crd_sub (fun i hi => by
      rw [Nat.testBit_and, Bool.and_eq_true] at hi ⊢
      exact ⟨hRT i hi.1 hi.2, hi.1⟩)
    have a3 : crd (df (inn g (flm g)) R) = lsum g (wl g R) := h.2
    have a4 : cst g R = lsum g (wl g R) + crd (R &&& flm g) := rfl
    have := (le R h.1).1
    omega
  have hl : cut0 g < 2 ^ gN g := by
    have := cuf_le g (2 ^ gN g - 1)
    show cuf g (2 ^ gN g - 1) < _
    omega
  have hmin := cuf_min g (2 ^ gN g - 1) R (by have := h.1; omega)
  have hmin' : cst g (cut0 g) < cst g R ∨ (cst g (cut0 g) = cst g R ∧ crd (cut0 g) ≤ crd R) := hmin
  have l0 := (le (cut0 g) hl).1
  have ht := (le (cut0 g) hl).2 (by omega)
  have hsub := hm (cut0 g) ht
  refine tb_ext' h.1 hl (fun i hi => ?_)
  cases hb : R.testBit i
  · refine (bool_f (fun z => ?_)).symm
    have := crd_lt_sub (by omega) hsub hb z
    omega
  · exact (hsub i hb).symm
theorem cst_le {g : Gp} (hw : WFg g) (X : Nat) : cst g X ≤ 90 := by
  have := lsum_le hw (wl g X)
  have := crd_le (X &&& flm g)
  unfold cst; omega
theorem ni_cmp : ∀ x, x < 91 → ∀ y, y < 91 → ((nI x - nI y < 0 ↔ x < y) ∧ (nI x - nI y = 0 ↔ x = y)) := by decide +kernel
theorem cost_s {S : St} {g : Gp} {X : Nat} {Q : Int32 → St → Prop} (hw : WFg g) (c : CM S g) (m : LM S g) (hX : X < 2 ^ gN g) (hq : Q (nI (cst g X)) S) : p_X7_costOf (nI X) S Q := by
  have h5 := lt_512 hX hw.1
  refine ⟨vp_in_nI (by omega) (by decide), fls_m hw c ?_⟩
  rw [fa_and]
  refine size_s (Nat.lt_of_le_of_lt Nat.and_le_left (by omega)) ?_
  rw [nI_clamp (by omega), m.2 X hX, nI_add]
  exact hq
theorem cutSet_s {S : St} {g : Gp} {Q : Int32 → St → Prop} (hw : WFg g) (c : CM S g) (m : LM S g) (hq : Q (nI (cut0 g)) S) : p_X7_cutSet S Q := by
  have h9 := hw.1
  have h2 := two_le h9
  have hp := Nat.two_pow_pos (gN g)
  refine Lq_cnt (2 ^ gN g - 1) (fun i => (nI (cuf g i), nI (i + 1), S)) (fun i hi K hK => ?_) (fun K => ?_)
  · have hc := cuf_le g i
    have l1 := cst_le hw (i + 1)
    have l2 := cst_le hw (cuf g i)
    have e : cuf g (i + 1) = if btb g (i + 1) (cuf g i) = true then i + 1 else cuf g i := rfl
    refine br_f (by rw [pow_s c.1 h9, ni_le (by omega) (by omega)]; omega) (cost_s hw c m (by omega) (cost_s hw c m (by omega) ?_))
    obtain ⟨p1, p2⟩ := ni_cmp (cst g (i + 1)) (by omega) (cst g (cuf g i)) (by omega)
    have yes : btb g (i + 1) (cuf g i) = true → p_X7_cutSet_45 Q K (nI (i + 1)) S := fun h => by
      show K _
      rw [nI_1]
      rw [e, if_pos h] at hK; exact hK
    have no : ¬ btb g (i + 1) (cuf g i) = true → p_X7_cutSet_49 Q K (nI (cuf g i)) (nI (i + 1)) S := fun h => by
      show K _
      rw [nI_1]
      rw [e, if_neg h] at hK; exact hK
    by_cases h1 : cst g (i + 1) < cst g (cuf g i)
    · exact br_t (p1.mpr h1) (yes (by unfold btb; simp [h1]))
    · refine br_f (fun z => h1 (p1.mp z)) ?_
      by_cases h3 : cst g (i + 1) = cst g (cuf g i)
      · refine ne_f (p2.mpr h3) (size_s (by omega) (size_s (by omega) ?_))
        have q1 := crd_le (i + 1)
        have q2 := crd_le (cuf g i)
        by_cases h4 : crd (cuf g i) ≤ crd (i + 1)
        · exact br_t (by rw [ni_le (by omega) (by omega)]; exact h4) (no (by unfold btb; simp [h3]; omega))
        · exact br_f (by rw [ni_le (by omega) (by omega)]; exact h4) (yes (by unfold btb; simp [h3]; omega))
      · exact ne_t (fun z => h3 (p2.mp z)) (no (by unfold btb; simp [h1, h3]))
  · refine br_t (by rw [pow_s c.1 h9, ni_le (by omega) (by omega)]; omega) hq
theorem cut_lt {g : Gp} : cut0 g < 2 ^ gN g := by
  have := cuf_le g (2 ^ gN g - 1)
  have := Nat.two_pow_pos (gN g)
  show cuf g (2 ^ gN g - 1) < _
  omega
def ctv (g : Gp) (k : Nat) : Int32 := if k = 0 then nI (cst g (cut0 g)) else if k = 1 then nI (wl g (cut0 g)) else nI (cut0 g)
theorem cutN_s {S : St} {g : Gp} {k : Nat} {Q : Int32 → St → Prop} (hw : WFg g) (c : CM S g) (hk : k ≤ 2) (hq : ∀ S1, KM S S1 → Q (ctv g k) S1) : p_X7_cutNow (nI k) S Q := by
  refine lay_m hw c (fun S1 m1 k1 => cutSet_s hw (c.km k1) m1 ?_)
  have c1 := c.km k1
  have h' := hq S1 k1
  by_cases h0 : k = 0
  · subst h0
    exact ne_f rfl (cost_s hw c1 m1 cut_lt h')
  · refine ne_t (lit_ne (b := 0) (by omega) (by omega) h0) ?_
    by_cases h1 : k = 1
    · subst h1
      exact ne_f rfl (wall_s hw c1 (lt_512 cut_lt hw.1) h')
    · have h2 : k = 2 := by omega
      subst h2
      exact ne_t (by decide) h'
theorem cut_c {S : St} {g : Gp} {k : Nat} {Q : Int32 → St → Prop} (hw : WFg g) (c : CC S g) (hN : 0 < gN g) (hk : k ≤ 2) (hq : ∀ S1, KC S S1 → Q (ctv g k) S1) : p_X6_cut (nI k) S Q := by
  have h9 := hw.1
  refine br_f (ni_nneg (by omega)) (br_t (by rw [show (2 : Int32) = nI 2 from rfl, ni_le (by omega) (by omega)]; omega) (ex_t c.1 h9 hN (ne_t n10 (fls_c hw c (prep_s hw c (fun S1 b1 k1 => adm_s (cand := flm g) hw (by have := fl_lt hw; omega) (c.kc k1).1 b1 (fun S2 c2 a2 f2 v2 b2 k2 => reach2_s hw.nw (inn_lt g _) v2 f2 (fun S3 R tR mR f3 o3 => ?_))))))))
  have e := cut_eq hw tR mR
  subst e
  have b3 : WB S3 g := ⟨⟨by rw [o3 14 (by omega) (by omega)]; exact b2.1.1, by rw [o3 14 (by omega) (by omega)]; exact b2.1.2.1, fun p hp => by rw [o3 15 (by omega) (by omega)]; exact b2.1.2.2 p hp⟩, fun p hp => by rw [o3 16 (by omega) (by omega)]; exact b2.2.1 p hp, fun p hp => by rw [o3 17 (by omega) (by omega)]; exact b2.2.2 p hp⟩
  have h' := hq S3 ((k1.tr k2).tr (KC.fl o3))
  refine vb_s h9 (lt_512 cut_lt h9) b3.1 ?_
  rw [b3.1.2.1, fa_or, ni_df]
  by_cases h0 : k = 0
  · subst h0
    refine br_t rfl (lim_s hw (lt_512 (wl_lt hw _) h9) b3 ?_)
    rw [fa_and]
    refine bc_s (Nat.lt_of_le_of_lt Nat.and_le_left (lt_512 cut_lt h9)) ?_
    rw [nI_add]; exact h'
  · refine br_f (lit_ne (b := 0) (by omega) (by omega) h0) ?_
    by_cases h1 : k = 1
    · subst h1; exact br_t rfl h'
    · have h2 : k = 2 := by omega
      subst h2
      exact br_f (by decide) h'
theorem ok_cut (x : Int32) : OpOK (p_X6_cut x) (p_X7_cut x) := by
  refine op_ro (fun g hw => ?_)
  have h9 := hw.1
  rcases wi_split x 0 2 with ⟨k, -, hk, rfl⟩ | hx
  · rcases Nat.eq_zero_or_pos (gN g) with h0 | h0
    · refine ⟨-103, fun S Q c h => br_f (ni_nneg (by omega)) (br_t (by rw [show (2 : Int32) = nI 2 from rfl, ni_le (by omega) (by omega)]; omega) (ex_f (by rw [c.1, h0]) (ne_f rfl (h S (KC.rf S))))), fun S Q c h => wi_t (a := 0) (b := 2) rfl (by omega) hk (by omega) (ne_t n10 (isC_f (by rw [c.1, h0]) (br_t rfl (h S (KM.rf S)))))⟩
    · exact ⟨ctv g k, fun S Q c h => cut_c hw c h0 hk h, fun S Q c h => wi_t (a := 0) (b := 2) rfl (by omega) hk (by omega) (ne_t n10 (isC_t c.1 h9 h0 (br_f n10 (cutN_s hw c hk h))))⟩
  · refine ⟨-102, fun S Q c h => ?_, fun S Q c h => wi_f (a := 0) (b := 2) (by omega) (by omega) hx (ne_f rfl (h S (KM.rf S)))⟩
    by_cases hn : x < 0
    · exact br_t hn (h S (KC.rf S))
    · refine br_f hn (br_f (fun z => ?_) (h S (KC.rf S)))
      obtain ⟨j, j1, j2⟩ := rng_of (n := 3) (by omega) hn (fun y => by
        have := Int32.le_trans y z
        exact absurd this (by decide))
      exact hx j (by omega) (by omega) j2
