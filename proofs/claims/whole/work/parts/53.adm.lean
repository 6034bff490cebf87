/-! ===== who is in, one after another ===== -/
def cbb (n sd : Nat) (vz lim : Nat → Nat) (s : Nat) : Bool := @decide (∀ R, R < 2 ^ n → crd (df s R) ≤ lsm n lim (wal n sd vz R)) (Nat.decidableBallLT (2 ^ n) (fun R _ => crd (df s R) ≤ lsm n lim (wal n sd vz R)))
theorem cbb_t {n sd s : Nat} {vz lim : Nat → Nat} : cbb n sd vz lim s = true ↔ cbe n sd vz lim s := by
  unfold cbb
  exact decide_eq_true_iff
def adm (n sd : Nat) (vz lim : Nat → Nat) (cand : Nat) : Nat → Nat
  | 0 => 0
  | p + 1 => if cand.testBit p = true ∧ cbb n sd vz lim (adm n sd vz lim cand p ||| 2 ^ p) = true then adm n sd vz lim cand p ||| 2 ^ p else adm n sd vz lim cand p
theorem adm_lt (n sd : Nat) (vz lim : Nat → Nat) (cand : Nat) : ∀ p, adm n sd vz lim cand p < 2 ^ p
  | 0 => by show 0 < 1; omega
  | p + 1 => by
    have h := adm_lt n sd vz lim cand p
    have h1 : adm n sd vz lim cand p < 2 ^ (p + 1) := Nat.lt_of_lt_of_le h (Nat.pow_le_pow_right (by omega) (by omega))
    show (if _ then _ else _) < _
    split
    · exact Nat.or_lt_two_pow h1 (Nat.pow_lt_pow_right (by omega) (by omega))
    · exact h1
theorem lsm_le {n : Nat} {lim : Nat → Nat} (hn : n ≤ 9) (h : ∀ p, p < n → lim p ≤ 9) (s : Nat) : lsm n lim s ≤ 81 := by
  have h1 : lsm n lim s ≤ fb_sm (fun _ => 9) n := fb_sm_le (fun p hp => by
    show (if _ then _ else _) ≤ 9
    split
    · exact h p hp
    · omega)
  rw [fb_sm_const] at h1
  omega
theorem b1_or {m p : Nat} (h : m.testBit p = false) : (fun q => if q = p then b1 m q + 1 else b1 m q) = b1 (m ||| 2 ^ p) := by
  funext q
  by_cases e : q = p
  · subst e
    simp only [if_pos]
    rw [b1_f h, b1_t (by rw [fb_bit_set]; simp)]
  · simp only [if_neg e]
    unfold b1
    rw [fb_bit_set]; simp [e]
theorem fv_zero (n sd : Nat) (vz lim : Nat → Nat) : FV n sd vz lim (fun _ => 0) (fun _ _ => 0) (fun _ => 0) := by
  have z : fb_sm (fun _ => 0) n = 0 := sm_if0 (fun _ _ => rfl)
  refine ⟨fun _ _ => Nat.zero_le _, fun _ _ => ?_, fun _ _ => ?_, fun _ _ _ => z, fun _ _ _ _ h => absurd h (Nat.lt_irrefl _)⟩
  · show 0 = 0 + fb_sm (fun _ => 0) n
    rw [z]
  · show fb_sm (fun _ => 0) n ≤ 0
    omega
section Ad
variable {n sd : Nat} {vz lim : Nat → Nat}
theorem fbegin_s {S : St} {Q : St → Prop} (h9 : n ≤ 9) (h0 : S.1 14 0 = nI n) (h1 : S.1 14 1 = nI sd) (h2 : ∀ p, p < n → S.1 15 p = nI (vz p)) (h3 : ∀ p, p < n → S.1 17 p = nI (lim p)) (hq : ∀ S1, FS S1 n sd vz lim (fun _ => 0) (fun _ _ => 0) → (∀ z, z ≠ 18 → z ≠ 19 → S1.1 z = S.1 z) → Q S1) : p_X1_begin S Q := by
  refine fill_18 (fun S1 a1 _ a3 => fill_19 (fun S2 b1 _ b3 => ?_))
  have o : ∀ z, z ≠ 18 → z ≠ 19 → S2.1 z = S.1 z := fun z y1 y2 => by rw [b1 z y2, a1 z y1]
  refine hq S2 ⟨by rw [o 14 (by omega) (by omega)]; exact h0, by rw [o 14 (by omega) (by omega)]; exact h1, fun p hp => by rw [o 15 (by omega) (by omega)]; exact h2 p hp, fun p hp => by rw [o 17 (by omega) (by omega)]; exact h3 p hp, fun p hp => ?_, fun p q hp hq => ?_⟩ o
  · rw [b1 18 (by omega)]; exact a3 p (by omega)
  · exact b3 _ (by omega)
theorem admit_s {S : St} {cand : Nat} {Q : Int32 → St → Prop} (w : NW n sd vz lim) (hc : cand < 2 ^ 31) (hn : S.1 2 0 = nI n) (h0 : S.1 14 0 = nI n) (h1 : S.1 14 1 = nI sd) (h2 : ∀ p, p < n → S.1 15 p = nI (vz p)) (h3 : ∀ p, p < n → S.1 17 p = nI (lim p))
    (hq : ∀ S1 c a, FS S1 n sd vz lim c a → FV n sd vz lim c a (b1 (adm n sd vz lim cand n)) → (∀ z, z ≠ 13 → (z < 18 ∨ 21 < z) → S1.1 z = S.1 z) → Q (nI (adm n sd vz lim cand n)) S1) : p_X6_admitted (nI cand) S Q := by
  have h9 := w.1
  refine fbegin_s h9 h0 h1 h2 h3 (fun S1 f1 o1 => ?_)
  refine Lq_rel n (fun i t => ∃ S2 c a, t = (nI cand, nI (adm n sd vz lim cand i), nI i, S2) ∧ FS S2 n sd vz lim c a ∧ FV n sd vz lim c a (b1 (adm n sd vz lim cand i)) ∧ (∀ z, z ≠ 13 → (z < 18 ∨ 21 < z) → S2.1 z = S.1 z)) ?_ ?_ 0 _ (by omega) ⟨S1, _, _, rfl, f1, ?_, fun z y1 y2 => o1 z (by omega) (by omega)⟩
  · rintro i t hi ⟨S2, c, a, rfl, f2, v2, o2⟩ K hK
    have hal := adm_lt n sd vz lim cand i
    have haln : adm n sd vz lim cand i < 2 ^ n := Nat.lt_of_lt_of_le hal (Nat.pow_le_pow_right (by omega) (by omega))
    have hab : (adm n sd vz lim cand i).testBit i = false := tb_ge hal (Nat.le_refl _)
    refine br_f (by rw [o2 2 (by omega) (by omega), hn, ni_le (by omega) (by omega)]; omega) (bit_s hc (by omega) ?_)
    by_cases hb : cand.testBit i = true
    · rw [b1_t hb]
      refine ne_f rfl (send_s w v2 f2 hi (fun S3 c3 a3 f3 v3 o3 => ?_) (fun S3 I R hR hFC hRi f3 o3 => ?_))
      · refine br_f n10 ?_
        rw [b1_or hab] at v3
        have hcb := cbe_of h9 w.2.1 (fun p hp => (w.2.2.1 p hp).1) (Nat.or_lt_two_pow haln (Nat.pow_lt_pow_right (by omega) hi)) v3
        have e : adm n sd vz lim cand (i + 1) = adm n sd vz lim cand i ||| 2 ^ i := by
          show (if _ then _ else _) = _
          rw [if_pos ⟨hb, cbb_t.mpr hcb⟩]
        show K _
        rw [ni_shl1 i (by omega), fa_or, nI_1, ← e]
        exact hK _ ⟨S3, c3, a3, rfl, f3, by rw [e]; exact v3, fun z y1 y2 => by rw [o3 z y1 y2, o2 z y1 y2]⟩
      · refine br_t rfl ?_
        have hcb := not_cbe h9 w.2.1 (fun p hp => (w.2.2.1 p hp).1) haln v2 hi hab hR hFC hRi
        have e : adm n sd vz lim cand (i + 1) = adm n sd vz lim cand i := by
          show (if _ then _ else _) = _
          rw [if_neg (fun z => hcb (cbb_t.mp z.2))]
        show K _
        rw [nI_1, ← e]
        exact hK _ ⟨S3, c, a, rfl, f3, by rw [e]; exact v2, fun z y1 y2 => by rw [o3 z y1 y2, o2 z y1 y2]⟩
    · rw [b1_n hb]
      refine ne_t (by decide) ?_
      have e : adm n sd vz lim cand (i + 1) = adm n sd vz lim cand i := by
        show (if _ then _ else _) = _
        rw [if_neg (fun z => hb z.1)]
      show K _
      rw [nI_1, ← e]
      exact hK _ ⟨S2, c, a, rfl, f2, by rw [e]; exact v2, o2⟩
  · rintro t ⟨S2, c, a, rfl, f2, v2, o2⟩ K
    exact br_t (by rw [o2 2 (by omega) (by omega), hn, ni_le (by omega) (by omega)]; omega) (hq S2 c a f2 v2 o2)
  · have : b1 (adm n sd vz lim cand 0) = fun _ => 0 := by funext q; exact b1_f (Nat.zero_testBit q)
    rw [this]; exact fv_zero n sd vz lim
end Ad
theorem WFg.nw {g : Gp} (hw : WFg g) : NW (gN g) (sdm g) (gV g) (limg g) := ⟨hw.1, hw.sd, fun p hp => ⟨(hw.2.2.2.2.1 p hp).1, (hw.2.2.2.2.1 p hp).2.2⟩, fun p _ => limg_le hw p⟩
/-- who is in, of the candidates -/
def inn (g : Gp) (cand : Nat) : Nat := adm (gN g) (sdm g) (gV g) (limg g) cand (gN g)
def FSg (S : St) (g : Gp) (c : Nat → Nat) (a : Nat → Nat → Nat) : Prop := FS S (gN g) (sdm g) (gV g) (limg g) c a
def FVg (g : Gp) (c : Nat → Nat) (a : Nat → Nat → Nat) (k : Nat → Nat) : Prop := FV (gN g) (sdm g) (gV g) (limg g) c a k
theorem inn_lt (g : Gp) (cand : Nat) : inn g cand < 2 ^ gN g := adm_lt _ _ _ _ _ _
theorem KC.fl {S S1 : St} (h : ∀ z, z ≠ 13 → (z < 18 ∨ 21 < z) → S1.1 z = S.1 z) : KC S S1 := ⟨fun k hk => h k (by omega) (by omega), fun k hk => h k (by omega) (by omega)⟩
theorem adm_s {S : St} {g : Gp} {cand : Nat} {Q : Int32 → St → Prop} (hw : WFg g) (hc : cand < 2 ^ 31) (hn : S.1 2 0 = nI (gN g)) (b : WB S g)
    (hq : ∀ S1 c a, FSg S1 g c a → FVg g c a (b1 (inn g cand)) → WB S1 g → KC S S1 → Q (nI (inn g cand)) S1) : p_X6_admitted (nI cand) S Q :=
  admit_s hw.nw hc hn b.1.1 b.1.2.1 b.1.2.2 b.2.2 (fun S1 c a f v o => hq S1 c a f v ⟨⟨by rw [o 14 (by omega) (by omega)]; exact b.1.1, by rw [o 14 (by omega) (by omega)]; exact b.1.2.1, fun p hp => by rw [o 15 (by omega) (by omega)]; exact b.1.2.2 p hp⟩, fun p hp => by rw [o 16 (by omega) (by omega)]; exact b.2.1 p hp, fun p hp => by rw [o 17 (by omega) (by omega)]; exact b.2.2 p hp⟩ (KC.fl o))
/-- the reference's walls -/
abbrev wl (g : Gp) (R : Nat) : Nat := wal (gN g) (sdm g) (gV g) R
abbrev cb (g : Gp) (s : Nat) : Prop := cbe (gN g) (sdm g) (gV g) (limg g) s
def LM (S : St) (g : Gp) : Prop := WM S g ∧ ∀ R, R < 2 ^ gN g → S.1 35 R = nI (lsum g (wl g R))
theorem lsum_le {g : Gp} (hw : WFg g) (s : Nat) : lsum g s ≤ 81 := lsm_le hw.1 (fun p _ => limg_le hw p) s
theorem wl_lt {g : Gp} (hw : WFg g) (R : Nat) : wl g R < 2 ^ gN g := wal_lt hw.sd hw.vl R
theorem wall_s {S : St} {g : Gp} {R : Nat} {Q : Int32 → St → Prop} (hw : WFg g) (c : CM S g) (hR : R < 512) (hq : Q (nI (wl g R)) S) : p_X7_wallOf (nI R) S Q := by
  refine sds_m hw c (vbM_s hw.1 hR c ?_)
  rw [fa_or, ni_df]; exact hq
theorem pow_s {S : St} {n : Nat} (h : S.1 25 0 = nI n) (h9 : n ≤ 9) : (1 : Int32) <<< (S.1 25 0 &&& 31) = nI (2 ^ n) := by rw [h, ni_shl1 n (by omega)]
theorem KM0.l3 {S S1 : St} (o : ∀ a, a ≠ 33 → a ≠ 34 → a ≠ 35 → S1.1 a = S.1 a) : KM0 S S1 := ⟨fun k hk => o k (by omega) (by omega) (by omega), fun k h1 h2 => o k (by omega) (by omega) (by omega), by rw [o 25 (by omega) (by omega) (by omega)], by rw [o 25 (by omega) (by omega) (by omega)], by rw [o 25 (by omega) (by omega) (by omega)], by rw [o 25 (by omega) (by omega) (by omega)], by rw [o 25 (by omega) (by omega) (by omega)], by rw [o 25 (by omega) (by omega) (by omega)]⟩
theorem KM.l3 {S S1 : St} (o : ∀ a, a ≠ 33 → a ≠ 34 → a ≠ 35 → S1.1 a = S.1 a) (z : S1.2 = S.2) : KM S S1 := ⟨KM0.l3 o, by rw [z]⟩
theorem lay_o {S : St} {g : Gp} {Q : St → Prop} (hw : WFg g) (c : CM S g) (hq : ∀ S1, LM S1 g → (∀ a, a ≠ 33 → a ≠ 34 → a ≠ 35 → S1.1 a = S.1 a) → S1.2 = S.2 → Q S1) : p_X7_lay S Q := by
  have h9 := hw.1
  have h2 := two_le h9
  refine layL_s hw c (fun S1 w1 o1 z1 => ?_)
  refine Lq_rel (2 ^ gN g) (fun i t => ∃ S2, t = (nI i, S2) ∧ S2.2 = S.2 ∧ WM S2 g ∧ (∀ a, a ≠ 33 → a ≠ 34 → a ≠ 35 → S2.1 a = S.1 a) ∧ ∀ R, R < i → S2.1 35 R = nI (lsum g (wl g R))) ?_ ?_ 0 _ (Nat.zero_le _) ⟨S1, rfl, z1, w1, fun a y1 y2 _ => o1 a y1 y2, fun R hR => absurd hR (Nat.not_lt_zero _)⟩
  · rintro i t hi ⟨S2, rfl, z2, w2, o2, h2'⟩ K hK
    have c2 := c.km0 (KM0.l3 o2)
    refine br_f (by rw [pow_s c2.1 h9, ni_le (by omega) (by omega)]; omega) (wall_s hw c2 (by omega) (most_s hw (lt_512 (wl_lt hw i) h9) c2.1 w2 ⟨vp_in_nI (by omega) (by decide), fun S7 e7 => ?_⟩))
    rw [nI_clamp (by omega)] at e7
    rw [nI_1]
    refine hK _ ⟨S7, rfl, by rw [e7]; exact z2, ⟨fun p hp => by rw [e7, cI_n (by omega)]; exact w2.1 p hp, fun p hp => by rw [e7, cI_n (by omega)]; exact w2.2 p hp⟩, fun a y1 y2 y3 => by rw [e7, cI_n y3]; exact o2 a y1 y2 y3, fun R hR => ?_⟩
    rw [e7, si_r, if_pos rfl]
    split
    · rename_i e; rw [e]
    · exact h2' R (by omega)
  · rintro t ⟨S2, rfl, z2, w2, o2, h2'⟩ K
    have c2 := c.km0 (KM0.l3 o2)
    exact br_t (by rw [pow_s c2.1 h9, ni_le (by omega) (by omega)]; omega) (hq S2 ⟨w2, h2'⟩ o2 z2)
theorem lay_m {S : St} {g : Gp} {Q : St → Prop} (hw : WFg g) (c : CM S g) (hq : ∀ S1, LM S1 g → KM S S1 → Q S1) : p_X7_lay S Q := lay_o hw c (fun S1 m o z => hq S1 m (KM.l3 o z))
theorem can_s {S : St} {g : Gp} {s : Nat} {Q : Int32 → St → Prop} (hw : WFg g) (hn : S.1 25 0 = nI (gN g)) (m : LM S g) (hs : s < 512) (hq : Q (if cbb (gN g) (sdm g) (gV g) (limg g) s = true then 1 else 0) S) : p_X7_canBe (nI s) S Q := by
  have h9 := hw.1
  have h2 := two_le h9
  have P : ∀ R, R < 2 ^ gN g → ((S.1 35 R < nI (crd (df s R))) ↔ ¬ crd (df s R) ≤ lsm (gN g) (limg g) (wl g R)) := fun R hR => by
    have := lsum_le hw (wl g R)
    have := crd_le (df s R)
    rw [m.2 R hR, ni_lt (by omega) (by omega)]
    exact ⟨fun h h' => by have : lsum g (wl g R) = lsm (gN g) (limg g) (wl g R) := rfl; omega, fun h => by have : lsum g (wl g R) = lsm (gN g) (limg g) (wl g R) := rfl; omega⟩
  refine Lq_rel (2 ^ gN g) (fun i t => ∃ v : Int32, t = (nI s, v, nI i, S) ∧ ((v = 1 ∧ ∀ R, R < i → crd (df s R) ≤ lsm (gN g) (limg g) (wl g R)) ∨ (v = 0 ∧ ¬ cb g s))) ?_ ?_ 0 _ (Nat.zero_le _) ⟨1, rfl, Or.inl ⟨rfl, fun R hR => absurd hR (Nat.not_lt_zero _)⟩⟩
  · rintro i t hi ⟨v, rfl, hv⟩ K hK
    refine br_f (by rw [pow_s hn h9, ni_le (by omega) (by omega)]; omega) ?_
    rcases hv with ⟨rfl, hR⟩ | ⟨rfl, hx⟩
    · refine br_f n10 ⟨vp_in_nI (by omega) (by decide), ?_⟩
      rw [ni_df, nI_clamp (by omega)]
      refine size_s (by have := df_lt (b := i) (n := 9) hs; omega) ?_
      by_cases hc : crd (df s i) ≤ lsm (gN g) (limg g) (wl g i)
      · refine br_f (fun z => (P i hi).mp z hc) ?_
        show K _
        rw [nI_1]
        refine hK _ ⟨1, rfl, Or.inl ⟨rfl, fun R hR' => ?_⟩⟩
        rcases Nat.lt_or_ge R i with z | z
        · exact hR R z
        · have : R = i := by omega
          rw [this]; exact hc
      · refine br_t ((P i hi).mpr hc) ?_
        show K _
        rw [nI_1]
        exact hK _ ⟨0, rfl, Or.inr ⟨rfl, fun z => hc (z i hi)⟩⟩
    · rw [if_neg (fun z => hx (cbb_t.mp z))] at hq
      exact br_t rfl ⟨Or.inl rfl, hq⟩
  · rintro t ⟨v, rfl, hv⟩ K
    refine br_t (by rw [pow_s hn h9, ni_le (by omega) (by omega)]; omega) ?_
    rcases hv with ⟨rfl, hR⟩ | ⟨rfl, hx⟩
    · rw [if_pos (cbb_t.mpr hR)] at hq
      exact ⟨Or.inr rfl, hq⟩
    · rw [if_neg (fun z => hx (cbb_t.mp z))] at hq
      exact ⟨Or.inl rfl, hq⟩
theorem all_tb {n p : Nat} (h : p < n) : (2 ^ n - 1).testBit p = true := by rw [Nat.testBit_two_pow_sub_one]; simp [h]
theorem allin_s {S : St} {g : Gp} {Q : Int32 → St → Prop} (hw : WFg g) (hn : S.1 25 0 = nI (gN g)) (m : LM S g) (hq : Q (nI (inn g (2 ^ gN g - 1))) S) : p_X7_allIn S Q := by
  have h9 := hw.1
  have h2 := two_le h9
  refine Lq_cnt (gN g) (fun i => (nI (adm (gN g) (sdm g) (gV g) (limg g) (2 ^ gN g - 1) i), nI i, S)) (fun i hi K hK => ?_) (fun K => ?_)
  · have hal := adm_lt (gN g) (sdm g) (gV g) (limg g) (2 ^ gN g - 1) i
    have haln : adm (gN g) (sdm g) (gV g) (limg g) (2 ^ gN g - 1) i < 2 ^ gN g := Nat.lt_of_lt_of_le hal (Nat.pow_le_pow_right (by omega) (by omega))
    have h512 := lt_512 (Nat.or_lt_two_pow haln (Nat.pow_lt_pow_right (by omega) hi)) h9
    refine br_f (by rw [hn, ni_le (by omega) (by omega)]; omega) ?_
    rw [ni_shl1 i (by omega), fa_or]
    refine can_s hw hn m h512 ?_
    by_cases hc : cb g (adm (gN g) (sdm g) (gV g) (limg g) (2 ^ gN g - 1) i ||| 2 ^ i)
    · rw [if_pos (cbb_t.mpr hc)]
      refine br_f n10 ?_
      show K _
      rw [fa_or, nI_1]
      have e : adm (gN g) (sdm g) (gV g) (limg g) (2 ^ gN g - 1) (i + 1) = adm (gN g) (sdm g) (gV g) (limg g) (2 ^ gN g - 1) i ||| 2 ^ i := by
        show (if _ then _ else _) = _
        rw [if_pos ⟨all_tb hi, cbb_t.mpr hc⟩]
      rw [← e]; exact hK
    · rw [if_neg (fun z => hc (cbb_t.mp z))]
      refine br_t rfl ?_
      show K _
      rw [ni_zero, fa_or, Nat.or_zero, nI_1]
      have e : adm (gN g) (sdm g) (gV g) (limg g) (2 ^ gN g - 1) (i + 1) = adm (gN g) (sdm g) (gV g) (limg g) (2 ^ gN g - 1) i := by
        show (if _ then _ else _) = _
        rw [if_neg (fun z => hc (cbb_t.mp z.2))]
      rw [← e]; exact hK
  · exact br_t (by rw [hn, ni_le (by omega) (by omega)]; omega) hq
