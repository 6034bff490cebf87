/-! ===== levels and limits ===== -/
def met (n sd : Nat) (vz : Nat → Nat) : Nat → Nat
  | 0 => sd
  | l + 1 => met n sd vz l ||| vbm vz (met n sd vz l) n
def frn (n sd : Nat) (vz : Nat → Nat) : Nat → Nat
  | 0 => sd
  | l + 1 => df (vbm vz (met n sd vz l) n) (met n sd vz l)
def mep (n sd : Nat) (vz : Nat → Nat) : Nat → Nat
  | 0 => 0
  | l + 1 => met n sd vz l
/-- 0: no level; l + 1: level l, as far as levels below a bound go -/
def lvc (n sd : Nat) (vz : Nat → Nat) : Nat → Nat → Nat
  | 0, _ => 0
  | l + 1, p => if (frn n sd vz l).testBit p then l + 1 else lvc n sd vz l p
section Lev
variable {n sd : Nat} {vz : Nat → Nat}
theorem met_lt (hs : sd < 2 ^ n) (hv : ∀ p, p < n → vz p < 2 ^ n) : ∀ l, met n sd vz l < 2 ^ n
  | 0 => hs
  | l + 1 => Nat.or_lt_two_pow (met_lt hs hv l) (vbm_lt hv)
theorem frn_lt (hs : sd < 2 ^ n) (hv : ∀ p, p < n → vz p < 2 ^ n) : ∀ l, frn n sd vz l < 2 ^ n
  | 0 => hs
  | l + 1 => df_lt (vbm_lt hv)
theorem pw32 {m n : Nat} (hn : n ≤ 9) (h : m < 2 ^ n) : m < 2 ^ 32 := Nat.lt_of_lt_of_le h (Nat.pow_le_pow_right (by omega) (by omega))
theorem frn_tb (hn : n ≤ 9) (hv : ∀ p, p < n → vz p < 2 ^ n) (l p : Nat) : (frn n sd vz (l + 1)).testBit p = ((vbm vz (met n sd vz l) n).testBit p && !(met n sd vz l).testBit p) := df_tb (pw32 hn (vbm_lt hv)) p
theorem met_succ (hn : n ≤ 9) (hv : ∀ p, p < n → vz p < 2 ^ n) (l : Nat) : met n sd vz (l + 1) = met n sd vz l ||| frn n sd vz (l + 1) := tb_ext (fun p => by
  rw [met, Nat.testBit_or, Nat.testBit_or, frn_tb hn hv]
  cases (met n sd vz l).testBit p <;> cases (vbm vz (met n sd vz l) n).testBit p <;> rfl)
/-- the class takes those for whom the front vouches -/
theorem frn_by_front (hn : n ≤ 9) (hv : ∀ p, p < n → vz p < 2 ^ n) (l : Nat) : frn n sd vz (l + 1) = df (vbm vz (frn n sd vz l) n) (met n sd vz l) := tb_ext (fun q => by
  rw [frn_tb hn hv, df_tb (pw32 hn (vbm_lt hv))]
  cases hm : (met n sd vz l).testBit q with
  | true => simp
  | false =>
    congr 1
    cases l with
    | zero => rfl
    | succ l =>
      apply Bool.eq_iff_iff.mpr
      rw [vbm_tb, vbm_tb]
      constructor
      · rintro ⟨p, h1, h2, h3⟩
        refine ⟨p, h1, ?_, h3⟩
        rw [met_succ hn hv, Nat.testBit_or, Bool.or_eq_true] at h2
        rcases h2 with h2 | h2
        · exfalso
          have : (met n sd vz (l + 1)).testBit q = true := by
            rw [met, Nat.testBit_or, Bool.or_eq_true]
            right
            exact (vbm_tb _ _ _ _).mpr ⟨p, h1, h2, h3⟩
          rw [this] at hm; cases hm
        · exact h2
      · rintro ⟨p, h1, h2, h3⟩
        refine ⟨p, h1, ?_, h3⟩
        rw [met_succ hn hv, Nat.testBit_or, h2, Bool.or_true])
theorem frn_stop (hn : n ≤ 9) (hv : ∀ p, p < n → vz p < 2 ^ n) {l : Nat} (h : frn n sd vz l = 0) : ∀ d, frn n sd vz (l + d) = 0
  | 0 => h
  | d + 1 => by
    show frn n sd vz ((l + d) + 1) = 0
    rw [frn_by_front hn hv, frn_stop hn hv h d]
    refine tb_ext (fun q => ?_)
    rw [df_tb (pw32 hn (vbm_lt hv)), Nat.zero_testBit, show (vbm vz 0 n).testBit q = false from bool_f (fun z => by
      obtain ⟨p, -, h2, -⟩ := (vbm_tb _ _ _ _).mp z
      rw [Nat.zero_testBit] at h2; cases h2)]
    rfl
theorem crd_sub {a b : Nat} (h : ∀ i, a.testBit i = true → b.testBit i = true) : crd a ≤ crd b := fb_ct_sub (fun k _ hk => h k hk)
theorem crd_lt_sub {a b q : Nat} (hq : q < 9) (h : ∀ i, a.testBit i = true → b.testBit i = true) (ha : a.testBit q = false) (hb : b.testBit q = true) : crd a + 1 ≤ crd b := by
  have h1 := crd_or (m := a) hq ha
  have h2 : crd (a ||| 2 ^ q) ≤ crd b := crd_sub (fun i hi => by
    rw [fb_bit_set] at hi
    simp at hi
    rcases hi with hi | hi
    · exact h i hi
    · rw [hi]; exact hb)
  omega
theorem ne0_bit {m : Nat} (h : m ≠ 0) : ∃ q, m.testBit q = true := by
  rcases Classical.em (∃ q, m.testBit q = true) with z | z
  · exact z
  · exfalso
    apply h
    exact tb_ext (fun i => by rw [Nat.zero_testBit]; exact bool_f (fun q => z ⟨i, q⟩))
theorem met_grow (hn : n ≤ 9) (hs : sd < 2 ^ n) (hv : ∀ p, p < n → vz p < 2 ^ n) : ∀ l, frn n sd vz l ≠ 0 → l + 1 ≤ crd (met n sd vz l)
  | 0, h => crd_pos (lt_512 hs hn) h
  | l + 1, h => by
    have h0 : frn n sd vz l ≠ 0 := fun z => h (frn_stop hn hv z 1)
    have ih := met_grow hn hs hv l h0
    obtain ⟨q, hq⟩ := ne0_bit h
    have hq9 := tb_lt (frn_lt hs hv (l + 1)) hq
    have hq2 := hq
    rw [frn_tb hn hv] at hq2
    simp at hq2
    have := crd_lt_sub (a := met n sd vz l) (b := met n sd vz (l + 1)) (q := q) (by omega) (fun i hi => by rw [met, Nat.testBit_or, hi]; rfl) hq2.2 (by rw [met, Nat.testBit_or, hq2.1, Bool.or_true])
    omega
theorem frn_n (hn : n ≤ 9) (hs : sd < 2 ^ n) (hv : ∀ p, p < n → vz p < 2 ^ n) : frn n sd vz n = 0 := by
  rcases Nat.eq_zero_or_pos (frn n sd vz n) with z | z
  · exact z
  · exfalso
    have h1 := met_grow hn hs hv n (by omega)
    have h2 := met_lt hs hv n
    rw [crd_n h2 hn] at h1
    have := fb_ct_le (fun k => (met n sd vz n).testBit k) n
    omega
theorem lvc_stop (hn : n ≤ 9) (hv : ∀ p, p < n → vz p < 2 ^ n) {l : Nat} (h : frn n sd vz l = 0) (p : Nat) : ∀ d, lvc n sd vz (l + d) p = lvc n sd vz l p
  | 0 => rfl
  | d + 1 => by
    show lvc n sd vz ((l + d) + 1) p = _
    rw [lvc, frn_stop hn hv h d, Nat.zero_testBit, if_neg (by decide), lvc_stop hn hv h p d]
theorem lvc_le (p : Nat) : ∀ l, lvc n sd vz l p ≤ l
  | 0 => Nat.le_refl _
  | l + 1 => by
    rw [lvc]
    split
    · omega
    · have := lvc_le p l; omega
end Lev
abbrev lef (g : Gp) (p : Nat) : Nat := lvc (gN g) (sdm g) (gV g) 9 p
def lmf (g : Gp) (l : Nat) : Nat := if l < gB g then gD g l else 0
def limg (g : Gp) (p : Nat) : Nat := if lef g p = 0 then 0 else lmf g (lef g p - 1)
theorem WFg.sd {g : Gp} (_ : WFg g) : sdm g < 2 ^ gN g := mkm_lt _ _
theorem WFg.vl {g : Gp} (h : WFg g) : ∀ p, p < gN g → gV g p < 2 ^ gN g := fun p hp => (h.2.2.2.2.1 p hp).1
theorem lmf_le {g : Gp} (h : WFg g) (l : Nat) : lmf g l ≤ 9 := by
  unfold lmf; split
  · exact h.2.2.2.2.2.1 l (by assumption)
  · omega
theorem limg_le {g : Gp} (h : WFg g) (p : Nat) : limg g p ≤ 9 := by
  unfold limg; split
  · omega
  · exact lmf_le h _
/-- the web holds g -/
def WB0 (S : St) (g : Gp) : Prop := S.1 14 0 = nI (gN g) ∧ S.1 14 1 = nI (sdm g) ∧ ∀ p, p < gN g → S.1 15 p = nI (gV g p)
def WB (S : St) (g : Gp) : Prop := WB0 S g ∧ (∀ p, p < gN g → S.1 16 p = nI (lef g p) - 1) ∧ ∀ p, p < gN g → S.1 17 p = nI (limg g p)
theorem copy_s {S : St} {g : Gp} {Q : St → Prop} (hw : WFg g) (c : CC S g) (hq : ∀ S1, WB0 S1 g → KC S S1 → Q S1) : p_X4_copy S Q := by
  intro S1 e1
  have k1 : KC S S1 := by rw [e1]; exact KC.ci (by omega) (by omega)
  refine sds_c hw (c.kc k1) (fun S4 e4 S5 e5 => ?_)
  have k4 : KC S S4 := by rw [e4]; exact k1.tr (KC.ci (by omega) (by omega))
  have k5 : KC S S5 := by rw [e5]; exact k4.tr (KC.ci (by omega) (by omega))
  refine hq S5 ⟨?_, ?_, fun p hp => ?_⟩ k5
  · rw [e5, cI_n (by omega), e4, e1]; simp only [si_r]; simp; exact c.1
  · rw [e5, cI_n (by omega), e4]; simp only [si_r]; simp
  · rw [e5, cI_s, pk_cpy_in (by omega) (by have := hw.1; omega), Nat.zero_add, Nat.sub_zero]; exact (c.kc k4).2.2.2.1 p hp
theorem vb_s {S : St} {g : Gp} {m : Nat} {Q : Int32 → St → Prop} (h9 : gN g ≤ 9) (hm : m < 512) (h : WB0 S g) (hq : Q (nI (vbm (gV g) m (gN g))) S) : p_X4_vouchedBy (nI m) S Q := by
  refine Lq_cnt (gN g) (fun i => (nI m, nI (vbm (gV g) m i), nI i, S)) (fun i hi K hK => ?_) (fun K => ?_)
  · refine br_f (by rw [h.1, ni_le (by omega) (by omega)]; omega) (bit_s (by omega) (by omega) ?_)
    by_cases hb : m.testBit i = true
    · rw [b1_t hb]
      refine ne_f rfl ⟨vp_in_nI (by omega) (by decide), ?_⟩
      show K (_, _, _, _)
      rw [nI_clamp (by omega), h.2.2 i hi, fa_or, nI_1]
      rw [vbm, if_pos hb] at hK; exact hK
    · rw [b1_n hb]
      refine ne_t (by decide) ?_
      show K (_, _, _, _)
      rw [nI_1]
      rw [vbm, if_neg hb, Nat.or_zero] at hK; exact hK
  · exact br_t (by rw [h.1, ni_le (by omega) (by omega)]; omega) hq
theorem vbM_s {S : St} {g : Gp} {m : Nat} {Q : Int32 → St → Prop} (h9 : gN g ≤ 9) (hm : m < 512) (c : CM S g) (hq : Q (nI (vbm (gV g) m (gN g))) S) : p_X7_vouchedBy (nI m) S Q := by
  refine Lq_cnt (gN g) (fun i => (nI m, nI (vbm (gV g) m i), nI i, S)) (fun i hi K hK => ?_) (fun K => ?_)
  · refine br_f (by rw [c.1, ni_le (by omega) (by omega)]; omega) ?_
    by_cases hb : m.testBit i = true
    · refine hasM_t (by omega) (by omega) hb (br_f n10 ⟨vp_in_nI (by omega) (by decide), ?_⟩)
      show K (_, _, _, _)
      rw [nI_clamp (by omega), c.2.2.2.1 i hi, fa_or, nI_1]
      rw [vbm, if_pos hb] at hK; exact hK
    · refine hasM_f (by omega) (by omega) (bool_f hb) (br_t rfl ?_)
      show K (_, _, _, _)
      rw [nI_1, ni_zero, fa_or, Nat.or_zero]
      rw [vbm, if_neg hb, Nat.or_zero] at hK; exact hK
  · exact br_t (by rw [c.1, ni_le (by omega) (by omega)]; omega) hq
theorem m1_lvl (l : Nat) : (nI (l + 1) - 1 : Int32) = nI l := nI_pred l
/-- what settle has set when the levels below l are done -/
def WL (S : St) (g : Gp) (l : Nat) : Prop := ∀ p, p < gN g → S.1 16 p = nI (lvc (gN g) (sdm g) (gV g) l p) - 1 ∧ S.1 17 p = nI (if lvc (gN g) (sdm g) (gV g) l p = 0 then 0 else lmf g (lvc (gN g) (sdm g) (gV g) l p - 1))
theorem settle_s {S : St} {g : Gp} {Q : St → Prop} (hw : WFg g) (h : WB0 S g) (hB : S.1 2 1 = nI (gB g)) (hD : ∀ i, i < gB g → S.1 3 i = nI (gD g i)) (hq : ∀ S1, WB S1 g → (∀ a, a ≠ 16 → a ≠ 17 → S1.1 a = S.1 a) → Q S1) : p_X4_settle S Q := by
  have h9 := hw.1
  have h5 := hw.2.1
  refine fill_16 (fun S1 a1 a2 a3 => fill_17 (fun S2 b1' b2 b3 => ?_))
  have o2 : ∀ a, a ≠ 16 → a ≠ 17 → S2.1 a = S.1 a := fun a h1 h2 => by rw [b1' a h2, a1 a h1]
  have w2 : WL S2 g 0 := fun p hp => ⟨by rw [b1' 16 (by omega), a3 p (by omega)]; rfl, by rw [b3 p (by omega)]; rfl⟩
  rw [o2 14 (by omega) (by omega), h.2.1]
  refine Lq_rel (gN g) (fun l a => ∃ S3 : St, a = (nI (mep (gN g) (sdm g) (gV g) l), nI (frn (gN g) (sdm g) (gV g) l), nI l, S3) ∧ (∀ a, a ≠ 16 → a ≠ 17 → S3.1 a = S.1 a) ∧ WL S3 g l) ?_ ?_ 0 _ (by omega) ⟨S2, rfl, o2, w2⟩
  · rintro l a hl ⟨S3, rfl, o3, w3⟩ K hK
    have hfl := lt_512 (frn_lt hw.sd hw.vl l) h9
    have fin : ∀ S3 : St, (∀ a, a ≠ 16 → a ≠ 17 → S3.1 a = S.1 a) → WL S3 g l → frn (gN g) (sdm g) (gV g) l = 0 → Q S3 := by
      intro S3 o3 w3 z
      have e : ∀ p, lvc (gN g) (sdm g) (gV g) l p = lef g p := fun p => by
        have := lvc_stop h9 hw.vl z p (9 - l)
        rw [show l + (9 - l) = 9 by omega] at this
        exact this.symm
      refine hq S3 ⟨⟨?_, ?_, fun p hp => ?_⟩, fun p hp => ?_, fun p hp => ?_⟩ o3
      · rw [o3 14 (by omega) (by omega)]; exact h.1
      · rw [o3 14 (by omega) (by omega)]; exact h.2.1
      · rw [o3 15 (by omega) (by omega)]; exact h.2.2 p hp
      · rw [(w3 p hp).1, e p]
      · rw [(w3 p hp).2, e p]; rfl
    have lp : p_X4_settle_59 Q K (nI (mep (gN g) (sdm g) (gV g) l)) (nI (frn (gN g) (sdm g) (gV g) l)) (nI l) (nI (lmf g l)) S3 := by
      refine Lq_rel (gN g) (fun i a => ∃ S4 : St, a = (nI (mep (gN g) (sdm g) (gV g) l), nI (frn (gN g) (sdm g) (gV g) l), nI l, nI (lmf g l), nI i, S4) ∧ (∀ a, a ≠ 16 → a ≠ 17 → S4.1 a = S.1 a) ∧ (∀ p, p < gN g → i ≤ p → S4.1 16 p = S3.1 16 p ∧ S4.1 17 p = S3.1 17 p) ∧ ∀ p, p < i → S4.1 16 p = nI (lvc (gN g) (sdm g) (gV g) (l + 1) p) - 1 ∧ S4.1 17 p = nI (if lvc (gN g) (sdm g) (gV g) (l + 1) p = 0 then 0 else lmf g (lvc (gN g) (sdm g) (gV g) (l + 1) p - 1))) ?_ ?_ 0 _ (by omega) ⟨S3, rfl, o3, fun _ _ _ => ⟨rfl, rfl⟩, fun p hp => by omega⟩
      · rintro i a hi ⟨S4, rfl, c1, c2, c3⟩ K2 hK2
        refine br_f (by rw [c1 14 (by omega) (by omega), h.1, ni_le (by omega) (by omega)]; omega) (bit_s (by omega) (by omega) ?_)
        by_cases hb : (frn (gN g) (sdm g) (gV g) l).testBit i = true
        · rw [b1_t hb]
          refine ne_f rfl ⟨vp_in_nI (by omega) (by decide), fun S12 e12 => ⟨vp_in_nI (by omega) (by decide), fun S13 e13 => ?_⟩⟩
          rw [nI_clamp (by omega)] at e12 e13
          show K2 (_, _, _, _, _, _)
          rw [nI_1]
          refine hK2 _ ⟨S13, rfl, fun a h1 h2 => by rw [e13, cI_n h2, e12, cI_n h1]; exact c1 a h1 h2, fun p hp hip => ?_, fun p hp => ?_⟩
          · rw [e13, cI_n (by omega), e12, cI_s, upd_n (by omega), cI_s, upd_n (by omega), cI_n (by omega)]; exact c2 p hp (by omega)
          · by_cases e : p = i
            · subst e
              rw [e13, cI_n (by omega), e12, cI_s, upd_s, cI_s, upd_s, lvc, if_pos hb, m1_lvl, if_neg (by omega)]
              exact ⟨rfl, rfl⟩
            · rw [e13, cI_n (by omega), e12, cI_s, upd_n e, cI_s, upd_n e, cI_n (by omega)]; exact c3 p (by omega)
        · rw [b1_n hb]
          refine ne_t (by decide) ?_
          show K2 (_, _, _, _, _, _)
          rw [nI_1]
          refine hK2 _ ⟨S4, rfl, c1, fun p hp hip => c2 p hp (by omega), fun p hp => ?_⟩
          by_cases e : p = i
          · subst e
            rw [(c2 p hi (by omega)).1, (c2 p hi (by omega)).2, lvc, if_neg hb]
            exact w3 p hi
          · exact c3 p (by omega)
      · rintro a ⟨S4, rfl, c1, c2, c3⟩ K2
        refine br_t (by rw [c1 14 (by omega) (by omega), h.1, ni_le (by omega) (by omega)]; omega) ?_
        have w4 : WB0 S4 g := ⟨by rw [c1 14 (by omega) (by omega)]; exact h.1, by rw [c1 14 (by omega) (by omega)]; exact h.2.1, fun p hp => by rw [c1 15 (by omega) (by omega)]; exact h.2.2 p hp⟩
        refine vb_s h9 hfl w4 ?_
        have ek : nI (mep (gN g) (sdm g) (gV g) l) ||| nI (frn (gN g) (sdm g) (gV g) l) = nI (met (gN g) (sdm g) (gV g) l) := by
          rw [fa_or]
          cases l with
          | zero => rw [mep, Nat.zero_or]; rfl
          | succ l => rw [mep, met_succ h9 hw.vl]
        rw [ek, ni_df, ← frn_by_front h9 hw.vl, nI_1]
        exact hK _ ⟨S4, rfl, c1, c3⟩
    refine br_f (by rw [o3 14 (by omega) (by omega), h.1, ni_le (by omega) (by omega)]; omega) ⟨fun e => ?_, fun e => ⟨fun e2 => ?_, fun e2 => ?_⟩⟩
    · exact fin S3 o3 w3 (ni_inj (b := 0) (by omega) (by omega) e)
    · rw [o3 2 (by omega) (by omega), hB, ni_le (by omega) (by omega)] at e2
      have : lmf g l = 0 := by unfold lmf; rw [if_neg (by omega)]
      rw [this] at lp; exact lp
    · rw [o3 2 (by omega) (by omega), hB, ni_le (by omega) (by omega)] at e2
      refine ⟨vp_in_nI (by omega) (by decide), ?_⟩
      rw [nI_clamp (by omega), o3 3 (by omega) (by omega), hD l (by omega)]
      have : lmf g l = gD g l := by unfold lmf; rw [if_pos (by omega)]
      rw [this] at lp; exact lp
  · rintro a ⟨S3, rfl, o3, w3⟩ K
    refine br_t (by rw [o3 14 (by omega) (by omega), h.1, ni_le (by omega) (by omega)]; omega) ?_
    have z := frn_n h9 hw.sd hw.vl
    have e : ∀ p, lvc (gN g) (sdm g) (gV g) (gN g) p = lef g p := fun p => by
      have := lvc_stop h9 hw.vl z p (9 - gN g)
      rw [show gN g + (9 - gN g) = 9 by omega] at this
      exact this.symm
    refine hq S3 ⟨⟨?_, ?_, fun p hp => ?_⟩, fun p hp => ?_, fun p hp => ?_⟩ o3
    · rw [o3 14 (by omega) (by omega)]; exact h.1
    · rw [o3 14 (by omega) (by omega)]; exact h.2.1
    · rw [o3 15 (by omega) (by omega)]; exact h.2.2 p hp
    · rw [(w3 p hp).1, e p]
    · rw [(w3 p hp).2, e p]; rfl
theorem prep_s {S : St} {g : Gp} {Q : St → Prop} (hw : WFg g) (c : CC S g) (hq : ∀ S1, WB S1 g → KC S S1 → Q S1) : p_X6_prepareWeb S Q := by
  refine copy_s hw c (fun S1 w1 k1 => settle_s hw w1 (c.kc k1).2.1 (c.kc k1).2.2.2.2.1 (fun S2 w2 o2 => hq S2 w2 ?_))
  exact k1.tr ⟨fun k hk => o2 k (by omega) (by omega), fun k hk => o2 k (by omega) (by omega)⟩
/-- the reference -/
def WM (S : St) (g : Gp) : Prop := (∀ p, p < gN g → S.1 33 p = nI (lef g p) - 1) ∧ ∀ p, p < gN g → S.1 34 p = nI (limg g p)
theorem layL_s {S : St} {g : Gp} {Q : St → Prop} (hw : WFg g) (c : CM S g) (hq : ∀ S1, WM S1 g → (∀ a, a ≠ 33 → a ≠ 34 → S1.1 a = S.1 a) → S1.2 = S.2 → Q S1) : p_X7_layLevels S Q := by
  have h9 := hw.1
  have h5 := hw.2.1
  have hsl := sd_lt hw
  have kmo : ∀ S1 : St, (∀ a, a ≠ 33 → a ≠ 34 → S1.1 a = S.1 a) → CM S1 g := fun S1 o => c.km0 ⟨fun k hk => o k (by omega) (by omega), fun k h1 h2 => o k (by omega) (by omega), by rw [o 25 (by omega) (by omega)], by rw [o 25 (by omega) (by omega)], by rw [o 25 (by omega) (by omega)], by rw [o 25 (by omega) (by omega)], by rw [o 25 (by omega) (by omega)], by rw [o 25 (by omega) (by omega)]⟩
  refine sds_m hw c ?_
  refine Lq_rel (gN g) (fun i a => ∃ S2 : St, a = (nI (sdm g), nI i, S2) ∧ S2.2 = S.2 ∧ (∀ a, a ≠ 33 → a ≠ 34 → S2.1 a = S.1 a) ∧ ∀ p, p < i → S2.1 33 p = nI (lvc (gN g) (sdm g) (gV g) 1 p) - 1) ?_ ?_ 0 _ (by omega) ⟨S, rfl, rfl, fun _ _ _ => rfl, fun p hp => by omega⟩
  · rintro i a hi ⟨S2, rfl, z2, o2, w2⟩ K hK
    have fin : ∀ t : Int32, t = nI (lvc (gN g) (sdm g) (gV g) 1 i) - 1 → p_X7_layLevels_34 Q K (nI (sdm g)) (nI i) t (nI i) S2 := by
      intro t ht
      refine ⟨vp_in_nI (by omega) (by decide), fun S20 e20 => ?_⟩
      rw [nI_clamp (by omega)] at e20
      rw [nI_1]
      refine hK _ ⟨S20, rfl, by rw [e20]; exact z2, fun a h1 h2 => by rw [e20, cI_n h1]; exact o2 a h1 h2, fun p hp => ?_⟩
      rw [e20, cI_s]
      by_cases e : p = i
      · rw [e, upd_s]; exact ht
      · rw [upd_n e]; exact w2 p (by omega)
    refine br_f (by rw [(kmo S2 o2).1, ni_le (by omega) (by omega)]; omega) ?_
    by_cases hb : (sdm g).testBit i = true
    · refine hasM_t (by omega) (by omega) hb (br_f n10 (fin 0 ?_))
      rw [lvc, show (frn (gN g) (sdm g) (gV g) 0) = sdm g from rfl, if_pos hb]; rfl
    · refine hasM_f (by omega) (by omega) (bool_f hb) (br_t rfl (fin (-1) ?_))
      rw [lvc, show (frn (gN g) (sdm g) (gV g) 0) = sdm g from rfl, if_neg hb]; rfl
  · rintro a ⟨S2, rfl, z2, o2, w2⟩ K
    refine br_t (by rw [(kmo S2 o2).1, ni_le (by omega) (by omega)]; omega) ?_
    refine Lq_rel 9 (fun l a => ∃ S3 : St, a = (nI (met (gN g) (sdm g) (gV g) (l - 1)), nI l, S3) ∧ 1 ≤ l ∧ S3.2 = S.2 ∧ (∀ a, a ≠ 33 → a ≠ 34 → S3.1 a = S.1 a) ∧ ∀ p, p < gN g → S3.1 33 p = nI (lvc (gN g) (sdm g) (gV g) l p) - 1) ?_ ?_ 1 _ (by omega) ⟨S2, rfl, by omega, z2, o2, w2⟩
    · rintro l a hl ⟨S3, rfl, hl1, z3, o3, w3⟩ K2 hK2
      obtain ⟨j, rfl⟩ : ∃ j, l = j + 1 := ⟨l - 1, by omega⟩
      rw [Nat.add_sub_cancel]
      have hml := lt_512 (met_lt hw.sd hw.vl j) h9
      have hfl := lt_512 (frn_lt (sd := sdm g) hw.sd hw.vl (j + 1)) h9
      refine br_f (ge9 hl) (vbM_s h9 hml (kmo S3 o3) ?_)
      rw [ni_df, show df (vbm (gV g) (met (gN g) (sdm g) (gV g) j) (gN g)) (met (gN g) (sdm g) (gV g) j) = frn (gN g) (sdm g) (gV g) (j + 1) from rfl]
      refine Lq_rel (gN g) (fun i a => ∃ S4 : St, a = (nI (met (gN g) (sdm g) (gV g) j), nI (j + 1), nI (frn (gN g) (sdm g) (gV g) (j + 1)), nI i, S4) ∧ S4.2 = S.2 ∧ (∀ a, a ≠ 33 → a ≠ 34 → S4.1 a = S.1 a) ∧ (∀ p, p < gN g → i ≤ p → S4.1 33 p = S3.1 33 p) ∧ ∀ p, p < i → S4.1 33 p = nI (lvc (gN g) (sdm g) (gV g) (j + 1 + 1) p) - 1) ?_ ?_ 0 _ (by omega) ⟨S3, rfl, z3, o3, fun _ _ _ => rfl, fun p hp => by omega⟩
      · rintro i a hi ⟨S4, rfl, z4, c1, c2, c3⟩ K3 hK3
        have fin : ∀ t : Int32, t = nI (lvc (gN g) (sdm g) (gV g) (j + 1 + 1) i) - 1 → p_X7_layLevels_97 Q K2 K3 (nI (met (gN g) (sdm g) (gV g) j)) (nI (j + 1)) (nI (frn (gN g) (sdm g) (gV g) (j + 1))) (nI i) t (nI i) S4 := by
          intro t ht
          refine ⟨vp_in_nI (by omega) (by decide), fun S16 e16 => ?_⟩
          rw [nI_clamp (by omega)] at e16
          rw [nI_1]
          refine hK3 _ ⟨S16, rfl, by rw [e16]; exact z4, fun a h1 h2 => by rw [e16, cI_n h1]; exact c1 a h1 h2, fun p hp hip => ?_, fun p hp => ?_⟩
          · rw [e16, cI_s, upd_n (by omega)]; exact c2 p hp (by omega)
          · rw [e16, cI_s]
            by_cases e : p = i
            · rw [e, upd_s]; exact ht
            · rw [upd_n e]; exact c3 p (by omega)
        refine br_f (by rw [(kmo S4 c1).1, ni_le (by omega) (by omega)]; omega) ?_
        by_cases hb : (frn (gN g) (sdm g) (gV g) (j + 1)).testBit i = true
        · refine hasM_t (by omega) (by omega) hb (br_f n10 (fin (nI (j + 1)) ?_))
          rw [lvc, if_pos hb, m1_lvl]
        · refine hasM_f (by omega) (by omega) (bool_f hb) (br_t rfl ⟨vp_in_nI (by omega) (by decide), fin _ ?_⟩)
          rw [nI_clamp (by omega), c2 i hi (by omega), lvc, if_neg hb]
          exact w3 i hi
      · rintro a ⟨S4, rfl, z4, c1, c2, c3⟩ K3
        refine br_t (by rw [(kmo S4 c1).1, ni_le (by omega) (by omega)]; omega) ?_
        show K2 (_, _, _)
        rw [nI_1, fa_or, ← met_succ h9 hw.vl]
        exact hK2 _ ⟨S4, rfl, by omega, z4, c1, c3⟩
    · rintro a ⟨S3, rfl, hl1, z3, o3, w3⟩ K2
      refine br_t ge9' ?_
      refine Lq_rel (gN g) (fun i a => ∃ S4 : St, a = (nI i, S4) ∧ S4.2 = S.2 ∧ (∀ a, a ≠ 34 → S4.1 a = S3.1 a) ∧ ∀ p, p < i → S4.1 34 p = nI (limg g p)) ?_ ?_ 0 _ (by omega) ⟨S3, rfl, z3, fun _ _ => rfl, fun p hp => by omega⟩
      · rintro i a hi ⟨S4, rfl, z4, c1, c2⟩ K3 hK3
        have o4 : ∀ a, a ≠ 33 → a ≠ 34 → S4.1 a = S.1 a := fun a h1 h2 => by rw [c1 a h2]; exact o3 a h1 h2
        have cm4 := kmo S4 o4
        have hlv := lvc_le (n := gN g) (sd := sdm g) (vz := gV g) i 9
        have fin : ∀ t : Int32, t = nI (limg g i) → p_X7_layLevels_163 Q K3 (nI i) t (nI i) S4 := by
          intro t ht
          refine ⟨vp_in_nI (by omega) (by decide), fun S9 e9 => ?_⟩
          rw [nI_clamp (by omega)] at e9
          rw [nI_1]
          refine hK3 _ ⟨S9, rfl, by rw [e9]; exact z4, fun a h1 => by rw [e9, cI_n h1]; exact c1 a h1, fun p hp => ?_⟩
          rw [e9, cI_s]
          by_cases e : p = i
          · rw [e, upd_s]; exact ht
          · rw [upd_n e]; exact c2 p (by omega)
        refine br_f (by rw [cm4.1, ni_le (by omega) (by omega)]; omega) ⟨vp_in_nI (by omega) (by decide), ?_⟩
        have e33 : S4.1 33 i = nI (lef g i) - 1 := by rw [c1 33 (by omega)]; exact w3 i hi
        rw [nI_clamp (by omega), e33, cm4.2.1]
        by_cases hz : lef g i = 0
        · refine br_t ?_ (br_t rfl (fin 0 ?_))
          · rw [hz]; decide
          · unfold limg; rw [if_pos hz]; rfl
        · have hl9 : lef g i ≤ 9 := hlv
          obtain ⟨m, hm⟩ : ∃ m, lef g i = m + 1 := ⟨lef g i - 1, by omega⟩
          rw [hm, m1_lvl]
          have hlim : limg g i = lmf g m := by unfold limg; rw [if_neg hz, hm]; rfl
          by_cases hmb : m < gB g
          · rw [ni_pred (by omega)]
            refine wi_t (a := 0) rfl (by omega) (by omega) (by omega) (br_f n10 ⟨vp_in_nI (by omega) (by decide), ?_⟩)
            rw [e33, hm, m1_lvl]
            refine ⟨vp_in_nI (by omega) (by decide), fin _ ?_⟩
            rw [nI_clamp (by omega), cm4.2.2.2.2.1 m hmb, hlim]; unfold lmf; rw [if_pos hmb]
          · have e0 : (0 : Int32) = nI (limg g i) := by rw [hlim]; unfold lmf; rw [if_neg hmb]; rfl
            by_cases zb : gB g = 0
            · rw [zb]
              refine br_f (ni_nneg (by omega)) (br_t ?_ (br_t rfl (fin 0 e0)))
              rw [Int32.lt_iff_toInt_lt, nI_toInt (by omega), show (nI 0 - 1 : Int32).toInt = -1 from by decide +kernel]; omega
            · rw [ni_pred (by omega)]
              refine br_f (ni_nneg (by omega)) (br_t ?_ (br_t rfl (fin 0 e0)))
              rw [ni_lt (by omega) (by omega)]; omega
      · rintro a ⟨S4, rfl, z4, c1, c2⟩ K3
        have o4 : ∀ a, a ≠ 33 → a ≠ 34 → S4.1 a = S.1 a := fun a h1 h2 => by rw [c1 a h2]; exact o3 a h1 h2
        refine br_t (by rw [(kmo S4 o4).1, ni_le (by omega) (by omega)]; omega) (hq S4 ⟨fun p hp => ?_, c2⟩ o4 z4)
        rw [c1 33 (by omega)]; exact w3 p hp
