/-! ===== a circle as a text ===== -/
def txV (m : Nat) : Nat → List Int32
  | 0 => []
  | w + 1 => txV m w ++ (if m.testBit w then [62, 48 + nI w] else [])
def txK (k : Nat) : List Int32 := if k = 1 then [42] else if k = 2 then [33] else []
def txP (g : Gp) : Nat → List Int32
  | 0 => []
  | p + 1 => txP g p ++ ((if p = 0 then [] else [59]) ++ (txK (gK g p) ++ txV (gV g p) (gN g)))
def txB (g : Gp) : Nat → List Int32
  | 0 => []
  | i + 1 => txB g i ++ [48 + nI (gD g i)]
def txH (g : Gp) : List Int32 := [48 + nI (gN g), 58] ++ txB g (gB g) ++ [58]
def txt (g : Gp) : List Int32 := txH g ++ txP g (gN g)
theorem txV_len (m : Nat) : ∀ w, (txV m w).length = 2 * fb_ct (fun k => m.testBit k) w
  | 0 => rfl
  | w + 1 => by
    rw [txV, List.length_append, txV_len m w, fb_ct]
    split
    · simp; omega
    · simp
theorem txB_len (g : Gp) : ∀ i, (txB g i).length = i
  | 0 => rfl
  | i + 1 => by rw [txB, List.length_append, txB_len g i]; rfl
theorem txH_len (g : Gp) : (txH g).length = 3 + gB g := by unfold txH; simp [txB_len]; omega
theorem txK_len (k : Nat) : (txK k).length ≤ 1 := by unfold txK; split; simp; split <;> simp
theorem txVn {g : Gp} (hw : WFg g) {p : Nat} (hp : p < gN g) (w : Nat) (hwn : w ≤ gN g) : (txV (gV g p) w).length ≤ 10 := by
  rw [txV_len]
  obtain ⟨h1, h2, -⟩ := hw.2.2.2.2.1 p hp
  rw [crd_n h1 hw.1] at h2
  have := fb_ct_mono (fun k => (gV g p).testBit k) hwn
  omega
theorem txP_len {g : Gp} (hw : WFg g) : ∀ p, p ≤ gN g → (txP g p).length + (if p = 0 then 0 else 1) ≤ 12 * p
  | 0, _ => by simp [txP]
  | p + 1, h => by
    have ih := txP_len hw p (by omega)
    have h1 := txVn hw (p := p) (by omega) (gN g) (Nat.le_refl _)
    have h2 := txK_len (gK g p)
    rw [txP, List.length_append, List.length_append, List.length_append]
    by_cases e : p = 0
    · subst e
      simp [txP]
      omega
    · rw [if_neg e] at ih ⊢
      rw [if_neg (by omega)]
      simp
      omega
/-- the writer holds l -/
def Tx (S : St) (l : List Int32) : Prop := S.1 11 1 = nI l.length ∧ ∀ i, i < l.length → S.1 12 i = l.getD i 0
theorem getD_snoc {l : List Int32} {x : Int32} {i : Nat} : (l ++ [x]).getD i 0 = if i = l.length then x else l.getD i 0 := by
  rw [List.getD_eq_getElem?_getD, List.getD_eq_getElem?_getD]
  by_cases h : i < l.length
  · rw [List.getElem?_append_left h, if_neg (by omega)]
  · rw [List.getElem?_append_right (by omega)]
    by_cases e : i = l.length
    · subst e; simp
    · rw [if_neg e, List.getElem?_eq_none (by simp; omega), List.getElem?_eq_none (by omega)]
theorem put_s {S : St} {l : List Int32} {x : Int32} {Q : St → Prop} (h : Tx S l) (hl : l.length < 115) (hq : ∀ S1, Tx S1 (l ++ [x]) → KC S S1 → Q S1) : p_X5_put x S Q := by
  obtain ⟨h1, h2⟩ := h
  refine br_f (by rw [h1, show (115 : Int32) = nI 115 from rfl, ni_le (by omega) (by omega)]; omega) ⟨by rw [h1]; exact vp_in_nI hl (by decide), fun S2 e2 S3 e3 => ?_⟩
  rw [h1, nI_clamp (by omega)] at e2
  refine hq S3 ⟨?_, fun i hi => ?_⟩ ?_
  · rw [e3, e2]; simp only [si_r]; simp; rw [h1, nI_1]
  · rw [e3, cI_n (by omega), e2, cI_s, getD_snoc]
    by_cases e : i = l.length
    · rw [e, upd_s, if_pos rfl]
    · rw [upd_n e, if_neg e]; exact h2 i (by simp at hi; omega)
  · rw [e3, e2]; exact (KC.ci (by omega) (by omega)).tr (KC.ci (by omega) (by omega))
theorem wrP_s {S : St} {g : Gp} {l : List Int32} {p : Nat} {Q : St → Prop} (hw : WFg g) (c : CC S g) (hp : p < gN g) (h : Tx S l) (hl : l.length + 11 ≤ 115) (hq : ∀ S1, Tx S1 (l ++ (txK (gK g p) ++ txV (gV g p) (gN g))) → KC S S1 → Q S1) : p_X5_writePerson (nI p) S Q := by
  have h9 := hw.1
  have hk := hw.2.2.2.1 p hp
  have lp : ∀ S1, KC S S1 → Tx S1 (l ++ txK (gK g p)) → p_X5_writePerson_32 Q (nI p) S1 := by
    intro S1 k1 t1
    have c1 := c.kc k1
    have hkl := txK_len (gK g p)
    refine Lq_rel (gN g) (fun i a => ∃ S2, a = (nI p, nI i, S2) ∧ KC S S2 ∧ Tx S2 (l ++ (txK (gK g p) ++ txV (gV g p) i))) ?_ ?_ 0 _ (by omega) ⟨S1, rfl, k1, by rw [txV, List.append_nil]; exact t1⟩
    · rintro i a hi ⟨S2, rfl, k2, t2⟩ K hK
      have c2 := c.kc k2
      have hlen := txVn hw hp (i + 1) (by omega)
      refine br_f (by rw [c2.1, ni_le (by omega) (by omega)]; omega) (hasV (by omega) (by omega) (c2.2.2.2.1 p hp) (hw.v512 hp) ?_)
      by_cases hb : (gV g p).testBit i = true
      · rw [b1_t hb]
        rw [txV, if_pos hb, List.length_append] at hlen
        simp at hlen
        refine br_f (by decide) (put_s t2 (by simp; omega) (fun S3 t3 k3 => put_s t3 (by simp; omega) (fun S4 t4 k4 => ?_)))
        show K (_, _, _)
        rw [nI_1]
        refine hK _ ⟨S4, rfl, (k2.tr k3).tr k4, ?_⟩
        rw [txV, if_pos hb]
        simpa [List.append_assoc] using t4
      · rw [b1_n hb]
        refine br_t rfl ?_
        show K (_, _, _)
        rw [nI_1]
        refine hK _ ⟨S2, rfl, k2, ?_⟩
        rw [txV, if_neg hb, List.append_nil]; exact t2
    · rintro a ⟨S2, rfl, k2, t2⟩ K
      have c2 := c.kc k2
      exact br_t (by rw [c2.1, ni_le (by omega) (by omega)]; omega) (hq S2 t2 k2)
  have h16 : ∀ S1, KC S S1 → Tx S1 (l ++ (if gK g p = 1 then [42] else [])) → p_X5_writePerson_16 Q (nI p) S1 := by
    intro S1 k1 t1
    have c1 := c.kc k1
    refine ⟨vp_in_nI (by omega) (by decide), ?_⟩
    rw [nI_clamp (by omega), c1.2.2.1 p hp]
    refine ⟨fun e => lp S1 k1 ?_, fun e => ?_⟩
    · have e : gK g p ≠ 2 := fun z => e (by rw [z]; rfl)
      unfold txK
      by_cases e1 : gK g p = 1
      · rw [if_pos e1] at t1 ⊢; exact t1
      · rw [if_neg e1] at t1 ⊢; rw [if_neg e]; exact t1
    · have e : gK g p = 2 := ni_inj (by omega) (by omega) e
      rw [if_neg (by omega), List.append_nil] at t1
      refine put_s t1 (by omega) (fun S2 t2 k2 => lp S2 (k1.tr k2) ?_)
      unfold txK
      rw [if_neg (by omega), if_pos e]; exact t2
  refine ⟨vp_in_nI (by omega) (by decide), ?_⟩
  rw [nI_clamp (by omega), c.2.2.1 p hp]
  refine ⟨fun e => h16 S (KC.rf S) ?_, fun e => ?_⟩
  · rw [if_neg (fun z => e (by rw [z]; rfl)), List.append_nil]; exact h
  · have e : gK g p = 1 := ni_inj (by omega) (by omega) e
    refine put_s h (by omega) (fun S2 t2 k2 => h16 S2 k2 ?_)
    rw [if_pos e]; exact t2
theorem write_s {S : St} {g : Gp} {Q : St → Prop} (hw : WFg g) (c : CC S g) (hq : ∀ S1, Tx S1 (txt g) → KC S S1 → Q S1) : p_X5_write S Q := by
  have h9 := hw.1
  have h5 := hw.2.1
  intro S1 e1
  have k1 : KC S S1 := by rw [e1]; exact KC.ci (by omega) (by omega)
  have t1 : Tx S1 [] := ⟨by rw [e1]; simp only [si_r]; simp; rfl, fun i hi => absurd hi (Nat.not_lt_zero i)⟩
  have c1 := c.kc k1
  rw [c1.1]
  refine put_s t1 (by simp) (fun S2 t2 k2 => put_s t2 (by simp) (fun S3 t3 k3 => ?_))
  refine Lq_rel (gB g) (fun i a => ∃ S4, a = (nI i, S4) ∧ KC S S4 ∧ Tx S4 ([48 + nI (gN g), 58] ++ txB g i)) ?_ ?_ 0 _ (by omega) ⟨S3, rfl, (k1.tr k2).tr k3, by rw [txB, List.append_nil]; exact t3⟩
  · rintro i a hi ⟨S4, rfl, k4, t4⟩ K hK
    have c4 := c.kc k4
    refine br_f (by rw [c4.2.1, ni_le (by omega) (by omega)]; omega) ⟨vp_in_nI (by omega) (by decide), ?_⟩
    rw [nI_clamp (by omega), c4.2.2.2.2.1 i hi]
    refine put_s t4 (by simp [txB_len]; omega) (fun S5 t5 k5 => ?_)
    show K (_, _)
    rw [nI_1]
    refine hK _ ⟨S5, rfl, k4.tr k5, ?_⟩
    rw [txB, ← List.append_assoc]; exact t5
  · rintro a ⟨S4, rfl, k4, t4⟩ K
    have c4 := c.kc k4
    refine br_t (by rw [c4.2.1, ni_le (by omega) (by omega)]; omega) (put_s t4 (by simp [txB_len]; omega) (fun S5 t5 k5 => ?_))
    have t5 : Tx S5 (txH g) := t5
    have hH := txH_len g
    refine Lq_rel (gN g) (fun i a => ∃ S6, a = (nI i, S6) ∧ KC S S6 ∧ Tx S6 (txH g ++ txP g i)) ?_ ?_ 0 _ (by omega) ⟨S5, rfl, k4.tr k5, by rw [txP, List.append_nil]; exact t5⟩
    · rintro i a hi ⟨S6, rfl, k6, t6⟩ K hK
      have c6 := c.kc k6
      have hP := txP_len hw i (by omega)
      refine br_f (by rw [c6.1, ni_le (by omega) (by omega)]; omega) ⟨fun e => ?_, fun e => ?_⟩
      · have e : i = 0 := by rw [ni_zero, ni_le (by omega) (by omega)] at e; omega
        subst e
        refine wrP_s hw c6 hi t6 (by simp [txP]; omega) (fun S7 t7 k7 => ?_)
        rw [nI_1]
        refine hK _ ⟨S7, rfl, k6.tr k7, ?_⟩
        rw [txP, if_pos rfl, List.nil_append, ← List.append_assoc]; exact t7
      · have e : i ≠ 0 := fun z => e (by rw [z]; decide)
        rw [if_neg e] at hP
        refine put_s t6 (by simp; omega) (fun S7 t7 k7 => ?_)
        refine wrP_s hw (c6.kc k7) hi t7 (by simp; omega) (fun S8 t8 k8 => ?_)
        rw [nI_1]
        refine hK _ ⟨S8, rfl, (k6.tr k7).tr k8, ?_⟩
        rw [txP, if_neg e]
        simpa [List.append_assoc] using t8
    · rintro a ⟨S6, rfl, k6, t6⟩ K
      have c6 := c.kc k6
      exact br_t (by rw [c6.1, ni_le (by omega) (by omega)]; omega) (hq S6 t6 k6)
theorem txt_len {g : Gp} (hw : WFg g) : (txt g).length ≤ 115 := by
  unfold txt
  rw [List.length_append, txH_len]
  have := txP_len hw (gN g) (Nat.le_refl _)
  have h9 := hw.1
  have h5 := hw.2.1
  by_cases e : gN g = 0
  · rw [if_pos e] at this; omega
  · rw [if_neg e] at this; omega
/-- the character at a place, or -1 -/
def tch (l : List Int32) (k : Nat) : Int32 := if k < l.length then l.getD k 0 else -1
def TM (S : St) (l : List Int32) (k : Nat) : Prop := S.1 25 19 = nI k ∧ S.1 25 20 = nI l.length ∧ S.1 25 21 = tch l k
theorem tch_snoc {l : List Int32} {x : Int32} {k : Nat} : tch (l ++ [x]) k = if k = l.length then x else tch l k := by
  unfold tch
  rw [getD_snoc, List.length_append, List.length_singleton]
  by_cases e : k = l.length
  · rw [if_pos e, if_pos e, if_pos (by omega)]
  · rw [if_neg e, if_neg e]
    by_cases h : k < l.length
    · rw [if_pos h, if_pos (by omega)]
    · rw [if_neg h, if_neg (by omega)]
theorem ink1_s {S : St} {l : List Int32} {k : Nat} {x : Int32} {Q : St → Prop} (hk : k < 2 ^ 31) (h : TM S l k) (hl : l.length < 115) (hq : ∀ S1, TM S1 (l ++ [x]) k → KM S S1 → Q S1) : p_X7_ink1 x S Q := by
  obtain ⟨h1, h2, h3⟩ := h
  have key : ∀ t : Int32, t = tch (l ++ [x]) k → p_X7_ink1_20 Q t S := by
    intro t ht S2 e2 S3 e3
    refine hq S3 ⟨?_, ?_, ?_⟩ ?_
    · rw [e3, e2]; simp only [si_r]; simpa using h1
    · rw [e3, e2]; simp only [si_r]; simp; rw [h2, nI_1]
    · rw [e3, e2]; simp only [si_r]; simpa using ht
    · rw [e3, e2]; exact (KM.sf (by omega)).tr (KM.sf (by omega))
  refine ⟨fun e => key _ ?_, fun e => key _ ?_⟩
  · rw [h3, tch_snoc, if_neg]
    intro z
    exact e (by rw [h1, h2, z])
  · rw [h1, h2] at e
    rw [tch_snoc, if_pos ((nI_eq (by omega) hk).mp e).symm]
theorem inkP_s {S : St} {g : Gp} {l : List Int32} {p k : Nat} {Q : St → Prop} (hk : k < 2 ^ 31) (hw : WFg g) (c : CM S g) (hp : p < gN g) (h : TM S l k) (hl : l.length + 12 ≤ 115 ∨ (p = 0 ∧ l.length + 11 ≤ 115)) (hq : ∀ S1, TM S1 (l ++ ((if p = 0 then [] else [59]) ++ (txK (gK g p) ++ txV (gV g p) (gN g)))) k → KM S S1 → Q S1) : p_X7_inkPerson (nI p) S Q := by
  have h9 := hw.1
  have hkd := hw.2.2.2.1 p hp
  have hkl := txK_len (gK g p)
  have lp : ∀ S1 l2, KM S S1 → TM S1 l2 k → l2.length + 10 ≤ 115 → l2 ++ txV (gV g p) (gN g) = l ++ ((if p = 0 then [] else [59]) ++ (txK (gK g p) ++ txV (gV g p) (gN g))) → p_X7_inkPerson_40 Q (nI p) S1 := by
    intro S1 l2 k1 t1 hl2 el
    refine Lq_rel (gN g) (fun i a => ∃ S2, a = (nI p, nI i, S2) ∧ KM S S2 ∧ TM S2 (l2 ++ txV (gV g p) i) k) ?_ ?_ 0 _ (by omega) ⟨S1, rfl, k1, by rw [txV, List.append_nil]; exact t1⟩
    · rintro i a hi ⟨S2, rfl, k2, t2⟩ K hK
      have c2 := c.km k2
      have hlen := txVn hw hp (i + 1) (by omega)
      refine br_f (by rw [c2.1, ni_le (by omega) (by omega)]; omega) ⟨vp_in_nI (by omega) (by decide), ?_⟩
      rw [nI_clamp (by omega), c2.2.2.2.1 p hp]
      have hv := hw.v512 hp
      by_cases hb : (gV g p).testBit i = true
      · rw [txV, if_pos hb, List.length_append] at hlen
        simp at hlen
        refine hasM_t (by omega) (by omega) hb (br_f n10 (ink1_s hk t2 (by simp; omega) (fun S3 t3 k3 => ink1_s hk t3 (by simp; omega) (fun S4 t4 k4 => ?_))))
        show K (_, _, _)
        rw [nI_1]
        refine hK _ ⟨S4, rfl, (k2.tr k3).tr k4, ?_⟩
        rw [txV, if_pos hb]
        simpa [List.append_assoc] using t4
      · refine hasM_f (by omega) (by omega) (bool_f hb) (br_t rfl ?_)
        show K (_, _, _)
        rw [nI_1]
        refine hK _ ⟨S2, rfl, k2, ?_⟩
        rw [txV, if_neg hb, List.append_nil]; exact t2
    · rintro a ⟨S2, rfl, k2, t2⟩ K
      have c2 := c.km k2
      refine br_t (by rw [c2.1, ni_le (by omega) (by omega)]; omega) (hq S2 ?_ k2)
      rw [← el]; exact t2
  have h10 : ∀ S1, KM S S1 → TM S1 (l ++ (if p = 0 then [] else [59])) k → p_X7_inkPerson_10 Q (nI p) S1 := by
    intro S1 k1 t1
    have c1 := c.km k1
    have hl1 : (l ++ (if p = 0 then [] else [(59 : Int32)])).length + 11 ≤ 115 := by
      by_cases e : p = 0
      · rw [if_pos e]; simp; omega
      · rw [if_neg e]; simp; omega
    refine ⟨vp_in_nI (by omega) (by decide), ?_⟩
    rw [nI_clamp (by omega), c1.2.2.1 p hp]
    refine ⟨fun e => lp S1 _ k1 t1 (by omega) ?_, fun e => ⟨vp_in_nI (by omega) (by decide), ⟨fun e2 => ?_, fun e2 => ?_⟩⟩⟩
    · rw [ni_zero, ni_le (by omega) (by omega)] at e
      have eK : txK (gK g p) = [] := by unfold txK; rw [if_neg (by omega), if_neg (by omega)]
      rw [eK, List.nil_append, List.append_assoc]
    · rw [ni_zero, ni_le (by omega) (by omega)] at e
      have e2 : gK g p ≠ 1 := fun z => e2 (by rw [z]; rfl)
      refine ink1_s hk t1 (by omega) (fun S2 t2 k2 => lp S2 _ (k1.tr k2) t2 (by simp; simp at hl1; omega) ?_)
      have eK : txK (gK g p) = [33] := by unfold txK; rw [if_neg (by omega), if_pos (by omega)]
      rw [eK]
      simp [List.append_assoc]
    · have e2 : gK g p = 1 := ni_inj (by omega) (by omega) e2
      refine ink1_s hk t1 (by omega) (fun S2 t2 k2 => lp S2 _ (k1.tr k2) t2 (by simp; simp at hl1; omega) ?_)
      have eK : txK (gK g p) = [42] := by unfold txK; rw [if_pos e2]
      rw [eK]
      simp [List.append_assoc]
  refine ⟨fun e => h10 S (KM.rf S) ?_, fun e => ?_⟩
  · rw [ni_zero, ni_le (by omega) (by omega)] at e
    rw [if_pos (by omega), List.append_nil]; exact h
  · have e : p ≠ 0 := fun z => e (by rw [z]; decide)
    refine ink1_s hk h (by omega) (fun S2 t2 k2 => h10 S2 k2 ?_)
    rw [if_neg e]; exact t2
theorem inkN_s {S : St} {g : Gp} {k : Nat} {Q : Int32 → St → Prop} (hk : k < 2 ^ 31) (hw : WFg g) (c : CM S g) (hq : ∀ S1, KM S S1 → Q (tch (txt g) k) S1) : p_X7_inkNow (nI k) S Q := by
  have h9 := hw.1
  have h5 := hw.2.1
  intro S1 e1 S2 e2 S3 e3
  have k3 : KM S S3 := by rw [e3, e2, e1]; exact ((KM.sf (by omega)).tr (KM.sf (by omega))).tr (KM.sf (by omega))
  have t3 : TM S3 [] k := by
    rw [e3, e2, e1]
    refine ⟨?_, ?_, ?_⟩
    · simp only [si_r]; simp
    · simp only [si_r]; simp; rfl
    · simp only [si_r]; simp [tch]
  have c3 := c.km k3
  rw [c3.1]
  refine ink1_s hk t3 (by simp) (fun S4 t4 k4 => ink1_s hk t4 (by simp) (fun S5 t5 k5 => ?_))
  refine Lq_rel (gB g) (fun i a => ∃ S6, a = (nI i, S6) ∧ KM S S6 ∧ TM S6 ([48 + nI (gN g), 58] ++ txB g i) k) ?_ ?_ 0 _ (by omega) ⟨S5, rfl, (k3.tr k4).tr k5, by rw [txB, List.append_nil]; exact t5⟩
  · rintro i a hi ⟨S6, rfl, k6, t6⟩ K hK
    have c6 := c.km k6
    refine br_f (by rw [c6.2.1, ni_le (by omega) (by omega)]; omega) ⟨vp_in_nI (by omega) (by decide), ?_⟩
    rw [nI_clamp (by omega), c6.2.2.2.2.1 i hi]
    refine ink1_s hk t6 (by simp [txB_len]; omega) (fun S7 t7 k7 => ?_)
    show K (_, _)
    rw [nI_1]
    refine hK _ ⟨S7, rfl, k6.tr k7, ?_⟩
    rw [txB, ← List.append_assoc]; exact t7
  · rintro a ⟨S6, rfl, k6, t6⟩ K
    have c6 := c.km k6
    refine br_t (by rw [c6.2.1, ni_le (by omega) (by omega)]; omega) (ink1_s hk t6 (by simp [txB_len]; omega) (fun S7 t7 k7 => ?_))
    have t7 : TM S7 (txH g) k := t7
    have hH := txH_len g
    refine Lq_rel (gN g) (fun i a => ∃ S8, a = (nI i, S8) ∧ KM S S8 ∧ TM S8 (txH g ++ txP g i) k) ?_ ?_ 0 _ (by omega) ⟨S7, rfl, k6.tr k7, by rw [txP, List.append_nil]; exact t7⟩
    · rintro i a hi ⟨S8, rfl, k8, t8⟩ K hK
      have c8 := c.km k8
      have hP := txP_len hw i (by omega)
      refine br_f (by rw [c8.1, ni_le (by omega) (by omega)]; omega) (inkP_s hk hw c8 hi t8 ?_ (fun S9 t9 k9 => ?_))
      · rw [List.length_append]
        by_cases e : i = 0
        · right
          subst e
          exact ⟨rfl, by simp [txP]; omega⟩
        · left
          rw [if_neg e] at hP; omega
      · show K (_, _)
        rw [nI_1]
        refine hK _ ⟨S9, rfl, k8.tr k9, ?_⟩
        rw [txP, ← List.append_assoc]; exact t9
    · rintro a ⟨S8, rfl, k8, t8⟩ K
      have c8 := c.km k8
      refine br_t (by rw [c8.1, ni_le (by omega) (by omega)]; omega) ?_
      have t8 : TM S8 (txt g) k := t8
      rw [t8.2.2]
      exact hq S8 k8
theorem ink_c {S : St} {g : Gp} {x : Int32} {Q : Int32 → St → Prop} (hw : WFg g) (c : CC S g) (hN : 0 < gN g) (hx : 0 ≤ x) (hq : ∀ S1, KC S S1 → Q (tch (txt g) x.toNatClampNeg) S1) : p_X6_ink x S Q := by
  obtain ⟨k, hk, rfl⟩ := nI_of (i_nlt.mpr hx)
  have hlen := txt_len hw
  refine ex_t c.1 hw.1 hN (ne_t n10 (br_t hx (write_s hw c (fun S5 t5 k5 => ?_))))
  rw [nI_clamp hk] at hq ⊢
  unfold tch at hq
  refine ⟨fun e => ?_, fun e => ?_⟩
  · rw [t5.1, nI_leI (by omega) hk] at e
    rw [if_neg (by omega)] at hq; exact hq S5 k5
  · rw [t5.1, nI_leI (by omega) hk] at e
    refine ⟨vp_in_nI (by omega) (by decide), ?_⟩
    rw [t5.2 k (by omega)]
    rw [if_pos (by omega)] at hq; exact hq S5 k5
theorem ok_ink (x : Int32) : OpOK (p_X6_ink x) (p_X7_ink x) := by
  refine op_ro (fun g hw => ?_)
  by_cases hN : gN g = 0
  · exact ⟨-103, fun S Q c h => ex_f (by rw [c.1, hN]) (ne_f rfl (h S (KC.rf S))), fun S Q m h => isC_f (by rw [m.1, hN]) (ne_f rfl (h S (KM.rf S)))⟩
  · by_cases hx : 0 ≤ x
    · refine ⟨tch (txt g) x.toNatClampNeg, fun S Q c h => ink_c hw c (by omega) hx h, fun S Q m h => ?_⟩
      obtain ⟨k, hk, rfl⟩ := nI_of (i_nlt.mpr hx)
      rw [nI_clamp hk] at h
      exact isC_t m.1 hw.1 (by omega) (ne_t n10 (br_t hx (inkN_s hk hw m h)))
    · exact ⟨-101, fun S Q c h => ex_t c.1 hw.1 (by omega) (ne_t n10 (br_f hx (h S (KC.rf S)))), fun S Q m h => isC_t m.1 hw.1 (by omega) (ne_t n10 (br_f hx (h S (KM.rf S))))⟩
