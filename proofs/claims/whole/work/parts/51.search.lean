/-! ===== the class's flow: the search ===== -/
def FS (S : St) (n sd : Nat) (vz lim c : Nat → Nat) (a : Nat → Nat → Nat) : Prop := S.1 14 0 = nI n ∧ S.1 14 1 = nI sd ∧ (∀ p, p < n → S.1 15 p = nI (vz p)) ∧ (∀ p, p < n → S.1 17 p = nI (lim p)) ∧ (∀ p, p < n → S.1 18 p = nI (c p)) ∧ (∀ p q, p < n → q < n → S.1 19 (p * 9 + q) = nI (a p q))
def NW (n sd : Nat) (vz lim : Nat → Nat) : Prop := n ≤ 9 ∧ sd < 2 ^ n ∧ (∀ p, p < n → vz p < 2 ^ n ∧ (vz p).testBit p = false) ∧ ∀ p, p < n → lim p ≤ 9
theorem FS.kp {S S1 : St} {n sd : Nat} {vz lim c : Nat → Nat} {a : Nat → Nat → Nat} (h : FS S n sd vz lim c a) (o : ∀ k, 14 ≤ k → k ≤ 19 → S1.1 k = S.1 k) : FS S1 n sd vz lim c a :=
  ⟨by rw [o 14 (by omega) (by omega)]; exact h.1, by rw [o 14 (by omega) (by omega)]; exact h.2.1, fun p hp => by rw [o 15 (by omega) (by omega)]; exact h.2.2.1 p hp, fun p hp => by rw [o 17 (by omega) (by omega)]; exact h.2.2.2.1 p hp, fun p hp => by rw [o 18 (by omega) (by omega)]; exact h.2.2.2.2.1 p hp, fun p q hp hq => by rw [o 19 (by omega) (by omega)]; exact h.2.2.2.2.2 p q hp hq⟩
/-- one more part could go from place x to place y -/
def ed (n : Nat) (vz lim c : Nat → Nat) (a : Nat → Nat → Nat) (x y : Nat) : Bool :=
  if x < 9 then decide (9 ≤ y) && (decide (y < 9 + n) && (if y = 9 + x then decide (c x < lim x) else decide (0 < a (y - 9) x)))
  else decide (y < 9) && ((vz (x - 9)).testBit y || (decide (y = x - 9) && decide (0 < c (x - 9))))
section Sr
variable {n sd : Nat} {vz lim c k : Nat → Nat} {a : Nat → Nat → Nat}
theorem FV.ale (h : FV n sd vz lim c a k) {p q : Nat} (hp : p < n) (hq : q < n) : a p q ≤ c q := by
  have h1 := sm_ge (f := fun b => a b q) hp
  have h2 := h.2.2.1 q hq
  have h3 : a p q ≤ fb_sm (fun b => a b q) n := h1
  omega
theorem FV.aself (h : FV n sd vz lim c a k) (w : NW n sd vz lim) {p : Nat} (hp : p < n) : a p p = 0 := by
  rcases Nat.eq_zero_or_pos (a p p) with z | z
  · exact z
  · have := h.2.2.2.2 p p hp hp z
    rw [(w.2.2.1 p hp).2] at this; cases this
theorem go_next {S : St} {x : Nat} {Q : Int32 → St → Prop} (w : NW n sd vz lim) (f : FV n sd vz lim c a k) (h : FS S n sd vz lim c a) (hx : x < n) (hq : ∀ m, m < 2 ^ 18 → (∀ y, m.testBit y = ed n vz lim c a (9 + x) y) → Q (nI m) S) : p_X1_nextOfGoing (nI x) S Q := by
  have h9 := w.1
  have hc : c x ≤ 9 := Nat.le_trans (f.1 x hx) (w.2.2.2 x hx)
  have hv := (w.2.2.1 x hx).1
  refine ⟨vp_in_nI (by omega) (by decide), vp_in_nI (by omega) (by decide), ?_⟩
  rw [nI_clamp (by omega), h.2.2.2.2.1 x hx, h.2.2.1 x hx]
  have hv9 : vz x < 2 ^ 9 := lt_512 hv h9
  have key : ∀ m : Nat, (∀ y, m.testBit y = ((vz x).testBit y || (decide (y = x) && decide (0 < c x)))) → ∀ y, m.testBit y = ed n vz lim c a (9 + x) y := by
    intro m hm y
    rw [hm]
    unfold ed
    rw [if_neg (by omega), show 9 + x - 9 = x by omega]
    by_cases hy : y < 9
    · simp [hy]
    · rw [tb_ge hv9 (by omega)]
      simp [hy]; omega
  by_cases h0 : c x = 0
  · refine br_t (by rw [ni_zero, ni_le (by omega) (by omega)]; omega) ?_
    rw [ni_zero, fa_or]
    refine hq _ ?_ (key _ (fun y => ?_))
    · rw [Nat.or_zero]; exact Nat.lt_of_lt_of_le hv9 (by decide)
    · rw [Nat.or_zero]; simp [h0]
  · refine br_f (by rw [ni_zero, ni_le (by omega) (by omega)]; omega) ?_
    rw [ni_shl1 x (by omega), fa_or]
    refine hq _ ?_ (key _ (fun y => ?_))
    · exact Nat.or_lt_two_pow (Nat.lt_of_lt_of_le hv9 (by decide)) (Nat.pow_lt_pow_right (by omega) (by omega))
    · rw [fb_bit_set]
      have : 0 < c x := by omega
      simp [this]
theorem come_next {S : St} {x : Nat} {Q : Int32 → St → Prop} (w : NW n sd vz lim) (f : FV n sd vz lim c a k) (h : FS S n sd vz lim c a) (hx : x < n) (hq : ∀ m, m < 2 ^ 18 → (∀ y, m.testBit y = ed n vz lim c a x y) → Q (nI m) S) : p_X1_nextOfComing (nI x) S Q := by
  have h9 := w.1
  have hl := w.2.2.2 x hx
  have hc : c x ≤ 9 := Nat.le_trans (f.1 x hx) hl
  have fin : ∀ m i, (i = n ∨ c x = 0) → (∀ y, m.testBit y = ((decide (y = 9 + x) && decide (c x < lim x)) || (decide (9 ≤ y) && (decide (y < 9 + i) && decide (0 < a (y - 9) x))))) → i ≤ n → m < 2 ^ 18 → Q (nI m) S := by
    intro m i hi hm hin hml
    refine hq m hml (fun y => ?_)
    rw [hm]
    unfold ed
    rw [if_pos (by omega)]
    by_cases hy : y = 9 + x
    · subst hy
      rw [show 9 + x - 9 = x by omega, f.aself w hx]
      simp; intro _; omega
    · rw [if_neg hy]
      by_cases hy9 : 9 ≤ y
      · by_cases hyn : y < 9 + n
        · rcases hi with rfl | h0
          · simp [hy]
          · have : a (y - 9) x = 0 := by have := f.ale (p := y - 9) (by omega) hx; omega
            simp [hy, this]
        · have : ¬ y < 9 + i := by omega
          simp [hy, hyn, this]
      · simp [hy, hy9]
  have run : ∀ m, m < 2 ^ 18 → (∀ y, m.testBit y = (decide (y = 9 + x) && decide (c x < lim x))) → p_X1_nextOfComing_28 Q (nI x) (nI m) S := by
    intro m0 hm0 hb0
    refine Lq_rel n (fun i t => ∃ m, t = (nI x, nI m, nI i, S) ∧ m < 2 ^ 18 ∧ ∀ y, m.testBit y = ((decide (y = 9 + x) && decide (c x < lim x)) || (decide (9 ≤ y) && (decide (y < 9 + i) && decide (0 < a (y - 9) x))))) ?_ ?_ 0 _ (by omega) ⟨m0, rfl, hm0, fun y => ?_⟩
    · rintro i t hi ⟨m, rfl, hm, hb⟩ K hK
      refine br_f (by rw [h.1, ni_le (by omega) (by omega)]; omega) ⟨vp_in_nI (by omega) (by decide), ?_⟩
      rw [nI_clamp (by omega), h.2.2.2.2.1 x hx]
      by_cases h0 : c x = 0
      · exact br_t (by rw [ni_zero, ni_le (by omega) (by omega)]; omega) (fin m i (Or.inr h0) hb (by omega) hm)
      · refine br_f (by rw [ni_zero, ni_le (by omega) (by omega)]; omega) ?_
        have e9 : nI i * 9 + nI x = nI (i * 9 + x) := by rw [show (9 : Int32) = nI 9 from rfl, ni_mul, nI_add]
        rw [e9, nI_clamp (by omega), h.2.2.2.2.2 i x hi hx]
        have ha : a i x ≤ 9 := Nat.le_trans (f.ale hi hx) hc
        refine ⟨vp_in_nI (by omega) (by decide), ?_⟩
        by_cases h1 : a i x = 0
        · refine br_t (by rw [ni_zero, ni_le (by omega) (by omega)]; omega) ?_
          show K _
          rw [nI_1]
          refine hK _ ⟨m, rfl, hm, fun y => ?_⟩
          rw [hb]
          by_cases hy : y = 9 + i
          · subst hy
            rw [show 9 + i - 9 = i by omega, h1]; simp
          · have : (y < 9 + i) ↔ (y < 9 + (i + 1)) := by omega
            simp [this]
        · refine br_f (by rw [ni_zero, ni_le (by omega) (by omega)]; omega) ?_
          show K _
          rw [show (9 : Int32) = nI 9 from rfl, nI_add, ni_shl1 (9 + i) (by omega), fa_or, nI_1]
          refine hK _ ⟨m ||| 2 ^ (9 + i), rfl, Nat.or_lt_two_pow hm (Nat.pow_lt_pow_right (by omega) (by omega)), fun y => ?_⟩
          rw [fb_bit_set, hb]
          by_cases hy : y = 9 + i
          · subst hy
            rw [show 9 + i - 9 = i by omega]
            have : 0 < a i x := by omega
            simp [this]
          · have : (y < 9 + i) ↔ (y < 9 + (i + 1)) := by omega
            simp [this, hy]
    · rintro t ⟨m, rfl, hm, hb⟩ K
      exact br_t (by rw [h.1, ni_le (by omega) (by omega)]; omega) (fin m n (Or.inl rfl) hb (by omega) hm)
    · rw [hb0]; by_cases hy9 : 9 ≤ y
      · have : ¬ y < 9 + 0 := by omega
        simp [this]
      · simp [hy9]
  refine ⟨vp_in_nI (by omega) (by decide), vp_in_nI (by omega) (by decide), ?_⟩
  rw [nI_clamp (by omega), h.2.2.2.1 x hx, h.2.2.2.2.1 x hx]
  by_cases hlt : c x < lim x
  · refine br_f (by rw [ni_le (by omega) (by omega)]; omega) ?_
    rw [show (9 : Int32) = nI 9 from rfl, nI_add, ni_shl1 (9 + x) (by omega)]
    refine run _ (Nat.pow_lt_pow_right (by omega) (by omega)) (fun y => ?_)
    have := fb_bit_set 0 (9 + x) y
    rw [Nat.zero_or, Nat.zero_testBit] at this
    rw [this]; simp [hlt]
  · refine br_t (by rw [ni_le (by omega) (by omega)]; omega) ?_
    rw [ni_zero]
    refine run 0 (by decide) (fun y => ?_)
    rw [Nat.zero_testBit]; simp [hlt]
/-- what the search holds: m places found, l their row, sn their set -/
def SI (n sd : Nat) (vz lim c : Nat → Nat) (a : Nat → Nat → Nat) (S : St) (m : Nat) (l : Nat → Nat) (sn : Nat) : Prop :=
  S.1 13 5 = nI m ∧ (∀ i, i < m → S.1 21 i = nI (l i)) ∧ (∀ i, i < m → (l i < n ∨ (9 ≤ l i ∧ l i < 9 + n)) ∧ sn.testBit (l i) = true) ∧ (∀ x, sn.testBit x = true → ∃ i, i < m ∧ l i = x) ∧ fb_ct (fun x => sn.testBit x) 18 = m ∧ sn < 2 ^ 18 ∧ (∀ i j, i < j → j < m → l i ≠ l j) ∧ ∀ i, i < m → (S.1 20 (l i) = -1 ∧ l i < 9 ∧ sd.testBit (l i) = true) ∨ ∃ j, j < i ∧ S.1 20 (l i) = nI (l j) ∧ ed n vz lim c a (l j) (l i) = true
/-- where the next places come from: from the source, or from a found place -/
def fro (n sd : Nat) (vz lim c : Nat → Nat) (a : Nat → Nat → Nat) (m : Nat) (l : Nat → Nat) (x : Int32) (y : Nat) : Prop :=
  (x = -1 ∧ y < 9 ∧ sd.testBit y = true) ∨ ∃ j, j < m ∧ x = nI (l j) ∧ ed n vz lim c a (l j) y = true
theorem ed_lt (w : NW n sd vz lim) {x y : Nat} (hx : x < n ∨ (9 ≤ x ∧ x < 9 + n)) (h : ed n vz lim c a x y = true) : y < n ∨ (9 ≤ y ∧ y < 9 + n) := by
  unfold ed at h
  split at h
  · simp at h; omega
  · simp at h
    rcases h.2 with z | z
    · exact Or.inl (tb_lt (w.2.2.1 (x - 9) (by omega)).1 z)
    · omega
theorem note_s {S : St} {m s b : Nat} {l : Nat → Nat} {x : Int32} {Q : St → Prop} (hn : n ≤ 9) (h : SI n sd vz lim c a S m l s) (hs : S.1 13 6 = nI s) (hb : b < 2 ^ 18) (hf : ∀ y, b.testBit y = true → fro n sd vz lim c a m l x y ∧ (y < n ∨ (9 ≤ y ∧ y < 9 + n)))
    (hq : ∀ S1 m1 l1 s1, SI n sd vz lim c a S1 m1 l1 s1 → S1.1 13 6 = nI s1 → m ≤ m1 → (∀ i, i < m → l1 i = l i) → (∀ y, s1.testBit y = (s.testBit y || b.testBit y)) → (∀ k, k ≠ 13 → k ≠ 20 → k ≠ 21 → S1.1 k = S.1 k) → Q S1) : p_X1_note (nI b) x S Q := by
  unfold p_X1_note
  rw [hs, ni_df]
  have hd : ∀ y, (df b s).testBit y = (b.testBit y && !s.testBit y) := df_tb (Nat.lt_of_lt_of_le hb (by decide))
  have hdl : df b s < 2 ^ 18 := df_lt hb
  have fin : ∀ S1 m1 l1 s1 i, SI n sd vz lim c a S1 m1 l1 s1 → S1.1 13 6 = nI s → m ≤ m1 → (∀ i, i < m → l1 i = l i) → (∀ y, s1.testBit y = (s.testBit y || (decide (y < i) && b.testBit y))) → (∀ k, k ≠ 13 → k ≠ 20 → k ≠ 21 → S1.1 k = S.1 k) → (∀ y, i ≤ y → (df b s).testBit y = false) → p_X1_note_80 Q (nI (df b s)) S1 := by
    intro S1 m1 l1 s1 i hI h6 hm hl hs1 ho hz S2 e2
    have e6 : nI s ||| nI (df b s) = nI s1 := by
      rw [fa_or]
      congr 1
      refine tb_ext (fun y => ?_)
      rw [Nat.testBit_or, hs1, hd]
      have := hz y
      rw [hd] at this
      by_cases hy : y < i
      · simp [hy]; cases s.testBit y <;> simp
      · have := this (by omega)
        cases hsy : s.testBit y
        · rw [hsy] at this; simp [hy]; simpa using this
        · simp
    rw [h6, e6] at e2
    obtain ⟨a1, a2, a3, a4, a5, a6, a7, a8⟩ := hI
    refine hq S2 m1 l1 s1 ⟨?_, ?_, a3, a4, a5, a6, a7, ?_⟩ ?_ hm hl (fun y => ?_) (fun k k1 k2 k3 => ?_)
    · rw [e2, si_r, if_pos rfl, if_neg (by omega)]; exact a1
    · intro i hi; rw [e2, si_r, if_neg (by omega)]; exact a2 i hi
    · intro i hi; rw [e2, si_r, if_neg (by omega)]; exact a8 i hi
    · rw [e2, si_r, if_pos rfl, if_pos rfl]
    · rw [hs1]
      have := hz y
      rw [hd] at this
      by_cases hy : y < i
      · simp [hy]
      · have := this (by omega)
        cases hsy : s.testBit y
        · rw [hsy] at this; simp [hy]; simpa using this
        · simp
    · rw [e2, cI_n k1]; exact ho k k1 k2 k3
  refine Lq_rel 18 (fun i t => ∃ S1 m1 l1 s1, t = (x, nI (df b s), nI i, S1) ∧ SI n sd vz lim c a S1 m1 l1 s1 ∧ S1.1 13 6 = nI s ∧ m ≤ m1 ∧ (∀ i, i < m → l1 i = l i) ∧ (∀ y, s1.testBit y = (s.testBit y || (decide (y < i) && b.testBit y))) ∧ (∀ k, k ≠ 13 → k ≠ 20 → k ≠ 21 → S1.1 k = S.1 k)) ?_ ?_ 0 _ (by omega) ⟨S, m, l, s, rfl, h, hs, Nat.le_refl _, fun _ _ => rfl, fun y => by simp, fun _ _ _ _ => rfl⟩
  · rintro i t hi ⟨S1, m1, l1, s1, rfl, hI, h6, hm, hl, hs1, ho⟩ K hK
    refine br_f (by rw [show (18 : Int32) = nI 18 from rfl, ni_le (by omega) (by omega)]; omega) ?_
    rw [ni_bit (lt_31 hdl (by omega)) (by omega), ni_shr (lt_31 hdl (by omega)) (by omega)]
    have hsl : df b s >>> i < 2 ^ 18 := Nat.lt_of_le_of_lt (by rw [Nat.shiftRight_eq_div_pow]; exact Nat.div_le_self _ _) hdl
    by_cases hz : df b s >>> i = 0
    · refine br_t (by rw [hz]; rfl) (fin S1 m1 l1 s1 i hI h6 hm hl hs1 ho (fun y hy => ?_))
      have e := Nat.testBit_shiftRight (i := i) (j := y - i) (df b s)
      rw [hz, Nat.zero_testBit, show i + (y - i) = y by omega] at e
      exact e.symm
    · refine br_f (fun e => hz (ni_inj (b := 0) (by omega) (by omega) e)) ?_
      by_cases hbi : (df b s).testBit i = true
      · rw [b1_t hbi]
        refine ne_f rfl ?_
        have hbi' := hbi
        rw [hd] at hbi'
        simp at hbi'
        obtain ⟨a1, a2, a3, a4, a5, a6, a7, a8⟩ := hI
        have hs1i : s1.testBit i = false := by rw [hs1]; simp [hbi'.2]
        have hm18 : m1 < 18 := by
          have h1 := fb_ct_le (fun x => s1.testBit x) 18
          rcases Nat.lt_or_ge m1 18 with z | z
          · exact z
          · have : fb_ct (fun x => s1.testBit x) 18 = 18 := by omega
            have := fb_ct_all.mp this i hi
            rw [hs1i] at this; cases this
        rw [a1]
        refine br_f (by rw [show (18 : Int32) = nI 18 from rfl, ni_le (by omega) (by omega)]; omega) ⟨vp_in_nI hi (by decide), fun S6 e6 => ?_⟩
        rw [nI_clamp (by omega)] at e6
        have c5 : S6.1 13 5 = nI m1 := by rw [e6, si_r, if_neg (by omega)]; exact a1
        rw [c5]
        refine ⟨vp_in_nI hm18 (by decide), fun S7 e7 S8 e8 => ?_⟩
        rw [nI_clamp (by omega)] at e7
        have c57 : S7.1 13 5 = nI m1 := by rw [e7, si_r, if_neg (by omega)]; exact c5
        rw [c57, nI_1] at e8
        show K _
        rw [nI_1]
        have r20 : ∀ j, S8.1 20 j = if j = i then x else S1.1 20 j := fun j => by
          rw [e8, si_r, if_neg (by omega), e7, si_r, if_neg (by omega), e6, si_r, if_pos rfl]
        have r21 : ∀ j, S8.1 21 j = if j = m1 then nI i else S1.1 21 j := fun j => by
          rw [e8, si_r, if_neg (by omega), e7, si_r, if_pos rfl, e6, cI_n (by omega)]
        have hli : ∀ j, j < m1 → l1 j ≠ i := fun j hj e => by
          have := (a3 j hj).2
          rw [e, hs1i] at this; cases this
        obtain ⟨hfi, hri⟩ := hf i hbi'.1
        refine hK _ ⟨S8, m1 + 1, fun j => if j = m1 then i else l1 j, s1 ||| 2 ^ i, rfl, ⟨?_, ?_, ?_, ?_, ?_, ?_, ?_, ?_⟩, ?_, by omega, fun j hj => ?_, fun y => ?_, fun k k1 k2 k3 => ?_⟩
        · rw [e8, si_r, if_pos rfl, if_pos rfl]
        · intro j hj
          rw [r21]
          show _ = nI (if j = m1 then i else l1 j)
          by_cases ej : j = m1
          · rw [if_pos ej, if_pos ej]
          · rw [if_neg ej, if_neg ej]; exact a2 j (by omega)
        · intro j hj
          show ((if j = m1 then i else l1 j) < n ∨ _) ∧ _
          by_cases ej : j = m1
          · simp only [if_pos ej]
            exact ⟨hri, by rw [fb_bit_set]; simp⟩
          · simp only [if_neg ej]
            exact ⟨(a3 j (by omega)).1, by rw [fb_bit_set, (a3 j (by omega)).2]; rfl⟩
        · intro y hy
          rw [fb_bit_set] at hy
          by_cases ey : y = i
          · exact ⟨m1, by omega, by simp [ey]⟩
          · have : s1.testBit y = true := by simpa [ey] using hy
            obtain ⟨j, hj, ej⟩ := a4 y this
            exact ⟨j, by omega, by simp [show j ≠ m1 by omega, ej]⟩
        · have hu := fb_ct_upd (fun x => s1.testBit x) true (i := i) (n := 18) hi
          simp [hs1i] at hu
          rw [← a5, ← hu]
          refine fb_ct_cong (fun y _ => ?_)
          show (s1 ||| 2 ^ i).testBit y = _
          rw [fb_bit_set]
          by_cases ey : y = i
          · simp [ey]
          · simp [ey]
        · exact Nat.or_lt_two_pow a6 (Nat.pow_lt_pow_right (by omega) hi)
        · intro j j' hj hj'
          show (if j = m1 then i else l1 j) ≠ (if j' = m1 then i else l1 j')
          rw [if_neg (show j ≠ m1 by omega)]
          by_cases ej : j' = m1
          · rw [if_pos ej]; exact hli j (by omega)
          · rw [if_neg ej]; exact a7 j j' hj (by omega)
        · intro j hj
          by_cases ej : j = m1
          · subst ej
            simp only [eq_self, if_true]
            rw [r20, if_pos rfl]
            rcases hfi with z | ⟨j', z1, z2, z3⟩
            · exact Or.inl z
            · refine Or.inr ⟨j', by omega, ?_, ?_⟩
              · rw [if_neg (show j' ≠ j by omega), hl j' (by omega)]; exact z2
              · rw [if_neg (show j' ≠ j by omega), hl j' (by omega)]; exact z3
          · simp only [if_neg ej]
            rw [r20, if_neg (hli j (by omega))]
            rcases a8 j (by omega) with z | ⟨j', z1, z2, z3⟩
            · exact Or.inl z
            · refine Or.inr ⟨j', z1, ?_, ?_⟩
              · rw [if_neg (show j' ≠ m1 by omega)]; exact z2
              · rw [if_neg (show j' ≠ m1 by omega)]; exact z3
        · rw [e8, si_r, if_pos rfl, if_neg (by omega), e7, cI_n (by omega), e6, cI_n (by omega)]; exact h6
        · show (if j = m1 then i else l1 j) = l j
          rw [if_neg (by omega)]; exact hl j hj
        · rw [fb_bit_set, hs1]
          by_cases ey : y = i
          · subst ey; simp [hbi'.1]
          · have : (y < i) ↔ (y < i + 1) := by omega
            simp [ey, this]
        · rw [e8, cI_n k1, e7, cI_n k3, e6, cI_n k2]; exact ho k k1 k2 k3
      · rw [b1_n hbi]
        refine ne_t (by decide) ?_
        show K _
        rw [nI_1]
        refine hK _ ⟨S1, m1, l1, s1, rfl, hI, h6, hm, hl, fun y => ?_, ho⟩
        rw [hs1]
        by_cases ey : y = i
        · subst ey
          have := bool_f hbi
          rw [hd] at this
          cases hsy : s.testBit y
          · rw [hsy] at this; simp at this; simp [this]
          · simp
        · have : (y < i) ↔ (y < i + 1) := by omega
          simp [this]
  · rintro t ⟨S1, m1, l1, s1, rfl, hI, h6, hm, hl, hs1, ho⟩ K
    exact br_t (by decide) (fin S1 m1 l1 s1 18 hI h6 hm hl hs1 ho (fun y hy => tb_ge hdl hy))
theorem SI.m18 {S : St} {m s : Nat} {l : Nat → Nat} (h : SI n sd vz lim c a S m l s) : m ≤ 18 := by rw [← h.2.2.2.2.1]; exact fb_ct_le _ 18
theorem search_s {S : St} {x1 : Int32} {Q : St → Prop} (w : NW n sd vz lim) (f : FV n sd vz lim c a k) (h : FS S n sd vz lim c a)
    (hq : ∀ S1 m l sn, SI n sd vz lim c a S1 m l sn → S1.1 13 6 = nI sn → (∀ k, k ≠ 13 → k ≠ 20 → k ≠ 21 → S1.1 k = S.1 k) → (∀ y, sd.testBit y = true → sn.testBit y = true) → ((∃ i, i < m ∧ nI (l i) = x1) ∨ ∀ i, i < m → ∀ y, ed n vz lim c a (l i) y = true → sn.testBit y = true) → Q S1) : p_X1_search x1 S Q := by
  have h9 := w.1
  intro S1 e1 S2 e2
  have o2 : ∀ k, k ≠ 13 → S2.1 k = S.1 k := fun k hk => by rw [e2, cI_n hk, e1, cI_n hk]
  have f2 : FS S2 n sd vz lim c a := h.kp (fun k k1 k2 => o2 k (by omega))
  have i2 : SI n sd vz lim c a S2 0 (fun _ => 0) 0 := by
    refine ⟨by rw [e2, si_r, if_pos rfl, if_pos rfl]; rfl, fun i hi => absurd hi (Nat.not_lt_zero _), fun i hi => absurd hi (Nat.not_lt_zero _), fun x hx => (by rw [Nat.zero_testBit] at hx; cases hx), ?_, by decide, fun i j _ hj => absurd hj (Nat.not_lt_zero _), fun i hi => absurd hi (Nat.not_lt_zero _)⟩
    rw [fb_ct_cong (q := fun _ => false) (fun k _ => Nat.zero_testBit k)]; decide
  have h6 : S2.1 13 6 = nI 0 := by rw [e2, si_r, if_pos rfl, if_neg (by omega), e1, si_r, if_pos rfl, if_pos rfl]; rfl
  rw [f2.2.1]
  have hsd9 : sd < 2 ^ 9 := lt_512 w.2.1 h9
  refine note_s h9 i2 h6 (Nat.lt_of_lt_of_le hsd9 (by decide)) (fun y hy => ⟨Or.inl ⟨rfl, tb_lt hsd9 hy, hy⟩, Or.inl (tb_lt w.2.1 hy)⟩) (fun S3 m3 l3 s3 I3 h63 _ _ hs3 o3 => ?_)
  refine Lq_rel 18 (fun i t => ∃ S1 m l sn, t = (x1, nI i, S1) ∧ SI n sd vz lim c a S1 m l sn ∧ S1.1 13 6 = nI sn ∧ (∀ k, k ≠ 13 → k ≠ 20 → k ≠ 21 → S1.1 k = S.1 k) ∧ (∀ y, sd.testBit y = true → sn.testBit y = true) ∧ i ≤ m ∧ ∀ j, j < i → ∀ y, ed n vz lim c a (l j) y = true → sn.testBit y = true) ?_ ?_ 0 _ (by omega) ⟨S3, m3, l3, s3, rfl, I3, h63, fun k k1 k2 k3 => by rw [o3 k k1 k2 k3, o2 k k1], fun y hy => by rw [hs3, hy]; simp, by omega, fun j hj => absurd hj (Nat.not_lt_zero _)⟩
  · rintro i t hi ⟨S1, m, l, sn, rfl, hI, h6, ho, hsd, him, hcl⟩ K hK
    have hm18 := hI.m18
    have f1 : FS S1 n sd vz lim c a := h.kp (fun k k1 k2 => ho k (by omega) (by omega) (by omega))
    by_cases hlt : i < m
    · refine br_f (by rw [hI.1, ni_le (by omega) (by omega)]; omega) (br_f (by rw [show (18 : Int32) = nI 18 from rfl, ni_le (by omega) (by omega)]; omega) ⟨vp_in_nI hi (by decide), ?_⟩)
      rw [nI_clamp (by omega), hI.2.1 i hlt]
      have hli := (hI.2.2.1 i hlt).1
      by_cases hg : nI (l i) = x1
      · exact ne_f hg (hq S1 m l sn hI h6 ho hsd (Or.inl ⟨i, hlt, hg⟩))
      · refine ne_t hg ?_
        have next : ∀ b, b < 2 ^ 18 → (∀ y, b.testBit y = ed n vz lim c a (l i) y) → p_X1_search_74 Q K x1 (nI i) (nI (l i)) (nI b) S1 := by
          intro b hb hbe
          refine note_s h9 hI h6 hb (fun y hy => ?_) (fun S4 m4 l4 s4 I4 h64 hm4 hl4 hs4 o4 => ?_)
          · rw [hbe] at hy
            exact ⟨Or.inr ⟨i, hlt, rfl, hy⟩, ed_lt w hli hy⟩
          · rw [nI_1]
            refine hK _ ⟨S4, m4, l4, s4, rfl, I4, h64, fun k k1 k2 k3 => by rw [o4 k k1 k2 k3, ho k k1 k2 k3], fun y hy => by rw [hs4, hsd y hy]; rfl, by omega, fun j hj y hy => ?_⟩
            rw [hl4 j (by omega)] at hy
            rw [hs4]
            rcases Nat.lt_or_ge j i with z | z
            · rw [hcl j z y hy]; rfl
            · have : j = i := by omega
              subst this
              rw [hbe, hy]; simp
        by_cases hx9 : l i < 9
        · refine br_f (by rw [show (9 : Int32) = nI 9 from rfl, ni_le (by omega) (by omega)]; omega) ?_
          exact come_next w f f1 (by omega) (fun b hb hbe => next b hb hbe)
        · refine br_t (by rw [show (9 : Int32) = nI 9 from rfl, ni_le (by omega) (by omega)]; omega) ?_
          obtain ⟨q, hq9⟩ : ∃ q, l i = 9 + q := ⟨l i - 9, by omega⟩
          have e9 : nI (l i) - 9 = nI q := by rw [hq9, Nat.add_comm, ← nI_add, show (nI 9 : Int32) = 9 from rfl, Int32.add_sub_cancel]
          rw [e9]
          exact go_next w f f1 (by omega) (fun b hb hbe => next b hb (by rw [hq9]; exact hbe))
    · exact br_t (by rw [hI.1, ni_le (by omega) (by omega)]; omega) (hq S1 m l sn hI h6 ho hsd (Or.inr (fun j hj => hcl j (by omega))))
  · rintro t ⟨S1, m, l, sn, rfl, hI, h6, ho, hsd, him, hcl⟩ K
    have hm18 := hI.m18
    exact br_t (by rw [hI.1, ni_le (by omega) (by omega)]; omega) (hq S1 m l sn hI h6 ho hsd (Or.inr (fun j hj => hcl j (by omega))))
/-- a closed search: nothing more can move -/
theorem closed_FC {S : St} {m s : Nat} {l : Nat → Nat} (w : NW n sd vz lim) (f : FV n sd vz lim c a k) (h : SI n sd vz lim c a S m l s) (hsd : ∀ y, sd.testBit y = true → s.testBit y = true) (hcl : ∀ i, i < m → ∀ y, ed n vz lim c a (l i) y = true → s.testBit y = true) : FC n sd vz lim c a s (s >>> 9) := by
  have h9 := w.1
  have hcl' : ∀ x y, s.testBit x = true → ed n vz lim c a x y = true → s.testBit y = true := by
    intro x y hx hy
    obtain ⟨i, hi, rfl⟩ := h.2.2.2.1 x hx
    exact hcl i hi y hy
  have tb : ∀ q, (s >>> 9).testBit q = s.testBit (9 + q) := fun q => Nat.testBit_shiftRight s
  refine ⟨hsd, fun q hq hI hc => ?_, fun q b hq hb hI ha => ?_, fun q r hq hR hv => ?_, fun q hq hR hc => ?_⟩
  · rw [tb]
    refine hcl' q _ hI ?_
    unfold ed
    rw [if_pos (by omega), if_pos rfl]
    simp [hc, hq]
  · rw [tb]
    refine hcl' q _ hI ?_
    unfold ed
    have hbq : b ≠ q := fun e => by rw [e, f.aself w hq] at ha; omega
    rw [if_pos (by omega), if_neg (by omega), show 9 + b - 9 = b by omega]
    simp [ha, hb]
  · rw [tb] at hR
    refine hcl' _ r hR ?_
    unfold ed
    have hr : r < n := tb_lt (w.2.2.1 q hq).1 hv
    rw [if_neg (by omega), show 9 + q - 9 = q by omega, hv]
    simp; omega
  · rw [tb] at hR
    refine hcl' _ q hR ?_
    unfold ed
    rw [if_neg (by omega), show 9 + q - 9 = q by omega]
    simp [hc]; omega
theorem shr9_lt {S : St} {m s : Nat} {l : Nat → Nat} (w : NW n sd vz lim) (h : SI n sd vz lim c a S m l s) : s >>> 9 < 2 ^ n := lt_of_tb (fun q hq => bool_f (fun e => by
  rw [Nat.testBit_shiftRight] at e
  obtain ⟨i, hi, e2⟩ := h.2.2.2.1 _ e
  have := (h.2.2.1 i hi).1
  have := w.1
  omega))
end Sr
