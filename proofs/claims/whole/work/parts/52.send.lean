/-! ===== the class's flow: one more part ===== -/
def up1 (c : Nat → Nat) (q v : Nat) : Nat → Nat := fun p => if p = q then v else c p
def up2 (a : Nat → Nat → Nat) (q b v : Nat) : Nat → Nat → Nat := fun p r => if p = q then (if r = b then v else a p r) else a p r
theorem up2_row (a : Nat → Nat → Nat) (q b v p n : Nat) : fb_sm (up2 a q b v p) n = if p = q then fb_sm (fun r => if r = b then v else a q r) n else fb_sm (a p) n := by
  by_cases h : p = q
  · subst h
    rw [if_pos rfl]
    exact fb_sm_cong (fun r _ => by show (if p = p then _ else _) = _; rw [if_pos rfl])
  · rw [if_neg h]
    exact fb_sm_cong (fun r _ => by show (if p = q then _ else _) = _; rw [if_neg h])
theorem up2_col (a : Nat → Nat → Nat) (q b v r n : Nat) : fb_sm (fun p => up2 a q b v p r) n = if r = b then fb_sm (fun p => if p = q then v else a p b) n else fb_sm (fun p => a p r) n := by
  by_cases h : r = b
  · subst h
    rw [if_pos rfl]
    exact fb_sm_cong (fun p _ => by show (if p = q then (if r = r then _ else _) else _) = _; rw [if_pos rfl])
  · rw [if_neg h]
    exact fb_sm_cong (fun p _ => by
      show (if p = q then (if r = b then _ else _) else _) = _
      rw [if_neg h]; split <;> rfl)
/-- a flow with one part still to be brought to place x -/
def BF (n sd : Nat) (vz lim c : Nat → Nat) (a : Nat → Nat → Nat) (k : Nat → Nat) (x : Nat) : Prop :=
  (∀ p, p < n → c p ≤ lim p) ∧ (∀ p, p < n → c p + (if x = 9 + p then 1 else 0) = k p + fb_sm (a p) n) ∧ (∀ p, p < n → fb_sm (fun b => a b p) n + (if x = p then 1 else 0) ≤ c p) ∧ (∀ p, p < n → sd.testBit p = false → fb_sm (fun b => a b p) n + (if x = p then 1 else 0) = c p) ∧ (∀ p q, p < n → q < n → 0 < a p q → (vz p).testBit q = true)
section Sn
variable {n sd : Nat} {vz lim c k : Nat → Nat} {a : Nat → Nat → Nat}
theorem bf_in (h9 : n ≤ 9) (f : FV n sd vz lim c a k) {p : Nat} (hp : p < n) : BF n sd vz lim c a (fun q => if q = p then k q + 1 else k q) (9 + p) := by
  obtain ⟨h1, h2, h3, h4, h5⟩ := f
  refine ⟨h1, fun q hq => ?_, fun q hq => ?_, fun q hq hs => ?_, h5⟩
  · have := h2 q hq
    show _ = (if q = p then k q + 1 else k q) + _
    by_cases e : q = p
    · rw [if_pos (by omega), if_pos e]; omega
    · rw [if_neg (by omega), if_neg e]; omega
  · rw [if_neg (by omega)]; exact h3 q hq
  · rw [if_neg (by omega)]; exact h4 q hq hs
theorem bf_out {q : Nat} (h9 : n ≤ 9) (hq : q < n) (b : BF n sd vz lim c a k q) (hs : sd.testBit q = true) : FV n sd vz lim c a k := by
  obtain ⟨h1, h2, h3, h4, h5⟩ := b
  refine ⟨h1, fun p hp => ?_, fun p hp => ?_, fun p hp hsp => ?_, h5⟩
  · have := h2 p hp; rw [if_neg (by omega)] at this; exact this
  · have := h3 p hp; omega
  · have := h4 p hp hsp
    rw [if_neg (fun e => by rw [← e, hs] at hsp; cases hsp)] at this; exact this
theorem bf_cu {q : Nat} (h9 : n ≤ 9) (hq : q < n) (b : BF n sd vz lim c a k (9 + q)) (hl : c q < lim q) : BF n sd vz lim (up1 c q (c q + 1)) a k q := by
  obtain ⟨h1, h2, h3, h4, h5⟩ := b
  refine ⟨fun p hp => ?_, fun p hp => ?_, fun p hp => ?_, fun p hp hs => ?_, h5⟩
  · show (if p = q then c q + 1 else c p) ≤ _
    have := h1 p hp
    split
    · rename_i e; subst e; omega
    · exact this
  · show (if p = q then c q + 1 else c p) + _ = _
    have := h2 p hp
    rw [if_neg (show ¬ q = 9 + p by omega)]
    by_cases e : p = q
    · subst e; rw [if_pos rfl] at this ⊢; omega
    · rw [if_neg e]; rw [if_neg (by omega)] at this; omega
  · show _ ≤ (if p = q then c q + 1 else c p)
    have := h3 p hp
    rw [if_neg (show ¬ 9 + q = p by omega)] at this
    by_cases e : p = q
    · subst e; rw [if_pos rfl, if_pos rfl]; omega
    · rw [if_neg e, if_neg (fun z => e z.symm)]; omega
  · show _ = (if p = q then c q + 1 else c p)
    have := h4 p hp hs
    rw [if_neg (show ¬ 9 + q = p by omega)] at this
    by_cases e : p = q
    · subst e; rw [if_pos rfl, if_pos rfl]; omega
    · rw [if_neg e, if_neg (fun z => e z.symm)]; omega
theorem bf_cd {q : Nat} (h9 : n ≤ 9) (hq : q < n) (b : BF n sd vz lim c a k q) (hl : 0 < c q) : BF n sd vz lim (up1 c q (c q - 1)) a k (9 + q) := by
  obtain ⟨h1, h2, h3, h4, h5⟩ := b
  refine ⟨fun p hp => ?_, fun p hp => ?_, fun p hp => ?_, fun p hp hs => ?_, h5⟩
  · show (if p = q then c q - 1 else c p) ≤ _
    have := h1 p hp
    split
    · rename_i e; subst e; omega
    · exact this
  · show (if p = q then c q - 1 else c p) + _ = _
    have := h2 p hp
    rw [if_neg (show ¬ q = 9 + p by omega)] at this
    by_cases e : p = q
    · subst e; rw [if_pos rfl, if_pos rfl]; omega
    · rw [if_neg e, if_neg (by omega)]; omega
  · show _ ≤ (if p = q then c q - 1 else c p)
    have := h3 p hp
    rw [if_neg (show ¬ 9 + q = p by omega)]
    by_cases e : p = q
    · subst e; rw [if_pos rfl] at this ⊢; omega
    · rw [if_neg e]; omega
  · show _ = (if p = q then c q - 1 else c p)
    have := h4 p hp hs
    rw [if_neg (show ¬ 9 + q = p by omega)]
    by_cases e : p = q
    · subst e; rw [if_pos rfl] at this ⊢; omega
    · rw [if_neg e]; rw [if_neg (fun z => e z.symm)] at this; omega
theorem bf_ad {q r : Nat} (h9 : n ≤ 9) (hq : q < n) (hr : r < n) (b : BF n sd vz lim c a k (9 + q)) (hl : 0 < a q r) : BF n sd vz lim c (up2 a q r (a q r - 1)) k r := by
  obtain ⟨h1, h2, h3, h4, h5⟩ := b
  have e1 := fb_sm_upd (a q) (a q r - 1) hr
  have e2 := fb_sm_upd (fun p => a p r) (a q r - 1) hq
  have e2' : fb_sm (fun p => if p = q then a q r - 1 else a p r) n + a q r = fb_sm (fun p => a p r) n + (a q r - 1) := e2
  refine ⟨h1, fun p hp => ?_, fun p hp => ?_, fun p hp hs => ?_, fun p s hp hs h => ?_⟩
  · have := h2 p hp
    rw [up2_row, if_neg (by omega)]
    by_cases e : p = q
    · subst e; rw [if_pos rfl] at this ⊢; omega
    · rw [if_neg e]; rw [if_neg (by omega)] at this; omega
  · have := h3 p hp
    rw [if_neg (show ¬ 9 + q = p by omega)] at this
    rw [up2_col]
    by_cases e : p = r
    · subst e; rw [if_pos rfl, if_pos rfl]; omega
    · rw [if_neg e, if_neg (fun z => e z.symm)]; omega
  · have := h4 p hp hs
    rw [if_neg (show ¬ 9 + q = p by omega)] at this
    rw [up2_col]
    by_cases e : p = r
    · subst e; rw [if_pos rfl, if_pos rfl]; omega
    · rw [if_neg e, if_neg (fun z => e z.symm)]; omega
  · refine h5 p s hp hs ?_
    have h' : 0 < (if p = q then (if s = r then a q r - 1 else a p s) else a p s) := h
    split at h'
    · split at h'
      · rename_i u v; subst u v; exact hl
      · exact h'
    · exact h'
theorem bf_au {q r : Nat} (h9 : n ≤ 9) (hq : q < n) (hr : r < n) (b : BF n sd vz lim c a k r) (hl : (vz q).testBit r = true) : BF n sd vz lim c (up2 a q r (a q r + 1)) k (9 + q) := by
  obtain ⟨h1, h2, h3, h4, h5⟩ := b
  have e1 := fb_sm_upd (a q) (a q r + 1) hr
  have e2 := fb_sm_upd (fun p => a p r) (a q r + 1) hq
  have e2' : fb_sm (fun p => if p = q then a q r + 1 else a p r) n + a q r = fb_sm (fun p => a p r) n + (a q r + 1) := e2
  refine ⟨h1, fun p hp => ?_, fun p hp => ?_, fun p hp hs => ?_, fun p s hp hs h => ?_⟩
  · have := h2 p hp
    rw [if_neg (show ¬ r = 9 + p by omega)] at this
    rw [up2_row]
    by_cases e : p = q
    · subst e; rw [if_pos rfl, if_pos rfl]; omega
    · rw [if_neg e, if_neg (by omega)]; omega
  · have := h3 p hp
    rw [if_neg (show ¬ 9 + q = p by omega), up2_col]
    by_cases e : p = r
    · subst e; rw [if_pos rfl] at this ⊢; omega
    · rw [if_neg e]; omega
  · have := h4 p hp hs
    rw [if_neg (show ¬ 9 + q = p by omega), up2_col]
    by_cases e : p = r
    · subst e; rw [if_pos rfl] at this ⊢; omega
    · rw [if_neg e]; rw [if_neg (fun z => e z.symm)] at this; omega
  · have h' : 0 < (if p = q then (if s = r then a q r + 1 else a p s) else a p s) := h
    by_cases u : p = q
    · by_cases v : s = r
      · rw [u, v]; exact hl
      · rw [if_pos u, if_neg v] at h'; exact h5 p s hp hs h'
    · rw [if_neg u] at h'; exact h5 p s hp hs h'
/-- what was not yet passed is as it was -/
def UN (n : Nat) (l : Nat → Nat) (c0 : Nat → Nat) (a0 : Nat → Nat → Nat) (i : Nat) (c : Nat → Nat) (a : Nat → Nat → Nat) : Prop :=
  ∀ j, j < i → (l j < 9 → c (l j) = c0 (l j) ∧ ∀ b, b < n → a b (l j) = a0 b (l j)) ∧ (9 ≤ l j → c (l j - 9) = c0 (l j - 9) ∧ ∀ b, b < n → a (l j - 9) b = a0 (l j - 9) b)
theorem FS.c1 {S : St} {q v : Nat} (h9 : n ≤ 9) (h : FS S n sd vz lim c a) : FS (si S 18 q (nI v)) n sd vz lim (up1 c q v) a :=
  ⟨by rw [cI_n (by omega)]; exact h.1, by rw [cI_n (by omega)]; exact h.2.1, fun p hp => by rw [cI_n (by omega)]; exact h.2.2.1 p hp, fun p hp => by rw [cI_n (by omega)]; exact h.2.2.2.1 p hp, fun p hp => by
    rw [si_r, if_pos rfl]
    show _ = nI (if p = q then v else c p)
    split
    · rfl
    · exact h.2.2.2.2.1 p hp, fun p r hp hr => by rw [cI_n (by omega)]; exact h.2.2.2.2.2 p r hp hr⟩
theorem FS.a1 {S : St} {q s v : Nat} (h9 : n ≤ 9) (hq : q < n) (hs : s < n) (h : FS S n sd vz lim c a) : FS (si S 19 (q * 9 + s) (nI v)) n sd vz lim c (up2 a q s v) :=
  ⟨by rw [cI_n (by omega)]; exact h.1, by rw [cI_n (by omega)]; exact h.2.1, fun p hp => by rw [cI_n (by omega)]; exact h.2.2.1 p hp, fun p hp => by rw [cI_n (by omega)]; exact h.2.2.2.1 p hp, fun p hp => by rw [cI_n (by omega)]; exact h.2.2.2.2.1 p hp, fun p r hp hr => by
    rw [si_r, if_pos rfl]
    show _ = nI (if p = q then (if r = s then v else a p r) else a p r)
    by_cases e1 : p = q
    · by_cases e2 : r = s
      · rw [if_pos (by rw [e1, e2]), if_pos e1, if_pos e2]
      · rw [if_neg (by omega), if_pos e1, if_neg e2]; exact h.2.2.2.2.2 p r hp hr
    · rw [if_neg (by omega), if_neg e1]; exact h.2.2.2.2.2 p r hp hr⟩
theorem m1_ne {x : Nat} (hx : x ≤ 999) : ¬ nI x = (-1 : Int32) := fun e => by
  have h := (m1_none (l := x + 1) (by omega)).mp (by rw [← nI_1, Int32.add_sub_cancel]; exact e)
  omega
theorem send_s {S : St} {p : Nat} {Q : Int32 → St → Prop} (w : NW n sd vz lim) (f : FV n sd vz lim c a k) (h : FS S n sd vz lim c a) (hp : p < n)
    (hyes : ∀ S1 c1 a1, FS S1 n sd vz lim c1 a1 → FV n sd vz lim c1 a1 (fun q => if q = p then k q + 1 else k q) → (∀ z, z ≠ 13 → (z < 18 ∨ 21 < z) → S1.1 z = S.1 z) → Q 1 S1)
    (hno : ∀ S1 I R, R < 2 ^ n → FC n sd vz lim c a I R → R.testBit p = false → FS S1 n sd vz lim c a → (∀ z, z ≠ 13 → (z < 18 ∨ 21 < z) → S1.1 z = S.1 z) → Q 0 S1) : p_X1_sendTo (nI p) S Q := by
  have h9 := w.1
  have e9 : (9 : Int32) + nI p = nI (9 + p) := by rw [show (9 : Int32) = nI 9 from rfl, nI_add]
  unfold p_X1_sendTo
  rw [e9]
  refine search_s w f h (fun S1 m l sn hI h6 ho hsd hor => ?_)
  have f1 : FS S1 n sd vz lim c a := h.kp (fun z z1 z2 => ho z (by omega) (by omega) (by omega))
  rw [h6]
  refine bit_s (lt_31 hI.2.2.2.2.2.1 (by omega)) (by omega) ?_
  by_cases hg : sn.testBit (9 + p) = true
  · rw [b1_t hg]
    refine ne_t n10 ?_
    obtain ⟨i0, hi0, el0⟩ := hI.2.2.2.1 _ hg
    have hm18 := hI.m18
    obtain ⟨-, -, a3, -, -, -, a7, a8⟩ := hI
    refine Lq_rel 18 (fun t s => ∃ S2 i c2 a2, s = (nI (l i), nI t, S2) ∧ i < m ∧ t + i ≤ 17 ∧ FS S2 n sd vz lim c2 a2 ∧ BF n sd vz lim c2 a2 (fun q => if q = p then k q + 1 else k q) (l i) ∧ UN n l c a i c2 a2 ∧ ∀ z, z ≠ 18 → z ≠ 19 → S2.1 z = S1.1 z) ?_ ?_ 0 _ (by omega) ⟨S1, i0, c, a, by rw [el0]; rfl, hi0, by omega, f1, by rw [el0]; exact bf_in h9 f hp, fun j _ => ⟨fun _ => ⟨rfl, fun _ _ => rfl⟩, fun _ => ⟨rfl, fun _ _ => rfl⟩⟩, fun _ _ _ => rfl⟩
    · rintro t s ht ⟨S2, i, c2, a2, rfl, hi, hti, f2, hb, hu, o2⟩ K hK
      have hli := (a3 i hi).1
      have h20 : S2.1 20 = S1.1 20 := o2 20 (by omega) (by omega)
      refine br_f (by rw [show (18 : Int32) = nI 18 from rfl, ni_le (by omega) (by omega)]; omega) ⟨vp_in_nI (by omega) (by decide), ?_⟩
      rw [nI_clamp (by omega), h20]
      rcases a8 i hi with ⟨z1, z2, z3⟩ | ⟨j, z1, z2, z3⟩
      · rw [z1]
        refine br_t rfl (hyes S2 c2 a2 f2 (bf_out h9 (by omega) hb z3) (fun z y1 y2 => ?_))
        rw [o2 z (by omega) (by omega), ho z y1 (by omega) (by omega)]
      · rw [z2]
        have hlj := (a3 j (by omega)).1
        refine br_f (m1_ne (by omega)) ⟨vp_in_nI (by omega) (by decide), ?_⟩
        have hne : ∀ i', i' < j → l i' ≠ l j ∧ l i' ≠ l i := fun i' hi' => ⟨a7 i' j hi' (by omega), a7 i' i (by omega) hi⟩
        have step : ∀ S3 c3 a3, FS S3 n sd vz lim c3 a3 → BF n sd vz lim c3 a3 (fun q => if q = p then k q + 1 else k q) (l j) → UN n l c a j c3 a3 → (∀ z, z ≠ 18 → z ≠ 19 → S3.1 z = S2.1 z) → vp_in (nI (l i)) 18 ∧ K (S3.1 20 (l i), nI t + 1, S3) := by
          intro S3 c3 a3 f3 b3 u3 o3
          refine ⟨vp_in_nI (by omega) (by decide), ?_⟩
          rw [o3 20 (by omega) (by omega), h20, z2, nI_1]
          exact hK _ ⟨S3, j, c3, a3, rfl, by omega, by omega, f3, b3, u3, fun z y1 y2 => by rw [o3 z y1 y2, o2 z y1 y2]⟩
        obtain ⟨uc, ug⟩ := hu j z1
        by_cases hj9 : l j < 9
        · refine br_f (by rw [show (9 : Int32) = nI 9 from rfl, ni_le (by omega) (by omega)]; omega) ?_
          obtain ⟨uc1, uc2⟩ := uc hj9
          unfold ed at z3
          rw [if_pos hj9] at z3
          simp at z3
          obtain ⟨y1, y2, y3⟩ := z3
          obtain ⟨q, hq⟩ : ∃ q, l i = 9 + q := ⟨l i - 9, by omega⟩
          have e9 : nI (l i) - 9 = nI q := by rw [hq, Nat.add_comm, ← nI_add, show (nI 9 : Int32) = 9 from rfl, Int32.add_sub_cancel]
          rw [e9]
          by_cases hqj : l j = q
          · refine ne_f (by rw [hqj]) ⟨vp_in_nI (by omega) (by decide), vp_in_nI (by omega) (by decide), fun S3 e3 => ?_⟩
            rw [nI_clamp (by omega), f2.2.2.2.2.1 _ (by omega), nI_1] at e3
            rw [if_pos (by omega)] at y3
            rw [hq, ← hqj] at hb
            refine step S3 _ _ (by rw [e3]; exact f2.c1 h9) (bf_cu h9 (by omega) hb (by rw [uc1]; exact y3)) (fun i' hi' => ?_) (fun z w1 w2 => by rw [e3, cI_n w1])
            obtain ⟨n1, n2⟩ := hne i' hi'
            obtain ⟨v1, v2⟩ := hu i' (by omega)
            refine ⟨fun g1 => ⟨?_, (v1 g1).2⟩, fun g1 => ⟨?_, (v2 g1).2⟩⟩
            · show (if l i' = l j then _ else _) = _
              rw [if_neg n1]; exact (v1 g1).1
            · show (if l i' - 9 = l j then _ else _) = _
              rw [if_neg (by omega)]; exact (v2 g1).1
          · have e99 : nI q * 9 + nI (l j) = nI (q * 9 + l j) := by rw [show (9 : Int32) = nI 9 from rfl, ni_mul, nI_add]
            refine ne_t (fun e => hqj (ni_inj (by omega) (by omega) e)) ?_
            rw [e99]
            refine ⟨vp_in_nI (by omega) (by decide), vp_in_nI (by omega) (by decide), fun S3 e3 => ?_⟩
            rw [if_neg (by omega)] at y3
            rw [hq, show 9 + q - 9 = q by omega, ← uc2 q (by omega)] at y3
            rw [nI_clamp (by omega), f2.2.2.2.2.2 q (l j) (by omega) (by omega), ni_pred y3] at e3
            rw [hq] at hb
            refine step S3 _ _ (by rw [e3]; exact f2.a1 h9 (by omega) (by omega)) (bf_ad h9 (by omega) (by omega) hb y3) (fun i' hi' => ?_) (fun z w1 w2 => by rw [e3, cI_n w2])
            obtain ⟨n1, n2⟩ := hne i' hi'
            obtain ⟨v1, v2⟩ := hu i' (by omega)
            refine ⟨fun g1 => ⟨(v1 g1).1, fun b hb => ?_⟩, fun g1 => ⟨(v2 g1).1, fun b hb => ?_⟩⟩
            · show (if b = q then (if l i' = l j then _ else _) else _) = _
              rw [if_neg n1]; have := (v1 g1).2 b hb; split <;> exact this
            · show (if l i' - 9 = q then _ else _) = _
              rw [if_neg (by omega)]; exact (v2 g1).2 b hb
        · refine br_t (by rw [show (9 : Int32) = nI 9 from rfl, ni_le (by omega) (by omega)]; omega) ?_
          obtain ⟨uc1, uc2⟩ := ug (by omega)
          unfold ed at z3
          rw [if_neg hj9] at z3
          simp at z3
          obtain ⟨y1, y3⟩ := z3
          obtain ⟨q, hq⟩ : ∃ q, l j = 9 + q := ⟨l j - 9, by omega⟩
          have e9 : nI (l j) - 9 = nI q := by rw [hq, Nat.add_comm, ← nI_add, show (nI 9 : Int32) = 9 from rfl, Int32.add_sub_cancel]
          have eq9 : l j - 9 = q := by omega
          rw [eq9] at y3 uc1 uc2
          rw [e9]
          by_cases hqj : q = l i
          · refine ne_f (by rw [hqj]) ⟨vp_in_nI (by omega) (by decide), vp_in_nI (by omega) (by decide), fun S3 e3 => ?_⟩
            have y4 : 0 < c2 q := by
              rw [uc1]
              rcases y3 with y3 | y3
              · rw [← hqj, (w.2.2.1 q (by omega)).2] at y3; cases y3
              · exact y3.2
            rw [nI_clamp (by omega), f2.2.2.2.2.1 _ (by omega), ni_pred y4] at e3
            rw [← hqj] at hb
            refine step S3 _ _ (by rw [e3]; exact f2.c1 h9) (by rw [hq]; exact bf_cd h9 (by omega) hb y4) (fun i' hi' => ?_) (fun z w1 w2 => by rw [e3, cI_n w1])
            obtain ⟨n1, n2⟩ := hne i' hi'
            obtain ⟨v1, v2⟩ := hu i' (by omega)
            refine ⟨fun g1 => ⟨?_, (v1 g1).2⟩, fun g1 => ⟨?_, (v2 g1).2⟩⟩
            · show (if l i' = q then _ else _) = _
              rw [if_neg (by omega)]; exact (v1 g1).1
            · show (if l i' - 9 = q then _ else _) = _
              rw [if_neg (by omega)]; exact (v2 g1).1
          · have e99 : nI q * 9 + nI (l i) = nI (q * 9 + l i) := by rw [show (9 : Int32) = nI 9 from rfl, ni_mul, nI_add]
            refine ne_t (fun e => hqj (ni_inj (by omega) (by omega) e)) ?_
            rw [e99]
            refine ⟨vp_in_nI (by omega) (by decide), vp_in_nI (by omega) (by decide), fun S3 e3 => ?_⟩
            have y4 : (vz q).testBit (l i) = true := by
              rcases y3 with y3 | y3
              · exact y3
              · omega
            rw [nI_clamp (by omega), f2.2.2.2.2.2 q (l i) (by omega) (by omega), nI_1] at e3
            refine step S3 _ _ (by rw [e3]; exact f2.a1 h9 (by omega) (by omega)) (by rw [hq]; exact bf_au h9 (by omega) (by omega) hb y4) (fun i' hi' => ?_) (fun z w1 w2 => by rw [e3, cI_n w2])
            obtain ⟨n1, n2⟩ := hne i' hi'
            obtain ⟨v1, v2⟩ := hu i' (by omega)
            refine ⟨fun g1 => ⟨(v1 g1).1, fun b hb => ?_⟩, fun g1 => ⟨(v2 g1).1, fun b hb => ?_⟩⟩
            · show (if b = q then (if l i' = l i then _ else _) else _) = _
              rw [if_neg n2]; have := (v1 g1).2 b hb; split <;> exact this
            · show (if l i' - 9 = q then _ else _) = _
              rw [if_neg (by omega)]; exact (v2 g1).2 b hb
    · rintro s ⟨S2, i, c2, a2, rfl, hi, hti, -⟩ K
      omega
  · rw [b1_n hg]
    refine ne_f rfl ?_
    have hcl := hor.resolve_left (fun ⟨i, hi, e⟩ => by
      have := (hI.2.2.1 i hi)
      have e2 := ni_inj (by omega) (by omega) e
      rw [e2] at this
      exact hg this.2)
    refine hno S1 sn (sn >>> 9) (shr9_lt w hI) (closed_FC w f hI hsd hcl) ?_ f1 (fun z y1 y2 => ho z y1 (by omega) (by omega))
    rw [Nat.testBit_shiftRight]; exact bool_f hg
theorem reach_s {S : St} {Q : Int32 → St → Prop} (w : NW n sd vz lim) (f : FV n sd vz lim c a k) (h : FS S n sd vz lim c a)
    (hq : ∀ S1 I R, R < 2 ^ n → FC n sd vz lim c a I R → FS S1 n sd vz lim c a → (∀ z, z ≠ 13 → (z < 18 ∨ 21 < z) → S1.1 z = S.1 z) → Q (nI R) S1) : p_X1_reached S Q := by
  have h9 := w.1
  refine search_s w f h (fun S1 m l sn hI h6 ho hsd hor => ?_)
  have hcl := hor.resolve_left (fun ⟨i, hi, e⟩ => by
    have := (hI.2.2.1 i hi).1
    have hx := congrArg Int32.toInt e
    rw [show (nI (l i)).toInt = (l i : Int) from nI_toInt (by omega)] at hx
    have : (-2 : Int32).toInt = -2 := by decide
    omega)
  rw [h6, show (9 : Int32) = nI 9 from rfl, ni_shr (lt_31 hI.2.2.2.2.2.1 (by omega)) (by omega)]
  exact hq S1 sn (sn >>> 9) (shr9_lt w hI) (closed_FC w f hI hsd hcl) (h.kp (fun z z1 z2 => ho z (by omega) (by omega) (by omega))) (fun z y1 y2 => ho z y1 (by omega) (by omega))
end Sn
