/-! ===== what a state means: g = (persons, bounds, kind, vouches, bound, page length, page, circles read, added, removed) ===== -/
abbrev Gp : Type := Nat × Nat × (Nat → Nat) × (Nat → Nat) × (Nat → Nat) × Nat × (Nat → Int32) × Int32 × Int32 × Int32
abbrev gN (g : Gp) : Nat := g.1
abbrev gB (g : Gp) : Nat := g.2.1
abbrev gK (g : Gp) : Nat → Nat := g.2.2.1
abbrev gV (g : Gp) : Nat → Nat := g.2.2.2.1
abbrev gD (g : Gp) : Nat → Nat := g.2.2.2.2.1
abbrev gP (g : Gp) : Nat := g.2.2.2.2.2.1
abbrev gQ (g : Gp) : Nat → Int32 := g.2.2.2.2.2.2.1
abbrev gC (g : Gp) : Int32 := g.2.2.2.2.2.2.2.1
abbrev gA (g : Gp) : Int32 := g.2.2.2.2.2.2.2.2.1
abbrev gR (g : Gp) : Int32 := g.2.2.2.2.2.2.2.2.2
def CC (S : St) (g : Gp) : Prop := S.1 2 0 = nI (gN g) ∧ S.1 2 1 = nI (gB g) ∧ (∀ p, p < gN g → S.1 4 p = nI (gK g p)) ∧ (∀ p, p < gN g → S.1 5 p = nI (gV g p)) ∧ (∀ i, i < gB g → S.1 3 i = nI (gD g i)) ∧ S.1 0 1 = nI (gP g) ∧ (∀ i, i < gP g → S.1 1 i = gQ g i) ∧ S.1 0 8 = gC g ∧ S.1 0 9 = gA g ∧ S.1 0 10 = gR g
def CM (S : St) (g : Gp) : Prop := S.1 25 0 = nI (gN g) ∧ S.1 25 3 = nI (gB g) ∧ (∀ p, p < gN g → S.1 26 p = nI (gK g p)) ∧ (∀ p, p < gN g → S.1 27 p = nI (gV g p)) ∧ (∀ i, i < gB g → S.1 28 i = nI (gD g i)) ∧ S.1 25 8 = nI (gP g) ∧ (∀ i, i < gP g → S.1 29 i = gQ g i) ∧ S.1 25 5 = gC g ∧ S.1 25 6 = gA g ∧ S.1 25 7 = gR g
def WFg (g : Gp) : Prop := gN g ≤ 9 ∧ gB g ≤ 5 ∧ (gN g = 0 → gB g = 0) ∧ (∀ p, p < gN g → gK g p ≤ 2) ∧ (∀ p, p < gN g → gV g p < 2 ^ gN g ∧ crd (gV g p) ≤ 5 ∧ (gV g p).testBit p = false) ∧ (∀ i, i < gB g → gD g i ≤ 9) ∧ crd (mkm (gN g) (knd (gK g) 1)) ≤ 5 ∧ gP g ≤ 110
theorem WFg.n9 {g : Gp} (h : WFg g) : gN g ≤ 9 := h.1
theorem WFg.v512 {g : Gp} (h : WFg g) {p : Nat} (hp : p < gN g) : gV g p < 512 := lt_512 (h.2.2.2.2.1 p hp).1 h.1
/-- kept by the class's calls, by the reference's calls -/
def KC (S S1 : St) : Prop := (∀ k, k ≤ 5 → S1.1 k = S.1 k) ∧ ∀ k, 25 ≤ k → S1.1 k = S.1 k
def KM0 (S S1 : St) : Prop := (∀ k, k ≤ 24 → S1.1 k = S.1 k) ∧ (∀ k, 26 ≤ k → k ≤ 29 → S1.1 k = S.1 k) ∧ S1.1 25 0 = S.1 25 0 ∧ S1.1 25 3 = S.1 25 3 ∧ S1.1 25 5 = S.1 25 5 ∧ S1.1 25 6 = S.1 25 6 ∧ S1.1 25 7 = S.1 25 7 ∧ S1.1 25 8 = S.1 25 8
/-- and the reference's hash -/
def KM (S S1 : St) : Prop := KM0 S S1 ∧ S1.2 25 29 = S.2 25 29
theorem KC.rf (S : St) : KC S S := ⟨fun _ _ => rfl, fun _ _ => rfl⟩
theorem KM0.rf (S : St) : KM0 S S := ⟨fun _ _ => rfl, fun _ _ _ => rfl, rfl, rfl, rfl, rfl, rfl, rfl⟩
theorem KC.tr {S S1 S2 : St} (h : KC S S1) (h2 : KC S1 S2) : KC S S2 := ⟨fun k hk => (h2.1 k hk).trans (h.1 k hk), fun k hk => (h2.2 k hk).trans (h.2 k hk)⟩
theorem KM.rf (S : St) : KM S S := ⟨KM0.rf S, rfl⟩
theorem KM0.tr {S S1 S2 : St} (h : KM0 S S1) (h2 : KM0 S1 S2) : KM0 S S2 := ⟨fun k hk => (h2.1 k hk).trans (h.1 k hk), fun k hk hk2 => (h2.2.1 k hk hk2).trans (h.2.1 k hk hk2), h2.2.2.1.trans h.2.2.1, h2.2.2.2.1.trans h.2.2.2.1, h2.2.2.2.2.1.trans h.2.2.2.2.1, h2.2.2.2.2.2.1.trans h.2.2.2.2.2.1, h2.2.2.2.2.2.2.1.trans h.2.2.2.2.2.2.1, h2.2.2.2.2.2.2.2.trans h.2.2.2.2.2.2.2⟩
theorem KM.tr {S S1 S2 : St} (h : KM S S1) (h2 : KM S1 S2) : KM S S2 := ⟨h.1.tr h2.1, h2.2.trans h.2⟩
theorem KC.ci {S : St} {k : Nat} {f : Nat → Int32} (h1 : 6 ≤ k) (h2 : k ≤ 24) : KC S (cI S k f) := ⟨fun a ha => cI_n (by omega), fun a ha => cI_n (by omega)⟩
theorem KC.cj {S : St} {k : Nat} {f : Nat → Int64} : KC S (cJ S k f) := ⟨fun a ha => rfl, fun a ha => rfl⟩
theorem KM0.ci {S : St} {k : Nat} {f : Nat → Int32} (h1 : 30 ≤ k) : KM0 S (cI S k f) := ⟨fun a ha => cI_n (by omega), fun a ha hb => cI_n (by omega), by rw [cI_n (by omega)], by rw [cI_n (by omega)], by rw [cI_n (by omega)], by rw [cI_n (by omega)], by rw [cI_n (by omega)], by rw [cI_n (by omega)]⟩
theorem KM.ci {S : St} {k : Nat} {f : Nat → Int32} (h1 : 30 ≤ k) : KM S (cI S k f) := ⟨KM0.ci h1, rfl⟩
theorem KM0.sf {S : St} {j : Nat} {v : Int32} (h : 9 ≤ j) : KM0 S (si S 25 j v) := ⟨fun a ha => cI_n (by omega), fun a ha hb => cI_n (by omega), by rw [cI_s, upd_n (by omega)], by rw [cI_s, upd_n (by omega)], by rw [cI_s, upd_n (by omega)], by rw [cI_s, upd_n (by omega)], by rw [cI_s, upd_n (by omega)], by rw [cI_s, upd_n (by omega)]⟩
theorem KM.sf {S : St} {j : Nat} {v : Int32} (h : 9 ≤ j) : KM S (si S 25 j v) := ⟨KM0.sf h, rfl⟩
theorem CC.kc {S S1 : St} {g : Gp} (h : CC S g) (k : KC S S1) : CC S1 g := by
  obtain ⟨k1, k2⟩ := k
  unfold CC at *
  rw [k1 2 (by omega), k1 4 (by omega), k1 5 (by omega), k1 3 (by omega), k1 0 (by omega), k1 1 (by omega)]
  exact h
theorem CM.kc {S S1 : St} {g : Gp} (h : CM S g) (k : KC S S1) : CM S1 g := by
  obtain ⟨k1, k2⟩ := k
  unfold CM at *
  rw [k2 25 (by omega), k2 26 (by omega), k2 27 (by omega), k2 28 (by omega), k2 29 (by omega)]
  exact h
theorem CC.km {S S1 : St} {g : Gp} (h : CC S g) (k : KM S S1) : CC S1 g := by
  obtain ⟨⟨k1, k2⟩, -⟩ := k
  unfold CC at *
  rw [k1 2 (by omega), k1 4 (by omega), k1 5 (by omega), k1 3 (by omega), k1 0 (by omega), k1 1 (by omega)]
  exact h
theorem CM.km0 {S S1 : St} {g : Gp} (h : CM S g) (k : KM0 S S1) : CM S1 g := by
  obtain ⟨k1, k2, a1, a2, a3, a4, a5, a6⟩ := k
  unfold CM at *
  rw [a1, a2, a3, a4, a5, a6, k2 26 (by omega) (by omega), k2 27 (by omega) (by omega), k2 28 (by omega) (by omega), k2 29 (by omega) (by omega)]
  exact h
theorem CM.km {S S1 : St} {g : Gp} (h : CM S g) (k : KM S S1) : CM S1 g := h.km0 k.1
theorem CM.sk {S : St} {g : Gp} {k j : Nat} {v : Int32} (h : CM S g) (hk : k < 25) : CM (si S k j v) g := by
  unfold CM at *
  rw [cI_n (by omega), cI_n (by omega), cI_n (by omega), cI_n (by omega), cI_n (by omega)]
  exact h
theorem CC.sk {S : St} {g : Gp} {k j : Nat} {v : Int32} (h : CC S g) (hk : 25 ≤ k) : CC (si S k j v) g := by
  unfold CC at *
  rw [cI_n (by omega), cI_n (by omega), cI_n (by omega), cI_n (by omega), cI_n (by omega), cI_n (by omega)]
  exact h
/-- an operation: the class and the reference agree, and go to the same g' -/
def OpOK (pc pm : St → (Int32 → St → Prop) → Prop) : Prop := ∀ g, WFg g → ∃ (r : Int32) (g' : Gp), WFg g' ∧ (∀ (S : St) (Q : Int32 → St → Prop), CC S g → CM S g → (∀ S1, CC S1 g' → CM S1 g → Q r S1) → pc S Q) ∧ (∀ (S : St) (Q : Int32 → St → Prop), CC S g' → CM S g → (∀ S1, CC S1 g' → CM S1 g' → Q r S1) → pm S Q)
theorem op_ro {pc pm : St → (Int32 → St → Prop) → Prop} (h : ∀ g, WFg g → ∃ r : Int32, (∀ (S : St) (Q : Int32 → St → Prop), CC S g → (∀ S1, KC S S1 → Q r S1) → pc S Q) ∧ (∀ (S : St) (Q : Int32 → St → Prop), CM S g → (∀ S1, KM S S1 → Q r S1) → pm S Q)) : OpOK pc pm := by
  intro g hw
  obtain ⟨r, h1, h2⟩ := h g hw
  exact ⟨r, g, hw, fun S Q c1 c2 hq => h1 S Q c1 (fun S1 k => hq S1 (c1.kc k) (c2.kc k)), fun S Q c1 c2 hq => h2 S Q c2 (fun S1 k => hq S1 (c1.km k) (c2.km k))⟩
/-- within -/
theorem wi_t {a b : Nat} {x : Int32} {k : Nat} {S : St} {Q : Int32 → St → Prop} (hx : x = nI k) (h1 : a ≤ k) (h2 : k ≤ b) (hb : b ≤ 1000) (h : Q 1 S) : p_X7_within x (nI a) (nI b) S Q := by
  subst hx
  refine br_f ?_ (br_f ?_ h)
  · rw [ni_lt (by omega) (by omega)]; omega
  · rw [ni_lt (by omega) (by omega)]; omega
theorem wi_f {a b : Nat} {x : Int32} {S : St} {Q : Int32 → St → Prop} (hb : b ≤ 1000) (ha : a ≤ 1000) (hx : ∀ k, a ≤ k → k ≤ b → x ≠ nI k) (h : Q 0 S) : p_X7_within x (nI a) (nI b) S Q := by
  refine ⟨fun _ => h, fun h0 => ⟨fun _ => h, fun h1 => ?_⟩⟩
  exfalso
  have h2 : ¬ x < 0 := by
    intro q
    apply h0
    rw [Int32.lt_iff_toInt_lt] at q ⊢
    rw [nI_toInt (by omega)]
    rw [Int32.toInt_zero] at q
    omega
  obtain ⟨j, hj, rfl⟩ := nI_of h2
  have a1 : a ≤ j := by
    rcases Nat.lt_or_ge j a with q | q
    · exact absurd (nI_lt q (by omega)) h0
    · exact q
  have a2 : j ≤ b := by
    rcases Nat.lt_or_ge b j with q | q
    · exact absurd (nI_lt q hj) h1
    · exact q
  exact hx j a1 a2 rfl
theorem wi_split (x : Int32) (a b : Nat) : (∃ k, a ≤ k ∧ k ≤ b ∧ x = nI k) ∨ ∀ k, a ≤ k → k ≤ b → x ≠ nI k := by
  by_cases h : ∃ k, a ≤ k ∧ k ≤ b ∧ x = nI k
  · exact Or.inl h
  · exact Or.inr (fun k h1 h2 e => h ⟨k, h1, h2, e⟩)
theorem rg_split (x : Int32) (n : Nat) : (∃ p, p < n ∧ x = nI p) ∨ ∀ p, p < n → x ≠ nI p := by
  by_cases h : ∃ k, k < n ∧ x = nI k
  · exact Or.inl h
  · exact Or.inr (fun k h1 e => h ⟨k, h1, e⟩)
theorem pr_split (x y : Int32) (n : Nat) : (∃ p q, p < n ∧ q < n ∧ p ≠ q ∧ x = nI p ∧ y = nI q) ∨ ∀ p q, p < n → q < n → p ≠ q → x = nI p → y ≠ nI q := by
  by_cases h : ∃ p q, p < n ∧ q < n ∧ p ≠ q ∧ x = nI p ∧ y = nI q
  · exact Or.inl h
  · exact Or.inr (fun p q h1 h2 h3 h4 e => h ⟨p, q, h1, h2, h3, h4, e⟩)
/-! the simplest operations -/
theorem ok_blank : OpOK p_X6_blank p_X7_blank := by
  intro g hw
  refine ⟨nI (gP g), (gN g, gB g, gK g, gV g, gD g, 0, gQ g, gC g, gA g, gR g), ⟨hw.1, hw.2.1, hw.2.2.1, hw.2.2.2.1, hw.2.2.2.2.1, hw.2.2.2.2.2.1, hw.2.2.2.2.2.2.1, Nat.zero_le _⟩, ?_, ?_⟩
  · intro S Q c m h S1 e
    rw [c.2.2.2.2.2.1]
    subst e
    refine h _ ?_ (m.sk (by omega))
    obtain ⟨c1, c2, c3, c4, c5, c6, c7, c8, c9, c10⟩ := c
    refine ⟨?_, ?_, ?_, ?_, ?_, ?_, fun i hi => absurd hi (Nat.not_lt_zero i), ?_, ?_, ?_⟩
    · rw [cI_n (by omega)]; exact c1
    · rw [cI_n (by omega)]; exact c2
    · rw [cI_n (by omega)]; exact c3
    · rw [cI_n (by omega)]; exact c4
    · rw [cI_n (by omega)]; exact c5
    · rw [cI_s, upd_s]; rfl
    · rw [cI_s, upd_n (by omega)]; exact c8
    · rw [cI_s, upd_n (by omega)]; exact c9
    · rw [cI_s, upd_n (by omega)]; exact c10
  · intro S Q c m h S1 e
    rw [m.2.2.2.2.2.1]
    subst e
    refine h _ (c.sk (by omega)) ?_
    obtain ⟨c1, c2, c3, c4, c5, c6, c7, c8, c9, c10⟩ := m
    refine ⟨?_, ?_, ?_, ?_, ?_, ?_, fun i hi => absurd hi (Nat.not_lt_zero i), ?_, ?_, ?_⟩
    · rw [cI_s, upd_n (by omega)]; exact c1
    · rw [cI_s, upd_n (by omega)]; exact c2
    · rw [cI_n (by omega)]; exact c3
    · rw [cI_n (by omega)]; exact c4
    · rw [cI_n (by omega)]; exact c5
    · rw [cI_s, upd_s]; rfl
    · rw [cI_s, upd_n (by omega)]; exact c8
    · rw [cI_s, upd_n (by omega)]; exact c9
    · rw [cI_s, upd_n (by omega)]; exact c10
theorem sw5 {A0 A1 A2 A3 A4 D : Prop} (x : Int32) (h0 : x = 0 → A0) (h1 : x = 1 → A1) (h2 : x = 2 → A2) (h3 : x = 3 → A3) (h4 : x = 4 → A4) (hd : (∀ k, k ≤ 4 → x ≠ nI k) → D) : ((x = 0) → A0) ∧ ((¬ (x = 0)) → ((x = 1) → A1) ∧ ((¬ (x = 1)) → ((x = 2) → A2) ∧ ((¬ (x = 2)) → ((x = 3) → A3) ∧ ((¬ (x = 3)) → ((x = 4) → A4) ∧ ((¬ (x = 4)) → D))))) :=
  ⟨h0, fun n0 => ⟨h1, fun n1 => ⟨h2, fun n2 => ⟨h3, fun n3 => ⟨h4, fun n4 => hd (fun k hk => by
    match k, hk with
    | 0, _ => exact n0
    | 1, _ => exact n1
    | 2, _ => exact n2
    | 3, _ => exact n3
    | 4, _ => exact n4
    | k + 5, hk => omega)⟩⟩⟩⟩⟩
def cntv (g : Gp) (x : Int32) : Int32 := if x = 0 then nI (gN g) else if x = 1 then nI (gP g) else if x = 2 then gC g else if x = 3 then gA g else if x = 4 then gR g else -102
theorem cnt_s {S : St} {g : Gp} {x : Int32} {Q : Int32 → St → Prop} (c : CC S g) (h : Q (cntv g x) S) : p_X6_count x S Q := by
  obtain ⟨c1, c2, c3, c4, c5, c6, c7, c8, c9, c10⟩ := c
  unfold cntv at h
  refine ⟨fun e => ?_, fun n0 => ⟨fun e => ?_, fun n1 => ⟨fun e => ?_, fun n2 => ⟨fun e => ?_, fun n3 => ⟨fun e => ?_, fun n4 => ?_⟩⟩⟩⟩⟩
  · rw [if_pos e] at h; rw [c1]; exact h
  · rw [if_neg n0, if_pos e] at h; rw [c6]; exact h
  · rw [if_neg n0, if_neg n1, if_pos e] at h; rw [c8]; exact h
  · rw [if_neg n0, if_neg n1, if_neg n2, if_pos e] at h; rw [c9]; exact h
  · rw [if_neg n0, if_neg n1, if_neg n2, if_neg n3, if_pos e] at h; rw [c10]; exact h
  · rw [if_neg n0, if_neg n1, if_neg n2, if_neg n3, if_neg n4] at h; exact h
theorem hm_s {S : St} {g : Gp} {x : Int32} {Q : Int32 → St → Prop} (c : CM S g) (h : Q (cntv g x) S) : p_X7_howMany x S Q := by
  obtain ⟨c1, c2, c3, c4, c5, c6, c7, c8, c9, c10⟩ := c
  unfold cntv at h
  refine ⟨fun e => ?_, fun n0 => ⟨fun e => ?_, fun n1 => ⟨fun e => ?_, fun n2 => ⟨fun e => ?_, fun n3 => ⟨fun e => ?_, fun n4 => ?_⟩⟩⟩⟩⟩
  · rw [if_pos e] at h; rw [c1]; exact h
  · rw [if_neg n0, if_pos e] at h; rw [c6]; exact h
  · rw [if_neg n0, if_neg n1, if_pos e] at h; rw [c8]; exact h
  · rw [if_neg n0, if_neg n1, if_neg n2, if_pos e] at h; rw [c9]; exact h
  · rw [if_neg n0, if_neg n1, if_neg n2, if_neg n3, if_pos e] at h; rw [c10]; exact h
  · rw [if_neg n0, if_neg n1, if_neg n2, if_neg n3, if_neg n4] at h; exact h
theorem ok_count (x : Int32) : OpOK (p_X6_count x) (p_X7_count x) :=
  op_ro (fun g hw => ⟨cntv g x, fun S Q c h => cnt_s c (h S (KC.rf S)), fun S Q m h => hm_s m (h S (KM.rf S))⟩)
theorem ok_vouches (x y : Int32) : OpOK (p_X6_vouches x y) (p_X7_vouches x y) := by
  refine op_ro (fun g hw => ?_)
  rcases pr_split x y (gN g) with ⟨p, q, hp, hq, hpq, rfl, rfl⟩ | hx
  · have h9 := hw.1
    have hv := hw.v512 hp
    refine ⟨nI (b1 (gV g p) q), fun S Q c h => ?_, fun S Q m h => ?_⟩
    · refine pair_t c.1 h9 hp hq hpq (ne_t n10 ⟨vp_in_nI (by omega) (by decide), ?_⟩)
      rw [nI_clamp (by omega), c.2.2.2.1 p hp]
      exact bit_s (by omega) (by omega) (h S (KC.rf S))
    · refine two_t m.1 h9 hp hq hpq (ne_t n10 ⟨vp_in_nI (by omega) (by decide), ?_⟩)
      rw [nI_clamp (by omega), m.2.2.2.1 p hp]
      by_cases hb : (gV g p).testBit q = true
      · rw [b1_t hb] at h
        exact hasM_t (by omega) (by omega) hb (br_f n10 (h S (KM.rf S)))
      · rw [b1_n hb] at h
        exact hasM_f (by omega) (by omega) (bool_f hb) (br_t rfl (h S (KM.rf S)))
  · exact ⟨-101, fun S Q c h => pair_f c.1 hw.1 hx (ne_f rfl (h S (KC.rf S))), fun S Q m h => two_f m.1 hw.1 hx (ne_f rfl (h S (KM.rf S)))⟩
