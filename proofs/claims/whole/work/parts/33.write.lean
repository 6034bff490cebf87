/-! ===== operations that write ===== -/
theorem crd_mkm {n : Nat} (hn : n ≤ 9) (P : Nat → Bool) : crd (mkm n P) = fb_ct P n := by
  rw [crd_n (mkm_lt P n) hn]
  exact fb_ct_cong (fun k hk => by rw [mkm_tb]; simp [hk])
theorem crd_or {m q : Nat} (hq : q < 9) (hb : m.testBit q = false) : crd (m ||| 2 ^ q) = crd m + 1 := by
  unfold crd
  have e : fb_ct (fun k => (m ||| 2 ^ q).testBit k) 9 = fb_ct (fun k => if k = q then true else m.testBit k) 9 := fb_ct_cong (fun k _ => by
    show (m ||| 2 ^ q).testBit k = _
    rw [fb_bit_set]
    by_cases c : k = q
    · simp [c]
    · simp [c])
  have h := fb_ct_upd (fun k => m.testBit k) true hq
  rw [e]
  simp only [hb] at h
  simpa using h
theorem crd_df {m x : Nat} (hm : m < 2 ^ 32) : crd (df m x) ≤ crd m := by
  unfold crd
  refine fb_ct_sub (fun k _ h => ?_)
  rw [df_tb hm] at h
  simp at h
  exact h.1
abbrev gsK (g : Gp) (p t : Nat) : Gp := (gN g, gB g, fun q => if q = p then t else gK g q, gV g, gD g, gP g, gQ g, gC g, gA g, gR g)
abbrev gsV (g : Gp) (p m : Nat) : Gp := (gN g, gB g, gK g, fun q => if q = p then m else gV g q, gD g, gP g, gQ g, gC g, gA g, gR g)
abbrev gsD (g : Gp) (i v : Nat) : Gp := (gN g, gB g, gK g, gV g, fun q => if q = i then v else gD g q, gP g, gQ g, gC g, gA g, gR g)
abbrev gsA (g : Gp) (v : Int32) : Gp := (gN g, gB g, gK g, gV g, gD g, gP g, gQ g, gC g, v, gR g)
abbrev gsR (g : Gp) (v : Int32) : Gp := (gN g, gB g, gK g, gV g, gD g, gP g, gQ g, gC g, gA g, v)
abbrev gsL (g : Gp) (x : Int32) : Gp := (gN g, gB g, gK g, gV g, gD g, gP g + 1, fun q => if q = gP g then x else gQ g q, gC g, gA g, gR g)
theorem cc_K {S : St} {g : Gp} {p t : Nat} (c : CC S g) : CC (si S 4 p (nI t)) (gsK g p t) := by
  obtain ⟨c1, c2, c3, c4, c5, c6, c7, c8, c9, c10⟩ := c
  refine ⟨by rw [cI_n (by omega)]; exact c1, by rw [cI_n (by omega)]; exact c2, ?_, by rw [cI_n (by omega)]; exact c4, by rw [cI_n (by omega)]; exact c5, by rw [cI_n (by omega)]; exact c6, by rw [cI_n (by omega)]; exact c7, by rw [cI_n (by omega)]; exact c8, by rw [cI_n (by omega)]; exact c9, by rw [cI_n (by omega)]; exact c10⟩
  intro q hq
  rw [cI_s]
  show upd _ p _ q = nI (if q = p then t else gK g q)
  by_cases e : q = p
  · subst e; rw [upd_s, if_pos rfl]
  · rw [upd_n e, if_neg e]; exact c3 q hq
theorem cm_K {S : St} {g : Gp} {p t : Nat} (c : CM S g) : CM (si S 26 p (nI t)) (gsK g p t) := by
  obtain ⟨c1, c2, c3, c4, c5, c6, c7, c8, c9, c10⟩ := c
  refine ⟨by rw [cI_n (by omega)]; exact c1, by rw [cI_n (by omega)]; exact c2, ?_, by rw [cI_n (by omega)]; exact c4, by rw [cI_n (by omega)]; exact c5, by rw [cI_n (by omega)]; exact c6, by rw [cI_n (by omega)]; exact c7, by rw [cI_n (by omega)]; exact c8, by rw [cI_n (by omega)]; exact c9, by rw [cI_n (by omega)]; exact c10⟩
  intro q hq
  rw [cI_s]
  show upd _ p _ q = nI (if q = p then t else gK g q)
  by_cases e : q = p
  · subst e; rw [upd_s, if_pos rfl]
  · rw [upd_n e, if_neg e]; exact c3 q hq
theorem cc_V {S : St} {g : Gp} {p t : Nat} (c : CC S g) : CC (si S 5 p (nI t)) (gsV g p t) := by
  obtain ⟨c1, c2, c3, c4, c5, c6, c7, c8, c9, c10⟩ := c
  refine ⟨by rw [cI_n (by omega)]; exact c1, by rw [cI_n (by omega)]; exact c2, by rw [cI_n (by omega)]; exact c3, ?_, by rw [cI_n (by omega)]; exact c5, by rw [cI_n (by omega)]; exact c6, by rw [cI_n (by omega)]; exact c7, by rw [cI_n (by omega)]; exact c8, by rw [cI_n (by omega)]; exact c9, by rw [cI_n (by omega)]; exact c10⟩
  intro q hq
  rw [cI_s]
  show upd _ p _ q = nI (if q = p then t else gV g q)
  by_cases e : q = p
  · subst e; rw [upd_s, if_pos rfl]
  · rw [upd_n e, if_neg e]; exact c4 q hq
theorem cm_V {S : St} {g : Gp} {p t : Nat} (c : CM S g) : CM (si S 27 p (nI t)) (gsV g p t) := by
  obtain ⟨c1, c2, c3, c4, c5, c6, c7, c8, c9, c10⟩ := c
  refine ⟨by rw [cI_n (by omega)]; exact c1, by rw [cI_n (by omega)]; exact c2, by rw [cI_n (by omega)]; exact c3, ?_, by rw [cI_n (by omega)]; exact c5, by rw [cI_n (by omega)]; exact c6, by rw [cI_n (by omega)]; exact c7, by rw [cI_n (by omega)]; exact c8, by rw [cI_n (by omega)]; exact c9, by rw [cI_n (by omega)]; exact c10⟩
  intro q hq
  rw [cI_s]
  show upd _ p _ q = nI (if q = p then t else gV g q)
  by_cases e : q = p
  · subst e; rw [upd_s, if_pos rfl]
  · rw [upd_n e, if_neg e]; exact c4 q hq
theorem cc_D {S : St} {g : Gp} {p t : Nat} (c : CC S g) : CC (si S 3 p (nI t)) (gsD g p t) := by
  obtain ⟨c1, c2, c3, c4, c5, c6, c7, c8, c9, c10⟩ := c
  refine ⟨by rw [cI_n (by omega)]; exact c1, by rw [cI_n (by omega)]; exact c2, by rw [cI_n (by omega)]; exact c3, by rw [cI_n (by omega)]; exact c4, ?_, by rw [cI_n (by omega)]; exact c6, by rw [cI_n (by omega)]; exact c7, by rw [cI_n (by omega)]; exact c8, by rw [cI_n (by omega)]; exact c9, by rw [cI_n (by omega)]; exact c10⟩
  intro q hq
  rw [cI_s]
  show upd _ p _ q = nI (if q = p then t else gD g q)
  by_cases e : q = p
  · subst e; rw [upd_s, if_pos rfl]
  · rw [upd_n e, if_neg e]; exact c5 q hq
theorem cm_D {S : St} {g : Gp} {p t : Nat} (c : CM S g) : CM (si S 28 p (nI t)) (gsD g p t) := by
  obtain ⟨c1, c2, c3, c4, c5, c6, c7, c8, c9, c10⟩ := c
  refine ⟨by rw [cI_n (by omega)]; exact c1, by rw [cI_n (by omega)]; exact c2, by rw [cI_n (by omega)]; exact c3, by rw [cI_n (by omega)]; exact c4, ?_, by rw [cI_n (by omega)]; exact c6, by rw [cI_n (by omega)]; exact c7, by rw [cI_n (by omega)]; exact c8, by rw [cI_n (by omega)]; exact c9, by rw [cI_n (by omega)]; exact c10⟩
  intro q hq
  rw [cI_s]
  show upd _ p _ q = nI (if q = p then t else gD g q)
  by_cases e : q = p
  · subst e; rw [upd_s, if_pos rfl]
  · rw [upd_n e, if_neg e]; exact c5 q hq
theorem cc_A {S : St} {g : Gp} {v : Int32} (c : CC S g) : CC (si S 0 9 v) (gsA g v) := by
  obtain ⟨c1, c2, c3, c4, c5, c6, c7, c8, c9, c10⟩ := c
  exact ⟨by rw [cI_n (by omega)]; exact c1, by rw [cI_n (by omega)]; exact c2, by rw [cI_n (by omega)]; exact c3, by rw [cI_n (by omega)]; exact c4, by rw [cI_n (by omega)]; exact c5, by rw [cI_s, upd_n (by omega)]; exact c6, by rw [cI_n (by omega)]; exact c7, by rw [cI_s, upd_n (by omega)]; exact c8, by rw [cI_s, upd_s], by rw [cI_s, upd_n (by omega)]; exact c10⟩
theorem cm_A {S : St} {g : Gp} {v : Int32} (c : CM S g) : CM (si S 25 6 v) (gsA g v) := by
  obtain ⟨c1, c2, c3, c4, c5, c6, c7, c8, c9, c10⟩ := c
  exact ⟨by rw [cI_s, upd_n (by omega)]; exact c1, by rw [cI_s, upd_n (by omega)]; exact c2, by rw [cI_n (by omega)]; exact c3, by rw [cI_n (by omega)]; exact c4, by rw [cI_n (by omega)]; exact c5, by rw [cI_s, upd_n (by omega)]; exact c6, by rw [cI_n (by omega)]; exact c7, by rw [cI_s, upd_n (by omega)]; exact c8, by rw [cI_s, upd_s], by rw [cI_s, upd_n (by omega)]; exact c10⟩
theorem cc_R {S : St} {g : Gp} {v : Int32} (c : CC S g) : CC (si S 0 10 v) (gsR g v) := by
  obtain ⟨c1, c2, c3, c4, c5, c6, c7, c8, c9, c10⟩ := c
  exact ⟨by rw [cI_n (by omega)]; exact c1, by rw [cI_n (by omega)]; exact c2, by rw [cI_n (by omega)]; exact c3, by rw [cI_n (by omega)]; exact c4, by rw [cI_n (by omega)]; exact c5, by rw [cI_s, upd_n (by omega)]; exact c6, by rw [cI_n (by omega)]; exact c7, by rw [cI_s, upd_n (by omega)]; exact c8, by rw [cI_s, upd_n (by omega)]; exact c9, by rw [cI_s, upd_s]⟩
theorem cm_R {S : St} {g : Gp} {v : Int32} (c : CM S g) : CM (si S 25 7 v) (gsR g v) := by
  obtain ⟨c1, c2, c3, c4, c5, c6, c7, c8, c9, c10⟩ := c
  exact ⟨by rw [cI_s, upd_n (by omega)]; exact c1, by rw [cI_s, upd_n (by omega)]; exact c2, by rw [cI_n (by omega)]; exact c3, by rw [cI_n (by omega)]; exact c4, by rw [cI_n (by omega)]; exact c5, by rw [cI_s, upd_n (by omega)]; exact c6, by rw [cI_n (by omega)]; exact c7, by rw [cI_s, upd_n (by omega)]; exact c8, by rw [cI_s, upd_n (by omega)]; exact c9, by rw [cI_s, upd_s]⟩
theorem cc_L {S : St} {g : Gp} {x : Int32} (c : CC S g) : CC (si (si S 1 (gP g) x) 0 1 (nI (gP g + 1))) (gsL g x) := by
  obtain ⟨c1, c2, c3, c4, c5, c6, c7, c8, c9, c10⟩ := c
  refine ⟨by rw [cI_n (by omega), cI_n (by omega)]; exact c1, by rw [cI_n (by omega), cI_n (by omega)]; exact c2, by rw [cI_n (by omega), cI_n (by omega)]; exact c3, by rw [cI_n (by omega), cI_n (by omega)]; exact c4, by rw [cI_n (by omega), cI_n (by omega)]; exact c5, by rw [cI_s, upd_s], ?_, by rw [cI_s, upd_n (by omega), cI_n (by omega)]; exact c8, by rw [cI_s, upd_n (by omega), cI_n (by omega)]; exact c9, by rw [cI_s, upd_n (by omega), cI_n (by omega)]; exact c10⟩
  intro q hq
  have hq : q < gP g + 1 := hq
  rw [cI_n (by omega), cI_s]
  show upd _ (gP g) _ q = (if q = gP g then x else gQ g q)
  by_cases e : q = gP g
  · rw [e, upd_s, if_pos rfl]
  · rw [upd_n e, if_neg e]; exact c7 q (by omega)
theorem cm_L {S : St} {g : Gp} {x : Int32} (c : CM S g) : CM (si (si S 29 (gP g) x) 25 8 (nI (gP g + 1))) (gsL g x) := by
  obtain ⟨c1, c2, c3, c4, c5, c6, c7, c8, c9, c10⟩ := c
  refine ⟨by rw [cI_s, upd_n (by omega), cI_n (by omega)]; exact c1, by rw [cI_s, upd_n (by omega), cI_n (by omega)]; exact c2, by rw [cI_n (by omega), cI_n (by omega)]; exact c3, by rw [cI_n (by omega), cI_n (by omega)]; exact c4, by rw [cI_n (by omega), cI_n (by omega)]; exact c5, by rw [cI_s, upd_s], ?_, by rw [cI_s, upd_n (by omega), cI_n (by omega)]; exact c8, by rw [cI_s, upd_n (by omega), cI_n (by omega)]; exact c9, by rw [cI_s, upd_n (by omega), cI_n (by omega)]; exact c10⟩
  intro q hq
  have hq : q < gP g + 1 := hq
  rw [cI_n (by omega), cI_s]
  show upd _ (gP g) _ q = (if q = gP g then x else gQ g q)
  by_cases e : q = gP g
  · rw [e, upd_s, if_pos rfl]
  · rw [upd_n e, if_neg e]; exact c7 q (by omega)
/-- an operation that answers without a change -/
theorem op_err {pc pm : St → (Int32 → St → Prop) → Prop} {g : Gp} (hw : WFg g) (r : Int32) (h1 : ∀ (S : St) (Q : Int32 → St → Prop), CC S g → CM S g → Q r S → pc S Q) (h2 : ∀ (S : St) (Q : Int32 → St → Prop), CM S g → CC S g → Q r S → pm S Q) : ∃ (r : Int32) (g' : Gp), WFg g' ∧ (∀ (S : St) (Q : Int32 → St → Prop), CC S g → CM S g → (∀ S1, CC S1 g' → CM S1 g → Q r S1) → pc S Q) ∧ (∀ (S : St) (Q : Int32 → St → Prop), CC S g' → CM S g → (∀ S1, CC S1 g' → CM S1 g' → Q r S1) → pm S Q) :=
  ⟨r, g, hw, fun S Q c m hq => h1 S Q c m (hq S c m), fun S Q c m hq => h2 S Q m c (hq S c m)⟩
theorem ok_letter (x : Int32) : OpOK (p_X6_letter x) (p_X7_letter x) := by
  intro g hw
  rcases wi_split x 32 126 with ⟨k, h1, h2, rfl⟩ | hx
  · have a1 : ¬ nI k < 32 := by rw [show (32 : Int32) = nI 32 from rfl, ni_lt (by omega) (by omega)]; omega
    have a2 : nI k ≤ 126 := by rw [show (126 : Int32) = nI 126 from rfl, ni_le (by omega) (by omega)]; omega
    by_cases hp : gP g = 110
    · refine op_err hw (-104) (fun S Q c m h => ?_) (fun S Q m c h => ?_)
      · refine br_f a1 (br_t a2 (br_f ?_ h))
        rw [c.2.2.2.2.2.1, hp]; decide
      · refine wi_t (a := 32) (b := 126) rfl h1 h2 (by omega) (ne_t n10 (ne_f ?_ h))
        rw [m.2.2.2.2.2.1, hp]; decide
    · have hp2 : gP g < 110 := by have := hw.2.2.2.2.2.2.2; omega
      refine ⟨nI (gP g + 1), gsL g (nI k), ⟨hw.1, hw.2.1, hw.2.2.1, hw.2.2.2.1, hw.2.2.2.2.1, hw.2.2.2.2.2.1, hw.2.2.2.2.2.2.1, by show gP g + 1 ≤ 110; omega⟩, ?_, ?_⟩
      · intro S Q c m h
        have c6 := c.2.2.2.2.2.1
        refine br_f a1 (br_t a2 (br_t ?_ ⟨?_, fun S1 e1 S2 e2 => ?_⟩))
        · rw [c6, show (110 : Int32) = nI 110 from rfl, ni_lt (by omega) (by omega)]; omega
        · rw [c6]; exact vp_in_nI hp2 (by decide)
        · rw [c6, nI_clamp (by omega)] at e1
          rw [e1, cI_n (by omega), c6, nI_1] at e2
          rw [e2, cI_s, upd_s]
          exact h _ (cc_L c) ((m.sk (by omega)).sk (by omega))
      · intro S Q c m h
        have c6 := m.2.2.2.2.2.1
        refine wi_t (a := 32) (b := 126) rfl h1 h2 (by omega) (ne_t n10 (ne_t ?_ ⟨?_, fun S1 e1 S2 e2 => ?_⟩))
        · rw [c6, show (110 : Int32) = nI 110 from rfl]; exact fun e => hp (ni_inj (by omega) (by omega) e)
        · rw [c6]; exact vp_in_nI hp2 (by decide)
        · rw [c6, nI_clamp (by omega)] at e1
          rw [e1, cI_n (by omega), c6, nI_1] at e2
          rw [e2, cI_s, upd_s]
          exact h _ ((c.sk (by omega)).sk (by omega)) (cm_L m)
  · refine op_err hw (-102) (fun S Q c m h => ?_) (fun S Q m c h => ?_)
    · refine ⟨fun _ => h, fun h0 => ⟨fun h1 => ?_, fun _ => h⟩⟩
      exfalso
      have h2 : ¬ x < 0 := by
        intro q; apply h0
        rw [Int32.lt_iff_toInt_lt] at q ⊢
        rw [show (32 : Int32).toInt = 32 from rfl]; rw [Int32.toInt_zero] at q; omega
      obtain ⟨j, hj, rfl⟩ := nI_of h2
      rw [show (32 : Int32) = nI 32 from rfl, nI_ltI hj (by omega)] at h0
      rw [show (126 : Int32) = nI 126 from rfl, nI_leI hj (by omega)] at h1
      exact hx j (by omega) h1 rfl
    · exact wi_f (a := 32) (b := 126) (by omega) (by omega) hx (ne_f rfl h)
theorem isK_t {k : Nat} {S : St} {Q : Int32 → St → Prop} (hk : k ≤ 2) (h : Q 1 S) : p_X6_isKind (nI k) S Q := by
  refine br_f (ni_nneg (by omega)) (br_f ?_ h)
  rw [show (2 : Int32) = nI 2 from rfl, ni_lt (by omega) (by omega)]; omega
theorem isK_f {x : Int32} {S : St} {Q : Int32 → St → Prop} (hx : ∀ k, 0 ≤ k → k ≤ 2 → x ≠ nI k) (h : Q 0 S) : p_X6_isKind x S Q := by
  refine ⟨fun _ => h, fun h0 => ⟨fun _ => h, fun h1 => ?_⟩⟩
  exfalso
  obtain ⟨j, hj, rfl⟩ := nI_of h0
  rw [show (2 : Int32) = nI 2 from rfl, nI_ltI (by omega) hj] at h1
  exact hx j (Nat.zero_le j) (by omega) rfl
theorem ok_as (x y : Int32) : OpOK (p_X6_as x y) (p_X7_as x y) := by
  intro g hw
  have h9 := hw.1
  rcases rg_split x (gN g) with ⟨p, hp, rfl⟩ | hx
  · rcases wi_split y 0 2 with ⟨k, -, h2, rfl⟩ | hy
    · have hk := hw.2.2.2.1 p hp
      refine op_err hw (if k = 0 ∨ k = gK g p then nI (gK g p) else -1) (fun S Q c m h => ?_) (fun S Q m c h => ?_)
      · refine has_t c.1 h9 hp (ne_t n10 (isK_t h2 (ne_t n10 ⟨vp_in_nI (by omega) (by decide), ?_⟩)))
        rw [nI_clamp (by omega), c.2.2.1 p hp]
        refine ⟨fun e => ?_, fun n0 => ⟨fun e => ?_, fun e => ?_⟩⟩
        · have : k = 0 := ni_inj (by omega) (by omega) e
          rw [if_pos (Or.inl this)] at h; exact h
        · rw [if_neg] at h
          · exact h
          · rintro (q | q)
            · rw [q] at n0; exact n0 rfl
            · rw [q] at e; exact e rfl
        · have : k = gK g p := ni_inj (by omega) (by omega) e
          rw [if_pos (Or.inr this)] at h; exact h
      · refine isP_t m.1 h9 hp (ne_t n10 (wi_t (a := 0) (b := 2) rfl (by omega) h2 (by omega) (ne_t n10 ?_)))
        have fin : (k = 0 ∨ k = gK g p) → p_X7_as_37 Q (nI p) S := fun q => ⟨vp_in_nI (by omega) (by decide), by rw [nI_clamp (by omega), m.2.2.1 p hp]; rw [if_pos q] at h; exact h⟩
        refine ⟨fun e => fin (Or.inl (ni_inj (by omega) (by omega) e)), fun n0 => ⟨vp_in_nI (by omega) (by decide), ?_⟩⟩
        rw [nI_clamp (by omega), m.2.2.1 p hp]
        refine ⟨fun e => ?_, fun e => fin (Or.inr (ni_inj (by omega) (by omega) e))⟩
        rw [if_neg] at h
        · exact h
        · rintro (q | q)
          · rw [q] at n0; exact n0 rfl
          · rw [q] at e; exact e rfl
    · exact op_err hw (-102) (fun S Q c m h => has_t c.1 h9 hp (ne_t n10 (isK_f hy (ne_f rfl h)))) (fun S Q m c h => isP_t m.1 h9 hp (ne_t n10 (wi_f (a := 0) (b := 2) (by omega) (by omega) hy (ne_f rfl h))))
  · exact op_err hw (-101) (fun S Q c m h => has_f c.1 h9 hx (ne_f rfl h)) (fun S Q m c h => isP_f m.1 h9 hx (ne_f rfl h))
theorem ct_set {n p t : Nat} {kd : Nat → Nat} (hp : p < n) : fb_ct (knd (fun q => if q = p then t else kd q) 1) n + (if kd p = 1 then 1 else 0) = fb_ct (knd kd 1) n + (if t = 1 then 1 else 0) := by
  have h := fb_ct_upd (knd kd 1) (t == 1) hp
  have e : fb_ct (knd (fun q => if q = p then t else kd q) 1) n = fb_ct (fun k => if k = p then (t == 1) else knd kd 1 k) n := fb_ct_cong (fun k _ => by
    unfold knd
    by_cases c : k = p <;> simp [c])
  rw [e]
  have e2 : (if knd kd 1 p = true then 1 else 0) = (if kd p = 1 then 1 else 0) := by unfold knd; by_cases c : kd p = 1 <;> simp [c]
  have e3 : (if (t == 1) = true then 1 else 0) = (if t = 1 then 1 else 0) := by by_cases c : t = 1 <;> simp [c]
  rw [e2, e3] at h
  exact h
theorem ok_kind (x y : Int32) : OpOK (p_X6_kind x y) (p_X7_kind x y) := by
  intro g hw
  have h9 := hw.1
  rcases rg_split x (gN g) with ⟨p, hp, rfl⟩ | hx
  · rcases wi_split y 0 2 with ⟨k, -, h2, rfl⟩ | hy
    · have hk := hw.2.2.2.1 p hp
      have hs := hw.2.2.2.2.2.2.1
      have hse := crd_mkm h9 (knd (gK g) 1)
      by_cases full : k = 1 ∧ gK g p ≠ 1 ∧ crd (mkm (gN g) (knd (gK g) 1)) = 5
      · obtain ⟨rfl, f2, f3⟩ := full
        refine op_err hw (-104) (fun S Q c m h => ?_) (fun S Q m c h => ?_)
        · refine has_t c.1 h9 hp (ne_t n10 (isK_t h2 (ne_t n10 ⟨vp_in_nI (by omega) (by decide), ne_f rfl (br_f ?_ ?_)⟩)))
          · rw [nI_clamp (by omega), c.2.2.1 p hp]; exact fun e => f2 (ni_inj (by omega) (by omega) e)
          · refine ofK_s (t := 1) c.1 h9 (fun q hq => ⟨c.2.2.1 q hq, hw.2.2.2.1 q hq⟩) (by omega) (bc_s (lt_512 (mkm_lt _ _) h9) (br_f ?_ h))
            rw [f3]; decide
        · refine isP_t m.1 h9 hp (ne_t n10 (wi_t (a := 0) (b := 2) rfl (by omega) h2 (by omega) (ne_t n10 ⟨vp_in_nI (by omega) (by decide), ne_f rfl (br_f ?_ ?_)⟩)))
          · rw [nI_clamp (by omega), m.2.2.1 p hp]; exact fun e => f2 (ni_inj (by omega) (by omega) e)
          · refine ofKM_s (t := 1) m.1 h9 (fun q hq => ⟨m.2.2.1 q hq, hw.2.2.2.1 q hq⟩) (by omega) (size_s (by have := lt_512 (mkm_lt (knd (gK g) 1) (gN g)) h9; omega) (ne_f ?_ h))
            rw [f3]; rfl
      · have hwf : WFg (gsK g p k) := by
          refine ⟨hw.1, hw.2.1, hw.2.2.1, fun q hq => ?_, hw.2.2.2.2.1, hw.2.2.2.2.2.1, ?_, hw.2.2.2.2.2.2.2⟩
          · show (if q = p then k else gK g q) ≤ 2
            split
            · exact h2
            · exact hw.2.2.2.1 q hq
          · show crd (mkm (gN g) (knd (fun q => if q = p then k else gK g q) 1)) ≤ 5
            rw [crd_mkm h9]
            have h := ct_set (t := k) (kd := gK g) hp
            rw [← hse] at h
            by_cases e1 : k = 1
            · by_cases e2 : gK g p = 1
              · rw [if_pos e1, if_pos e2] at h; omega
              · rw [if_pos e1, if_neg e2] at h
                have : crd (mkm (gN g) (knd (gK g) 1)) ≠ 5 := fun q => full ⟨e1, e2, q⟩
                omega
            · rw [if_neg e1] at h; omega
        refine ⟨nI (gK g p), gsK g p k, hwf, fun S Q c m h => ?_, fun S Q c m h => ?_⟩
        · have fin : p_X6_kind_62 Q (nI p) (nI k) (S.1 4 p) S := ⟨vp_in_nI (by omega) (by decide), fun S1 e1 => by
            rw [c.2.2.1 p hp]; subst e1; rw [nI_clamp (by omega)]; exact h _ (cc_K c) (m.sk (by omega))⟩
          refine has_t c.1 h9 hp (ne_t n10 (isK_t h2 (ne_t n10 ⟨vp_in_nI (by omega) (by decide), ?_⟩)))
          rw [nI_clamp (by omega)]
          refine ⟨fun _ => fin, fun e1 => ⟨fun _ => fin, fun e2 => ?_⟩⟩
          refine ofK_s (t := 1) c.1 h9 (fun q hq => ⟨c.2.2.1 q hq, hw.2.2.2.1 q hq⟩) (by omega) (bc_s (lt_512 (mkm_lt _ _) h9) (br_t ?_ fin))
          rw [show (5 : Int32) = nI 5 from rfl, ni_lt (by omega) (by omega)]
          have : crd (mkm (gN g) (knd (gK g) 1)) ≠ 5 := fun q => full ⟨ni_inj (by omega) (by omega) e1, fun z => e2 (by rw [c.2.2.1 p hp, z]; rfl), q⟩
          omega
        · have fin : p_X7_kind_55 Q (nI p) (nI k) (S.1 26 p) S := ⟨vp_in_nI (by omega) (by decide), fun S1 e1 => by
            rw [m.2.2.1 p hp]; subst e1; rw [nI_clamp (by omega)]; exact h _ (c.sk (by omega)) (cm_K m)⟩
          refine isP_t m.1 h9 hp (ne_t n10 (wi_t (a := 0) (b := 2) rfl (by omega) h2 (by omega) (ne_t n10 ⟨vp_in_nI (by omega) (by decide), ?_⟩)))
          rw [nI_clamp (by omega)]
          refine ⟨fun _ => fin, fun e1 => ⟨fun _ => fin, fun e2 => ?_⟩⟩
          refine ofKM_s (t := 1) m.1 h9 (fun q hq => ⟨m.2.2.1 q hq, hw.2.2.2.1 q hq⟩) (by omega) (size_s (by have := lt_512 (mkm_lt (knd (gK g) 1) (gN g)) h9; omega) (ne_t ?_ fin))
          intro e3
          exact full ⟨ni_inj (by omega) (by omega) e1, fun z => e2 (by rw [m.2.2.1 p hp, z]; rfl), ni_inj (by omega) (by omega) e3⟩
    · exact op_err hw (-102) (fun S Q c m h => has_t c.1 h9 hp (ne_t n10 (isK_f hy (ne_f rfl h)))) (fun S Q m c h => isP_t m.1 h9 hp (ne_t n10 (wi_f (a := 0) (b := 2) (by omega) (by omega) hy (ne_f rfl h))))
  · exact op_err hw (-101) (fun S Q c m h => has_f c.1 h9 hx (ne_f rfl h)) (fun S Q m c h => isP_f m.1 h9 hx (ne_f rfl h))
theorem wf_V {g : Gp} {p m : Nat} (hw : WFg g) (h : m < 2 ^ gN g ∧ crd m ≤ 5 ∧ m.testBit p = false) : WFg (gsV g p m) := by
  refine ⟨hw.1, hw.2.1, hw.2.2.1, hw.2.2.2.1, fun q hq => ?_, hw.2.2.2.2.2.1, hw.2.2.2.2.2.2.1, hw.2.2.2.2.2.2.2⟩
  show (if q = p then m else gV g q) < 2 ^ gN g ∧ crd (if q = p then m else gV g q) ≤ 5 ∧ (if q = p then m else gV g q).testBit q = false
  by_cases e : q = p
  · subst e; rw [if_pos rfl]; exact h
  · rw [if_neg e]; exact hw.2.2.2.2.1 q hq
theorem ok_vouch (x y : Int32) : OpOK (p_X6_vouch x y) (p_X7_vouch x y) := by
  intro g hw
  have h9 := hw.1
  rcases pr_split x y (gN g) with ⟨p, q, hp, hq, hpq, rfl, rfl⟩ | hx
  · have hv := hw.v512 hp
    obtain ⟨v1, v2, v3⟩ := hw.2.2.2.2.1 p hp
    by_cases hb : (gV g p).testBit q = true
    · refine op_err hw (-103) (fun S Q c m h => ?_) (fun S Q m c h => ?_)
      · refine pair_t c.1 h9 hp hq hpq (ne_t n10 (hasV (by omega) (by omega) (c.2.2.2.1 p hp) hv ?_))
        rw [b1_t hb]; exact br_f (by decide) h
      · refine two_t m.1 h9 hp hq hpq (ne_t n10 ⟨vp_in_nI (by omega) (by decide), ?_⟩)
        rw [nI_clamp (by omega), m.2.2.2.1 p hp]
        exact hasM_t (by omega) (by omega) hb (br_f n10 h)
    · have hb' := bool_f hb
      by_cases hf : crd (gV g p) = 5
      · refine op_err hw (-104) (fun S Q c m h => ?_) (fun S Q m c h => ?_)
        · refine pair_t c.1 h9 hp hq hpq (ne_t n10 (hasV (by omega) (by omega) (c.2.2.2.1 p hp) hv ?_))
          rw [b1_f hb']
          refine br_t rfl ⟨vp_in_nI (by omega) (by decide), ?_⟩
          rw [nI_clamp (by omega), c.2.2.2.1 p hp]
          refine bc_s hv (br_f ?_ h)
          rw [hf]; decide
        · refine two_t m.1 h9 hp hq hpq (ne_t n10 ⟨vp_in_nI (by omega) (by decide), ?_⟩)
          rw [nI_clamp (by omega), m.2.2.2.1 p hp]
          refine hasM_f (by omega) (by omega) hb' (br_t rfl ⟨vp_in_nI (by omega) (by decide), ?_⟩)
          rw [m.2.2.2.1 p hp]
          refine size_s (by omega) (ne_f ?_ h)
          rw [hf]; rfl
      · have hn : gV g p ||| 2 ^ q < 2 ^ gN g := Nat.or_lt_two_pow v1 (Nat.pow_lt_pow_right (by omega) hq)
        have hwf : WFg (gsA (gsV g p (gV g p ||| 2 ^ q)) (gA g + 1)) := wf_V hw ⟨hn, by rw [crd_or (by omega) hb']; omega, by rw [fb_bit_set, v3]; simp [hpq]⟩
        refine ⟨nI (crd (gV g p) + 1), gsA (gsV g p (gV g p ||| 2 ^ q)) (gA g + 1), hwf, fun S Q c m h => ?_, fun S Q c m h => ?_⟩
        · refine pair_t c.1 h9 hp hq hpq (ne_t n10 (hasV (by omega) (by omega) (c.2.2.2.1 p hp) hv ?_))
          rw [b1_f hb']
          refine br_t rfl ⟨vp_in_nI (by omega) (by decide), ?_⟩
          rw [nI_clamp (by omega), c.2.2.2.1 p hp]
          refine bc_s hv (br_t ?_ ⟨vp_in_nI (by omega) (by decide), vp_in_nI (by omega) (by decide), fun S1 e1 S2 e2 => ?_⟩)
          · rw [show (5 : Int32) = nI 5 from rfl, ni_lt (by omega) (by omega)]; omega
          · rw [c.2.2.2.1 p hp, ni_shl1 q (by omega), fa_or] at e1
            rw [nI_1]
            subst e1
            have hc := cc_V (p := p) (t := gV g p ||| 2 ^ q) c
            rw [hc.2.2.2.2.2.2.2.2.1] at e2
            subst e2
            exact h _ (cc_A hc) ((m.sk (by omega)).sk (by omega))
        · refine two_t m.1 h9 hp hq hpq (ne_t n10 ⟨vp_in_nI (by omega) (by decide), ?_⟩)
          rw [nI_clamp (by omega), m.2.2.2.1 p hp]
          refine hasM_f (by omega) (by omega) hb' (br_t rfl ⟨vp_in_nI (by omega) (by decide), ?_⟩)
          rw [m.2.2.2.1 p hp]
          refine size_s (by omega) (ne_t ?_ ⟨vp_in_nI (by omega) (by decide), vp_in_nI (by omega) (by decide), fun S1 e1 S2 e2 => ⟨vp_in_nI (by omega) (by decide), ?_⟩⟩)
          · exact fun e => hf (ni_inj (by omega) (by omega) e)
          · rw [m.2.2.2.1 p hp, ni_shl1 q (by omega), fa_or] at e1
            subst e1
            have hc := cm_V (p := p) (t := gV g p ||| 2 ^ q) m
            rw [hc.2.2.2.2.2.2.2.2.1] at e2
            subst e2
            have hd := cm_A (v := gA g + 1) hc
            rw [show (si (si S 27 p (nI (gV g p ||| 2 ^ q))) 25 6 (gA (gsV g p (gV g p ||| 2 ^ q)) + 1)).1 27 p = nI (gV g p ||| 2 ^ q) from by rw [cI_n (by omega), cI_s, upd_s]]
            refine size_s (by have := lt_512 hn h9; omega) ?_
            rw [crd_or (by omega) hb']
            exact h _ ((c.sk (by omega)).sk (by omega)) hd
  · exact op_err hw (-101) (fun S Q c m h => pair_f c.1 h9 hx (ne_f rfl h)) (fun S Q m c h => two_f m.1 h9 hx (ne_f rfl h))
theorem ok_recall (x y : Int32) : OpOK (p_X6_recall x y) (p_X7_recall x y) := by
  intro g hw
  have h9 := hw.1
  rcases pr_split x y (gN g) with ⟨p, q, hp, hq, hpq, rfl, rfl⟩ | hx
  · have hv := hw.v512 hp
    obtain ⟨v1, v2, v3⟩ := hw.2.2.2.2.1 p hp
    by_cases hb : (gV g p).testBit q = true
    · have hn : df (gV g p) (2 ^ q) < 2 ^ gN g := df_lt v1
      have hwf : WFg (gsR (gsV g p (df (gV g p) (2 ^ q))) (gR g + 1)) := wf_V hw ⟨hn, Nat.le_trans (crd_df (by omega)) v2, by rw [df_tb (by omega), v3]; rfl⟩
      refine ⟨nI (crd (df (gV g p) (2 ^ q))), gsR (gsV g p (df (gV g p) (2 ^ q))) (gR g + 1), hwf, fun S Q c m h => ?_, fun S Q c m h => ?_⟩
      · refine pair_t c.1 h9 hp hq hpq (ne_t n10 (hasV (by omega) (by omega) (c.2.2.2.1 p hp) hv ?_))
        rw [b1_t hb]
        refine ne_t (by decide) ⟨vp_in_nI (by omega) (by decide), vp_in_nI (by omega) (by decide), fun S1 e1 S2 e2 => ⟨vp_in_nI (by omega) (by decide), ?_⟩⟩
        rw [nI_clamp (by omega)] at e1 ⊢
        rw [c.2.2.2.1 p hp, ni_shl1 q (by omega), ni_df] at e1
        subst e1
        have hc := cc_V (p := p) (t := df (gV g p) (2 ^ q)) c
        rw [hc.2.2.2.2.2.2.2.2.2] at e2
        subst e2
        have hd := cc_R (v := gR g + 1) hc
        rw [show (si (si S 5 p (nI (df (gV g p) (2 ^ q)))) 0 10 (gR (gsV g p (df (gV g p) (2 ^ q))) + 1)).1 5 p = nI (df (gV g p) (2 ^ q)) from by rw [cI_n (by omega), cI_s, upd_s]]
        exact bc_s (lt_512 hn h9) (h _ hd ((m.sk (by omega)).sk (by omega)))
      · refine two_t m.1 h9 hp hq hpq (ne_t n10 ⟨vp_in_nI (by omega) (by decide), ?_⟩)
        rw [nI_clamp (by omega), m.2.2.2.1 p hp]
        refine hasM_t (by omega) (by omega) hb (ne_t n10 ⟨vp_in_nI (by omega) (by decide), vp_in_nI (by omega) (by decide), fun S1 e1 S2 e2 => ⟨vp_in_nI (by omega) (by decide), ?_⟩⟩)
        rw [m.2.2.2.1 p hp, ni_shl1 q (by omega), ni_df] at e1
        subst e1
        have hc := cm_V (p := p) (t := df (gV g p) (2 ^ q)) m
        rw [hc.2.2.2.2.2.2.2.2.2] at e2
        subst e2
        have hd := cm_R (v := gR g + 1) hc
        rw [show (si (si S 27 p (nI (df (gV g p) (2 ^ q)))) 25 7 (gR (gsV g p (df (gV g p) (2 ^ q))) + 1)).1 27 p = nI (df (gV g p) (2 ^ q)) from by rw [cI_n (by omega), cI_s, upd_s]]
        exact size_s (by have := lt_512 hn h9; omega) (h _ ((c.sk (by omega)).sk (by omega)) hd)
    · have hb' := bool_f hb
      refine op_err hw (-103) (fun S Q c m h => ?_) (fun S Q m c h => ?_)
      · refine pair_t c.1 h9 hp hq hpq (ne_t n10 (hasV (by omega) (by omega) (c.2.2.2.1 p hp) hv ?_))
        rw [b1_f hb']; exact ne_f rfl h
      · refine two_t m.1 h9 hp hq hpq (ne_t n10 ⟨vp_in_nI (by omega) (by decide), ?_⟩)
        rw [nI_clamp (by omega), m.2.2.2.1 p hp]
        exact hasM_f (by omega) (by omega) hb' (ne_f rfl h)
  · exact op_err hw (-101) (fun S Q c m h => pair_f c.1 h9 hx (ne_f rfl h)) (fun S Q m c h => two_f m.1 h9 hx (ne_f rfl h))
theorem ok_bound (x y : Int32) : OpOK (p_X6_bound x y) (p_X7_bound x y) := by
  intro g hw
  have h9 := hw.1
  have h5 := hw.2.1
  rcases rg_split x (gB g) with ⟨p, hp, rfl⟩ | hx
  · have hN : 0 < gN g := by
      rcases Nat.eq_zero_or_pos (gN g) with z | z
      · have := hw.2.2.1 z; omega
      · exact z
    have a1 : ¬ nI p < 0 := ni_nneg (by omega)
    have a2 : ∀ S : St, CC S g → nI p < S.1 2 1 := fun S c => by rw [c.2.1, ni_lt (by omega) (by omega)]; exact hp
    have a3 : ∀ (S : St) (Q : Int32 → St → Prop), CM S g → Q 1 S → p_X7_within (nI p) 0 (S.1 25 3 - 1) S Q := fun S Q m h => by
      rw [m.2.1, ni_pred (by omega)]
      exact wi_t (a := 0) rfl (by omega) (by omega) (by omega) h
    rcases wi_split y 0 9 with ⟨k, -, h2, rfl⟩ | hy
    · refine ⟨nI (gD g p), gsD g p k, ⟨hw.1, hw.2.1, hw.2.2.1, hw.2.2.2.1, hw.2.2.2.2.1, fun q hq => ?_, hw.2.2.2.2.2.2.1, hw.2.2.2.2.2.2.2⟩, fun S Q c m h => ?_, fun S Q c m h => ?_⟩
      · show (if q = p then k else gD g q) ≤ 9
        split
        · exact h2
        · exact hw.2.2.2.2.2.1 q hq
      · refine br_f a1 (br_t (a2 S c) (br_f (ni_nneg (by omega)) (br_t ?_ ⟨vp_in_nI (by omega) (by decide), vp_in_nI (by omega) (by decide), fun S1 e1 => ?_⟩)))
        · rw [show (9 : Int32) = nI 9 from rfl, ni_le (by omega) (by omega)]; exact h2
        · rw [nI_clamp (by omega)] at e1 ⊢
          rw [c.2.2.2.2.1 p hp]
          subst e1
          exact h _ (cc_D c) (m.sk (by omega))
      · refine isC_t m.1 h9 hN (br_f n10 (a3 S _ m (ne_t n10 (wi_t (a := 0) (b := 9) rfl (by omega) h2 (by omega) (ne_t n10 ⟨vp_in_nI (by omega) (by decide), vp_in_nI (by omega) (by decide), fun S1 e1 => ?_⟩)))))
        rw [nI_clamp (by omega)] at e1 ⊢
        rw [m.2.2.2.2.1 p hp]
        subst e1
        exact h _ (c.sk (by omega)) (cm_D m)
    · refine op_err hw (-102) (fun S Q c m h => ?_) (fun S Q m c h => ?_)
      · refine br_f a1 (br_t (a2 S c) ⟨fun _ => h, fun h0 => ⟨fun h1 => ?_, fun _ => h⟩⟩)
        exfalso
        obtain ⟨j, hj, rfl⟩ := nI_of h0
        rw [show (9 : Int32) = nI 9 from rfl, nI_leI hj (by omega)] at h1
        exact hy j (Nat.zero_le j) h1 rfl
      · exact isC_t m.1 h9 hN (br_f n10 (a3 S _ m (ne_t n10 (wi_f (a := 0) (b := 9) (by omega) (by omega) hy (ne_f rfl h)))))
  · refine op_err hw (-101) (fun S Q c m h => ?_) (fun S Q m c h => ?_)
    · refine ⟨fun _ => h, fun h0 => ⟨fun h1 => ?_, fun _ => h⟩⟩
      exfalso
      obtain ⟨j, hj, rfl⟩ := nI_of h0
      rw [c.2.1, nI_ltI hj (by omega)] at h1
      exact hx j h1 rfl
    · by_cases z : gN g = 0
      · refine isC_f (by rw [m.1, z]) (br_t rfl h)
      · refine isC_t m.1 h9 (by omega) (br_f n10 ?_)
        rw [m.2.1]
        by_cases zb : gB g = 0
        · rw [zb]
          refine ⟨fun _ => ne_f rfl h, fun h0 => ⟨fun _ => ne_f rfl h, fun h1 => ?_⟩⟩
          exfalso
          apply h1
          obtain ⟨j, hj, rfl⟩ := nI_of h0
          rw [Int32.lt_iff_toInt_lt, nI_toInt hj, show (nI 0 - 1 : Int32).toInt = -1 from by decide +kernel]
          omega
        · rw [ni_pred (by omega)]
          exact wi_f (a := 0) (by omega) (by omega) (fun k _ hk => hx k (by omega)) (ne_f rfl h)
