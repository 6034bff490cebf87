/-! ===== who is reached without some persons ===== -/
def vx (g : Gp) (X : Nat) : Nat → Nat := fun p => df (gV g p) X
def sx (g : Gp) (X : Nat) : Nat := df (sdm g) X
def rwx (g : Gp) (X l : Nat) : Nat := met (gN g) (sx g X) (vx g X) l
theorem vx_lt {g : Gp} (hw : WFg g) (X : Nat) : ∀ p, p < gN g → vx g X p < 2 ^ gN g := fun p hp => df_lt (hw.vl p hp)
theorem sx_lt {g : Gp} (hw : WFg g) (X : Nat) : sx g X < 2 ^ gN g := df_lt hw.sd
theorem vbm_df {g : Gp} (hw : WFg g) (X s : Nat) : df (vbm (gV g) s (gN g)) X = vbm (vx g X) s (gN g) := tb_ext (fun q => by
  rw [df_tb (pw32 hw.1 (vbm_lt hw.vl)), Bool.eq_iff_iff, Bool.and_eq_true, vbm_tb, vbm_tb]
  constructor
  · rintro ⟨⟨p, p1, p2, p3⟩, hX⟩
    exact ⟨p, p1, p2, by unfold vx; rw [df_tb (pw32 hw.1 (hw.vl p p1)), p3, hX]; rfl⟩
  · rintro ⟨p, p1, p2, p3⟩
    unfold vx at p3
    rw [df_tb (pw32 hw.1 (hw.vl p p1)), Bool.and_eq_true] at p3
    exact ⟨⟨p, p1, p2, p3.1⟩, p3.2⟩)
theorem met_stop {n sd : Nat} {vz : Nat → Nat} (hn : n ≤ 9) (hv : ∀ p, p < n → vz p < 2 ^ n) {l : Nat} (h : frn n sd vz l = 0) : ∀ d, met n sd vz (l + d) = met n sd vz l
  | 0 => rfl
  | d + 1 => by
    rw [show l + (d + 1) = l + d + 1 by omega, met_succ hn hv, show l + d + 1 = l + (d + 1) by omega, frn_stop hn hv h (d + 1), Nat.or_zero]
    exact met_stop hn hv h d
theorem rw_s {S : St} {g : Gp} {X : Nat} {Q : Int32 → St → Prop} (hw : WFg g) (b : WB0 S g) (hq : Q (nI (rwx g X (gN g))) S) : p_X4_reachedWithout (nI X) S Q := by
  have h9 := hw.1
  have hv := vx_lt hw X
  have hs := sx_lt hw X
  have mlt := met_lt hs hv
  have flt := frn_lt hs hv
  unfold p_X4_reachedWithout
  rw [b.2.1, ni_df]
  refine Lq_cnt (gN g) (fun i => (nI X, nI (rwx g X i), nI (frn (gN g) (sx g X) (vx g X) i), nI i, S)) (fun i hi K hK => ?_) (fun K => ?_)
  · refine br_f (by rw [b.1, ni_le (by omega) (by omega)]; omega) ?_
    have f5 := lt_512 (flt i) h9
    by_cases hz : frn (gN g) (sx g X) (vx g X) i = 0
    · refine br_t (by rw [hz]; rfl) ?_
      have e := met_stop (sd := sx g X) h9 hv hz (gN g - i)
      rw [show i + (gN g - i) = gN g by omega] at e
      unfold rwx at hq ⊢
      rw [e] at hq; exact hq
    · refine br_f (fun e => hz (ni_inj (b := 0) (by omega) (by omega) e)) (vb_s h9 f5 b ?_)
      rw [ni_df, ni_df, vbm_df hw, nI_1]
      have e1 : df (vbm (vx g X) (frn (gN g) (sx g X) (vx g X) i) (gN g)) (rwx g X i) = frn (gN g) (sx g X) (vx g X) (i + 1) := (frn_by_front h9 hv i).symm
      rw [e1, fa_or]
      have e2 : rwx g X i ||| frn (gN g) (sx g X) (vx g X) (i + 1) = rwx g X (i + 1) := (met_succ h9 hv i).symm
      rw [e2]; exact hK
  · exact br_t (by rw [b.1, ni_le (by omega) (by omega)]; omega) hq
theorem led_s {S : St} {g : Gp} {X p : Nat} {Q : Int32 → St → Prop} (hw : WFg g) (c : CM S g) (hp : p < gN g) (hq : Q (if (rwx g X (gN g)).testBit p = true then 1 else 0) S) : p_X7_isLed (nI p) (nI X) S Q := by
  have h9 := hw.1
  have hv := vx_lt hw X
  have hs := sx_lt hw X
  have mlt := met_lt hs hv
  refine sds_m hw c ?_
  rw [ni_df]
  refine Lq_cnt (gN g) (fun i => (nI p, nI X, nI (rwx g X i), nI i, S)) (fun i hi K hK => ?_) (fun K => ?_)
  · refine br_f (by rw [c.1, ni_le (by omega) (by omega)]; omega) (vbM_s h9 (lt_512 (mlt i) h9) c ?_)
    have e1 : df (vbm (gV g) (met (gN g) (sx g X) (vx g X) i) (gN g)) X = vbm (vx g X) (met (gN g) (sx g X) (vx g X) i) (gN g) := vbm_df hw X _
    rw [ni_df, nI_1]
    show K (nI p, nI X, nI (met (gN g) (sx g X) (vx g X) i) ||| nI (df (vbm (gV g) (met (gN g) (sx g X) (vx g X) i) (gN g)) X), nI (i + 1), S)
    rw [e1, fa_or]; exact hK
  · have m5 := lt_512 (mlt (gN g)) h9
    refine br_t (by rw [c.1, ni_le (by omega) (by omega)]; omega) ?_
    show p_X7_has (nI (rwx g X (gN g))) (nI p) S _
    have m5' : rwx g X (gN g) < 512 := m5
    by_cases hb : (rwx g X (gN g)).testBit p = true
    · rw [if_pos hb] at hq
      exact hasM_t (by omega) (by omega) hb ⟨Or.inr rfl, hq⟩
    · rw [if_neg hb] at hq
      exact hasM_f (by omega) (by omega) (bool_f hb) ⟨Or.inl rfl, hq⟩
/-- X parts p -/
def prt (g : Gp) (p X : Nat) : Bool := !X.testBit p && !(rwx g X (gN g)).testBit p
theorem rwx_ns {g : Gp} (hw : WFg g) {X q : Nat} (h : (rwx g X (gN g)).testBit q = true) : X.testBit q = false := by
  have : ∀ l, (rwx g X l).testBit q = true → X.testBit q = false := by
    intro l
    induction l with
    | zero =>
      intro h
      have h' : (sx g X).testBit q = true := h
      unfold sx at h'
      rw [df_tb (pw32 hw.1 hw.sd), Bool.and_eq_true] at h'
      simpa using h'.2
    | succ l ih =>
      intro h
      have h' : (met (gN g) (sx g X) (vx g X) l ||| vbm (vx g X) (met (gN g) (sx g X) (vx g X) l) (gN g)).testBit q = true := h
      rw [Nat.testBit_or, Bool.or_eq_true] at h'
      rcases h' with z | z
      · exact ih z
      · obtain ⟨p, p1, p2, p3⟩ := (vbm_tb _ _ _ _).mp z
        unfold vx at p3
        rw [df_tb (pw32 hw.1 (hw.vl p p1)), Bool.and_eq_true] at p3
        simpa using p3.2
  exact this _ h
/-- the reached set is closed: its wall lies in X -/
theorem rwx_wall {g : Gp} (hw : WFg g) {X q : Nat} (h : (wl g (rwx g X (gN g))).testBit q = true) : X.testBit q = true := by
  have h9 := hw.1
  have hv := vx_lt hw X
  rw [wal_tb h9 hw.sd hw.vl, Bool.and_eq_true, Bool.or_eq_true] at h
  refine bool_t (fun hX => ?_)
  have hn : (rwx g X (gN g)).testBit q = false := by simpa using h.2
  have z := frn_n (sd := sx g X) h9 (sx_lt hw X) hv
  have e1 : met (gN g) (sx g X) (vx g X) (gN g + 1) = met (gN g) (sx g X) (vx g X) (gN g) := met_stop h9 hv z 1
  have e2 : met (gN g) (sx g X) (vx g X) (gN g) ||| vbm (vx g X) (met (gN g) (sx g X) (vx g X) (gN g)) (gN g) = met (gN g) (sx g X) (vx g X) (gN g) := e1
  rcases h.1 with y | y
  · have : ∀ l, (rwx g X l).testBit q = true := by
      intro l
      induction l with
      | zero =>
        show (sx g X).testBit q = true
        unfold sx
        rw [df_tb (pw32 h9 hw.sd), y, hX]; rfl
      | succ l ih =>
        show (met (gN g) (sx g X) (vx g X) l ||| vbm (vx g X) (met (gN g) (sx g X) (vx g X) l) (gN g)).testBit q = true
        rw [Nat.testBit_or]
        have ih' : (met (gN g) (sx g X) (vx g X) l).testBit q = true := ih
        rw [ih']; rfl
    rw [this] at hn; cases hn
  · obtain ⟨p, p1, p2, p3⟩ := (vbm_tb _ _ _ _).mp y
    have h4 : (vbm (vx g X) (met (gN g) (sx g X) (vx g X) (gN g)) (gN g)).testBit q = true := (vbm_tb _ _ _ _).mpr ⟨p, p1, p2, by unfold vx; rw [df_tb (pw32 h9 (hw.vl p p1)), p3, hX]; rfl⟩
    have h5 : (met (gN g) (sx g X) (vx g X) (gN g)).testBit q = true := by rw [← e2, Nat.testBit_or, h4]; simp
    have h6 : (rwx g X (gN g)).testBit q = true := h5
    rw [h6] at hn; cases hn
/-- whoever is reached without the wall of R lies in R -/
theorem rwx_in {g : Gp} (hw : WFg g) {R q : Nat} (h : (rwx g (wl g R) (gN g)).testBit q = true) : R.testBit q = true := by
  have h9 := hw.1
  have : ∀ l q, (rwx g (wl g R) l).testBit q = true → R.testBit q = true := by
    intro l
    induction l with
    | zero =>
      intro q h
      have h' : (sx g (wl g R)).testBit q = true := h
      unfold sx at h'
      rw [df_tb (pw32 h9 hw.sd), wal_tb h9 hw.sd hw.vl] at h'
      refine bool_t (fun z => ?_)
      rw [z] at h'
      revert h'
      cases (sdm g).testBit q <;> simp
    | succ l ih =>
      intro q h
      have h' : (met (gN g) (sx g (wl g R)) (vx g (wl g R)) l ||| vbm (vx g (wl g R)) (met (gN g) (sx g (wl g R)) (vx g (wl g R)) l) (gN g)).testBit q = true := h
      rw [Nat.testBit_or, Bool.or_eq_true] at h'
      rcases h' with z | z
      · exact ih q z
      · obtain ⟨p, p1, p2, p3⟩ := (vbm_tb _ _ _ _).mp z
        have hRp := ih p p2
        unfold vx at p3
        rw [df_tb (pw32 h9 (hw.vl p p1)), wal_tb h9 hw.sd hw.vl, Bool.and_eq_true] at p3
        refine bool_t (fun y => ?_)
        have h4 : (vbm (gV g) R (gN g)).testBit q = true := (vbm_tb _ _ _ _).mpr ⟨p, p1, hRp, p3.1⟩
        have h5 := p3.2
        rw [h4, y] at h5
        simp at h5
  exact this _ _ h
