/-! ===== the disjoint ways ===== -/
def lim1 (p : Nat) : Nat → Nat := fun q => if q = p then 9 else 1
theorem lsm1 {n p s : Nat} (hn : n ≤ 9) (hs : s < 2 ^ n) (hp : s.testBit p = false) : lsm n (lim1 p) s = crd s := by
  have e := kept_crd (R := 0) hn hs
  have e0 : df s 0 = s := tb_ext (fun i => by rw [df_tb (pw32 hn hs), Nat.zero_testBit]; simp)
  rw [e0] at e
  rw [← e]
  refine fb_sm_cong (fun q hq => ?_)
  show (if s.testBit q = true then (if q = p then 9 else 1) else 0) = (if (0 : Nat).testBit q = true then 0 else b1 s q)
  rw [Nat.zero_testBit]
  by_cases hb : s.testBit q = true
  · have : q ≠ p := fun e => by rw [e, hp] at hb; cases hb
    rw [if_pos hb, if_neg this, if_neg (by decide), b1_t hb]
  · rw [if_neg hb, if_neg (by decide), b1_n hb]
theorem sm_one {n p i R : Nat} (hp : p < n) (hR : R.testBit p = false) : fb_sm (fun q => if R.testBit q = true then 0 else (if q = p then i else 0)) n = i := by
  have h1 := fb_sm_upd (fun _ => 0) i hp
  have h2 : fb_sm (fun _ => 0) n = 0 := sm_if0 (fun _ _ => rfl)
  have h3 : fb_sm (fun q => if R.testBit q = true then 0 else (if q = p then i else 0)) n = fb_sm (fun k => if k = p then i else (fun _ => 0) k) n := fb_sm_cong (fun q hq => by
    by_cases e : q = p
    · subst e; rw [hR]; simp
    · simp [e])
  have h1' : fb_sm (fun k => if k = p then i else (fun _ => 0) k) n + 0 = fb_sm (fun _ => 0) n + i := h1
  omega
theorem ways8 {n sd i p : Nat} {vz c : Nat → Nat} {a : Nat → Nat → Nat} (w : NW n sd vz (lim1 p)) (hp : p < n) (hs : sd.testBit p = false) (f : FV n sd vz (lim1 p) c a (fun q => if q = p then i else 0)) : i ≤ 8 := by
  have e1 := f.2.1 p hp
  have e1' : c p = (if p = p then i else 0) + fb_sm (a p) n := e1
  rw [if_pos rfl] at e1'
  have e2 := f.2.2.2.1 p hp hs
  have h1 := fb_sm_upd (fun _ => 1) 0 hp
  rw [fb_sm_const] at h1
  have h3 : fb_sm (fun b => a b p) n ≤ fb_sm (fun k => if k = p then 0 else (fun _ => 1) k) n := fb_sm_le (fun b hb => by
    show a b p ≤ if b = p then 0 else 1
    by_cases e : b = p
    · rw [if_pos e, e, f.aself w hp]; omega
    · rw [if_neg e]
      have q1 := sm_ge (f := a b) hp
      have q2 := f.2.1 b hb
      have q3 := f.1 b hb
      have q4 : lim1 p b = 1 := by unfold lim1; rw [if_neg e]
      omega)
  have := w.1
  have h1' : fb_sm (fun k => if k = p then 0 else (fun _ => 1) k) n + 1 = n * 1 + 0 := h1
  omega
theorem ways_s {S : St} {g : Gp} {p : Nat} {Q : Int32 → St → Prop} (hw : WFg g) (c : CC S g) (hp : p < gN g) (hk : gK g p ≠ 1)
    (hq : ∀ S1 W, W ≤ 8 → (∃ X, X < 2 ^ gN g ∧ prt g p X = true ∧ crd X = W) → (∀ X, X < 2 ^ gN g → prt g p X = true → W ≤ crd X) → WB0 S1 g → KC S S1 → Q (nI W) S1) : p_X6_waysTo (nI p) S Q := by
  have h9 := hw.1
  have hkp := hw.2.2.2.1 p hp
  have hsd : (sdm g).testBit p = false := by
    have : (mkm (gN g) (knd (gK g) 1)).testBit p = false := by
      rw [mkm_tb]; unfold knd; simp [hp, hk]
    exact this
  have w : NW (gN g) (sdm g) (gV g) (lim1 p) := ⟨h9, hw.sd, hw.nw.2.2.1, fun q _ => by unfold lim1; split <;> omega⟩
  refine ⟨vp_in_nI (by omega) (by decide), ne_t ?_ (copy_s hw c (fun S1 b1 k1 => fill_17 (fun S2 o2 _ v2 => ⟨vp_in_nI (by omega) (by decide), fun S3 e3 => ?_⟩)))⟩
  · rw [nI_clamp (by omega), c.2.2.1 p hp]
    exact lit_ne (b := 1) (by omega) (by omega) hk
  rw [nI_clamp (by omega)] at e3
  have o3 : ∀ z, z ≠ 17 → S3.1 z = S1.1 z := fun z hz => by rw [e3, cI_n hz, o2 z hz]
  refine fbegin_s (n := gN g) (sd := sdm g) (vz := gV g) (lim := lim1 p) h9 (by rw [o3 14 (by omega)]; exact b1.1) (by rw [o3 14 (by omega)]; exact b1.2.1) (fun q hq => by rw [o3 15 (by omega)]; exact b1.2.2 q hq) (fun q hq => ?_) (fun S4 f4 o4 => ?_)
  · rw [e3, si_r, if_pos rfl]
    show _ = nI (if q = p then 9 else 1)
    split
    · rfl
    · rw [v2 q (by omega)]; rfl
  · have z0 : FV (gN g) (sdm g) (gV g) (lim1 p) (fun _ => 0) (fun _ _ => 0) (fun q => if q = p then 0 else 0) := by
      have : (fun q => if q = p then 0 else 0) = fun _ : Nat => 0 := by funext q; split <;> rfl
      rw [this]; exact fv_zero _ _ _ _
    refine Lq_rel 9 (fun i t => ∃ S5 c5 a5, t = (nI p, nI i, nI i, S5) ∧ FS S5 (gN g) (sdm g) (gV g) (lim1 p) c5 a5 ∧ FV (gN g) (sdm g) (gV g) (lim1 p) c5 a5 (fun q => if q = p then i else 0) ∧ (∀ z, z ≠ 13 → (z < 18 ∨ 21 < z) → S5.1 z = S4.1 z)) ?_ ?_ 0 _ (by omega) ⟨S4, _, _, rfl, f4, z0, fun _ _ _ => rfl⟩
    · rintro i t hi ⟨S5, c5, a5, rfl, f5, v5, o5⟩ K hK
      refine br_f (by rw [show (9 : Int32) = nI 9 from rfl, ni_le (by omega) (by omega)]; omega) (send_s w v5 f5 hp (fun S6 c6 a6 f6 v6 o6 => ?_) (fun S6 I R hR hFC hRp f6 o6 => ?_))
      · refine br_f n10 ?_
        rw [nI_1]
        have e : (fun q => if q = p then (if q = p then i else 0) + 1 else (if q = p then i else 0)) = fun q => if q = p then i + 1 else 0 := by
          funext q; by_cases e : q = p
          · simp [e]
          · simp [e]
        exact hK _ ⟨S6, c6, a6, rfl, f6, by rw [← e]; exact v6, fun z y1 y2 => by rw [o6 z y1 y2, o5 z y1 y2]⟩
      · refine br_t rfl ?_
        have hi8 := ways8 w hp hsd v5
        have e := flow_eq h9 hw.sd hw.vl v5 hFC
        have e' : fb_sm (fun q => if R.testBit q = true then 0 else (if q = p then i else 0)) (gN g) = lsm (gN g) (lim1 p) (wl g R) := e
        rw [sm_one hp hRp] at e'
        have hwp : (wl g R).testBit p = false := bool_f (fun z => by
          have := sm_ge (f := fun q => if (wl g R).testBit q = true then lim1 p q else 0) hp
          have h2 : (if (wl g R).testBit p = true then lim1 p p else 0) ≤ lsm (gN g) (lim1 p) (wl g R) := this
          rw [if_pos z] at h2
          have h3 : lim1 p p = 9 := by unfold lim1; rw [if_pos rfl]
          omega)
        rw [lsm1 h9 (wl_lt hw R) hwp] at e'
        have oz : ∀ z, z ≠ 13 → (z < 17 ∨ 21 < z) → S6.1 z = S1.1 z := fun z y1 y2 => by rw [o6 z y1 (by omega), o5 z y1 (by omega), o4 z (by omega) (by omega), o3 z (by omega)]
        refine hq S6 i hi8 ⟨wl g R, wl_lt hw R, ?_, e'.symm⟩ (fun X hX hprt => ?_) ⟨by rw [oz 14 (by omega) (by omega)]; exact b1.1, by rw [oz 14 (by omega) (by omega)]; exact b1.2.1, fun q hq => by rw [oz 15 (by omega) (by omega)]; exact b1.2.2 q hq⟩ (k1.tr ⟨fun z hz => oz z (by omega) (by omega), fun z hz => oz z (by omega) (by omega)⟩)
        · unfold prt
          have hr0 : (rwx g (wl g R) (gN g)).testBit p = false := bool_f (fun z => by rw [rwx_in hw z] at hRp; cases hRp)
          rw [hwp, hr0]; rfl
        · unfold prt at hprt
          rw [Bool.and_eq_true] at hprt
          have hXp : X.testBit p = false := by simpa using hprt.1
          have hrp : (rwx g X (gN g)).testBit p = false := by simpa using hprt.2
          have le := flow_le h9 hw.sd hw.vl v5 (rwx g X (gN g))
          have le' : fb_sm (fun q => if (rwx g X (gN g)).testBit q = true then 0 else (if q = p then i else 0)) (gN g) ≤ lsm (gN g) (lim1 p) (wl g (rwx g X (gN g))) := le
          rw [sm_one hp hrp, lsm1 h9 (wl_lt hw _) (bool_f (fun z => by rw [rwx_wall hw z] at hXp; cases hXp))] at le'
          exact Nat.le_trans le' (crd_sub (fun q hq => rwx_wall hw hq))
    · rintro t ⟨S5, c5, a5, rfl, f5, v5, o5⟩ K
      have := ways8 w hp hsd v5
      omega
/-- the smallest number of the fewest who part -/
def apf (g : Gp) (p : Nat) : Nat → Nat
  | 0 => 0
  | i + 1 => if prt g p i = true ∧ (apf g p i = 0 ∨ crd i < crd (apf g p i - 1)) then i + 1 else apf g p i
theorem apf_step (g : Gp) (p i : Nat) : apf g p (i + 1) = if prt g p i = true ∧ (apf g p i = 0 ∨ crd i < crd (apf g p i - 1)) then i + 1 else apf g p i := rfl
theorem apf_spec (g : Gp) (p : Nat) : ∀ i, (apf g p i = 0 ∧ ∀ Y, Y < i → prt g p Y = false) ∨ (∃ X, X < i ∧ apf g p i = X + 1 ∧ prt g p X = true ∧ (∀ Y, Y < i → prt g p Y = true → crd X ≤ crd Y) ∧ ∀ Y, Y < X → prt g p Y = true → crd X < crd Y)
  | 0 => Or.inl ⟨rfl, fun Y hY => absurd hY (Nat.not_lt_zero _)⟩
  | i + 1 => by
    have ih := apf_spec g p i
    rw [apf_step]
    by_cases hi : prt g p i = true
    · rcases ih with ⟨h0, hn⟩ | ⟨X, x1, x2, x3, x4, x5⟩
      · rw [if_pos ⟨hi, Or.inl h0⟩]
        refine Or.inr ⟨i, by omega, rfl, hi, fun Y hY hp => ?_, fun Y hY hp => ?_⟩
        · rcases Nat.lt_or_ge Y i with z | z
          · rw [hn Y z] at hp; cases hp
          · have : Y = i := by omega
            rw [this]; omega
        · rw [hn Y hY] at hp; cases hp
      · by_cases hc : crd i < crd X
        · rw [if_pos ⟨hi, Or.inr (by rw [x2]; exact hc)⟩]
          refine Or.inr ⟨i, by omega, rfl, hi, fun Y hY hp => ?_, fun Y hY hp => ?_⟩
          · rcases Nat.lt_or_ge Y i with z | z
            · have := x4 Y z hp; omega
            · have : Y = i := by omega
              rw [this]; omega
          · have := x4 Y hY hp; omega
        · rw [if_neg (fun z => by rcases z.2 with y | y; omega; rw [x2] at y; exact hc y)]
          refine Or.inr ⟨X, by omega, x2, x3, fun Y hY hp => ?_, x5⟩
          rcases Nat.lt_or_ge Y i with z | z
          · exact x4 Y z hp
          · have : Y = i := by omega
            rw [this]; omega
    · rw [if_neg (fun z => hi z.1)]
      rcases ih with ⟨h0, hn⟩ | ⟨X, x1, x2, x3, x4, x5⟩
      · refine Or.inl ⟨h0, fun Y hY => ?_⟩
        rcases Nat.lt_or_ge Y i with z | z
        · exact hn Y z
        · have : Y = i := by omega
          rw [this]; exact bool_f hi
      · refine Or.inr ⟨X, by omega, x2, x3, fun Y hY hp => ?_, x5⟩
        rcases Nat.lt_or_ge Y i with z | z
        · exact x4 Y z hp
        · have : Y = i := by omega
          rw [this] at hp; exact absurd hp hi
