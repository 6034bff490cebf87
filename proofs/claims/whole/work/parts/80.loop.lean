/-! ===== the law's loop ===== -/
theorem op_u0 {pc pm : St → (Int32 → St → Prop) → Prop} (h : OpOK pc pm) {g : Gp} {S : St} (hw : WFg g) (c : CC S g) (m : CM S g) {K : St → Prop} (hk : ∀ S1 g', WFg g' → CC S1 g' → CM S1 g' → K S1) : pc S (fun r S1 => pm S1 (fun r' S2 => ((r = r') → K S2) ∧ ((¬ (r = r')) → False))) := by
  obtain ⟨r, g', hw', h1, h2⟩ := h g hw
  exact h1 S _ c m (fun S1 c1 m1 => h2 S1 _ c1 m1 (fun S2 c2 m2 => ⟨fun _ => hk S2 g' hw' c2 m2, fun z => z rfl⟩))
theorem op_u1 {pc pm : St → (Int32 → St → Prop) → Prop} (h : OpOK pc pm) {g : Gp} {S : St} (hw : WFg g) (c : CC S g) (m : CM S g) {V : Prop} (hv : V) {K : St → Prop} (hk : ∀ S1 g', WFg g' → CC S1 g' → CM S1 g' → K S1) : V ∧ pc S (fun r S1 => V ∧ pm S1 (fun r' S2 => ((r = r') → K S2) ∧ ((¬ (r = r')) → False))) := by
  obtain ⟨r, g', hw', h1, h2⟩ := h g hw
  exact ⟨hv, h1 S _ c m (fun S1 c1 m1 => ⟨hv, h2 S1 _ c1 m1 (fun S2 c2 m2 => ⟨fun _ => hk S2 g' hw' c2 m2, fun z => z rfl⟩)⟩)⟩
theorem op_u2 {pc pm : St → (Int32 → St → Prop) → Prop} (h : OpOK pc pm) {g : Gp} {S : St} (hw : WFg g) (c : CC S g) (m : CM S g) {V V2 : Prop} (hv : V) (hv2 : V2) {K : St → Prop} (hk : ∀ S1 g', WFg g' → CC S1 g' → CM S1 g' → K S1) : V ∧ V2 ∧ pc S (fun r S1 => V ∧ V2 ∧ pm S1 (fun r' S2 => ((r = r') → K S2) ∧ ((¬ (r = r')) → False))) := by
  obtain ⟨r, g', hw', h1, h2⟩ := h g hw
  exact ⟨hv, hv2, h1 S _ c m (fun S1 c1 m1 => ⟨hv, hv2, h2 S1 _ c1 m1 (fun S2 c2 m2 => ⟨fun _ => hk S2 g' hw' c2 m2, fun z => z rfl⟩)⟩)⟩
theorem op_u3 {pc pm : St → (Int32 → St → Prop) → Prop} (h : OpOK pc pm) {g : Gp} {S : St} (hw : WFg g) (c : CC S g) (m : CM S g) {V V2 V3 : Prop} (hv : V) (hv2 : V2) (hv3 : V3) {K : St → Prop} (hk : ∀ S1 g', WFg g' → CC S1 g' → CM S1 g' → K S1) : V ∧ V2 ∧ V3 ∧ pc S (fun r S1 => V ∧ V2 ∧ V3 ∧ pm S1 (fun r' S2 => ((r = r') → K S2) ∧ ((¬ (r = r')) → False))) := by
  obtain ⟨r, g', hw', h1, h2⟩ := h g hw
  exact ⟨hv, hv2, hv3, h1 S _ c m (fun S1 c1 m1 => ⟨hv, hv2, hv3, h2 S1 _ c1 m1 (fun S2 c2 m2 => ⟨fun _ => hk S2 g' hw' c2 m2, fun z => z rfl⟩)⟩)⟩
def DigOK : Prop := ∀ g, WFg g → ∃ h : Int64, (∀ (S : St) (Q : Int64 → St → Prop), CC S g → CM S g → (∀ S1, CC S1 g → CM S1 g → Q h S1) → p_X6_digest S Q) ∧ (∀ (S : St) (Q : Int64 → St → Prop), CC S g → CM S g → (∀ S1, CC S1 g → CM S1 g → Q h S1) → p_X7_digest S Q)
theorem lg_same (x : Int64) : lg_cmp x x = 0 := by unfold lg_cmp; simp
theorem dig_u (hd : DigOK) {g : Gp} {S : St} (hw : WFg g) (c : CC S g) (m : CM S g) {K : St → Prop} (hk : ∀ S1 g', WFg g' → CC S1 g' → CM S1 g' → K S1) : p_X6_digest S (fun r S1 => p_X7_digest S1 (fun r' S2 => ((lg_cmp r r' = 0) → K S2) ∧ ((¬ (lg_cmp r r' = 0)) → False))) := by
  obtain ⟨h, h1, h2⟩ := hd g hw
  exact h1 S _ c m (fun S1 c1 m1 => h2 S1 _ c1 m1 (fun S2 c2 m2 => ⟨fun _ => hk S2 g hw c2 m2, fun z => z (lg_same h)⟩))
def g0 : Gp := (0, 0, fun _ => 0, fun _ => 0, fun _ => 0, 0, fun _ => 0, 0, 0, 0)
theorem small_L : ∀ L, L < 4 → ∀ k, k < 3 → nI L - 4 < nI (4 * k) := by decide +kernel
theorem hpure_of (hd : DigOK) (L : Nat) (xs : Nat → Int32) (hL : L ≤ 2048) (hw0 : WFg g0) : Lq (p_L_law_18 L xs) (0, S0) := by
  refine Lq_ind (fun t => ∃ k S g, t = (nI (4 * k), S) ∧ WFg g ∧ CC S g ∧ CM S g ∧ 4 * k ≤ L + 4) (fun t => 3000 - t.1.toNatClampNeg) ?_ _ ⟨0, S0, g0, rfl, hw0, ⟨rfl, rfl, fun _ h => absurd h (Nat.not_lt_zero _), fun _ h => absurd h (Nat.not_lt_zero _), fun _ h => absurd h (Nat.not_lt_zero _), rfl, fun _ h => absurd h (Nat.not_lt_zero _), rfl, rfl, rfl⟩, ⟨rfl, rfl, fun _ h => absurd h (Nat.not_lt_zero _), fun _ h => absurd h (Nat.not_lt_zero _), fun _ h => absurd h (Nat.not_lt_zero _), rfl, fun _ h => absurd h (Nat.not_lt_zero _), rfl, rfl, rfl⟩, by omega⟩
  rintro t ⟨k, S, g, rfl, hw, c, m, hk⟩ K hK
  refine ⟨fun _ => trivial, fun hlt => ?_⟩
  have hlt' : ¬ (nI L - 4 < nI (4 * k)) := hlt
  have hb : 4 * k + 4 ≤ L := by
    rcases Nat.lt_or_ge L 4 with z | z
    · exact absurd (small_L L z k (by omega)) hlt'
    · have e : nI L - 4 = nI (L - 4) := by
        have : nI L = nI (L - 4) + nI 4 := by rw [nI_add]; congr 1; omega
        rw [this, show (nI 4 : Int32) = 4 from rfl, Int32.add_sub_cancel]
      rw [e, ni_lt (by omega) (by omega)] at hlt'
      omega
  have v0 : vp_in (nI (4 * k)) L := vp_in_nI (by omega) (by omega)
  have v1 : vp_in (nI (4 * k) + 1) L := by rw [nI_1]; exact vp_in_nI (by omega) (by omega)
  have v2 : vp_in (nI (4 * k) + 2) L := by rw [show (2 : Int32) = nI 2 from rfl, nI_add]; exact vp_in_nI (by omega) (by omega)
  have v3 : vp_in (nI (4 * k) + 3) L := by rw [show (3 : Int32) = nI 3 from rfl, nI_add]; exact vp_in_nI (by omega) (by omega)
  have go : ∀ S1 g', WFg g' → CC S1 g' → CM S1 g' → p_L_law_794 L xs K (nI (4 * k)) S1 := fun S1 g' hw' c' m' => by
    show K (nI (4 * k) + 4, S1)
    have e4 : nI (4 * k) + 4 = nI (4 * (k + 1)) := by rw [show (4 : Int32) = nI 4 from rfl, nI_add]; congr 1
    rw [e4]
    refine hK _ ⟨k + 1, S1, g', rfl, hw', c', m', by omega⟩ ?_
    show 3000 - (nI (4 * (k + 1))).toNatClampNeg < 3000 - (nI (4 * k)).toNatClampNeg
    rw [nI_clamp (by omega), nI_clamp (by omega)]; omega
  refine ⟨v0, ?_⟩
  refine ⟨fun _ => op_u1 (ok_letter _) hw c m v1 go, fun _ => ?_⟩
  refine ⟨fun _ => op_u0 (ok_blank) hw c m go, fun _ => ?_⟩
  refine ⟨fun _ => op_u0 (ok_fault) hw c m go, fun _ => ?_⟩
  refine ⟨fun _ => op_u0 (ok_circle) hw c m go, fun _ => ?_⟩
  refine ⟨fun _ => op_u1 (ok_ink _) hw c m v1 go, fun _ => ?_⟩
  refine ⟨fun _ => op_u2 (ok_kind _ _) hw c m v1 v2 go, fun _ => ?_⟩
  refine ⟨fun _ => op_u2 (ok_as _ _) hw c m v1 v2 go, fun _ => ?_⟩
  refine ⟨fun _ => op_u2 (ok_vouch _ _) hw c m v1 v2 go, fun _ => ?_⟩
  refine ⟨fun _ => op_u2 (ok_recall _ _) hw c m v1 v2 go, fun _ => ?_⟩
  refine ⟨fun _ => op_u2 (ok_bound _ _) hw c m v1 v2 go, fun _ => ?_⟩
  refine ⟨fun _ => op_u1 (ok_about _) hw c m v1 go, fun _ => ?_⟩
  refine ⟨fun _ => op_u2 (ok_person _ _) hw c m v1 v2 go, fun _ => ?_⟩
  refine ⟨fun _ => op_u2 (ok_vouches _ _) hw c m v1 v2 go, fun _ => ?_⟩
  refine ⟨fun _ => op_u0 (ok_generous) hw c m go, fun _ => ?_⟩
  refine ⟨fun _ => op_u1 (ok_trust _) hw c m v1 go, fun _ => ?_⟩
  refine ⟨fun _ => op_u1 (ok_together _) hw c m v1 go, fun _ => ?_⟩
  refine ⟨fun _ => op_u1 (ok_cut _) hw c m v1 go, fun _ => ?_⟩
  refine ⟨fun _ => op_u1 (ok_apart _) hw c m v1 go, fun _ => ?_⟩
  refine ⟨fun _ => op_u3 (ok_without _ _ _) hw c m v1 v2 v3 go, fun _ => ?_⟩
  refine ⟨fun _ => op_u0 (ok_dearest) hw c m go, fun _ => ?_⟩
  refine ⟨fun _ => op_u3 (ok_chance _ _ _) hw c m v1 v2 v3 go, fun _ => ?_⟩
  refine ⟨fun _ => op_u2 (ok_thousandths _ _) hw c m v1 v2 go, fun _ => ?_⟩
  refine ⟨fun _ => op_u2 (ok_order _ _) hw c m v1 v2 go, fun _ => ?_⟩
  refine ⟨fun _ => op_u1 (ok_count _) hw c m v1 go, fun _ => ?_⟩
  refine ⟨fun _ => dig_u hd hw c m go, fun _ => ?_⟩
  exact go S g hw c m
