/-! ===== the law's loop ===== -/
theorem op_u0 {pc pm : St → (Int32 → St → Prop) → Prop} (h : OpOK pc pm) {g : Gp} {S : St} (hw : WFg g) (c : CC S g) (m : CM S g) {K : St → Prop} (hk : ∀ S1 g', WFg g' → CC S1 g' → CM S1 g' → K S1) : pc S (fun r S1 => pm S1 (fun r' S2 => ((r = r') → K S2) ∧ ((¬ (r = r')) → False))) := by
  obtain ⟨r, g', hw', h1, h2⟩ := h g hw
  exact h1 S _ c m (fun S1 c1 m1 => h2 S1 _ c1 m1 (fun S2 c2 m2 => ⟨fun _ => hk S2 g' hw' c2 m2, fun z => z rfl⟩))
theorem op_u1 {pc pm : St → (Int32 → St → Prop) → Prop} (h : OpOK pc pm) {g : Gp} {S : St} (hw : WFg g) (c : CC S g) (m : CM S g) {V : Prop} (hv : V) {K : St → Prop} (hk : ∀ S1 g', WFg g' → CC S1 g' → CM S1 g' → K S1) : V ∧ pc S (fun r S1 => V ∧ pm S1 (fun r' S2 => ((r = r') → K S2) ∧ ((¬ (r = r')) → False))) := by
  obtain ⟨r, g', hw', h1, h2⟩ := h g hw
  exact ⟨hv, h1 S _ c m (fun S1 c1 m1 => ⟨hv, h2 S1 _ c1 m1 (fun S2 c2 m2 => ⟨fun _ => hk S2 g' hw' c2 m2, fun z => z rfl⟩)⟩)⟩
theorem op_u2 {pc pm : St → (Int32 → St → Prop) → Prop} (h : OpOK pc pm) {g : Gp} {S : St} (hw : WFg g) (c : CC S g) (m : CM S g) {V V2 : Prop} (hv : V) (hv2 : V2) {K : St → Prop} (hk : ∀ S1 g', WFg g' → CC S1 g' → CM S1 g' → K S1) : V ∧ V2 ∧ pc S (fun r S1 => V ∧ V2 ∧ pm S1 (fun r' S2 => ((r = r') → K S2) ∧ ((¬ (r = r')) → False))) := by
  obtain ⟨r, g', hw', h1, h2⟩ := h g hw
  exact ⟨hv, hv2, h1 S _ c m (fun S1 c1 m1 => ⟨hv, hv2, h2 S1 _ c1 m1 (fun S2 c2 m2 => ⟨fun _ => hk S2 g' hw' c2 m2, fun z => z rfl⟩)⟩)⟩
theorem op_u3 {pc pm : St → (Int32 → St → Prop) → Prop} (h : OpOK pc pm) {g : Gp} {S : St} (hw : WFg g) (c : CC S g) (m : CM S g) {V V2 V3 : Prop} (hv : V) (hv2 : V2) (hv3 : V3) {K : St → Prop} (hk : ∀ S1 g', WFg g' → CC S1 g' → CM S1 g' → K S1) : V ∧ V2 ∧ V3 ∧ pc S (fun r S1 => V ∧ V2 ∧ V3 ∧ pm S1 (fun r' S2 => ((r = r') → K S2) ∧ ((¬ (r = r')) → False))) := by
  obtain ⟨r, g', hw', h1, h2⟩ := h g hw
  exact ⟨hv, hv2, hv3, h1 S _ c m (fun S1 c1 m1 => ⟨hv, hv2, hv3, h2 S1 _ c1 m1 (fun S2 c2 m2 => ⟨fun _ => hk S2 g' hw' c2 m2, fun z => z rfl⟩)⟩)⟩
