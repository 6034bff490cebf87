/-! the state: what the int cells and the long cells hold, by cell and place; the world: the 39 cells of one VouchFlow (0 to 24) and one VouchFlowModel (25 to 38) -/
abbrev St : Type := (Nat → Nat → Int32) × (Nat → Nat → Int64)
def cI (S : St) (k : Nat) (f : Nat → Int32) : St := (fun a => if a = k then f else S.1 a, S.2)
def cJ (S : St) (k : Nat) (f : Nat → Int64) : St := (S.1, fun a => if a = k then f else S.2 a)
abbrev si (S : St) (k j : Nat) (v : Int32) : St := cI S k (upd (S.1 k) j v)
abbrev sj (S : St) (k j : Nat) (v : Int64) : St := cJ S k (vp_updL (S.2 k) j v)
abbrev Wt : Type := va_G × (Nat → Nat) × ClassId × ClassId
abbrev rr (w : Wt) (k : Nat) : Value := .ref (w.2.1 k)
def Wd (w : Wt) (S : St) : va_W := [(w.2.1 0, .inr (6, [.ref (w.2.1 1), .int (S.1 0 1), .ref (w.2.1 2), .ref (w.2.1 6), .ref (w.2.1 11), .ref (w.2.1 13), .ref (w.2.1 14), .ref (w.2.1 22), .int (S.1 0 8), .int (S.1 0 9), .int (S.1 0 10)])),
  (w.2.1 1, .inl (w.2.2.1, 110, .inl (S.1 1))),
  (w.2.1 2, .inr (0, [.int (S.1 2 0), .int (S.1 2 1), .ref (w.2.1 3), .ref (w.2.1 4), .ref (w.2.1 5)])),
  (w.2.1 3, .inl (w.2.2.1, 5, .inl (S.1 3))),
  (w.2.1 4, .inl (w.2.2.1, 9, .inl (S.1 4))),
  (w.2.1 5, .inl (w.2.2.1, 9, .inl (S.1 5))),
  (w.2.1 6, .inr (2, [.ref (w.2.1 7), .int (S.1 6 1), .int (S.1 6 2), .int (S.1 6 3)])),
  (w.2.1 7, .inr (0, [.int (S.1 7 0), .int (S.1 7 1), .ref (w.2.1 8), .ref (w.2.1 9), .ref (w.2.1 10)])),
  (w.2.1 8, .inl (w.2.2.1, 5, .inl (S.1 8))),
  (w.2.1 9, .inl (w.2.2.1, 9, .inl (S.1 9))),
  (w.2.1 10, .inl (w.2.2.1, 9, .inl (S.1 10))),
  (w.2.1 11, .inr (5, [.ref (w.2.1 12), .int (S.1 11 1)])),
  (w.2.1 12, .inl (w.2.2.1, 115, .inl (S.1 12))),
  (w.2.1 13, .inr (1, [.ref (w.2.1 14), .ref (w.2.1 18), .ref (w.2.1 19), .ref (w.2.1 20), .ref (w.2.1 21), .int (S.1 13 5), .int (S.1 13 6)])),
  (w.2.1 14, .inr (4, [.int (S.1 14 0), .int (S.1 14 1), .ref (w.2.1 15), .ref (w.2.1 16), .ref (w.2.1 17)])),
  (w.2.1 15, .inl (w.2.2.1, 9, .inl (S.1 15))),
  (w.2.1 16, .inl (w.2.2.1, 9, .inl (S.1 16))),
  (w.2.1 17, .inl (w.2.2.1, 9, .inl (S.1 17))),
  (w.2.1 18, .inl (w.2.2.1, 9, .inl (S.1 18))),
  (w.2.1 19, .inl (w.2.2.1, 81, .inl (S.1 19))),
  (w.2.1 20, .inl (w.2.2.1, 18, .inl (S.1 20))),
  (w.2.1 21, .inl (w.2.2.1, 18, .inl (S.1 21))),
  (w.2.1 22, .inr (3, [.int (S.1 22 0), .long (S.2 22 1), .ref (w.2.1 23), .ref (w.2.1 24)])),
  (w.2.1 23, .inl (w.2.2.2, 9, .inr (.inl (S.2 23)))),
  (w.2.1 24, .inl (w.2.2.2, 9, .inr (.inl (S.2 24)))),
  (w.2.1 25, .inr (7, [.int (S.1 25 0), .ref (w.2.1 26), .ref (w.2.1 27), .int (S.1 25 3), .ref (w.2.1 28), .int (S.1 25 5), .int (S.1 25 6), .int (S.1 25 7), .int (S.1 25 8), .ref (w.2.1 29), .int (S.1 25 10), .int (S.1 25 11), .int (S.1 25 12), .ref (w.2.1 30), .int (S.1 25 14), .int (S.1 25 15), .int (S.1 25 16), .ref (w.2.1 31), .ref (w.2.1 32), .int (S.1 25 19), .int (S.1 25 20), .int (S.1 25 21), .ref (w.2.1 33), .ref (w.2.1 34), .ref (w.2.1 35), .ref (w.2.1 36), .ref (w.2.1 37), .ref (w.2.1 38), .long (S.2 25 28), .long (S.2 25 29)])),
  (w.2.1 26, .inl (w.2.2.1, 9, .inl (S.1 26))),
  (w.2.1 27, .inl (w.2.2.1, 9, .inl (S.1 27))),
  (w.2.1 28, .inl (w.2.2.1, 5, .inl (S.1 28))),
  (w.2.1 29, .inl (w.2.2.1, 110, .inl (S.1 29))),
  (w.2.1 30, .inl (w.2.2.1, 5, .inl (S.1 30))),
  (w.2.1 31, .inl (w.2.2.1, 9, .inl (S.1 31))),
  (w.2.1 32, .inl (w.2.2.1, 9, .inl (S.1 32))),
  (w.2.1 33, .inl (w.2.2.1, 9, .inl (S.1 33))),
  (w.2.1 34, .inl (w.2.2.1, 9, .inl (S.1 34))),
  (w.2.1 35, .inl (w.2.2.1, 512, .inl (S.1 35))),
  (w.2.1 36, .inl (w.2.2.1, 9, .inl (S.1 36))),
  (w.2.1 37, .inl (w.2.2.2, 9, .inr (.inl (S.2 37)))),
  (w.2.1 38, .inl (w.2.2.2, 9, .inr (.inl (S.2 38))))]
abbrev tysW (w : Wt) : List (ClassId × FieldType) := [(w.2.2.1, .int), (w.2.2.2, .long)]
def AW (w : Wt) : Nat → Prop := fun q => ∃ k, k < 39 ∧ w.2.1 k = q
def WOK (w : Wt) : Prop := ∀ i j, i < 39 → j < 39 → w.2.1 i = w.2.1 j → i = j
theorem wd_fst (w : Wt) (S : St) {i : Nat} {q : Nat × va_E} (h : (Wd w S)[i]? = some q) : i < 39 ∧ q.1 = w.2.1 i := by
  have e : (Wd w S).map Prod.fst = (List.range 39).map w.2.1 := rfl
  have hl : i < 39 := (List.getElem?_eq_some_iff.mp h).1
  refine ⟨hl, ?_⟩
  have h1 : ((Wd w S).map Prod.fst)[i]? = some q.1 := by rw [List.getElem?_map, h]; rfl
  rw [e, List.getElem?_map, List.getElem?_range hl] at h1
  exact (Option.some.inj h1).symm
theorem wd_D {w : Wt} {S : St} {A : Nat → Prop} (h : WOK w) (hA : ∀ k, k < 39 → A (w.2.1 k)) : va_D A (Wd w S) := by
  refine ⟨fun i j p q hp hq e => ?_, fun k q hq => ?_⟩
  · obtain ⟨h1, e1⟩ := wd_fst w S hp
    obtain ⟨h2, e2⟩ := wd_fst w S hq
    exact h i j h1 h2 (by rw [← e1, ← e2, e])
  · obtain ⟨h1, e1⟩ := wd_fst w S hq
    rw [e1]; exact hA k h1
/-! the words -/
def TB : List Cond := lw_tbl.filter goodWord
theorem tb_mem {w : Cond} (i : Nat) (h : lw_tbl[i]? = some w) (hg : goodWord w = true) : w ∈ TB := List.mem_filter.mpr ⟨List.mem_of_getElem? h, hg⟩
theorem tb_good {c : Cond} (h : c ∈ TB) : GoodIn TB (c :: TB) := by
  intro x hx
  have hx : x ∈ TB := by
    rcases List.mem_cons.mp hx with h1 | h1
    · rw [h1]; exact h
    · exact h1
  exact ⟨hx, good_of_word (List.mem_filter.mp hx).2⟩
def NL : List (String × Nat × MethodName × String) := [("VouchFlow", 15, ⟨"VouchFlow$Circle", "<init>", "()V"⟩, "VouchFlow"), ("VouchFlow", 22, ⟨"VouchFlow$Reader", "<init>", "()V"⟩, "VouchFlow"), ("VouchFlow$Reader", 11, ⟨"VouchFlow$Circle", "<init>", "()V"⟩, "VouchFlow"), ("VouchFlow", 29, ⟨"VouchFlow$Writer", "<init>", "()V"⟩, "VouchFlow"), ("VouchFlow", 36, ⟨"VouchFlow$Flow", "<init>", "()V"⟩, "VouchFlow"), ("VouchFlow$Flow", 11, ⟨"VouchFlow$Web", "<init>", "()V"⟩, "VouchFlow"), ("VouchFlow", 48, ⟨"VouchFlow$Walk", "<init>", "()V"⟩, "VouchFlow"), ("VouchFlow$Circle", 44, ⟨"VouchFlow", "bit", "(II)I"⟩, "VouchFlow"), ("VouchFlow$Web", 42, ⟨"VouchFlow", "bit", "(II)I"⟩, "VouchFlow"), ("VouchFlow$Flow", 45, ⟨"VouchFlow", "bit", "(II)I"⟩, "VouchFlow"), ("VouchFlow$Walk", 64, ⟨"VouchFlow", "bit", "(II)I"⟩, "VouchFlow")]
def nwd (q : String × Nat × MethodName × String) : Cond := .methodLinkNest q.1 q.2.1 q.2.2.1 q.2.2.2
def NWs (U : State) : Prop := ∀ q ∈ NL, va_Nw (nwd q) U
def GK (w : Wt) (U : State) : Prop := va_K w.1 vwCl (tysW w) U ∧ NWs U
theorem GK.moved {w : Wt} {s U : State} (hW : s.WarmedH U.vm) (h : GK w s) : GK w U := ⟨va_K.moved hW.alike h.1, fun q hq => va_Nw.warmM hW (h.2 q hq)⟩
theorem GK.same {w : Wt} {s U : State} (e : s.vm = U.vm) (h : GK w s) : GK w U := ⟨va_K.moved (by rw [e]; exact Vm.Alike.refl _) h.1, fun q hq => va_Nw.same rfl e (h.2 q hq)⟩
def Pw (w : Wt) (S : St) (U : State) : Prop := va_P w.1 vwCl (Wd w S) U.heap ∧ GK w U
def Bw (w : Wt) (S : St) (t : State) : Prop := va_P w.1 vwCl (Wd w S) t.heap
theorem pw_blind (w : Wt) (S : St) (av : List Value) : FrameBlind (va_Pc av (Pw w S)) := fun a U g mk h => ⟨h.1, h.2.1, GK.same rfl h.2.2⟩
/-- the contracts: an int (or boolean), a long, nothing -/
def MI (l : Launch) (w : Wt) (y : MethodName) (cc : ByteArray) (nL : Nat) (ty : FieldType) (rm : Room) (av : List Value) (S : St) (Q : Int32 → St → Prop) : Prop := Met l y (.code y cc nL (some ty) :: TB) rm (va_Pc av (Pw w S)) (va_Qi Q (Bw w) (AW w)) 0 0 (AW w)
def ML (l : Launch) (w : Wt) (y : MethodName) (cc : ByteArray) (nL : Nat) (rm : Room) (av : List Value) (S : St) (Q : Int64 → St → Prop) : Prop := Met l y (.code y cc nL (some .long) :: TB) rm (va_Pc av (Pw w S)) (va_Ql Q (Bw w) (AW w)) 0 0 (AW w)
def MV (l : Launch) (w : Wt) (y : MethodName) (cc : ByteArray) (nL : Nat) (rm : Room) (av : List Value) (S : St) (Q : St → Prop) : Prop := Met l y (.code y cc nL none :: TB) rm (va_Pc av (Pw w S)) (va_Qv Q (Bw w) (AW w)) 0 0 (AW w)
/-- the machine at a frame -/
abbrev Mx : Type := Program × Launch × Env × Room × State × MethodId × Array Value × List Frame × Method × Code × (Nat → Prop) × Nat × Nat × Nat
def J (X : Mx) (w : Wt) (Q : State → Prop) (pc : Nat) (lv : List (Nat × Value)) (st : List Value) (S : St) : Prop := match X with
  | (p, l, e, R, s, m, args, below, meth, c, A, nL, cells, slots) => ∀ (H : Heap) (locs : List Loc) (ls : Array Slot), va_P w.1 vwCl (Wd w S) H → va_S A s.heap H locs → lv_has ls nL lv → W p l e R s m args below meth c H locs cells slots Q (F0 m pc ls st)
def Cx (X : Mx) (w : Wt) (l0 : Launch) (cc : ByteArray) (n0 : Nat) (own : String) (rm : Room) (ret : Option FieldType) : Prop := match X with
  | (p, l, e, R, s, m, args, below, meth, c, A, nL, cells, slots) => (p.tables.exec = Jvm.exec ∧ c.code = cc ∧ c.maxLocals = nL ∧ s.vm.findClass own = some m.cls ∧ (∀ x ∈ TB, x.before args s = true)) ∧ GK w s ∧ WOK w ∧ (∀ k, k < 39 → A (w.2.1 k)) ∧ R = rm ∧ nL = n0 ∧ meth.sig.returnType = ret ∧ meth.locks = false ∧ cells ≤ R.cells ∧ slots ≤ R.slots ∧ l = l0
def QI (X : Mx) (w : Wt) (Q : Int32 → St → Prop) : State → Prop := match X with
  | (p, l, e, R, s, m, args, below, meth, c, A, nL, cells, slots) => MQ below (va_Qi Q (Bw w) A) args s cells slots A
def QL (X : Mx) (w : Wt) (Q : Int64 → St → Prop) : State → Prop := match X with
  | (p, l, e, R, s, m, args, below, meth, c, A, nL, cells, slots) => MQ below (va_Ql Q (Bw w) A) args s cells slots A
def QV (X : Mx) (w : Wt) (Q : St → Prop) : State → Prop := match X with
  | (p, l, e, R, s, m, args, below, meth, c, A, nL, cells, slots) => MQ below (va_Qv Q (Bw w) A) args s cells slots A
/-- loops -/
def Lp {α : Type} (F : (α → Prop) → α → Prop) : Nat → α → Prop
  | 0, _ => False
  | n + 1, a => F (Lp F n) a
def Lq {α : Type} (F : (α → Prop) → α → Prop) (a : α) : Prop := ∃ n, Lp F n a
theorem Lq_ind {α : Type} {F : (α → Prop) → α → Prop} (I : α → Prop) (μ : α → Nat) (h : ∀ a, I a → ∀ K : α → Prop, (∀ a', I a' → μ a' < μ a → K a') → F K a) : ∀ a, I a → Lq F a := by
  have key : ∀ n a, I a → μ a < n → Lp F n a := by
    intro n
    induction n with
    | zero => intro a _ hn; omega
    | succ n ih => intro a ha hn; exact h a ha _ (fun a' h1 h2 => ih a' h1 (by omega))
  exact fun a ha => ⟨μ a + 1, key _ a ha (by omega)⟩
theorem Lq_use {α : Type} {F : (α → Prop) → α → Prop} {G : α → Prop} (h : ∀ K : α → Prop, (∀ a, K a → G a) → ∀ a, F K a → G a) {a : α} (ha : Lq F a) : G a := by
  obtain ⟨n, hn⟩ := ha
  have key : ∀ n a, Lp F n a → G a := by
    intro n
    induction n with
    | zero => intro a h0; exact absurd h0 (fun q => q)
    | succ n ih => intro a h1; exact h _ ih a h1
  exact key n a hn
theorem Cx.wok {X : Mx} {w : Wt} {l0 : Launch} {cc : ByteArray} {n0 : Nat} {own : String} {rm : Room} {ret : Option FieldType} (C : Cx X w l0 cc n0 own rm ret) : WOK w := by
  obtain ⟨p, l, e, R, s, m, args, below, meth, c, A, nL, cells, slots⟩ := X
  exact C.2.2.1
def bz (v : Int32) : Prop := v = 0 ∨ v = 1
theorem bz0 : bz 0 := Or.inl rfl
theorem bz1 : bz 1 := Or.inr rfl
theorem bz_nar {v : Int32} (h : bz v) : narrow .boolean (.int v) = .int v := by
  rcases h with h | h <;> subst h <;> rfl
section Rows
variable {X : Mx} {w : Wt} {l0 : Launch} {cc : ByteArray} {n0 : Nat} {own : String} {rm : Room} {ret : Option FieldType} {Q : State → Prop} {pc : Nat} {lv lv' : List (Nat × Value)} {st : List Value} {S : St}
theorem j_sub (ks : List Nat) (e : lv_pick lv ks = lv') (h : J X w Q pc lv' st S) : J X w Q pc lv st S := by
  obtain ⟨p, l, e', R, s, m, args, below, meth, c, A, nL, cells, slots⟩ := X
  intro H locs ls hP hS hl
  exact h H locs ls hP hS (lv_sub hl ks e)
theorem j_iconst (C : Cx X w l0 cc n0 own rm ret) {n : Int} {v : Int32} (hd : decode cc pc = .ok (.iconst n, 1)) (hv : Int32.ofInt n = v) (h : J X w Q (pc + 1) lv (.int v :: st) S) : J X w Q pc lv st S := by
  obtain ⟨p, l, e, R, s, m, args, below, meth, c, A, nL, cells, slots⟩ := X
  intro H locs ls hP hS hl
  obtain ⟨⟨hx, hb, hml, hown, hts⟩, hG, hW, hA, hR, hn, hrt, hlk, hc1, hc2, hl0⟩ := C
  exact lv_iconst hx hb hd hv (h H locs ls hP hS hl)
theorem j_bipush (C : Cx X w l0 cc n0 own rm ret) {n : Int} {v : Int32} (hd : decode cc pc = .ok (.bipush n, 2)) (hv : (Int8.ofInt n).toInt32 = v) (h : J X w Q (pc + 2) lv (.int v :: st) S) : J X w Q pc lv st S := by
  obtain ⟨p, l, e, R, s, m, args, below, meth, c, A, nL, cells, slots⟩ := X
  intro H locs ls hP hS hl
  obtain ⟨⟨hx, hb, hml, hown, hts⟩, hG, hW, hA, hR, hn, hrt, hlk, hc1, hc2, hl0⟩ := C
  exact lv_bipush hx hb hd hv (h H locs ls hP hS hl)
theorem j_sipush (C : Cx X w l0 cc n0 own rm ret) {n : Int} {v : Int32} (hd : decode cc pc = .ok (.sipush n, 3)) (hv : (Int16.ofInt n).toInt32 = v) (h : J X w Q (pc + 3) lv (.int v :: st) S) : J X w Q pc lv st S := by
  obtain ⟨p, l, e, R, s, m, args, below, meth, c, A, nL, cells, slots⟩ := X
  intro H locs ls hP hS hl
  obtain ⟨⟨hx, hb, hml, hown, hts⟩, hG, hW, hA, hR, hn, hrt, hlk, hc1, hc2, hl0⟩ := C
  exact lv_sipush hx hb hd hv (h H locs ls hP hS hl)
theorem j_lconst (C : Cx X w l0 cc n0 own rm ret) {n : Fin 2} {v : Int64} (hd : decode cc pc = .ok (.lconst n, 1)) (hv : Int64.ofNat (n : Nat) = v) (h : J X w Q (pc + 1) lv (.long v :: st) S) : J X w Q pc lv st S := by
  obtain ⟨p, l, e, R, s, m, args, below, meth, c, A, nL, cells, slots⟩ := X
  intro H locs ls hP hS hl
  obtain ⟨⟨hx, hb, hml, hown, hts⟩, hG, hW, hA, hR, hn, hrt, hlk, hc1, hc2, hl0⟩ := C
  exact lv_lconst hx hb hd hv (h H locs ls hP hS hl)
theorem j_ldc2 (C : Cx X w l0 cc n0 own rm ret) {index : Nat} {v : Int64} (hd : decode cc pc = .ok (.ldc2_w index, 3)) (hk : Cond.constantLong own index v ∈ TB) (h : J X w Q (pc + 3) lv (.long v :: st) S) : J X w Q pc lv st S := by
  obtain ⟨p, l, e, R, s, m, args, below, meth, c, A, nL, cells, slots⟩ := X
  intro H locs ls hP hS hl
  obtain ⟨⟨hx, hb, hml, hown, hts⟩, hG, hW, hA, hR, hn, hrt, hlk, hc1, hc2, hl0⟩ := C
  exact lv_ldc2 hx hb hown (hts _ hk) hd (h H locs ls hP hS hl)
theorem j_ldcw (C : Cx X w l0 cc n0 own rm ret) {index : Nat} {v : Int32} (hd : decode cc pc = .ok (.ldc_w index, 3)) (hk : Cond.constant own index v ∈ TB) (h : J X w Q (pc + 3) lv (.int v :: st) S) : J X w Q pc lv st S := by
  obtain ⟨p, l, e, R, s, m, args, below, meth, c, A, nL, cells, slots⟩ := X
  intro H locs ls hP hS hl
  obtain ⟨⟨hx, hb, hml, hown, hts⟩, hG, hW, hA, hR, hn, hrt, hlk, hc1, hc2, hl0⟩ := C
  exact lv_ldcw hx hb hown (hts _ hk) hd (h H locs ls hP hS hl)
theorem j_iload_n (C : Cx X w l0 cc n0 own rm ret) {k : Fin 4} {i : Nat} {x : Int32} (hd : decode cc pc = .ok (.iload_n k, 1)) (q : Nat) (hq : lv[q]? = some (i, .int x)) (hi : (k : Nat) = i) (h : J X w Q (pc + 1) lv (.int x :: st) S) : J X w Q pc lv st S := by
  obtain ⟨p, l, e, R, s, m, args, below, meth, c, A, nL, cells, slots⟩ := X
  intro H locs ls hP hS hl
  obtain ⟨⟨hx, hb, hml, hown, hts⟩, hG, hW, hA, hR, hn, hrt, hlk, hc1, hc2, hl0⟩ := C
  exact lv_iload_n hx hb hd hi (lv_at hl q hq) (h H locs ls hP hS hl)
theorem j_iload (C : Cx X w l0 cc n0 own rm ret) {i : Nat} {x : Int32} (hd : decode cc pc = .ok (.iload i, 2)) (q : Nat) (hq : lv[q]? = some (i, .int x)) (h : J X w Q (pc + 2) lv (.int x :: st) S) : J X w Q pc lv st S := by
  obtain ⟨p, l, e, R, s, m, args, below, meth, c, A, nL, cells, slots⟩ := X
  intro H locs ls hP hS hl
  obtain ⟨⟨hx, hb, hml, hown, hts⟩, hG, hW, hA, hR, hn, hrt, hlk, hc1, hc2, hl0⟩ := C
  exact lv_iload hx hb hd (lv_at hl q hq) (h H locs ls hP hS hl)
theorem j_lload_n (C : Cx X w l0 cc n0 own rm ret) {k : Fin 4} {i : Nat} {x : Int64} (hd : decode cc pc = .ok (.lload_n k, 1)) (q : Nat) (hq : lv[q]? = some (i, .long x)) (hi : (k : Nat) = i) (h : J X w Q (pc + 1) lv (.long x :: st) S) : J X w Q pc lv st S := by
  obtain ⟨p, l, e, R, s, m, args, below, meth, c, A, nL, cells, slots⟩ := X
  intro H locs ls hP hS hl
  obtain ⟨⟨hx, hb, hml, hown, hts⟩, hG, hW, hA, hR, hn, hrt, hlk, hc1, hc2, hl0⟩ := C
  exact lv_lload_n hx hb hd hi (lv_at hl q hq) (h H locs ls hP hS hl)
theorem j_lload (C : Cx X w l0 cc n0 own rm ret) {i : Nat} {x : Int64} (hd : decode cc pc = .ok (.lload i, 2)) (q : Nat) (hq : lv[q]? = some (i, .long x)) (h : J X w Q (pc + 2) lv (.long x :: st) S) : J X w Q pc lv st S := by
  obtain ⟨p, l, e, R, s, m, args, below, meth, c, A, nL, cells, slots⟩ := X
  intro H locs ls hP hS hl
  obtain ⟨⟨hx, hb, hml, hown, hts⟩, hG, hW, hA, hR, hn, hrt, hlk, hc1, hc2, hl0⟩ := C
  exact lv_lload hx hb hd (lv_at hl q hq) (h H locs ls hP hS hl)
theorem j_aload_n (C : Cx X w l0 cc n0 own rm ret) {k : Fin 4} {i : Nat} {x : Nat} (hd : decode cc pc = .ok (.aload_n k, 1)) (q : Nat) (hq : lv[q]? = some (i, .ref x)) (hi : (k : Nat) = i) (h : J X w Q (pc + 1) lv (.ref x :: st) S) : J X w Q pc lv st S := by
  obtain ⟨p, l, e, R, s, m, args, below, meth, c, A, nL, cells, slots⟩ := X
  intro H locs ls hP hS hl
  obtain ⟨⟨hx, hb, hml, hown, hts⟩, hG, hW, hA, hR, hn, hrt, hlk, hc1, hc2, hl0⟩ := C
  exact lv_aload_n hx hb hd hi (lv_at hl q hq) (h H locs ls hP hS hl)
theorem j_aload (C : Cx X w l0 cc n0 own rm ret) {i : Nat} {x : Nat} (hd : decode cc pc = .ok (.aload i, 2)) (q : Nat) (hq : lv[q]? = some (i, .ref x)) (h : J X w Q (pc + 2) lv (.ref x :: st) S) : J X w Q pc lv st S := by
  obtain ⟨p, l, e, R, s, m, args, below, meth, c, A, nL, cells, slots⟩ := X
  intro H locs ls hP hS hl
  obtain ⟨⟨hx, hb, hml, hown, hts⟩, hG, hW, hA, hR, hn, hrt, hlk, hc1, hc2, hl0⟩ := C
  exact lv_aload hx hb hd (lv_at hl q hq) (h H locs ls hP hS hl)
theorem j_istore_n (C : Cx X w l0 cc n0 own rm ret) {k : Fin 4} {i : Nat} {x : Int32} (hd : decode cc pc = .ok (.istore_n k, 1)) (hi : (k : Nat) = i) (hn0 : i < n0) (hlv : (i, Value.int x) :: lv.filter (fun q => !(q.1 == i) && !(q.1 + 1 == i && q.2.category == 2)) = lv') (h : J X w Q (pc + 1) lv' st S) : J X w Q pc lv (.int x :: st) S := by
  obtain ⟨p, l, e, R, s, m, args, below, meth, c, A, nL, cells, slots⟩ := X
  intro H locs ls hP hS hl
  obtain ⟨⟨hx, hb, hml, hown, hts⟩, hG, hW, hA, hR, hn, hrt, hlk, hc1, hc2, hl0⟩ := C
  exact lv_istore_n hx hb hd hi hl (by omega) hlv (fun ls' hl' => h H locs ls' hP hS hl')
theorem j_istore (C : Cx X w l0 cc n0 own rm ret) {i : Nat} {x : Int32} (hd : decode cc pc = .ok (.istore i, 2)) (hn0 : i < n0) (hlv : (i, Value.int x) :: lv.filter (fun q => !(q.1 == i) && !(q.1 + 1 == i && q.2.category == 2)) = lv') (h : J X w Q (pc + 2) lv' st S) : J X w Q pc lv (.int x :: st) S := by
  obtain ⟨p, l, e, R, s, m, args, below, meth, c, A, nL, cells, slots⟩ := X
  intro H locs ls hP hS hl
  obtain ⟨⟨hx, hb, hml, hown, hts⟩, hG, hW, hA, hR, hn, hrt, hlk, hc1, hc2, hl0⟩ := C
  exact lv_istore hx hb hd hl (by omega) hlv (fun ls' hl' => h H locs ls' hP hS hl')
theorem j_astore_n (C : Cx X w l0 cc n0 own rm ret) {k : Fin 4} {i : Nat} {x : Nat} (hd : decode cc pc = .ok (.astore_n k, 1)) (hi : (k : Nat) = i) (hn0 : i < n0) (hlv : (i, Value.ref x) :: lv.filter (fun q => !(q.1 == i) && !(q.1 + 1 == i && q.2.category == 2)) = lv') (h : J X w Q (pc + 1) lv' st S) : J X w Q pc lv (.ref x :: st) S := by
  obtain ⟨p, l, e, R, s, m, args, below, meth, c, A, nL, cells, slots⟩ := X
  intro H locs ls hP hS hl
  obtain ⟨⟨hx, hb, hml, hown, hts⟩, hG, hW, hA, hR, hn, hrt, hlk, hc1, hc2, hl0⟩ := C
  exact lv_astore_n hx hb hd hi hl (by omega) hlv (fun ls' hl' => h H locs ls' hP hS hl')
theorem j_astore (C : Cx X w l0 cc n0 own rm ret) {i : Nat} {x : Nat} (hd : decode cc pc = .ok (.astore i, 2)) (hn0 : i < n0) (hlv : (i, Value.ref x) :: lv.filter (fun q => !(q.1 == i) && !(q.1 + 1 == i && q.2.category == 2)) = lv') (h : J X w Q (pc + 2) lv' st S) : J X w Q pc lv (.ref x :: st) S := by
  obtain ⟨p, l, e, R, s, m, args, below, meth, c, A, nL, cells, slots⟩ := X
  intro H locs ls hP hS hl
  obtain ⟨⟨hx, hb, hml, hown, hts⟩, hG, hW, hA, hR, hn, hrt, hlk, hc1, hc2, hl0⟩ := C
  exact lv_astore hx hb hd hl (by omega) hlv (fun ls' hl' => h H locs ls' hP hS hl')
theorem j_lstore_n (C : Cx X w l0 cc n0 own rm ret) {k : Fin 4} {i : Nat} {x : Int64} (hd : decode cc pc = .ok (.lstore_n k, 1)) (hi : (k : Nat) = i) (hn0 : i + 1 < n0) (hlv : (i, Value.long x) :: lv.filter (fun q => !(q.1 == i) && (!(q.1 == i + 1) && !(q.1 + 1 == i && q.2.category == 2))) = lv') (h : J X w Q (pc + 1) lv' st S) : J X w Q pc lv (.long x :: st) S := by
  obtain ⟨p, l, e, R, s, m, args, below, meth, c, A, nL, cells, slots⟩ := X
  intro H locs ls hP hS hl
  obtain ⟨⟨hx, hb, hml, hown, hts⟩, hG, hW, hA, hR, hn, hrt, hlk, hc1, hc2, hl0⟩ := C
  exact lv_lstore_n hx hb hd hi hl (by omega) hlv (fun ls' hl' => h H locs ls' hP hS hl')
theorem j_lstore (C : Cx X w l0 cc n0 own rm ret) {i : Nat} {x : Int64} (hd : decode cc pc = .ok (.lstore i, 2)) (hn0 : i + 1 < n0) (hlv : (i, Value.long x) :: lv.filter (fun q => !(q.1 == i) && (!(q.1 == i + 1) && !(q.1 + 1 == i && q.2.category == 2))) = lv') (h : J X w Q (pc + 2) lv' st S) : J X w Q pc lv (.long x :: st) S := by
  obtain ⟨p, l, e, R, s, m, args, below, meth, c, A, nL, cells, slots⟩ := X
  intro H locs ls hP hS hl
  obtain ⟨⟨hx, hb, hml, hown, hts⟩, hG, hW, hA, hR, hn, hrt, hlk, hc1, hc2, hl0⟩ := C
  exact lv_lstore hx hb hd hl (by omega) hlv (fun ls' hl' => h H locs ls' hP hS hl')
theorem j_iinc (C : Cx X w l0 cc n0 own rm ret) {i : Nat} {n : Int} {x v : Int32} (hd : decode cc pc = .ok (.iinc i n, 3)) (q : Nat) (hq : lv[q]? = some (i, .int x)) (hv : x + Int32.ofInt n = v) (hn0 : i < n0) (hlv : (i, Value.int v) :: lv.filter (fun q => !(q.1 == i) && !(q.1 + 1 == i && q.2.category == 2)) = lv') (h : J X w Q (pc + 3) lv' st S) : J X w Q pc lv st S := by
  obtain ⟨p, l, e, R, s, m, args, below, meth, c, A, nL, cells, slots⟩ := X
  intro H locs ls hP hS hl
  obtain ⟨⟨hx, hb, hml, hown, hts⟩, hG, hW, hA, hR, hn, hrt, hlk, hc1, hc2, hl0⟩ := C
  exact lv_iinc hx hb hd hl hq hv (by omega) hlv (fun ls' hl' => h H locs ls' hP hS hl')
theorem j_iadd (C : Cx X w l0 cc n0 own rm ret) {x y : Int32} (hd : decode cc pc = .ok (.iadd, 1)) (h : J X w Q (pc + 1) lv (.int (x + y) :: st) S) : J X w Q pc lv (.int y :: .int x :: st) S := by
  obtain ⟨p, l, e, R, s, m, args, below, meth, c, A, nL, cells, slots⟩ := X
  intro H locs ls hP hS hl
  obtain ⟨⟨hx, hb, hml, hown, hts⟩, hG, hW, hA, hR, hn, hrt, hlk, hc1, hc2, hl0⟩ := C
  exact lv_iadd hx hb hd (h H locs ls hP hS hl)
theorem j_isub (C : Cx X w l0 cc n0 own rm ret) {x y : Int32} (hd : decode cc pc = .ok (.isub, 1)) (h : J X w Q (pc + 1) lv (.int (x - y) :: st) S) : J X w Q pc lv (.int y :: .int x :: st) S := by
  obtain ⟨p, l, e, R, s, m, args, below, meth, c, A, nL, cells, slots⟩ := X
  intro H locs ls hP hS hl
  obtain ⟨⟨hx, hb, hml, hown, hts⟩, hG, hW, hA, hR, hn, hrt, hlk, hc1, hc2, hl0⟩ := C
  exact lv_isub hx hb hd (h H locs ls hP hS hl)
theorem j_imul (C : Cx X w l0 cc n0 own rm ret) {x y : Int32} (hd : decode cc pc = .ok (.imul, 1)) (h : J X w Q (pc + 1) lv (.int (x * y) :: st) S) : J X w Q pc lv (.int y :: .int x :: st) S := by
  obtain ⟨p, l, e, R, s, m, args, below, meth, c, A, nL, cells, slots⟩ := X
  intro H locs ls hP hS hl
  obtain ⟨⟨hx, hb, hml, hown, hts⟩, hG, hW, hA, hR, hn, hrt, hlk, hc1, hc2, hl0⟩ := C
  exact lv_imul hx hb hd (h H locs ls hP hS hl)
theorem j_iand (C : Cx X w l0 cc n0 own rm ret) {x y : Int32} (hd : decode cc pc = .ok (.iand, 1)) (h : J X w Q (pc + 1) lv (.int (x &&& y) :: st) S) : J X w Q pc lv (.int y :: .int x :: st) S := by
  obtain ⟨p, l, e, R, s, m, args, below, meth, c, A, nL, cells, slots⟩ := X
  intro H locs ls hP hS hl
  obtain ⟨⟨hx, hb, hml, hown, hts⟩, hG, hW, hA, hR, hn, hrt, hlk, hc1, hc2, hl0⟩ := C
  exact lv_iand hx hb hd (h H locs ls hP hS hl)
theorem j_ior (C : Cx X w l0 cc n0 own rm ret) {x y : Int32} (hd : decode cc pc = .ok (.ior, 1)) (h : J X w Q (pc + 1) lv (.int (x ||| y) :: st) S) : J X w Q pc lv (.int y :: .int x :: st) S := by
  obtain ⟨p, l, e, R, s, m, args, below, meth, c, A, nL, cells, slots⟩ := X
  intro H locs ls hP hS hl
  obtain ⟨⟨hx, hb, hml, hown, hts⟩, hG, hW, hA, hR, hn, hrt, hlk, hc1, hc2, hl0⟩ := C
  exact lv_ior hx hb hd (h H locs ls hP hS hl)
theorem j_ixor (C : Cx X w l0 cc n0 own rm ret) {x y : Int32} (hd : decode cc pc = .ok (.ixor, 1)) (h : J X w Q (pc + 1) lv (.int (x ^^^ y) :: st) S) : J X w Q pc lv (.int y :: .int x :: st) S := by
  obtain ⟨p, l, e, R, s, m, args, below, meth, c, A, nL, cells, slots⟩ := X
  intro H locs ls hP hS hl
  obtain ⟨⟨hx, hb, hml, hown, hts⟩, hG, hW, hA, hR, hn, hrt, hlk, hc1, hc2, hl0⟩ := C
  exact lv_ixor hx hb hd (h H locs ls hP hS hl)
theorem j_ishl (C : Cx X w l0 cc n0 own rm ret) {x y : Int32} (hd : decode cc pc = .ok (.ishl, 1)) (h : J X w Q (pc + 1) lv (.int (x <<< (y &&& 31)) :: st) S) : J X w Q pc lv (.int y :: .int x :: st) S := by
  obtain ⟨p, l, e, R, s, m, args, below, meth, c, A, nL, cells, slots⟩ := X
  intro H locs ls hP hS hl
  obtain ⟨⟨hx, hb, hml, hown, hts⟩, hG, hW, hA, hR, hn, hrt, hlk, hc1, hc2, hl0⟩ := C
  exact lv_ishl hx hb hd (h H locs ls hP hS hl)
theorem j_ishr (C : Cx X w l0 cc n0 own rm ret) {x y : Int32} (hd : decode cc pc = .ok (.ishr, 1)) (h : J X w Q (pc + 1) lv (.int (x >>> (y &&& 31)) :: st) S) : J X w Q pc lv (.int y :: .int x :: st) S := by
  obtain ⟨p, l, e, R, s, m, args, below, meth, c, A, nL, cells, slots⟩ := X
  intro H locs ls hP hS hl
  obtain ⟨⟨hx, hb, hml, hown, hts⟩, hG, hW, hA, hR, hn, hrt, hlk, hc1, hc2, hl0⟩ := C
  exact lv_ishr hx hb hd (h H locs ls hP hS hl)
theorem j_ladd (C : Cx X w l0 cc n0 own rm ret) {x y : Int64} (hd : decode cc pc = .ok (.ladd, 1)) (h : J X w Q (pc + 1) lv (.long (x + y) :: st) S) : J X w Q pc lv (.long y :: .long x :: st) S := by
  obtain ⟨p, l, e, R, s, m, args, below, meth, c, A, nL, cells, slots⟩ := X
  intro H locs ls hP hS hl
  obtain ⟨⟨hx, hb, hml, hown, hts⟩, hG, hW, hA, hR, hn, hrt, hlk, hc1, hc2, hl0⟩ := C
  exact lv_ladd hx hb hd (h H locs ls hP hS hl)
theorem j_lsub (C : Cx X w l0 cc n0 own rm ret) {x y : Int64} (hd : decode cc pc = .ok (.lsub, 1)) (h : J X w Q (pc + 1) lv (.long (x - y) :: st) S) : J X w Q pc lv (.long y :: .long x :: st) S := by
  obtain ⟨p, l, e, R, s, m, args, below, meth, c, A, nL, cells, slots⟩ := X
  intro H locs ls hP hS hl
  obtain ⟨⟨hx, hb, hml, hown, hts⟩, hG, hW, hA, hR, hn, hrt, hlk, hc1, hc2, hl0⟩ := C
  exact lv_lsub hx hb hd (h H locs ls hP hS hl)
theorem j_lmul (C : Cx X w l0 cc n0 own rm ret) {x y : Int64} (hd : decode cc pc = .ok (.lmul, 1)) (h : J X w Q (pc + 1) lv (.long (x * y) :: st) S) : J X w Q pc lv (.long y :: .long x :: st) S := by
  obtain ⟨p, l, e, R, s, m, args, below, meth, c, A, nL, cells, slots⟩ := X
  intro H locs ls hP hS hl
  obtain ⟨⟨hx, hb, hml, hown, hts⟩, hG, hW, hA, hR, hn, hrt, hlk, hc1, hc2, hl0⟩ := C
  exact lv_lmul hx hb hd (h H locs ls hP hS hl)
theorem j_idiv (C : Cx X w l0 cc n0 own rm ret) {x y : Int32} (hd : decode cc pc = .ok (.idiv, 1)) (hne : ¬ y = 0) (h : J X w Q (pc + 1) lv (.int (x / y) :: st) S) : J X w Q pc lv (.int y :: .int x :: st) S := by
  obtain ⟨p, l, e, R, s, m, args, below, meth, c, A, nL, cells, slots⟩ := X
  intro H locs ls hP hS hl
  obtain ⟨⟨hx, hb, hml, hown, hts⟩, hG, hW, hA, hR, hn, hrt, hlk, hc1, hc2, hl0⟩ := C
  exact lv_idiv hx hb hd hne (h H locs ls hP hS hl)
theorem j_irem (C : Cx X w l0 cc n0 own rm ret) {x y : Int32} (hd : decode cc pc = .ok (.irem, 1)) (hne : ¬ y = 0) (h : J X w Q (pc + 1) lv (.int (x - x / y * y) :: st) S) : J X w Q pc lv (.int y :: .int x :: st) S := by
  obtain ⟨p, l, e, R, s, m, args, below, meth, c, A, nL, cells, slots⟩ := X
  intro H locs ls hP hS hl
  obtain ⟨⟨hx, hb, hml, hown, hts⟩, hG, hW, hA, hR, hn, hrt, hlk, hc1, hc2, hl0⟩ := C
  exact lv_irem hx hb hd hne (h H locs ls hP hS hl)
theorem j_ldiv (C : Cx X w l0 cc n0 own rm ret) {x y : Int64} (hd : decode cc pc = .ok (.ldiv, 1)) (hne : ¬ y = 0) (h : J X w Q (pc + 1) lv (.long (x / y) :: st) S) : J X w Q pc lv (.long y :: .long x :: st) S := by
  obtain ⟨p, l, e, R, s, m, args, below, meth, c, A, nL, cells, slots⟩ := X
  intro H locs ls hP hS hl
  obtain ⟨⟨hx, hb, hml, hown, hts⟩, hG, hW, hA, hR, hn, hrt, hlk, hc1, hc2, hl0⟩ := C
  exact lv_ldiv hx hb hd hne (h H locs ls hP hS hl)
theorem j_lrem (C : Cx X w l0 cc n0 own rm ret) {x y : Int64} (hd : decode cc pc = .ok (.lrem, 1)) (hne : ¬ y = 0) (h : J X w Q (pc + 1) lv (.long (x - x / y * y) :: st) S) : J X w Q pc lv (.long y :: .long x :: st) S := by
  obtain ⟨p, l, e, R, s, m, args, below, meth, c, A, nL, cells, slots⟩ := X
  intro H locs ls hP hS hl
  obtain ⟨⟨hx, hb, hml, hown, hts⟩, hG, hW, hA, hR, hn, hrt, hlk, hc1, hc2, hl0⟩ := C
  exact lv_lrem hx hb hd hne (h H locs ls hP hS hl)
theorem j_iushr (C : Cx X w l0 cc n0 own rm ret) {x y : Int32} (hd : decode cc pc = .ok (.iushr, 1)) (h : J X w Q (pc + 1) lv (.int (x.toUInt32 >>> (y.toUInt32 &&& Int32.toUInt32 31)).toInt32 :: st) S) : J X w Q pc lv (.int y :: .int x :: st) S := by
  obtain ⟨p, l, e, R, s, m, args, below, meth, c, A, nL, cells, slots⟩ := X
  intro H locs ls hP hS hl
  obtain ⟨⟨hx, hb, hml, hown, hts⟩, hG, hW, hA, hR, hn, hrt, hlk, hc1, hc2, hl0⟩ := C
  exact lv_iushr hx hb hd rfl (h H locs ls hP hS hl)
theorem j_i2l (C : Cx X w l0 cc n0 own rm ret) {x : Int32} (hd : decode cc pc = .ok (.i2l, 1)) (h : J X w Q (pc + 1) lv (.long x.toInt64 :: st) S) : J X w Q pc lv (.int x :: st) S := by
  obtain ⟨p, l, e, R, s, m, args, below, meth, c, A, nL, cells, slots⟩ := X
  intro H locs ls hP hS hl
  obtain ⟨⟨hx, hb, hml, hown, hts⟩, hG, hW, hA, hR, hn, hrt, hlk, hc1, hc2, hl0⟩ := C
  exact lv_i2l hx hb hd rfl (h H locs ls hP hS hl)
theorem j_l2i (C : Cx X w l0 cc n0 own rm ret) {x : Int64} (hd : decode cc pc = .ok (.l2i, 1)) (h : J X w Q (pc + 1) lv (.int x.toInt32 :: st) S) : J X w Q pc lv (.long x :: st) S := by
  obtain ⟨p, l, e, R, s, m, args, below, meth, c, A, nL, cells, slots⟩ := X
  intro H locs ls hP hS hl
  obtain ⟨⟨hx, hb, hml, hown, hts⟩, hG, hW, hA, hR, hn, hrt, hlk, hc1, hc2, hl0⟩ := C
  exact lv_l2i hx hb hd rfl (h H locs ls hP hS hl)
theorem j_lcmp (C : Cx X w l0 cc n0 own rm ret) {x y : Int64} (hd : decode cc pc = .ok (.lcmp, 1)) (h : J X w Q (pc + 1) lv (.int (lg_cmp x y) :: st) S) : J X w Q pc lv (.long y :: .long x :: st) S := by
  obtain ⟨p, l, e, R, s, m, args, below, meth, c, A, nL, cells, slots⟩ := X
  intro H locs ls hP hS hl
  obtain ⟨⟨hx, hb, hml, hown, hts⟩, hG, hW, hA, hR, hn, hrt, hlk, hc1, hc2, hl0⟩ := C
  exact W.lcmp hx hb hd (h H locs ls hP hS hl)
theorem j_dup (C : Cx X w l0 cc n0 own rm ret) {v : Value} (hd : decode cc pc = .ok (.dup, 1)) (hv : v.category = 1) (h : J X w Q (pc + 1) lv (v :: v :: st) S) : J X w Q pc lv (v :: st) S := by
  obtain ⟨p, l, e, R, s, m, args, below, meth, c, A, nL, cells, slots⟩ := X
  intro H locs ls hP hS hl
  obtain ⟨⟨hx, hb, hml, hown, hts⟩, hG, hW, hA, hR, hn, hrt, hlk, hc1, hc2, hl0⟩ := C
  exact lv_dup hx hb hd hv (h H locs ls hP hS hl)
theorem j_pop (C : Cx X w l0 cc n0 own rm ret) {v : Value} (hd : decode cc pc = .ok (.pop, 1)) (hv : v.category = 1) (h : J X w Q (pc + 1) lv st S) : J X w Q pc lv (v :: st) S := by
  obtain ⟨p, l, e, R, s, m, args, below, meth, c, A, nL, cells, slots⟩ := X
  intro H locs ls hP hS hl
  obtain ⟨⟨hx, hb, hml, hown, hts⟩, hG, hW, hA, hR, hn, hrt, hlk, hc1, hc2, hl0⟩ := C
  exact lv_pop hx hb hd hv (h H locs ls hP hS hl)
theorem j_dup2 (C : Cx X w l0 cc n0 own rm ret) {v v2 : Value} (hd : decode cc pc = .ok (.dup2, 1)) (hv : v.category = 1) (hv2 : v2.category = 1) (h : J X w Q (pc + 1) lv (v :: v2 :: v :: v2 :: st) S) : J X w Q pc lv (v :: v2 :: st) S := by
  obtain ⟨p, l, e, R, s, m, args, below, meth, c, A, nL, cells, slots⟩ := X
  intro H locs ls hP hS hl
  obtain ⟨⟨hx, hb, hml, hown, hts⟩, hG, hW, hA, hR, hn, hrt, hlk, hc1, hc2, hl0⟩ := C
  exact lv_dup2_11 hx hb hd hv hv2 (h H locs ls hP hS hl)
theorem j_goto (C : Cx X w l0 cc n0 own rm ret) {off : Int} {tgt : Nat} (hd : decode cc pc = .ok (.goto off, 3)) (ht : (pc : Int) + off = (tgt : Int)) (h : J X w Q tgt lv st S) : J X w Q pc lv st S := by
  obtain ⟨p, l, e, R, s, m, args, below, meth, c, A, nL, cells, slots⟩ := X
  intro H locs ls hP hS hl
  obtain ⟨⟨hx, hb, hml, hown, hts⟩, hG, hW, hA, hR, hn, hrt, hlk, hc1, hc2, hl0⟩ := C
  exact lv_goto hx hb hd ht (h H locs ls hP hS hl)
theorem j_if_eq (C : Cx X w l0 cc n0 own rm ret) {x : Int32} {off : Int} {tgt : Nat} (hd : decode cc pc = .ok (.ifCond .eq off, 3)) (ht : (pc : Int) + off = (tgt : Int)) (kt : x = 0 → J X w Q tgt lv st S) (kf : ¬ x = 0 → J X w Q (pc + 3) lv st S) : J X w Q pc lv (.int x :: st) S := by
  obtain ⟨p, l, e, R, s, m, args, below, meth, c, A, nL, cells, slots⟩ := X
  intro H locs ls hP hS hl
  obtain ⟨⟨hx, hb, hml, hown, hts⟩, hG, hW, hA, hR, hn, hrt, hlk, hc1, hc2, hl0⟩ := C
  exact lv_if_eq hx hb hd ht (fun q => kt q H locs ls hP hS hl) (fun q => kf q H locs ls hP hS hl)
theorem j_icmp_eq (C : Cx X w l0 cc n0 own rm ret) {x y : Int32} {off : Int} {tgt : Nat} (hd : decode cc pc = .ok (.if_icmp .eq off, 3)) (ht : (pc : Int) + off = (tgt : Int)) (kt : x = y → J X w Q tgt lv st S) (kf : ¬ x = y → J X w Q (pc + 3) lv st S) : J X w Q pc lv (.int y :: .int x :: st) S := by
  obtain ⟨p, l, e, R, s, m, args, below, meth, c, A, nL, cells, slots⟩ := X
  intro H locs ls hP hS hl
  obtain ⟨⟨hx, hb, hml, hown, hts⟩, hG, hW, hA, hR, hn, hrt, hlk, hc1, hc2, hl0⟩ := C
  exact lv_icmp_eq hx hb hd ht (fun q => kt q H locs ls hP hS hl) (fun q => kf q H locs ls hP hS hl)
theorem j_if_ne (C : Cx X w l0 cc n0 own rm ret) {x : Int32} {off : Int} {tgt : Nat} (hd : decode cc pc = .ok (.ifCond .ne off, 3)) (ht : (pc : Int) + off = (tgt : Int)) (kt : ¬ x = 0 → J X w Q tgt lv st S) (kf : x = 0 → J X w Q (pc + 3) lv st S) : J X w Q pc lv (.int x :: st) S := by
  obtain ⟨p, l, e, R, s, m, args, below, meth, c, A, nL, cells, slots⟩ := X
  intro H locs ls hP hS hl
  obtain ⟨⟨hx, hb, hml, hown, hts⟩, hG, hW, hA, hR, hn, hrt, hlk, hc1, hc2, hl0⟩ := C
  exact lv_if_ne hx hb hd ht (fun q => kt q H locs ls hP hS hl) (fun q => kf q H locs ls hP hS hl)
theorem j_icmp_ne (C : Cx X w l0 cc n0 own rm ret) {x y : Int32} {off : Int} {tgt : Nat} (hd : decode cc pc = .ok (.if_icmp .ne off, 3)) (ht : (pc : Int) + off = (tgt : Int)) (kt : ¬ x = y → J X w Q tgt lv st S) (kf : x = y → J X w Q (pc + 3) lv st S) : J X w Q pc lv (.int y :: .int x :: st) S := by
  obtain ⟨p, l, e, R, s, m, args, below, meth, c, A, nL, cells, slots⟩ := X
  intro H locs ls hP hS hl
  obtain ⟨⟨hx, hb, hml, hown, hts⟩, hG, hW, hA, hR, hn, hrt, hlk, hc1, hc2, hl0⟩ := C
  exact lv_icmp_ne hx hb hd ht (fun q => kt q H locs ls hP hS hl) (fun q => kf q H locs ls hP hS hl)
theorem j_if_lt (C : Cx X w l0 cc n0 own rm ret) {x : Int32} {off : Int} {tgt : Nat} (hd : decode cc pc = .ok (.ifCond .lt off, 3)) (ht : (pc : Int) + off = (tgt : Int)) (kt : x < 0 → J X w Q tgt lv st S) (kf : ¬ x < 0 → J X w Q (pc + 3) lv st S) : J X w Q pc lv (.int x :: st) S := by
  obtain ⟨p, l, e, R, s, m, args, below, meth, c, A, nL, cells, slots⟩ := X
  intro H locs ls hP hS hl
  obtain ⟨⟨hx, hb, hml, hown, hts⟩, hG, hW, hA, hR, hn, hrt, hlk, hc1, hc2, hl0⟩ := C
  exact lv_if_lt hx hb hd ht (fun q => kt q H locs ls hP hS hl) (fun q => kf q H locs ls hP hS hl)
theorem j_icmp_lt (C : Cx X w l0 cc n0 own rm ret) {x y : Int32} {off : Int} {tgt : Nat} (hd : decode cc pc = .ok (.if_icmp .lt off, 3)) (ht : (pc : Int) + off = (tgt : Int)) (kt : x < y → J X w Q tgt lv st S) (kf : ¬ x < y → J X w Q (pc + 3) lv st S) : J X w Q pc lv (.int y :: .int x :: st) S := by
  obtain ⟨p, l, e, R, s, m, args, below, meth, c, A, nL, cells, slots⟩ := X
  intro H locs ls hP hS hl
  obtain ⟨⟨hx, hb, hml, hown, hts⟩, hG, hW, hA, hR, hn, hrt, hlk, hc1, hc2, hl0⟩ := C
  exact lv_icmp_lt hx hb hd ht (fun q => kt q H locs ls hP hS hl) (fun q => kf q H locs ls hP hS hl)
theorem j_if_ge (C : Cx X w l0 cc n0 own rm ret) {x : Int32} {off : Int} {tgt : Nat} (hd : decode cc pc = .ok (.ifCond .ge off, 3)) (ht : (pc : Int) + off = (tgt : Int)) (kt : 0 ≤ x → J X w Q tgt lv st S) (kf : ¬ 0 ≤ x → J X w Q (pc + 3) lv st S) : J X w Q pc lv (.int x :: st) S := by
  obtain ⟨p, l, e, R, s, m, args, below, meth, c, A, nL, cells, slots⟩ := X
  intro H locs ls hP hS hl
  obtain ⟨⟨hx, hb, hml, hown, hts⟩, hG, hW, hA, hR, hn, hrt, hlk, hc1, hc2, hl0⟩ := C
  exact lv_if_ge hx hb hd ht (fun q => kt q H locs ls hP hS hl) (fun q => kf q H locs ls hP hS hl)
theorem j_icmp_ge (C : Cx X w l0 cc n0 own rm ret) {x y : Int32} {off : Int} {tgt : Nat} (hd : decode cc pc = .ok (.if_icmp .ge off, 3)) (ht : (pc : Int) + off = (tgt : Int)) (kt : y ≤ x → J X w Q tgt lv st S) (kf : ¬ y ≤ x → J X w Q (pc + 3) lv st S) : J X w Q pc lv (.int y :: .int x :: st) S := by
  obtain ⟨p, l, e, R, s, m, args, below, meth, c, A, nL, cells, slots⟩ := X
  intro H locs ls hP hS hl
  obtain ⟨⟨hx, hb, hml, hown, hts⟩, hG, hW, hA, hR, hn, hrt, hlk, hc1, hc2, hl0⟩ := C
  exact lv_icmp_ge hx hb hd ht (fun q => kt q H locs ls hP hS hl) (fun q => kf q H locs ls hP hS hl)
theorem j_if_gt (C : Cx X w l0 cc n0 own rm ret) {x : Int32} {off : Int} {tgt : Nat} (hd : decode cc pc = .ok (.ifCond .gt off, 3)) (ht : (pc : Int) + off = (tgt : Int)) (kt : 0 < x → J X w Q tgt lv st S) (kf : ¬ 0 < x → J X w Q (pc + 3) lv st S) : J X w Q pc lv (.int x :: st) S := by
  obtain ⟨p, l, e, R, s, m, args, below, meth, c, A, nL, cells, slots⟩ := X
  intro H locs ls hP hS hl
  obtain ⟨⟨hx, hb, hml, hown, hts⟩, hG, hW, hA, hR, hn, hrt, hlk, hc1, hc2, hl0⟩ := C
  exact lv_if_gt hx hb hd ht (fun q => kt q H locs ls hP hS hl) (fun q => kf q H locs ls hP hS hl)
theorem j_icmp_gt (C : Cx X w l0 cc n0 own rm ret) {x y : Int32} {off : Int} {tgt : Nat} (hd : decode cc pc = .ok (.if_icmp .gt off, 3)) (ht : (pc : Int) + off = (tgt : Int)) (kt : y < x → J X w Q tgt lv st S) (kf : ¬ y < x → J X w Q (pc + 3) lv st S) : J X w Q pc lv (.int y :: .int x :: st) S := by
  obtain ⟨p, l, e, R, s, m, args, below, meth, c, A, nL, cells, slots⟩ := X
  intro H locs ls hP hS hl
  obtain ⟨⟨hx, hb, hml, hown, hts⟩, hG, hW, hA, hR, hn, hrt, hlk, hc1, hc2, hl0⟩ := C
  exact lv_icmp_gt hx hb hd ht (fun q => kt q H locs ls hP hS hl) (fun q => kf q H locs ls hP hS hl)
theorem j_if_le (C : Cx X w l0 cc n0 own rm ret) {x : Int32} {off : Int} {tgt : Nat} (hd : decode cc pc = .ok (.ifCond .le off, 3)) (ht : (pc : Int) + off = (tgt : Int)) (kt : x ≤ 0 → J X w Q tgt lv st S) (kf : ¬ x ≤ 0 → J X w Q (pc + 3) lv st S) : J X w Q pc lv (.int x :: st) S := by
  obtain ⟨p, l, e, R, s, m, args, below, meth, c, A, nL, cells, slots⟩ := X
  intro H locs ls hP hS hl
  obtain ⟨⟨hx, hb, hml, hown, hts⟩, hG, hW, hA, hR, hn, hrt, hlk, hc1, hc2, hl0⟩ := C
  exact lv_if_le hx hb hd ht (fun q => kt q H locs ls hP hS hl) (fun q => kf q H locs ls hP hS hl)
theorem j_icmp_le (C : Cx X w l0 cc n0 own rm ret) {x y : Int32} {off : Int} {tgt : Nat} (hd : decode cc pc = .ok (.if_icmp .le off, 3)) (ht : (pc : Int) + off = (tgt : Int)) (kt : x ≤ y → J X w Q tgt lv st S) (kf : ¬ x ≤ y → J X w Q (pc + 3) lv st S) : J X w Q pc lv (.int y :: .int x :: st) S := by
  obtain ⟨p, l, e, R, s, m, args, below, meth, c, A, nL, cells, slots⟩ := X
  intro H locs ls hP hS hl
  obtain ⟨⟨hx, hb, hml, hown, hts⟩, hG, hW, hA, hR, hn, hrt, hlk, hc1, hc2, hl0⟩ := C
  exact lv_icmp_le hx hb hd ht (fun q => kt q H locs ls hP hS hl) (fun q => kf q H locs ls hP hS hl)
theorem j_tableOut (C : Cx X w l0 cc n0 own rm ret) {dflt lo hi : Int} {offs : Array Int} {len : Nat} {x : Int32} {tgt : Nat} (hd : decode cc pc = .ok (.tableswitch dflt lo hi offs, len)) (hx9 : x.toInt < lo ∨ hi < x.toInt) (ht : (pc : Int) + dflt = (tgt : Int)) (h : J X w Q tgt lv st S) : J X w Q pc lv (.int x :: st) S := by
  obtain ⟨p, l, e, R, s, m, args, below, meth, c, A, nL, cells, slots⟩ := X
  intro H locs ls hP hS hl
  obtain ⟨⟨hx, hb, hml, hown, hts⟩, hG, hW, hA, hR, hn, hrt, hlk, hc1, hc2, hl0⟩ := C
  exact lv_tableOut hx hb hd hx9 ht (h H locs ls hP hS hl)
theorem j_tableIn (C : Cx X w l0 cc n0 own rm ret) {dflt lo hi : Int} {offs : Array Int} {len : Nat} {x : Int32} {off : Int} {tgt : Nat} (hd : decode cc pc = .ok (.tableswitch dflt lo hi offs, len)) (h1 : ¬ x.toInt < lo) (h2 : ¬ hi < x.toInt) (ho : offs[(x.toInt - lo).toNat]? = some off) (ht : (pc : Int) + off = (tgt : Int)) (h : J X w Q tgt lv st S) : J X w Q pc lv (.int x :: st) S := by
  obtain ⟨p, l, e, R, s, m, args, below, meth, c, A, nL, cells, slots⟩ := X
  intro H locs ls hP hS hl
  obtain ⟨⟨hx, hb, hml, hown, hts⟩, hG, hW, hA, hR, hn, hrt, hlk, hc1, hc2, hl0⟩ := C
  exact lv_tableIn hx hb hd h1 h2 ho ht (h H locs ls hP hS hl)
theorem j_lookup (C : Cx X w l0 cc n0 own rm ret) {dflt : Int} {ps : Array (Int × Int)} {len : Nat} {x : Int32} {off : Int} {tgt : Nat} (hd : decode cc pc = .ok (.lookupswitch dflt ps, len)) (hp : (ps.toList.zip (ps.toList.drop 1)).all (fun (a, next) => a.1 < next.1) = true) (ho : Op.lookupswitch.offset ps.toList dflt x.toInt = off) (ht : (pc : Int) + off = (tgt : Int)) (h : J X w Q tgt lv st S) : J X w Q pc lv (.int x :: st) S := by
  obtain ⟨p, l, e, R, s, m, args, below, meth, c, A, nL, cells, slots⟩ := X
  intro H locs ls hP hS hl
  obtain ⟨⟨hx, hb, hml, hown, hts⟩, hG, hW, hA, hR, hn, hrt, hlk, hc1, hc2, hl0⟩ := C
  exact lv_lookup hx hb hd hp ho ht (h H locs ls hP hS hl)
theorem j_get (C : Cx X w l0 cc n0 own rm ret) {index ci N : Nat} {Cn : String} {T : u_T} {fs : List Value} {v : Value} (k j : Nat) (he : (Wd w S)[k]? = some (w.2.1 k, .inr (ci, fs))) (hc : vwCl[ci]? = some (Cn, T, N)) (hj : j < N) (hin : ∀ x ∈ u_ws Cn T N, x ∈ TB) (hlk0 : Cond.fieldLink own index (T j).1 (T j).2.1 (T j).2.2.1 ∈ TB) (hv : fs[j]? = some v) (hd : decode cc pc = .ok (.getfield index, 3)) (h : J X w Q (pc + 3) lv (v :: st) S) : J X w Q pc lv (rr w k :: st) S := by
  obtain ⟨p, l, e, R, s, m, args, below, meth, c, A, nL, cells, slots⟩ := X
  intro H locs ls hP hS hl
  obtain ⟨⟨hx, hb, hml, hown, hts⟩, hG, hW, hA, hR, hn, hrt, hlk, hc1, hc2, hl0⟩ := C
  exact va_get hx hb hts hin hown hG.1 hP k he hc j hj (hts _ hlk0) (fun _ h9 => h9) hv hd (h H locs ls hP hS hl)
theorem j_put (C : Cx X w l0 cc n0 own rm ret) {index ci N : Nat} {Cn : String} {T : u_T} {fs : List Value} {v : Value} {S' : St} {ty : FieldType} (k j : Nat) (he : (Wd w S)[k]? = some (w.2.1 k, .inr (ci, fs))) (hc : vwCl[ci]? = some (Cn, T, N)) (hj : j < N) (hin : ∀ x ∈ u_ws Cn T N, x ∈ TB) (ty0 : Nat → FieldType) (hty : ∀ k, k < N → parseFieldDescriptor (T k).2.2.1 = some (ty0 k)) (hnm : ∀ a, a < N → ∀ b, b < N → a ≠ b → (T a).2.1 ≠ (T b).2.1) (hlk0 : Cond.fieldLink own index (T j).1 (T j).2.1 (T j).2.2.1 ∈ TB) (hfin : (T j).2.2.2 = false) (hd0 : parseFieldDescriptor (T j).2.2.1 = some ty) (hn0 : narrow ty v = v) (hfit : fits ty v = true) (hl0 : j < fs.length) (hset : (Wd w S).set k (w.2.1 k, .inr (ci, fs.set j v)) = Wd w S') (hd : decode cc pc = .ok (.putfield index, 3)) (h : J X w Q (pc + 3) lv st S') : J X w Q pc lv (v :: rr w k :: st) S := by
  obtain ⟨p, l, e, R, s, m, args, below, meth, c, A, nL, cells, slots⟩ := X
  intro H locs ls hP hS hl
  obtain ⟨⟨hx, hb, hml, hown, hts⟩, hG, hW, hA, hR, hn, hrt, hlk, hc1, hc2, hl0'⟩ := C
  refine va_put hx hb hts hin ty0 hty hnm hown hG.1 hP (wd_D hW hA) hS k he hc j hj (hts _ hlk0) (fun _ h9 => h9) hfin hd0 hn0 hfit hl0 hd (fun H1 locs1 hP1 _ hS1 => ?_)
  rw [hset] at hP1
  exact h H1 locs1 ls hP1 hS1 hl
theorem j_iald (C : Cx X w l0 cc n0 own rm ret) {n : Nat} {i : Int32} (k : Nat) (he : (Wd w S)[k]? = some (w.2.1 k, .inl (w.2.2.1, n, .inl (S.1 k)))) (hin : vp_in i n) (hd : decode cc pc = .ok (.iaload, 1)) (h : J X w Q (pc + 1) lv (.int (S.1 k i.toNatClampNeg) :: st) S) : J X w Q pc lv (.int i :: rr w k :: st) S := by
  obtain ⟨p, l, e, R, s, m, args, below, meth, c, A, nL, cells, slots⟩ := X
  intro H locs ls hP hS hl
  obtain ⟨⟨hx, hb, hml, hown, hts⟩, hG, hW, hA, hR, hn, hrt, hlk, hc1, hc2, hl0⟩ := C
  exact va_iald hx hb hG.1 hP k 0 he rfl hin hd (h H locs ls hP hS hl)
theorem j_lald (C : Cx X w l0 cc n0 own rm ret) {n : Nat} {i : Int32} (k : Nat) (he : (Wd w S)[k]? = some (w.2.1 k, .inl (w.2.2.2, n, .inr (.inl (S.2 k))))) (hin : vp_in i n) (hd : decode cc pc = .ok (.laload, 1)) (h : J X w Q (pc + 1) lv (.long (S.2 k i.toNatClampNeg) :: st) S) : J X w Q pc lv (.int i :: rr w k :: st) S := by
  obtain ⟨p, l, e, R, s, m, args, below, meth, c, A, nL, cells, slots⟩ := X
  intro H locs ls hP hS hl
  obtain ⟨⟨hx, hb, hml, hown, hts⟩, hG, hW, hA, hR, hn, hrt, hlk, hc1, hc2, hl0⟩ := C
  exact va_lald hx hb hG.1 hP k 1 he rfl hin hd (h H locs ls hP hS hl)
theorem j_iast (C : Cx X w l0 cc n0 own rm ret) {n : Nat} {i x : Int32} (k : Nat) (he : (Wd w S)[k]? = some (w.2.1 k, .inl (w.2.2.1, n, .inl (S.1 k)))) (hset : ∀ f, (Wd w S).set k (w.2.1 k, .inl (w.2.2.1, n, .inl f)) = Wd w (cI S k f)) (hin : vp_in i n) (hd : decode cc pc = .ok (.iastore, 1)) (h : J X w Q (pc + 1) lv st (si S k i.toNatClampNeg x)) : J X w Q pc lv (.int x :: .int i :: rr w k :: st) S := by
  obtain ⟨p, l, e, R, s, m, args, below, meth, c, A, nL, cells, slots⟩ := X
  intro H locs ls hP hS hl
  obtain ⟨⟨hx, hb, hml, hown, hts⟩, hG, hW, hA, hR, hn, hrt, hlk, hc1, hc2, hl0⟩ := C
  refine va_iast hx hb hG.1 hP (wd_D hW hA) hS k 0 he rfl hin hd (fun H1 locs1 hP1 _ hS1 => ?_)
  rw [hset] at hP1
  exact h H1 locs1 ls hP1 hS1 hl
theorem j_last (C : Cx X w l0 cc n0 own rm ret) {n : Nat} {i : Int32} {x : Int64} (k : Nat) (he : (Wd w S)[k]? = some (w.2.1 k, .inl (w.2.2.2, n, .inr (.inl (S.2 k))))) (hset : ∀ f, (Wd w S).set k (w.2.1 k, .inl (w.2.2.2, n, .inr (.inl f))) = Wd w (cJ S k f)) (hin : vp_in i n) (hd : decode cc pc = .ok (.lastore, 1)) (h : J X w Q (pc + 1) lv st (sj S k i.toNatClampNeg x)) : J X w Q pc lv (.long x :: .int i :: rr w k :: st) S := by
  obtain ⟨p, l, e, R, s, m, args, below, meth, c, A, nL, cells, slots⟩ := X
  intro H locs ls hP hS hl
  obtain ⟨⟨hx, hb, hml, hown, hts⟩, hG, hW, hA, hR, hn, hrt, hlk, hc1, hc2, hl0⟩ := C
  refine va_last hx hb hG.1 hP (wd_D hW hA) hS k 1 he rfl hin hd (fun H1 locs1 hP1 _ hS1 => ?_)
  rw [hset] at hP1
  exact h H1 locs1 ls hP1 hS1 hl
theorem j_alenI (C : Cx X w l0 cc n0 own rm ret) {n : Nat} {v : Int32} (k : Nat) (he : (Wd w S)[k]? = some (w.2.1 k, .inl (w.2.2.1, n, .inl (S.1 k)))) (hv : Int32.ofNat n = v) (hd : decode cc pc = .ok (.arraylength, 1)) (h : J X w Q (pc + 1) lv (.int v :: st) S) : J X w Q pc lv (rr w k :: st) S := by
  obtain ⟨p, l, e, R, s, m, args, below, meth, c, A, nL, cells, slots⟩ := X
  intro H locs ls hP hS hl
  obtain ⟨⟨hx, hb, hml, hown, hts⟩, hG, hW, hA, hR, hn, hrt, hlk, hc1, hc2, hl0⟩ := C
  exact va_alen hx hb hG.1 hP k 0 he (ty := .int) rfl hv hd (h H locs ls hP hS hl)
theorem j_alenJ (C : Cx X w l0 cc n0 own rm ret) {n : Nat} {v : Int32} (k : Nat) (he : (Wd w S)[k]? = some (w.2.1 k, .inl (w.2.2.2, n, .inr (.inl (S.2 k))))) (hv : Int32.ofNat n = v) (hd : decode cc pc = .ok (.arraylength, 1)) (h : J X w Q (pc + 1) lv (.int v :: st) S) : J X w Q pc lv (rr w k :: st) S := by
  obtain ⟨p, l, e, R, s, m, args, below, meth, c, A, nL, cells, slots⟩ := X
  intro H locs ls hP hS hl
  obtain ⟨⟨hx, hb, hml, hown, hts⟩, hG, hW, hA, hR, hn, hrt, hlk, hc1, hc2, hl0⟩ := C
  exact va_alen hx hb hG.1 hP k 1 he (ty := .long) rfl hv hd (h H locs ls hP hS hl)
theorem j_copyI (C : Cx X w l0 cc n0 own rm ret) {index n1 n2 : Nat} {n : Int32} (k0 k1 : Nat) (he0 : (Wd w S)[k0]? = some (w.2.1 k0, .inl (w.2.2.1, n1, .inl (S.1 k0)))) (he1 : (Wd w S)[k1]? = some (w.2.1 k1, .inl (w.2.2.1, n2, .inl (S.1 k1)))) (hset : ∀ f, (Wd w S).set k1 (w.2.1 k1, .inl (w.2.2.1, n2, .inl f)) = Wd w (cI S k1 f)) (hn1 : ¬ n < 0) (h4 : n.toNatClampNeg ≤ n1) (h5 : n.toNatClampNeg ≤ n2) (hk1 : Cond.methodLink own index arraycopyName ∈ TB) (hk2 : Cond.native arraycopyName ∈ TB) (hk3 : Cond.static arraycopyName ∈ TB) (hk4 : Cond.initialized "java/lang/System" ∈ TB) (hfr : 1 ≤ rm.frames) (hlo : (st.map fun v => v.category).sum + (nativeFrameWords "java/lang/System" "arraycopy" 5 + 11) ≤ rm.locals) (hd : decode cc pc = .ok (.invokestatic index, 3)) (h : J X w Q (pc + 3) lv st (cI S k1 (va_cpy (S.1 k0) (S.1 k1) 0 0 n.toNatClampNeg))) : J X w Q pc lv (.int n :: .int 0 :: rr w k1 :: .int 0 :: rr w k0 :: st) S := by
  obtain ⟨p, l, e, R, s, m, args, below, meth, c, A, nL, cells, slots⟩ := X
  intro H locs ls hP hS hl
  obtain ⟨⟨hx, hb, hml, hown, hts⟩, hG, hW, hA, hR, hn, hrt, hlk, hc1, hc2, hl0⟩ := C
  subst hR
  refine va_copyi hx hb (by rw [hml]; exact hl.1.symm) hown (hts _ hk1) (hts _ hk2) (hts _ hk3) (hts _ hk4) hG.1 hP (wd_D hW hA) hS k0 k1 0 0 he0 he1 (ty := .int) rfl rfl rfl (sp := 0) (dp := 0) (n := n) (by decide) (by decide) hn1 (by rw [show (0 : Int32).toNatClampNeg = 0 from rfl, Nat.zero_add]; exact h4) (by rw [show (0 : Int32).toNatClampNeg = 0 from rfl, Nat.zero_add]; exact h5) (fun _ _ => rfl) hfr hlo hd (fun H1 locs1 hP1 _ hS1 => ?_)
  rw [hset] at hP1
  exact h H1 locs1 ls hP1 hS1 hl
theorem j_copyJ (C : Cx X w l0 cc n0 own rm ret) {index n1 n2 : Nat} {n : Int32} (k0 k1 : Nat) (he0 : (Wd w S)[k0]? = some (w.2.1 k0, .inl (w.2.2.2, n1, .inr (.inl (S.2 k0))))) (he1 : (Wd w S)[k1]? = some (w.2.1 k1, .inl (w.2.2.2, n2, .inr (.inl (S.2 k1))))) (hset : ∀ f, (Wd w S).set k1 (w.2.1 k1, .inl (w.2.2.2, n2, .inr (.inl f))) = Wd w (cJ S k1 f)) (hn1 : ¬ n < 0) (h4 : n.toNatClampNeg ≤ n1) (h5 : n.toNatClampNeg ≤ n2) (hk1 : Cond.methodLink own index arraycopyName ∈ TB) (hk2 : Cond.native arraycopyName ∈ TB) (hk3 : Cond.static arraycopyName ∈ TB) (hk4 : Cond.initialized "java/lang/System" ∈ TB) (hfr : 1 ≤ rm.frames) (hlo : (st.map fun v => v.category).sum + (nativeFrameWords "java/lang/System" "arraycopy" 5 + 11) ≤ rm.locals) (hd : decode cc pc = .ok (.invokestatic index, 3)) (h : J X w Q (pc + 3) lv st (cJ S k1 (va_cpy (S.2 k0) (S.2 k1) 0 0 n.toNatClampNeg))) : J X w Q pc lv (.int n :: .int 0 :: rr w k1 :: .int 0 :: rr w k0 :: st) S := by
  obtain ⟨p, l, e, R, s, m, args, below, meth, c, A, nL, cells, slots⟩ := X
  intro H locs ls hP hS hl
  obtain ⟨⟨hx, hb, hml, hown, hts⟩, hG, hW, hA, hR, hn, hrt, hlk, hc1, hc2, hl0⟩ := C
  subst hR
  refine va_copyl hx hb (by rw [hml]; exact hl.1.symm) hown (hts _ hk1) (hts _ hk2) (hts _ hk3) (hts _ hk4) hG.1 hP (wd_D hW hA) hS k0 k1 1 1 he0 he1 (ty := .long) rfl rfl rfl (sp := 0) (dp := 0) (n := n) (by decide) (by decide) hn1 (by rw [show (0 : Int32).toNatClampNeg = 0 from rfl, Nat.zero_add]; exact h4) (by rw [show (0 : Int32).toNatClampNeg = 0 from rfl, Nat.zero_add]; exact h5) (fun _ _ => rfl) hfr hlo hd (fun H1 locs1 hP1 _ hS1 => ?_)
  rw [hset] at hP1
  exact h H1 locs1 ls hP1 hS1 hl
theorem j_iret {Q0 : Int32 → St → Prop} {v : Int32} (C : Cx X w l0 cc n0 own rm (some .int)) (hd : decode cc pc = .ok (.ireturn, 1)) (h : Q0 v S) : J X w (QI X w Q0) pc lv [.int v] S := by
  obtain ⟨p, l, e, R, s, m, args, below, meth, c, A, nL, cells, slots⟩ := X
  intro H locs ls hP hS hl
  obtain ⟨⟨hx, hb, hml, hown, hts⟩, hG, hW, hA, hR, hn, hrt, hlk, hc1, hc2, hl0⟩ := C
  exact W.iret hx hb hrt (fun t ht _ => ⟨⟨v, S, rfl, h, by show va_P _ _ _ t.heap; rw [ht]; exact hP⟩, hS.F ht⟩) hS.2.2 hd hlk
theorem j_lret {Q0 : Int64 → St → Prop} {v : Int64} (C : Cx X w l0 cc n0 own rm (some .long)) (hd : decode cc pc = .ok (.lreturn, 1)) (h : Q0 v S) : J X w (QL X w Q0) pc lv [.long v] S := by
  obtain ⟨p, l, e, R, s, m, args, below, meth, c, A, nL, cells, slots⟩ := X
  intro H locs ls hP hS hl
  obtain ⟨⟨hx, hb, hml, hown, hts⟩, hG, hW, hA, hR, hn, hrt, hlk, hc1, hc2, hl0⟩ := C
  exact W.lret hx hb hrt (fun t ht _ => ⟨⟨v, S, rfl, h, by show va_P _ _ _ t.heap; rw [ht]; exact hP⟩, hS.F ht⟩) hS.2.2 hd hlk
theorem j_zret {Q0 : Int32 → St → Prop} {v : Int32} (C : Cx X w l0 cc n0 own rm (some .boolean)) (hd : decode cc pc = .ok (.ireturn, 1)) (h : bz v ∧ Q0 v S) : J X w (QI X w Q0) pc lv [.int v] S := by
  obtain ⟨p, l, e, R, s, m, args, below, meth, c, A, nL, cells, slots⟩ := X
  intro H locs ls hP hS hl
  obtain ⟨⟨hx, hb, hml, hown, hts⟩, hG, hW, hA, hR, hn, hrt, hlk, hc1, hc2, hl0⟩ := C
  exact W.zret hx hb hrt (bz_nar h.1) (fun t ht _ => ⟨⟨v, S, rfl, h.2, by show va_P _ _ _ t.heap; rw [ht]; exact hP⟩, hS.F ht⟩) hS.2.2 hd hlk
theorem j_vret {Q0 : St → Prop} (C : Cx X w l0 cc n0 own rm none) (hd : decode cc pc = .ok (.return_, 1)) (h : Q0 S) : J X w (QV X w Q0) pc lv [] S := by
  obtain ⟨p, l, e, R, s, m, args, below, meth, c, A, nL, cells, slots⟩ := X
  intro H locs ls hP hS hl
  obtain ⟨⟨hx, hb, hml, hown, hts⟩, hG, hW, hA, hR, hn, hrt, hlk, hc1, hc2, hl0⟩ := C
  exact W.vret hx hb hrt (fun t ht _ => ⟨⟨S, rfl, h, by show va_P _ _ _ t.heap; rw [ht]; exact hP⟩, hS.F ht⟩) hS.2.2 hd hlk
/-- what a call of y by its link needs of the words -/
def CV (own : String) (index : Nat) (y : MethodName) (bytes : ByteArray) (maxL : Nat) (rt : Option FieldType) (n : Nat) : Prop := Cond.code y bytes maxL rt ∈ TB ∧ Cond.methodLink own index y ∈ TB ∧ Cond.instanceMethod y ∈ TB ∧ Cond.selects y.cls y y ∈ TB ∧ Cond.initialized y.cls ∈ TB ∧ (y.cls ≠ "java/lang/invoke/MethodHandle" ∧ y.cls ≠ "java/lang/invoke/VarHandle" ∧ (parseMethodDescriptor y.desc).map (fun d => d.parameters.length) = some n)
def CS (own : String) (index : Nat) (y : MethodName) (bytes : ByteArray) (maxL : Nat) (rt : Option FieldType) (n : Nat) : Prop := Cond.code y bytes maxL rt ∈ TB ∧ Cond.methodLink own index y ∈ TB ∧ Cond.static y ∈ TB ∧ Cond.initialized y.cls ∈ TB ∧ (y.cls ≠ "java/lang/invoke/MethodHandle" ∧ y.cls ≠ "java/lang/invoke/VarHandle" ∧ (parseMethodDescriptor y.desc).map (fun d => d.parameters.length) = some n)
def CN (own : String) (index : Nat) (y : MethodName) (bytes : ByteArray) (maxL : Nat) (rt : Option FieldType) (n : Nat) : Prop := Cond.code y bytes maxL rt ∈ TB ∧ (own, index, y, "VouchFlow") ∈ NL ∧ Cond.static y ∈ TB ∧ Cond.initialized y.cls ∈ TB ∧ (y.cls ≠ "java/lang/invoke/MethodHandle" ∧ y.cls ≠ "java/lang/invoke/VarHandle" ∧ (parseMethodDescriptor y.desc).map (fun d => d.parameters.length) = some n)
def RC (w : Wt) (k : Nat) (Cn : String) : Prop := ∀ S : St, ∃ (ci : Nat) (q : vw_C) (fs : List Value), vwCl[ci]? = some q ∧ q.1 = Cn ∧ (Wd w S)[k]? = some (w.2.1 k, .inr (ci, fs))
def roomOk (rc R : Room) (maxL : Nat) : Prop := (rc.cells = 0 ∧ rc.slots = 0) ∧ rc.frames + 1 ≤ R.frames ∧ 8 + (maxL + 11) + rc.locals ≤ R.locals
theorem aw_in {w : Wt} {A : Nat → Prop} (hA : ∀ k, k < 39 → A (w.2.1 k)) : ∀ q, AW w q → A q := fun q ⟨k, h1, h2⟩ => h2 ▸ hA k h1
theorem j_callVi (C : Cx X w l0 cc n0 own rm ret) {ty : FieldType} {y : MethodName} {bytes : ByteArray} {maxL n index : Nat} {rc : Room} {stk : List Value} (k : Nat) (As : List Value) {Q0 : Int32 → St → Prop} (hM : MI l0 w y bytes maxL ty rc (rr w k :: As) S Q0) (hw : CV own index y bytes maxL (some ty) n) (hrm : roomOk rc rm maxL) (hn : As.length = n) (hrc : RC w k y.cls) (hst : stk = As.reverse ++ rr w k :: st) (hcat : (st.map fun v => v.category).sum ≤ 8) (hd : decode cc pc = .ok (.invokevirtual index, 3)) (h : ∀ (r : Int32) (S1 : St), Q0 r S1 → J X w Q (pc + 3) lv (.int r :: st) S1) : J X w Q pc lv stk S := by
  obtain ⟨p, l, e, R, s, m, args, below, meth, c, A, nL, cells, slots⟩ := X
  intro H locs ls hP hS hl
  obtain ⟨⟨hx, hb, hml, hown, hts⟩, hG, hW, hA, hR, hn1, hrt, hlk, hc1, hc2, hl0⟩ := C
  subst hR
  subst hl0
  subst hst
  obtain ⟨k1, k2, k3, k4, k5, k6⟩ := hw
  have cw : CallW R s args own y.cls index y bytes maxL (some ty) (.code y bytes maxL (some ty) :: TB) rc 0 0 n := ⟨callB_of n hts (tb_good k1) rfl hrm.1.1 hrm.1.2 (hts _ k5) (hts _ k2) k6 hrm.2, hts _ k3, hts _ k4⟩
  have hp : PreV s H y.cls (w.2.1 k) (va_Pc (rr w k :: As) (Pw w S)) As := ⟨pw_blind w S _, by obtain ⟨ci, q, fs, hc, hq, he⟩ := hrc S; rw [← hq]; exact va_recv hG.1 hP hc he, fun U hU hWm => ⟨rfl, by rw [hU]; exact hP, GK.moved hWm hG⟩⟩
  refine va_calli (va_runV (As := As) (rest := st) ⟨hx, hb, hml, hown, hts⟩ hM cw hp rfl hn (by exact hl.1) rfl (lv_room hcat) hd ⟨by simpa using hc1, by simpa using hc2⟩) hS (fun q _ => aw_in hA q) (aw_in hA) (fun r u t H1 locs1 ht hvm hw1 hB hz1 hk1 hS1 => ?_)
  have hP1 : va_P w.1 vwCl (Wd w u) H1 := by rw [← ht]; exact hB
  exact h r u hw1 H1 locs1 ls hP1 hS1 hl
theorem j_callVl (C : Cx X w l0 cc n0 own rm ret) {y : MethodName} {bytes : ByteArray} {maxL n index : Nat} {rc : Room} {stk : List Value} (k : Nat) (As : List Value) {Q0 : Int64 → St → Prop} (hM : ML l0 w y bytes maxL rc (rr w k :: As) S Q0) (hw : CV own index y bytes maxL (some .long) n) (hrm : roomOk rc rm maxL) (hn : As.length = n) (hrc : RC w k y.cls) (hst : stk = As.reverse ++ rr w k :: st) (hcat : (st.map fun v => v.category).sum ≤ 8) (hd : decode cc pc = .ok (.invokevirtual index, 3)) (h : ∀ (r : Int64) (S1 : St), Q0 r S1 → J X w Q (pc + 3) lv (.long r :: st) S1) : J X w Q pc lv stk S := by
  obtain ⟨p, l, e, R, s, m, args, below, meth, c, A, nL, cells, slots⟩ := X
  intro H locs ls hP hS hl
  obtain ⟨⟨hx, hb, hml, hown, hts⟩, hG, hW, hA, hR, hn1, hrt, hlk, hc1, hc2, hl0⟩ := C
  subst hR
  subst hl0
  subst hst
  obtain ⟨k1, k2, k3, k4, k5, k6⟩ := hw
  have cw : CallW R s args own y.cls index y bytes maxL (some .long) (.code y bytes maxL (some .long) :: TB) rc 0 0 n := ⟨callB_of n hts (tb_good k1) rfl hrm.1.1 hrm.1.2 (hts _ k5) (hts _ k2) k6 hrm.2, hts _ k3, hts _ k4⟩
  have hp : PreV s H y.cls (w.2.1 k) (va_Pc (rr w k :: As) (Pw w S)) As := ⟨pw_blind w S _, by obtain ⟨ci, q, fs, hc, hq, he⟩ := hrc S; rw [← hq]; exact va_recv hG.1 hP hc he, fun U hU hWm => ⟨rfl, by rw [hU]; exact hP, GK.moved hWm hG⟩⟩
  refine va_calll (va_runV (As := As) (rest := st) ⟨hx, hb, hml, hown, hts⟩ hM cw hp rfl hn (by exact hl.1) rfl (lv_room hcat) hd ⟨by simpa using hc1, by simpa using hc2⟩) hS (fun q _ => aw_in hA q) (aw_in hA) (fun r u t H1 locs1 ht hvm hw1 hB hz1 hk1 hS1 => ?_)
  have hP1 : va_P w.1 vwCl (Wd w u) H1 := by rw [← ht]; exact hB
  exact h r u hw1 H1 locs1 ls hP1 hS1 hl
theorem j_callVv (C : Cx X w l0 cc n0 own rm ret) {y : MethodName} {bytes : ByteArray} {maxL n index : Nat} {rc : Room} {stk : List Value} (k : Nat) (As : List Value) {Q0 : St → Prop} (hM : MV l0 w y bytes maxL rc (rr w k :: As) S Q0) (hw : CV own index y bytes maxL none n) (hrm : roomOk rc rm maxL) (hn : As.length = n) (hrc : RC w k y.cls) (hst : stk = As.reverse ++ rr w k :: st) (hcat : (st.map fun v => v.category).sum ≤ 8) (hd : decode cc pc = .ok (.invokevirtual index, 3)) (h : ∀ (S1 : St), Q0 S1 → J X w Q (pc + 3) lv st S1) : J X w Q pc lv stk S := by
  obtain ⟨p, l, e, R, s, m, args, below, meth, c, A, nL, cells, slots⟩ := X
  intro H locs ls hP hS hl
  obtain ⟨⟨hx, hb, hml, hown, hts⟩, hG, hW, hA, hR, hn1, hrt, hlk, hc1, hc2, hl0⟩ := C
  subst hR
  subst hl0
  subst hst
  obtain ⟨k1, k2, k3, k4, k5, k6⟩ := hw
  have cw : CallW R s args own y.cls index y bytes maxL none (.code y bytes maxL none :: TB) rc 0 0 n := ⟨callB_of n hts (tb_good k1) rfl hrm.1.1 hrm.1.2 (hts _ k5) (hts _ k2) k6 hrm.2, hts _ k3, hts _ k4⟩
  have hp : PreV s H y.cls (w.2.1 k) (va_Pc (rr w k :: As) (Pw w S)) As := ⟨pw_blind w S _, by obtain ⟨ci, q, fs, hc, hq, he⟩ := hrc S; rw [← hq]; exact va_recv hG.1 hP hc he, fun U hU hWm => ⟨rfl, by rw [hU]; exact hP, GK.moved hWm hG⟩⟩
  refine va_callv (va_runV (As := As) (rest := st) ⟨hx, hb, hml, hown, hts⟩ hM cw hp rfl hn (by exact hl.1) rfl (lv_room hcat) hd ⟨by simpa using hc1, by simpa using hc2⟩) hS (fun q _ => aw_in hA q) (aw_in hA) (fun u t H1 locs1 ht hvm hw1 hB hz1 hk1 hS1 => ?_)
  have hP1 : va_P w.1 vwCl (Wd w u) H1 := by rw [← ht]; exact hB
  exact h u hw1 H1 locs1 ls hP1 hS1 hl
theorem j_callSi (C : Cx X w l0 cc n0 own rm ret) {ty : FieldType} {y : MethodName} {bytes : ByteArray} {maxL n index : Nat} {rc : Room} {stk : List Value} (As : List Value) {Q0 : Int32 → St → Prop} (hM : MI l0 w y bytes maxL ty rc As S Q0) (hw : CS own index y bytes maxL (some ty) n) (hrm : roomOk rc rm maxL) (hn : As.length = n) (hst : stk = As.reverse ++ st) (hcat : (st.map fun v => v.category).sum ≤ 8) (hd : decode cc pc = .ok (.invokestatic index, 3)) (h : ∀ (r : Int32) (S1 : St), Q0 r S1 → J X w Q (pc + 3) lv (.int r :: st) S1) : J X w Q pc lv stk S := by
  obtain ⟨p, l, e, R, s, m, args, below, meth, c, A, nL, cells, slots⟩ := X
  intro H locs ls hP hS hl
  obtain ⟨⟨hx, hb, hml, hown, hts⟩, hG, hW, hA, hR, hn1, hrt, hlk, hc1, hc2, hl0⟩ := C
  subst hR
  subst hl0
  subst hst
  obtain ⟨k1, k2, k3, k5, k6⟩ := hw
  have cw : CallB R s args own index y bytes maxL (some ty) (.code y bytes maxL (some ty) :: TB) rc 0 0 n ∧ (Cond.static y).before args s = true := ⟨callB_of n hts (tb_good k1) rfl hrm.1.1 hrm.1.2 (hts _ k5) (hts _ k2) k6 hrm.2, hts _ k3⟩
  have hp : PreS s H (va_Pc As (Pw w S)) As := ⟨pw_blind w S _, fun U hU hWm => ⟨rfl, by rw [hU]; exact hP, GK.moved hWm hG⟩⟩
  refine va_calli (va_runS (As := As) (rest := st) ⟨hx, hb, hml, hown, hts⟩ hM cw hp rfl hn (by exact hl.1) rfl (lv_room hcat) hd ⟨by simpa using hc1, by simpa using hc2⟩) hS (fun q _ => aw_in hA q) (aw_in hA) (fun r u t H1 locs1 ht hvm hw1 hB hz1 hk1 hS1 => ?_)
  have hP1 : va_P w.1 vwCl (Wd w u) H1 := by rw [← ht]; exact hB
  exact h r u hw1 H1 locs1 ls hP1 hS1 hl
theorem j_callSl (C : Cx X w l0 cc n0 own rm ret) {y : MethodName} {bytes : ByteArray} {maxL n index : Nat} {rc : Room} {stk : List Value} (As : List Value) {Q0 : Int64 → St → Prop} (hM : ML l0 w y bytes maxL rc As S Q0) (hw : CS own index y bytes maxL (some .long) n) (hrm : roomOk rc rm maxL) (hn : As.length = n) (hst : stk = As.reverse ++ st) (hcat : (st.map fun v => v.category).sum ≤ 8) (hd : decode cc pc = .ok (.invokestatic index, 3)) (h : ∀ (r : Int64) (S1 : St), Q0 r S1 → J X w Q (pc + 3) lv (.long r :: st) S1) : J X w Q pc lv stk S := by
  obtain ⟨p, l, e, R, s, m, args, below, meth, c, A, nL, cells, slots⟩ := X
  intro H locs ls hP hS hl
  obtain ⟨⟨hx, hb, hml, hown, hts⟩, hG, hW, hA, hR, hn1, hrt, hlk, hc1, hc2, hl0⟩ := C
  subst hR
  subst hl0
  subst hst
  obtain ⟨k1, k2, k3, k5, k6⟩ := hw
  have cw : CallB R s args own index y bytes maxL (some .long) (.code y bytes maxL (some .long) :: TB) rc 0 0 n ∧ (Cond.static y).before args s = true := ⟨callB_of n hts (tb_good k1) rfl hrm.1.1 hrm.1.2 (hts _ k5) (hts _ k2) k6 hrm.2, hts _ k3⟩
  have hp : PreS s H (va_Pc As (Pw w S)) As := ⟨pw_blind w S _, fun U hU hWm => ⟨rfl, by rw [hU]; exact hP, GK.moved hWm hG⟩⟩
  refine va_calll (va_runS (As := As) (rest := st) ⟨hx, hb, hml, hown, hts⟩ hM cw hp rfl hn (by exact hl.1) rfl (lv_room hcat) hd ⟨by simpa using hc1, by simpa using hc2⟩) hS (fun q _ => aw_in hA q) (aw_in hA) (fun r u t H1 locs1 ht hvm hw1 hB hz1 hk1 hS1 => ?_)
  have hP1 : va_P w.1 vwCl (Wd w u) H1 := by rw [← ht]; exact hB
  exact h r u hw1 H1 locs1 ls hP1 hS1 hl
theorem j_callSv (C : Cx X w l0 cc n0 own rm ret) {y : MethodName} {bytes : ByteArray} {maxL n index : Nat} {rc : Room} {stk : List Value} (As : List Value) {Q0 : St → Prop} (hM : MV l0 w y bytes maxL rc As S Q0) (hw : CS own index y bytes maxL none n) (hrm : roomOk rc rm maxL) (hn : As.length = n) (hst : stk = As.reverse ++ st) (hcat : (st.map fun v => v.category).sum ≤ 8) (hd : decode cc pc = .ok (.invokestatic index, 3)) (h : ∀ (S1 : St), Q0 S1 → J X w Q (pc + 3) lv st S1) : J X w Q pc lv stk S := by
  obtain ⟨p, l, e, R, s, m, args, below, meth, c, A, nL, cells, slots⟩ := X
  intro H locs ls hP hS hl
  obtain ⟨⟨hx, hb, hml, hown, hts⟩, hG, hW, hA, hR, hn1, hrt, hlk, hc1, hc2, hl0⟩ := C
  subst hR
  subst hl0
  subst hst
  obtain ⟨k1, k2, k3, k5, k6⟩ := hw
  have cw : CallB R s args own index y bytes maxL none (.code y bytes maxL none :: TB) rc 0 0 n ∧ (Cond.static y).before args s = true := ⟨callB_of n hts (tb_good k1) rfl hrm.1.1 hrm.1.2 (hts _ k5) (hts _ k2) k6 hrm.2, hts _ k3⟩
  have hp : PreS s H (va_Pc As (Pw w S)) As := ⟨pw_blind w S _, fun U hU hWm => ⟨rfl, by rw [hU]; exact hP, GK.moved hWm hG⟩⟩
  refine va_callv (va_runS (As := As) (rest := st) ⟨hx, hb, hml, hown, hts⟩ hM cw hp rfl hn (by exact hl.1) rfl (lv_room hcat) hd ⟨by simpa using hc1, by simpa using hc2⟩) hS (fun q _ => aw_in hA q) (aw_in hA) (fun u t H1 locs1 ht hvm hw1 hB hz1 hk1 hS1 => ?_)
  have hP1 : va_P w.1 vwCl (Wd w u) H1 := by rw [← ht]; exact hB
  exact h u hw1 H1 locs1 ls hP1 hS1 hl
theorem j_callNi (C : Cx X w l0 cc n0 own rm ret) {ty : FieldType} {y : MethodName} {bytes : ByteArray} {maxL n index : Nat} {rc : Room} {stk : List Value} (As : List Value) {Q0 : Int32 → St → Prop} (hM : MI l0 w y bytes maxL ty rc As S Q0) (hw : CN own index y bytes maxL (some ty) n) (hrm : roomOk rc rm maxL) (hn : As.length = n) (hst : stk = As.reverse ++ st) (hcat : (st.map fun v => v.category).sum ≤ 8) (hd : decode cc pc = .ok (.invokestatic index, 3)) (h : ∀ (r : Int32) (S1 : St), Q0 r S1 → J X w Q (pc + 3) lv (.int r :: st) S1) : J X w Q pc lv stk S := by
  obtain ⟨p, l, e, R, s, m, args, below, meth, c, A, nL, cells, slots⟩ := X
  intro H locs ls hP hS hl
  obtain ⟨⟨hx, hb, hml, hown, hts⟩, hG, hW, hA, hR, hn1, hrt, hlk, hc1, hc2, hl0⟩ := C
  subst hR
  subst hl0
  subst hst
  obtain ⟨k1, k2, k3, k5, k6⟩ := hw
  have cw : va_CN R s args own index y "VouchFlow" bytes maxL (some ty) (.code y bytes maxL (some ty) :: TB) rc 0 0 n ∧ (Cond.static y).before args s = true ∧ True := ⟨va_cnB n hts (tb_good k1) rfl hrm.1.1 hrm.1.2 (hG.2 _ k2) (hts _ k5) k6 hrm.2, hts _ k3, trivial⟩
  have hp : PreS s H (va_Pc As (Pw w S)) As := ⟨pw_blind w S _, fun U hU hWm => ⟨rfl, by rw [hU]; exact hP, GK.moved hWm hG⟩⟩
  refine va_calli (va_runSN (As := As) (rest := st) ⟨hx, hb, hml, hown, hts⟩ hM cw hp rfl hn (by exact hl.1) rfl (lv_room hcat) hd ⟨by simpa using hc1, by simpa using hc2⟩) hS (fun q _ => aw_in hA q) (aw_in hA) (fun r u t H1 locs1 ht hvm hw1 hB hz1 hk1 hS1 => ?_)
  have hP1 : va_P w.1 vwCl (Wd w u) H1 := by rw [← ht]; exact hB
  exact h r u hw1 H1 locs1 ls hP1 hS1 hl
theorem m_MI {l : Launch} {ty : FieldType} {y : MethodName} {cc : ByteArray} {n0 : Nat} {rm : Room} {av : List Value} {Q0 : Int32 → St → Prop} (hw : WOK w) (hy : plainName y.cls = true) (hown : y.cls = own) (hlen : (lg_sl av).length ≤ n0) (hlv : lv_args 0 av = lv) (h : ∀ X : Mx, Cx X w l cc n0 own rm (some ty) → J X w (QI X w Q0) 0 lv [] S) : MI l w y cc n0 ty rm av S Q0 := by
  refine Met.ofW (cc := cc) (maxL := n0) (ret := (some ty)) hy rfl ?_
  intro p e s m args below meth c s₁ B hml hv
  obtain ⟨rfl, hP, hG⟩ := hv
  have hts0 := atoms_spec (ws := .code y cc n0 (some ty) :: TB) B.pre
  have hts : ∀ x ∈ TB, x.before av.toArray s = true := fun x hx => hts0 x (List.mem_cons_of_mem _ hx)
  have ho : s.vm.findClass own = some m.cls := by rw [← hown]; exact findClass_of_methodNamed B.named
  have hC : Cx (p, l, e, (headSpec (.code y cc n0 (some ty) :: TB) rm).room, s, m, av.toArray, below, meth, c, AW w, n0, 0, 0) w l cc n0 own rm (some ty) := ⟨⟨B.exec, B.bytes, hml, ho, hts⟩, hG, hw, fun k hk => ⟨k, hk, rfl⟩, rfl, rfl, B.returns, B.notSynchronized, Nat.zero_le _, Nat.zero_le _, rfl⟩
  have hl := lv_entry av (n := n0) hlen
  rw [lg_entry_eq]
  rw [hlv] at hl
  exact h _ hC s.heap [] _ hP va_S.rf hl
theorem m_ML {l : Launch} {y : MethodName} {cc : ByteArray} {n0 : Nat} {rm : Room} {av : List Value} {Q0 : Int64 → St → Prop} (hw : WOK w) (hy : plainName y.cls = true) (hown : y.cls = own) (hlen : (lg_sl av).length ≤ n0) (hlv : lv_args 0 av = lv) (h : ∀ X : Mx, Cx X w l cc n0 own rm (some .long) → J X w (QL X w Q0) 0 lv [] S) : ML l w y cc n0 rm av S Q0 := by
  refine Met.ofW (cc := cc) (maxL := n0) (ret := (some .long)) hy rfl ?_
  intro p e s m args below meth c s₁ B hml hv
  obtain ⟨rfl, hP, hG⟩ := hv
  have hts0 := atoms_spec (ws := .code y cc n0 (some .long) :: TB) B.pre
  have hts : ∀ x ∈ TB, x.before av.toArray s = true := fun x hx => hts0 x (List.mem_cons_of_mem _ hx)
  have ho : s.vm.findClass own = some m.cls := by rw [← hown]; exact findClass_of_methodNamed B.named
  have hC : Cx (p, l, e, (headSpec (.code y cc n0 (some .long) :: TB) rm).room, s, m, av.toArray, below, meth, c, AW w, n0, 0, 0) w l cc n0 own rm (some .long) := ⟨⟨B.exec, B.bytes, hml, ho, hts⟩, hG, hw, fun k hk => ⟨k, hk, rfl⟩, rfl, rfl, B.returns, B.notSynchronized, Nat.zero_le _, Nat.zero_le _, rfl⟩
  have hl := lv_entry av (n := n0) hlen
  rw [lg_entry_eq]
  rw [hlv] at hl
  exact h _ hC s.heap [] _ hP va_S.rf hl
theorem m_MV {l : Launch} {y : MethodName} {cc : ByteArray} {n0 : Nat} {rm : Room} {av : List Value} {Q0 : St → Prop} (hw : WOK w) (hy : plainName y.cls = true) (hown : y.cls = own) (hlen : (lg_sl av).length ≤ n0) (hlv : lv_args 0 av = lv) (h : ∀ X : Mx, Cx X w l cc n0 own rm none → J X w (QV X w Q0) 0 lv [] S) : MV l w y cc n0 rm av S Q0 := by
  refine Met.ofW (cc := cc) (maxL := n0) (ret := none) hy rfl ?_
  intro p e s m args below meth c s₁ B hml hv
  obtain ⟨rfl, hP, hG⟩ := hv
  have hts0 := atoms_spec (ws := .code y cc n0 none :: TB) B.pre
  have hts : ∀ x ∈ TB, x.before av.toArray s = true := fun x hx => hts0 x (List.mem_cons_of_mem _ hx)
  have ho : s.vm.findClass own = some m.cls := by rw [← hown]; exact findClass_of_methodNamed B.named
  have hC : Cx (p, l, e, (headSpec (.code y cc n0 none :: TB) rm).room, s, m, av.toArray, below, meth, c, AW w, n0, 0, 0) w l cc n0 own rm none := ⟨⟨B.exec, B.bytes, hml, ho, hts⟩, hG, hw, fun k hk => ⟨k, hk, rfl⟩, rfl, rfl, B.returns, B.notSynchronized, Nat.zero_le _, Nat.zero_le _, rfl⟩
  have hl := lv_entry av (n := n0) hlen
  rw [lg_entry_eq]
  rw [hlv] at hl
  exact h _ hC s.heap [] _ hP va_S.rf hl
end Rows
