/-! ===== constructors: the world grows cell by cell ===== -/
def JN (X : Mx) (w : Wt) (Q : State → Prop) (pc : Nat) (lv : List (Nat × Value)) (st : List Value) (ws : va_W) (cells slots : Nat) : Prop := match X with
  | (p, l, e, R, s, m, args, below, meth, c, A, nL, _, _) => ∀ (H : Heap) (locs : List Loc) (ls : Array Slot), va_P w.1 vwCl ws H → va_D A ws → va_S A s.heap H locs → lv_has ls nL lv → W p l e R s m args below meth c H locs cells slots Q (F0 m pc ls st)
def Ck (X : Mx) (w : Wt) (l0 : Launch) (cc : ByteArray) (n0 : Nat) (own : String) (rm : Room) (ret : Option FieldType) (ini : Bool) : Prop := match X with
  | (p, l, e, R, s, m, args, below, meth, c, A, nL, _, _) => (p.tables.exec = Jvm.exec ∧ c.code = cc ∧ c.maxLocals = nL ∧ s.vm.findClass own = some m.cls ∧ (∀ x ∈ TB, x.before args s = true)) ∧ GK w s ∧ (∀ q : Nat, s.heap.size ≤ q → A q) ∧ R = rm ∧ nL = n0 ∧ meth.sig.returnType = ret ∧ meth.locks = false ∧ (ini = true → meth.name = "<init>") ∧ l = l0
def QN (X : Mx) (w : Wt) (post : va_W → Prop) (mc ms : Nat) : State → Prop := match X with
  | (p, l, e, R, s, m, args, below, meth, c, A, nL, _, _) => MQ below (va_Qv post (fun u t => va_P w.1 vwCl u t.heap ∧ va_D A u) A) args s mc ms A
def MK (l : Launch) (w : Wt) (y : MethodName) (cc : ByteArray) (nL : Nat) (rm : Room) (h0 : Nat) (ws : va_W) (mc ms : Nat) (post : va_W → Prop) : Prop := ∀ sz : Nat, Met l y (.code y cc nL none :: TB) rm (va_Pc [.ref h0] (fun U => U.heap.size = sz ∧ va_P w.1 vwCl ws U.heap ∧ GK w U ∧ va_D (fun _ => True) ws)) (va_Qv post (fun u t => va_P w.1 vwCl u t.heap ∧ va_D (va_A ws sz) u) (va_A ws sz)) mc ms (va_A ws sz)
section CRows
variable {X : Mx} {w : Wt} {l0 : Launch} {cc : ByteArray} {n0 : Nat} {own : String} {rm : Room} {ret : Option FieldType} {ini : Bool} {Q : State → Prop} {pc : Nat} {lv lv' : List (Nat × Value)} {st : List Value} {ws wr : va_W} {cells slots : Nat}
theorem jn_iconst (C : Ck X w l0 cc n0 own rm ret ini) {n : Int} {v : Int32} (hd : decode cc pc = .ok (.iconst n, 1)) (hv : Int32.ofInt n = v) (h : JN X w Q (pc + 1) lv (.int v :: st) ws cells slots) : JN X w Q pc lv st ws cells slots := by
  obtain ⟨p, l, e, R, s, m, args, below, meth, c, A, nL, c7, c8⟩ := X
  intro H locs ls hP hD hS hl
  obtain ⟨⟨hx, hb, hml, hown, hts⟩, hG, hA, hR, hn, hrt, hlk, hini, hl0⟩ := C
  exact lv_iconst hx hb hd hv (h H locs ls hP hD hS hl)
theorem jn_bipush (C : Ck X w l0 cc n0 own rm ret ini) {n : Int} {v : Int32} (hd : decode cc pc = .ok (.bipush n, 2)) (hv : (Int8.ofInt n).toInt32 = v) (h : JN X w Q (pc + 2) lv (.int v :: st) ws cells slots) : JN X w Q pc lv st ws cells slots := by
  obtain ⟨p, l, e, R, s, m, args, below, meth, c, A, nL, c7, c8⟩ := X
  intro H locs ls hP hD hS hl
  obtain ⟨⟨hx, hb, hml, hown, hts⟩, hG, hA, hR, hn, hrt, hlk, hini, hl0⟩ := C
  exact lv_bipush hx hb hd hv (h H locs ls hP hD hS hl)
theorem jn_sipush (C : Ck X w l0 cc n0 own rm ret ini) {n : Int} {v : Int32} (hd : decode cc pc = .ok (.sipush n, 3)) (hv : (Int16.ofInt n).toInt32 = v) (h : JN X w Q (pc + 3) lv (.int v :: st) ws cells slots) : JN X w Q pc lv st ws cells slots := by
  obtain ⟨p, l, e, R, s, m, args, below, meth, c, A, nL, c7, c8⟩ := X
  intro H locs ls hP hD hS hl
  obtain ⟨⟨hx, hb, hml, hown, hts⟩, hG, hA, hR, hn, hrt, hlk, hini, hl0⟩ := C
  exact lv_sipush hx hb hd hv (h H locs ls hP hD hS hl)
theorem jn_aload_n (C : Ck X w l0 cc n0 own rm ret ini) {k : Fin 4} {i : Nat} {x : Nat} (hd : decode cc pc = .ok (.aload_n k, 1)) (q : Nat) (hq : lv[q]? = some (i, .ref x)) (hi : (k : Nat) = i) (h : JN X w Q (pc + 1) lv (.ref x :: st) ws cells slots) : JN X w Q pc lv st ws cells slots := by
  obtain ⟨p, l, e, R, s, m, args, below, meth, c, A, nL, c7, c8⟩ := X
  intro H locs ls hP hD hS hl
  obtain ⟨⟨hx, hb, hml, hown, hts⟩, hG, hA, hR, hn, hrt, hlk, hini, hl0⟩ := C
  exact lv_aload_n hx hb hd hi (lv_at hl q hq) (h H locs ls hP hD hS hl)
theorem jn_dup (C : Ck X w l0 cc n0 own rm ret ini) {v : Value} (hd : decode cc pc = .ok (.dup, 1)) (hv : v.category = 1) (h : JN X w Q (pc + 1) lv (v :: v :: st) ws cells slots) : JN X w Q pc lv (v :: st) ws cells slots := by
  obtain ⟨p, l, e, R, s, m, args, below, meth, c, A, nL, c7, c8⟩ := X
  intro H locs ls hP hD hS hl
  obtain ⟨⟨hx, hb, hml, hown, hts⟩, hG, hA, hR, hn, hrt, hlk, hini, hl0⟩ := C
  exact lv_dup hx hb hd hv (h H locs ls hP hD hS hl)
theorem jn_astore_n (C : Ck X w l0 cc n0 own rm ret ini) {k : Fin 4} {i : Nat} {x : Nat} (hd : decode cc pc = .ok (.astore_n k, 1)) (hi : (k : Nat) = i) (hn0 : i < n0) (hlv : (i, Value.ref x) :: lv.filter (fun q => !(q.1 == i) && !(q.1 + 1 == i && q.2.category == 2)) = lv') (h : JN X w Q (pc + 1) lv' st ws cells slots) : JN X w Q pc lv (.ref x :: st) ws cells slots := by
  obtain ⟨p, l, e, R, s, m, args, below, meth, c, A, nL, c7, c8⟩ := X
  intro H locs ls hP hD hS hl
  obtain ⟨⟨hx, hb, hml, hown, hts⟩, hG, hA, hR, hn, hrt, hlk, hini, hl0⟩ := C
  exact lv_astore_n hx hb hd hi hl (by omega) hlv (fun ls' hl' => h H locs ls' hP hD hS hl')
theorem jn_istore_n (C : Ck X w l0 cc n0 own rm ret ini) {k : Fin 4} {i : Nat} {x : Int32} (hd : decode cc pc = .ok (.istore_n k, 1)) (hi : (k : Nat) = i) (hn0 : i < n0) (hlv : (i, Value.int x) :: lv.filter (fun q => !(q.1 == i) && !(q.1 + 1 == i && q.2.category == 2)) = lv') (h : JN X w Q (pc + 1) lv' st ws cells slots) : JN X w Q pc lv (.int x :: st) ws cells slots := by
  obtain ⟨p, l, e, R, s, m, args, below, meth, c, A, nL, c7, c8⟩ := X
  intro H locs ls hP hD hS hl
  obtain ⟨⟨hx, hb, hml, hown, hts⟩, hG, hA, hR, hn, hrt, hlk, hini, hl0⟩ := C
  exact lv_istore_n hx hb hd hi hl (by omega) hlv (fun ls' hl' => h H locs ls' hP hD hS hl')
theorem jn_obj (C : Ck X w l0 cc n0 own rm ret ini) {index a : Nat} (k1 : Cond.methodLink own index Lib.objectInit ∈ TB) (k2 : Cond.instanceMethod Lib.objectInit ∈ TB) (k3 : Cond.code Lib.objectInit ⟨#[0xb1]⟩ 1 none ∈ TB) (hd : decode cc pc = .ok (.invokespecial index, 3)) (hfr : 1 ≤ rm.frames) (hlo : 2 * 0 + (st.map fun v => v.category).sum + 12 ≤ rm.locals) (h : JN X w Q (pc + 3) lv st ws cells slots) : JN X w Q pc lv (.ref a :: st) ws cells slots := by
  obtain ⟨p, l, e, R, s, m, args, below, meth, c, A, nL, c7, c8⟩ := X
  intro H locs ls hP hD hS hl
  obtain ⟨⟨hx, hb, hml, hown, hts⟩, hG, hA, hR, hn, hrt, hlk, hini, hl0⟩ := C
  subst hR
  exact W.objInit hx hb hown (hts _ k1) (hts _ k2) (hts _ k3) (g := F0 m pc ls (.ref a :: st)) rfl (by rw [hml]; exact hl.1) rfl hd hfr hlo (h H locs ls hP hD hS hl)
theorem jn_get (C : Ck X w l0 cc n0 own rm ret ini) {index ci N a : Nat} {Cn : String} {T : u_T} {fs : List Value} {v : Value} (k j : Nat) (he : ws[k]? = some (a, .inr (ci, fs))) (hc : vwCl[ci]? = some (Cn, T, N)) (hj : j < N) (hin : ∀ x ∈ u_ws Cn T N, x ∈ TB) (hlk0 : Cond.fieldLink own index (T j).1 (T j).2.1 (T j).2.2.1 ∈ TB) (hv : fs[j]? = some v) (hd : decode cc pc = .ok (.getfield index, 3)) (h : JN X w Q (pc + 3) lv (v :: st) ws cells slots) : JN X w Q pc lv (.ref a :: st) ws cells slots := by
  obtain ⟨p, l, e, R, s, m, args, below, meth, c, A, nL, c7, c8⟩ := X
  intro H locs ls hP hD hS hl
  obtain ⟨⟨hx, hb, hml, hown, hts⟩, hG, hA, hR, hn, hrt, hlk, hini, hl0⟩ := C
  exact va_get hx hb hts hin hown hG.1 hP k he hc j hj (hts _ hlk0) (fun _ h9 => h9) hv hd (h H locs ls hP hD hS hl)
theorem jn_putF (C : Ck X w l0 cc n0 own rm ret true) {index ci N a : Nat} {Cn : String} {T : u_T} {fs : List Value} {v : Value} {ty : FieldType} (k j : Nat) (he : ws[k]? = some (a, .inr (ci, fs))) (hc : vwCl[ci]? = some (Cn, T, N)) (hj : j < N) (hin : ∀ x ∈ u_ws Cn T N, x ∈ TB) (ty0 : Nat → FieldType) (hty : ∀ k, k < N → parseFieldDescriptor (T k).2.2.1 = some (ty0 k)) (hnm : ∀ a, a < N → ∀ b, b < N → a ≠ b → (T a).2.1 ≠ (T b).2.1) (hlk0 : Cond.fieldLink own index (T j).1 (T j).2.1 (T j).2.2.1 ∈ TB) (hfin : (T j).2.2.2 = true) (hdecl : (T j).1 = own) (hd0 : parseFieldDescriptor (T j).2.2.1 = some ty) (hn0 : narrow ty v = v) (hfit : fits ty v = true) (hl0 : j < fs.length) (hd : decode cc pc = .ok (.putfield index, 3)) (h : JN X w Q (pc + 3) lv st (ws.set k (a, .inr (ci, fs.set j v))) cells slots) : JN X w Q pc lv (v :: .ref a :: st) ws cells slots := by
  obtain ⟨p, l, e, R, s, m, args, below, meth, c, A, nL, c7, c8⟩ := X
  intro H locs ls hP hD hS hl
  obtain ⟨⟨hx, hb, hml, hown, hts⟩, hG, hA, hR, hn, hrt, hlk, hini, hl9⟩ := C
  exact va_putF hx hb hts hin ty0 hty hnm hown hG.1 hP hD hS k he hc j hj (hts _ hlk0) (fun _ h9 => h9) hfin (hini rfl) hdecl hd0 hn0 hfit hl0 hd (fun H1 locs1 hP1 hD1 hS1 => h H1 locs1 ls hP1 hD1 hS1 hl)
theorem jn_new (C : Ck X w l0 cc n0 own rm ret ini) {index ci N : Nat} {Cn : String} {T : u_T} {fs : List Value} (hc : vwCl[ci]? = some (Cn, T, N)) (hin : ∀ x ∈ u_ws Cn T N, x ∈ TB) (ty0 : Nat → FieldType) (hty : ∀ k, k < N → parseFieldDescriptor (T k).2.2.1 = some (ty0 k)) (k1 : Cond.classLink own index Cn ∈ TB) (k2 : Cond.instantiable Cn N ∈ TB) (k3 : Cond.initialized Cn ∈ TB) (hfs : ∀ j, j < N → defaultValue (ty0 j) = vp_V fs j) (hc1 : cells + 1 ≤ rm.cells) (hc2 : slots + N ≤ rm.slots) (hd : decode cc pc = .ok (.new index, 3)) (h : ∀ q : Nat, JN X w Q (pc + 3) lv (.ref q :: st) (ws ++ [(q, .inr (ci, fs))]) (cells + 1) (slots + N)) : JN X w Q pc lv st ws cells slots := by
  obtain ⟨p, l, e, R, s, m, args, below, meth, c, A, nL, c7, c8⟩ := X
  intro H locs ls hP hD hS hl
  obtain ⟨⟨hx, hb, hml, hown, hts⟩, hG, hA, hR, hn, hrt, hlk, hini, hl0⟩ := C
  subst hR
  exact va_new hx hb hts hin ty0 hty hown (hts _ k1) (hts _ k2) (hts _ k3) hG.1 hP hD hS hA hc hfs hc1 hc2 hd (fun q H1 hP1 hD1 hS1 => h q H1 locs ls hP1 hD1 hS1 hl)
theorem jn_newI (C : Ck X w l0 cc n0 own rm ret ini) {n : Int32} {N : Nat} (k1 : Cond.arrayClass .int ∈ TB) (hn : ¬ n < 0) (hN : n.toNatClampNeg = N) (hby : N * componentBytes .int ≤ 536870912) (hc1 : cells + 1 ≤ rm.cells) (hc2 : slots + N ≤ rm.slots) (hd : decode cc pc = .ok (.newarray .int, 2)) (h : ∀ q : Nat, JN X w Q (pc + 2) lv (.ref q :: st) (ws ++ [(q, .inl (w.2.2.1, N, .inl (fun _ => 0)))]) (cells + 1) (slots + N)) : JN X w Q pc lv (.int n :: st) ws cells slots := by
  obtain ⟨p, l, e, R, s, m, args, below, meth, c, A, nL, c7, c8⟩ := X
  intro H locs ls hP hD hS hl
  obtain ⟨⟨hx, hb, hml, hown, hts⟩, hG, hA, hR, hn9, hrt, hlk, hini, hl0⟩ := C
  subst hR
  refine va_newa (atype := .int) (ty := .int) (a0 := (N, .inl (fun _ => 0))) hx hb (hts _ k1) rfl hG.1 hP hD hS hA (fun _ => rfl) hn hN hby hc1 hc2 hd (fun q cA H1 hK1 hP1 hD1 hS1 => ?_)
  have e1 : s.vm.findClass ("[" ++ FieldType.int.toString) = some cA := (hK1.2 2 (cA, .int) rfl).2
  have e2 : s.vm.findClass ("[" ++ FieldType.int.toString) = some w.2.2.1 := (hG.1.2 0 (w.2.2.1, .int) rfl).2
  cases Option.some.inj (e1.symm.trans e2)
  exact h q H1 locs ls hP1 hD1 hS1 hl
theorem jn_newJ (C : Ck X w l0 cc n0 own rm ret ini) {n : Int32} {N : Nat} (k1 : Cond.arrayClass .long ∈ TB) (hn : ¬ n < 0) (hN : n.toNatClampNeg = N) (hby : N * componentBytes .long ≤ 536870912) (hc1 : cells + 1 ≤ rm.cells) (hc2 : slots + N ≤ rm.slots) (hd : decode cc pc = .ok (.newarray .long, 2)) (h : ∀ q : Nat, JN X w Q (pc + 2) lv (.ref q :: st) (ws ++ [(q, .inl (w.2.2.2, N, .inr (.inl (fun _ => 0))))]) (cells + 1) (slots + N)) : JN X w Q pc lv (.int n :: st) ws cells slots := by
  obtain ⟨p, l, e, R, s, m, args, below, meth, c, A, nL, c7, c8⟩ := X
  intro H locs ls hP hD hS hl
  obtain ⟨⟨hx, hb, hml, hown, hts⟩, hG, hA, hR, hn9, hrt, hlk, hini, hl0⟩ := C
  subst hR
  refine va_newa (atype := .long) (ty := .long) (a0 := (N, .inr (.inl (fun _ => 0)))) hx hb (hts _ k1) rfl hG.1 hP hD hS hA (fun _ => rfl) hn hN hby hc1 hc2 hd (fun q cA H1 hK1 hP1 hD1 hS1 => ?_)
  have e1 : s.vm.findClass ("[" ++ FieldType.long.toString) = some cA := (hK1.2 2 (cA, .long) rfl).2
  have e2 : s.vm.findClass ("[" ++ FieldType.long.toString) = some w.2.2.2 := (hG.1.2 1 (w.2.2.2, .long) rfl).2
  cases Option.some.inj (e1.symm.trans e2)
  exact h q H1 locs ls hP1 hD1 hS1 hl
theorem jn_vret {post : va_W → Prop} (C : Ck X w l0 cc n0 own rm none true) (hd : decode cc pc = .ok (.return_, 1)) (h : post ws) : JN X w (QN X w post cells slots) pc lv [] ws cells slots := by
  obtain ⟨p, l, e, R, s, m, args, below, meth, c, A, nL, c7, c8⟩ := X
  intro H locs ls hP hD hS hl
  obtain ⟨⟨hx, hb, hml, hown, hts⟩, hG, hA, hR, hn, hrt, hlk, hini, hl0⟩ := C
  exact W.vret hx hb hrt (fun t ht _ => ⟨⟨ws, rfl, h, by rw [ht]; exact hP, hD⟩, hS.F ht⟩) hS.2.2 hd hlk
def roomC (rc R : Room) (maxL cells slots mc ms : Nat) : Prop := (rc.cells = mc ∧ rc.slots = ms) ∧ (rc.frames + 1 ≤ R.frames ∧ 8 + (maxL + 11) + rc.locals ≤ R.locals) ∧ cells + mc ≤ R.cells ∧ slots + ms ≤ R.slots
def CI (y : MethodName) (bytes : ByteArray) : Prop := Cond.code y bytes 1 none ∈ TB ∧ Cond.instanceMethod y ∈ TB ∧ Cond.initialized y.cls ∈ TB ∧ y.name = "<init>" ∧ (y.cls ≠ "java/lang/invoke/MethodHandle" ∧ y.cls ≠ "java/lang/invoke/VarHandle" ∧ (parseMethodDescriptor y.desc).map (fun d => d.parameters.length) = some 0)
theorem mk_blind (w : Wt) (sz : Nat) (ws : va_W) (h0 : Nat) : FrameBlind (va_Pc [.ref h0] (fun U => U.heap.size = sz ∧ va_P w.1 vwCl ws U.heap ∧ GK w U ∧ va_D (fun _ => True) ws)) := fun a U g mk h => ⟨h.1, h.2.1, h.2.2.1, GK.same rfl h.2.2.2.1, h.2.2.2.2⟩
theorem jn_callN (C : Ck X w l0 cc n0 own rm ret ini) {y : MethodName} {bytes : ByteArray} {index mc ms q : Nat} {x : va_E} {rc : Room} {post : va_W → Prop} (k : Nat) (isR : List Nat) (hM : MK l0 w y bytes 1 rc q [(q, x)] mc ms post) (hw : CI y bytes) (hlnk : (own, index, y, "VouchFlow") ∈ NL) (hrm : roomC rc rm 1 cells slots mc ms) (hC : [k].map (fun i => ws[i]?) = [(q, x)].map some) (hR0 : isR.map (fun i => ws[i]?) = wr.map some) (hnd : va_nd isR = true) (hdis : ∀ i ∈ isR, i ∉ [k]) (hcat : (st.map fun v => v.category).sum ≤ 8) (hd : decode cc pc = .ok (.invokespecial index, 3)) (h : ∀ w1 : va_W, post w1 → JN X w Q (pc + 3) lv st (wr ++ w1) (cells + mc) (slots + ms)) : JN X w Q pc lv (.ref q :: st) ws cells slots := by
  obtain ⟨p, l, e, R, s, m, args, below, meth, c, A, nL, c7, c8⟩ := X
  intro H locs ls hP hD hS hl
  obtain ⟨⟨hx, hb, hml, hown, hts⟩, hG, hA, hR, hn, hrt, hlk, hini, hl0⟩ := C
  subst hR
  subst hl0
  obtain ⟨k1, k2, k3, k4, k5⟩ := hw
  have hPc : va_P w.1 vwCl [(q, x)] H := fun j z hz => by
    have hj : j < 1 := (List.getElem?_eq_some_iff.mp hz).1
    have hj0 : j = 0 := by omega
    subst hj0
    cases hz
    have e := congrArg (fun z => z[0]?) hC
    have e2 : some (ws[k]?) = some (some (q, x)) := e
    exact hP k _ (Option.some.inj e2)
  have hFc := va_free (wc := [(q, x)]) hD hS hA [k] hC
  have hDc : va_D (fun _ => True) [(q, x)] := ⟨fun i j p1 q1 h1 h2 _ => by have a1 : i < 1 := (List.getElem?_eq_some_iff.mp h1).1; have a2 : j < 1 := (List.getElem?_eq_some_iff.mp h2).1; omega, fun _ _ _ => trivial⟩
  have cw : va_CN R s args own index y "VouchFlow" bytes 1 none (.code y bytes 1 none :: TB) rc mc ms 0 := va_cnB 0 hts (tb_good k1) rfl hrm.1.1 hrm.1.2 (hG.2 _ hlnk) (hts _ k3) k5 hrm.2.1
  have hp : PreS s H (va_Pc [.ref q] (fun U => U.heap.size = H.size ∧ va_P w.1 vwCl [(q, x)] U.heap ∧ GK w U ∧ va_D (fun _ => True) [(q, x)])) (.ref q :: []) := ⟨mk_blind w H.size _ _, fun U hU hWm => ⟨rfl, by rw [hU], by rw [hU]; exact hPc, GK.moved hWm hG, hDc⟩⟩
  refine va_callv (va_runIN (As := []) (rest := st) ⟨hx, hb, hml, hown, hts⟩ (hM H.size) ⟨cw, k4, hts _ k2⟩ hp rfl rfl (by exact hl.1) rfl (lv_room hcat) hd hrm.2.2) hS (fun q _ h => hFc q h) hFc (fun u t H1 locs1 ht hvm hw1 hB hz1 hk1 hS1 => ?_)
  have hP1 : va_P w.1 vwCl u H1 := by rw [← ht]; exact hB.1
  obtain ⟨hP2, hD2⟩ := va_join (wr := wr) (w1 := u) hP hD [k] isR hC hR0 hnd hdis hk1 hFc hP1 hB.2
  exact h u hw1 H1 locs1 ls hP2 hD2 hS1 hl
theorem jn_callI (C : Ck X w l0 cc n0 own rm ret ini) {y : MethodName} {bytes : ByteArray} {index mc ms q : Nat} {x : va_E} {rc : Room} {post : va_W → Prop} (k : Nat) (isR : List Nat) (hM : MK l0 w y bytes 1 rc q [(q, x)] mc ms post) (hw : CI y bytes) (hlnk : Cond.methodLink own index y ∈ TB) (hrm : roomC rc rm 1 cells slots mc ms) (hC : [k].map (fun i => ws[i]?) = [(q, x)].map some) (hR0 : isR.map (fun i => ws[i]?) = wr.map some) (hnd : va_nd isR = true) (hdis : ∀ i ∈ isR, i ∉ [k]) (hcat : (st.map fun v => v.category).sum ≤ 8) (hd : decode cc pc = .ok (.invokespecial index, 3)) (h : ∀ w1 : va_W, post w1 → JN X w Q (pc + 3) lv st (wr ++ w1) (cells + mc) (slots + ms)) : JN X w Q pc lv (.ref q :: st) ws cells slots := by
  obtain ⟨p, l, e, R, s, m, args, below, meth, c, A, nL, c7, c8⟩ := X
  intro H locs ls hP hD hS hl
  obtain ⟨⟨hx, hb, hml, hown, hts⟩, hG, hA, hR, hn, hrt, hlk, hini, hl0⟩ := C
  subst hR
  subst hl0
  obtain ⟨k1, k2, k3, k4, k5⟩ := hw
  have hPc : va_P w.1 vwCl [(q, x)] H := fun j z hz => by
    have hj : j < 1 := (List.getElem?_eq_some_iff.mp hz).1
    have hj0 : j = 0 := by omega
    subst hj0
    cases hz
    have e := congrArg (fun z => z[0]?) hC
    have e2 : some (ws[k]?) = some (some (q, x)) := e
    exact hP k _ (Option.some.inj e2)
  have hFc := va_free (wc := [(q, x)]) hD hS hA [k] hC
  have hDc : va_D (fun _ => True) [(q, x)] := ⟨fun i j p1 q1 h1 h2 _ => by have a1 : i < 1 := (List.getElem?_eq_some_iff.mp h1).1; have a2 : j < 1 := (List.getElem?_eq_some_iff.mp h2).1; omega, fun _ _ _ => trivial⟩
  have cw : CallB R s args own index y bytes 1 none (.code y bytes 1 none :: TB) rc mc ms 0 := callB_of 0 hts (tb_good k1) rfl hrm.1.1 hrm.1.2 (hts _ k3) (hts _ hlnk) k5 hrm.2.1
  have hp : PreS s H (va_Pc [.ref q] (fun U => U.heap.size = H.size ∧ va_P w.1 vwCl [(q, x)] U.heap ∧ GK w U ∧ va_D (fun _ => True) [(q, x)])) (.ref q :: []) := ⟨mk_blind w H.size _ _, fun U hU hWm => ⟨rfl, by rw [hU], by rw [hU]; exact hPc, GK.moved hWm hG, hDc⟩⟩
  refine va_callv (va_runI (As := []) (rest := st) ⟨hx, hb, hml, hown, hts⟩ (hM H.size) ⟨cw, k4, hts _ k2⟩ hp rfl rfl (by exact hl.1) rfl (lv_room hcat) hd hrm.2.2) hS (fun q _ h => hFc q h) hFc (fun u t H1 locs1 ht hvm hw1 hB hz1 hk1 hS1 => ?_)
  have hP1 : va_P w.1 vwCl u H1 := by rw [← ht]; exact hB.1
  obtain ⟨hP2, hD2⟩ := va_join (wr := wr) (w1 := u) hP hD [k] isR hC hR0 hnd hdis hk1 hFc hP1 hB.2
  exact h u hw1 H1 locs1 ls hP2 hD2 hS1 hl
theorem mk_of {l : Launch} {y : MethodName} {cc : ByteArray} {rm : Room} {h0 mc ms : Nat} {x : va_E} {post : va_W → Prop} (hy : plainName y.cls = true) (hown : y.cls = own) (hnm : y.name = "<init>") (h : ∀ X : Mx, Ck X w l cc 1 own rm none true → JN X w (QN X w post mc ms) 0 [(0, .ref h0)] [] [(h0, x)] 0 0) : MK l w y cc 1 rm h0 [(h0, x)] mc ms post := by
  intro sz
  refine Met.ofW (cc := cc) (maxL := 1) (ret := none) hy rfl ?_
  intro p e s m args below meth c s₁ B hml hv
  obtain ⟨rfl, hsz, hP, hG, hD0⟩ := hv
  have hts0 := atoms_spec (ws := .code y cc 1 none :: TB) B.pre
  have hts : ∀ z ∈ TB, z.before ([Value.ref h0] : List Value).toArray s = true := fun z hz => hts0 z (List.mem_cons_of_mem _ hz)
  have ho : s.vm.findClass own = some m.cls := by rw [← hown]; exact findClass_of_methodNamed B.named
  have hin : meth.name = "<init>" := by rw [← hnm]; exact (name_of_methodNamed B.named B.method).1
  subst hsz
  have hC : Ck (p, l, e, (headSpec (.code y cc 1 none :: TB) rm).room, s, m, ([Value.ref h0] : List Value).toArray, below, meth, c, va_A [(h0, x)] s.heap.size, 1, 0, 0) w l cc 1 own rm none true := ⟨⟨B.exec, B.bytes, hml, ho, hts⟩, hG, fun q h => Or.inr h, rfl, rfl, B.returns, B.notSynchronized, fun _ => hin, rfl⟩
  have hl := lv_entry ([.ref h0]) (n := 1) (Nat.le_of_ble_eq_true rfl)
  rw [lg_entry_eq]
  exact h _ hC s.heap [] _ hP (hD0.self (sz := s.heap.size)) va_S.rf hl
end CRows
theorem kw_oi : Cond.instanceMethod Lib.objectInit ∈ TB := tb_mem 104 (by decide +kernel) rfl
theorem kw_oc : Cond.code Lib.objectInit ⟨#[0xb1]⟩ 1 none ∈ TB := tb_mem 105 (by decide +kernel) rfl
theorem kw_aI : Cond.arrayClass .int ∈ TB := tb_mem 148 (by decide +kernel) rfl
theorem kw_aJ : Cond.arrayClass .long ∈ TB := tb_mem 263 (by decide +kernel) rfl
theorem kw_in0 : Cond.instantiable RX0 5 ∈ TB := tb_mem 107 (by decide +kernel) rfl
theorem kw_ini0 : Cond.initialized RX0 ∈ TB := tb_mem 87 (by decide +kernel) rfl
theorem kw_ic0 : Cond.code yX0_init cX0_init 1 none ∈ TB := tb_mem 110 (by decide +kernel) rfl
theorem kw_ii0 : Cond.instanceMethod yX0_init ∈ TB := tb_mem 109 (by decide +kernel) rfl
theorem kw_CI0 : CI yX0_init cX0_init := ⟨kw_ic0, kw_ii0, kw_ini0, rfl, by decide +kernel⟩
theorem kw_in1 : Cond.instantiable RX1 7 ∈ TB := tb_mem 187 (by decide +kernel) rfl
theorem kw_ini1 : Cond.initialized RX1 ∈ TB := tb_mem 90 (by decide +kernel) rfl
theorem kw_ic1 : Cond.code yX1_init cX1_init 1 none ∈ TB := tb_mem 190 (by decide +kernel) rfl
theorem kw_ii1 : Cond.instanceMethod yX1_init ∈ TB := tb_mem 189 (by decide +kernel) rfl
theorem kw_CI1 : CI yX1_init cX1_init := ⟨kw_ic1, kw_ii1, kw_ini1, rfl, by decide +kernel⟩
theorem kw_in2 : Cond.instantiable RX2 4 ∈ TB := tb_mem 150 (by decide +kernel) rfl
theorem kw_ini2 : Cond.initialized RX2 ∈ TB := tb_mem 88 (by decide +kernel) rfl
theorem kw_ic2 : Cond.code yX2_init cX2_init 1 none ∈ TB := tb_mem 153 (by decide +kernel) rfl
theorem kw_ii2 : Cond.instanceMethod yX2_init ∈ TB := tb_mem 152 (by decide +kernel) rfl
theorem kw_CI2 : CI yX2_init cX2_init := ⟨kw_ic2, kw_ii2, kw_ini2, rfl, by decide +kernel⟩
theorem kw_in3 : Cond.instantiable RX3 4 ∈ TB := tb_mem 245 (by decide +kernel) rfl
theorem kw_ini3 : Cond.initialized RX3 ∈ TB := tb_mem 92 (by decide +kernel) rfl
theorem kw_ic3 : Cond.code yX3_init cX3_init 1 none ∈ TB := tb_mem 248 (by decide +kernel) rfl
theorem kw_ii3 : Cond.instanceMethod yX3_init ∈ TB := tb_mem 247 (by decide +kernel) rfl
theorem kw_CI3 : CI yX3_init cX3_init := ⟨kw_ic3, kw_ii3, kw_ini3, rfl, by decide +kernel⟩
theorem kw_in4 : Cond.instantiable RX4 5 ∈ TB := tb_mem 193 (by decide +kernel) rfl
theorem kw_ini4 : Cond.initialized RX4 ∈ TB := tb_mem 91 (by decide +kernel) rfl
theorem kw_ic4 : Cond.code yX4_init cX4_init 1 none ∈ TB := tb_mem 196 (by decide +kernel) rfl
theorem kw_ii4 : Cond.instanceMethod yX4_init ∈ TB := tb_mem 195 (by decide +kernel) rfl
theorem kw_CI4 : CI yX4_init cX4_init := ⟨kw_ic4, kw_ii4, kw_ini4, rfl, by decide +kernel⟩
theorem kw_in5 : Cond.instantiable RX5 2 ∈ TB := tb_mem 172 (by decide +kernel) rfl
theorem kw_ini5 : Cond.initialized RX5 ∈ TB := tb_mem 89 (by decide +kernel) rfl
theorem kw_ic5 : Cond.code yX5_init cX5_init 1 none ∈ TB := tb_mem 175 (by decide +kernel) rfl
theorem kw_ii5 : Cond.instanceMethod yX5_init ∈ TB := tb_mem 174 (by decide +kernel) rfl
theorem kw_CI5 : CI yX5_init cX5_init := ⟨kw_ic5, kw_ii5, kw_ini5, rfl, by decide +kernel⟩
theorem kw_in6 : Cond.instantiable RX6 11 ∈ TB := tb_mem 99 (by decide +kernel) rfl
theorem kw_ini6 : Cond.initialized RX6 ∈ TB := tb_mem 86 (by decide +kernel) rfl
theorem kw_ic6 : Cond.code yX6_init cX6_init 1 none ∈ TB := tb_mem 102 (by decide +kernel) rfl
theorem kw_ii6 : Cond.instanceMethod yX6_init ∈ TB := tb_mem 101 (by decide +kernel) rfl
theorem kw_CI6 : CI yX6_init cX6_init := ⟨kw_ic6, kw_ii6, kw_ini6, rfl, by decide +kernel⟩
theorem kw_in7 : Cond.instantiable RX7 30 ∈ TB := tb_mem 712 (by decide +kernel) rfl
theorem kw_ini7 : Cond.initialized RX7 ∈ TB := tb_mem 93 (by decide +kernel) rfl
theorem kw_ic7 : Cond.code yX7_init cX7_init 1 none ∈ TB := tb_mem 715 (by decide +kernel) rfl
theorem kw_ii7 : Cond.instanceMethod yX7_init ∈ TB := tb_mem 714 (by decide +kernel) rfl
theorem kw_CI7 : CI yX7_init cX7_init := ⟨kw_ic7, kw_ii7, kw_ini7, rfl, by decide +kernel⟩
theorem ko_0 : Cond.methodLink RX0 3 Lib.objectInit ∈ TB := tb_mem 111 (by decide +kernel) rfl
theorem kf_RX0_9 : Cond.fieldLink RX0 9 "VouchFlow$Circle" "bounds" "[I" ∈ TB := tb_mem 123 (by decide +kernel) rfl
theorem kf_RX0_15 : Cond.fieldLink RX0 15 "VouchFlow$Circle" "kinds" "[I" ∈ TB := tb_mem 128 (by decide +kernel) rfl
theorem kf_RX0_18 : Cond.fieldLink RX0 18 "VouchFlow$Circle" "vouched" "[I" ∈ TB := tb_mem 132 (by decide +kernel) rfl
def rmc_0 : Room := { frames := 1, cells := 3, slots := 23, locals := 16 }
set_option maxRecDepth 20000 in
theorem c_X0_init {l : Launch} {w : Wt} (h0 : Nat) : MK l w yX0_init cX0_init 1 rmc_0 h0 [(h0, .inr (0, [.int 0, .int 0, .null, .null, .null]))] 3 23 (fun u => ∃ q1 q2 q3 : Nat, u = [(h0, .inr (0, [.int 0, .int 0, .ref q1, .ref q2, .ref q3])), (q1, .inl (w.2.2.1, 5, .inl (fun _ => 0))), (q2, .inl (w.2.2.1, 9, .inl (fun _ => 0))), (q3, .inl (w.2.2.1, 9, .inl (fun _ => 0)))]) := by
  refine mk_of (own := RX0) (by decide) rfl rfl (fun X C => ?_)
  refine jn_aload_n C dX0_init_0 0 rfl rfl ?_
  refine jn_obj C ko_0 kw_oi kw_oc dX0_init_1 (Nat.le_of_ble_eq_true rfl) (Nat.le_of_ble_eq_true rfl) ?_
  refine jn_aload_n C dX0_init_4 0 rfl rfl ?_
  refine jn_iconst C dX0_init_5 (v := 5) (by decide) ?_
  refine jn_newI (N := 5) C kw_aI (by decide) (by decide) (by decide) (Nat.le_of_ble_eq_true rfl) (Nat.le_of_ble_eq_true rfl) dX0_init_6 (fun q1 => ?_)
  show JN X w _ 8 [(0, .ref h0)] [.ref q1, .ref h0] [(h0, .inr (0, [.int 0, .int 0, .null, .null, .null])), (q1, .inl (w.2.2.1, 5, .inl (fun _ => 0)))] 1 5
  refine jn_putF (ci := 0) (ty := .array .int) C 0 2 rfl rfl (by decide) in_X0 tyX0 tyX0_ok nmX0 kf_RX0_9 rfl rfl (by decide +kernel) rfl rfl (Nat.le_of_ble_eq_true rfl) dX0_init_8 ?_
  show JN X w _ 11 [(0, .ref h0)] [] [(h0, .inr (0, [.int 0, .int 0, .ref q1, .null, .null])), (q1, .inl (w.2.2.1, 5, .inl (fun _ => 0)))] 1 5
  refine jn_aload_n C dX0_init_11 0 rfl rfl ?_
  refine jn_bipush C dX0_init_12 (v := 9) (by decide) ?_
  refine jn_newI (N := 9) C kw_aI (by decide) (by decide) (by decide) (Nat.le_of_ble_eq_true rfl) (Nat.le_of_ble_eq_true rfl) dX0_init_14 (fun q2 => ?_)
  show JN X w _ 16 [(0, .ref h0)] [.ref q2, .ref h0] [(h0, .inr (0, [.int 0, .int 0, .ref q1, .null, .null])), (q1, .inl (w.2.2.1, 5, .inl (fun _ => 0))), (q2, .inl (w.2.2.1, 9, .inl (fun _ => 0)))] 2 14
  refine jn_putF (ci := 0) (ty := .array .int) C 0 3 rfl rfl (by decide) in_X0 tyX0 tyX0_ok nmX0 kf_RX0_15 rfl rfl (by decide +kernel) rfl rfl (Nat.le_of_ble_eq_true rfl) dX0_init_16 ?_
  show JN X w _ 19 [(0, .ref h0)] [] [(h0, .inr (0, [.int 0, .int 0, .ref q1, .ref q2, .null])), (q1, .inl (w.2.2.1, 5, .inl (fun _ => 0))), (q2, .inl (w.2.2.1, 9, .inl (fun _ => 0)))] 2 14
  refine jn_aload_n C dX0_init_19 0 rfl rfl ?_
  refine jn_bipush C dX0_init_20 (v := 9) (by decide) ?_
  refine jn_newI (N := 9) C kw_aI (by decide) (by decide) (by decide) (Nat.le_of_ble_eq_true rfl) (Nat.le_of_ble_eq_true rfl) dX0_init_22 (fun q3 => ?_)
  show JN X w _ 24 [(0, .ref h0)] [.ref q3, .ref h0] [(h0, .inr (0, [.int 0, .int 0, .ref q1, .ref q2, .null])), (q1, .inl (w.2.2.1, 5, .inl (fun _ => 0))), (q2, .inl (w.2.2.1, 9, .inl (fun _ => 0))), (q3, .inl (w.2.2.1, 9, .inl (fun _ => 0)))] 3 23
  refine jn_putF (ci := 0) (ty := .array .int) C 0 4 rfl rfl (by decide) in_X0 tyX0 tyX0_ok nmX0 kf_RX0_18 rfl rfl (by decide +kernel) rfl rfl (Nat.le_of_ble_eq_true rfl) dX0_init_24 ?_
  show JN X w _ 27 [(0, .ref h0)] [] [(h0, .inr (0, [.int 0, .int 0, .ref q1, .ref q2, .ref q3])), (q1, .inl (w.2.2.1, 5, .inl (fun _ => 0))), (q2, .inl (w.2.2.1, 9, .inl (fun _ => 0))), (q3, .inl (w.2.2.1, 9, .inl (fun _ => 0)))] 3 23
  exact jn_vret C dX0_init_27 ⟨q1, q2, q3, rfl⟩
theorem ko_4 : Cond.methodLink RX4 3 Lib.objectInit ∈ TB := tb_mem 197 (by decide +kernel) rfl
theorem kf_RX4_9 : Cond.fieldLink RX4 9 "VouchFlow$Web" "vouched" "[I" ∈ TB := tb_mem 203 (by decide +kernel) rfl
theorem kf_RX4_15 : Cond.fieldLink RX4 15 "VouchFlow$Web" "levels" "[I" ∈ TB := tb_mem 205 (by decide +kernel) rfl
theorem kf_RX4_18 : Cond.fieldLink RX4 18 "VouchFlow$Web" "limits" "[I" ∈ TB := tb_mem 207 (by decide +kernel) rfl
def rmc_4 : Room := { frames := 1, cells := 3, slots := 27, locals := 16 }
set_option maxRecDepth 20000 in
theorem c_X4_init {l : Launch} {w : Wt} (h0 : Nat) : MK l w yX4_init cX4_init 1 rmc_4 h0 [(h0, .inr (4, [.int 0, .int 0, .null, .null, .null]))] 3 27 (fun u => ∃ q1 q2 q3 : Nat, u = [(h0, .inr (4, [.int 0, .int 0, .ref q1, .ref q2, .ref q3])), (q1, .inl (w.2.2.1, 9, .inl (fun _ => 0))), (q2, .inl (w.2.2.1, 9, .inl (fun _ => 0))), (q3, .inl (w.2.2.1, 9, .inl (fun _ => 0)))]) := by
  refine mk_of (own := RX4) (by decide) rfl rfl (fun X C => ?_)
  refine jn_aload_n C dX4_init_0 0 rfl rfl ?_
  refine jn_obj C ko_4 kw_oi kw_oc dX4_init_1 (Nat.le_of_ble_eq_true rfl) (Nat.le_of_ble_eq_true rfl) ?_
  refine jn_aload_n C dX4_init_4 0 rfl rfl ?_
  refine jn_bipush C dX4_init_5 (v := 9) (by decide) ?_
  refine jn_newI (N := 9) C kw_aI (by decide) (by decide) (by decide) (Nat.le_of_ble_eq_true rfl) (Nat.le_of_ble_eq_true rfl) dX4_init_7 (fun q1 => ?_)
  show JN X w _ 9 [(0, .ref h0)] [.ref q1, .ref h0] [(h0, .inr (4, [.int 0, .int 0, .null, .null, .null])), (q1, .inl (w.2.2.1, 9, .inl (fun _ => 0)))] 1 9
  refine jn_putF (ci := 4) (ty := .array .int) C 0 2 rfl rfl (by decide) in_X4 tyX4 tyX4_ok nmX4 kf_RX4_9 rfl rfl (by decide +kernel) rfl rfl (Nat.le_of_ble_eq_true rfl) dX4_init_9 ?_
  show JN X w _ 12 [(0, .ref h0)] [] [(h0, .inr (4, [.int 0, .int 0, .ref q1, .null, .null])), (q1, .inl (w.2.2.1, 9, .inl (fun _ => 0)))] 1 9
  refine jn_aload_n C dX4_init_12 0 rfl rfl ?_
  refine jn_bipush C dX4_init_13 (v := 9) (by decide) ?_
  refine jn_newI (N := 9) C kw_aI (by decide) (by decide) (by decide) (Nat.le_of_ble_eq_true rfl) (Nat.le_of_ble_eq_true rfl) dX4_init_15 (fun q2 => ?_)
  show JN X w _ 17 [(0, .ref h0)] [.ref q2, .ref h0] [(h0, .inr (4, [.int 0, .int 0, .ref q1, .null, .null])), (q1, .inl (w.2.2.1, 9, .inl (fun _ => 0))), (q2, .inl (w.2.2.1, 9, .inl (fun _ => 0)))] 2 18
  refine jn_putF (ci := 4) (ty := .array .int) C 0 3 rfl rfl (by decide) in_X4 tyX4 tyX4_ok nmX4 kf_RX4_15 rfl rfl (by decide +kernel) rfl rfl (Nat.le_of_ble_eq_true rfl) dX4_init_17 ?_
  show JN X w _ 20 [(0, .ref h0)] [] [(h0, .inr (4, [.int 0, .int 0, .ref q1, .ref q2, .null])), (q1, .inl (w.2.2.1, 9, .inl (fun _ => 0))), (q2, .inl (w.2.2.1, 9, .inl (fun _ => 0)))] 2 18
  refine jn_aload_n C dX4_init_20 0 rfl rfl ?_
  refine jn_bipush C dX4_init_21 (v := 9) (by decide) ?_
  refine jn_newI (N := 9) C kw_aI (by decide) (by decide) (by decide) (Nat.le_of_ble_eq_true rfl) (Nat.le_of_ble_eq_true rfl) dX4_init_23 (fun q3 => ?_)
  show JN X w _ 25 [(0, .ref h0)] [.ref q3, .ref h0] [(h0, .inr (4, [.int 0, .int 0, .ref q1, .ref q2, .null])), (q1, .inl (w.2.2.1, 9, .inl (fun _ => 0))), (q2, .inl (w.2.2.1, 9, .inl (fun _ => 0))), (q3, .inl (w.2.2.1, 9, .inl (fun _ => 0)))] 3 27
  refine jn_putF (ci := 4) (ty := .array .int) C 0 4 rfl rfl (by decide) in_X4 tyX4 tyX4_ok nmX4 kf_RX4_18 rfl rfl (by decide +kernel) rfl rfl (Nat.le_of_ble_eq_true rfl) dX4_init_25 ?_
  show JN X w _ 28 [(0, .ref h0)] [] [(h0, .inr (4, [.int 0, .int 0, .ref q1, .ref q2, .ref q3])), (q1, .inl (w.2.2.1, 9, .inl (fun _ => 0))), (q2, .inl (w.2.2.1, 9, .inl (fun _ => 0))), (q3, .inl (w.2.2.1, 9, .inl (fun _ => 0)))] 3 27
  exact jn_vret C dX4_init_28 ⟨q1, q2, q3, rfl⟩
theorem ko_5 : Cond.methodLink RX5 3 Lib.objectInit ∈ TB := tb_mem 176 (by decide +kernel) rfl
theorem kf_RX5_11 : Cond.fieldLink RX5 11 "VouchFlow$Writer" "text" "[I" ∈ TB := tb_mem 177 (by decide +kernel) rfl
def rmc_5 : Room := { frames := 1, cells := 1, slots := 115, locals := 16 }
set_option maxRecDepth 20000 in
theorem c_X5_init {l : Launch} {w : Wt} (h0 : Nat) : MK l w yX5_init cX5_init 1 rmc_5 h0 [(h0, .inr (5, [.null, .int 0]))] 1 115 (fun u => ∃ q1 : Nat, u = [(h0, .inr (5, [.ref q1, .int 0])), (q1, .inl (w.2.2.1, 115, .inl (fun _ => 0)))]) := by
  refine mk_of (own := RX5) (by decide) rfl rfl (fun X C => ?_)
  refine jn_aload_n C dX5_init_0 0 rfl rfl ?_
  refine jn_obj C ko_5 kw_oi kw_oc dX5_init_1 (Nat.le_of_ble_eq_true rfl) (Nat.le_of_ble_eq_true rfl) ?_
  refine jn_aload_n C dX5_init_4 0 rfl rfl ?_
  refine jn_bipush C dX5_init_5 (v := 115) (by decide) ?_
  refine jn_newI (N := 115) C kw_aI (by decide) (by decide) (by decide) (Nat.le_of_ble_eq_true rfl) (Nat.le_of_ble_eq_true rfl) dX5_init_7 (fun q1 => ?_)
  show JN X w _ 9 [(0, .ref h0)] [.ref q1, .ref h0] [(h0, .inr (5, [.null, .int 0])), (q1, .inl (w.2.2.1, 115, .inl (fun _ => 0)))] 1 115
  refine jn_putF (ci := 5) (ty := .array .int) C 0 0 rfl rfl (by decide) in_X5 tyX5 tyX5_ok nmX5 kf_RX5_11 rfl rfl (by decide +kernel) rfl rfl (Nat.le_of_ble_eq_true rfl) dX5_init_9 ?_
  show JN X w _ 12 [(0, .ref h0)] [] [(h0, .inr (5, [.ref q1, .int 0])), (q1, .inl (w.2.2.1, 115, .inl (fun _ => 0)))] 1 115
  exact jn_vret C dX5_init_12 ⟨q1, rfl⟩
theorem ko_3 : Cond.methodLink RX3 3 Lib.objectInit ∈ TB := tb_mem 249 (by decide +kernel) rfl
theorem kf_RX3_9 : Cond.fieldLink RX3 9 "VouchFlow$Walk" "parts" "[J" ∈ TB := tb_mem 252 (by decide +kernel) rfl
theorem kf_RX3_15 : Cond.fieldLink RX3 15 "VouchFlow$Walk" "next" "[J" ∈ TB := tb_mem 253 (by decide +kernel) rfl
def rmc_3 : Room := { frames := 1, cells := 2, slots := 18, locals := 16 }
set_option maxRecDepth 20000 in
theorem c_X3_init {l : Launch} {w : Wt} (h0 : Nat) : MK l w yX3_init cX3_init 1 rmc_3 h0 [(h0, .inr (3, [.int 0, .long 0, .null, .null]))] 2 18 (fun u => ∃ q1 q2 : Nat, u = [(h0, .inr (3, [.int 0, .long 0, .ref q1, .ref q2])), (q1, .inl (w.2.2.2, 9, .inr (.inl (fun _ => 0)))), (q2, .inl (w.2.2.2, 9, .inr (.inl (fun _ => 0))))]) := by
  refine mk_of (own := RX3) (by decide) rfl rfl (fun X C => ?_)
  refine jn_aload_n C dX3_init_0 0 rfl rfl ?_
  refine jn_obj C ko_3 kw_oi kw_oc dX3_init_1 (Nat.le_of_ble_eq_true rfl) (Nat.le_of_ble_eq_true rfl) ?_
  refine jn_aload_n C dX3_init_4 0 rfl rfl ?_
  refine jn_bipush C dX3_init_5 (v := 9) (by decide) ?_
  refine jn_newJ (N := 9) C kw_aJ (by decide) (by decide) (by decide) (Nat.le_of_ble_eq_true rfl) (Nat.le_of_ble_eq_true rfl) dX3_init_7 (fun q1 => ?_)
  show JN X w _ 9 [(0, .ref h0)] [.ref q1, .ref h0] [(h0, .inr (3, [.int 0, .long 0, .null, .null])), (q1, .inl (w.2.2.2, 9, .inr (.inl (fun _ => 0))))] 1 9
  refine jn_putF (ci := 3) (ty := .array .long) C 0 2 rfl rfl (by decide) in_X3 tyX3 tyX3_ok nmX3 kf_RX3_9 rfl rfl (by decide +kernel) rfl rfl (Nat.le_of_ble_eq_true rfl) dX3_init_9 ?_
  show JN X w _ 12 [(0, .ref h0)] [] [(h0, .inr (3, [.int 0, .long 0, .ref q1, .null])), (q1, .inl (w.2.2.2, 9, .inr (.inl (fun _ => 0))))] 1 9
  refine jn_aload_n C dX3_init_12 0 rfl rfl ?_
  refine jn_bipush C dX3_init_13 (v := 9) (by decide) ?_
  refine jn_newJ (N := 9) C kw_aJ (by decide) (by decide) (by decide) (Nat.le_of_ble_eq_true rfl) (Nat.le_of_ble_eq_true rfl) dX3_init_15 (fun q2 => ?_)
  show JN X w _ 17 [(0, .ref h0)] [.ref q2, .ref h0] [(h0, .inr (3, [.int 0, .long 0, .ref q1, .null])), (q1, .inl (w.2.2.2, 9, .inr (.inl (fun _ => 0)))), (q2, .inl (w.2.2.2, 9, .inr (.inl (fun _ => 0))))] 2 18
  refine jn_putF (ci := 3) (ty := .array .long) C 0 3 rfl rfl (by decide) in_X3 tyX3 tyX3_ok nmX3 kf_RX3_15 rfl rfl (by decide +kernel) rfl rfl (Nat.le_of_ble_eq_true rfl) dX3_init_17 ?_
  show JN X w _ 20 [(0, .ref h0)] [] [(h0, .inr (3, [.int 0, .long 0, .ref q1, .ref q2])), (q1, .inl (w.2.2.2, 9, .inr (.inl (fun _ => 0)))), (q2, .inl (w.2.2.2, 9, .inr (.inl (fun _ => 0))))] 2 18
  exact jn_vret C dX3_init_20 ⟨q1, q2, rfl⟩
theorem ko_2 : Cond.methodLink RX2 3 Lib.objectInit ∈ TB := tb_mem 154 (by decide +kernel) rfl
theorem kl_RX2_9 : Cond.classLink RX2 9 RX0 ∈ TB := tb_mem 155 (by decide +kernel) rfl
theorem kf_RX2_12 : Cond.fieldLink RX2 12 "VouchFlow$Reader" "draft" "LVouchFlow$Circle;" ∈ TB := tb_mem 157 (by decide +kernel) rfl
def rmc_2 : Room := { frames := 2, cells := 4, slots := 28, locals := 36 }
set_option maxRecDepth 20000 in
theorem c_X2_init {l : Launch} {w : Wt} (h0 : Nat) : MK l w yX2_init cX2_init 1 rmc_2 h0 [(h0, .inr (2, [.null, .int 0, .int 0, .int 0]))] 4 28 (fun u => ∃ q1 q2 q3 q4 : Nat, u = [(h0, .inr (2, [.ref q1, .int 0, .int 0, .int 0])), (q1, .inr (0, [.int 0, .int 0, .ref q2, .ref q3, .ref q4])), (q2, .inl (w.2.2.1, 5, .inl (fun _ => 0))), (q3, .inl (w.2.2.1, 9, .inl (fun _ => 0))), (q4, .inl (w.2.2.1, 9, .inl (fun _ => 0)))]) := by
  refine mk_of (own := RX2) (by decide) rfl rfl (fun X C => ?_)
  refine jn_aload_n C dX2_init_0 0 rfl rfl ?_
  refine jn_obj C ko_2 kw_oi kw_oc dX2_init_1 (Nat.le_of_ble_eq_true rfl) (Nat.le_of_ble_eq_true rfl) ?_
  refine jn_aload_n C dX2_init_4 0 rfl rfl ?_
  refine jn_new (ci := 0) (fs := [.int 0, .int 0, .null, .null, .null]) C rfl in_X0 tyX0 tyX0_ok kl_RX2_9 kw_in0 kw_ini0 (fun j hj => by rcases (show j = 0 ∨ j = 1 ∨ j = 2 ∨ j = 3 ∨ j = 4 by omega) with rfl | rfl | rfl | rfl | rfl <;> rfl) (Nat.le_of_ble_eq_true rfl) (Nat.le_of_ble_eq_true rfl) dX2_init_5 (fun q1 => ?_)
  show JN X w _ 8 [(0, .ref h0)] [.ref q1, .ref h0] [(h0, .inr (2, [.null, .int 0, .int 0, .int 0])), (q1, .inr (0, [.int 0, .int 0, .null, .null, .null]))] 1 5
  refine jn_dup C dX2_init_8 rfl ?_
  refine jn_callN (mc := 3) (ms := 23) C 1 [0] (c_X0_init q1) kw_CI0 (by decide +kernel) ⟨⟨rfl, rfl⟩, ⟨Nat.le_of_ble_eq_true rfl, Nat.le_of_ble_eq_true rfl⟩, Nat.le_of_ble_eq_true rfl, Nat.le_of_ble_eq_true rfl⟩ rfl (wr := [(h0, .inr (2, [.null, .int 0, .int 0, .int 0]))]) rfl (by decide) (by decide) (Nat.le_of_ble_eq_true rfl) dX2_init_9 (fun w1 h1 => ?_)
  obtain ⟨q2, q3, q4, rfl⟩ := h1
  show JN X w _ 12 [(0, .ref h0)] [.ref q1, .ref h0] [(h0, .inr (2, [.null, .int 0, .int 0, .int 0])), (q1, .inr (0, [.int 0, .int 0, .ref q2, .ref q3, .ref q4])), (q2, .inl (w.2.2.1, 5, .inl (fun _ => 0))), (q3, .inl (w.2.2.1, 9, .inl (fun _ => 0))), (q4, .inl (w.2.2.1, 9, .inl (fun _ => 0)))] 4 28
  refine jn_putF (ci := 2) (ty := .object "VouchFlow$Circle") C 0 0 rfl rfl (by decide) in_X2 tyX2 tyX2_ok nmX2 kf_RX2_12 rfl rfl (by decide +kernel) rfl rfl (Nat.le_of_ble_eq_true rfl) dX2_init_12 ?_
  show JN X w _ 15 [(0, .ref h0)] [] [(h0, .inr (2, [.ref q1, .int 0, .int 0, .int 0])), (q1, .inr (0, [.int 0, .int 0, .ref q2, .ref q3, .ref q4])), (q2, .inl (w.2.2.1, 5, .inl (fun _ => 0))), (q3, .inl (w.2.2.1, 9, .inl (fun _ => 0))), (q4, .inl (w.2.2.1, 9, .inl (fun _ => 0)))] 4 28
  exact jn_vret C dX2_init_15 ⟨q1, q2, q3, q4, rfl⟩
theorem ko_1 : Cond.methodLink RX1 3 Lib.objectInit ∈ TB := tb_mem 191 (by decide +kernel) rfl
theorem kl_RX1_9 : Cond.classLink RX1 9 RX4 ∈ TB := tb_mem 192 (by decide +kernel) rfl
theorem kf_RX1_12 : Cond.fieldLink RX1 12 "VouchFlow$Flow" "web" "LVouchFlow$Web;" ∈ TB := tb_mem 221 (by decide +kernel) rfl
theorem kf_RX1_18 : Cond.fieldLink RX1 18 "VouchFlow$Flow" "coming" "[I" ∈ TB := tb_mem 223 (by decide +kernel) rfl
theorem kf_RX1_22 : Cond.fieldLink RX1 22 "VouchFlow$Flow" "along" "[I" ∈ TB := tb_mem 224 (by decide +kernel) rfl
theorem kf_RX1_25 : Cond.fieldLink RX1 25 "VouchFlow$Flow" "before" "[I" ∈ TB := tb_mem 225 (by decide +kernel) rfl
theorem kf_RX1_28 : Cond.fieldLink RX1 28 "VouchFlow$Flow" "found" "[I" ∈ TB := tb_mem 226 (by decide +kernel) rfl
def rmc_1 : Room := { frames := 2, cells := 8, slots := 158, locals := 36 }
set_option maxRecDepth 20000 in
theorem c_X1_init {l : Launch} {w : Wt} (h0 : Nat) : MK l w yX1_init cX1_init 1 rmc_1 h0 [(h0, .inr (1, [.null, .null, .null, .null, .null, .int 0, .int 0]))] 8 158 (fun u => ∃ q1 q2 q3 q4 q5 q6 q7 q8 : Nat, u = [(h0, .inr (1, [.ref q1, .ref q5, .ref q6, .ref q7, .ref q8, .int 0, .int 0])), (q1, .inr (4, [.int 0, .int 0, .ref q2, .ref q3, .ref q4])), (q2, .inl (w.2.2.1, 9, .inl (fun _ => 0))), (q3, .inl (w.2.2.1, 9, .inl (fun _ => 0))), (q4, .inl (w.2.2.1, 9, .inl (fun _ => 0))), (q5, .inl (w.2.2.1, 9, .inl (fun _ => 0))), (q6, .inl (w.2.2.1, 81, .inl (fun _ => 0))), (q7, .inl (w.2.2.1, 18, .inl (fun _ => 0))), (q8, .inl (w.2.2.1, 18, .inl (fun _ => 0)))]) := by
  refine mk_of (own := RX1) (by decide) rfl rfl (fun X C => ?_)
  refine jn_aload_n C dX1_init_0 0 rfl rfl ?_
  refine jn_obj C ko_1 kw_oi kw_oc dX1_init_1 (Nat.le_of_ble_eq_true rfl) (Nat.le_of_ble_eq_true rfl) ?_
  refine jn_aload_n C dX1_init_4 0 rfl rfl ?_
  refine jn_new (ci := 4) (fs := [.int 0, .int 0, .null, .null, .null]) C rfl in_X4 tyX4 tyX4_ok kl_RX1_9 kw_in4 kw_ini4 (fun j hj => by rcases (show j = 0 ∨ j = 1 ∨ j = 2 ∨ j = 3 ∨ j = 4 by omega) with rfl | rfl | rfl | rfl | rfl <;> rfl) (Nat.le_of_ble_eq_true rfl) (Nat.le_of_ble_eq_true rfl) dX1_init_5 (fun q1 => ?_)
  show JN X w _ 8 [(0, .ref h0)] [.ref q1, .ref h0] [(h0, .inr (1, [.null, .null, .null, .null, .null, .int 0, .int 0])), (q1, .inr (4, [.int 0, .int 0, .null, .null, .null]))] 1 5
  refine jn_dup C dX1_init_8 rfl ?_
  refine jn_callN (mc := 3) (ms := 27) C 1 [0] (c_X4_init q1) kw_CI4 (by decide +kernel) ⟨⟨rfl, rfl⟩, ⟨Nat.le_of_ble_eq_true rfl, Nat.le_of_ble_eq_true rfl⟩, Nat.le_of_ble_eq_true rfl, Nat.le_of_ble_eq_true rfl⟩ rfl (wr := [(h0, .inr (1, [.null, .null, .null, .null, .null, .int 0, .int 0]))]) rfl (by decide) (by decide) (Nat.le_of_ble_eq_true rfl) dX1_init_9 (fun w1 h1 => ?_)
  obtain ⟨q2, q3, q4, rfl⟩ := h1
  show JN X w _ 12 [(0, .ref h0)] [.ref q1, .ref h0] [(h0, .inr (1, [.null, .null, .null, .null, .null, .int 0, .int 0])), (q1, .inr (4, [.int 0, .int 0, .ref q2, .ref q3, .ref q4])), (q2, .inl (w.2.2.1, 9, .inl (fun _ => 0))), (q3, .inl (w.2.2.1, 9, .inl (fun _ => 0))), (q4, .inl (w.2.2.1, 9, .inl (fun _ => 0)))] 4 32
  refine jn_putF (ci := 1) (ty := .object "VouchFlow$Web") C 0 0 rfl rfl (by decide) in_X1 tyX1 tyX1_ok nmX1 kf_RX1_12 rfl rfl (by decide +kernel) rfl rfl (Nat.le_of_ble_eq_true rfl) dX1_init_12 ?_
  show JN X w _ 15 [(0, .ref h0)] [] [(h0, .inr (1, [.ref q1, .null, .null, .null, .null, .int 0, .int 0])), (q1, .inr (4, [.int 0, .int 0, .ref q2, .ref q3, .ref q4])), (q2, .inl (w.2.2.1, 9, .inl (fun _ => 0))), (q3, .inl (w.2.2.1, 9, .inl (fun _ => 0))), (q4, .inl (w.2.2.1, 9, .inl (fun _ => 0)))] 4 32
  refine jn_aload_n C dX1_init_15 0 rfl rfl ?_
  refine jn_bipush C dX1_init_16 (v := 9) (by decide) ?_
  refine jn_newI (N := 9) C kw_aI (by decide) (by decide) (by decide) (Nat.le_of_ble_eq_true rfl) (Nat.le_of_ble_eq_true rfl) dX1_init_18 (fun q5 => ?_)
  show JN X w _ 20 [(0, .ref h0)] [.ref q5, .ref h0] [(h0, .inr (1, [.ref q1, .null, .null, .null, .null, .int 0, .int 0])), (q1, .inr (4, [.int 0, .int 0, .ref q2, .ref q3, .ref q4])), (q2, .inl (w.2.2.1, 9, .inl (fun _ => 0))), (q3, .inl (w.2.2.1, 9, .inl (fun _ => 0))), (q4, .inl (w.2.2.1, 9, .inl (fun _ => 0))), (q5, .inl (w.2.2.1, 9, .inl (fun _ => 0)))] 5 41
  refine jn_putF (ci := 1) (ty := .array .int) C 0 1 rfl rfl (by decide) in_X1 tyX1 tyX1_ok nmX1 kf_RX1_18 rfl rfl (by decide +kernel) rfl rfl (Nat.le_of_ble_eq_true rfl) dX1_init_20 ?_
  show JN X w _ 23 [(0, .ref h0)] [] [(h0, .inr (1, [.ref q1, .ref q5, .null, .null, .null, .int 0, .int 0])), (q1, .inr (4, [.int 0, .int 0, .ref q2, .ref q3, .ref q4])), (q2, .inl (w.2.2.1, 9, .inl (fun _ => 0))), (q3, .inl (w.2.2.1, 9, .inl (fun _ => 0))), (q4, .inl (w.2.2.1, 9, .inl (fun _ => 0))), (q5, .inl (w.2.2.1, 9, .inl (fun _ => 0)))] 5 41
  refine jn_aload_n C dX1_init_23 0 rfl rfl ?_
  refine jn_bipush C dX1_init_24 (v := 81) (by decide) ?_
  refine jn_newI (N := 81) C kw_aI (by decide) (by decide) (by decide) (Nat.le_of_ble_eq_true rfl) (Nat.le_of_ble_eq_true rfl) dX1_init_26 (fun q6 => ?_)
  show JN X w _ 28 [(0, .ref h0)] [.ref q6, .ref h0] [(h0, .inr (1, [.ref q1, .ref q5, .null, .null, .null, .int 0, .int 0])), (q1, .inr (4, [.int 0, .int 0, .ref q2, .ref q3, .ref q4])), (q2, .inl (w.2.2.1, 9, .inl (fun _ => 0))), (q3, .inl (w.2.2.1, 9, .inl (fun _ => 0))), (q4, .inl (w.2.2.1, 9, .inl (fun _ => 0))), (q5, .inl (w.2.2.1, 9, .inl (fun _ => 0))), (q6, .inl (w.2.2.1, 81, .inl (fun _ => 0)))] 6 122
  refine jn_putF (ci := 1) (ty := .array .int) C 0 2 rfl rfl (by decide) in_X1 tyX1 tyX1_ok nmX1 kf_RX1_22 rfl rfl (by decide +kernel) rfl rfl (Nat.le_of_ble_eq_true rfl) dX1_init_28 ?_
  show JN X w _ 31 [(0, .ref h0)] [] [(h0, .inr (1, [.ref q1, .ref q5, .ref q6, .null, .null, .int 0, .int 0])), (q1, .inr (4, [.int 0, .int 0, .ref q2, .ref q3, .ref q4])), (q2, .inl (w.2.2.1, 9, .inl (fun _ => 0))), (q3, .inl (w.2.2.1, 9, .inl (fun _ => 0))), (q4, .inl (w.2.2.1, 9, .inl (fun _ => 0))), (q5, .inl (w.2.2.1, 9, .inl (fun _ => 0))), (q6, .inl (w.2.2.1, 81, .inl (fun _ => 0)))] 6 122
  refine jn_aload_n C dX1_init_31 0 rfl rfl ?_
  refine jn_bipush C dX1_init_32 (v := 18) (by decide) ?_
  refine jn_newI (N := 18) C kw_aI (by decide) (by decide) (by decide) (Nat.le_of_ble_eq_true rfl) (Nat.le_of_ble_eq_true rfl) dX1_init_34 (fun q7 => ?_)
  show JN X w _ 36 [(0, .ref h0)] [.ref q7, .ref h0] [(h0, .inr (1, [.ref q1, .ref q5, .ref q6, .null, .null, .int 0, .int 0])), (q1, .inr (4, [.int 0, .int 0, .ref q2, .ref q3, .ref q4])), (q2, .inl (w.2.2.1, 9, .inl (fun _ => 0))), (q3, .inl (w.2.2.1, 9, .inl (fun _ => 0))), (q4, .inl (w.2.2.1, 9, .inl (fun _ => 0))), (q5, .inl (w.2.2.1, 9, .inl (fun _ => 0))), (q6, .inl (w.2.2.1, 81, .inl (fun _ => 0))), (q7, .inl (w.2.2.1, 18, .inl (fun _ => 0)))] 7 140
  refine jn_putF (ci := 1) (ty := .array .int) C 0 3 rfl rfl (by decide) in_X1 tyX1 tyX1_ok nmX1 kf_RX1_25 rfl rfl (by decide +kernel) rfl rfl (Nat.le_of_ble_eq_true rfl) dX1_init_36 ?_
  show JN X w _ 39 [(0, .ref h0)] [] [(h0, .inr (1, [.ref q1, .ref q5, .ref q6, .ref q7, .null, .int 0, .int 0])), (q1, .inr (4, [.int 0, .int 0, .ref q2, .ref q3, .ref q4])), (q2, .inl (w.2.2.1, 9, .inl (fun _ => 0))), (q3, .inl (w.2.2.1, 9, .inl (fun _ => 0))), (q4, .inl (w.2.2.1, 9, .inl (fun _ => 0))), (q5, .inl (w.2.2.1, 9, .inl (fun _ => 0))), (q6, .inl (w.2.2.1, 81, .inl (fun _ => 0))), (q7, .inl (w.2.2.1, 18, .inl (fun _ => 0)))] 7 140
  refine jn_aload_n C dX1_init_39 0 rfl rfl ?_
  refine jn_bipush C dX1_init_40 (v := 18) (by decide) ?_
  refine jn_newI (N := 18) C kw_aI (by decide) (by decide) (by decide) (Nat.le_of_ble_eq_true rfl) (Nat.le_of_ble_eq_true rfl) dX1_init_42 (fun q8 => ?_)
  show JN X w _ 44 [(0, .ref h0)] [.ref q8, .ref h0] [(h0, .inr (1, [.ref q1, .ref q5, .ref q6, .ref q7, .null, .int 0, .int 0])), (q1, .inr (4, [.int 0, .int 0, .ref q2, .ref q3, .ref q4])), (q2, .inl (w.2.2.1, 9, .inl (fun _ => 0))), (q3, .inl (w.2.2.1, 9, .inl (fun _ => 0))), (q4, .inl (w.2.2.1, 9, .inl (fun _ => 0))), (q5, .inl (w.2.2.1, 9, .inl (fun _ => 0))), (q6, .inl (w.2.2.1, 81, .inl (fun _ => 0))), (q7, .inl (w.2.2.1, 18, .inl (fun _ => 0))), (q8, .inl (w.2.2.1, 18, .inl (fun _ => 0)))] 8 158
  refine jn_putF (ci := 1) (ty := .array .int) C 0 4 rfl rfl (by decide) in_X1 tyX1 tyX1_ok nmX1 kf_RX1_28 rfl rfl (by decide +kernel) rfl rfl (Nat.le_of_ble_eq_true rfl) dX1_init_44 ?_
  show JN X w _ 47 [(0, .ref h0)] [] [(h0, .inr (1, [.ref q1, .ref q5, .ref q6, .ref q7, .ref q8, .int 0, .int 0])), (q1, .inr (4, [.int 0, .int 0, .ref q2, .ref q3, .ref q4])), (q2, .inl (w.2.2.1, 9, .inl (fun _ => 0))), (q3, .inl (w.2.2.1, 9, .inl (fun _ => 0))), (q4, .inl (w.2.2.1, 9, .inl (fun _ => 0))), (q5, .inl (w.2.2.1, 9, .inl (fun _ => 0))), (q6, .inl (w.2.2.1, 81, .inl (fun _ => 0))), (q7, .inl (w.2.2.1, 18, .inl (fun _ => 0))), (q8, .inl (w.2.2.1, 18, .inl (fun _ => 0)))] 8 158
  exact jn_vret C dX1_init_47 ⟨q1, q2, q3, q4, q5, q6, q7, q8, rfl⟩
theorem ko_6 : Cond.methodLink RX6 1 Lib.objectInit ∈ TB := tb_mem 103 (by decide +kernel) rfl
theorem kf_RX6_9 : Cond.fieldLink RX6 9 "VouchFlow" "page" "[I" ∈ TB := tb_mem 264 (by decide +kernel) rfl
theorem kl_RX6_13 : Cond.classLink RX6 13 RX0 ∈ TB := tb_mem 106 (by decide +kernel) rfl
theorem kf_RX6_16 : Cond.fieldLink RX6 16 "VouchFlow" "present" "LVouchFlow$Circle;" ∈ TB := tb_mem 266 (by decide +kernel) rfl
theorem kl_RX6_20 : Cond.classLink RX6 20 RX2 ∈ TB := tb_mem 149 (by decide +kernel) rfl
theorem kf_RX6_23 : Cond.fieldLink RX6 23 "VouchFlow" "reader" "LVouchFlow$Reader;" ∈ TB := tb_mem 267 (by decide +kernel) rfl
theorem kl_RX6_27 : Cond.classLink RX6 27 RX5 ∈ TB := tb_mem 171 (by decide +kernel) rfl
theorem kf_RX6_30 : Cond.fieldLink RX6 30 "VouchFlow" "writer" "LVouchFlow$Writer;" ∈ TB := tb_mem 268 (by decide +kernel) rfl
theorem kl_RX6_34 : Cond.classLink RX6 34 RX1 ∈ TB := tb_mem 186 (by decide +kernel) rfl
theorem kf_RX6_37 : Cond.fieldLink RX6 37 "VouchFlow" "flow" "LVouchFlow$Flow;" ∈ TB := tb_mem 269 (by decide +kernel) rfl
theorem kf_RX6_41 : Cond.fieldLink RX6 41 "VouchFlow$Flow" "web" "LVouchFlow$Web;" ∈ TB := tb_mem 222 (by decide +kernel) rfl
theorem kf_RX6_45 : Cond.fieldLink RX6 45 "VouchFlow" "web" "LVouchFlow$Web;" ∈ TB := tb_mem 270 (by decide +kernel) rfl
theorem kl_RX6_46 : Cond.classLink RX6 46 RX3 ∈ TB := tb_mem 244 (by decide +kernel) rfl
theorem kf_RX6_49 : Cond.fieldLink RX6 49 "VouchFlow" "walk" "LVouchFlow$Walk;" ∈ TB := tb_mem 271 (by decide +kernel) rfl
def rmc_6 : Room := { frames := 3, cells := 24, slots := 474, locals := 56 }
set_option maxRecDepth 20000 in
theorem c_X6_init {l : Launch} {w : Wt} (h0 : Nat) : MK l w yX6_init cX6_init 1 rmc_6 h0 [(h0, .inr (6, [.null, .int 0, .null, .null, .null, .null, .null, .null, .int 0, .int 0, .int 0]))] 24 474 (fun u => ∃ q1 q2 q3 q4 q5 q6 q7 q8 q9 q10 q11 q12 q13 q14 q15 q16 q17 q18 q19 q20 q21 q22 q23 q24 : Nat, u = [(h0, .inr (6, [.ref q1, .int 0, .ref q2, .ref q6, .ref q11, .ref q13, .ref q14, .ref q22, .int 0, .int 0, .int 0])), (q1, .inl (w.2.2.1, 110, .inl (fun _ => 0))), (q2, .inr (0, [.int 0, .int 0, .ref q3, .ref q4, .ref q5])), (q3, .inl (w.2.2.1, 5, .inl (fun _ => 0))), (q4, .inl (w.2.2.1, 9, .inl (fun _ => 0))), (q5, .inl (w.2.2.1, 9, .inl (fun _ => 0))), (q6, .inr (2, [.ref q7, .int 0, .int 0, .int 0])), (q7, .inr (0, [.int 0, .int 0, .ref q8, .ref q9, .ref q10])), (q8, .inl (w.2.2.1, 5, .inl (fun _ => 0))), (q9, .inl (w.2.2.1, 9, .inl (fun _ => 0))), (q10, .inl (w.2.2.1, 9, .inl (fun _ => 0))), (q11, .inr (5, [.ref q12, .int 0])), (q12, .inl (w.2.2.1, 115, .inl (fun _ => 0))), (q13, .inr (1, [.ref q14, .ref q18, .ref q19, .ref q20, .ref q21, .int 0, .int 0])), (q14, .inr (4, [.int 0, .int 0, .ref q15, .ref q16, .ref q17])), (q15, .inl (w.2.2.1, 9, .inl (fun _ => 0))), (q16, .inl (w.2.2.1, 9, .inl (fun _ => 0))), (q17, .inl (w.2.2.1, 9, .inl (fun _ => 0))), (q18, .inl (w.2.2.1, 9, .inl (fun _ => 0))), (q19, .inl (w.2.2.1, 81, .inl (fun _ => 0))), (q20, .inl (w.2.2.1, 18, .inl (fun _ => 0))), (q21, .inl (w.2.2.1, 18, .inl (fun _ => 0))), (q22, .inr (3, [.int 0, .long 0, .ref q23, .ref q24])), (q23, .inl (w.2.2.2, 9, .inr (.inl (fun _ => 0)))), (q24, .inl (w.2.2.2, 9, .inr (.inl (fun _ => 0))))]) := by
  refine mk_of (own := RX6) (by decide) rfl rfl (fun X C => ?_)
  refine jn_aload_n C dX6_init_0 0 rfl rfl ?_
  refine jn_obj C ko_6 kw_oi kw_oc dX6_init_1 (Nat.le_of_ble_eq_true rfl) (Nat.le_of_ble_eq_true rfl) ?_
  refine jn_aload_n C dX6_init_4 0 rfl rfl ?_
  refine jn_bipush C dX6_init_5 (v := 110) (by decide) ?_
  refine jn_newI (N := 110) C kw_aI (by decide) (by decide) (by decide) (Nat.le_of_ble_eq_true rfl) (Nat.le_of_ble_eq_true rfl) dX6_init_7 (fun q1 => ?_)
  show JN X w _ 9 [(0, .ref h0)] [.ref q1, .ref h0] [(h0, .inr (6, [.null, .int 0, .null, .null, .null, .null, .null, .null, .int 0, .int 0, .int 0])), (q1, .inl (w.2.2.1, 110, .inl (fun _ => 0)))] 1 110
  refine jn_putF (ci := 6) (ty := .array .int) C 0 0 rfl rfl (by decide) in_X6 tyX6 tyX6_ok nmX6 kf_RX6_9 rfl rfl (by decide +kernel) rfl rfl (Nat.le_of_ble_eq_true rfl) dX6_init_9 ?_
  show JN X w _ 12 [(0, .ref h0)] [] [(h0, .inr (6, [.ref q1, .int 0, .null, .null, .null, .null, .null, .null, .int 0, .int 0, .int 0])), (q1, .inl (w.2.2.1, 110, .inl (fun _ => 0)))] 1 110
  refine jn_aload_n C dX6_init_12 0 rfl rfl ?_
  refine jn_new (ci := 0) (fs := [.int 0, .int 0, .null, .null, .null]) C rfl in_X0 tyX0 tyX0_ok kl_RX6_13 kw_in0 kw_ini0 (fun j hj => by rcases (show j = 0 ∨ j = 1 ∨ j = 2 ∨ j = 3 ∨ j = 4 by omega) with rfl | rfl | rfl | rfl | rfl <;> rfl) (Nat.le_of_ble_eq_true rfl) (Nat.le_of_ble_eq_true rfl) dX6_init_13 (fun q2 => ?_)
  show JN X w _ 16 [(0, .ref h0)] [.ref q2, .ref h0] [(h0, .inr (6, [.ref q1, .int 0, .null, .null, .null, .null, .null, .null, .int 0, .int 0, .int 0])), (q1, .inl (w.2.2.1, 110, .inl (fun _ => 0))), (q2, .inr (0, [.int 0, .int 0, .null, .null, .null]))] 2 115
  refine jn_dup C dX6_init_16 rfl ?_
  refine jn_callN (mc := 3) (ms := 23) C 2 [0, 1] (c_X0_init q2) kw_CI0 (by decide +kernel) ⟨⟨rfl, rfl⟩, ⟨Nat.le_of_ble_eq_true rfl, Nat.le_of_ble_eq_true rfl⟩, Nat.le_of_ble_eq_true rfl, Nat.le_of_ble_eq_true rfl⟩ rfl (wr := [(h0, .inr (6, [.ref q1, .int 0, .null, .null, .null, .null, .null, .null, .int 0, .int 0, .int 0])), (q1, .inl (w.2.2.1, 110, .inl (fun _ => 0)))]) rfl (by decide) (by decide) (Nat.le_of_ble_eq_true rfl) dX6_init_17 (fun w1 h1 => ?_)
  obtain ⟨q3, q4, q5, rfl⟩ := h1
  show JN X w _ 20 [(0, .ref h0)] [.ref q2, .ref h0] [(h0, .inr (6, [.ref q1, .int 0, .null, .null, .null, .null, .null, .null, .int 0, .int 0, .int 0])), (q1, .inl (w.2.2.1, 110, .inl (fun _ => 0))), (q2, .inr (0, [.int 0, .int 0, .ref q3, .ref q4, .ref q5])), (q3, .inl (w.2.2.1, 5, .inl (fun _ => 0))), (q4, .inl (w.2.2.1, 9, .inl (fun _ => 0))), (q5, .inl (w.2.2.1, 9, .inl (fun _ => 0)))] 5 138
  refine jn_putF (ci := 6) (ty := .object "VouchFlow$Circle") C 0 2 rfl rfl (by decide) in_X6 tyX6 tyX6_ok nmX6 kf_RX6_16 rfl rfl (by decide +kernel) rfl rfl (Nat.le_of_ble_eq_true rfl) dX6_init_20 ?_
  show JN X w _ 23 [(0, .ref h0)] [] [(h0, .inr (6, [.ref q1, .int 0, .ref q2, .null, .null, .null, .null, .null, .int 0, .int 0, .int 0])), (q1, .inl (w.2.2.1, 110, .inl (fun _ => 0))), (q2, .inr (0, [.int 0, .int 0, .ref q3, .ref q4, .ref q5])), (q3, .inl (w.2.2.1, 5, .inl (fun _ => 0))), (q4, .inl (w.2.2.1, 9, .inl (fun _ => 0))), (q5, .inl (w.2.2.1, 9, .inl (fun _ => 0)))] 5 138
  refine jn_aload_n C dX6_init_23 0 rfl rfl ?_
  refine jn_new (ci := 2) (fs := [.null, .int 0, .int 0, .int 0]) C rfl in_X2 tyX2 tyX2_ok kl_RX6_20 kw_in2 kw_ini2 (fun j hj => by rcases (show j = 0 ∨ j = 1 ∨ j = 2 ∨ j = 3 by omega) with rfl | rfl | rfl | rfl <;> rfl) (Nat.le_of_ble_eq_true rfl) (Nat.le_of_ble_eq_true rfl) dX6_init_24 (fun q6 => ?_)
  show JN X w _ 27 [(0, .ref h0)] [.ref q6, .ref h0] [(h0, .inr (6, [.ref q1, .int 0, .ref q2, .null, .null, .null, .null, .null, .int 0, .int 0, .int 0])), (q1, .inl (w.2.2.1, 110, .inl (fun _ => 0))), (q2, .inr (0, [.int 0, .int 0, .ref q3, .ref q4, .ref q5])), (q3, .inl (w.2.2.1, 5, .inl (fun _ => 0))), (q4, .inl (w.2.2.1, 9, .inl (fun _ => 0))), (q5, .inl (w.2.2.1, 9, .inl (fun _ => 0))), (q6, .inr (2, [.null, .int 0, .int 0, .int 0]))] 6 142
  refine jn_dup C dX6_init_27 rfl ?_
  refine jn_callN (mc := 4) (ms := 28) C 6 [0, 1, 2, 3, 4, 5] (c_X2_init q6) kw_CI2 (by decide +kernel) ⟨⟨rfl, rfl⟩, ⟨Nat.le_of_ble_eq_true rfl, Nat.le_of_ble_eq_true rfl⟩, Nat.le_of_ble_eq_true rfl, Nat.le_of_ble_eq_true rfl⟩ rfl (wr := [(h0, .inr (6, [.ref q1, .int 0, .ref q2, .null, .null, .null, .null, .null, .int 0, .int 0, .int 0])), (q1, .inl (w.2.2.1, 110, .inl (fun _ => 0))), (q2, .inr (0, [.int 0, .int 0, .ref q3, .ref q4, .ref q5])), (q3, .inl (w.2.2.1, 5, .inl (fun _ => 0))), (q4, .inl (w.2.2.1, 9, .inl (fun _ => 0))), (q5, .inl (w.2.2.1, 9, .inl (fun _ => 0)))]) rfl (by decide) (by decide) (Nat.le_of_ble_eq_true rfl) dX6_init_28 (fun w1 h1 => ?_)
  obtain ⟨q7, q8, q9, q10, rfl⟩ := h1
  show JN X w _ 31 [(0, .ref h0)] [.ref q6, .ref h0] [(h0, .inr (6, [.ref q1, .int 0, .ref q2, .null, .null, .null, .null, .null, .int 0, .int 0, .int 0])), (q1, .inl (w.2.2.1, 110, .inl (fun _ => 0))), (q2, .inr (0, [.int 0, .int 0, .ref q3, .ref q4, .ref q5])), (q3, .inl (w.2.2.1, 5, .inl (fun _ => 0))), (q4, .inl (w.2.2.1, 9, .inl (fun _ => 0))), (q5, .inl (w.2.2.1, 9, .inl (fun _ => 0))), (q6, .inr (2, [.ref q7, .int 0, .int 0, .int 0])), (q7, .inr (0, [.int 0, .int 0, .ref q8, .ref q9, .ref q10])), (q8, .inl (w.2.2.1, 5, .inl (fun _ => 0))), (q9, .inl (w.2.2.1, 9, .inl (fun _ => 0))), (q10, .inl (w.2.2.1, 9, .inl (fun _ => 0)))] 10 170
  refine jn_putF (ci := 6) (ty := .object "VouchFlow$Reader") C 0 3 rfl rfl (by decide) in_X6 tyX6 tyX6_ok nmX6 kf_RX6_23 rfl rfl (by decide +kernel) rfl rfl (Nat.le_of_ble_eq_true rfl) dX6_init_31 ?_
  show JN X w _ 34 [(0, .ref h0)] [] [(h0, .inr (6, [.ref q1, .int 0, .ref q2, .ref q6, .null, .null, .null, .null, .int 0, .int 0, .int 0])), (q1, .inl (w.2.2.1, 110, .inl (fun _ => 0))), (q2, .inr (0, [.int 0, .int 0, .ref q3, .ref q4, .ref q5])), (q3, .inl (w.2.2.1, 5, .inl (fun _ => 0))), (q4, .inl (w.2.2.1, 9, .inl (fun _ => 0))), (q5, .inl (w.2.2.1, 9, .inl (fun _ => 0))), (q6, .inr (2, [.ref q7, .int 0, .int 0, .int 0])), (q7, .inr (0, [.int 0, .int 0, .ref q8, .ref q9, .ref q10])), (q8, .inl (w.2.2.1, 5, .inl (fun _ => 0))), (q9, .inl (w.2.2.1, 9, .inl (fun _ => 0))), (q10, .inl (w.2.2.1, 9, .inl (fun _ => 0)))] 10 170
  refine jn_aload_n C dX6_init_34 0 rfl rfl ?_
  refine jn_new (ci := 5) (fs := [.null, .int 0]) C rfl in_X5 tyX5 tyX5_ok kl_RX6_27 kw_in5 kw_ini5 (fun j hj => by rcases (show j = 0 ∨ j = 1 by omega) with rfl | rfl <;> rfl) (Nat.le_of_ble_eq_true rfl) (Nat.le_of_ble_eq_true rfl) dX6_init_35 (fun q11 => ?_)
  show JN X w _ 38 [(0, .ref h0)] [.ref q11, .ref h0] [(h0, .inr (6, [.ref q1, .int 0, .ref q2, .ref q6, .null, .null, .null, .null, .int 0, .int 0, .int 0])), (q1, .inl (w.2.2.1, 110, .inl (fun _ => 0))), (q2, .inr (0, [.int 0, .int 0, .ref q3, .ref q4, .ref q5])), (q3, .inl (w.2.2.1, 5, .inl (fun _ => 0))), (q4, .inl (w.2.2.1, 9, .inl (fun _ => 0))), (q5, .inl (w.2.2.1, 9, .inl (fun _ => 0))), (q6, .inr (2, [.ref q7, .int 0, .int 0, .int 0])), (q7, .inr (0, [.int 0, .int 0, .ref q8, .ref q9, .ref q10])), (q8, .inl (w.2.2.1, 5, .inl (fun _ => 0))), (q9, .inl (w.2.2.1, 9, .inl (fun _ => 0))), (q10, .inl (w.2.2.1, 9, .inl (fun _ => 0))), (q11, .inr (5, [.null, .int 0]))] 11 172
  refine jn_dup C dX6_init_38 rfl ?_
  refine jn_callN (mc := 1) (ms := 115) C 11 [0, 1, 2, 3, 4, 5, 6, 7, 8, 9, 10] (c_X5_init q11) kw_CI5 (by decide +kernel) ⟨⟨rfl, rfl⟩, ⟨Nat.le_of_ble_eq_true rfl, Nat.le_of_ble_eq_true rfl⟩, Nat.le_of_ble_eq_true rfl, Nat.le_of_ble_eq_true rfl⟩ rfl (wr := [(h0, .inr (6, [.ref q1, .int 0, .ref q2, .ref q6, .null, .null, .null, .null, .int 0, .int 0, .int 0])), (q1, .inl (w.2.2.1, 110, .inl (fun _ => 0))), (q2, .inr (0, [.int 0, .int 0, .ref q3, .ref q4, .ref q5])), (q3, .inl (w.2.2.1, 5, .inl (fun _ => 0))), (q4, .inl (w.2.2.1, 9, .inl (fun _ => 0))), (q5, .inl (w.2.2.1, 9, .inl (fun _ => 0))), (q6, .inr (2, [.ref q7, .int 0, .int 0, .int 0])), (q7, .inr (0, [.int 0, .int 0, .ref q8, .ref q9, .ref q10])), (q8, .inl (w.2.2.1, 5, .inl (fun _ => 0))), (q9, .inl (w.2.2.1, 9, .inl (fun _ => 0))), (q10, .inl (w.2.2.1, 9, .inl (fun _ => 0)))]) rfl (by decide) (by decide) (Nat.le_of_ble_eq_true rfl) dX6_init_39 (fun w1 h1 => ?_)
  obtain ⟨q12, rfl⟩ := h1
  show JN X w _ 42 [(0, .ref h0)] [.ref q11, .ref h0] [(h0, .inr (6, [.ref q1, .int 0, .ref q2, .ref q6, .null, .null, .null, .null, .int 0, .int 0, .int 0])), (q1, .inl (w.2.2.1, 110, .inl (fun _ => 0))), (q2, .inr (0, [.int 0, .int 0, .ref q3, .ref q4, .ref q5])), (q3, .inl (w.2.2.1, 5, .inl (fun _ => 0))), (q4, .inl (w.2.2.1, 9, .inl (fun _ => 0))), (q5, .inl (w.2.2.1, 9, .inl (fun _ => 0))), (q6, .inr (2, [.ref q7, .int 0, .int 0, .int 0])), (q7, .inr (0, [.int 0, .int 0, .ref q8, .ref q9, .ref q10])), (q8, .inl (w.2.2.1, 5, .inl (fun _ => 0))), (q9, .inl (w.2.2.1, 9, .inl (fun _ => 0))), (q10, .inl (w.2.2.1, 9, .inl (fun _ => 0))), (q11, .inr (5, [.ref q12, .int 0])), (q12, .inl (w.2.2.1, 115, .inl (fun _ => 0)))] 12 287
  refine jn_putF (ci := 6) (ty := .object "VouchFlow$Writer") C 0 4 rfl rfl (by decide) in_X6 tyX6 tyX6_ok nmX6 kf_RX6_30 rfl rfl (by decide +kernel) rfl rfl (Nat.le_of_ble_eq_true rfl) dX6_init_42 ?_
  show JN X w _ 45 [(0, .ref h0)] [] [(h0, .inr (6, [.ref q1, .int 0, .ref q2, .ref q6, .ref q11, .null, .null, .null, .int 0, .int 0, .int 0])), (q1, .inl (w.2.2.1, 110, .inl (fun _ => 0))), (q2, .inr (0, [.int 0, .int 0, .ref q3, .ref q4, .ref q5])), (q3, .inl (w.2.2.1, 5, .inl (fun _ => 0))), (q4, .inl (w.2.2.1, 9, .inl (fun _ => 0))), (q5, .inl (w.2.2.1, 9, .inl (fun _ => 0))), (q6, .inr (2, [.ref q7, .int 0, .int 0, .int 0])), (q7, .inr (0, [.int 0, .int 0, .ref q8, .ref q9, .ref q10])), (q8, .inl (w.2.2.1, 5, .inl (fun _ => 0))), (q9, .inl (w.2.2.1, 9, .inl (fun _ => 0))), (q10, .inl (w.2.2.1, 9, .inl (fun _ => 0))), (q11, .inr (5, [.ref q12, .int 0])), (q12, .inl (w.2.2.1, 115, .inl (fun _ => 0)))] 12 287
  refine jn_aload_n C dX6_init_45 0 rfl rfl ?_
  refine jn_new (ci := 1) (fs := [.null, .null, .null, .null, .null, .int 0, .int 0]) C rfl in_X1 tyX1 tyX1_ok kl_RX6_34 kw_in1 kw_ini1 (fun j hj => by rcases (show j = 0 ∨ j = 1 ∨ j = 2 ∨ j = 3 ∨ j = 4 ∨ j = 5 ∨ j = 6 by omega) with rfl | rfl | rfl | rfl | rfl | rfl | rfl <;> rfl) (Nat.le_of_ble_eq_true rfl) (Nat.le_of_ble_eq_true rfl) dX6_init_46 (fun q13 => ?_)
  show JN X w _ 49 [(0, .ref h0)] [.ref q13, .ref h0] [(h0, .inr (6, [.ref q1, .int 0, .ref q2, .ref q6, .ref q11, .null, .null, .null, .int 0, .int 0, .int 0])), (q1, .inl (w.2.2.1, 110, .inl (fun _ => 0))), (q2, .inr (0, [.int 0, .int 0, .ref q3, .ref q4, .ref q5])), (q3, .inl (w.2.2.1, 5, .inl (fun _ => 0))), (q4, .inl (w.2.2.1, 9, .inl (fun _ => 0))), (q5, .inl (w.2.2.1, 9, .inl (fun _ => 0))), (q6, .inr (2, [.ref q7, .int 0, .int 0, .int 0])), (q7, .inr (0, [.int 0, .int 0, .ref q8, .ref q9, .ref q10])), (q8, .inl (w.2.2.1, 5, .inl (fun _ => 0))), (q9, .inl (w.2.2.1, 9, .inl (fun _ => 0))), (q10, .inl (w.2.2.1, 9, .inl (fun _ => 0))), (q11, .inr (5, [.ref q12, .int 0])), (q12, .inl (w.2.2.1, 115, .inl (fun _ => 0))), (q13, .inr (1, [.null, .null, .null, .null, .null, .int 0, .int 0]))] 13 294
  refine jn_dup C dX6_init_49 rfl ?_
  refine jn_callN (mc := 8) (ms := 158) C 13 [0, 1, 2, 3, 4, 5, 6, 7, 8, 9, 10, 11, 12] (c_X1_init q13) kw_CI1 (by decide +kernel) ⟨⟨rfl, rfl⟩, ⟨Nat.le_of_ble_eq_true rfl, Nat.le_of_ble_eq_true rfl⟩, Nat.le_of_ble_eq_true rfl, Nat.le_of_ble_eq_true rfl⟩ rfl (wr := [(h0, .inr (6, [.ref q1, .int 0, .ref q2, .ref q6, .ref q11, .null, .null, .null, .int 0, .int 0, .int 0])), (q1, .inl (w.2.2.1, 110, .inl (fun _ => 0))), (q2, .inr (0, [.int 0, .int 0, .ref q3, .ref q4, .ref q5])), (q3, .inl (w.2.2.1, 5, .inl (fun _ => 0))), (q4, .inl (w.2.2.1, 9, .inl (fun _ => 0))), (q5, .inl (w.2.2.1, 9, .inl (fun _ => 0))), (q6, .inr (2, [.ref q7, .int 0, .int 0, .int 0])), (q7, .inr (0, [.int 0, .int 0, .ref q8, .ref q9, .ref q10])), (q8, .inl (w.2.2.1, 5, .inl (fun _ => 0))), (q9, .inl (w.2.2.1, 9, .inl (fun _ => 0))), (q10, .inl (w.2.2.1, 9, .inl (fun _ => 0))), (q11, .inr (5, [.ref q12, .int 0])), (q12, .inl (w.2.2.1, 115, .inl (fun _ => 0)))]) rfl (by decide) (by decide) (Nat.le_of_ble_eq_true rfl) dX6_init_50 (fun w1 h1 => ?_)
  obtain ⟨q14, q15, q16, q17, q18, q19, q20, q21, rfl⟩ := h1
  show JN X w _ 53 [(0, .ref h0)] [.ref q13, .ref h0] [(h0, .inr (6, [.ref q1, .int 0, .ref q2, .ref q6, .ref q11, .null, .null, .null, .int 0, .int 0, .int 0])), (q1, .inl (w.2.2.1, 110, .inl (fun _ => 0))), (q2, .inr (0, [.int 0, .int 0, .ref q3, .ref q4, .ref q5])), (q3, .inl (w.2.2.1, 5, .inl (fun _ => 0))), (q4, .inl (w.2.2.1, 9, .inl (fun _ => 0))), (q5, .inl (w.2.2.1, 9, .inl (fun _ => 0))), (q6, .inr (2, [.ref q7, .int 0, .int 0, .int 0])), (q7, .inr (0, [.int 0, .int 0, .ref q8, .ref q9, .ref q10])), (q8, .inl (w.2.2.1, 5, .inl (fun _ => 0))), (q9, .inl (w.2.2.1, 9, .inl (fun _ => 0))), (q10, .inl (w.2.2.1, 9, .inl (fun _ => 0))), (q11, .inr (5, [.ref q12, .int 0])), (q12, .inl (w.2.2.1, 115, .inl (fun _ => 0))), (q13, .inr (1, [.ref q14, .ref q18, .ref q19, .ref q20, .ref q21, .int 0, .int 0])), (q14, .inr (4, [.int 0, .int 0, .ref q15, .ref q16, .ref q17])), (q15, .inl (w.2.2.1, 9, .inl (fun _ => 0))), (q16, .inl (w.2.2.1, 9, .inl (fun _ => 0))), (q17, .inl (w.2.2.1, 9, .inl (fun _ => 0))), (q18, .inl (w.2.2.1, 9, .inl (fun _ => 0))), (q19, .inl (w.2.2.1, 81, .inl (fun _ => 0))), (q20, .inl (w.2.2.1, 18, .inl (fun _ => 0))), (q21, .inl (w.2.2.1, 18, .inl (fun _ => 0)))] 21 452
  refine jn_putF (ci := 6) (ty := .object "VouchFlow$Flow") C 0 5 rfl rfl (by decide) in_X6 tyX6 tyX6_ok nmX6 kf_RX6_37 rfl rfl (by decide +kernel) rfl rfl (Nat.le_of_ble_eq_true rfl) dX6_init_53 ?_
  show JN X w _ 56 [(0, .ref h0)] [] [(h0, .inr (6, [.ref q1, .int 0, .ref q2, .ref q6, .ref q11, .ref q13, .null, .null, .int 0, .int 0, .int 0])), (q1, .inl (w.2.2.1, 110, .inl (fun _ => 0))), (q2, .inr (0, [.int 0, .int 0, .ref q3, .ref q4, .ref q5])), (q3, .inl (w.2.2.1, 5, .inl (fun _ => 0))), (q4, .inl (w.2.2.1, 9, .inl (fun _ => 0))), (q5, .inl (w.2.2.1, 9, .inl (fun _ => 0))), (q6, .inr (2, [.ref q7, .int 0, .int 0, .int 0])), (q7, .inr (0, [.int 0, .int 0, .ref q8, .ref q9, .ref q10])), (q8, .inl (w.2.2.1, 5, .inl (fun _ => 0))), (q9, .inl (w.2.2.1, 9, .inl (fun _ => 0))), (q10, .inl (w.2.2.1, 9, .inl (fun _ => 0))), (q11, .inr (5, [.ref q12, .int 0])), (q12, .inl (w.2.2.1, 115, .inl (fun _ => 0))), (q13, .inr (1, [.ref q14, .ref q18, .ref q19, .ref q20, .ref q21, .int 0, .int 0])), (q14, .inr (4, [.int 0, .int 0, .ref q15, .ref q16, .ref q17])), (q15, .inl (w.2.2.1, 9, .inl (fun _ => 0))), (q16, .inl (w.2.2.1, 9, .inl (fun _ => 0))), (q17, .inl (w.2.2.1, 9, .inl (fun _ => 0))), (q18, .inl (w.2.2.1, 9, .inl (fun _ => 0))), (q19, .inl (w.2.2.1, 81, .inl (fun _ => 0))), (q20, .inl (w.2.2.1, 18, .inl (fun _ => 0))), (q21, .inl (w.2.2.1, 18, .inl (fun _ => 0)))] 21 452
  refine jn_aload_n C dX6_init_56 0 rfl rfl ?_
  refine jn_aload_n C dX6_init_57 0 rfl rfl ?_
  refine jn_get (ci := 6) C 0 5 rfl rfl (by decide) in_X6 kf_RX6_37 rfl dX6_init_58 ?_
  refine jn_get (ci := 1) C 13 0 rfl rfl (by decide) in_X1 kf_RX6_41 rfl dX6_init_61 ?_
  refine jn_putF (ci := 6) (ty := .object "VouchFlow$Web") C 0 6 rfl rfl (by decide) in_X6 tyX6 tyX6_ok nmX6 kf_RX6_45 rfl rfl (by decide +kernel) rfl rfl (Nat.le_of_ble_eq_true rfl) dX6_init_64 ?_
  show JN X w _ 67 [(0, .ref h0)] [] [(h0, .inr (6, [.ref q1, .int 0, .ref q2, .ref q6, .ref q11, .ref q13, .ref q14, .null, .int 0, .int 0, .int 0])), (q1, .inl (w.2.2.1, 110, .inl (fun _ => 0))), (q2, .inr (0, [.int 0, .int 0, .ref q3, .ref q4, .ref q5])), (q3, .inl (w.2.2.1, 5, .inl (fun _ => 0))), (q4, .inl (w.2.2.1, 9, .inl (fun _ => 0))), (q5, .inl (w.2.2.1, 9, .inl (fun _ => 0))), (q6, .inr (2, [.ref q7, .int 0, .int 0, .int 0])), (q7, .inr (0, [.int 0, .int 0, .ref q8, .ref q9, .ref q10])), (q8, .inl (w.2.2.1, 5, .inl (fun _ => 0))), (q9, .inl (w.2.2.1, 9, .inl (fun _ => 0))), (q10, .inl (w.2.2.1, 9, .inl (fun _ => 0))), (q11, .inr (5, [.ref q12, .int 0])), (q12, .inl (w.2.2.1, 115, .inl (fun _ => 0))), (q13, .inr (1, [.ref q14, .ref q18, .ref q19, .ref q20, .ref q21, .int 0, .int 0])), (q14, .inr (4, [.int 0, .int 0, .ref q15, .ref q16, .ref q17])), (q15, .inl (w.2.2.1, 9, .inl (fun _ => 0))), (q16, .inl (w.2.2.1, 9, .inl (fun _ => 0))), (q17, .inl (w.2.2.1, 9, .inl (fun _ => 0))), (q18, .inl (w.2.2.1, 9, .inl (fun _ => 0))), (q19, .inl (w.2.2.1, 81, .inl (fun _ => 0))), (q20, .inl (w.2.2.1, 18, .inl (fun _ => 0))), (q21, .inl (w.2.2.1, 18, .inl (fun _ => 0)))] 21 452
  refine jn_aload_n C dX6_init_67 0 rfl rfl ?_
  refine jn_new (ci := 3) (fs := [.int 0, .long 0, .null, .null]) C rfl in_X3 tyX3 tyX3_ok kl_RX6_46 kw_in3 kw_ini3 (fun j hj => by rcases (show j = 0 ∨ j = 1 ∨ j = 2 ∨ j = 3 by omega) with rfl | rfl | rfl | rfl <;> rfl) (Nat.le_of_ble_eq_true rfl) (Nat.le_of_ble_eq_true rfl) dX6_init_68 (fun q22 => ?_)
  show JN X w _ 71 [(0, .ref h0)] [.ref q22, .ref h0] [(h0, .inr (6, [.ref q1, .int 0, .ref q2, .ref q6, .ref q11, .ref q13, .ref q14, .null, .int 0, .int 0, .int 0])), (q1, .inl (w.2.2.1, 110, .inl (fun _ => 0))), (q2, .inr (0, [.int 0, .int 0, .ref q3, .ref q4, .ref q5])), (q3, .inl (w.2.2.1, 5, .inl (fun _ => 0))), (q4, .inl (w.2.2.1, 9, .inl (fun _ => 0))), (q5, .inl (w.2.2.1, 9, .inl (fun _ => 0))), (q6, .inr (2, [.ref q7, .int 0, .int 0, .int 0])), (q7, .inr (0, [.int 0, .int 0, .ref q8, .ref q9, .ref q10])), (q8, .inl (w.2.2.1, 5, .inl (fun _ => 0))), (q9, .inl (w.2.2.1, 9, .inl (fun _ => 0))), (q10, .inl (w.2.2.1, 9, .inl (fun _ => 0))), (q11, .inr (5, [.ref q12, .int 0])), (q12, .inl (w.2.2.1, 115, .inl (fun _ => 0))), (q13, .inr (1, [.ref q14, .ref q18, .ref q19, .ref q20, .ref q21, .int 0, .int 0])), (q14, .inr (4, [.int 0, .int 0, .ref q15, .ref q16, .ref q17])), (q15, .inl (w.2.2.1, 9, .inl (fun _ => 0))), (q16, .inl (w.2.2.1, 9, .inl (fun _ => 0))), (q17, .inl (w.2.2.1, 9, .inl (fun _ => 0))), (q18, .inl (w.2.2.1, 9, .inl (fun _ => 0))), (q19, .inl (w.2.2.1, 81, .inl (fun _ => 0))), (q20, .inl (w.2.2.1, 18, .inl (fun _ => 0))), (q21, .inl (w.2.2.1, 18, .inl (fun _ => 0))), (q22, .inr (3, [.int 0, .long 0, .null, .null]))] 22 456
  refine jn_dup C dX6_init_71 rfl ?_
  refine jn_callN (mc := 2) (ms := 18) C 22 [0, 1, 2, 3, 4, 5, 6, 7, 8, 9, 10, 11, 12, 13, 14, 15, 16, 17, 18, 19, 20, 21] (c_X3_init q22) kw_CI3 (by decide +kernel) ⟨⟨rfl, rfl⟩, ⟨Nat.le_of_ble_eq_true rfl, Nat.le_of_ble_eq_true rfl⟩, Nat.le_of_ble_eq_true rfl, Nat.le_of_ble_eq_true rfl⟩ rfl (wr := [(h0, .inr (6, [.ref q1, .int 0, .ref q2, .ref q6, .ref q11, .ref q13, .ref q14, .null, .int 0, .int 0, .int 0])), (q1, .inl (w.2.2.1, 110, .inl (fun _ => 0))), (q2, .inr (0, [.int 0, .int 0, .ref q3, .ref q4, .ref q5])), (q3, .inl (w.2.2.1, 5, .inl (fun _ => 0))), (q4, .inl (w.2.2.1, 9, .inl (fun _ => 0))), (q5, .inl (w.2.2.1, 9, .inl (fun _ => 0))), (q6, .inr (2, [.ref q7, .int 0, .int 0, .int 0])), (q7, .inr (0, [.int 0, .int 0, .ref q8, .ref q9, .ref q10])), (q8, .inl (w.2.2.1, 5, .inl (fun _ => 0))), (q9, .inl (w.2.2.1, 9, .inl (fun _ => 0))), (q10, .inl (w.2.2.1, 9, .inl (fun _ => 0))), (q11, .inr (5, [.ref q12, .int 0])), (q12, .inl (w.2.2.1, 115, .inl (fun _ => 0))), (q13, .inr (1, [.ref q14, .ref q18, .ref q19, .ref q20, .ref q21, .int 0, .int 0])), (q14, .inr (4, [.int 0, .int 0, .ref q15, .ref q16, .ref q17])), (q15, .inl (w.2.2.1, 9, .inl (fun _ => 0))), (q16, .inl (w.2.2.1, 9, .inl (fun _ => 0))), (q17, .inl (w.2.2.1, 9, .inl (fun _ => 0))), (q18, .inl (w.2.2.1, 9, .inl (fun _ => 0))), (q19, .inl (w.2.2.1, 81, .inl (fun _ => 0))), (q20, .inl (w.2.2.1, 18, .inl (fun _ => 0))), (q21, .inl (w.2.2.1, 18, .inl (fun _ => 0)))]) rfl (by decide) (by decide) (Nat.le_of_ble_eq_true rfl) dX6_init_72 (fun w1 h1 => ?_)
  obtain ⟨q23, q24, rfl⟩ := h1
  show JN X w _ 75 [(0, .ref h0)] [.ref q22, .ref h0] [(h0, .inr (6, [.ref q1, .int 0, .ref q2, .ref q6, .ref q11, .ref q13, .ref q14, .null, .int 0, .int 0, .int 0])), (q1, .inl (w.2.2.1, 110, .inl (fun _ => 0))), (q2, .inr (0, [.int 0, .int 0, .ref q3, .ref q4, .ref q5])), (q3, .inl (w.2.2.1, 5, .inl (fun _ => 0))), (q4, .inl (w.2.2.1, 9, .inl (fun _ => 0))), (q5, .inl (w.2.2.1, 9, .inl (fun _ => 0))), (q6, .inr (2, [.ref q7, .int 0, .int 0, .int 0])), (q7, .inr (0, [.int 0, .int 0, .ref q8, .ref q9, .ref q10])), (q8, .inl (w.2.2.1, 5, .inl (fun _ => 0))), (q9, .inl (w.2.2.1, 9, .inl (fun _ => 0))), (q10, .inl (w.2.2.1, 9, .inl (fun _ => 0))), (q11, .inr (5, [.ref q12, .int 0])), (q12, .inl (w.2.2.1, 115, .inl (fun _ => 0))), (q13, .inr (1, [.ref q14, .ref q18, .ref q19, .ref q20, .ref q21, .int 0, .int 0])), (q14, .inr (4, [.int 0, .int 0, .ref q15, .ref q16, .ref q17])), (q15, .inl (w.2.2.1, 9, .inl (fun _ => 0))), (q16, .inl (w.2.2.1, 9, .inl (fun _ => 0))), (q17, .inl (w.2.2.1, 9, .inl (fun _ => 0))), (q18, .inl (w.2.2.1, 9, .inl (fun _ => 0))), (q19, .inl (w.2.2.1, 81, .inl (fun _ => 0))), (q20, .inl (w.2.2.1, 18, .inl (fun _ => 0))), (q21, .inl (w.2.2.1, 18, .inl (fun _ => 0))), (q22, .inr (3, [.int 0, .long 0, .ref q23, .ref q24])), (q23, .inl (w.2.2.2, 9, .inr (.inl (fun _ => 0)))), (q24, .inl (w.2.2.2, 9, .inr (.inl (fun _ => 0))))] 24 474
  refine jn_putF (ci := 6) (ty := .object "VouchFlow$Walk") C 0 7 rfl rfl (by decide) in_X6 tyX6 tyX6_ok nmX6 kf_RX6_49 rfl rfl (by decide +kernel) rfl rfl (Nat.le_of_ble_eq_true rfl) dX6_init_75 ?_
  show JN X w _ 78 [(0, .ref h0)] [] [(h0, .inr (6, [.ref q1, .int 0, .ref q2, .ref q6, .ref q11, .ref q13, .ref q14, .ref q22, .int 0, .int 0, .int 0])), (q1, .inl (w.2.2.1, 110, .inl (fun _ => 0))), (q2, .inr (0, [.int 0, .int 0, .ref q3, .ref q4, .ref q5])), (q3, .inl (w.2.2.1, 5, .inl (fun _ => 0))), (q4, .inl (w.2.2.1, 9, .inl (fun _ => 0))), (q5, .inl (w.2.2.1, 9, .inl (fun _ => 0))), (q6, .inr (2, [.ref q7, .int 0, .int 0, .int 0])), (q7, .inr (0, [.int 0, .int 0, .ref q8, .ref q9, .ref q10])), (q8, .inl (w.2.2.1, 5, .inl (fun _ => 0))), (q9, .inl (w.2.2.1, 9, .inl (fun _ => 0))), (q10, .inl (w.2.2.1, 9, .inl (fun _ => 0))), (q11, .inr (5, [.ref q12, .int 0])), (q12, .inl (w.2.2.1, 115, .inl (fun _ => 0))), (q13, .inr (1, [.ref q14, .ref q18, .ref q19, .ref q20, .ref q21, .int 0, .int 0])), (q14, .inr (4, [.int 0, .int 0, .ref q15, .ref q16, .ref q17])), (q15, .inl (w.2.2.1, 9, .inl (fun _ => 0))), (q16, .inl (w.2.2.1, 9, .inl (fun _ => 0))), (q17, .inl (w.2.2.1, 9, .inl (fun _ => 0))), (q18, .inl (w.2.2.1, 9, .inl (fun _ => 0))), (q19, .inl (w.2.2.1, 81, .inl (fun _ => 0))), (q20, .inl (w.2.2.1, 18, .inl (fun _ => 0))), (q21, .inl (w.2.2.1, 18, .inl (fun _ => 0))), (q22, .inr (3, [.int 0, .long 0, .ref q23, .ref q24])), (q23, .inl (w.2.2.2, 9, .inr (.inl (fun _ => 0)))), (q24, .inl (w.2.2.2, 9, .inr (.inl (fun _ => 0))))] 24 474
  exact jn_vret C dX6_init_78 ⟨q1, q2, q3, q4, q5, q6, q7, q8, q9, q10, q11, q12, q13, q14, q15, q16, q17, q18, q19, q20, q21, q22, q23, q24, rfl⟩
theorem ko_7 : Cond.methodLink RX7 1 Lib.objectInit ∈ TB := tb_mem 716 (by decide +kernel) rfl
theorem kf_RX7_7 : Cond.fieldLink RX7 7 "VouchFlowModel" "kind" "[I" ∈ TB := tb_mem 718 (by decide +kernel) rfl
theorem kf_RX7_13 : Cond.fieldLink RX7 13 "VouchFlowModel" "vouched" "[I" ∈ TB := tb_mem 719 (by decide +kernel) rfl
theorem kf_RX7_16 : Cond.fieldLink RX7 16 "VouchFlowModel" "bound" "[I" ∈ TB := tb_mem 721 (by decide +kernel) rfl
theorem kf_RX7_19 : Cond.fieldLink RX7 19 "VouchFlowModel" "page" "[I" ∈ TB := tb_mem 726 (by decide +kernel) rfl
theorem kf_RX7_22 : Cond.fieldLink RX7 22 "VouchFlowModel" "newBound" "[I" ∈ TB := tb_mem 730 (by decide +kernel) rfl
theorem kf_RX7_25 : Cond.fieldLink RX7 25 "VouchFlowModel" "newKind" "[I" ∈ TB := tb_mem 734 (by decide +kernel) rfl
theorem kf_RX7_28 : Cond.fieldLink RX7 28 "VouchFlowModel" "newVouched" "[I" ∈ TB := tb_mem 735 (by decide +kernel) rfl
theorem kf_RX7_31 : Cond.fieldLink RX7 31 "VouchFlowModel" "level" "[I" ∈ TB := tb_mem 739 (by decide +kernel) rfl
theorem kf_RX7_34 : Cond.fieldLink RX7 34 "VouchFlowModel" "most" "[I" ∈ TB := tb_mem 740 (by decide +kernel) rfl
theorem kf_RX7_37 : Cond.fieldLink RX7 37 "VouchFlowModel" "wallMost" "[I" ∈ TB := tb_mem 741 (by decide +kernel) rfl
theorem kf_RX7_40 : Cond.fieldLink RX7 40 "VouchFlowModel" "kept" "[I" ∈ TB := tb_mem 742 (by decide +kernel) rfl
theorem kf_RX7_43 : Cond.fieldLink RX7 43 "VouchFlowModel" "chance" "[J" ∈ TB := tb_mem 743 (by decide +kernel) rfl
theorem kf_RX7_47 : Cond.fieldLink RX7 47 "VouchFlowModel" "chanceNext" "[J" ∈ TB := tb_mem 744 (by decide +kernel) rfl
def rmc_7 : Room := { frames := 1, cells := 13, slots := 713, locals := 16 }
set_option maxRecDepth 20000 in
theorem c_X7_init {l : Launch} {w : Wt} (h0 : Nat) : MK l w yX7_init cX7_init 1 rmc_7 h0 [(h0, .inr (7, [.int 0, .null, .null, .int 0, .null, .int 0, .int 0, .int 0, .int 0, .null, .int 0, .int 0, .int 0, .null, .int 0, .int 0, .int 0, .null, .null, .int 0, .int 0, .int 0, .null, .null, .null, .null, .null, .null, .long 0, .long 0]))] 13 713 (fun u => ∃ q1 q2 q3 q4 q5 q6 q7 q8 q9 q10 q11 q12 q13 : Nat, u = [(h0, .inr (7, [.int 0, .ref q1, .ref q2, .int 0, .ref q3, .int 0, .int 0, .int 0, .int 0, .ref q4, .int 0, .int 0, .int 0, .ref q5, .int 0, .int 0, .int 0, .ref q6, .ref q7, .int 0, .int 0, .int 0, .ref q8, .ref q9, .ref q10, .ref q11, .ref q12, .ref q13, .long 0, .long 0])), (q1, .inl (w.2.2.1, 9, .inl (fun _ => 0))), (q2, .inl (w.2.2.1, 9, .inl (fun _ => 0))), (q3, .inl (w.2.2.1, 5, .inl (fun _ => 0))), (q4, .inl (w.2.2.1, 110, .inl (fun _ => 0))), (q5, .inl (w.2.2.1, 5, .inl (fun _ => 0))), (q6, .inl (w.2.2.1, 9, .inl (fun _ => 0))), (q7, .inl (w.2.2.1, 9, .inl (fun _ => 0))), (q8, .inl (w.2.2.1, 9, .inl (fun _ => 0))), (q9, .inl (w.2.2.1, 9, .inl (fun _ => 0))), (q10, .inl (w.2.2.1, 512, .inl (fun _ => 0))), (q11, .inl (w.2.2.1, 9, .inl (fun _ => 0))), (q12, .inl (w.2.2.2, 9, .inr (.inl (fun _ => 0)))), (q13, .inl (w.2.2.2, 9, .inr (.inl (fun _ => 0))))]) := by
  refine mk_of (own := RX7) (by decide) rfl rfl (fun X C => ?_)
  refine jn_aload_n C dX7_init_0 0 rfl rfl ?_
  refine jn_obj C ko_7 kw_oi kw_oc dX7_init_1 (Nat.le_of_ble_eq_true rfl) (Nat.le_of_ble_eq_true rfl) ?_
  refine jn_aload_n C dX7_init_4 0 rfl rfl ?_
  refine jn_bipush C dX7_init_5 (v := 9) (by decide) ?_
  refine jn_newI (N := 9) C kw_aI (by decide) (by decide) (by decide) (Nat.le_of_ble_eq_true rfl) (Nat.le_of_ble_eq_true rfl) dX7_init_7 (fun q1 => ?_)
  show JN X w _ 9 [(0, .ref h0)] [.ref q1, .ref h0] [(h0, .inr (7, [.int 0, .null, .null, .int 0, .null, .int 0, .int 0, .int 0, .int 0, .null, .int 0, .int 0, .int 0, .null, .int 0, .int 0, .int 0, .null, .null, .int 0, .int 0, .int 0, .null, .null, .null, .null, .null, .null, .long 0, .long 0])), (q1, .inl (w.2.2.1, 9, .inl (fun _ => 0)))] 1 9
  refine jn_putF (ci := 7) (ty := .array .int) C 0 1 rfl rfl (by decide) in_X7 tyX7 tyX7_ok nmX7 kf_RX7_7 rfl rfl (by decide +kernel) rfl rfl (Nat.le_of_ble_eq_true rfl) dX7_init_9 ?_
  show JN X w _ 12 [(0, .ref h0)] [] [(h0, .inr (7, [.int 0, .ref q1, .null, .int 0, .null, .int 0, .int 0, .int 0, .int 0, .null, .int 0, .int 0, .int 0, .null, .int 0, .int 0, .int 0, .null, .null, .int 0, .int 0, .int 0, .null, .null, .null, .null, .null, .null, .long 0, .long 0])), (q1, .inl (w.2.2.1, 9, .inl (fun _ => 0)))] 1 9
  refine jn_aload_n C dX7_init_12 0 rfl rfl ?_
  refine jn_bipush C dX7_init_13 (v := 9) (by decide) ?_
  refine jn_newI (N := 9) C kw_aI (by decide) (by decide) (by decide) (Nat.le_of_ble_eq_true rfl) (Nat.le_of_ble_eq_true rfl) dX7_init_15 (fun q2 => ?_)
  show JN X w _ 17 [(0, .ref h0)] [.ref q2, .ref h0] [(h0, .inr (7, [.int 0, .ref q1, .null, .int 0, .null, .int 0, .int 0, .int 0, .int 0, .null, .int 0, .int 0, .int 0, .null, .int 0, .int 0, .int 0, .null, .null, .int 0, .int 0, .int 0, .null, .null, .null, .null, .null, .null, .long 0, .long 0])), (q1, .inl (w.2.2.1, 9, .inl (fun _ => 0))), (q2, .inl (w.2.2.1, 9, .inl (fun _ => 0)))] 2 18
  refine jn_putF (ci := 7) (ty := .array .int) C 0 2 rfl rfl (by decide) in_X7 tyX7 tyX7_ok nmX7 kf_RX7_13 rfl rfl (by decide +kernel) rfl rfl (Nat.le_of_ble_eq_true rfl) dX7_init_17 ?_
  show JN X w _ 20 [(0, .ref h0)] [] [(h0, .inr (7, [.int 0, .ref q1, .ref q2, .int 0, .null, .int 0, .int 0, .int 0, .int 0, .null, .int 0, .int 0, .int 0, .null, .int 0, .int 0, .int 0, .null, .null, .int 0, .int 0, .int 0, .null, .null, .null, .null, .null, .null, .long 0, .long 0])), (q1, .inl (w.2.2.1, 9, .inl (fun _ => 0))), (q2, .inl (w.2.2.1, 9, .inl (fun _ => 0)))] 2 18
  refine jn_aload_n C dX7_init_20 0 rfl rfl ?_
  refine jn_iconst C dX7_init_21 (v := 5) (by decide) ?_
  refine jn_newI (N := 5) C kw_aI (by decide) (by decide) (by decide) (Nat.le_of_ble_eq_true rfl) (Nat.le_of_ble_eq_true rfl) dX7_init_22 (fun q3 => ?_)
  show JN X w _ 24 [(0, .ref h0)] [.ref q3, .ref h0] [(h0, .inr (7, [.int 0, .ref q1, .ref q2, .int 0, .null, .int 0, .int 0, .int 0, .int 0, .null, .int 0, .int 0, .int 0, .null, .int 0, .int 0, .int 0, .null, .null, .int 0, .int 0, .int 0, .null, .null, .null, .null, .null, .null, .long 0, .long 0])), (q1, .inl (w.2.2.1, 9, .inl (fun _ => 0))), (q2, .inl (w.2.2.1, 9, .inl (fun _ => 0))), (q3, .inl (w.2.2.1, 5, .inl (fun _ => 0)))] 3 23
  refine jn_putF (ci := 7) (ty := .array .int) C 0 4 rfl rfl (by decide) in_X7 tyX7 tyX7_ok nmX7 kf_RX7_16 rfl rfl (by decide +kernel) rfl rfl (Nat.le_of_ble_eq_true rfl) dX7_init_24 ?_
  show JN X w _ 27 [(0, .ref h0)] [] [(h0, .inr (7, [.int 0, .ref q1, .ref q2, .int 0, .ref q3, .int 0, .int 0, .int 0, .int 0, .null, .int 0, .int 0, .int 0, .null, .int 0, .int 0, .int 0, .null, .null, .int 0, .int 0, .int 0, .null, .null, .null, .null, .null, .null, .long 0, .long 0])), (q1, .inl (w.2.2.1, 9, .inl (fun _ => 0))), (q2, .inl (w.2.2.1, 9, .inl (fun _ => 0))), (q3, .inl (w.2.2.1, 5, .inl (fun _ => 0)))] 3 23
  refine jn_aload_n C dX7_init_27 0 rfl rfl ?_
  refine jn_bipush C dX7_init_28 (v := 110) (by decide) ?_
  refine jn_newI (N := 110) C kw_aI (by decide) (by decide) (by decide) (Nat.le_of_ble_eq_true rfl) (Nat.le_of_ble_eq_true rfl) dX7_init_30 (fun q4 => ?_)
  show JN X w _ 32 [(0, .ref h0)] [.ref q4, .ref h0] [(h0, .inr (7, [.int 0, .ref q1, .ref q2, .int 0, .ref q3, .int 0, .int 0, .int 0, .int 0, .null, .int 0, .int 0, .int 0, .null, .int 0, .int 0, .int 0, .null, .null, .int 0, .int 0, .int 0, .null, .null, .null, .null, .null, .null, .long 0, .long 0])), (q1, .inl (w.2.2.1, 9, .inl (fun _ => 0))), (q2, .inl (w.2.2.1, 9, .inl (fun _ => 0))), (q3, .inl (w.2.2.1, 5, .inl (fun _ => 0))), (q4, .inl (w.2.2.1, 110, .inl (fun _ => 0)))] 4 133
  refine jn_putF (ci := 7) (ty := .array .int) C 0 9 rfl rfl (by decide) in_X7 tyX7 tyX7_ok nmX7 kf_RX7_19 rfl rfl (by decide +kernel) rfl rfl (Nat.le_of_ble_eq_true rfl) dX7_init_32 ?_
  show JN X w _ 35 [(0, .ref h0)] [] [(h0, .inr (7, [.int 0, .ref q1, .ref q2, .int 0, .ref q3, .int 0, .int 0, .int 0, .int 0, .ref q4, .int 0, .int 0, .int 0, .null, .int 0, .int 0, .int 0, .null, .null, .int 0, .int 0, .int 0, .null, .null, .null, .null, .null, .null, .long 0, .long 0])), (q1, .inl (w.2.2.1, 9, .inl (fun _ => 0))), (q2, .inl (w.2.2.1, 9, .inl (fun _ => 0))), (q3, .inl (w.2.2.1, 5, .inl (fun _ => 0))), (q4, .inl (w.2.2.1, 110, .inl (fun _ => 0)))] 4 133
  refine jn_aload_n C dX7_init_35 0 rfl rfl ?_
  refine jn_iconst C dX7_init_36 (v := 5) (by decide) ?_
  refine jn_newI (N := 5) C kw_aI (by decide) (by decide) (by decide) (Nat.le_of_ble_eq_true rfl) (Nat.le_of_ble_eq_true rfl) dX7_init_37 (fun q5 => ?_)
  show JN X w _ 39 [(0, .ref h0)] [.ref q5, .ref h0] [(h0, .inr (7, [.int 0, .ref q1, .ref q2, .int 0, .ref q3, .int 0, .int 0, .int 0, .int 0, .ref q4, .int 0, .int 0, .int 0, .null, .int 0, .int 0, .int 0, .null, .null, .int 0, .int 0, .int 0, .null, .null, .null, .null, .null, .null, .long 0, .long 0])), (q1, .inl (w.2.2.1, 9, .inl (fun _ => 0))), (q2, .inl (w.2.2.1, 9, .inl (fun _ => 0))), (q3, .inl (w.2.2.1, 5, .inl (fun _ => 0))), (q4, .inl (w.2.2.1, 110, .inl (fun _ => 0))), (q5, .inl (w.2.2.1, 5, .inl (fun _ => 0)))] 5 138
  refine jn_putF (ci := 7) (ty := .array .int) C 0 13 rfl rfl (by decide) in_X7 tyX7 tyX7_ok nmX7 kf_RX7_22 rfl rfl (by decide +kernel) rfl rfl (Nat.le_of_ble_eq_true rfl) dX7_init_39 ?_
  show JN X w _ 42 [(0, .ref h0)] [] [(h0, .inr (7, [.int 0, .ref q1, .ref q2, .int 0, .ref q3, .int 0, .int 0, .int 0, .int 0, .ref q4, .int 0, .int 0, .int 0, .ref q5, .int 0, .int 0, .int 0, .null, .null, .int 0, .int 0, .int 0, .null, .null, .null, .null, .null, .null, .long 0, .long 0])), (q1, .inl (w.2.2.1, 9, .inl (fun _ => 0))), (q2, .inl (w.2.2.1, 9, .inl (fun _ => 0))), (q3, .inl (w.2.2.1, 5, .inl (fun _ => 0))), (q4, .inl (w.2.2.1, 110, .inl (fun _ => 0))), (q5, .inl (w.2.2.1, 5, .inl (fun _ => 0)))] 5 138
  refine jn_aload_n C dX7_init_42 0 rfl rfl ?_
  refine jn_bipush C dX7_init_43 (v := 9) (by decide) ?_
  refine jn_newI (N := 9) C kw_aI (by decide) (by decide) (by decide) (Nat.le_of_ble_eq_true rfl) (Nat.le_of_ble_eq_true rfl) dX7_init_45 (fun q6 => ?_)
  show JN X w _ 47 [(0, .ref h0)] [.ref q6, .ref h0] [(h0, .inr (7, [.int 0, .ref q1, .ref q2, .int 0, .ref q3, .int 0, .int 0, .int 0, .int 0, .ref q4, .int 0, .int 0, .int 0, .ref q5, .int 0, .int 0, .int 0, .null, .null, .int 0, .int 0, .int 0, .null, .null, .null, .null, .null, .null, .long 0, .long 0])), (q1, .inl (w.2.2.1, 9, .inl (fun _ => 0))), (q2, .inl (w.2.2.1, 9, .inl (fun _ => 0))), (q3, .inl (w.2.2.1, 5, .inl (fun _ => 0))), (q4, .inl (w.2.2.1, 110, .inl (fun _ => 0))), (q5, .inl (w.2.2.1, 5, .inl (fun _ => 0))), (q6, .inl (w.2.2.1, 9, .inl (fun _ => 0)))] 6 147
  refine jn_putF (ci := 7) (ty := .array .int) C 0 17 rfl rfl (by decide) in_X7 tyX7 tyX7_ok nmX7 kf_RX7_25 rfl rfl (by decide +kernel) rfl rfl (Nat.le_of_ble_eq_true rfl) dX7_init_47 ?_
  show JN X w _ 50 [(0, .ref h0)] [] [(h0, .inr (7, [.int 0, .ref q1, .ref q2, .int 0, .ref q3, .int 0, .int 0, .int 0, .int 0, .ref q4, .int 0, .int 0, .int 0, .ref q5, .int 0, .int 0, .int 0, .ref q6, .null, .int 0, .int 0, .int 0, .null, .null, .null, .null, .null, .null, .long 0, .long 0])), (q1, .inl (w.2.2.1, 9, .inl (fun _ => 0))), (q2, .inl (w.2.2.1, 9, .inl (fun _ => 0))), (q3, .inl (w.2.2.1, 5, .inl (fun _ => 0))), (q4, .inl (w.2.2.1, 110, .inl (fun _ => 0))), (q5, .inl (w.2.2.1, 5, .inl (fun _ => 0))), (q6, .inl (w.2.2.1, 9, .inl (fun _ => 0)))] 6 147
  refine jn_aload_n C dX7_init_50 0 rfl rfl ?_
  refine jn_bipush C dX7_init_51 (v := 9) (by decide) ?_
  refine jn_newI (N := 9) C kw_aI (by decide) (by decide) (by decide) (Nat.le_of_ble_eq_true rfl) (Nat.le_of_ble_eq_true rfl) dX7_init_53 (fun q7 => ?_)
  show JN X w _ 55 [(0, .ref h0)] [.ref q7, .ref h0] [(h0, .inr (7, [.int 0, .ref q1, .ref q2, .int 0, .ref q3, .int 0, .int 0, .int 0, .int 0, .ref q4, .int 0, .int 0, .int 0, .ref q5, .int 0, .int 0, .int 0, .ref q6, .null, .int 0, .int 0, .int 0, .null, .null, .null, .null, .null, .null, .long 0, .long 0])), (q1, .inl (w.2.2.1, 9, .inl (fun _ => 0))), (q2, .inl (w.2.2.1, 9, .inl (fun _ => 0))), (q3, .inl (w.2.2.1, 5, .inl (fun _ => 0))), (q4, .inl (w.2.2.1, 110, .inl (fun _ => 0))), (q5, .inl (w.2.2.1, 5, .inl (fun _ => 0))), (q6, .inl (w.2.2.1, 9, .inl (fun _ => 0))), (q7, .inl (w.2.2.1, 9, .inl (fun _ => 0)))] 7 156
  refine jn_putF (ci := 7) (ty := .array .int) C 0 18 rfl rfl (by decide) in_X7 tyX7 tyX7_ok nmX7 kf_RX7_28 rfl rfl (by decide +kernel) rfl rfl (Nat.le_of_ble_eq_true rfl) dX7_init_55 ?_
  show JN X w _ 58 [(0, .ref h0)] [] [(h0, .inr (7, [.int 0, .ref q1, .ref q2, .int 0, .ref q3, .int 0, .int 0, .int 0, .int 0, .ref q4, .int 0, .int 0, .int 0, .ref q5, .int 0, .int 0, .int 0, .ref q6, .ref q7, .int 0, .int 0, .int 0, .null, .null, .null, .null, .null, .null, .long 0, .long 0])), (q1, .inl (w.2.2.1, 9, .inl (fun _ => 0))), (q2, .inl (w.2.2.1, 9, .inl (fun _ => 0))), (q3, .inl (w.2.2.1, 5, .inl (fun _ => 0))), (q4, .inl (w.2.2.1, 110, .inl (fun _ => 0))), (q5, .inl (w.2.2.1, 5, .inl (fun _ => 0))), (q6, .inl (w.2.2.1, 9, .inl (fun _ => 0))), (q7, .inl (w.2.2.1, 9, .inl (fun _ => 0)))] 7 156
  refine jn_aload_n C dX7_init_58 0 rfl rfl ?_
  refine jn_bipush C dX7_init_59 (v := 9) (by decide) ?_
  refine jn_newI (N := 9) C kw_aI (by decide) (by decide) (by decide) (Nat.le_of_ble_eq_true rfl) (Nat.le_of_ble_eq_true rfl) dX7_init_61 (fun q8 => ?_)
  show JN X w _ 63 [(0, .ref h0)] [.ref q8, .ref h0] [(h0, .inr (7, [.int 0, .ref q1, .ref q2, .int 0, .ref q3, .int 0, .int 0, .int 0, .int 0, .ref q4, .int 0, .int 0, .int 0, .ref q5, .int 0, .int 0, .int 0, .ref q6, .ref q7, .int 0, .int 0, .int 0, .null, .null, .null, .null, .null, .null, .long 0, .long 0])), (q1, .inl (w.2.2.1, 9, .inl (fun _ => 0))), (q2, .inl (w.2.2.1, 9, .inl (fun _ => 0))), (q3, .inl (w.2.2.1, 5, .inl (fun _ => 0))), (q4, .inl (w.2.2.1, 110, .inl (fun _ => 0))), (q5, .inl (w.2.2.1, 5, .inl (fun _ => 0))), (q6, .inl (w.2.2.1, 9, .inl (fun _ => 0))), (q7, .inl (w.2.2.1, 9, .inl (fun _ => 0))), (q8, .inl (w.2.2.1, 9, .inl (fun _ => 0)))] 8 165
  refine jn_putF (ci := 7) (ty := .array .int) C 0 22 rfl rfl (by decide) in_X7 tyX7 tyX7_ok nmX7 kf_RX7_31 rfl rfl (by decide +kernel) rfl rfl (Nat.le_of_ble_eq_true rfl) dX7_init_63 ?_
  show JN X w _ 66 [(0, .ref h0)] [] [(h0, .inr (7, [.int 0, .ref q1, .ref q2, .int 0, .ref q3, .int 0, .int 0, .int 0, .int 0, .ref q4, .int 0, .int 0, .int 0, .ref q5, .int 0, .int 0, .int 0, .ref q6, .ref q7, .int 0, .int 0, .int 0, .ref q8, .null, .null, .null, .null, .null, .long 0, .long 0])), (q1, .inl (w.2.2.1, 9, .inl (fun _ => 0))), (q2, .inl (w.2.2.1, 9, .inl (fun _ => 0))), (q3, .inl (w.2.2.1, 5, .inl (fun _ => 0))), (q4, .inl (w.2.2.1, 110, .inl (fun _ => 0))), (q5, .inl (w.2.2.1, 5, .inl (fun _ => 0))), (q6, .inl (w.2.2.1, 9, .inl (fun _ => 0))), (q7, .inl (w.2.2.1, 9, .inl (fun _ => 0))), (q8, .inl (w.2.2.1, 9, .inl (fun _ => 0)))] 8 165
  refine jn_aload_n C dX7_init_66 0 rfl rfl ?_
  refine jn_bipush C dX7_init_67 (v := 9) (by decide) ?_
  refine jn_newI (N := 9) C kw_aI (by decide) (by decide) (by decide) (Nat.le_of_ble_eq_true rfl) (Nat.le_of_ble_eq_true rfl) dX7_init_69 (fun q9 => ?_)
  show JN X w _ 71 [(0, .ref h0)] [.ref q9, .ref h0] [(h0, .inr (7, [.int 0, .ref q1, .ref q2, .int 0, .ref q3, .int 0, .int 0, .int 0, .int 0, .ref q4, .int 0, .int 0, .int 0, .ref q5, .int 0, .int 0, .int 0, .ref q6, .ref q7, .int 0, .int 0, .int 0, .ref q8, .null, .null, .null, .null, .null, .long 0, .long 0])), (q1, .inl (w.2.2.1, 9, .inl (fun _ => 0))), (q2, .inl (w.2.2.1, 9, .inl (fun _ => 0))), (q3, .inl (w.2.2.1, 5, .inl (fun _ => 0))), (q4, .inl (w.2.2.1, 110, .inl (fun _ => 0))), (q5, .inl (w.2.2.1, 5, .inl (fun _ => 0))), (q6, .inl (w.2.2.1, 9, .inl (fun _ => 0))), (q7, .inl (w.2.2.1, 9, .inl (fun _ => 0))), (q8, .inl (w.2.2.1, 9, .inl (fun _ => 0))), (q9, .inl (w.2.2.1, 9, .inl (fun _ => 0)))] 9 174
  refine jn_putF (ci := 7) (ty := .array .int) C 0 23 rfl rfl (by decide) in_X7 tyX7 tyX7_ok nmX7 kf_RX7_34 rfl rfl (by decide +kernel) rfl rfl (Nat.le_of_ble_eq_true rfl) dX7_init_71 ?_
  show JN X w _ 74 [(0, .ref h0)] [] [(h0, .inr (7, [.int 0, .ref q1, .ref q2, .int 0, .ref q3, .int 0, .int 0, .int 0, .int 0, .ref q4, .int 0, .int 0, .int 0, .ref q5, .int 0, .int 0, .int 0, .ref q6, .ref q7, .int 0, .int 0, .int 0, .ref q8, .ref q9, .null, .null, .null, .null, .long 0, .long 0])), (q1, .inl (w.2.2.1, 9, .inl (fun _ => 0))), (q2, .inl (w.2.2.1, 9, .inl (fun _ => 0))), (q3, .inl (w.2.2.1, 5, .inl (fun _ => 0))), (q4, .inl (w.2.2.1, 110, .inl (fun _ => 0))), (q5, .inl (w.2.2.1, 5, .inl (fun _ => 0))), (q6, .inl (w.2.2.1, 9, .inl (fun _ => 0))), (q7, .inl (w.2.2.1, 9, .inl (fun _ => 0))), (q8, .inl (w.2.2.1, 9, .inl (fun _ => 0))), (q9, .inl (w.2.2.1, 9, .inl (fun _ => 0)))] 9 174
  refine jn_aload_n C dX7_init_74 0 rfl rfl ?_
  refine jn_sipush C dX7_init_75 (v := 512) (by decide) ?_
  refine jn_newI (N := 512) C kw_aI (by decide) (by decide) (by decide) (Nat.le_of_ble_eq_true rfl) (Nat.le_of_ble_eq_true rfl) dX7_init_78 (fun q10 => ?_)
  show JN X w _ 80 [(0, .ref h0)] [.ref q10, .ref h0] [(h0, .inr (7, [.int 0, .ref q1, .ref q2, .int 0, .ref q3, .int 0, .int 0, .int 0, .int 0, .ref q4, .int 0, .int 0, .int 0, .ref q5, .int 0, .int 0, .int 0, .ref q6, .ref q7, .int 0, .int 0, .int 0, .ref q8, .ref q9, .null, .null, .null, .null, .long 0, .long 0])), (q1, .inl (w.2.2.1, 9, .inl (fun _ => 0))), (q2, .inl (w.2.2.1, 9, .inl (fun _ => 0))), (q3, .inl (w.2.2.1, 5, .inl (fun _ => 0))), (q4, .inl (w.2.2.1, 110, .inl (fun _ => 0))), (q5, .inl (w.2.2.1, 5, .inl (fun _ => 0))), (q6, .inl (w.2.2.1, 9, .inl (fun _ => 0))), (q7, .inl (w.2.2.1, 9, .inl (fun _ => 0))), (q8, .inl (w.2.2.1, 9, .inl (fun _ => 0))), (q9, .inl (w.2.2.1, 9, .inl (fun _ => 0))), (q10, .inl (w.2.2.1, 512, .inl (fun _ => 0)))] 10 686
  refine jn_putF (ci := 7) (ty := .array .int) C 0 24 rfl rfl (by decide) in_X7 tyX7 tyX7_ok nmX7 kf_RX7_37 rfl rfl (by decide +kernel) rfl rfl (Nat.le_of_ble_eq_true rfl) dX7_init_80 ?_
  show JN X w _ 83 [(0, .ref h0)] [] [(h0, .inr (7, [.int 0, .ref q1, .ref q2, .int 0, .ref q3, .int 0, .int 0, .int 0, .int 0, .ref q4, .int 0, .int 0, .int 0, .ref q5, .int 0, .int 0, .int 0, .ref q6, .ref q7, .int 0, .int 0, .int 0, .ref q8, .ref q9, .ref q10, .null, .null, .null, .long 0, .long 0])), (q1, .inl (w.2.2.1, 9, .inl (fun _ => 0))), (q2, .inl (w.2.2.1, 9, .inl (fun _ => 0))), (q3, .inl (w.2.2.1, 5, .inl (fun _ => 0))), (q4, .inl (w.2.2.1, 110, .inl (fun _ => 0))), (q5, .inl (w.2.2.1, 5, .inl (fun _ => 0))), (q6, .inl (w.2.2.1, 9, .inl (fun _ => 0))), (q7, .inl (w.2.2.1, 9, .inl (fun _ => 0))), (q8, .inl (w.2.2.1, 9, .inl (fun _ => 0))), (q9, .inl (w.2.2.1, 9, .inl (fun _ => 0))), (q10, .inl (w.2.2.1, 512, .inl (fun _ => 0)))] 10 686
  refine jn_aload_n C dX7_init_83 0 rfl rfl ?_
  refine jn_bipush C dX7_init_84 (v := 9) (by decide) ?_
  refine jn_newI (N := 9) C kw_aI (by decide) (by decide) (by decide) (Nat.le_of_ble_eq_true rfl) (Nat.le_of_ble_eq_true rfl) dX7_init_86 (fun q11 => ?_)
  show JN X w _ 88 [(0, .ref h0)] [.ref q11, .ref h0] [(h0, .inr (7, [.int 0, .ref q1, .ref q2, .int 0, .ref q3, .int 0, .int 0, .int 0, .int 0, .ref q4, .int 0, .int 0, .int 0, .ref q5, .int 0, .int 0, .int 0, .ref q6, .ref q7, .int 0, .int 0, .int 0, .ref q8, .ref q9, .ref q10, .null, .null, .null, .long 0, .long 0])), (q1, .inl (w.2.2.1, 9, .inl (fun _ => 0))), (q2, .inl (w.2.2.1, 9, .inl (fun _ => 0))), (q3, .inl (w.2.2.1, 5, .inl (fun _ => 0))), (q4, .inl (w.2.2.1, 110, .inl (fun _ => 0))), (q5, .inl (w.2.2.1, 5, .inl (fun _ => 0))), (q6, .inl (w.2.2.1, 9, .inl (fun _ => 0))), (q7, .inl (w.2.2.1, 9, .inl (fun _ => 0))), (q8, .inl (w.2.2.1, 9, .inl (fun _ => 0))), (q9, .inl (w.2.2.1, 9, .inl (fun _ => 0))), (q10, .inl (w.2.2.1, 512, .inl (fun _ => 0))), (q11, .inl (w.2.2.1, 9, .inl (fun _ => 0)))] 11 695
  refine jn_putF (ci := 7) (ty := .array .int) C 0 25 rfl rfl (by decide) in_X7 tyX7 tyX7_ok nmX7 kf_RX7_40 rfl rfl (by decide +kernel) rfl rfl (Nat.le_of_ble_eq_true rfl) dX7_init_88 ?_
  show JN X w _ 91 [(0, .ref h0)] [] [(h0, .inr (7, [.int 0, .ref q1, .ref q2, .int 0, .ref q3, .int 0, .int 0, .int 0, .int 0, .ref q4, .int 0, .int 0, .int 0, .ref q5, .int 0, .int 0, .int 0, .ref q6, .ref q7, .int 0, .int 0, .int 0, .ref q8, .ref q9, .ref q10, .ref q11, .null, .null, .long 0, .long 0])), (q1, .inl (w.2.2.1, 9, .inl (fun _ => 0))), (q2, .inl (w.2.2.1, 9, .inl (fun _ => 0))), (q3, .inl (w.2.2.1, 5, .inl (fun _ => 0))), (q4, .inl (w.2.2.1, 110, .inl (fun _ => 0))), (q5, .inl (w.2.2.1, 5, .inl (fun _ => 0))), (q6, .inl (w.2.2.1, 9, .inl (fun _ => 0))), (q7, .inl (w.2.2.1, 9, .inl (fun _ => 0))), (q8, .inl (w.2.2.1, 9, .inl (fun _ => 0))), (q9, .inl (w.2.2.1, 9, .inl (fun _ => 0))), (q10, .inl (w.2.2.1, 512, .inl (fun _ => 0))), (q11, .inl (w.2.2.1, 9, .inl (fun _ => 0)))] 11 695
  refine jn_aload_n C dX7_init_91 0 rfl rfl ?_
  refine jn_bipush C dX7_init_92 (v := 9) (by decide) ?_
  refine jn_newJ (N := 9) C kw_aJ (by decide) (by decide) (by decide) (Nat.le_of_ble_eq_true rfl) (Nat.le_of_ble_eq_true rfl) dX7_init_94 (fun q12 => ?_)
  show JN X w _ 96 [(0, .ref h0)] [.ref q12, .ref h0] [(h0, .inr (7, [.int 0, .ref q1, .ref q2, .int 0, .ref q3, .int 0, .int 0, .int 0, .int 0, .ref q4, .int 0, .int 0, .int 0, .ref q5, .int 0, .int 0, .int 0, .ref q6, .ref q7, .int 0, .int 0, .int 0, .ref q8, .ref q9, .ref q10, .ref q11, .null, .null, .long 0, .long 0])), (q1, .inl (w.2.2.1, 9, .inl (fun _ => 0))), (q2, .inl (w.2.2.1, 9, .inl (fun _ => 0))), (q3, .inl (w.2.2.1, 5, .inl (fun _ => 0))), (q4, .inl (w.2.2.1, 110, .inl (fun _ => 0))), (q5, .inl (w.2.2.1, 5, .inl (fun _ => 0))), (q6, .inl (w.2.2.1, 9, .inl (fun _ => 0))), (q7, .inl (w.2.2.1, 9, .inl (fun _ => 0))), (q8, .inl (w.2.2.1, 9, .inl (fun _ => 0))), (q9, .inl (w.2.2.1, 9, .inl (fun _ => 0))), (q10, .inl (w.2.2.1, 512, .inl (fun _ => 0))), (q11, .inl (w.2.2.1, 9, .inl (fun _ => 0))), (q12, .inl (w.2.2.2, 9, .inr (.inl (fun _ => 0))))] 12 704
  refine jn_putF (ci := 7) (ty := .array .long) C 0 26 rfl rfl (by decide) in_X7 tyX7 tyX7_ok nmX7 kf_RX7_43 rfl rfl (by decide +kernel) rfl rfl (Nat.le_of_ble_eq_true rfl) dX7_init_96 ?_
  show JN X w _ 99 [(0, .ref h0)] [] [(h0, .inr (7, [.int 0, .ref q1, .ref q2, .int 0, .ref q3, .int 0, .int 0, .int 0, .int 0, .ref q4, .int 0, .int 0, .int 0, .ref q5, .int 0, .int 0, .int 0, .ref q6, .ref q7, .int 0, .int 0, .int 0, .ref q8, .ref q9, .ref q10, .ref q11, .ref q12, .null, .long 0, .long 0])), (q1, .inl (w.2.2.1, 9, .inl (fun _ => 0))), (q2, .inl (w.2.2.1, 9, .inl (fun _ => 0))), (q3, .inl (w.2.2.1, 5, .inl (fun _ => 0))), (q4, .inl (w.2.2.1, 110, .inl (fun _ => 0))), (q5, .inl (w.2.2.1, 5, .inl (fun _ => 0))), (q6, .inl (w.2.2.1, 9, .inl (fun _ => 0))), (q7, .inl (w.2.2.1, 9, .inl (fun _ => 0))), (q8, .inl (w.2.2.1, 9, .inl (fun _ => 0))), (q9, .inl (w.2.2.1, 9, .inl (fun _ => 0))), (q10, .inl (w.2.2.1, 512, .inl (fun _ => 0))), (q11, .inl (w.2.2.1, 9, .inl (fun _ => 0))), (q12, .inl (w.2.2.2, 9, .inr (.inl (fun _ => 0))))] 12 704
  refine jn_aload_n C dX7_init_99 0 rfl rfl ?_
  refine jn_bipush C dX7_init_100 (v := 9) (by decide) ?_
  refine jn_newJ (N := 9) C kw_aJ (by decide) (by decide) (by decide) (Nat.le_of_ble_eq_true rfl) (Nat.le_of_ble_eq_true rfl) dX7_init_102 (fun q13 => ?_)
  show JN X w _ 104 [(0, .ref h0)] [.ref q13, .ref h0] [(h0, .inr (7, [.int 0, .ref q1, .ref q2, .int 0, .ref q3, .int 0, .int 0, .int 0, .int 0, .ref q4, .int 0, .int 0, .int 0, .ref q5, .int 0, .int 0, .int 0, .ref q6, .ref q7, .int 0, .int 0, .int 0, .ref q8, .ref q9, .ref q10, .ref q11, .ref q12, .null, .long 0, .long 0])), (q1, .inl (w.2.2.1, 9, .inl (fun _ => 0))), (q2, .inl (w.2.2.1, 9, .inl (fun _ => 0))), (q3, .inl (w.2.2.1, 5, .inl (fun _ => 0))), (q4, .inl (w.2.2.1, 110, .inl (fun _ => 0))), (q5, .inl (w.2.2.1, 5, .inl (fun _ => 0))), (q6, .inl (w.2.2.1, 9, .inl (fun _ => 0))), (q7, .inl (w.2.2.1, 9, .inl (fun _ => 0))), (q8, .inl (w.2.2.1, 9, .inl (fun _ => 0))), (q9, .inl (w.2.2.1, 9, .inl (fun _ => 0))), (q10, .inl (w.2.2.1, 512, .inl (fun _ => 0))), (q11, .inl (w.2.2.1, 9, .inl (fun _ => 0))), (q12, .inl (w.2.2.2, 9, .inr (.inl (fun _ => 0)))), (q13, .inl (w.2.2.2, 9, .inr (.inl (fun _ => 0))))] 13 713
  refine jn_putF (ci := 7) (ty := .array .long) C 0 27 rfl rfl (by decide) in_X7 tyX7 tyX7_ok nmX7 kf_RX7_47 rfl rfl (by decide +kernel) rfl rfl (Nat.le_of_ble_eq_true rfl) dX7_init_104 ?_
  show JN X w _ 107 [(0, .ref h0)] [] [(h0, .inr (7, [.int 0, .ref q1, .ref q2, .int 0, .ref q3, .int 0, .int 0, .int 0, .int 0, .ref q4, .int 0, .int 0, .int 0, .ref q5, .int 0, .int 0, .int 0, .ref q6, .ref q7, .int 0, .int 0, .int 0, .ref q8, .ref q9, .ref q10, .ref q11, .ref q12, .ref q13, .long 0, .long 0])), (q1, .inl (w.2.2.1, 9, .inl (fun _ => 0))), (q2, .inl (w.2.2.1, 9, .inl (fun _ => 0))), (q3, .inl (w.2.2.1, 5, .inl (fun _ => 0))), (q4, .inl (w.2.2.1, 110, .inl (fun _ => 0))), (q5, .inl (w.2.2.1, 5, .inl (fun _ => 0))), (q6, .inl (w.2.2.1, 9, .inl (fun _ => 0))), (q7, .inl (w.2.2.1, 9, .inl (fun _ => 0))), (q8, .inl (w.2.2.1, 9, .inl (fun _ => 0))), (q9, .inl (w.2.2.1, 9, .inl (fun _ => 0))), (q10, .inl (w.2.2.1, 512, .inl (fun _ => 0))), (q11, .inl (w.2.2.1, 9, .inl (fun _ => 0))), (q12, .inl (w.2.2.2, 9, .inr (.inl (fun _ => 0)))), (q13, .inl (w.2.2.2, 9, .inr (.inl (fun _ => 0))))] 13 713
  exact jn_vret C dX7_init_107 ⟨q1, q2, q3, q4, q5, q6, q7, q8, q9, q10, q11, q12, q13, rfl⟩
