/-! THE CLAIM OUT OF ONE WALK OF THE LAW'S BODY. Your part is whole_start (and what it stands on); all else here is the same for every law, but numbers. -/
def R_law : String := "VouchFlowLaw"
def lw_P (b : Addr) (xs : List Int32) (args : Array Value) (s : State) : Prop := args = #[.ref b] ∧ s.IntsAt b xs ∧ xs.length ≤ 2048 ∧ (Jvm.Cond.and given_1 narrow_1).before args s = true
def lw_Q (_ : Array Value) (s : State) (o : Outcome) (t : State) : Prop := o = .returned (some (.int 1)) ∧ Framed s o t [] 39 1228
def lw_Z (below : List Frame) (a : Array Value) (s : State) : State → Prop := fun t => ∃ o, t.status = .running ∧ Ended t below o ∧ lw_Q a s o t
/-- the law's own end, with 1 on the stack, nothing written that was there before, its room as the claim has it -/
theorem lw_ret {p : Program} {l : Launch} {e : Env} {s : State} {m : MethodId} {below : List Frame} {meth : Method} {c : Code} {b : Nat} (hx : p.tables.exec = Jvm.exec) (hb : c.code = code) (hr : meth.sig.returnType = ret) (hlocks : meth.locks = false) {pc : Nat} {H : Heap} {ls : Array Slot} (hdg : decode code pc = .ok (.ireturn, 1)) : W p l e room_1 s m #[Value.ref b] below meth c H [] 39 1228 (lw_Z below #[Value.ref b] s) (F0 m pc ls [.int 1]) := by
  intro T hT X
  obtain ⟨fs, hret, hrun, hended, hW, hframe⟩ := X.leave (v := some (.int 1)) (hlocks := hlocks) (fun h => by rw [hr] at h; cases h)
  have hmeth' : T.vm.method? m = some meth := X.method'
  refine ⟨T.setFrames fs, ?_, .returned (some (.int 1)), hrun, hended, rfl, ⟨_, rfl⟩, hW, hframe⟩
  jvm_step X.here [X.here.top, hx, hb, hdg, hmeth', hr, ret, narrow_b1]
  (try refine ⟨rfl, ?_⟩); (try refine ⟨rfl, ?_⟩)
  first | (intro acts; rw [hret _ acts rfl rfl rfl]) | rw [hret _ _ rfl rfl rfl]
  exact Steps.refl _
/-- what holds at the law's entry: the machine, the code, the tables' words (any of lw_tbl by 'hts w (by decide +kernel)'), the script of L ints xs at the cell b, what the Statement gives of the start (any of its parts by flat_of_before) -/
def lw_At (p : Program) (s : State) (m : MethodId) (meth : Method) (c : Code) (b L : Nat) (xs : Nat → Int32) : Prop :=
  p.tables.exec = Jvm.exec ∧ c.code = code ∧ meth.sig.returnType = ret ∧ c.maxLocals = 4 ∧ s.vm.findClass R_law = some m.cls ∧ (∀ w ∈ lw_tbl, w.before #[Value.ref b] s = true) ∧ va_X b L xs s s.heap ∧ b < s.heap.size ∧ meth.locks = false ∧ (Jvm.Cond.and given_1 narrow_1).before #[Value.ref b] s = true

def LX (X : Mx) (b L : Nat) (xs : Nat → Int32) : Prop := match X with
  | (p, l, e, R, s, m, args, below, meth, c, A, nL, cells, slots) => args = #[Value.ref b] ∧ va_X b L xs s s.heap ∧ b < s.heap.size ∧ A = (fun q : Nat => s.heap.size ≤ q) ∧ R = room_1 ∧ cells = 39 ∧ slots = 1228
def QW (X : Mx) : State → Prop := match X with
  | (p, l, e, R, s, m, args, below, meth, c, A, nL, cells, slots) => lw_Z below args s
section LRows
variable {X : Mx} {w : Wt} {l0 : Launch} {cc : ByteArray} {n0 : Nat} {own : String} {rm : Room} {rt : Option FieldType} {Q : State → Prop} {pc b L : Nat} {xs : Nat → Int32} {lv : List (Nat × Value)} {st : List Value} {S : St}
theorem j_sld (C : Cx X w l0 cc n0 own rm rt) (hX : LX X b L xs) {i : Int32} (hin : vp_in i L) (hd : decode cc pc = .ok (.iaload, 1)) (h : J X w Q (pc + 1) lv (.int (xs i.toNatClampNeg) :: st) S) : J X w Q pc lv (.int i :: .ref b :: st) S := by
  obtain ⟨p, l, e, R, s, m, args, below, meth, c, A, nL, cells, slots⟩ := X
  intro H locs ls hP hS hl
  obtain ⟨⟨hx, hb, hml, hown, hts⟩, hG, hW, hA, hR, hn, hrt, hlk, hc1, hc2, hl0⟩ := C
  obtain ⟨h1, h2, h3, h4, h5, h6, h7⟩ := hX
  exact va_sld hx hb h2 h3 (by rw [h4]; exact Nat.not_le.mpr h3) hS hin hd (h H locs ls hP hS hl)
theorem j_slen (C : Cx X w l0 cc n0 own rm rt) (hX : LX X b L xs) (hd : decode cc pc = .ok (.arraylength, 1)) (h : J X w Q (pc + 1) lv (.int (Int32.ofNat L) :: st) S) : J X w Q pc lv (.ref b :: st) S := by
  obtain ⟨p, l, e, R, s, m, args, below, meth, c, A, nL, cells, slots⟩ := X
  intro H locs ls hP hS hl
  obtain ⟨⟨hx, hb, hml, hown, hts⟩, hG, hW, hA, hR, hn, hrt, hlk, hc1, hc2, hl0⟩ := C
  obtain ⟨h1, h2, h3, h4, h5, h6, h7⟩ := hX
  exact va_slen hx hb h2 h3 (by rw [h4]; exact Nat.not_le.mpr h3) hS hd (h H locs ls hP hS hl)
theorem j_law1 (C : Cx X w l0 code n0 own rm (some .boolean)) (hX : LX X b L xs) (hd : decode code pc = .ok (.ireturn, 1)) : J X w (QW X) pc lv [.int 1] S := by
  obtain ⟨p, l, e, R, s, m, args, below, meth, c, A, nL, cells, slots⟩ := X
  intro H locs ls hP hS hl
  obtain ⟨⟨hx, hb, hml, hown, hts⟩, hG, hW, hA, hR, hn, hrt, hlk, hc1, hc2, hl0⟩ := C
  obtain ⟨h1, h2, h3, h4, h5, h6, h7⟩ := hX
  subst h1; subst h4; subst h5; subst h6; subst h7
  refine va_forget (fun q hq => hS.2.2 q hq) ?_
  exact lw_ret hx hb hrt hlk hd
end LRows
abbrev rm_L_law : Room := room_1
theorem rk_L_law_X6_about : roomOk rm_X6_about rm_L_law 2 := ⟨⟨rfl, rfl⟩, Nat.le_of_ble_eq_true rfl, Nat.le_of_ble_eq_true rfl⟩
theorem rk_L_law_X6_apart : roomOk rm_X6_apart rm_L_law 5 := ⟨⟨rfl, rfl⟩, Nat.le_of_ble_eq_true rfl, Nat.le_of_ble_eq_true rfl⟩
theorem rk_L_law_X6_as : roomOk rm_X6_as rm_L_law 4 := ⟨⟨rfl, rfl⟩, Nat.le_of_ble_eq_true rfl, Nat.le_of_ble_eq_true rfl⟩
theorem rk_L_law_X6_blank : roomOk rm_X6_blank rm_L_law 2 := ⟨⟨rfl, rfl⟩, Nat.le_of_ble_eq_true rfl, Nat.le_of_ble_eq_true rfl⟩
theorem rk_L_law_X6_bound : roomOk rm_X6_bound rm_L_law 4 := ⟨⟨rfl, rfl⟩, Nat.le_of_ble_eq_true rfl, Nat.le_of_ble_eq_true rfl⟩
theorem rk_L_law_X6_chance : roomOk rm_X6_chance rm_L_law 4 := ⟨⟨rfl, rfl⟩, Nat.le_of_ble_eq_true rfl, Nat.le_of_ble_eq_true rfl⟩
theorem rk_L_law_X6_circle : roomOk rm_X6_circle rm_L_law 1 := ⟨⟨rfl, rfl⟩, Nat.le_of_ble_eq_true rfl, Nat.le_of_ble_eq_true rfl⟩
theorem rk_L_law_X6_count : roomOk rm_X6_count rm_L_law 2 := ⟨⟨rfl, rfl⟩, Nat.le_of_ble_eq_true rfl, Nat.le_of_ble_eq_true rfl⟩
theorem rk_L_law_X6_cut : roomOk rm_X6_cut rm_L_law 5 := ⟨⟨rfl, rfl⟩, Nat.le_of_ble_eq_true rfl, Nat.le_of_ble_eq_true rfl⟩
theorem rk_L_law_X6_dearest : roomOk rm_X6_dearest rm_L_law 6 := ⟨⟨rfl, rfl⟩, Nat.le_of_ble_eq_true rfl, Nat.le_of_ble_eq_true rfl⟩
theorem rk_L_law_X6_digest : roomOk rm_X6_digest rm_L_law 4 := ⟨⟨rfl, rfl⟩, Nat.le_of_ble_eq_true rfl, Nat.le_of_ble_eq_true rfl⟩
theorem rk_L_law_X6_fault : roomOk rm_X6_fault rm_L_law 2 := ⟨⟨rfl, rfl⟩, Nat.le_of_ble_eq_true rfl, Nat.le_of_ble_eq_true rfl⟩
theorem rk_L_law_X6_generous : roomOk rm_X6_generous rm_L_law 7 := ⟨⟨rfl, rfl⟩, Nat.le_of_ble_eq_true rfl, Nat.le_of_ble_eq_true rfl⟩
theorem rk_L_law_X6_ink : roomOk rm_X6_ink rm_L_law 2 := ⟨⟨rfl, rfl⟩, Nat.le_of_ble_eq_true rfl, Nat.le_of_ble_eq_true rfl⟩
theorem rk_L_law_X6_kind : roomOk rm_X6_kind rm_L_law 4 := ⟨⟨rfl, rfl⟩, Nat.le_of_ble_eq_true rfl, Nat.le_of_ble_eq_true rfl⟩
theorem rk_L_law_X6_letter : roomOk rm_X6_letter rm_L_law 2 := ⟨⟨rfl, rfl⟩, Nat.le_of_ble_eq_true rfl, Nat.le_of_ble_eq_true rfl⟩
theorem rk_L_law_X6_order : roomOk rm_X6_order rm_L_law 3 := ⟨⟨rfl, rfl⟩, Nat.le_of_ble_eq_true rfl, Nat.le_of_ble_eq_true rfl⟩
theorem rk_L_law_X6_person : roomOk rm_X6_person rm_L_law 3 := ⟨⟨rfl, rfl⟩, Nat.le_of_ble_eq_true rfl, Nat.le_of_ble_eq_true rfl⟩
theorem rk_L_law_X6_recall : roomOk rm_X6_recall rm_L_law 3 := ⟨⟨rfl, rfl⟩, Nat.le_of_ble_eq_true rfl, Nat.le_of_ble_eq_true rfl⟩
theorem rk_L_law_X6_thousandths : roomOk rm_X6_thousandths rm_L_law 3 := ⟨⟨rfl, rfl⟩, Nat.le_of_ble_eq_true rfl, Nat.le_of_ble_eq_true rfl⟩
theorem rk_L_law_X6_together : roomOk rm_X6_together rm_L_law 2 := ⟨⟨rfl, rfl⟩, Nat.le_of_ble_eq_true rfl, Nat.le_of_ble_eq_true rfl⟩
theorem rk_L_law_X6_trust : roomOk rm_X6_trust rm_L_law 3 := ⟨⟨rfl, rfl⟩, Nat.le_of_ble_eq_true rfl, Nat.le_of_ble_eq_true rfl⟩
theorem rk_L_law_X6_vouch : roomOk rm_X6_vouch rm_L_law 4 := ⟨⟨rfl, rfl⟩, Nat.le_of_ble_eq_true rfl, Nat.le_of_ble_eq_true rfl⟩
theorem rk_L_law_X6_vouches : roomOk rm_X6_vouches rm_L_law 3 := ⟨⟨rfl, rfl⟩, Nat.le_of_ble_eq_true rfl, Nat.le_of_ble_eq_true rfl⟩
theorem rk_L_law_X6_without : roomOk rm_X6_without rm_L_law 4 := ⟨⟨rfl, rfl⟩, Nat.le_of_ble_eq_true rfl, Nat.le_of_ble_eq_true rfl⟩
theorem rk_L_law_X7_about : roomOk rm_X7_about rm_L_law 2 := ⟨⟨rfl, rfl⟩, Nat.le_of_ble_eq_true rfl, Nat.le_of_ble_eq_true rfl⟩
theorem rk_L_law_X7_apart : roomOk rm_X7_apart rm_L_law 2 := ⟨⟨rfl, rfl⟩, Nat.le_of_ble_eq_true rfl, Nat.le_of_ble_eq_true rfl⟩
theorem rk_L_law_X7_as : roomOk rm_X7_as rm_L_law 3 := ⟨⟨rfl, rfl⟩, Nat.le_of_ble_eq_true rfl, Nat.le_of_ble_eq_true rfl⟩
theorem rk_L_law_X7_blank : roomOk rm_X7_blank rm_L_law 2 := ⟨⟨rfl, rfl⟩, Nat.le_of_ble_eq_true rfl, Nat.le_of_ble_eq_true rfl⟩
theorem rk_L_law_X7_bound : roomOk rm_X7_bound rm_L_law 4 := ⟨⟨rfl, rfl⟩, Nat.le_of_ble_eq_true rfl, Nat.le_of_ble_eq_true rfl⟩
theorem rk_L_law_X7_chance : roomOk rm_X7_chance rm_L_law 4 := ⟨⟨rfl, rfl⟩, Nat.le_of_ble_eq_true rfl, Nat.le_of_ble_eq_true rfl⟩
theorem rk_L_law_X7_circle : roomOk rm_X7_circle rm_L_law 2 := ⟨⟨rfl, rfl⟩, Nat.le_of_ble_eq_true rfl, Nat.le_of_ble_eq_true rfl⟩
theorem rk_L_law_X7_count : roomOk rm_X7_count rm_L_law 2 := ⟨⟨rfl, rfl⟩, Nat.le_of_ble_eq_true rfl, Nat.le_of_ble_eq_true rfl⟩
theorem rk_L_law_X7_cut : roomOk rm_X7_cut rm_L_law 2 := ⟨⟨rfl, rfl⟩, Nat.le_of_ble_eq_true rfl, Nat.le_of_ble_eq_true rfl⟩
theorem rk_L_law_X7_dearest : roomOk rm_X7_dearest rm_L_law 1 := ⟨⟨rfl, rfl⟩, Nat.le_of_ble_eq_true rfl, Nat.le_of_ble_eq_true rfl⟩
theorem rk_L_law_X7_digest : roomOk rm_X7_digest rm_L_law 2 := ⟨⟨rfl, rfl⟩, Nat.le_of_ble_eq_true rfl, Nat.le_of_ble_eq_true rfl⟩
theorem rk_L_law_X7_fault : roomOk rm_X7_fault rm_L_law 1 := ⟨⟨rfl, rfl⟩, Nat.le_of_ble_eq_true rfl, Nat.le_of_ble_eq_true rfl⟩
theorem rk_L_law_X7_generous : roomOk rm_X7_generous rm_L_law 1 := ⟨⟨rfl, rfl⟩, Nat.le_of_ble_eq_true rfl, Nat.le_of_ble_eq_true rfl⟩
theorem rk_L_law_X7_ink : roomOk rm_X7_ink rm_L_law 2 := ⟨⟨rfl, rfl⟩, Nat.le_of_ble_eq_true rfl, Nat.le_of_ble_eq_true rfl⟩
theorem rk_L_law_X7_kind : roomOk rm_X7_kind rm_L_law 4 := ⟨⟨rfl, rfl⟩, Nat.le_of_ble_eq_true rfl, Nat.le_of_ble_eq_true rfl⟩
theorem rk_L_law_X7_letter : roomOk rm_X7_letter rm_L_law 2 := ⟨⟨rfl, rfl⟩, Nat.le_of_ble_eq_true rfl, Nat.le_of_ble_eq_true rfl⟩
theorem rk_L_law_X7_order : roomOk rm_X7_order rm_L_law 3 := ⟨⟨rfl, rfl⟩, Nat.le_of_ble_eq_true rfl, Nat.le_of_ble_eq_true rfl⟩
theorem rk_L_law_X7_person : roomOk rm_X7_person rm_L_law 3 := ⟨⟨rfl, rfl⟩, Nat.le_of_ble_eq_true rfl, Nat.le_of_ble_eq_true rfl⟩
theorem rk_L_law_X7_recall : roomOk rm_X7_recall rm_L_law 3 := ⟨⟨rfl, rfl⟩, Nat.le_of_ble_eq_true rfl, Nat.le_of_ble_eq_true rfl⟩
theorem rk_L_law_X7_thousandths : roomOk rm_X7_thousandths rm_L_law 3 := ⟨⟨rfl, rfl⟩, Nat.le_of_ble_eq_true rfl, Nat.le_of_ble_eq_true rfl⟩
theorem rk_L_law_X7_together : roomOk rm_X7_together rm_L_law 2 := ⟨⟨rfl, rfl⟩, Nat.le_of_ble_eq_true rfl, Nat.le_of_ble_eq_true rfl⟩
theorem rk_L_law_X7_trust : roomOk rm_X7_trust rm_L_law 2 := ⟨⟨rfl, rfl⟩, Nat.le_of_ble_eq_true rfl, Nat.le_of_ble_eq_true rfl⟩
theorem rk_L_law_X7_vouch : roomOk rm_X7_vouch rm_L_law 3 := ⟨⟨rfl, rfl⟩, Nat.le_of_ble_eq_true rfl, Nat.le_of_ble_eq_true rfl⟩
theorem rk_L_law_X7_vouches : roomOk rm_X7_vouches rm_L_law 3 := ⟨⟨rfl, rfl⟩, Nat.le_of_ble_eq_true rfl, Nat.le_of_ble_eq_true rfl⟩
theorem rk_L_law_X7_without : roomOk rm_X7_without rm_L_law 4 := ⟨⟨rfl, rfl⟩, Nat.le_of_ble_eq_true rfl, Nat.le_of_ble_eq_true rfl⟩
set_option maxRecDepth 20000 in
set_option maxHeartbeats 4000000 in
theorem t_L_law_794 {X : Mx} {w : Wt} {l0 : Launch} {b L : Nat} {xs : Nat → Int32} {K18 : Int32 × St → Prop} (C : Cx X w l0 cL_law 4 RL rm_L_law (some .boolean)) (hX : LX X b L xs) (hK18 : ∀ (x3 : Int32) (S : St), K18 (x3, S) → J X w (QW X) 18 [(0, .ref b), (1, rr w 0), (2, rr w 25), (3, .int x3)] [] S) {x3 : Int32} {S : St} (h : p_L_law_794 L xs K18 x3 S) : J X w (QW X) 794 [(0, .ref b), (1, rr w 0), (2, rr w 25), (3, .int x3)] [] S := by
  refine j_iinc (lv' := [(3, .int (x3 + 4)), (0, .ref b), (1, rr w 0), (2, rr w 25)]) C dL_law_794 3 rfl rfl (by decide) rfl ?_
  refine j_goto (tgt := 18) C dL_law_797 (by decide) ?_
  refine j_sub [1, 2, 3, 0] rfl ?_
  exact hK18 _ _ h
set_option maxRecDepth 20000 in
set_option maxHeartbeats 4000000 in
theorem t_L_law_18 {X : Mx} {w : Wt} {l0 : Launch} {b L : Nat} {xs : Nat → Int32} (C : Cx X w l0 cL_law 4 RL rm_L_law (some .boolean)) (hX : LX X b L xs) {x3 : Int32} {S : St} (h : Lq (p_L_law_18 L xs) (x3, S)) : J X w (QW X) 18 [(0, .ref b), (1, rr w 0), (2, rr w 25), (3, .int x3)] [] S := by
  have key : ∀ a : Int32 × St, Lq (p_L_law_18 L xs) a → J X w (QW X) 18 [(0, .ref b), (1, rr w 0), (2, rr w 25), (3, .int a.1)] [] a.2 := by
    intro a ha
    refine Lq_use (G := fun a => J X w (QW X) 18 [(0, .ref b), (1, rr w 0), (2, rr w 25), (3, .int a.1)] [] a.2) ?_ ha
    intro K18 hK a h
    obtain ⟨x3, S⟩ := a
    have hK18 : ∀ (x3 : Int32) (S : St), K18 (x3, S) → J X w (QW X) 18 [(0, .ref b), (1, rr w 0), (2, rr w 25), (3, .int x3)] [] S := fun x3 S h => hK (x3, S) h
    show J X w (QW X) 18 [(0, .ref b), (1, rr w 0), (2, rr w 25), (3, .int x3)] [] S
    refine j_iload_n C dL_law_18 3 rfl rfl ?_
    refine j_aload_n C dL_law_19 0 rfl rfl ?_
    refine j_slen C hX dL_law_20 ?_
    refine j_iconst C dL_law_21 (v := 4) (by decide) ?_
    refine j_isub C dL_law_22 ?_
    refine j_icmp_gt (tgt := 800) C dL_law_23 (by decide) (fun c1 => ?_) (fun c1 => ?_)
    · have h := And.left h c1
      refine j_iconst C dL_law_800 (v := 1) (by decide) ?_
      exact j_law1 C hX dL_law_801
    · have h := And.right h c1
      refine j_aload_n C dL_law_26 0 rfl rfl ?_
      refine j_iload_n C dL_law_27 3 rfl rfl ?_
      refine j_sld C hX (And.left h) dL_law_28 ?_
      have h := And.right h
      refine j_bipush C dL_law_29 (v := 31) (by decide) ?_
      refine j_iand C dL_law_31 ?_
      by_cases c2 : ((xs x3.toNatClampNeg) &&& 31) = 0
      · have h := And.left h c2
        refine j_tableIn (tgt := 148) (off := 116) C dL_law_32 (by rw [c2]; decide) (by rw [c2]; decide) (by rw [c2]; decide) (by decide) ?_
        refine j_aload_n C dL_law_148 1 rfl rfl ?_
        refine j_aload_n C dL_law_149 0 rfl rfl ?_
        refine j_iload_n C dL_law_150 3 rfl rfl ?_
        refine j_iconst C dL_law_151 (v := 1) (by decide) ?_
        refine j_iadd C dL_law_152 ?_
        refine j_sld C hX (And.left h) dL_law_153 ?_
        have h := And.right h
        refine j_callVi (st := []) C 0 [.int (xs (x3 + 1).toNatClampNeg)] (m_X6_letter C.wok h) cv_RL_13 rk_L_law_X6_letter rfl (rc_0 w) rfl (Nat.le_of_ble_eq_true rfl) dL_law_154 (fun r4 S3 h => ?_)
        refine j_aload_n C dL_law_157 2 rfl rfl ?_
        refine j_aload_n C dL_law_158 0 rfl rfl ?_
        refine j_iload_n C dL_law_159 3 rfl rfl ?_
        refine j_iconst C dL_law_160 (v := 1) (by decide) ?_
        refine j_iadd C dL_law_161 ?_
        refine j_sld C hX (And.left h) dL_law_162 ?_
        have h := And.right h
        refine j_callVi (st := [.int r4]) C 25 [.int (xs (x3 + 1).toNatClampNeg)] (m_X7_letter C.wok h) cv_RL_17 rk_L_law_X7_letter rfl (rc_25 w) rfl (Nat.le_of_ble_eq_true rfl) dL_law_163 (fun r6 S5 h => ?_)
        refine j_icmp_eq (tgt := 794) C dL_law_166 (by decide) (fun c7 => ?_) (fun c7 => ?_)
        · have h := And.left h c7
          exact t_L_law_794 C hX hK18 h
        · have h := And.right h c7
          refine j_iconst C dL_law_169 (v := 0) (by decide) ?_
          exact h.elim
      · have h := And.right h c2
        by_cases c8 : ((xs x3.toNatClampNeg) &&& 31) = 1
        · have h := And.left h c8
          refine j_tableIn (tgt := 171) (off := 139) C dL_law_32 (by rw [c8]; decide) (by rw [c8]; decide) (by rw [c8]; decide) (by decide) ?_
          refine j_aload_n C dL_law_171 1 rfl rfl ?_
          refine j_callVi (st := []) C 0 [] (m_X6_blank C.wok h) cv_RL_18 rk_L_law_X6_blank rfl (rc_0 w) rfl (Nat.le_of_ble_eq_true rfl) dL_law_172 (fun r10 S9 h => ?_)
          refine j_aload_n C dL_law_175 2 rfl rfl ?_
          refine j_callVi (st := [.int r10]) C 25 [] (m_X7_blank C.wok h) cv_RL_22 rk_L_law_X7_blank rfl (rc_25 w) rfl (Nat.le_of_ble_eq_true rfl) dL_law_176 (fun r12 S11 h => ?_)
          refine j_icmp_eq (tgt := 794) C dL_law_179 (by decide) (fun c13 => ?_) (fun c13 => ?_)
          · have h := And.left h c13
            exact t_L_law_794 C hX hK18 h
          · have h := And.right h c13
            refine j_iconst C dL_law_182 (v := 0) (by decide) ?_
            exact h.elim
        · have h := And.right h c8
          by_cases c14 : ((xs x3.toNatClampNeg) &&& 31) = 2
          · have h := And.left h c14
            refine j_tableIn (tgt := 184) (off := 152) C dL_law_32 (by rw [c14]; decide) (by rw [c14]; decide) (by rw [c14]; decide) (by decide) ?_
            refine j_aload_n C dL_law_184 1 rfl rfl ?_
            refine j_callVi (st := []) C 0 [] (m_X6_fault C.wok h) cv_RL_23 rk_L_law_X6_fault rfl (rc_0 w) rfl (Nat.le_of_ble_eq_true rfl) dL_law_185 (fun r16 S15 h => ?_)
            refine j_aload_n C dL_law_188 2 rfl rfl ?_
            refine j_callVi (st := [.int r16]) C 25 [] (m_X7_fault C.wok h) cv_RL_26 rk_L_law_X7_fault rfl (rc_25 w) rfl (Nat.le_of_ble_eq_true rfl) dL_law_189 (fun r18 S17 h => ?_)
            refine j_icmp_eq (tgt := 794) C dL_law_192 (by decide) (fun c19 => ?_) (fun c19 => ?_)
            · have h := And.left h c19
              exact t_L_law_794 C hX hK18 h
            · have h := And.right h c19
              refine j_iconst C dL_law_195 (v := 0) (by decide) ?_
              exact h.elim
          · have h := And.right h c14
            by_cases c20 : ((xs x3.toNatClampNeg) &&& 31) = 3
            · have h := And.left h c20
              refine j_tableIn (tgt := 197) (off := 165) C dL_law_32 (by rw [c20]; decide) (by rw [c20]; decide) (by rw [c20]; decide) (by decide) ?_
              refine j_aload_n C dL_law_197 1 rfl rfl ?_
              refine j_callVi (st := []) C 0 [] (m_X6_circle C.wok h) cv_RL_27 rk_L_law_X6_circle rfl (rc_0 w) rfl (Nat.le_of_ble_eq_true rfl) dL_law_198 (fun r22 S21 h => ?_)
              refine j_aload_n C dL_law_201 2 rfl rfl ?_
              refine j_callVi (st := [.int r22]) C 25 [] (m_X7_circle C.wok h) cv_RL_30 rk_L_law_X7_circle rfl (rc_25 w) rfl (Nat.le_of_ble_eq_true rfl) dL_law_202 (fun r24 S23 h => ?_)
              refine j_icmp_eq (tgt := 794) C dL_law_205 (by decide) (fun c25 => ?_) (fun c25 => ?_)
              · have h := And.left h c25
                exact t_L_law_794 C hX hK18 h
              · have h := And.right h c25
                refine j_iconst C dL_law_208 (v := 0) (by decide) ?_
                exact h.elim
            · have h := And.right h c20
              by_cases c26 : ((xs x3.toNatClampNeg) &&& 31) = 4
              · have h := And.left h c26
                refine j_tableIn (tgt := 210) (off := 178) C dL_law_32 (by rw [c26]; decide) (by rw [c26]; decide) (by rw [c26]; decide) (by decide) ?_
                refine j_aload_n C dL_law_210 1 rfl rfl ?_
                refine j_aload_n C dL_law_211 0 rfl rfl ?_
                refine j_iload_n C dL_law_212 3 rfl rfl ?_
                refine j_iconst C dL_law_213 (v := 1) (by decide) ?_
                refine j_iadd C dL_law_214 ?_
                refine j_sld C hX (And.left h) dL_law_215 ?_
                have h := And.right h
                refine j_callVi (st := []) C 0 [.int (xs (x3 + 1).toNatClampNeg)] (m_X6_ink C.wok h) cv_RL_31 rk_L_law_X6_ink rfl (rc_0 w) rfl (Nat.le_of_ble_eq_true rfl) dL_law_216 (fun r28 S27 h => ?_)
                refine j_aload_n C dL_law_219 2 rfl rfl ?_
                refine j_aload_n C dL_law_220 0 rfl rfl ?_
                refine j_iload_n C dL_law_221 3 rfl rfl ?_
                refine j_iconst C dL_law_222 (v := 1) (by decide) ?_
                refine j_iadd C dL_law_223 ?_
                refine j_sld C hX (And.left h) dL_law_224 ?_
                have h := And.right h
                refine j_callVi (st := [.int r28]) C 25 [.int (xs (x3 + 1).toNatClampNeg)] (m_X7_ink C.wok h) cv_RL_34 rk_L_law_X7_ink rfl (rc_25 w) rfl (Nat.le_of_ble_eq_true rfl) dL_law_225 (fun r30 S29 h => ?_)
                refine j_icmp_eq (tgt := 794) C dL_law_228 (by decide) (fun c31 => ?_) (fun c31 => ?_)
                · have h := And.left h c31
                  exact t_L_law_794 C hX hK18 h
                · have h := And.right h c31
                  refine j_iconst C dL_law_231 (v := 0) (by decide) ?_
                  exact h.elim
              · have h := And.right h c26
                by_cases c32 : ((xs x3.toNatClampNeg) &&& 31) = 5
                · have h := And.left h c32
                  refine j_tableIn (tgt := 233) (off := 201) C dL_law_32 (by rw [c32]; decide) (by rw [c32]; decide) (by rw [c32]; decide) (by decide) ?_
                  refine j_aload_n C dL_law_233 1 rfl rfl ?_
                  refine j_aload_n C dL_law_234 0 rfl rfl ?_
                  refine j_iload_n C dL_law_235 3 rfl rfl ?_
                  refine j_iconst C dL_law_236 (v := 1) (by decide) ?_
                  refine j_iadd C dL_law_237 ?_
                  refine j_sld C hX (And.left h) dL_law_238 ?_
                  have h := And.right h
                  refine j_aload_n C dL_law_239 0 rfl rfl ?_
                  refine j_iload_n C dL_law_240 3 rfl rfl ?_
                  refine j_iconst C dL_law_241 (v := 2) (by decide) ?_
                  refine j_iadd C dL_law_242 ?_
                  refine j_sld C hX (And.left h) dL_law_243 ?_
                  have h := And.right h
                  refine j_callVi (st := []) C 0 [.int (xs (x3 + 1).toNatClampNeg), .int (xs (x3 + 2).toNatClampNeg)] (m_X6_kind C.wok h) cv_RL_35 rk_L_law_X6_kind rfl (rc_0 w) rfl (Nat.le_of_ble_eq_true rfl) dL_law_244 (fun r34 S33 h => ?_)
                  refine j_aload_n C dL_law_247 2 rfl rfl ?_
                  refine j_aload_n C dL_law_248 0 rfl rfl ?_
                  refine j_iload_n C dL_law_249 3 rfl rfl ?_
                  refine j_iconst C dL_law_250 (v := 1) (by decide) ?_
                  refine j_iadd C dL_law_251 ?_
                  refine j_sld C hX (And.left h) dL_law_252 ?_
                  have h := And.right h
                  refine j_aload_n C dL_law_253 0 rfl rfl ?_
                  refine j_iload_n C dL_law_254 3 rfl rfl ?_
                  refine j_iconst C dL_law_255 (v := 2) (by decide) ?_
                  refine j_iadd C dL_law_256 ?_
                  refine j_sld C hX (And.left h) dL_law_257 ?_
                  have h := And.right h
                  refine j_callVi (st := [.int r34]) C 25 [.int (xs (x3 + 1).toNatClampNeg), .int (xs (x3 + 2).toNatClampNeg)] (m_X7_kind C.wok h) cv_RL_39 rk_L_law_X7_kind rfl (rc_25 w) rfl (Nat.le_of_ble_eq_true rfl) dL_law_258 (fun r36 S35 h => ?_)
                  refine j_icmp_eq (tgt := 794) C dL_law_261 (by decide) (fun c37 => ?_) (fun c37 => ?_)
                  · have h := And.left h c37
                    exact t_L_law_794 C hX hK18 h
                  · have h := And.right h c37
                    refine j_iconst C dL_law_264 (v := 0) (by decide) ?_
                    exact h.elim
                · have h := And.right h c32
                  by_cases c38 : ((xs x3.toNatClampNeg) &&& 31) = 6
                  · have h := And.left h c38
                    refine j_tableIn (tgt := 266) (off := 234) C dL_law_32 (by rw [c38]; decide) (by rw [c38]; decide) (by rw [c38]; decide) (by decide) ?_
                    refine j_aload_n C dL_law_266 1 rfl rfl ?_
                    refine j_aload_n C dL_law_267 0 rfl rfl ?_
                    refine j_iload_n C dL_law_268 3 rfl rfl ?_
                    refine j_iconst C dL_law_269 (v := 1) (by decide) ?_
                    refine j_iadd C dL_law_270 ?_
                    refine j_sld C hX (And.left h) dL_law_271 ?_
                    have h := And.right h
                    refine j_aload_n C dL_law_272 0 rfl rfl ?_
                    refine j_iload_n C dL_law_273 3 rfl rfl ?_
                    refine j_iconst C dL_law_274 (v := 2) (by decide) ?_
                    refine j_iadd C dL_law_275 ?_
                    refine j_sld C hX (And.left h) dL_law_276 ?_
                    have h := And.right h
                    refine j_callVi (st := []) C 0 [.int (xs (x3 + 1).toNatClampNeg), .int (xs (x3 + 2).toNatClampNeg)] (m_X6_as C.wok h) cv_RL_40 rk_L_law_X6_as rfl (rc_0 w) rfl (Nat.le_of_ble_eq_true rfl) dL_law_277 (fun r40 S39 h => ?_)
                    refine j_aload_n C dL_law_280 2 rfl rfl ?_
                    refine j_aload_n C dL_law_281 0 rfl rfl ?_
                    refine j_iload_n C dL_law_282 3 rfl rfl ?_
                    refine j_iconst C dL_law_283 (v := 1) (by decide) ?_
                    refine j_iadd C dL_law_284 ?_
                    refine j_sld C hX (And.left h) dL_law_285 ?_
                    have h := And.right h
                    refine j_aload_n C dL_law_286 0 rfl rfl ?_
                    refine j_iload_n C dL_law_287 3 rfl rfl ?_
                    refine j_iconst C dL_law_288 (v := 2) (by decide) ?_
                    refine j_iadd C dL_law_289 ?_
                    refine j_sld C hX (And.left h) dL_law_290 ?_
                    have h := And.right h
                    refine j_callVi (st := [.int r40]) C 25 [.int (xs (x3 + 1).toNatClampNeg), .int (xs (x3 + 2).toNatClampNeg)] (m_X7_as C.wok h) cv_RL_43 rk_L_law_X7_as rfl (rc_25 w) rfl (Nat.le_of_ble_eq_true rfl) dL_law_291 (fun r42 S41 h => ?_)
                    refine j_icmp_eq (tgt := 794) C dL_law_294 (by decide) (fun c43 => ?_) (fun c43 => ?_)
                    · have h := And.left h c43
                      exact t_L_law_794 C hX hK18 h
                    · have h := And.right h c43
                      refine j_iconst C dL_law_297 (v := 0) (by decide) ?_
                      exact h.elim
                  · have h := And.right h c38
                    by_cases c44 : ((xs x3.toNatClampNeg) &&& 31) = 7
                    · have h := And.left h c44
                      refine j_tableIn (tgt := 299) (off := 267) C dL_law_32 (by rw [c44]; decide) (by rw [c44]; decide) (by rw [c44]; decide) (by decide) ?_
                      refine j_aload_n C dL_law_299 1 rfl rfl ?_
                      refine j_aload_n C dL_law_300 0 rfl rfl ?_
                      refine j_iload_n C dL_law_301 3 rfl rfl ?_
                      refine j_iconst C dL_law_302 (v := 1) (by decide) ?_
                      refine j_iadd C dL_law_303 ?_
                      refine j_sld C hX (And.left h) dL_law_304 ?_
                      have h := And.right h
                      refine j_aload_n C dL_law_305 0 rfl rfl ?_
                      refine j_iload_n C dL_law_306 3 rfl rfl ?_
                      refine j_iconst C dL_law_307 (v := 2) (by decide) ?_
                      refine j_iadd C dL_law_308 ?_
                      refine j_sld C hX (And.left h) dL_law_309 ?_
                      have h := And.right h
                      refine j_callVi (st := []) C 0 [.int (xs (x3 + 1).toNatClampNeg), .int (xs (x3 + 2).toNatClampNeg)] (m_X6_vouch C.wok h) cv_RL_44 rk_L_law_X6_vouch rfl (rc_0 w) rfl (Nat.le_of_ble_eq_true rfl) dL_law_310 (fun r46 S45 h => ?_)
                      refine j_aload_n C dL_law_313 2 rfl rfl ?_
                      refine j_aload_n C dL_law_314 0 rfl rfl ?_
                      refine j_iload_n C dL_law_315 3 rfl rfl ?_
                      refine j_iconst C dL_law_316 (v := 1) (by decide) ?_
                      refine j_iadd C dL_law_317 ?_
                      refine j_sld C hX (And.left h) dL_law_318 ?_
                      have h := And.right h
                      refine j_aload_n C dL_law_319 0 rfl rfl ?_
                      refine j_iload_n C dL_law_320 3 rfl rfl ?_
                      refine j_iconst C dL_law_321 (v := 2) (by decide) ?_
                      refine j_iadd C dL_law_322 ?_
                      refine j_sld C hX (And.left h) dL_law_323 ?_
                      have h := And.right h
                      refine j_callVi (st := [.int r46]) C 25 [.int (xs (x3 + 1).toNatClampNeg), .int (xs (x3 + 2).toNatClampNeg)] (m_X7_vouch C.wok h) cv_RL_47 rk_L_law_X7_vouch rfl (rc_25 w) rfl (Nat.le_of_ble_eq_true rfl) dL_law_324 (fun r48 S47 h => ?_)
                      refine j_icmp_eq (tgt := 794) C dL_law_327 (by decide) (fun c49 => ?_) (fun c49 => ?_)
                      · have h := And.left h c49
                        exact t_L_law_794 C hX hK18 h
                      · have h := And.right h c49
                        refine j_iconst C dL_law_330 (v := 0) (by decide) ?_
                        exact h.elim
                    · have h := And.right h c44
                      by_cases c50 : ((xs x3.toNatClampNeg) &&& 31) = 8
                      · have h := And.left h c50
                        refine j_tableIn (tgt := 332) (off := 300) C dL_law_32 (by rw [c50]; decide) (by rw [c50]; decide) (by rw [c50]; decide) (by decide) ?_
                        refine j_aload_n C dL_law_332 1 rfl rfl ?_
                        refine j_aload_n C dL_law_333 0 rfl rfl ?_
                        refine j_iload_n C dL_law_334 3 rfl rfl ?_
                        refine j_iconst C dL_law_335 (v := 1) (by decide) ?_
                        refine j_iadd C dL_law_336 ?_
                        refine j_sld C hX (And.left h) dL_law_337 ?_
                        have h := And.right h
                        refine j_aload_n C dL_law_338 0 rfl rfl ?_
                        refine j_iload_n C dL_law_339 3 rfl rfl ?_
                        refine j_iconst C dL_law_340 (v := 2) (by decide) ?_
                        refine j_iadd C dL_law_341 ?_
                        refine j_sld C hX (And.left h) dL_law_342 ?_
                        have h := And.right h
                        refine j_callVi (st := []) C 0 [.int (xs (x3 + 1).toNatClampNeg), .int (xs (x3 + 2).toNatClampNeg)] (m_X6_recall C.wok h) cv_RL_48 rk_L_law_X6_recall rfl (rc_0 w) rfl (Nat.le_of_ble_eq_true rfl) dL_law_343 (fun r52 S51 h => ?_)
                        refine j_aload_n C dL_law_346 2 rfl rfl ?_
                        refine j_aload_n C dL_law_347 0 rfl rfl ?_
                        refine j_iload_n C dL_law_348 3 rfl rfl ?_
                        refine j_iconst C dL_law_349 (v := 1) (by decide) ?_
                        refine j_iadd C dL_law_350 ?_
                        refine j_sld C hX (And.left h) dL_law_351 ?_
                        have h := And.right h
                        refine j_aload_n C dL_law_352 0 rfl rfl ?_
                        refine j_iload_n C dL_law_353 3 rfl rfl ?_
                        refine j_iconst C dL_law_354 (v := 2) (by decide) ?_
                        refine j_iadd C dL_law_355 ?_
                        refine j_sld C hX (And.left h) dL_law_356 ?_
                        have h := And.right h
                        refine j_callVi (st := [.int r52]) C 25 [.int (xs (x3 + 1).toNatClampNeg), .int (xs (x3 + 2).toNatClampNeg)] (m_X7_recall C.wok h) cv_RL_51 rk_L_law_X7_recall rfl (rc_25 w) rfl (Nat.le_of_ble_eq_true rfl) dL_law_357 (fun r54 S53 h => ?_)
                        refine j_icmp_eq (tgt := 794) C dL_law_360 (by decide) (fun c55 => ?_) (fun c55 => ?_)
                        · have h := And.left h c55
                          exact t_L_law_794 C hX hK18 h
                        · have h := And.right h c55
                          refine j_iconst C dL_law_363 (v := 0) (by decide) ?_
                          exact h.elim
                      · have h := And.right h c50
                        by_cases c56 : ((xs x3.toNatClampNeg) &&& 31) = 9
                        · have h := And.left h c56
                          refine j_tableIn (tgt := 365) (off := 333) C dL_law_32 (by rw [c56]; decide) (by rw [c56]; decide) (by rw [c56]; decide) (by decide) ?_
                          refine j_aload_n C dL_law_365 1 rfl rfl ?_
                          refine j_aload_n C dL_law_366 0 rfl rfl ?_
                          refine j_iload_n C dL_law_367 3 rfl rfl ?_
                          refine j_iconst C dL_law_368 (v := 1) (by decide) ?_
                          refine j_iadd C dL_law_369 ?_
                          refine j_sld C hX (And.left h) dL_law_370 ?_
                          have h := And.right h
                          refine j_aload_n C dL_law_371 0 rfl rfl ?_
                          refine j_iload_n C dL_law_372 3 rfl rfl ?_
                          refine j_iconst C dL_law_373 (v := 2) (by decide) ?_
                          refine j_iadd C dL_law_374 ?_
                          refine j_sld C hX (And.left h) dL_law_375 ?_
                          have h := And.right h
                          refine j_callVi (st := []) C 0 [.int (xs (x3 + 1).toNatClampNeg), .int (xs (x3 + 2).toNatClampNeg)] (m_X6_bound C.wok h) cv_RL_52 rk_L_law_X6_bound rfl (rc_0 w) rfl (Nat.le_of_ble_eq_true rfl) dL_law_376 (fun r58 S57 h => ?_)
                          refine j_aload_n C dL_law_379 2 rfl rfl ?_
                          refine j_aload_n C dL_law_380 0 rfl rfl ?_
                          refine j_iload_n C dL_law_381 3 rfl rfl ?_
                          refine j_iconst C dL_law_382 (v := 1) (by decide) ?_
                          refine j_iadd C dL_law_383 ?_
                          refine j_sld C hX (And.left h) dL_law_384 ?_
                          have h := And.right h
                          refine j_aload_n C dL_law_385 0 rfl rfl ?_
                          refine j_iload_n C dL_law_386 3 rfl rfl ?_
                          refine j_iconst C dL_law_387 (v := 2) (by decide) ?_
                          refine j_iadd C dL_law_388 ?_
                          refine j_sld C hX (And.left h) dL_law_389 ?_
                          have h := And.right h
                          refine j_callVi (st := [.int r58]) C 25 [.int (xs (x3 + 1).toNatClampNeg), .int (xs (x3 + 2).toNatClampNeg)] (m_X7_bound C.wok h) cv_RL_55 rk_L_law_X7_bound rfl (rc_25 w) rfl (Nat.le_of_ble_eq_true rfl) dL_law_390 (fun r60 S59 h => ?_)
                          refine j_icmp_eq (tgt := 794) C dL_law_393 (by decide) (fun c61 => ?_) (fun c61 => ?_)
                          · have h := And.left h c61
                            exact t_L_law_794 C hX hK18 h
                          · have h := And.right h c61
                            refine j_iconst C dL_law_396 (v := 0) (by decide) ?_
                            exact h.elim
                        · have h := And.right h c56
                          by_cases c62 : ((xs x3.toNatClampNeg) &&& 31) = 10
                          · have h := And.left h c62
                            refine j_tableIn (tgt := 398) (off := 366) C dL_law_32 (by rw [c62]; decide) (by rw [c62]; decide) (by rw [c62]; decide) (by decide) ?_
                            refine j_aload_n C dL_law_398 1 rfl rfl ?_
                            refine j_aload_n C dL_law_399 0 rfl rfl ?_
                            refine j_iload_n C dL_law_400 3 rfl rfl ?_
                            refine j_iconst C dL_law_401 (v := 1) (by decide) ?_
                            refine j_iadd C dL_law_402 ?_
                            refine j_sld C hX (And.left h) dL_law_403 ?_
                            have h := And.right h
                            refine j_callVi (st := []) C 0 [.int (xs (x3 + 1).toNatClampNeg)] (m_X6_about C.wok h) cv_RL_56 rk_L_law_X6_about rfl (rc_0 w) rfl (Nat.le_of_ble_eq_true rfl) dL_law_404 (fun r64 S63 h => ?_)
                            refine j_aload_n C dL_law_407 2 rfl rfl ?_
                            refine j_aload_n C dL_law_408 0 rfl rfl ?_
                            refine j_iload_n C dL_law_409 3 rfl rfl ?_
                            refine j_iconst C dL_law_410 (v := 1) (by decide) ?_
                            refine j_iadd C dL_law_411 ?_
                            refine j_sld C hX (And.left h) dL_law_412 ?_
                            have h := And.right h
                            refine j_callVi (st := [.int r64]) C 25 [.int (xs (x3 + 1).toNatClampNeg)] (m_X7_about C.wok h) cv_RL_59 rk_L_law_X7_about rfl (rc_25 w) rfl (Nat.le_of_ble_eq_true rfl) dL_law_413 (fun r66 S65 h => ?_)
                            refine j_icmp_eq (tgt := 794) C dL_law_416 (by decide) (fun c67 => ?_) (fun c67 => ?_)
                            · have h := And.left h c67
                              exact t_L_law_794 C hX hK18 h
                            · have h := And.right h c67
                              refine j_iconst C dL_law_419 (v := 0) (by decide) ?_
                              exact h.elim
                          · have h := And.right h c62
                            by_cases c68 : ((xs x3.toNatClampNeg) &&& 31) = 11
                            · have h := And.left h c68
                              refine j_tableIn (tgt := 421) (off := 389) C dL_law_32 (by rw [c68]; decide) (by rw [c68]; decide) (by rw [c68]; decide) (by decide) ?_
                              refine j_aload_n C dL_law_421 1 rfl rfl ?_
                              refine j_aload_n C dL_law_422 0 rfl rfl ?_
                              refine j_iload_n C dL_law_423 3 rfl rfl ?_
                              refine j_iconst C dL_law_424 (v := 1) (by decide) ?_
                              refine j_iadd C dL_law_425 ?_
                              refine j_sld C hX (And.left h) dL_law_426 ?_
                              have h := And.right h
                              refine j_aload_n C dL_law_427 0 rfl rfl ?_
                              refine j_iload_n C dL_law_428 3 rfl rfl ?_
                              refine j_iconst C dL_law_429 (v := 2) (by decide) ?_
                              refine j_iadd C dL_law_430 ?_
                              refine j_sld C hX (And.left h) dL_law_431 ?_
                              have h := And.right h
                              refine j_callVi (st := []) C 0 [.int (xs (x3 + 1).toNatClampNeg), .int (xs (x3 + 2).toNatClampNeg)] (m_X6_person C.wok h) cv_RL_60 rk_L_law_X6_person rfl (rc_0 w) rfl (Nat.le_of_ble_eq_true rfl) dL_law_432 (fun r70 S69 h => ?_)
                              refine j_aload_n C dL_law_435 2 rfl rfl ?_
                              refine j_aload_n C dL_law_436 0 rfl rfl ?_
                              refine j_iload_n C dL_law_437 3 rfl rfl ?_
                              refine j_iconst C dL_law_438 (v := 1) (by decide) ?_
                              refine j_iadd C dL_law_439 ?_
                              refine j_sld C hX (And.left h) dL_law_440 ?_
                              have h := And.right h
                              refine j_aload_n C dL_law_441 0 rfl rfl ?_
                              refine j_iload_n C dL_law_442 3 rfl rfl ?_
                              refine j_iconst C dL_law_443 (v := 2) (by decide) ?_
                              refine j_iadd C dL_law_444 ?_
                              refine j_sld C hX (And.left h) dL_law_445 ?_
                              have h := And.right h
                              refine j_callVi (st := [.int r70]) C 25 [.int (xs (x3 + 1).toNatClampNeg), .int (xs (x3 + 2).toNatClampNeg)] (m_X7_person C.wok h) cv_RL_63 rk_L_law_X7_person rfl (rc_25 w) rfl (Nat.le_of_ble_eq_true rfl) dL_law_446 (fun r72 S71 h => ?_)
                              refine j_icmp_eq (tgt := 794) C dL_law_449 (by decide) (fun c73 => ?_) (fun c73 => ?_)
                              · have h := And.left h c73
                                exact t_L_law_794 C hX hK18 h
                              · have h := And.right h c73
                                refine j_iconst C dL_law_452 (v := 0) (by decide) ?_
                                exact h.elim
                            · have h := And.right h c68
                              by_cases c74 : ((xs x3.toNatClampNeg) &&& 31) = 12
                              · have h := And.left h c74
                                refine j_tableIn (tgt := 454) (off := 422) C dL_law_32 (by rw [c74]; decide) (by rw [c74]; decide) (by rw [c74]; decide) (by decide) ?_
                                refine j_aload_n C dL_law_454 1 rfl rfl ?_
                                refine j_aload_n C dL_law_455 0 rfl rfl ?_
                                refine j_iload_n C dL_law_456 3 rfl rfl ?_
                                refine j_iconst C dL_law_457 (v := 1) (by decide) ?_
                                refine j_iadd C dL_law_458 ?_
                                refine j_sld C hX (And.left h) dL_law_459 ?_
                                have h := And.right h
                                refine j_aload_n C dL_law_460 0 rfl rfl ?_
                                refine j_iload_n C dL_law_461 3 rfl rfl ?_
                                refine j_iconst C dL_law_462 (v := 2) (by decide) ?_
                                refine j_iadd C dL_law_463 ?_
                                refine j_sld C hX (And.left h) dL_law_464 ?_
                                have h := And.right h
                                refine j_callVi (st := []) C 0 [.int (xs (x3 + 1).toNatClampNeg), .int (xs (x3 + 2).toNatClampNeg)] (m_X6_vouches C.wok h) cv_RL_64 rk_L_law_X6_vouches rfl (rc_0 w) rfl (Nat.le_of_ble_eq_true rfl) dL_law_465 (fun r76 S75 h => ?_)
                                refine j_aload_n C dL_law_468 2 rfl rfl ?_
                                refine j_aload_n C dL_law_469 0 rfl rfl ?_
                                refine j_iload_n C dL_law_470 3 rfl rfl ?_
                                refine j_iconst C dL_law_471 (v := 1) (by decide) ?_
                                refine j_iadd C dL_law_472 ?_
                                refine j_sld C hX (And.left h) dL_law_473 ?_
                                have h := And.right h
                                refine j_aload_n C dL_law_474 0 rfl rfl ?_
                                refine j_iload_n C dL_law_475 3 rfl rfl ?_
                                refine j_iconst C dL_law_476 (v := 2) (by decide) ?_
                                refine j_iadd C dL_law_477 ?_
                                refine j_sld C hX (And.left h) dL_law_478 ?_
                                have h := And.right h
                                refine j_callVi (st := [.int r76]) C 25 [.int (xs (x3 + 1).toNatClampNeg), .int (xs (x3 + 2).toNatClampNeg)] (m_X7_vouches C.wok h) cv_RL_67 rk_L_law_X7_vouches rfl (rc_25 w) rfl (Nat.le_of_ble_eq_true rfl) dL_law_479 (fun r78 S77 h => ?_)
                                refine j_icmp_eq (tgt := 794) C dL_law_482 (by decide) (fun c79 => ?_) (fun c79 => ?_)
                                · have h := And.left h c79
                                  exact t_L_law_794 C hX hK18 h
                                · have h := And.right h c79
                                  refine j_iconst C dL_law_485 (v := 0) (by decide) ?_
                                  exact h.elim
                              · have h := And.right h c74
                                by_cases c80 : ((xs x3.toNatClampNeg) &&& 31) = 13
                                · have h := And.left h c80
                                  refine j_tableIn (tgt := 487) (off := 455) C dL_law_32 (by rw [c80]; decide) (by rw [c80]; decide) (by rw [c80]; decide) (by decide) ?_
                                  refine j_aload_n C dL_law_487 1 rfl rfl ?_
                                  refine j_callVi (st := []) C 0 [] (m_X6_generous C.wok h) cv_RL_68 rk_L_law_X6_generous rfl (rc_0 w) rfl (Nat.le_of_ble_eq_true rfl) dL_law_488 (fun r82 S81 h => ?_)
                                  refine j_aload_n C dL_law_491 2 rfl rfl ?_
                                  refine j_callVi (st := [.int r82]) C 25 [] (m_X7_generous C.wok h) cv_RL_71 rk_L_law_X7_generous rfl (rc_25 w) rfl (Nat.le_of_ble_eq_true rfl) dL_law_492 (fun r84 S83 h => ?_)
                                  refine j_icmp_eq (tgt := 794) C dL_law_495 (by decide) (fun c85 => ?_) (fun c85 => ?_)
                                  · have h := And.left h c85
                                    exact t_L_law_794 C hX hK18 h
                                  · have h := And.right h c85
                                    refine j_iconst C dL_law_498 (v := 0) (by decide) ?_
                                    exact h.elim
                                · have h := And.right h c80
                                  by_cases c86 : ((xs x3.toNatClampNeg) &&& 31) = 14
                                  · have h := And.left h c86
                                    refine j_tableIn (tgt := 500) (off := 468) C dL_law_32 (by rw [c86]; decide) (by rw [c86]; decide) (by rw [c86]; decide) (by decide) ?_
                                    refine j_aload_n C dL_law_500 1 rfl rfl ?_
                                    refine j_aload_n C dL_law_501 0 rfl rfl ?_
                                    refine j_iload_n C dL_law_502 3 rfl rfl ?_
                                    refine j_iconst C dL_law_503 (v := 1) (by decide) ?_
                                    refine j_iadd C dL_law_504 ?_
                                    refine j_sld C hX (And.left h) dL_law_505 ?_
                                    have h := And.right h
                                    refine j_callVi (st := []) C 0 [.int (xs (x3 + 1).toNatClampNeg)] (m_X6_trust C.wok h) cv_RL_72 rk_L_law_X6_trust rfl (rc_0 w) rfl (Nat.le_of_ble_eq_true rfl) dL_law_506 (fun r88 S87 h => ?_)
                                    refine j_aload_n C dL_law_509 2 rfl rfl ?_
                                    refine j_aload_n C dL_law_510 0 rfl rfl ?_
                                    refine j_iload_n C dL_law_511 3 rfl rfl ?_
                                    refine j_iconst C dL_law_512 (v := 1) (by decide) ?_
                                    refine j_iadd C dL_law_513 ?_
                                    refine j_sld C hX (And.left h) dL_law_514 ?_
                                    have h := And.right h
                                    refine j_callVi (st := [.int r88]) C 25 [.int (xs (x3 + 1).toNatClampNeg)] (m_X7_trust C.wok h) cv_RL_75 rk_L_law_X7_trust rfl (rc_25 w) rfl (Nat.le_of_ble_eq_true rfl) dL_law_515 (fun r90 S89 h => ?_)
                                    refine j_icmp_eq (tgt := 794) C dL_law_518 (by decide) (fun c91 => ?_) (fun c91 => ?_)
                                    · have h := And.left h c91
                                      exact t_L_law_794 C hX hK18 h
                                    · have h := And.right h c91
                                      refine j_iconst C dL_law_521 (v := 0) (by decide) ?_
                                      exact h.elim
                                  · have h := And.right h c86
                                    by_cases c92 : ((xs x3.toNatClampNeg) &&& 31) = 15
                                    · have h := And.left h c92
                                      refine j_tableIn (tgt := 523) (off := 491) C dL_law_32 (by rw [c92]; decide) (by rw [c92]; decide) (by rw [c92]; decide) (by decide) ?_
                                      refine j_aload_n C dL_law_523 1 rfl rfl ?_
                                      refine j_aload_n C dL_law_524 0 rfl rfl ?_
                                      refine j_iload_n C dL_law_525 3 rfl rfl ?_
                                      refine j_iconst C dL_law_526 (v := 1) (by decide) ?_
                                      refine j_iadd C dL_law_527 ?_
                                      refine j_sld C hX (And.left h) dL_law_528 ?_
                                      have h := And.right h
                                      refine j_callVi (st := []) C 0 [.int (xs (x3 + 1).toNatClampNeg)] (m_X6_together C.wok h) cv_RL_76 rk_L_law_X6_together rfl (rc_0 w) rfl (Nat.le_of_ble_eq_true rfl) dL_law_529 (fun r94 S93 h => ?_)
                                      refine j_aload_n C dL_law_532 2 rfl rfl ?_
                                      refine j_aload_n C dL_law_533 0 rfl rfl ?_
                                      refine j_iload_n C dL_law_534 3 rfl rfl ?_
                                      refine j_iconst C dL_law_535 (v := 1) (by decide) ?_
                                      refine j_iadd C dL_law_536 ?_
                                      refine j_sld C hX (And.left h) dL_law_537 ?_
                                      have h := And.right h
                                      refine j_callVi (st := [.int r94]) C 25 [.int (xs (x3 + 1).toNatClampNeg)] (m_X7_together C.wok h) cv_RL_79 rk_L_law_X7_together rfl (rc_25 w) rfl (Nat.le_of_ble_eq_true rfl) dL_law_538 (fun r96 S95 h => ?_)
                                      refine j_icmp_eq (tgt := 794) C dL_law_541 (by decide) (fun c97 => ?_) (fun c97 => ?_)
                                      · have h := And.left h c97
                                        exact t_L_law_794 C hX hK18 h
                                      · have h := And.right h c97
                                        refine j_iconst C dL_law_544 (v := 0) (by decide) ?_
                                        exact h.elim
                                    · have h := And.right h c92
                                      by_cases c98 : ((xs x3.toNatClampNeg) &&& 31) = 16
                                      · have h := And.left h c98
                                        refine j_tableIn (tgt := 546) (off := 514) C dL_law_32 (by rw [c98]; decide) (by rw [c98]; decide) (by rw [c98]; decide) (by decide) ?_
                                        refine j_aload_n C dL_law_546 1 rfl rfl ?_
                                        refine j_aload_n C dL_law_547 0 rfl rfl ?_
                                        refine j_iload_n C dL_law_548 3 rfl rfl ?_
                                        refine j_iconst C dL_law_549 (v := 1) (by decide) ?_
                                        refine j_iadd C dL_law_550 ?_
                                        refine j_sld C hX (And.left h) dL_law_551 ?_
                                        have h := And.right h
                                        refine j_callVi (st := []) C 0 [.int (xs (x3 + 1).toNatClampNeg)] (m_X6_cut C.wok h) cv_RL_80 rk_L_law_X6_cut rfl (rc_0 w) rfl (Nat.le_of_ble_eq_true rfl) dL_law_552 (fun r100 S99 h => ?_)
                                        refine j_aload_n C dL_law_555 2 rfl rfl ?_
                                        refine j_aload_n C dL_law_556 0 rfl rfl ?_
                                        refine j_iload_n C dL_law_557 3 rfl rfl ?_
                                        refine j_iconst C dL_law_558 (v := 1) (by decide) ?_
                                        refine j_iadd C dL_law_559 ?_
                                        refine j_sld C hX (And.left h) dL_law_560 ?_
                                        have h := And.right h
                                        refine j_callVi (st := [.int r100]) C 25 [.int (xs (x3 + 1).toNatClampNeg)] (m_X7_cut C.wok h) cv_RL_83 rk_L_law_X7_cut rfl (rc_25 w) rfl (Nat.le_of_ble_eq_true rfl) dL_law_561 (fun r102 S101 h => ?_)
                                        refine j_icmp_eq (tgt := 794) C dL_law_564 (by decide) (fun c103 => ?_) (fun c103 => ?_)
                                        · have h := And.left h c103
                                          exact t_L_law_794 C hX hK18 h
                                        · have h := And.right h c103
                                          refine j_iconst C dL_law_567 (v := 0) (by decide) ?_
                                          exact h.elim
                                      · have h := And.right h c98
                                        by_cases c104 : ((xs x3.toNatClampNeg) &&& 31) = 17
                                        · have h := And.left h c104
                                          refine j_tableIn (tgt := 569) (off := 537) C dL_law_32 (by rw [c104]; decide) (by rw [c104]; decide) (by rw [c104]; decide) (by decide) ?_
                                          refine j_aload_n C dL_law_569 1 rfl rfl ?_
                                          refine j_aload_n C dL_law_570 0 rfl rfl ?_
                                          refine j_iload_n C dL_law_571 3 rfl rfl ?_
                                          refine j_iconst C dL_law_572 (v := 1) (by decide) ?_
                                          refine j_iadd C dL_law_573 ?_
                                          refine j_sld C hX (And.left h) dL_law_574 ?_
                                          have h := And.right h
                                          refine j_callVi (st := []) C 0 [.int (xs (x3 + 1).toNatClampNeg)] (m_X6_apart C.wok h) cv_RL_84 rk_L_law_X6_apart rfl (rc_0 w) rfl (Nat.le_of_ble_eq_true rfl) dL_law_575 (fun r106 S105 h => ?_)
                                          refine j_aload_n C dL_law_578 2 rfl rfl ?_
                                          refine j_aload_n C dL_law_579 0 rfl rfl ?_
                                          refine j_iload_n C dL_law_580 3 rfl rfl ?_
                                          refine j_iconst C dL_law_581 (v := 1) (by decide) ?_
                                          refine j_iadd C dL_law_582 ?_
                                          refine j_sld C hX (And.left h) dL_law_583 ?_
                                          have h := And.right h
                                          refine j_callVi (st := [.int r106]) C 25 [.int (xs (x3 + 1).toNatClampNeg)] (m_X7_apart C.wok h) cv_RL_87 rk_L_law_X7_apart rfl (rc_25 w) rfl (Nat.le_of_ble_eq_true rfl) dL_law_584 (fun r108 S107 h => ?_)
                                          refine j_icmp_eq (tgt := 794) C dL_law_587 (by decide) (fun c109 => ?_) (fun c109 => ?_)
                                          · have h := And.left h c109
                                            exact t_L_law_794 C hX hK18 h
                                          · have h := And.right h c109
                                            refine j_iconst C dL_law_590 (v := 0) (by decide) ?_
                                            exact h.elim
                                        · have h := And.right h c104
                                          by_cases c110 : ((xs x3.toNatClampNeg) &&& 31) = 18
                                          · have h := And.left h c110
                                            refine j_tableIn (tgt := 592) (off := 560) C dL_law_32 (by rw [c110]; decide) (by rw [c110]; decide) (by rw [c110]; decide) (by decide) ?_
                                            refine j_aload_n C dL_law_592 1 rfl rfl ?_
                                            refine j_aload_n C dL_law_593 0 rfl rfl ?_
                                            refine j_iload_n C dL_law_594 3 rfl rfl ?_
                                            refine j_iconst C dL_law_595 (v := 1) (by decide) ?_
                                            refine j_iadd C dL_law_596 ?_
                                            refine j_sld C hX (And.left h) dL_law_597 ?_
                                            have h := And.right h
                                            refine j_aload_n C dL_law_598 0 rfl rfl ?_
                                            refine j_iload_n C dL_law_599 3 rfl rfl ?_
                                            refine j_iconst C dL_law_600 (v := 2) (by decide) ?_
                                            refine j_iadd C dL_law_601 ?_
                                            refine j_sld C hX (And.left h) dL_law_602 ?_
                                            have h := And.right h
                                            refine j_aload_n C dL_law_603 0 rfl rfl ?_
                                            refine j_iload_n C dL_law_604 3 rfl rfl ?_
                                            refine j_iconst C dL_law_605 (v := 3) (by decide) ?_
                                            refine j_iadd C dL_law_606 ?_
                                            refine j_sld C hX (And.left h) dL_law_607 ?_
                                            have h := And.right h
                                            refine j_callVi (st := []) C 0 [.int (xs (x3 + 1).toNatClampNeg), .int (xs (x3 + 2).toNatClampNeg), .int (xs (x3 + 3).toNatClampNeg)] (m_X6_without C.wok h) cv_RL_88 rk_L_law_X6_without rfl (rc_0 w) rfl (Nat.le_of_ble_eq_true rfl) dL_law_608 (fun r112 S111 h => ?_)
                                            refine j_aload_n C dL_law_611 2 rfl rfl ?_
                                            refine j_aload_n C dL_law_612 0 rfl rfl ?_
                                            refine j_iload_n C dL_law_613 3 rfl rfl ?_
                                            refine j_iconst C dL_law_614 (v := 1) (by decide) ?_
                                            refine j_iadd C dL_law_615 ?_
                                            refine j_sld C hX (And.left h) dL_law_616 ?_
                                            have h := And.right h
                                            refine j_aload_n C dL_law_617 0 rfl rfl ?_
                                            refine j_iload_n C dL_law_618 3 rfl rfl ?_
                                            refine j_iconst C dL_law_619 (v := 2) (by decide) ?_
                                            refine j_iadd C dL_law_620 ?_
                                            refine j_sld C hX (And.left h) dL_law_621 ?_
                                            have h := And.right h
                                            refine j_aload_n C dL_law_622 0 rfl rfl ?_
                                            refine j_iload_n C dL_law_623 3 rfl rfl ?_
                                            refine j_iconst C dL_law_624 (v := 3) (by decide) ?_
                                            refine j_iadd C dL_law_625 ?_
                                            refine j_sld C hX (And.left h) dL_law_626 ?_
                                            have h := And.right h
                                            refine j_callVi (st := [.int r112]) C 25 [.int (xs (x3 + 1).toNatClampNeg), .int (xs (x3 + 2).toNatClampNeg), .int (xs (x3 + 3).toNatClampNeg)] (m_X7_without C.wok h) cv_RL_92 rk_L_law_X7_without rfl (rc_25 w) rfl (Nat.le_of_ble_eq_true rfl) dL_law_627 (fun r114 S113 h => ?_)
                                            refine j_icmp_eq (tgt := 794) C dL_law_630 (by decide) (fun c115 => ?_) (fun c115 => ?_)
                                            · have h := And.left h c115
                                              exact t_L_law_794 C hX hK18 h
                                            · have h := And.right h c115
                                              refine j_iconst C dL_law_633 (v := 0) (by decide) ?_
                                              exact h.elim
                                          · have h := And.right h c110
                                            by_cases c116 : ((xs x3.toNatClampNeg) &&& 31) = 19
                                            · have h := And.left h c116
                                              refine j_tableIn (tgt := 635) (off := 603) C dL_law_32 (by rw [c116]; decide) (by rw [c116]; decide) (by rw [c116]; decide) (by decide) ?_
                                              refine j_aload_n C dL_law_635 1 rfl rfl ?_
                                              refine j_callVi (st := []) C 0 [] (m_X6_dearest C.wok h) cv_RL_93 rk_L_law_X6_dearest rfl (rc_0 w) rfl (Nat.le_of_ble_eq_true rfl) dL_law_636 (fun r118 S117 h => ?_)
                                              refine j_aload_n C dL_law_639 2 rfl rfl ?_
                                              refine j_callVi (st := [.int r118]) C 25 [] (m_X7_dearest C.wok h) cv_RL_96 rk_L_law_X7_dearest rfl (rc_25 w) rfl (Nat.le_of_ble_eq_true rfl) dL_law_640 (fun r120 S119 h => ?_)
                                              refine j_icmp_eq (tgt := 794) C dL_law_643 (by decide) (fun c121 => ?_) (fun c121 => ?_)
                                              · have h := And.left h c121
                                                exact t_L_law_794 C hX hK18 h
                                              · have h := And.right h c121
                                                refine j_iconst C dL_law_646 (v := 0) (by decide) ?_
                                                exact h.elim
                                            · have h := And.right h c116
                                              by_cases c122 : ((xs x3.toNatClampNeg) &&& 31) = 20
                                              · have h := And.left h c122
                                                refine j_tableIn (tgt := 648) (off := 616) C dL_law_32 (by rw [c122]; decide) (by rw [c122]; decide) (by rw [c122]; decide) (by decide) ?_
                                                refine j_aload_n C dL_law_648 1 rfl rfl ?_
                                                refine j_aload_n C dL_law_649 0 rfl rfl ?_
                                                refine j_iload_n C dL_law_650 3 rfl rfl ?_
                                                refine j_iconst C dL_law_651 (v := 1) (by decide) ?_
                                                refine j_iadd C dL_law_652 ?_
                                                refine j_sld C hX (And.left h) dL_law_653 ?_
                                                have h := And.right h
                                                refine j_aload_n C dL_law_654 0 rfl rfl ?_
                                                refine j_iload_n C dL_law_655 3 rfl rfl ?_
                                                refine j_iconst C dL_law_656 (v := 2) (by decide) ?_
                                                refine j_iadd C dL_law_657 ?_
                                                refine j_sld C hX (And.left h) dL_law_658 ?_
                                                have h := And.right h
                                                refine j_aload_n C dL_law_659 0 rfl rfl ?_
                                                refine j_iload_n C dL_law_660 3 rfl rfl ?_
                                                refine j_iconst C dL_law_661 (v := 3) (by decide) ?_
                                                refine j_iadd C dL_law_662 ?_
                                                refine j_sld C hX (And.left h) dL_law_663 ?_
                                                have h := And.right h
                                                refine j_callVi (st := []) C 0 [.int (xs (x3 + 1).toNatClampNeg), .int (xs (x3 + 2).toNatClampNeg), .int (xs (x3 + 3).toNatClampNeg)] (m_X6_chance C.wok h) cv_RL_97 rk_L_law_X6_chance rfl (rc_0 w) rfl (Nat.le_of_ble_eq_true rfl) dL_law_664 (fun r124 S123 h => ?_)
                                                refine j_aload_n C dL_law_667 2 rfl rfl ?_
                                                refine j_aload_n C dL_law_668 0 rfl rfl ?_
                                                refine j_iload_n C dL_law_669 3 rfl rfl ?_
                                                refine j_iconst C dL_law_670 (v := 1) (by decide) ?_
                                                refine j_iadd C dL_law_671 ?_
                                                refine j_sld C hX (And.left h) dL_law_672 ?_
                                                have h := And.right h
                                                refine j_aload_n C dL_law_673 0 rfl rfl ?_
                                                refine j_iload_n C dL_law_674 3 rfl rfl ?_
                                                refine j_iconst C dL_law_675 (v := 2) (by decide) ?_
                                                refine j_iadd C dL_law_676 ?_
                                                refine j_sld C hX (And.left h) dL_law_677 ?_
                                                have h := And.right h
                                                refine j_aload_n C dL_law_678 0 rfl rfl ?_
                                                refine j_iload_n C dL_law_679 3 rfl rfl ?_
                                                refine j_iconst C dL_law_680 (v := 3) (by decide) ?_
                                                refine j_iadd C dL_law_681 ?_
                                                refine j_sld C hX (And.left h) dL_law_682 ?_
                                                have h := And.right h
                                                refine j_callVi (st := [.int r124]) C 25 [.int (xs (x3 + 1).toNatClampNeg), .int (xs (x3 + 2).toNatClampNeg), .int (xs (x3 + 3).toNatClampNeg)] (m_X7_chance C.wok h) cv_RL_100 rk_L_law_X7_chance rfl (rc_25 w) rfl (Nat.le_of_ble_eq_true rfl) dL_law_683 (fun r126 S125 h => ?_)
                                                refine j_icmp_eq (tgt := 794) C dL_law_686 (by decide) (fun c127 => ?_) (fun c127 => ?_)
                                                · have h := And.left h c127
                                                  exact t_L_law_794 C hX hK18 h
                                                · have h := And.right h c127
                                                  refine j_iconst C dL_law_689 (v := 0) (by decide) ?_
                                                  exact h.elim
                                              · have h := And.right h c122
                                                by_cases c128 : ((xs x3.toNatClampNeg) &&& 31) = 21
                                                · have h := And.left h c128
                                                  refine j_tableIn (tgt := 691) (off := 659) C dL_law_32 (by rw [c128]; decide) (by rw [c128]; decide) (by rw [c128]; decide) (by decide) ?_
                                                  refine j_aload_n C dL_law_691 1 rfl rfl ?_
                                                  refine j_aload_n C dL_law_692 0 rfl rfl ?_
                                                  refine j_iload_n C dL_law_693 3 rfl rfl ?_
                                                  refine j_iconst C dL_law_694 (v := 1) (by decide) ?_
                                                  refine j_iadd C dL_law_695 ?_
                                                  refine j_sld C hX (And.left h) dL_law_696 ?_
                                                  have h := And.right h
                                                  refine j_aload_n C dL_law_697 0 rfl rfl ?_
                                                  refine j_iload_n C dL_law_698 3 rfl rfl ?_
                                                  refine j_iconst C dL_law_699 (v := 2) (by decide) ?_
                                                  refine j_iadd C dL_law_700 ?_
                                                  refine j_sld C hX (And.left h) dL_law_701 ?_
                                                  have h := And.right h
                                                  refine j_callVi (st := []) C 0 [.int (xs (x3 + 1).toNatClampNeg), .int (xs (x3 + 2).toNatClampNeg)] (m_X6_thousandths C.wok h) cv_RL_101 rk_L_law_X6_thousandths rfl (rc_0 w) rfl (Nat.le_of_ble_eq_true rfl) dL_law_702 (fun r130 S129 h => ?_)
                                                  refine j_aload_n C dL_law_705 2 rfl rfl ?_
                                                  refine j_aload_n C dL_law_706 0 rfl rfl ?_
                                                  refine j_iload_n C dL_law_707 3 rfl rfl ?_
                                                  refine j_iconst C dL_law_708 (v := 1) (by decide) ?_
                                                  refine j_iadd C dL_law_709 ?_
                                                  refine j_sld C hX (And.left h) dL_law_710 ?_
                                                  have h := And.right h
                                                  refine j_aload_n C dL_law_711 0 rfl rfl ?_
                                                  refine j_iload_n C dL_law_712 3 rfl rfl ?_
                                                  refine j_iconst C dL_law_713 (v := 2) (by decide) ?_
                                                  refine j_iadd C dL_law_714 ?_
                                                  refine j_sld C hX (And.left h) dL_law_715 ?_
                                                  have h := And.right h
                                                  refine j_callVi (st := [.int r130]) C 25 [.int (xs (x3 + 1).toNatClampNeg), .int (xs (x3 + 2).toNatClampNeg)] (m_X7_thousandths C.wok h) cv_RL_104 rk_L_law_X7_thousandths rfl (rc_25 w) rfl (Nat.le_of_ble_eq_true rfl) dL_law_716 (fun r132 S131 h => ?_)
                                                  refine j_icmp_eq (tgt := 794) C dL_law_719 (by decide) (fun c133 => ?_) (fun c133 => ?_)
                                                  · have h := And.left h c133
                                                    exact t_L_law_794 C hX hK18 h
                                                  · have h := And.right h c133
                                                    refine j_iconst C dL_law_722 (v := 0) (by decide) ?_
                                                    exact h.elim
                                                · have h := And.right h c128
                                                  by_cases c134 : ((xs x3.toNatClampNeg) &&& 31) = 22
                                                  · have h := And.left h c134
                                                    refine j_tableIn (tgt := 724) (off := 692) C dL_law_32 (by rw [c134]; decide) (by rw [c134]; decide) (by rw [c134]; decide) (by decide) ?_
                                                    refine j_aload_n C dL_law_724 1 rfl rfl ?_
                                                    refine j_aload_n C dL_law_725 0 rfl rfl ?_
                                                    refine j_iload_n C dL_law_726 3 rfl rfl ?_
                                                    refine j_iconst C dL_law_727 (v := 1) (by decide) ?_
                                                    refine j_iadd C dL_law_728 ?_
                                                    refine j_sld C hX (And.left h) dL_law_729 ?_
                                                    have h := And.right h
                                                    refine j_aload_n C dL_law_730 0 rfl rfl ?_
                                                    refine j_iload_n C dL_law_731 3 rfl rfl ?_
                                                    refine j_iconst C dL_law_732 (v := 2) (by decide) ?_
                                                    refine j_iadd C dL_law_733 ?_
                                                    refine j_sld C hX (And.left h) dL_law_734 ?_
                                                    have h := And.right h
                                                    refine j_callVi (st := []) C 0 [.int (xs (x3 + 1).toNatClampNeg), .int (xs (x3 + 2).toNatClampNeg)] (m_X6_order C.wok h) cv_RL_105 rk_L_law_X6_order rfl (rc_0 w) rfl (Nat.le_of_ble_eq_true rfl) dL_law_735 (fun r136 S135 h => ?_)
                                                    refine j_aload_n C dL_law_738 2 rfl rfl ?_
                                                    refine j_aload_n C dL_law_739 0 rfl rfl ?_
                                                    refine j_iload_n C dL_law_740 3 rfl rfl ?_
                                                    refine j_iconst C dL_law_741 (v := 1) (by decide) ?_
                                                    refine j_iadd C dL_law_742 ?_
                                                    refine j_sld C hX (And.left h) dL_law_743 ?_
                                                    have h := And.right h
                                                    refine j_aload_n C dL_law_744 0 rfl rfl ?_
                                                    refine j_iload_n C dL_law_745 3 rfl rfl ?_
                                                    refine j_iconst C dL_law_746 (v := 2) (by decide) ?_
                                                    refine j_iadd C dL_law_747 ?_
                                                    refine j_sld C hX (And.left h) dL_law_748 ?_
                                                    have h := And.right h
                                                    refine j_callVi (st := [.int r136]) C 25 [.int (xs (x3 + 1).toNatClampNeg), .int (xs (x3 + 2).toNatClampNeg)] (m_X7_order C.wok h) cv_RL_108 rk_L_law_X7_order rfl (rc_25 w) rfl (Nat.le_of_ble_eq_true rfl) dL_law_749 (fun r138 S137 h => ?_)
                                                    refine j_icmp_eq (tgt := 794) C dL_law_752 (by decide) (fun c139 => ?_) (fun c139 => ?_)
                                                    · have h := And.left h c139
                                                      exact t_L_law_794 C hX hK18 h
                                                    · have h := And.right h c139
                                                      refine j_iconst C dL_law_755 (v := 0) (by decide) ?_
                                                      exact h.elim
                                                  · have h := And.right h c134
                                                    by_cases c140 : ((xs x3.toNatClampNeg) &&& 31) = 23
                                                    · have h := And.left h c140
                                                      refine j_tableIn (tgt := 757) (off := 725) C dL_law_32 (by rw [c140]; decide) (by rw [c140]; decide) (by rw [c140]; decide) (by decide) ?_
                                                      refine j_aload_n C dL_law_757 1 rfl rfl ?_
                                                      refine j_aload_n C dL_law_758 0 rfl rfl ?_
                                                      refine j_iload_n C dL_law_759 3 rfl rfl ?_
                                                      refine j_iconst C dL_law_760 (v := 1) (by decide) ?_
                                                      refine j_iadd C dL_law_761 ?_
                                                      refine j_sld C hX (And.left h) dL_law_762 ?_
                                                      have h := And.right h
                                                      refine j_callVi (st := []) C 0 [.int (xs (x3 + 1).toNatClampNeg)] (m_X6_count C.wok h) cv_RL_109 rk_L_law_X6_count rfl (rc_0 w) rfl (Nat.le_of_ble_eq_true rfl) dL_law_763 (fun r142 S141 h => ?_)
                                                      refine j_aload_n C dL_law_766 2 rfl rfl ?_
                                                      refine j_aload_n C dL_law_767 0 rfl rfl ?_
                                                      refine j_iload_n C dL_law_768 3 rfl rfl ?_
                                                      refine j_iconst C dL_law_769 (v := 1) (by decide) ?_
                                                      refine j_iadd C dL_law_770 ?_
                                                      refine j_sld C hX (And.left h) dL_law_771 ?_
                                                      have h := And.right h
                                                      refine j_callVi (st := [.int r142]) C 25 [.int (xs (x3 + 1).toNatClampNeg)] (m_X7_count C.wok h) cv_RL_112 rk_L_law_X7_count rfl (rc_25 w) rfl (Nat.le_of_ble_eq_true rfl) dL_law_772 (fun r144 S143 h => ?_)
                                                      refine j_icmp_eq (tgt := 794) C dL_law_775 (by decide) (fun c145 => ?_) (fun c145 => ?_)
                                                      · have h := And.left h c145
                                                        exact t_L_law_794 C hX hK18 h
                                                      · have h := And.right h c145
                                                        refine j_iconst C dL_law_778 (v := 0) (by decide) ?_
                                                        exact h.elim
                                                    · have h := And.right h c140
                                                      by_cases c146 : ((xs x3.toNatClampNeg) &&& 31) = 24
                                                      · have h := And.left h c146
                                                        refine j_tableIn (tgt := 780) (off := 748) C dL_law_32 (by rw [c146]; decide) (by rw [c146]; decide) (by rw [c146]; decide) (by decide) ?_
                                                        refine j_aload_n C dL_law_780 1 rfl rfl ?_
                                                        refine j_callVl (st := []) C 0 [] (m_X6_digest C.wok h) cv_RL_113 rk_L_law_X6_digest rfl (rc_0 w) rfl (Nat.le_of_ble_eq_true rfl) dL_law_781 (fun r148 S147 h => ?_)
                                                        refine j_aload_n C dL_law_784 2 rfl rfl ?_
                                                        refine j_callVl (st := [.long r148]) C 25 [] (m_X7_digest C.wok h) cv_RL_117 rk_L_law_X7_digest rfl (rc_25 w) rfl (Nat.le_of_ble_eq_true rfl) dL_law_785 (fun r150 S149 h => ?_)
                                                        refine j_lcmp C dL_law_788 ?_
                                                        refine j_if_eq (tgt := 794) C dL_law_789 (by decide) (fun c151 => ?_) (fun c151 => ?_)
                                                        · have h := And.left h c151
                                                          exact t_L_law_794 C hX hK18 h
                                                        · have h := And.right h c151
                                                          refine j_iconst C dL_law_792 (v := 0) (by decide) ?_
                                                          exact h.elim
                                                      · have h := And.right h c146
                                                        have nc2 := lv_neT (a := 0) c2 (by decide)
                                                        have nc8 := lv_neT (a := 1) c8 (by decide)
                                                        have nc14 := lv_neT (a := 2) c14 (by decide)
                                                        have nc20 := lv_neT (a := 3) c20 (by decide)
                                                        have nc26 := lv_neT (a := 4) c26 (by decide)
                                                        have nc32 := lv_neT (a := 5) c32 (by decide)
                                                        have nc38 := lv_neT (a := 6) c38 (by decide)
                                                        have nc44 := lv_neT (a := 7) c44 (by decide)
                                                        have nc50 := lv_neT (a := 8) c50 (by decide)
                                                        have nc56 := lv_neT (a := 9) c56 (by decide)
                                                        have nc62 := lv_neT (a := 10) c62 (by decide)
                                                        have nc68 := lv_neT (a := 11) c68 (by decide)
                                                        have nc74 := lv_neT (a := 12) c74 (by decide)
                                                        have nc80 := lv_neT (a := 13) c80 (by decide)
                                                        have nc86 := lv_neT (a := 14) c86 (by decide)
                                                        have nc92 := lv_neT (a := 15) c92 (by decide)
                                                        have nc98 := lv_neT (a := 16) c98 (by decide)
                                                        have nc104 := lv_neT (a := 17) c104 (by decide)
                                                        have nc110 := lv_neT (a := 18) c110 (by decide)
                                                        have nc116 := lv_neT (a := 19) c116 (by decide)
                                                        have nc122 := lv_neT (a := 20) c122 (by decide)
                                                        have nc128 := lv_neT (a := 21) c128 (by decide)
                                                        have nc134 := lv_neT (a := 22) c134 (by decide)
                                                        have nc140 := lv_neT (a := 23) c140 (by decide)
                                                        have nc146 := lv_neT (a := 24) c146 (by decide)
                                                        refine j_tableOut (tgt := 794) C dL_law_32 (by omega) (by decide) ?_
                                                        exact t_L_law_794 C hX hK18 h
  exact key (x3, S) h
theorem nl_in : ∀ q ∈ NL, nwd q ∈ lw_tbl := by
  intro q hq
  have e : NL.map nwd = [108, 151, 156, 173, 188, 194, 246, 407, 469, 535, 631].filterMap (fun i => lw_tbl[i]?) := by decide +kernel
  have h1 : nwd q ∈ NL.map nwd := List.mem_map.mpr ⟨q, hq, rfl⟩
  rw [e] at h1
  obtain ⟨i, -, hi⟩ := List.mem_filterMap.mp h1
  exact List.mem_of_getElem? hi
theorem tb_lw : ∀ x ∈ TB, x ∈ lw_tbl := fun x h => (List.mem_filter.mp h).1
def S0 : St := (fun _ _ => 0, fun _ _ => 0)
theorem jn_toJ {X : Mx} {w0 : Wt} {Q : State → Prop} {pc : Nat} {lv : List (Nat × Value)} {st : List Value} {ws : va_W} (w : Wt) (e1 : w.1 = w0.1) (hws : ws = Wd w S0) (h : WOK w → (∀ k, k < 39 → X.2.2.2.2.2.2.2.2.2.2.1 (w.2.1 k)) → X.2.2.2.2.2.2.2.2.2.2.2.2 = (39, 1228) → J X w Q pc lv st S0) (hc : X.2.2.2.2.2.2.2.2.2.2.2.2 = (39, 1228)) : JN X w0 Q pc lv st ws 39 1228 := by
  obtain ⟨p, l, e, R, s, m, args, below, meth, c, A, nL, cells, slots⟩ := X
  cases hc
  intro H locs ls hP hD hS hl
  subst hws
  have key : ∀ i, i < 39 → ∃ q, (Wd w S0)[i]? = some q ∧ q.1 = w.2.1 i := fun i hi => by
    have hl9 : i < (Wd w S0).length := hi
    exact ⟨_, List.getElem?_eq_getElem hl9, (wd_fst w S0 (List.getElem?_eq_getElem hl9)).2⟩
  have hW : WOK w := fun i j hi hj e9 => by
    obtain ⟨q1, a1, a2⟩ := key i hi
    obtain ⟨q2, b1, b2⟩ := key j hj
    exact hD.1 i j q1 q2 a1 b1 (by rw [a2, b2, e9])
  have hA : ∀ k, k < 39 → A (w.2.1 k) := fun k hk => by
    obtain ⟨q1, a1, a2⟩ := key k hk
    rw [← a2]; exact hD.2 k q1 a1
  rw [← e1] at hP
  exact h hW hA rfl H locs ls hP hS hl
theorem kl_L_7 : Cond.classLink RL 7 RX6 ∈ TB := tb_mem 98 (by decide +kernel) rfl
theorem kl_L_10 : Cond.classLink RL 10 RX7 ∈ TB := tb_mem 711 (by decide +kernel) rfl
theorem km_L_9 : Cond.methodLink RL 9 yX6_init ∈ TB := tb_mem 100 (by decide +kernel) rfl
theorem km_L_12 : Cond.methodLink RL 12 yX7_init ∈ TB := tb_mem 713 (by decide +kernel) rfl
set_option maxRecDepth 20000 in
theorem law_made {X : Mx} {w0 : Wt} {l0 : Launch} {b : Nat} {Q : State → Prop} (C : Ck X w0 l0 cL_law 4 RL room_1 (some .boolean) false) (hc : X.2.2.2.2.2.2.2.2.2.2.2.2 = (39, 1228)) (h : ∀ ad : Nat → Nat, WOK (w0.1, ad, w0.2.2) → (∀ k, k < 39 → X.2.2.2.2.2.2.2.2.2.2.1 (ad k)) → J X (w0.1, ad, w0.2.2) Q 18 [(0, .ref b), (1, .ref (ad 0)), (2, .ref (ad 25)), (3, .int 0)] [] S0) : JN X w0 Q 0 [(0, .ref b)] [] [] 0 0 := by
  refine jn_new (ci := 6) (fs := [.null, .int 0, .null, .null, .null, .null, .null, .null, .int 0, .int 0, .int 0]) C rfl in_X6 tyX6 tyX6_ok kl_L_7 kw_in6 kw_ini6 (fun j hj => by rcases (show j = 0 ∨ j = 1 ∨ j = 2 ∨ j = 3 ∨ j = 4 ∨ j = 5 ∨ j = 6 ∨ j = 7 ∨ j = 8 ∨ j = 9 ∨ j = 10 by omega) with rfl | rfl | rfl | rfl | rfl | rfl | rfl | rfl | rfl | rfl | rfl <;> rfl) (Nat.le_of_ble_eq_true rfl) (Nat.le_of_ble_eq_true rfl) dL_law_0 (fun q0 => ?_)
  show JN X w0 _ 3 [(0, .ref b)] [.ref q0] [(q0, .inr (6, [.null, .int 0, .null, .null, .null, .null, .null, .null, .int 0, .int 0, .int 0]))] 1 11
  refine jn_dup C dL_law_3 rfl ?_
  refine jn_callI (mc := 24) (ms := 474) C 0 [] (c_X6_init q0) kw_CI6 km_L_9 ⟨⟨rfl, rfl⟩, ⟨Nat.le_of_ble_eq_true rfl, Nat.le_of_ble_eq_true rfl⟩, Nat.le_of_ble_eq_true rfl, Nat.le_of_ble_eq_true rfl⟩ rfl (wr := []) rfl (by decide) (by decide) (Nat.le_of_ble_eq_true rfl) dL_law_4 (fun w1 h1 => ?_)
  obtain ⟨q1, q2, q3, q4, q5, q6, q7, q8, q9, q10, q11, q12, q13, q14, q15, q16, q17, q18, q19, q20, q21, q22, q23, q24, rfl⟩ := h1
  show JN X w0 _ 7 [(0, .ref b)] [.ref q0] [(q0, .inr (6, [.ref q1, .int 0, .ref q2, .ref q6, .ref q11, .ref q13, .ref q14, .ref q22, .int 0, .int 0, .int 0])), (q1, .inl (w0.2.2.1, 110, .inl (fun _ => 0))), (q2, .inr (0, [.int 0, .int 0, .ref q3, .ref q4, .ref q5])), (q3, .inl (w0.2.2.1, 5, .inl (fun _ => 0))), (q4, .inl (w0.2.2.1, 9, .inl (fun _ => 0))), (q5, .inl (w0.2.2.1, 9, .inl (fun _ => 0))), (q6, .inr (2, [.ref q7, .int 0, .int 0, .int 0])), (q7, .inr (0, [.int 0, .int 0, .ref q8, .ref q9, .ref q10])), (q8, .inl (w0.2.2.1, 5, .inl (fun _ => 0))), (q9, .inl (w0.2.2.1, 9, .inl (fun _ => 0))), (q10, .inl (w0.2.2.1, 9, .inl (fun _ => 0))), (q11, .inr (5, [.ref q12, .int 0])), (q12, .inl (w0.2.2.1, 115, .inl (fun _ => 0))), (q13, .inr (1, [.ref q14, .ref q18, .ref q19, .ref q20, .ref q21, .int 0, .int 0])), (q14, .inr (4, [.int 0, .int 0, .ref q15, .ref q16, .ref q17])), (q15, .inl (w0.2.2.1, 9, .inl (fun _ => 0))), (q16, .inl (w0.2.2.1, 9, .inl (fun _ => 0))), (q17, .inl (w0.2.2.1, 9, .inl (fun _ => 0))), (q18, .inl (w0.2.2.1, 9, .inl (fun _ => 0))), (q19, .inl (w0.2.2.1, 81, .inl (fun _ => 0))), (q20, .inl (w0.2.2.1, 18, .inl (fun _ => 0))), (q21, .inl (w0.2.2.1, 18, .inl (fun _ => 0))), (q22, .inr (3, [.int 0, .long 0, .ref q23, .ref q24])), (q23, .inl (w0.2.2.2, 9, .inr (.inl (fun _ => 0)))), (q24, .inl (w0.2.2.2, 9, .inr (.inl (fun _ => 0))))] 25 485
  refine jn_astore_n (lv' := [(1, .ref q0), (0, .ref b)]) C dL_law_7 rfl (by decide) rfl ?_
  refine jn_new (ci := 7) (fs := [.int 0, .null, .null, .int 0, .null, .int 0, .int 0, .int 0, .int 0, .null, .int 0, .int 0, .int 0, .null, .int 0, .int 0, .int 0, .null, .null, .int 0, .int 0, .int 0, .null, .null, .null, .null, .null, .null, .long 0, .long 0]) C rfl in_X7 tyX7 tyX7_ok kl_L_10 kw_in7 kw_ini7 (fun j hj => by rcases (show j = 0 ∨ j = 1 ∨ j = 2 ∨ j = 3 ∨ j = 4 ∨ j = 5 ∨ j = 6 ∨ j = 7 ∨ j = 8 ∨ j = 9 ∨ j = 10 ∨ j = 11 ∨ j = 12 ∨ j = 13 ∨ j = 14 ∨ j = 15 ∨ j = 16 ∨ j = 17 ∨ j = 18 ∨ j = 19 ∨ j = 20 ∨ j = 21 ∨ j = 22 ∨ j = 23 ∨ j = 24 ∨ j = 25 ∨ j = 26 ∨ j = 27 ∨ j = 28 ∨ j = 29 by omega) with rfl | rfl | rfl | rfl | rfl | rfl | rfl | rfl | rfl | rfl | rfl | rfl | rfl | rfl | rfl | rfl | rfl | rfl | rfl | rfl | rfl | rfl | rfl | rfl | rfl | rfl | rfl | rfl | rfl | rfl <;> rfl) (Nat.le_of_ble_eq_true rfl) (Nat.le_of_ble_eq_true rfl) dL_law_8 (fun q25 => ?_)
  show JN X w0 _ 11 [(1, .ref q0), (0, .ref b)] [.ref q25] [(q0, .inr (6, [.ref q1, .int 0, .ref q2, .ref q6, .ref q11, .ref q13, .ref q14, .ref q22, .int 0, .int 0, .int 0])), (q1, .inl (w0.2.2.1, 110, .inl (fun _ => 0))), (q2, .inr (0, [.int 0, .int 0, .ref q3, .ref q4, .ref q5])), (q3, .inl (w0.2.2.1, 5, .inl (fun _ => 0))), (q4, .inl (w0.2.2.1, 9, .inl (fun _ => 0))), (q5, .inl (w0.2.2.1, 9, .inl (fun _ => 0))), (q6, .inr (2, [.ref q7, .int 0, .int 0, .int 0])), (q7, .inr (0, [.int 0, .int 0, .ref q8, .ref q9, .ref q10])), (q8, .inl (w0.2.2.1, 5, .inl (fun _ => 0))), (q9, .inl (w0.2.2.1, 9, .inl (fun _ => 0))), (q10, .inl (w0.2.2.1, 9, .inl (fun _ => 0))), (q11, .inr (5, [.ref q12, .int 0])), (q12, .inl (w0.2.2.1, 115, .inl (fun _ => 0))), (q13, .inr (1, [.ref q14, .ref q18, .ref q19, .ref q20, .ref q21, .int 0, .int 0])), (q14, .inr (4, [.int 0, .int 0, .ref q15, .ref q16, .ref q17])), (q15, .inl (w0.2.2.1, 9, .inl (fun _ => 0))), (q16, .inl (w0.2.2.1, 9, .inl (fun _ => 0))), (q17, .inl (w0.2.2.1, 9, .inl (fun _ => 0))), (q18, .inl (w0.2.2.1, 9, .inl (fun _ => 0))), (q19, .inl (w0.2.2.1, 81, .inl (fun _ => 0))), (q20, .inl (w0.2.2.1, 18, .inl (fun _ => 0))), (q21, .inl (w0.2.2.1, 18, .inl (fun _ => 0))), (q22, .inr (3, [.int 0, .long 0, .ref q23, .ref q24])), (q23, .inl (w0.2.2.2, 9, .inr (.inl (fun _ => 0)))), (q24, .inl (w0.2.2.2, 9, .inr (.inl (fun _ => 0)))), (q25, .inr (7, [.int 0, .null, .null, .int 0, .null, .int 0, .int 0, .int 0, .int 0, .null, .int 0, .int 0, .int 0, .null, .int 0, .int 0, .int 0, .null, .null, .int 0, .int 0, .int 0, .null, .null, .null, .null, .null, .null, .long 0, .long 0]))] 26 515
  refine jn_dup C dL_law_11 rfl ?_
  refine jn_callI (mc := 13) (ms := 713) C 25 [0, 1, 2, 3, 4, 5, 6, 7, 8, 9, 10, 11, 12, 13, 14, 15, 16, 17, 18, 19, 20, 21, 22, 23, 24] (c_X7_init q25) kw_CI7 km_L_12 ⟨⟨rfl, rfl⟩, ⟨Nat.le_of_ble_eq_true rfl, Nat.le_of_ble_eq_true rfl⟩, Nat.le_of_ble_eq_true rfl, Nat.le_of_ble_eq_true rfl⟩ rfl (wr := [(q0, .inr (6, [.ref q1, .int 0, .ref q2, .ref q6, .ref q11, .ref q13, .ref q14, .ref q22, .int 0, .int 0, .int 0])), (q1, .inl (w0.2.2.1, 110, .inl (fun _ => 0))), (q2, .inr (0, [.int 0, .int 0, .ref q3, .ref q4, .ref q5])), (q3, .inl (w0.2.2.1, 5, .inl (fun _ => 0))), (q4, .inl (w0.2.2.1, 9, .inl (fun _ => 0))), (q5, .inl (w0.2.2.1, 9, .inl (fun _ => 0))), (q6, .inr (2, [.ref q7, .int 0, .int 0, .int 0])), (q7, .inr (0, [.int 0, .int 0, .ref q8, .ref q9, .ref q10])), (q8, .inl (w0.2.2.1, 5, .inl (fun _ => 0))), (q9, .inl (w0.2.2.1, 9, .inl (fun _ => 0))), (q10, .inl (w0.2.2.1, 9, .inl (fun _ => 0))), (q11, .inr (5, [.ref q12, .int 0])), (q12, .inl (w0.2.2.1, 115, .inl (fun _ => 0))), (q13, .inr (1, [.ref q14, .ref q18, .ref q19, .ref q20, .ref q21, .int 0, .int 0])), (q14, .inr (4, [.int 0, .int 0, .ref q15, .ref q16, .ref q17])), (q15, .inl (w0.2.2.1, 9, .inl (fun _ => 0))), (q16, .inl (w0.2.2.1, 9, .inl (fun _ => 0))), (q17, .inl (w0.2.2.1, 9, .inl (fun _ => 0))), (q18, .inl (w0.2.2.1, 9, .inl (fun _ => 0))), (q19, .inl (w0.2.2.1, 81, .inl (fun _ => 0))), (q20, .inl (w0.2.2.1, 18, .inl (fun _ => 0))), (q21, .inl (w0.2.2.1, 18, .inl (fun _ => 0))), (q22, .inr (3, [.int 0, .long 0, .ref q23, .ref q24])), (q23, .inl (w0.2.2.2, 9, .inr (.inl (fun _ => 0)))), (q24, .inl (w0.2.2.2, 9, .inr (.inl (fun _ => 0))))]) rfl (by decide) (by decide) (Nat.le_of_ble_eq_true rfl) dL_law_12 (fun w1 h1 => ?_)
  obtain ⟨q26, q27, q28, q29, q30, q31, q32, q33, q34, q35, q36, q37, q38, rfl⟩ := h1
  show JN X w0 _ 15 [(1, .ref q0), (0, .ref b)] [.ref q25] [(q0, .inr (6, [.ref q1, .int 0, .ref q2, .ref q6, .ref q11, .ref q13, .ref q14, .ref q22, .int 0, .int 0, .int 0])), (q1, .inl (w0.2.2.1, 110, .inl (fun _ => 0))), (q2, .inr (0, [.int 0, .int 0, .ref q3, .ref q4, .ref q5])), (q3, .inl (w0.2.2.1, 5, .inl (fun _ => 0))), (q4, .inl (w0.2.2.1, 9, .inl (fun _ => 0))), (q5, .inl (w0.2.2.1, 9, .inl (fun _ => 0))), (q6, .inr (2, [.ref q7, .int 0, .int 0, .int 0])), (q7, .inr (0, [.int 0, .int 0, .ref q8, .ref q9, .ref q10])), (q8, .inl (w0.2.2.1, 5, .inl (fun _ => 0))), (q9, .inl (w0.2.2.1, 9, .inl (fun _ => 0))), (q10, .inl (w0.2.2.1, 9, .inl (fun _ => 0))), (q11, .inr (5, [.ref q12, .int 0])), (q12, .inl (w0.2.2.1, 115, .inl (fun _ => 0))), (q13, .inr (1, [.ref q14, .ref q18, .ref q19, .ref q20, .ref q21, .int 0, .int 0])), (q14, .inr (4, [.int 0, .int 0, .ref q15, .ref q16, .ref q17])), (q15, .inl (w0.2.2.1, 9, .inl (fun _ => 0))), (q16, .inl (w0.2.2.1, 9, .inl (fun _ => 0))), (q17, .inl (w0.2.2.1, 9, .inl (fun _ => 0))), (q18, .inl (w0.2.2.1, 9, .inl (fun _ => 0))), (q19, .inl (w0.2.2.1, 81, .inl (fun _ => 0))), (q20, .inl (w0.2.2.1, 18, .inl (fun _ => 0))), (q21, .inl (w0.2.2.1, 18, .inl (fun _ => 0))), (q22, .inr (3, [.int 0, .long 0, .ref q23, .ref q24])), (q23, .inl (w0.2.2.2, 9, .inr (.inl (fun _ => 0)))), (q24, .inl (w0.2.2.2, 9, .inr (.inl (fun _ => 0)))), (q25, .inr (7, [.int 0, .ref q26, .ref q27, .int 0, .ref q28, .int 0, .int 0, .int 0, .int 0, .ref q29, .int 0, .int 0, .int 0, .ref q30, .int 0, .int 0, .int 0, .ref q31, .ref q32, .int 0, .int 0, .int 0, .ref q33, .ref q34, .ref q35, .ref q36, .ref q37, .ref q38, .long 0, .long 0])), (q26, .inl (w0.2.2.1, 9, .inl (fun _ => 0))), (q27, .inl (w0.2.2.1, 9, .inl (fun _ => 0))), (q28, .inl (w0.2.2.1, 5, .inl (fun _ => 0))), (q29, .inl (w0.2.2.1, 110, .inl (fun _ => 0))), (q30, .inl (w0.2.2.1, 5, .inl (fun _ => 0))), (q31, .inl (w0.2.2.1, 9, .inl (fun _ => 0))), (q32, .inl (w0.2.2.1, 9, .inl (fun _ => 0))), (q33, .inl (w0.2.2.1, 9, .inl (fun _ => 0))), (q34, .inl (w0.2.2.1, 9, .inl (fun _ => 0))), (q35, .inl (w0.2.2.1, 512, .inl (fun _ => 0))), (q36, .inl (w0.2.2.1, 9, .inl (fun _ => 0))), (q37, .inl (w0.2.2.2, 9, .inr (.inl (fun _ => 0)))), (q38, .inl (w0.2.2.2, 9, .inr (.inl (fun _ => 0))))] 39 1228
  refine jn_astore_n (lv' := [(2, .ref q25), (1, .ref q0), (0, .ref b)]) C dL_law_15 rfl (by decide) rfl ?_
  refine jn_iconst (v := 0) C dL_law_16 (by decide) ?_
  refine jn_istore_n (lv' := [(3, .int 0), (2, .ref q25), (1, .ref q0), (0, .ref b)]) C dL_law_17 rfl (by decide) rfl ?_
  refine jn_toJ (w0.1, (fun k => ([q0, q1, q2, q3, q4, q5, q6, q7, q8, q9, q10, q11, q12, q13, q14, q15, q16, q17, q18, q19, q20, q21, q22, q23, q24, q25, q26, q27, q28, q29, q30, q31, q32, q33, q34, q35, q36, q37, q38] : List Nat).getD k 0), w0.2.2) rfl rfl (fun hW hA _ => ?_) hc
  refine j_sub [3, 2, 1, 0] rfl ?_
  exact h _ hW hA
set_option maxRecDepth 20000 in
set_option maxHeartbeats 4000000 in
/-- THE LAW, from its entry, over the pure law -/
theorem whole_start_open (hpure : ∀ (L : Nat) (xs : Nat → Int32), L ≤ 2048 → Lq (p_L_law_18 L xs) (0, S0)) {p : Program} {e : Env} {s : State} {m : MethodId} {below : List Frame} {meth : Method} {c : Code} (l : Launch) (hflags : l.flags = flags0) {b L : Nat} {xs : Nat → Int32} (hL : L ≤ 2048) (C0 : lw_At p s m meth c b L xs) : W p l e room_1 s m #[Value.ref b] below meth c s.heap [] 0 0 (lw_Z below #[Value.ref b] s) (entryFrame m ([Value.ref b] : List Value).toArray 4) := by
  obtain ⟨hx, hb, hr, hml, hown, hts, hX, hbl, hlocks, hgv⟩ := id C0
  obtain ⟨c0, iS0, hKn0⟩ := u_known (C := RX0) (T := TX0) (N := 5) (n := 5) hts (fun x hx => tb_lw x (in_X0 x hx)) (hts (.instantiable RX0 5) (tb_lw _ kw_in0))
  obtain ⟨c1, iS1, hKn1⟩ := u_known (C := RX1) (T := TX1) (N := 7) (n := 7) hts (fun x hx => tb_lw x (in_X1 x hx)) (hts (.instantiable RX1 7) (tb_lw _ kw_in1))
  obtain ⟨c2, iS2, hKn2⟩ := u_known (C := RX2) (T := TX2) (N := 4) (n := 4) hts (fun x hx => tb_lw x (in_X2 x hx)) (hts (.instantiable RX2 4) (tb_lw _ kw_in2))
  obtain ⟨c3, iS3, hKn3⟩ := u_known (C := RX3) (T := TX3) (N := 4) (n := 4) hts (fun x hx => tb_lw x (in_X3 x hx)) (hts (.instantiable RX3 4) (tb_lw _ kw_in3))
  obtain ⟨c4, iS4, hKn4⟩ := u_known (C := RX4) (T := TX4) (N := 5) (n := 5) hts (fun x hx => tb_lw x (in_X4 x hx)) (hts (.instantiable RX4 5) (tb_lw _ kw_in4))
  obtain ⟨c5, iS5, hKn5⟩ := u_known (C := RX5) (T := TX5) (N := 2) (n := 2) hts (fun x hx => tb_lw x (in_X5 x hx)) (hts (.instantiable RX5 2) (tb_lw _ kw_in5))
  obtain ⟨c6, iS6, hKn6⟩ := u_known (C := RX6) (T := TX6) (N := 11) (n := 11) hts (fun x hx => tb_lw x (in_X6 x hx)) (hts (.instantiable RX6 11) (tb_lw _ kw_in6))
  obtain ⟨c7, iS7, hKn7⟩ := u_known (C := RX7) (T := TX7) (N := 30) (n := 30) hts (fun x hx => tb_lw x (in_X7 x hx)) (hts (.instantiable RX7 30) (tb_lw _ kw_in7))
  obtain ⟨dC, dI, hKc⟩ : ∃ (dC : Nat → ClassId) (dI : Nat → Nat → Nat), ∀ (k : Nat) (q : vw_C), vwCl[k]? = some q → u_Kn s q.1 q.2.1 q.2.2 (dC k) (dI k) := by
    refine ⟨fun k => if k = 0 then c0 else if k = 1 then c1 else if k = 2 then c2 else if k = 3 then c3 else if k = 4 then c4 else if k = 5 then c5 else if k = 6 then c6 else c7, fun k => if k = 0 then iS0 else if k = 1 then iS1 else if k = 2 then iS2 else if k = 3 then iS3 else if k = 4 then iS4 else if k = 5 then iS5 else if k = 6 then iS6 else iS7, ?_⟩
    intro k q hq
    match k, hq with
    | 0, hq => cases hq; exact hKn0
    | 1, hq => cases hq; exact hKn1
    | 2, hq => cases hq; exact hKn2
    | 3, hq => cases hq; exact hKn3
    | 4, hq => cases hq; exact hKn4
    | 5, hq => cases hq; exact hKn5
    | 6, hq => cases hq; exact hKn6
    | 7, hq => cases hq; exact hKn7
    | k + 8, hq => simp [vwCl] at hq
  obtain ⟨cA, kA, compA, a1, a2, a3⟩ := Cond.arrayClass_spec (hts (.arrayClass .int) (tb_lw _ kw_aI))
  obtain ⟨cB, kB, compB, b1, b2, b3⟩ := Cond.arrayClass_spec (hts (.arrayClass .long) (tb_lw _ kw_aJ))
  have hK : va_K (dC, dI) vwCl [(cA, .int), (cB, .long)] s := ⟨hKc, fun k q h => by
    match k, h with
    | 0, h => cases h; exact ⟨fun n z => ⟨fun k h => (by cases h), kA, a2, compA, a3⟩, a1⟩
    | 1, h => cases h; exact ⟨fun n z => ⟨fun k h => (by cases h), kB, b2, compB, b3⟩, b1⟩
    | k + 2, h => simp at h⟩
  have hN : NWs s := fun q hq => va_Nw.of rfl (hts _ (nl_in q hq))
  have hts' : ∀ x ∈ TB, x.before #[Value.ref b] s = true := fun x hx => hts x (tb_lw x hx)
  have hCk : Ck (p, l, e, room_1, s, m, #[Value.ref b], below, meth, c, (fun q : Nat => s.heap.size ≤ q), 4, 39, 1228) ((dC, dI), (fun _ => 0), cA, cB) l cL_law 4 RL room_1 (some .boolean) false := ⟨⟨hx, hb, hml, hown, hts'⟩, ⟨hK, hN⟩, fun _ h => h, rfl, rfl, hr, hlocks, (fun h => by cases h), rfl⟩
  have hJ : JN (p, l, e, room_1, s, m, #[Value.ref b], below, meth, c, (fun q : Nat => s.heap.size ≤ q), 4, 39, 1228) ((dC, dI), (fun _ => 0), cA, cB) (lw_Z below #[Value.ref b] s) 0 [(0, .ref b)] [] [] 0 0 := by
    refine law_made hCk rfl (fun ad hW hA => ?_)
    have hC : Cx (p, l, e, room_1, s, m, #[Value.ref b], below, meth, c, (fun q : Nat => s.heap.size ≤ q), 4, 39, 1228) ((dC, dI), ad, cA, cB) l cL_law 4 RL rm_L_law (some .boolean) := ⟨⟨hx, hb, hml, hown, hts'⟩, ⟨hK, hN⟩, hW, hA, rfl, rfl, hr, hlocks, Nat.le_of_ble_eq_true rfl, Nat.le_of_ble_eq_true rfl, rfl⟩
    exact t_L_law_18 (b := b) (L := L) (xs := xs) hC ⟨rfl, hX, hbl, rfl, rfl, rfl, rfl⟩ (hpure L xs hL)
  have hl := lv_entry ([.ref b]) (n := 4) (Nat.le_of_ble_eq_true rfl)
  rw [lg_entry_eq]
  exact hJ s.heap [] _ (fun k q h => by simp at h) ⟨fun i j p q h => by simp at h, fun k q h => by simp at h⟩ va_S.rf hl
