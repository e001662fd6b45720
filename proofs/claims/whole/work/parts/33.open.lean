/-! THE CLAIM OUT OF ONE WALK OF THE LAW'S BODY. Your part is whole_start (and what it stands on); all else here is the same for every law, but numbers. -/
def R_law : String := "ChoiceBookLaw"
def lw_P (b : Addr) (xs : List Int32) (args : Array Value) (s : State) : Prop := args = #[.ref b] ∧ s.IntsAt b xs ∧ xs.length ≤ 2560 ∧ (Jvm.Cond.and given_1 narrow_1).before args s = true
def lw_Q (_ : Array Value) (s : State) (o : Outcome) (t : State) : Prop := o = .returned (some (.int 1)) ∧ Framed s o t [] 600000 7302250
def lw_Z (below : List Frame) (a : Array Value) (s : State) : State → Prop := fun t => ∃ o, t.status = .running ∧ Ended t below o ∧ lw_Q a s o t
/-- the law's own end, with 1 on the stack, nothing written that was there before, its room as the claim has it -/
theorem lw_ret {p : Program} {l : Launch} {e : Env} {s : State} {m : MethodId} {below : List Frame} {meth : Method} {c : Code} {b : Nat} (hx : p.tables.exec = Jvm.exec) (hb : c.code = code) (hr : meth.sig.returnType = ret) (hlocks : meth.locks = false) {pc : Nat} {H : Heap} {ls : Array Slot} (hdg : decode code pc = .ok (.ireturn, 1)) : W p l e room_1 s m #[Value.ref b] below meth c H [] 600000 7302250 (lw_Z below #[Value.ref b] s) (F0 m pc ls [.int 1]) := by
  intro T hT X
  obtain ⟨fs, hret, hrun, hended, hW, hframe⟩ := X.leave (v := some (.int 1)) (hlocks := hlocks) (fun h => by rw [hr] at h; cases h)
  have hmeth' : T.vm.method? m = some meth := X.method'
  refine ⟨T.setFrames fs, ?_, .returned (some (.int 1)), hrun, hended, rfl, ⟨_, rfl⟩, hW, hframe⟩
  jvm_step X.here [X.here.top, hx, hb, hdg, hmeth', hr, ret, narrow_b1]
  (try refine ⟨rfl, ?_⟩); (try refine ⟨rfl, ?_⟩)
  first | (intro acts; rw [hret _ acts rfl rfl rfl]) | rw [hret _ _ rfl rfl rfl]
  exact Steps.refl _
/-- what holds at the law's entry: the machine, the code, the tables' words (any of lw_tbl by 'hts w (by decide +kernel)'), the script of L ints xs at the cell b, what the Statement gives of the start (any of its parts by flat_of_before) -/
def lw_At (p : Program) (s : State) (m : MethodId) (meth : Method) (c : Code) (b L : Nat) (xs : Nat → Int32) : Prop :=
  p.tables.exec = Jvm.exec ∧ c.code = code ∧ meth.sig.returnType = ret ∧ c.maxLocals = 4 ∧ s.vm.findClass R_law = some m.cls ∧ (∀ w ∈ lw_tbl, w.before #[Value.ref b] s = true) ∧ va_X b L xs s s.heap ∧ b < s.heap.size ∧ meth.locks = false ∧ (Jvm.Cond.and given_1 narrow_1).before #[Value.ref b] s = true

theorem nx_1 : Cond.methodLinkNest RX5 9 yX1_init "ChoiceBook" ∈ lw_tbl := List.mem_append_right _ (List.mem_of_getElem? (i := 26) (by decide +kernel))
theorem nx_2 : Cond.methodLinkNest RX5 39 yX0_init "ChoiceBook" ∈ lw_tbl := List.mem_append_right _ (List.mem_of_getElem? (i := 131) (by decide +kernel))
theorem nx_3 : Cond.methodLinkNest RX1 11 yX0_init "ChoiceBook" ∈ lw_tbl := List.mem_append_right _ (List.mem_of_getElem? (i := 32) (by decide +kernel))
theorem nx_4 : Cond.arrayOver (.object "ChoiceBook$Situation") ∈ lw_tbl := List.mem_append_right _ (List.mem_of_getElem? (i := 234) (by decide +kernel))
theorem nx_5 : Cond.laysStatic "java/lang/String" "COMPACT_STRINGS" "Z" ∈ lw_tbl := List.mem_append_right _ (List.mem_of_getElem? (i := 309) (by decide +kernel))
theorem nx_6 : Cond.laysStatic "jdk/internal/util/Preconditions" "SIOOBE_FORMATTER" "Ljava/util/function/BiFunction;" ∈ lw_tbl := List.mem_append_right _ (List.mem_of_getElem? (i := 325) (by decide +kernel))
theorem nx_7 : Cond.initialized "java/lang/String" ∈ lw_tbl := List.mem_append_right _ (List.mem_of_getElem? (i := 7) (by decide +kernel))
theorem nx_8 : Cond.initialized "jdk/internal/util/Preconditions" ∈ lw_tbl := List.mem_append_right _ (List.mem_of_getElem? (i := 9) (by decide +kernel))
theorem nw_0 : Cond.stringRef RX1 56 "health" ∈ lw_tbl := List.mem_append_right _ (List.mem_of_getElem? (i := 295) (by decide +kernel))
theorem nw_1 : Cond.stringRef RX1 65 "part" ∈ lw_tbl := List.mem_append_right _ (List.mem_of_getElem? (i := 364) (by decide +kernel))
theorem nw_2 : Cond.stringRef RX1 107 "take" ∈ lw_tbl := List.mem_append_right _ (List.mem_of_getElem? (i := 381) (by decide +kernel))
theorem nw_3 : Cond.stringRef RX1 113 "drop" ∈ lw_tbl := List.mem_append_right _ (List.mem_of_getElem? (i := 382) (by decide +kernel))
theorem nw_4 : Cond.stringRef RX1 115 "hurt" ∈ lw_tbl := List.mem_append_right _ (List.mem_of_getElem? (i := 383) (by decide +kernel))
theorem nw_5 : Cond.stringRef RX1 117 "heal" ∈ lw_tbl := List.mem_append_right _ (List.mem_of_getElem? (i := 384) (by decide +kernel))
theorem nw_6 : Cond.stringRef RX1 119 "win" ∈ lw_tbl := List.mem_append_right _ (List.mem_of_getElem? (i := 397) (by decide +kernel))
theorem nw_7 : Cond.stringRef RX1 124 "die" ∈ lw_tbl := List.mem_append_right _ (List.mem_of_getElem? (i := 398) (by decide +kernel))
theorem nw_8 : Cond.stringRef RX1 126 "roll" ∈ lw_tbl := List.mem_append_right _ (List.mem_of_getElem? (i := 399) (by decide +kernel))
theorem nw_9 : Cond.stringRef RX1 135 "go" ∈ lw_tbl := List.mem_append_right _ (List.mem_of_getElem? (i := 412) (by decide +kernel))
theorem nw_10 : Cond.stringRef RX1 137 "with" ∈ lw_tbl := List.mem_append_right _ (List.mem_of_getElem? (i := 413) (by decide +kernel))
theorem nw_11 : Cond.stringRef RX1 143 "without" ∈ lw_tbl := List.mem_append_right _ (List.mem_of_getElem? (i := 418) (by decide +kernel))
theorem in_X5 : Cond.instantiable RX5 11 ∈ gt := gt_t 17 (by decide +kernel) rfl
theorem it_X5 : Cond.initialized RX5 ∈ gt := gt_t 1 (by decide +kernel) rfl
theorem in_X6 : Cond.instantiable RX6 30 ∈ gt := gt_t 879 (by decide +kernel) rfl
theorem it_X6 : Cond.initialized RX6 ∈ gt := gt_t 6 (by decide +kernel) rfl
theorem cq_L_7 : Cond.classLink RL 7 RX5 ∈ gt := gt_t 16 (by decide +kernel) rfl
theorem cq_L_10 : Cond.classLink RL 10 RX6 ∈ gt := gt_t 878 (by decide +kernel) rfl
theorem mi_X5 : ME yX5_init cX5_init 3 none 0 := ⟨gt_t 20 (by decide +kernel) rfl, gt_t 1 (by decide +kernel) rfl, by decide +kernel⟩
theorem ii_X5 : Cond.instanceMethod yX5_init ∈ gt := gt_t 19 (by decide +kernel) rfl
theorem mi_X6 : ME yX6_init cX6_init 1 none 0 := ⟨gt_t 882 (by decide +kernel) rfl, gt_t 6 (by decide +kernel) rfl, by decide +kernel⟩
theorem ii_X6 : Cond.instanceMethod yX6_init ∈ gt := gt_t 881 (by decide +kernel) rfl
theorem lk_L_9 : Cond.methodLink RL 9 yX5_init ∈ gt := gt_t 18 (by decide +kernel) rfl
theorem lk_L_12 : Cond.methodLink RL 12 yX6_init ∈ gt := gt_t 880 (by decide +kernel) rfl
/-! ===== what the start says ===== -/
def stm (i : Nat) : Term := .string "ChoiceBook$Parser" ((sidx.getD i (0, "")).1)
set_option maxRecDepth 100000 in
theorem sx_1 : ∀ i, i < 12 → Cond.exactly (stm i) "java/lang/String" ∈ flatC (Jvm.Cond.and given_1 narrow_1) := by decide +kernel
set_option maxRecDepth 100000 in
theorem sx_2 : ∀ i, i < 12 → Cond.eq (.field (stm i) "java/lang/String" "coder" "B") (.int 0) ∈ flatC (Jvm.Cond.and given_1 narrow_1) := by decide +kernel
set_option maxRecDepth 100000 in
theorem sx_3 : ∀ i, i < 12 → Cond.arrayOf (.field (stm i) "java/lang/String" "value" "[B") .byte ∈ flatC (Jvm.Cond.and given_1 narrow_1) := by decide +kernel
set_option maxRecDepth 100000 in
theorem sx_4 : ∀ i, i < 12 → Cond.eq (.length (.field (stm i) "java/lang/String" "value" "[B")) (.int (Int32.ofNat (slen.getD i 0))) ∈ flatC (Jvm.Cond.and given_1 narrow_1) := by decide +kernel
set_option maxRecDepth 100000 in
theorem sx_5 : ∀ i, i < 12 → ∀ j, j < slen.getD i 0 → Cond.eq (.elem (.field (stm i) "java/lang/String" "value" "[B") (.int (Int32.ofNat j))) (.int ((sbyt.getD i []).getD j 0)) ∈ flatC (Jvm.Cond.and given_1 narrow_1) := by decide +kernel
set_option maxRecDepth 100000 in
theorem sx_6 : ∀ i, i < 12 → ∀ j, j < 12 → i < j → Cond.not (Cond.eq (stm i) (stm j)) ∈ flatC (Jvm.Cond.and given_1 narrow_1) := by decide +kernel
set_option maxRecDepth 100000 in
theorem sx_7 : Cond.eq (.static "java/lang/String" "COMPACT_STRINGS" "Z") (.int 1) ∈ flatC (Jvm.Cond.and given_1 narrow_1) ∧ Cond.isRef (.static "jdk/internal/util/Preconditions" "SIOOBE_FORMATTER" "Ljava/util/function/BiFunction;") ∈ flatC (Jvm.Cond.and given_1 narrow_1) := by decide +kernel
theorem sx_8 : ∀ i, i < 12 → slen.getD i 0 < 2 ^ 31 := by decide +kernel
/-- the texts and the two statics, at the law's start -/
theorem sx_start {s : State} {b : Nat} (hts : ∀ w ∈ lw_tbl, w.before #[Value.ref b] s = true) (hgv : (Jvm.Cond.and given_1 narrow_1).before #[Value.ref b] s = true) : ∃ aK aV : Nat → Nat, ∀ Y : Yx, yB Y = s.heap.size → yK Y = aK → yV Y = aV → SX Y s := by
  have hs := flat_of_before _ hgv
  have hA : ∀ a : Nat, a < s.heap.size → ¬ (fun q => s.heap.size ≤ q) a := fun a h => Nat.not_le.mpr h
  obtain ⟨aK, aV, hS, hev⟩ := vk_Sof (args := #[Value.ref b]) (s := s) (N := 12) (tm := stm) (len := slen) (byt := sbyt) (A := fun q => s.heap.size ≤ q) sx_8 (fun i hi => hs _ (sx_1 i hi)) (fun i hi => hs _ (sx_2 i hi)) (fun i hi => hs _ (sx_3 i hi)) (fun i hi => hs _ (sx_4 i hi)) (fun i hi j hj => hs _ (sx_5 i hi j hj)) (fun i j hi hj hne => by
    rcases Nat.lt_or_gt_of_ne hne with h | h
    · exact Or.inl (hs _ (sx_6 i hi j hj h))
    · exact Or.inr (hs _ (sx_6 j hj i hi h))) hA
  refine ⟨aK, aV, fun Y hB hK hV => ?_⟩
  subst hK; subst hV
  refine ⟨by rw [hB]; exact hS, fun i q hi => ?_, ?_, ?_⟩
  · have hl : i < 12 := (List.getElem?_eq_some_iff.mp hi).1
    have h2 : ∀ (w : Cond), w ∈ lw_tbl → w.before #[Value.ref b] s = true := hts
    have he := hev i hl
    have hq : sidx.getD i (0, "") = q := by rw [List.getD_eq_getElem?_getD, hi]; rfl
    unfold stm at he
    rw [hq] at he
    refine vk_R.of (A := #[Value.ref b]) ?_ he
    rcases (show i = 0 ∨ i = 1 ∨ i = 2 ∨ i = 3 ∨ i = 4 ∨ i = 5 ∨ i = 6 ∨ i = 7 ∨ i = 8 ∨ i = 9 ∨ i = 10 ∨ i = 11 by omega) with rfl | rfl | rfl | rfl | rfl | rfl | rfl | rfl | rfl | rfl | rfl | rfl <;> (cases hi)
    · exact hts _ nw_0
    · exact hts _ nw_1
    · exact hts _ nw_2
    · exact hts _ nw_3
    · exact hts _ nw_4
    · exact hts _ nw_5
    · exact hts _ nw_6
    · exact hts _ nw_7
    · exact hts _ nw_8
    · exact hts _ nw_9
    · exact hts _ nw_10
    · exact hts _ nw_11
  · rw [hB]
    exact va_Zof (hts _ nx_5) (hts _ nx_7) (va_eqt (hs _ sx_7.1)) hA
  · rw [hB]
    exact va_Zqof (hts _ nx_6) (hts _ nx_8) (hs _ sx_7.2) hA
/-- classes and their slots, classes of rows -/
theorem k_start {s : State} {b : Nat} (hts : ∀ w ∈ lw_tbl, w.before #[Value.ref b] s = true) : ∃ (D : va_G) (gc : Nat → ClassId), va_K D vwCl (tysg gc) s := by
  have hg : ∀ w ∈ gt, w.before #[Value.ref b] s = true := fun w hw => hts w (gt_l hw)
  obtain ⟨c0, i0, h0⟩ := u_known (C := RX0) (T := TX0) (N := 13) (n := 13) hg uw_X0 (hg _ in_X0)
  obtain ⟨c1, i1, h1⟩ := u_known (C := RX1) (T := TX1) (N := 10) (n := 10) hg uw_X1 (hg _ in_X1)
  obtain ⟨c2, i2, h2⟩ := u_known (C := RX2) (T := TX2) (N := 9) (n := 9) hg uw_X2 (hg _ in_X2)
  obtain ⟨c3, i3, h3⟩ := u_known (C := RX4) (T := TX4) (N := 17) (n := 17) hg uw_X4 (hg _ in_X4)
  obtain ⟨c4, i4, h4⟩ := u_known (C := RX5) (T := TX5) (N := 11) (n := 11) hg uw_X5 (hg _ in_X5)
  obtain ⟨c5, i5, h5⟩ := u_known (C := RX6) (T := TX6) (N := 30) (n := 30) hg uw_X6 (hg _ in_X6)
  obtain ⟨g0, k0, m0, e0, e1, e2⟩ := Cond.arrayClass_spec (hg _ ac_int)
  obtain ⟨g1, k1, m1, e3, e4, e5⟩ := Cond.arrayClass_spec (hg _ ac_byte)
  obtain ⟨g2, k2, m2, e6, e7, e8⟩ := Cond.arrayClass_spec (hg _ ac_boolean)
  obtain ⟨m3, g3, k3, a1, -, a3, a4, a5⟩ := Cond.arrayOver_spec (hts _ nx_4)
  refine ⟨(fun k => match k with | 0 => c0 | 1 => c1 | 2 => c2 | 3 => c3 | 4 => c4 | _ => c5, fun k => match k with | 0 => i0 | 1 => i1 | 2 => i2 | 3 => i3 | 4 => i4 | _ => i5), fun k => match k with | 0 => g0 | 1 => g1 | 2 => g2 | _ => g3, fun k q hq => ?_, fun k q hq => ?_⟩
  · match k, hq with
    | 0, hq => cases hq; exact h0
    | 1, hq => cases hq; exact h1
    | 2, hq => cases hq; exact h2
    | 3, hq => cases hq; exact h3
    | 4, hq => cases hq; exact h4
    | 5, hq => cases hq; exact h5
    | k + 6, hq => simp [vwCl] at hq
  · match k, hq with
    | 0, hq => cases hq; exact ⟨fun n z => ⟨fun k h => (by cases h), k0, e1, m0, e2⟩, e0⟩
    | 1, hq => cases hq; exact ⟨fun n z => ⟨fun k h => (by cases h), k1, e4, m1, e5⟩, e3⟩
    | 2, hq => cases hq; exact ⟨fun n z => ⟨fun k h => (by cases h), k2, e7, m2, e8⟩, e6⟩
    | 3, hq => cases hq; exact ⟨fun n z => ⟨fun k h => (by cases h), k3, a3, m3, a4⟩, ⟨k3, m3, a3, a4, a1, a5⟩⟩
    | k + 4, hq => simp [tysg] at hq
set_option maxHeartbeats 4000000 in
set_option maxRecDepth 100000 in
/-- THE LAW, from its entry, open over what the two systems do -/
theorem whole_open {RLx : (Nat → Nat) → Dt → Dt → Nat → Nat → Prop} (hSt : STEPS RLx) (hR0 : RLx L0 d0 m0 101 382514) {p : Program} {e : Env} {s : State} {m : MethodId} {below : List Frame} {meth : Method} {c : Code} (l : Launch) {b L : Nat} {xs : Nat → Int32} (hL : L ≤ 2560) (C0 : lw_At p s m meth c b L xs) : W p l e room_1 s m #[Value.ref b] below meth c s.heap [] 0 0 (lw_Z below #[Value.ref b] s) (entryFrame m ([Value.ref b] : List Value).toArray 4) := by
  obtain ⟨hx, hb, hr, hml, hown, hts, hX, hbl, hlocks, hgv⟩ := id C0
  have hg : ∀ w ∈ gt, w.before #[Value.ref b] s = true := fun w hw => hts w (gt_l hw)
  obtain ⟨aK, aV, hSX⟩ := sx_start hts hgv
  obtain ⟨D, gc, hK⟩ := k_start hts
  have hXT : XT s := ⟨va_Nw.of rfl (hts _ nx_1), va_Nw.of rfl (hts _ nx_2), va_Nw.of rfl (hts _ nx_3), va_AO.of (hts _ nx_4)⟩
  let K : Kx := (p, l, e, room_1, s, m, ([Value.ref b] : List Value).toArray, below, meth, c, (fun q => s.heap.size ≤ q), lw_Z below #[Value.ref b] s)
  have hCL : CL K D gc cL_law 4 RL 13 478 600000 7302250 := ⟨hx, hb, hml, hown, hg, hK, hXT, hlocks, fun _ h => h, rfl, rfl, rfl, rfl⟩
  have hV : VL K D 4 0 0 [] 0 [(0, .ref b)] [] := by
    refine VL_new (ci := 4) (fs := [.null, .null, .null, .null, .int 0, .null, .null, .int 0, .null, .null, .null]) hCL uw_X5 pl_X5 rfl cq_L_7 in_X5 it_X5 (by decide +kernel) (Nat.le_of_ble_eq_true rfl) (Nat.le_of_ble_eq_true rfl) dL_law_0 (fun q1 => ?_)
    refine VL_dup hCL dL_law_3 rfl ?_
    refine VL_init (ws1 := []) (As := []) hCL (i_X5 (h0 := q1)) mi_X5 rfl ii_X5 lk_L_9 rfl rfl (Nat.le_of_ble_eq_true rfl) ⟨by decide, by decide⟩ ⟨Nat.le_of_ble_eq_true rfl, Nat.le_of_ble_eq_true rfl⟩ dL_law_4 (fun s5 => ?_)
    refine VL_astore_n (lv' := [(1, .ref q1), (0, .ref b)]) hCL dL_law_7 rfl (by decide) rfl ?_
    refine VL_new (ci := 5) (fs := [.null, .null, .null, .null, .int 0, .int 0, .int 0, .int 0, .int 0, .int 0, .int 0, .int 0, .null, .null, .int 0, .int 0, .int 0, .int 0, .int 0, .null, .null, .int 0, .int 0, .int 0, .null, .null, .null, .null, .null, .null]) hCL uw_X6 pl_X6 rfl cq_L_10 in_X6 it_X6 (by decide +kernel) (Nat.le_of_ble_eq_true rfl) (Nat.le_of_ble_eq_true rfl) dL_law_8 (fun q2 => ?_)
    refine VL_dup hCL dL_law_11 rfl ?_
    refine VL_init (As := []) hCL (i_X6 (h0 := q2)) mi_X6 rfl ii_X6 lk_L_12 rfl rfl (Nat.le_of_ble_eq_true rfl) ⟨by decide, by decide⟩ ⟨Nat.le_of_ble_eq_true rfl, Nat.le_of_ble_eq_true rfl⟩ dL_law_12 (fun s6 => ?_)
    refine VL_astore_n (lv' := [(2, .ref q2), (1, .ref q1), (0, .ref b)]) hCL dL_law_15 rfl (by decide) rfl ?_
    refine VL_iconst (v := 0) hCL dL_law_16 rfl ?_
    refine VL_istore_n (lv' := [(3, .int 0), (2, .ref q2), (1, .ref q1), (0, .ref b)]) hCL dL_law_17 rfl (by decide) rfl ?_
    let Y : Yx := YX D gc q1 s5 s.heap.size aK aV
    let M : Yx := YM D gc q2 s.heap.size aK aV
    have hCY : CK K Y cL_law 4 RL 13 478 := ⟨hx, hb, hml, hown, hg, hK, layX, hSX Y rfl rfl rfl, hlocks, fun _ h => h, rfl, rfl⟩
    have hCM : CK K M cL_law 4 RL 13 478 := ⟨hx, hb, hml, hown, hg, hK, layM, hSX M rfl rfl rfl, hlocks, fun _ h => h, rfl, rfl⟩
    have hCW : CW K Y M b L xs := ⟨hCY, hCM, hX, hbl, rfl, rfl, rfl, hL⟩
    have hend : ∀ k n z d dm lv, k ≤ 600000 → n ≤ 7302250 → VW K Y M k n z d (LM, adM s6) dm 1008 lv [] := by
      intro k n z d dm lv h1 h2 H locs ls hW hl
      refine va_forget (fun q hq => hW.S.2.2 q hq) ?_
      refine W.widen h1 h2 ?_
      refine lv_iconst (v := 1) hx hb dL_law_1008 rfl ?_
      exact lw_ret hx hb hr hlocks dL_law_1009
    have hloop := law_loop hSt hCW (show (0, 0, 4) ∈ idsX by decide +kernel) (show (0, 0, 5) ∈ idsM by decide +kernel) (zm := (LM, adM s6)) rfl hend (L + 1) 0 (by omega) (by omega) L0 (adX s5) d0 m0 101 382514 hR0
    intro H locs ls hP hD hS hl
    have hD1 := va_D_nd hD
    rw [List.map_append, List.nil_append] at hD1
    obtain ⟨n1, n2, n3⟩ := List.nodup_append.mp hD1
    have hPx : va_P D vwCl (X5W gc q1 s5) H := fun i x hx => hP i x (by
      rw [List.nil_append, List.getElem?_append_left (List.getElem?_eq_some_iff.mp hx).1]
      exact hx)
    have hPm : va_P D vwCl (X6W gc q2 s6) H := fun i x hx => hP ((X5W gc q1 s5).length + i) x (by
      rw [List.nil_append, List.getElem?_append_right (by omega)]
      rw [show (X5W gc q1 s5).length + i - (X5W gc q1 s5).length = i by omega]
      exact hx)
    have hAll : ∀ x ∈ X5W gc q1 s5 ++ X6W gc q2 s6, s.heap.size ≤ x.1 := fun x hx => by
      obtain ⟨i, hi⟩ := List.getElem?_of_mem hx
      exact hD.2 i x (by rw [List.nil_append]; exact hi)
    have eX : adr Y (L0, adX s5) = (X5W gc q1 s5).map (fun q => q.1) := adrX
    have eM : adr M (LM, adM s6) = (X6W gc q2 s6).map (fun q => q.1) := by
      rw [← wl_adr M (LM, adM s6) m0]
      exact congrArg (List.map (fun q => q.1)) wlM
    refine hloop H locs ls ⟨⟨by rw [eX]; exact n1, fun q hq => ?_, startX hPx, hS⟩, ⟨by rw [eM]; exact n2, fun q hq => ?_, ?_, hS⟩, fun q h1 h2 => ?_⟩ (lv_sub hl [0, 3, 2, 1] rfl)
    · rw [eX] at hq
      obtain ⟨x, hx, rfl⟩ := List.mem_map.mp hq
      exact hAll x (List.mem_append_left _ hx)
    · rw [eM] at hq
      obtain ⟨x, hx, rfl⟩ := List.mem_map.mp hq
      exact hAll x (List.mem_append_right _ hx)
    · have := wlM (D := D) (gc := gc) (h0 := q2) (b0 := s.heap.size) (aK := aK) (aV := aV) (s := s6)
      show va_P D vwCl (wl M (LM, adM s6) m0) H
      rw [show wl M (LM, adM s6) m0 = X6W gc q2 s6 from this]
      exact hPm
    · rw [eX] at h1
      rw [eM] at h2
      exact n3 q h1 q h2 rfl
  have hl := lv_entry ([.ref b]) (n := 4) (Nat.le_of_ble_eq_true rfl)
  rw [lg_entry_eq]
  exact hV s.heap [] _ (fun k q h => by simp at h) ⟨fun i j p q h => by simp at h, fun k q h => by simp at h⟩ va_S.rf hl
