/-! ===== rows of V: fields, rows of numbers, calls, returns ===== -/
/-- a field's link: own's entry idx is field j of class ci -/
def FLK (own : String) (idx ci j : Nat) (C : String) (T : u_T) (N : Nat) : Prop := vwCl[ci]? = some (C, T, N) ∧ (∀ w ∈ u_ws C T N, w ∈ gt) ∧ j < N ∧ (T j).1 = C ∧ Cond.fieldLink own idx C (T j).2.1 (T j).2.2.1 ∈ gt
/-- what is needed to write fields of a class -/
def PLK (C : String) (T : u_T) (N : Nat) (ty0 : Nat → FieldType) : Prop := (∀ k, k < N → parseFieldDescriptor (T k).2.2.1 = some (ty0 k)) ∧ (∀ a, a < N → ∀ b, b < N → a ≠ b → (T a).2.1 ≠ (T b).2.1)
/-- a callee: its code, its class, how many arguments -/
def ME (y : MethodName) (cc : ByteArray) (nl : Nat) (ret : Option FieldType) (na : Nat) : Prop := Cond.code y cc nl ret ∈ gt ∧ Cond.initialized y.cls ∈ gt ∧ (y.cls ≠ "java/lang/invoke/MethodHandle" ∧ y.cls ≠ "java/lang/invoke/VarHandle" ∧ (parseMethodDescriptor y.desc).map (fun d => d.parameters.length) = some na)
def MEV (C : String) (y : MethodName) (cc : ByteArray) (nl : Nat) (ret : Option FieldType) (na : Nat) : Prop := ME y cc nl ret na ∧ Cond.instanceMethod y ∈ gt ∧ Cond.selects C y y ∈ gt
def MES (y : MethodName) (cc : ByteArray) (nl : Nat) (ret : Option FieldType) (na : Nat) : Prop := ME y cc nl ret na ∧ Cond.static y ∈ gt
section ROWS2
variable {K : Kx} {Y : Yx} {nL k n : Nat} {z : Sh} {d d1 : Dt} {pc : Nat} {lv : List (Nat × Value)} {st : List Value} {cc : ByteArray} {own : String} {fr lo : Nat}
theorem V_getf {o ci j kd idx : Nat} {C : String} {T : u_T} {N : Nat} (hC : CK K Y cc nL own fr lo) (ho : (0, o, ci) ∈ yI Y) (hk : (fkind ci)[j]? = some kd) (hf : FLK own idx ci j C T N) (hd : decode cc pc = .ok (.getfield idx, 3)) (kk : V K Y nL k n z d (pc + 3) lv (fv Y z d ci o j kd :: st)) : V K Y nL k n z d pc lv (.ref (yo Y o) :: st) := by
  intro H locs ls hW hl
  obtain ⟨p, hp, he⟩ := wl_get z d ho
  obtain ⟨f1, f2, f3, f4, f5⟩ := hf
  refine va_get (D := yD Y) (C := C) (T := T) (N := N) (ref := C) hC.1 hC.2.1 hC.2.2.2.2.1 f2 hC.2.2.2.1 hC.2.2.2.2.2.1 hW.2.2.1 p he f1 j f3 (hC.2.2.2.2.1 _ f5) (fun x h => by rw [f4] at h; exact h) (fl_get Y z d o hk) hd (kk H locs ls hW hl)
theorem V_geti {o ci j idx : Nat} {C : String} {T : u_T} {N : Nat} (hC : CK K Y cc nL own fr lo) (ho : (0, o, ci) ∈ yI Y) (hk : (fkind ci)[j]? = some 0) (hf : FLK own idx ci j C T N) (hd : decode cc pc = .ok (.getfield idx, 3)) (kk : V K Y nL k n z d (pc + 3) lv (.int (gF d o j) :: st)) : V K Y nL k n z d pc lv (.ref (yo Y o) :: st) := V_getf hC ho hk hf hd kk
theorem V_geta {o ci j idx : Nat} {C : String} {T : u_T} {N : Nat} (hC : CK K Y cc nL own fr lo) (ho : (0, o, ci) ∈ yI Y) (hk : (fkind ci)[j]? = some 1) (hf : FLK own idx ci j C T N) (hd : decode cc pc = .ok (.getfield idx, 3)) (kk : V K Y nL k n z d (pc + 3) lv (.ref (gad z (32 * o + j)) :: st)) : V K Y nL k n z d pc lv (.ref (yo Y o) :: st) := V_getf hC ho hk hf hd kk
theorem V_geto {o ci j idx o2 : Nat} {C : String} {T : u_T} {N : Nat} (hC : CK K Y cc nL own fr lo) (ho : (0, o, ci) ∈ yI Y) (hk : (fkind ci)[j]? = some 2) (hf : FLK own idx ci j C T N) (h2 : ro ci o j = o2) (hd : decode cc pc = .ok (.getfield idx, 3)) (kk : V K Y nL k n z d (pc + 3) lv (.ref (yo Y o2) :: st)) : V K Y nL k n z d pc lv (.ref (yo Y o) :: st) := V_getf hC ho hk hf hd (by subst h2; exact kk)
theorem V_puti' {o ci j idx : Nat} {C : String} {T : u_T} {N : Nat} {ty0 : Nat → FieldType} {v : Int32} (hC : CK K Y cc nL own fr lo) (ho : (0, o, ci) ∈ yI Y) (hk : (fkind ci)[j]? = some 0) (hf : FLK own idx ci j C T N) (hp : PLK C T N ty0) (hfin : (T j).2.2.2 = false) (hn : narrow (ty0 j) (.int v) = .int v) (hfit : fits (ty0 j) (.int v) = true) (hd : decode cc pc = .ok (.putfield idx, 3)) (kk : ∀ d2, d2 = sF d o j v → V K Y nL k n z d2 (pc + 3) lv st) : V K Y nL k n z d pc lv (.int v :: .ref (yo Y o) :: st) := by
  intro H locs ls hW hl
  obtain ⟨p, hpi, he⟩ := wl_get z d ho
  obtain ⟨f1, f2, f3, f4, f5⟩ := hf
  refine va_put (D := yD Y) (C := C) (T := T) (N := N) (ref := C) hC.1 hC.2.1 hC.2.2.2.2.1 f2 ty0 hp.1 hp.2 hC.2.2.2.1 hC.2.2.2.2.2.1 hW.2.2.1 hW.D hW.2.2.2 p he f1 j f3 (hC.2.2.2.2.1 _ f5) (fun x h => by rw [f4] at h; exact h) hfin (hp.1 j f3) hn hfit (by rw [fl_len]; exact (List.getElem?_eq_some_iff.mp hk).1) hd (fun H1 locs1 hP1 _ hS1 => ?_)
  rw [wl_sF hC.2.2.2.2.2.2.1 hpi hk] at hP1
  exact kk _ rfl H1 locs1 ls ⟨hW.1, hW.2.1, hP1, hS1⟩ hl
theorem V_puti {o ci j idx : Nat} {C : String} {T : u_T} {N : Nat} {ty0 : Nat → FieldType} {v : Int32} (hC : CK K Y cc nL own fr lo) (ho : (0, o, ci) ∈ yI Y) (hk : (fkind ci)[j]? = some 0) (hf : FLK own idx ci j C T N) (hp : PLK C T N ty0) (hfin : (T j).2.2.2 = false) (hty : ty0 j = .int) (hd : decode cc pc = .ok (.putfield idx, 3)) (kk : ∀ d2, d2 = sF d o j v → V K Y nL k n z d2 (pc + 3) lv st) : V K Y nL k n z d pc lv (.int v :: .ref (yo Y o) :: st) := V_puti' hC ho hk hf hp hfin (by rw [hty]; rfl) (by rw [hty]; rfl) hd kk
theorem V_putz {o ci j idx : Nat} {C : String} {T : u_T} {N : Nat} {ty0 : Nat → FieldType} {v : Int32} (hC : CK K Y cc nL own fr lo) (ho : (0, o, ci) ∈ yI Y) (hk : (fkind ci)[j]? = some 0) (hf : FLK own idx ci j C T N) (hp : PLK C T N ty0) (hfin : (T j).2.2.2 = false) (hty : ty0 j = .boolean) (hb : isB v = true) (hd : decode cc pc = .ok (.putfield idx, 3)) (kk : ∀ d2, d2 = sF d o j v → V K Y nL k n z d2 (pc + 3) lv st) : V K Y nL k n z d pc lv (.int v :: .ref (yo Y o) :: st) := V_puti' hC ho hk hf hp hfin (by rw [hty]; rcases isB_or hb with rfl | rfl <;> rfl) (by rw [hty]; rcases isB_or hb with rfl | rfl <;> rfl) hd kk
theorem V_iald {a : Nat} {i : Int32} (hC : CK K Y cc nL own fr lo) (ha : (1, a, 0) ∈ yI Y) (hi : inb i (gL z a) = true) (hd : decode cc pc = .ok (.iaload, 1)) (kk : V K Y nL k n z d (pc + 1) lv (.int (gA d a (ix i)) :: st)) : V K Y nL k n z d pc lv (.int i :: .ref (gad z a) :: st) := by
  intro H locs ls hW hl
  obtain ⟨p, hp, he⟩ := wl_get z d ha
  exact va_iald hC.1 hC.2.1 hC.2.2.2.2.2.1 hW.2.2.1 p 0 he rfl (inb_vp hi) hd (kk H locs ls hW hl)
theorem V_bald {a : Nat} {i : Int32} (hC : CK K Y cc nL own fr lo) (ha : (1, a, 1) ∈ yI Y) (hi : inb i (gL z a) = true) (hd : decode cc pc = .ok (.baload, 1)) (kk : V K Y nL k n z d (pc + 1) lv (.int (gA d a (ix i)) :: st)) : V K Y nL k n z d pc lv (.int i :: .ref (gad z a) :: st) := by
  intro H locs ls hW hl
  obtain ⟨p, hp, he⟩ := wl_get z d ha
  exact va_bald hC.1 hC.2.1 hC.2.2.2.2.2.1 hW.2.2.1 p 1 he rfl (inb_vp hi) hd (kk H locs ls hW hl)
theorem V_zald {a : Nat} {i : Int32} (hC : CK K Y cc nL own fr lo) (ha : (1, a, 2) ∈ yI Y) (hi : inb i (gL z a) = true) (hd : decode cc pc = .ok (.baload, 1)) (kk : V K Y nL k n z d (pc + 1) lv (.int (gA d a (ix i)) :: st)) : V K Y nL k n z d pc lv (.int i :: .ref (gad z a) :: st) := by
  intro H locs ls hW hl
  obtain ⟨p, hp, he⟩ := wl_get z d ha
  exact va_zald hC.1 hC.2.1 hC.2.2.2.2.2.1 hW.2.2.1 p 2 he rfl (inb_vp hi) hd (kk H locs ls hW hl)
theorem V_iast {a : Nat} {i v : Int32} (hC : CK K Y cc nL own fr lo) (ha : (1, a, 0) ∈ yI Y) (hi : inb i (gL z a) = true) (hd : decode cc pc = .ok (.iastore, 1)) (kk : ∀ d2, d2 = sA d a (ix i) v → V K Y nL k n z d2 (pc + 1) lv st) : V K Y nL k n z d pc lv (.int v :: .int i :: .ref (gad z a) :: st) := by
  intro H locs ls hW hl
  obtain ⟨p, hp, he⟩ := wl_get z d ha
  refine va_iast hC.1 hC.2.1 hC.2.2.2.2.2.1 hW.2.2.1 hW.D hW.2.2.2 p 0 he rfl (inb_vp hi) hd (fun H1 locs1 hP1 _ hS1 => ?_)
  have hP2 : va_P (yD Y) vwCl (wl Y z (sA d a i.toNatClampNeg v)) H1 := by
    rw [← wl_A hC.2.2.2.2.2.2.1 hp (d := d) (d2 := sA d a i.toNatClampNeg v) rfl (fun b hb => gA_sA' hb), ← gA_sA]
    exact hP1
  exact kk _ rfl H1 locs1 ls ⟨hW.1, hW.2.1, hP2, hS1⟩ hl
theorem V_bast {a : Nat} {i v : Int32} (hC : CK K Y cc nL own fr lo) (ha : (1, a, 1) ∈ yI Y) (hi : inb i (gL z a) = true) (hd : decode cc pc = .ok (.bastore, 1)) (kk : ∀ d2, d2 = sA d a (ix i) (vp_nar .byte v) → V K Y nL k n z d2 (pc + 1) lv st) : V K Y nL k n z d pc lv (.int v :: .int i :: .ref (gad z a) :: st) := by
  intro H locs ls hW hl
  obtain ⟨p, hp, he⟩ := wl_get z d ha
  refine va_bast hC.1 hC.2.1 hC.2.2.2.2.2.1 hW.2.2.1 hW.D hW.2.2.2 p 1 he rfl (inb_vp hi) hd (fun H1 locs1 hP1 _ hS1 => ?_)
  have hP2 : va_P (yD Y) vwCl (wl Y z (sA d a i.toNatClampNeg (vp_nar .byte v))) H1 := by
    rw [← wl_A hC.2.2.2.2.2.2.1 hp (d := d) (d2 := sA d a i.toNatClampNeg (vp_nar .byte v)) rfl (fun b hb => gA_sA' hb), ← gA_sA]
    exact hP1
  exact kk _ rfl H1 locs1 ls ⟨hW.1, hW.2.1, hP2, hS1⟩ hl
theorem V_zast {a : Nat} {i v : Int32} (hC : CK K Y cc nL own fr lo) (ha : (1, a, 2) ∈ yI Y) (hi : inb i (gL z a) = true) (hd : decode cc pc = .ok (.bastore, 1)) (kk : ∀ d2, d2 = sA d a (ix i) (vp_nar .boolean v) → V K Y nL k n z d2 (pc + 1) lv st) : V K Y nL k n z d pc lv (.int v :: .int i :: .ref (gad z a) :: st) := by
  intro H locs ls hW hl
  obtain ⟨p, hp, he⟩ := wl_get z d ha
  refine va_zast hC.1 hC.2.1 hC.2.2.2.2.2.1 hW.2.2.1 hW.D hW.2.2.2 p 2 he rfl (inb_vp hi) hd (fun H1 locs1 hP1 _ hS1 => ?_)
  have hP2 : va_P (yD Y) vwCl (wl Y z (sA d a i.toNatClampNeg (vp_nar .boolean v))) H1 := by
    rw [← wl_A hC.2.2.2.2.2.2.1 hp (d := d) (d2 := sA d a i.toNatClampNeg (vp_nar .boolean v)) rfl (fun b hb => gA_sA' hb), ← gA_sA]
    exact hP1
  exact kk _ rfl H1 locs1 ls ⟨hW.1, hW.2.1, hP2, hS1⟩ hl
theorem V_alen {a t : Nat} (hC : CK K Y cc nL own fr lo) (ha : (1, a, t) ∈ yI Y) (ht : t < 3) (hd : decode cc pc = .ok (.arraylength, 1)) (kk : V K Y nL k n z d (pc + 1) lv (.int (nI (gL z a)) :: st)) : V K Y nL k n z d pc lv (.ref (gad z a) :: st) := by
  intro H locs ls hW hl
  obtain ⟨p, hp, he⟩ := wl_get z d ha
  have htt : ∃ ty, (ytys Y)[t]? = some (yc Y t, ty) := by
    rcases (show t = 0 ∨ t = 1 ∨ t = 2 by omega) with rfl | rfl | rfl
    · exact ⟨_, rfl⟩
    · exact ⟨_, rfl⟩
    · exact ⟨_, rfl⟩
  obtain ⟨ty, htt⟩ := htt
  exact va_alen hC.1 hC.2.1 hC.2.2.2.2.2.1 hW.2.2.1 p t he htt rfl hd (kk H locs ls hW hl)
/-- behind a call that leaves the shape -/
theorem V_after {r1 : Option Value} {rest st0 : List Value} (hr : ∀ (H : Heap) (locs : List Loc) (ls : Array Slot), WD K Y z d H locs → lv_has ls nL lv → va_Run (kp K) (kl K) (ke K) (kR K) (ks K) (km K) (ka K) (kb K) (kme K) (kc K) H locs k n 0 0 (F0 (km K) pc ls st0) rest (fun st oc t => oc = .returned r1 ∧ va_P (yD Y) vwCl (wl Y z d1) t.heap ∧ va_F (aY Y z) st t) (aY Y z))
    (kk : V K Y nL k n z d1 (pc + 3) lv (r1.toList ++ rest)) : V K Y nL k n z d pc lv st0 := by
  intro H locs ls hW hl T hT X
  obtain ⟨v, st₀, t, T', L, h0, X', hL, e1, e2, ⟨hv, hP1, hz, hk⟩, stp⟩ := hr H locs ls hW hl T hT X
  cases hv
  rw [h0] at hz hk
  have hS := hW.2.2.2
  obtain ⟨t2, a1, b1⟩ := kk T'.heap (locs ++ L) ls ⟨hW.1, hW.2.1, by rw [e1]; exact hP1, Nat.le_trans hS.1 (by rw [e1]; exact hz), fun q h1 h2 => by rw [e1, hk q (Nat.lt_of_lt_of_le h1 hS.1) (fun z => h2 (hW.2.1 q z))]; exact hS.2.1 q h1 h2, fun q hq => by
      rcases List.mem_append.mp hq with h | h
      · exact hS.2.2 q h
      · exact hW.2.1 _ (hL q h)⟩ hl T' rfl X'
  exact ⟨t2, stp t2 a1, b1⟩
theorem ck_callB {y : MethodName} {cc' : ByteArray} {nl' : Nat} {ret' : Option FieldType} {na idx fr' lo' mc ms : Nat} (hC : CK K Y cc nL own fr lo) (hm : ME y cc' nl' ret' na) (hlk : Cond.methodLink own idx y ∈ gt) (hroom : fr' + 1 ≤ fr ∧ 8 + (nl' + 11) + lo' ≤ lo) :
    CallB (kR K) (ks K) (ka K) own idx y cc' nl' ret' (mw y cc' nl' ret') { frames := fr', cells := mc, slots := ms, locals := lo' } mc ms na :=
  callB_of na hC.2.2.2.2.1 (mw_good hm.1) rfl rfl rfl (hC.2.2.2.2.1 _ hm.2.1) (hC.2.2.2.2.1 _ hlk) hm.2.2 ⟨by rw [hC.2.2.2.2.2.2.2.2.2.2.1]; exact hroom.1, by rw [hC.2.2.2.2.2.2.2.2.2.2.2]; exact hroom.2⟩
theorem V_inv {y : MethodName} {cc' : ByteArray} {nl' : Nat} {ret' : Option FieldType} {na idx fr' lo' o ci : Nat} {C : String} {T : u_T} {N : Nat} {As rest st0 : List Value} {r1 : Option Value} (hC : CK K Y cc nL own fr lo) (hM : MM (kl K) y cc' nl' ret' fr' lo' Y z (.ref (yo Y o) :: As) d r1 d1) (hm : MEV C y cc' nl' ret' na) (hlk : Cond.methodLink own idx y ∈ gt) (ho : (0, o, ci) ∈ yI Y) (hci : vwCl[ci]? = some (C, T, N)) (hst : st0 = As.reverse ++ .ref (yo Y o) :: rest) (hn : As.length = na) (hrest : (rest.map fun v => v.category).sum ≤ 8) (hroom : fr' + 1 ≤ fr ∧ 8 + (nl' + 11) + lo' ≤ lo) (hkn : k ≤ (kR K).cells ∧ n ≤ (kR K).slots) (hd : decode cc pc = .ok (.invokevirtual idx, 3))
    (kk : V K Y nL k n z d1 (pc + 3) lv (r1.toList ++ rest)) : V K Y nL k n z d pc lv st0 := by
  refine V_after (fun H locs ls hW hl => ?_) kk
  obtain ⟨p, hp, he⟩ := wl_get z d ho
  have hrv := va_recv hC.2.2.2.2.2.1 hW.2.2.1 hci he
  exact va_runV (Ts := gt) (nL := nL) ⟨hC.1, hC.2.1, hC.2.2.1, hC.2.2.2.1, hC.2.2.2.2.1⟩ hM ⟨ck_callB hC hm.1 hlk hroom, hC.2.2.2.2.1 _ hm.2.1, hC.2.2.2.2.1 _ hm.2.2⟩ ⟨IN.blind, hrv, fun U hU hWm => ⟨rfl, hW.IN hC hU hWm⟩⟩ rfl hn hl.1 hst (lv_room hrest) hd hkn
theorem V_ins {y : MethodName} {cc' : ByteArray} {nl' : Nat} {ret' : Option FieldType} {na idx fr' lo' : Nat} {As rest st0 : List Value} {r1 : Option Value} (hC : CK K Y cc nL own fr lo) (hM : MM (kl K) y cc' nl' ret' fr' lo' Y z As d r1 d1) (hm : MES y cc' nl' ret' na) (hlk : Cond.methodLink own idx y ∈ gt) (hst : st0 = As.reverse ++ rest) (hn : As.length = na) (hrest : (rest.map fun v => v.category).sum ≤ 8) (hroom : fr' + 1 ≤ fr ∧ 8 + (nl' + 11) + lo' ≤ lo) (hkn : k ≤ (kR K).cells ∧ n ≤ (kR K).slots) (hd : decode cc pc = .ok (.invokestatic idx, 3))
    (kk : V K Y nL k n z d1 (pc + 3) lv (r1.toList ++ rest)) : V K Y nL k n z d pc lv st0 := by
  refine V_after (fun H locs ls hW hl => ?_) kk
  exact va_runS (Ts := gt) (nL := nL) ⟨hC.1, hC.2.1, hC.2.2.1, hC.2.2.2.1, hC.2.2.2.2.1⟩ hM ⟨ck_callB hC hm.1 hlk hroom, hC.2.2.2.2.1 _ hm.2⟩ ⟨IN.blind, fun U hU hWm => ⟨rfl, hW.IN hC hU hWm⟩⟩ rfl hn hl.1 hst (lv_room hrest) hd hkn
/-- returns -/
theorem V_iret {v : Int32} (hC : CK K Y cc nL own fr lo) (hr : (kme K).sig.returnType = some .int) (hQ : kQ K = MQ (kb K) (QM Y z (some (.int v)) d) (ka K) (ks K) 0 0 (aY Y z)) (hA : kA K = aY Y z) (hd : decode cc pc = .ok (.ireturn, 1)) : V K Y nL 0 0 z d pc lv [.int v] := by
  intro H locs ls hW hl
  rw [hQ]
  have hS := hW.2.2.2
  rw [hA] at hS
  exact W.iret hC.1 hC.2.1 hr (fun t ht _ => ⟨rfl, by rw [ht]; exact hW.2.2.1, hS.F ht⟩) hS.2.2 hd hC.2.2.2.2.2.2.2.2.1
theorem V_zret {v : Int32} {ty : FieldType} (hC : CK K Y cc nL own fr lo) (hr : (kme K).sig.returnType = some ty) (hn : narrow ty (.int v) = .int v) (hQ : kQ K = MQ (kb K) (QM Y z (some (.int v)) d) (ka K) (ks K) 0 0 (aY Y z)) (hA : kA K = aY Y z) (hd : decode cc pc = .ok (.ireturn, 1)) : V K Y nL 0 0 z d pc lv [.int v] := by
  intro H locs ls hW hl
  rw [hQ]
  have hS := hW.2.2.2
  rw [hA] at hS
  exact W.zret hC.1 hC.2.1 hr hn (fun t ht _ => ⟨rfl, by rw [ht]; exact hW.2.2.1, hS.F ht⟩) hS.2.2 hd hC.2.2.2.2.2.2.2.2.1
theorem nar_b {v : Int32} (h : isB v = true) : narrow .boolean (.int v) = .int v := by rcases isB_or h with rfl | rfl <;> rfl
theorem V_vret (hC : CK K Y cc nL own fr lo) (hr : (kme K).sig.returnType = none) (hQ : kQ K = MQ (kb K) (QM Y z none d) (ka K) (ks K) 0 0 (aY Y z)) (hA : kA K = aY Y z) (hd : decode cc pc = .ok (.return_, 1)) : V K Y nL 0 0 z d pc lv [] := by
  intro H locs ls hW hl
  rw [hQ]
  have hS := hW.2.2.2
  rw [hA] at hS
  exact W.vret hC.1 hC.2.1 hr (fun t ht _ => ⟨rfl, by rw [ht]; exact hW.2.2.1, hS.F ht⟩) hS.2.2 hd hC.2.2.2.2.2.2.2.2.1
/-- Math, arraycopy -/
def MML (own : String) (idx : Nat) (y : MethodName) (cc' : ByteArray) (na : Nat) : Prop := Cond.methodLink own idx y ∈ gt ∧ Cond.static y ∈ gt ∧ Cond.initialized "java/lang/Math" ∈ gt ∧ Cond.code y cc' na (some .int) ∈ gt
theorem V_mmin {idx : Nat} {x y : Int32} (hC : CK K Y cc nL own fr lo) (hw : MML own idx Lib.Math.min.name Lib.Math.min.code 2) (hfr : 1 ≤ fr) (hlo : (st.map fun v => v.category).sum + 13 ≤ lo) (hkn : k ≤ (kR K).cells ∧ n ≤ (kR K).slots) (hd : decode cc pc = .ok (.invokestatic idx, 3)) (kk : V K Y nL k n z d (pc + 3) lv (.int (if y < x then y else x) :: st)) : V K Y nL k n z d pc lv (.int y :: .int x :: st) := fun H locs ls hW hl => va_mmin hC.1 hC.2.1 (hC.2.2.1.trans hl.1.symm) hC.2.2.2.1 (hC.2.2.2.2.1 _ hw.1) (hC.2.2.2.2.1 _ hw.2.1) (hC.2.2.2.2.1 _ hw.2.2.1) (hC.2.2.2.2.1 _ hw.2.2.2) (by rw [hC.2.2.2.2.2.2.2.2.2.2.1]; exact hfr) (by rw [hC.2.2.2.2.2.2.2.2.2.2.2]; exact hlo) hkn.1 hkn.2 hd (kk H locs ls hW hl)
theorem V_mmax {idx : Nat} {x y : Int32} (hC : CK K Y cc nL own fr lo) (hw : MML own idx Lib.Math.max.name Lib.Math.max.code 2) (hfr : 1 ≤ fr) (hlo : (st.map fun v => v.category).sum + 13 ≤ lo) (hkn : k ≤ (kR K).cells ∧ n ≤ (kR K).slots) (hd : decode cc pc = .ok (.invokestatic idx, 3)) (kk : V K Y nL k n z d (pc + 3) lv (.int (if x < y then y else x) :: st)) : V K Y nL k n z d pc lv (.int y :: .int x :: st) := fun H locs ls hW hl => va_mmax hC.1 hC.2.1 (hC.2.2.1.trans hl.1.symm) hC.2.2.2.1 (hC.2.2.2.2.1 _ hw.1) (hC.2.2.2.2.1 _ hw.2.1) (hC.2.2.2.2.1 _ hw.2.2.1) (hC.2.2.2.2.1 _ hw.2.2.2) (by rw [hC.2.2.2.2.2.2.2.2.2.2.1]; exact hfr) (by rw [hC.2.2.2.2.2.2.2.2.2.2.2]; exact hlo) hkn.1 hkn.2 hd (kk H locs ls hW hl)
theorem V_mabs {idx : Nat} {x : Int32} (hC : CK K Y cc nL own fr lo) (hw : MML own idx Lib.Math.abs.name Lib.Math.abs.code 1) (hfr : 1 ≤ fr) (hlo : (st.map fun v => v.category).sum + 13 ≤ lo) (hkn : k ≤ (kR K).cells ∧ n ≤ (kR K).slots) (hd : decode cc pc = .ok (.invokestatic idx, 3)) (kk : V K Y nL k n z d (pc + 3) lv (.int (if 0 ≤ x then x else 0 - x) :: st)) : V K Y nL k n z d pc lv (.int x :: st) := fun H locs ls hW hl => va_mabs hC.1 hC.2.1 (hC.2.2.1.trans hl.1.symm) hC.2.2.2.1 (hC.2.2.2.2.1 _ hw.1) (hC.2.2.2.2.1 _ hw.2.1) (hC.2.2.2.2.1 _ hw.2.2.1) (hC.2.2.2.2.1 _ hw.2.2.2) (by rw [hC.2.2.2.2.2.2.2.2.2.2.1]; exact hfr) (by rw [hC.2.2.2.2.2.2.2.2.2.2.2]; exact hlo) hkn.1 hkn.2 hd (kk H locs ls hW hl)
/-- whether a copy stays inside -/
def cpok (n0 n1 : Nat) (sp dp m : Int32) : Bool := decide (0 ≤ sp.toInt) && decide (0 ≤ dp.toInt) && decide (0 ≤ m.toInt) && decide (ix sp + ix m ≤ n0) && decide (ix dp + ix m ≤ n1)
def ACL (own : String) (idx : Nat) : Prop := Cond.methodLink own idx arraycopyName ∈ gt ∧ Cond.native arraycopyName ∈ gt ∧ Cond.static arraycopyName ∈ gt ∧ Cond.initialized "java/lang/System" ∈ gt
theorem V_acopy {idx a b : Nat} {sp dp m : Int32} (hC : CK K Y cc nL own fr lo) (hw : ACL own idx) (ha : (1, a, 0) ∈ yI Y) (hb : (1, b, 0) ∈ yI Y) (hok : cpok (gL z a) (gL z b) sp dp m = true) (hfr : 1 ≤ fr) (hlo : (st.map fun v => v.category).sum + (nativeFrameWords "java/lang/System" "arraycopy" 5 + 11) ≤ lo) (hd : decode cc pc = .ok (.invokestatic idx, 3)) (kk : ∀ d2, d2 = sR d b (va_cpy (gA d a) (gA d b) (ix sp) (ix dp) (ix m)) → V K Y nL k n z d2 (pc + 3) lv st) : V K Y nL k n z d pc lv (.int m :: .int dp :: .ref (gad z b) :: .int sp :: .ref (gad z a) :: st) := by
  intro H locs ls hW hl
  obtain ⟨p, hp, he⟩ := wl_get z d ha
  obtain ⟨p2, hp2, he2⟩ := wl_get z d hb
  simp only [cpok, Bool.and_eq_true, decide_eq_true_eq] at hok
  obtain ⟨⟨⟨⟨c1, c2⟩, c3⟩, c4⟩, c5⟩ := hok
  have ng : ∀ {x : Int32}, 0 ≤ x.toInt → ¬ x < 0 := fun {x} h q => by
    have := Int32.lt_iff_toInt_lt.mp q
    simp at this
    omega
  refine va_copyi hC.1 hC.2.1 (hC.2.2.1.trans hl.1.symm) hC.2.2.2.1 (hC.2.2.2.2.1 _ hw.1) (hC.2.2.2.2.1 _ hw.2.1) (hC.2.2.2.2.1 _ hw.2.2.1) (hC.2.2.2.2.1 _ hw.2.2.2) hC.2.2.2.2.2.1 hW.2.2.1 hW.D hW.2.2.2 p p2 0 0 he he2 rfl rfl rfl (ng c1) (ng c2) (ng c3) c4 c5 (fun _ _ => rfl) (by rw [hC.2.2.2.2.2.2.2.2.2.2.1]; exact hfr) (by rw [hC.2.2.2.2.2.2.2.2.2.2.2]; exact hlo) hd (fun H1 locs1 hP1 _ hS1 => ?_)
  have hP2 : va_P (yD Y) vwCl (wl Y z (sR d b (va_cpy (gA d a) (gA d b) (ix sp) (ix dp) (ix m)))) H1 := by
    rw [← wl_A hC.2.2.2.2.2.2.1 hp2 (d := d) (d2 := sR d b (va_cpy (gA d a) (gA d b) (ix sp) (ix dp) (ix m))) rfl (fun q hq => gA_sR' hq), gA_sR]
    exact hP1
  exact kk _ rfl H1 locs1 ls ⟨hW.1, hW.2.1, hP2, hS1⟩ hl
end ROWS2
