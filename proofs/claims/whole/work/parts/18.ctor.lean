/-! ===== constructors: worlds as lists ===== -/
abbrev tysg (gc : Nat → ClassId) : List (ClassId × FieldType) := [(gc 0, .int), (gc 1, .byte), (gc 2, .boolean), (gc 3, .object "ChoiceBook$Situation")]
/-- links between nest mates, rows of Situations -/
def XT (U : State) : Prop := va_Nw (.methodLinkNest RX5 9 yX1_init "ChoiceBook") U ∧ va_Nw (.methodLinkNest RX5 39 yX0_init "ChoiceBook") U ∧ va_Nw (.methodLinkNest RX1 11 yX0_init "ChoiceBook") U ∧ va_AO "ChoiceBook$Situation" U
theorem XT.at {s U : State} (h : XT s) (hW : s.WarmedH U.vm) : XT U := ⟨h.1.warmM hW, h.2.1.warmM hW, h.2.2.1.warmM hW, h.2.2.2.moved hW.alike⟩
theorem XT.call {U : State} {g : JFrame} {mk : MethodId} {a : Array Value} (h : XT U) : XT (U.calling g mk a) := ⟨h.1.same rfl rfl, h.2.1.same rfl rfl, h.2.2.1.same rfl rfl, h.2.2.2.moved (u := U) (U := U.calling g mk a) (Vm.Alike.refl U.vm)⟩
abbrev kcd (K : Kx) : Code := K.2.2.2.2.2.2.2.2.2.1
def VL (K : Kx) (D : va_G) (nL k n : Nat) (ws : va_W) (pc : Nat) (lv : List (Nat × Value)) (st : List Value) : Prop :=
  ∀ (H : Heap) (locs : List Loc) (ls : Array Slot), va_P D vwCl ws H → va_D (kA K) ws → va_S (kA K) (ks K).heap H locs → lv_has ls nL lv → W (kp K) (kl K) (ke K) (kR K) (ks K) (km K) (ka K) (kb K) (kme K) (kcd K) H locs k n (kQ K) (F0 (km K) pc ls st)
def CL (K : Kx) (D : va_G) (gc : Nat → ClassId) (cc : ByteArray) (nL : Nat) (own : String) (fr lo kc ns : Nat) : Prop :=
  (kp K).tables.exec = Jvm.exec ∧ (kcd K).code = cc ∧ (kcd K).maxLocals = nL ∧ (ks K).vm.findClass own = some (km K).cls ∧ (∀ w ∈ gt, w.before (ka K) (ks K) = true) ∧ va_K D vwCl (tysg gc) (ks K) ∧ XT (ks K) ∧ (kme K).locks = false ∧ (∀ q, (ks K).heap.size ≤ q → kA K q) ∧ (kR K).frames = fr ∧ (kR K).locals = lo ∧ (kR K).cells = kc ∧ (kR K).slots = ns
def ING (D : va_G) (gc : Nat → ClassId) (U : State) : Prop := va_K D vwCl (tysg gc) U ∧ XT U
def QI {S : Type} (D : va_G) (h0 sz : Nat) (post : S → va_W) : Array Value → State → Outcome → State → Prop := fun _ st oc t => oc = .returned none ∧ (∃ qs : S, va_P D vwCl (post qs) t.heap ∧ va_D (fun q => q = h0 ∨ sz ≤ q) (post qs)) ∧ va_F (fun q => q = h0 ∨ sz ≤ q) st t
def MI {S : Type} (l : Launch) (y : MethodName) (cc : ByteArray) (nL fr lo : Nat) (D : va_G) (gc : Nat → ClassId) (h0 ci : Nat) (fs0 As : List Value) (post : S → va_W) (kc ns : Nat) : Prop :=
  ∀ sz, Met l y (mw y cc nL none) { frames := fr, cells := kc, slots := ns, locals := lo } (va_Pc (.ref h0 :: As) (fun U => (ING D gc U ∧ va_P D vwCl [(h0, .inr (ci, fs0))] U.heap) ∧ U.heap.size = sz)) (QI D h0 sz post) kc ns (fun q => q = h0 ∨ sz ≤ q)
section ROWSL
variable {K : Kx} {D : va_G} {gc : Nat → ClassId} {nL k n kc ns : Nat} {ws : va_W} {pc : Nat} {lv : List (Nat × Value)} {st : List Value} {cc : ByteArray} {own : String} {fr lo : Nat}
theorem MI.ofV {l : Launch} {y : MethodName} {h0 ci : Nat} {fs0 As : List Value} {S : Type} {post : S → va_W} (hy : plainName y.cls = true) (hyn : y.name = "<init>") (hn : (lg_sl (.ref h0 :: As)).length ≤ nL)
    (h : ∀ K : Kx, CL K D gc cc nL y.cls fr lo kc ns → (kme K).sig.returnType = none → (kme K).name = "<init>" → kA K = (fun q => q = h0 ∨ (ks K).heap.size ≤ q) → kQ K = MQ (kb K) (QI D h0 (ks K).heap.size post) (ka K) (ks K) kc ns (fun q => q = h0 ∨ (ks K).heap.size ≤ q) → VL K D nL 0 0 [(h0, .inr (ci, fs0))] 0 (lv_args 0 (.ref h0 :: As)) []) :
    MI l y cc nL fr lo D gc h0 ci fs0 As post kc ns := by
  intro sz
  refine Met.ofW (cc := cc) (maxL := nL) (ret := none) hy rfl ?_
  intro p e s m args below meth c s₁ B hml hv
  obtain ⟨rfl, ⟨⟨hK, hX⟩, hP⟩, hsz⟩ := hv
  subst hsz
  have hts := atoms_spec (ws := mw y cc nL none) B.pre
  have hown : s.vm.findClass y.cls = some m.cls := findClass_of_methodNamed B.named
  have hnm : meth.name = "<init>" := (name_of_methodNamed B.named B.method).1.trans hyn
  rw [lg_entry_eq]
  exact h (p, l, e, { frames := fr, cells := kc, slots := ns, locals := lo }, s, m, (.ref h0 :: As : List Value).toArray, below, meth, c, (fun q => q = h0 ∨ s.heap.size ≤ q), MQ below (QI D h0 s.heap.size post) (.ref h0 :: As : List Value).toArray s kc ns (fun q => q = h0 ∨ s.heap.size ≤ q))
    ⟨B.exec, B.bytes, hml, hown, fun w hw => hts w (List.mem_cons_of_mem _ hw), hK, hX, B.notSynchronized, fun q hq => Or.inr hq, rfl, rfl, rfl, rfl⟩ B.returns hnm rfl rfl s.heap [] _ hP ⟨fun i j x y hi hj _ => by
      have h1 := (List.getElem?_eq_some_iff.mp hi).1
      have h2 := (List.getElem?_eq_some_iff.mp hj).1
      simp only [List.length_singleton] at h1 h2
      omega, fun i x hi => by rw [List.mem_singleton.mp (List.mem_of_getElem? hi)]; exact Or.inl rfl⟩ va_S.rf (lv_entry _ hn)
theorem VL_aload_n {a : Fin 4} {i x : Nat} (j : Nat) (hC : CL K D gc cc nL own fr lo kc ns) (hd : decode cc pc = .ok (.aload_n a, 1)) (hi : (a : Nat) = i) (hj : lv[j]? = some (i, .ref x)) (kk : VL K D nL k n ws (pc + 1) lv (.ref x :: st)) : VL K D nL k n ws pc lv st := fun H locs ls hP hD hS hl => lv_aload_n hC.1 hC.2.1 hd hi (lv_at hl j hj) (kk H locs ls hP hD hS hl)
theorem VL_iload_n {a : Fin 4} {i : Nat} {x : Int32} (j : Nat) (hC : CL K D gc cc nL own fr lo kc ns) (hd : decode cc pc = .ok (.iload_n a, 1)) (hi : (a : Nat) = i) (hj : lv[j]? = some (i, .int x)) (kk : VL K D nL k n ws (pc + 1) lv (.int x :: st)) : VL K D nL k n ws pc lv st := fun H locs ls hP hD hS hl => lv_iload_n hC.1 hC.2.1 hd hi (lv_at hl j hj) (kk H locs ls hP hD hS hl)
theorem VL_astore_n {a : Fin 4} {i x : Nat} {lv' : List (Nat × Value)} (hC : CL K D gc cc nL own fr lo kc ns) (hd : decode cc pc = .ok (.astore_n a, 1)) (hi : (a : Nat) = i) (hn : i < nL) (hl : (i, Value.ref x) :: lv.filter (fun q => !(q.1 == i) && !(q.1 + 1 == i && q.2.category == 2)) = lv') (kk : VL K D nL k n ws (pc + 1) lv' st) : VL K D nL k n ws pc lv (.ref x :: st) := fun H locs ls hP hD hS h => lv_astore_n hC.1 hC.2.1 hd hi h hn hl (fun ls' h' => kk H locs ls' hP hD hS h')
theorem VL_istore_n {a : Fin 4} {i : Nat} {x : Int32} {lv' : List (Nat × Value)} (hC : CL K D gc cc nL own fr lo kc ns) (hd : decode cc pc = .ok (.istore_n a, 1)) (hi : (a : Nat) = i) (hn : i < nL) (hl : (i, Value.int x) :: lv.filter (fun q => !(q.1 == i) && !(q.1 + 1 == i && q.2.category == 2)) = lv') (kk : VL K D nL k n ws (pc + 1) lv' st) : VL K D nL k n ws pc lv (.int x :: st) := fun H locs ls hP hD hS h => lv_istore_n hC.1 hC.2.1 hd hi h hn hl (fun ls' h' => kk H locs ls' hP hD hS h')
theorem VL_iconst {a : Int} {v : Int32} (hC : CL K D gc cc nL own fr lo kc ns) (hd : decode cc pc = .ok (.iconst a, 1)) (hv : Int32.ofInt a = v) (kk : VL K D nL k n ws (pc + 1) lv (.int v :: st)) : VL K D nL k n ws pc lv st := fun H locs ls hP hD hS hl => lv_iconst hC.1 hC.2.1 hd hv (kk H locs ls hP hD hS hl)
theorem VL_bipush {a : Int} {v : Int32} (hC : CL K D gc cc nL own fr lo kc ns) (hd : decode cc pc = .ok (.bipush a, 2)) (hv : (Int8.ofInt a).toInt32 = v) (kk : VL K D nL k n ws (pc + 2) lv (.int v :: st)) : VL K D nL k n ws pc lv st := fun H locs ls hP hD hS hl => lv_bipush hC.1 hC.2.1 hd hv (kk H locs ls hP hD hS hl)
theorem VL_sipush {a : Int} {v : Int32} (hC : CL K D gc cc nL own fr lo kc ns) (hd : decode cc pc = .ok (.sipush a, 3)) (hv : (Int16.ofInt a).toInt32 = v) (kk : VL K D nL k n ws (pc + 3) lv (.int v :: st)) : VL K D nL k n ws pc lv st := fun H locs ls hP hD hS hl => lv_sipush hC.1 hC.2.1 hd hv (kk H locs ls hP hD hS hl)
theorem VL_ldc {idx : Nat} {v : Int32} (hC : CL K D gc cc nL own fr lo kc ns) (hw : Cond.constant own idx v ∈ gt) (hd : decode cc pc = .ok (.ldc idx, 2)) (kk : VL K D nL k n ws (pc + 2) lv (.int v :: st)) : VL K D nL k n ws pc lv st := fun H locs ls hP hD hS hl => lv_ldc hC.1 hC.2.1 hC.2.2.2.1 (hC.2.2.2.2.1 _ hw) hd (kk H locs ls hP hD hS hl)
theorem VL_dup {v : Value} (hC : CL K D gc cc nL own fr lo kc ns) (hd : decode cc pc = .ok (.dup, 1)) (hv : v.category = 1) (kk : VL K D nL k n ws (pc + 1) lv (v :: v :: st)) : VL K D nL k n ws pc lv (v :: st) := fun H locs ls hP hD hS hl => lv_dup hC.1 hC.2.1 hd hv (kk H locs ls hP hD hS hl)
theorem VL_iadd {x y : Int32} (hC : CL K D gc cc nL own fr lo kc ns) (hd : decode cc pc = .ok (.iadd, 1)) (kk : VL K D nL k n ws (pc + 1) lv (.int (x + y) :: st)) : VL K D nL k n ws pc lv (.int y :: .int x :: st) := fun H locs ls hP hD hS hl => lv_iadd hC.1 hC.2.1 hd (kk H locs ls hP hD hS hl)
theorem VL_goto {off : Int} {tgt : Nat} (hC : CL K D gc cc nL own fr lo kc ns) (hd : decode cc pc = .ok (.goto off, 3)) (ht : (pc : Int) + off = (tgt : Int)) (kk : VL K D nL k n ws tgt lv st) : VL K D nL k n ws pc lv st := fun H locs ls hP hD hS hl => lv_goto hC.1 hC.2.1 hd ht (kk H locs ls hP hD hS hl)
theorem VL_iinc {i : Nat} {a : Int} {x v : Int32} {lv' : List (Nat × Value)} (j : Nat) (hC : CL K D gc cc nL own fr lo kc ns) (hd : decode cc pc = .ok (.iinc i a, 3)) (hj : lv[j]? = some (i, .int x)) (hv : x + Int32.ofInt a = v) (hn : i < nL) (hl : (i, Value.int v) :: lv.filter (fun q => !(q.1 == i) && !(q.1 + 1 == i && q.2.category == 2)) = lv') (kk : VL K D nL k n ws (pc + 3) lv' st) : VL K D nL k n ws pc lv st := fun H locs ls hP hD hS h => lv_iinc hC.1 hC.2.1 hd h hj hv hn hl (fun ls' h' => kk H locs ls' hP hD hS h')
theorem VL_icmp_ge {x y : Int32} {off : Int} {tgt : Nat} (hC : CL K D gc cc nL own fr lo kc ns) (hd : decode cc pc = .ok (.if_icmp .ge off, 3)) (ht : (pc : Int) + off = (tgt : Int)) (kt : y ≤ x → VL K D nL k n ws tgt lv st) (kf : ¬ y ≤ x → VL K D nL k n ws (pc + 3) lv st) : VL K D nL k n ws pc lv (.int y :: .int x :: st) := fun H locs ls hP hD hS hl => lv_icmp_ge hC.1 hC.2.1 hd ht (fun h => kt h H locs ls hP hD hS hl) (fun h => kf h H locs ls hP hD hS hl)
theorem VL_sub {lv' : List (Nat × Value)} (ks : List Nat) (h : lv_pick lv ks = lv') (kk : VL K D nL k n ws pc lv' st) : VL K D nL k n ws pc lv st := fun H locs ls hP hD hS hl => kk H locs ls hP hD hS (lv_sub hl ks h)
theorem VL_obj {a idx : Nat} (hC : CL K D gc cc nL own fr lo kc ns) (hw : Cond.methodLink own idx objectInit ∈ gt) (hi : Cond.instanceMethod objectInit ∈ gt) (hc : Cond.code objectInit ⟨#[0xb1]⟩ 1 none ∈ gt) (hr : (st.map fun v => v.category).sum ≤ 8) (hfr : 1 ≤ fr) (hlo : 20 ≤ lo) (hd : decode cc pc = .ok (.invokespecial idx, 3)) (kk : VL K D nL k n ws (pc + 3) lv st) : VL K D nL k n ws pc lv (.ref a :: st) := fun H locs ls hP hD hS hl => W.objInit hC.1 hC.2.1 hC.2.2.2.1 (hC.2.2.2.2.1 _ hw) (hC.2.2.2.2.1 _ hi) (hC.2.2.2.2.1 _ hc) rfl (by rw [hC.2.2.1]; exact hl.1) rfl hd (by rw [hC.2.2.2.2.2.2.2.2.2.1]; exact hfr) (by rw [hC.2.2.2.2.2.2.2.2.2.2.1]; have := lv_room (m := km K) (pc := pc) (ls := ls) (rest := (.ref a :: st)) (st := st) hr; show 2 * (F0 (km K) pc ls (.ref a :: st)).monitorRoom + _ + 12 ≤ lo; omega) (kk H locs ls hP hD hS hl)
/-- a row of zeros: of ints, bytes, booleans -/
theorem VL_newa {atype : ArrayType} {t w : Nat} {v : Int32} (hC : CL K D gc cc nL own fr lo kc ns) (hac : Cond.arrayClass (newarray.typeOf atype) ∈ gt) (ht : (tysg gc)[t]? = some (gc t, newarray.typeOf atype)) (hp : (atype = .int ∧ t = 0) ∨ (atype = .byte ∧ t = 1) ∨ (atype = .boolean ∧ t = 2)) (hv : ¬ v < 0) (hw : v.toNatClampNeg = w) (hb : w ≤ 100000000) (hk : k + 1 ≤ kc) (hn : n + w ≤ ns) (hd : decode cc pc = .ok (.newarray atype, 2)) (kk : ∀ q, VL K D nL (k + 1) (n + w) (ws ++ [(q, .inl (gc t, w, .inl (fun _ => 0)))]) (pc + 2) lv (.ref q :: st)) : VL K D nL k n ws pc lv (.int v :: st) := by
  intro H locs ls hP hD hS hl
  have hcb : w * componentBytes (newarray.typeOf atype) ≤ 536870912 := by
    have h4 : componentBytes (newarray.typeOf atype) ≤ 4 := by rcases hp with ⟨rfl, _⟩ | ⟨rfl, _⟩ | ⟨rfl, _⟩ <;> decide
    exact Nat.le_trans (Nat.mul_le_mul hb h4) (by decide)
  refine va_newaK hC.1 hC.2.1 (hC.2.2.2.2.1 _ hac) rfl hd rfl hv hw hcb (by rw [hC.2.2.2.2.2.2.2.2.2.2.2.1]; exact hk) (by rw [hC.2.2.2.2.2.2.2.2.2.2.2.2]; exact hn) rfl (fun H1 cA e1 z1 o1 _ hcl => ?_)
  have hcA : cA = gc t := by
    have h2 := (hC.2.2.2.2.2.1.2 t _ ht).2
    rcases hp with ⟨rfl, _⟩ | ⟨rfl, _⟩ | ⟨rfl, _⟩ <;> exact Option.some.inj (hcl.symm.trans h2)
  subst hcA
  refine kk H.size H1 locs ls ((hP.kept (fun i x hx => o1 x.1 (hP i x hx).lt)).app (fun i x hx => ?_)) (hD.push hP rfl (hC.2.2.2.2.2.2.2.2.1 _ hS.1)) ⟨Nat.le_trans hS.1 (by omega), fun x h1 h2 => (o1 x (Nat.lt_of_lt_of_le h1 hS.1)).trans (hS.2.1 x h1 h2), hS.2.2⟩ hl
  rw [List.mem_singleton.mp (List.mem_of_getElem? hx)]
  show H1[H.size]? = some (vp_cell _ _)
  rw [e1]
  rcases hp with ⟨rfl, _⟩ | ⟨rfl, _⟩ | ⟨rfl, _⟩ <;> rfl
theorem VL_new {idx ci : Nat} {C : String} {T : u_T} {N : Nat} {ty : Nat → FieldType} {fs : List Value} (hC : CL K D gc cc nL own fr lo kc ns) (huw : ∀ w ∈ u_ws C T N, w ∈ gt) (hpl : PLK C T N ty) (hci : vwCl[ci]? = some (C, T, N)) (hcl : Cond.classLink own idx C ∈ gt) (hin : Cond.instantiable C N ∈ gt) (hini : Cond.initialized C ∈ gt) (hfs : ∀ j, j < N → defaultValue (ty j) = vp_V fs j) (hk : k + 1 ≤ kc) (hn : n + N ≤ ns) (hd : decode cc pc = .ok (.new idx, 3)) (kk : ∀ q, VL K D nL (k + 1) (n + N) (ws ++ [(q, .inr (ci, fs))]) (pc + 3) lv (.ref q :: st)) : VL K D nL k n ws pc lv st := by
  intro H locs ls hP hD hS hl
  exact va_new hC.1 hC.2.1 hC.2.2.2.2.1 huw ty hpl.1 hC.2.2.2.1 (hC.2.2.2.2.1 _ hcl) (hC.2.2.2.2.1 _ hin) (hC.2.2.2.2.1 _ hini) hC.2.2.2.2.2.1 hP hD hS hC.2.2.2.2.2.2.2.2.1 hci hfs (by rw [hC.2.2.2.2.2.2.2.2.2.2.2.1]; exact hk) (by rw [hC.2.2.2.2.2.2.2.2.2.2.2.2]; exact hn) hd (fun q H1 hP1 hD1 hS1 => kk q H1 locs ls hP1 hD1 hS1 hl)
/-- a field of the object at the head -/
theorem VL_put {a ci j idx : Nat} {C : String} {T : u_T} {N : Nat} {ty0 : Nat → FieldType} {fs fs' : List Value} {wr : va_W} {v : Value} (hC : CL K D gc cc nL own fr lo kc ns) (hf : FLK own idx ci j C T N) (hp : PLK C T N ty0) (hfin : (T j).2.2.2 = false) (hn : narrow (ty0 j) v = v) (hfit : fits (ty0 j) v = true) (hl0 : j < fs.length) (hfs : fs.set j v = fs') (hd : decode cc pc = .ok (.putfield idx, 3)) (kk : VL K D nL k n ((a, .inr (ci, fs')) :: wr) (pc + 3) lv st) : VL K D nL k n ((a, .inr (ci, fs)) :: wr) pc lv (v :: .ref a :: st) := by
  intro H locs ls hP hD hS hl
  obtain ⟨f1, f2, f3, f4, f5⟩ := hf
  subst hfs
  exact va_put (C := C) (T := T) (N := N) (ref := C) hC.1 hC.2.1 hC.2.2.2.2.1 f2 ty0 hp.1 hp.2 hC.2.2.2.1 hC.2.2.2.2.2.1 hP hD hS 0 rfl f1 j f3 (hC.2.2.2.2.1 _ f5) (fun x h => by rw [f4] at h; exact h) hfin (hp.1 j f3) hn hfit hl0 hd (fun H1 locs1 hP1 hD1 hS1 => kk H1 locs1 ls hP1 hD1 hS1 hl)
theorem VL_putF {a ci j idx : Nat} {C : String} {T : u_T} {N : Nat} {ty0 : Nat → FieldType} {fs fs' : List Value} {wr : va_W} {v : Value} (hC : CL K D gc cc nL own fr lo kc ns) (hnm : (kme K).name = "<init>") (hf : FLK own idx ci j C T N) (hp : PLK C T N ty0) (hfin : (T j).2.2.2 = true) (hown : (T j).1 = own) (hn : narrow (ty0 j) v = v) (hfit : fits (ty0 j) v = true) (hl0 : j < fs.length) (hfs : fs.set j v = fs') (hd : decode cc pc = .ok (.putfield idx, 3)) (kk : VL K D nL k n ((a, .inr (ci, fs')) :: wr) (pc + 3) lv st) : VL K D nL k n ((a, .inr (ci, fs)) :: wr) pc lv (v :: .ref a :: st) := by
  intro H locs ls hP hD hS hl
  obtain ⟨f1, f2, f3, f4, f5⟩ := hf
  subst hfs
  exact va_putF (C := C) (T := T) (N := N) (ref := C) hC.1 hC.2.1 hC.2.2.2.2.1 f2 ty0 hp.1 hp.2 hC.2.2.2.1 hC.2.2.2.2.2.1 hP hD hS 0 rfl f1 j f3 (hC.2.2.2.2.1 _ f5) (fun x h => by rw [f4] at h; exact h) hfin hnm hown (hp.1 j f3) hn hfit hl0 hd (fun H1 locs1 hP1 hD1 hS1 => kk H1 locs1 ls hP1 hD1 hS1 hl)
theorem VL_get {a ci j idx : Nat} {C : String} {T : u_T} {N : Nat} {fs : List Value} {wr : va_W} {v : Value} (hC : CL K D gc cc nL own fr lo kc ns) (hf : FLK own idx ci j C T N) (hv : fs[j]? = some v) (hd : decode cc pc = .ok (.getfield idx, 3)) (kk : VL K D nL k n ((a, .inr (ci, fs)) :: wr) (pc + 3) lv (v :: st)) : VL K D nL k n ((a, .inr (ci, fs)) :: wr) pc lv (.ref a :: st) := by
  intro H locs ls hP hD hS hl
  obtain ⟨f1, f2, f3, f4, f5⟩ := hf
  exact va_get (C := C) (T := T) (N := N) (ref := C) hC.1 hC.2.1 hC.2.2.2.2.1 f2 hC.2.2.2.1 hC.2.2.2.2.2.1 hP 0 rfl f1 j f3 (hC.2.2.2.2.1 _ f5) (fun x h => by rw [f4] at h; exact h) hv hd (kk H locs ls hP hD hS hl)
/-- an int row's element, the row at a place -/
theorem VL_iast {p a w : Nat} {f : Nat → Int32} {i v : Int32} (hC : CL K D gc cc nL own fr lo kc ns) (ha : ws[p]? = some (a, .inl (gc 0, w, .inl f))) (hi : inb i w = true) (hd : decode cc pc = .ok (.iastore, 1)) (kk : VL K D nL k n (ws.set p (a, .inl (gc 0, w, .inl (upd f (ix i) v)))) (pc + 1) lv st) : VL K D nL k n ws pc lv (.int v :: .int i :: .ref a :: st) := by
  intro H locs ls hP hD hS hl
  exact va_iast hC.1 hC.2.1 hC.2.2.2.2.2.1 hP hD hS p 0 ha rfl (inb_vp hi) hd (fun H1 locs1 hP1 hD1 hS1 => kk H1 locs1 ls hP1 hD1 hS1 hl)
theorem VL_vret {h0 : Nat} {S : Type} {post : S → va_W} (qs : S) (hC : CL K D gc cc nL own fr lo kc ns) (hr : (kme K).sig.returnType = none) (hA : kA K = (fun q => q = h0 ∨ (ks K).heap.size ≤ q)) (hQ : kQ K = MQ (kb K) (QI D h0 (ks K).heap.size post) (ka K) (ks K) kc ns (fun q => q = h0 ∨ (ks K).heap.size ≤ q)) (hw : ws = post qs) (hk : k ≤ kc) (hn : n ≤ ns) (hd : decode cc pc = .ok (.return_, 1)) : VL K D nL k n ws pc lv [] := by
  intro H locs ls hP hD hS hl
  subst hw
  rw [hQ]
  rw [hA] at hS hD
  refine W.widen hk hn ?_
  exact W.vret hC.1 hC.2.1 hr (fun t ht _ => ⟨rfl, ⟨qs, by rw [ht]; exact hP, hD⟩, hS.F ht⟩) hS.2.2 hd hC.2.2.2.2.2.2.2.1
/-- behind a constructor's call -/
theorem VL_after {q mc ms : Nat} {e : va_E} {S : Type} {post : S → va_W} {st0 : List Value} {ws1 : va_W} (hC : CL K D gc cc nL own fr lo kc ns) (hr : ∀ (H : Heap) (locs : List Loc) (ls : Array Slot), va_P D vwCl (ws1 ++ [(q, e)]) H → lv_has ls nL lv → va_Run (kp K) (kl K) (ke K) (kR K) (ks K) (km K) (ka K) (kb K) (kme K) (kcd K) H locs k n mc ms (F0 (km K) pc ls st0) st (fun st oc t => QI D q H.size post #[] st oc t) (fun x => x = q ∨ H.size ≤ x))
    (kk : ∀ qs, VL K D nL (k + mc) (n + ms) (ws1 ++ post qs) (pc + 3) lv st) : VL K D nL k n (ws1 ++ [(q, e)]) pc lv st0 := by
  intro H locs ls hP hD hS hl T hT X
  obtain ⟨v, st₀, t, T', Lc, h0, X', hLc, e1, e2, ⟨hv, ⟨qs, hP1, hD1⟩, hz, hk⟩, stp⟩ := hr H locs ls hP hl T hT X
  cases hv
  rw [h0] at hz hk
  have hqA : kA K q := hD.2 ws1.length (q, e) (by rw [List.getElem?_append_right (Nat.le_refl _), Nat.sub_self]; rfl)
  have hin : ∀ x, (x = q ∨ H.size ≤ x) → kA K x := fun x hx => hx.elim (fun h => by rw [h]; exact hqA) (fun h => hC.2.2.2.2.2.2.2.2.1 x (Nat.le_trans hS.1 h))
  have hw1 : ∀ (i : Nat) (x : Nat × va_E), ws1[i]? = some x → (ws1 ++ [(q, e)])[i]? = some x := fun i x hx => by rw [List.getElem?_append_left (List.getElem?_eq_some_iff.mp hx).1]; exact hx
  have hne : ∀ (i : Nat) (x : Nat × va_E), ws1[i]? = some x → x.1 < H.size ∧ x.1 ≠ q := fun i x hx => ⟨(hP i x (hw1 i x hx)).lt, fun e' => by
    have hi := (List.getElem?_eq_some_iff.mp hx).1
    have := hD.1 i ws1.length x (q, e) (hw1 i x hx) (by rw [List.getElem?_append_right (Nat.le_refl _), Nat.sub_self]; rfl) e'
    omega⟩
  have hPn : va_P D vwCl (ws1 ++ post qs) T'.heap := by
    refine va_P.app (fun i x hx => (hP i x (hw1 i x hx)).kept ?_) (by rw [e1]; exact hP1)
    rw [e1]
    exact hk x.1 (hne i x hx).1 (fun hh => hh.elim (hne i x hx).2 (fun h => by have := (hne i x hx).1; omega))
  have hDn : va_D (kA K) (ws1 ++ post qs) := by
    refine va_D.app ⟨fun i j x y hi hj => hD.1 i j x y (hw1 i x hi) (hw1 j y hj), fun i x hi => hD.2 i x (hw1 i x hi)⟩ (hD1.weaken (fun _ x _ hx => hin x.1 hx)) (fun i j x y hi hj exy => ?_)
    rcases hD1.2 j y hj with h | h
    · exact (hne i x hi).2 (exy.trans h)
    · have := (hne i x hi).1
      omega
  obtain ⟨t2, a1, b1⟩ := kk qs T'.heap (locs ++ Lc) ls hPn hDn ⟨Nat.le_trans hS.1 (by rw [e1]; exact hz), fun x h1 h2 => by rw [e1, hk x (Nat.lt_of_lt_of_le h1 hS.1) (fun z => h2 (hin x z))]; exact hS.2.1 x h1 h2, fun x hx => by
      rcases List.mem_append.mp hx with h | h
      · exact hS.2.2 x h
      · exact hin _ (hLc x h)⟩ hl T' rfl X'
  exact ⟨t2, stp t2 a1, b1⟩
theorem INI.blind {h0 ci : Nat} {fs0 As : List Value} {sz : Nat} : FrameBlind (va_Pc As (fun U => (ING D gc U ∧ va_P D vwCl [(h0, .inr (ci, fs0))] U.heap) ∧ U.heap.size = sz)) := fun a U g mk q => ⟨q.1, ⟨⟨va_K.moved (u := U) (U := U.calling g mk a) (Vm.Alike.refl U.vm) q.2.1.1.1, q.2.1.1.2.call⟩, q.2.1.2⟩, q.2.2⟩
theorem VL_init {y : MethodName} {cc' : ByteArray} {nl' fr' lo' na idx q ci mc ms : Nat} {fs0 As st0 : List Value} {S : Type} {post : S → va_W} {ws1 : va_W} (hC : CL K D gc cc nL own fr lo kc ns) (hM : MI (kl K) y cc' nl' fr' lo' D gc q ci fs0 As post mc ms) (hm : ME y cc' nl' none na) (hyn : y.name = "<init>") (him : Cond.instanceMethod y ∈ gt) (hlk : Cond.methodLink own idx y ∈ gt) (hst : st0 = As.reverse ++ .ref q :: st) (hn : As.length = na) (hrest : (st.map fun v => v.category).sum ≤ 8) (hroom : fr' + 1 ≤ fr ∧ 8 + (nl' + 11) + lo' ≤ lo) (hkn : k + mc ≤ kc ∧ n + ms ≤ ns) (hd : decode cc pc = .ok (.invokespecial idx, 3)) (kk : ∀ qs, VL K D nL (k + mc) (n + ms) (ws1 ++ post qs) (pc + 3) lv st) : VL K D nL k n (ws1 ++ [(q, .inr (ci, fs0))]) pc lv st0 := by
  refine VL_after hC (fun H locs ls hP hl => ?_) kk
  have hP1 : va_P D vwCl [(q, .inr (ci, fs0))] H := fun i x hx => hP (ws1.length + i) x (by rw [List.getElem?_append_right (by omega)]; rw [show ws1.length + i - ws1.length = i by omega]; exact hx)
  exact va_runI (Ts := gt) (nL := nL) (b := q) (As := As) ⟨hC.1, hC.2.1, hC.2.2.1, hC.2.2.2.1, hC.2.2.2.2.1⟩ (hM H.size) ⟨callB_of na hC.2.2.2.2.1 (mw_good hm.1) rfl rfl rfl (hC.2.2.2.2.1 _ hm.2.1) (hC.2.2.2.2.1 _ hlk) hm.2.2 ⟨by rw [hC.2.2.2.2.2.2.2.2.2.1]; exact hroom.1, by rw [hC.2.2.2.2.2.2.2.2.2.2.1]; exact hroom.2⟩, hyn, hC.2.2.2.2.1 _ him⟩ ⟨INI.blind, fun U hU hWm => ⟨rfl, ⟨⟨va_K.moved hWm.alike hC.2.2.2.2.2.1, hC.2.2.2.2.2.2.1.at hWm⟩, by rw [hU]; exact hP1⟩, by rw [hU]⟩⟩ rfl hn hl.1 hst (lv_room hrest) hd ⟨by rw [hC.2.2.2.2.2.2.2.2.2.2.2.1]; exact hkn.1, by rw [hC.2.2.2.2.2.2.2.2.2.2.2.2]; exact hkn.2⟩
theorem VL_initN {y : MethodName} {cc' : ByteArray} {nl' fr' lo' na idx q ci mc ms : Nat} {host : String} {fs0 As st0 : List Value} {S : Type} {post : S → va_W} {ws1 : va_W} (hC : CL K D gc cc nL own fr lo kc ns) (hM : MI (kl K) y cc' nl' fr' lo' D gc q ci fs0 As post mc ms) (hm : ME y cc' nl' none na) (hyn : y.name = "<init>") (him : Cond.instanceMethod y ∈ gt) (hlk : va_Nw (.methodLinkNest own idx y host) (ks K)) (hst : st0 = As.reverse ++ .ref q :: st) (hn : As.length = na) (hrest : (st.map fun v => v.category).sum ≤ 8) (hroom : fr' + 1 ≤ fr ∧ 8 + (nl' + 11) + lo' ≤ lo) (hkn : k + mc ≤ kc ∧ n + ms ≤ ns) (hd : decode cc pc = .ok (.invokespecial idx, 3)) (kk : ∀ qs, VL K D nL (k + mc) (n + ms) (ws1 ++ post qs) (pc + 3) lv st) : VL K D nL k n (ws1 ++ [(q, .inr (ci, fs0))]) pc lv st0 := by
  refine VL_after hC (fun H locs ls hP hl => ?_) kk
  have hP1 : va_P D vwCl [(q, .inr (ci, fs0))] H := fun i x hx => hP (ws1.length + i) x (by rw [List.getElem?_append_right (by omega)]; rw [show ws1.length + i - ws1.length = i by omega]; exact hx)
  exact va_runIN (Ts := gt) (nL := nL) (b := q) (As := As) ⟨hC.1, hC.2.1, hC.2.2.1, hC.2.2.2.1, hC.2.2.2.2.1⟩ (hM H.size) ⟨va_cnB na hC.2.2.2.2.1 (mw_good hm.1) rfl rfl rfl hlk (hC.2.2.2.2.1 _ hm.2.1) hm.2.2 ⟨by rw [hC.2.2.2.2.2.2.2.2.2.1]; exact hroom.1, by rw [hC.2.2.2.2.2.2.2.2.2.2.1]; exact hroom.2⟩, hyn, hC.2.2.2.2.1 _ him⟩ ⟨INI.blind, fun U hU hWm => ⟨rfl, ⟨⟨va_K.moved hWm.alike hC.2.2.2.2.2.1, hC.2.2.2.2.2.2.1.at hWm⟩, by rw [hU]; exact hP1⟩, by rw [hU]⟩⟩ rfl hn hl.1 hst (lv_room hrest) hd ⟨by rw [hC.2.2.2.2.2.2.2.2.2.2.2.1]; exact hkn.1, by rw [hC.2.2.2.2.2.2.2.2.2.2.2.2]; exact hkn.2⟩
/-- the row of images: made, filled -/
abbrev imr (gc : Nat → ClassId) (q : Nat) (f : Nat → Option Nat) : Nat × va_E := (q, .inl (gc 3, 2, .inr (.inr (.inr (.inr f)))))
theorem VL_newim {idx : Nat} (hC : CL K D gc cc nL own fr lo kc ns) (hcl : Cond.classLink own idx "ChoiceBook$Situation" ∈ gt) (hk : k + 1 ≤ kc) (hn : n + 2 ≤ ns) (hd : decode cc pc = .ok (.anewarray idx, 3)) (kk : ∀ q, VL K D nL (k + 1) (n + 2) (ws ++ [imr gc q (fun _ => none)]) (pc + 3) lv (.ref q :: st)) : VL K D nL k n ws pc lv (.int 2 :: st) := by
  intro H locs ls hP hD hS hl
  refine va_newq hC.1 hC.2.1 hC.2.2.2.1 (hC.2.2.2.2.1 _ hcl) hC.2.2.2.2.2.2.1.2.2.2 hC.2.2.2.2.2.1 hP hD hS hC.2.2.2.2.2.2.2.2.1 (n := 2) (N' := 2) (by decide) rfl (by decide) (by rw [hC.2.2.2.2.2.2.2.2.2.2.2.1]; exact hk) (by rw [hC.2.2.2.2.2.2.2.2.2.2.2.2]; exact hn) hd (fun q cA H1 hK1 hP1 hD1 hS1 => ?_)
  have hcA : cA = gc 3 := by
    obtain ⟨kA, comp, k1, k2, k3, k4⟩ := (hK1.2 4 (cA, .object "ChoiceBook$Situation") rfl).2
    obtain ⟨kA', comp', k1', k2', k3', k4'⟩ := (hC.2.2.2.2.2.1.2 3 (gc 3, .object "ChoiceBook$Situation") rfl).2
    exact Option.some.inj (k4.symm.trans k4')
  subst hcA
  exact kk q H1 locs ls hP1 hD1 hS1 hl
theorem VL_aast {a v ci : Nat} {f : Nat → Option Nat} {vs : List Value} {r : vw_C} {i : Int32} {W1 W2 : va_W} (hC : CL K D gc cc nL own fr lo kc ns) (hv : (v, .inr (ci, vs)) ∈ W1 ++ imr gc a f :: W2) (hc : vwCl[ci]? = some r) (hr : r.1 = "ChoiceBook$Situation") (hi : inb i 2 = true) (hd : decode cc pc = .ok (.aastore, 1)) (kk : VL K D nL k n (W1 ++ imr gc a (va_up f (ix i) (some v)) :: W2) (pc + 1) lv st) : VL K D nL k n (W1 ++ imr gc a f :: W2) pc lv (.ref v :: .int i :: .ref a :: st) := by
  intro H locs ls hP hD hS hl
  obtain ⟨qk, hqk⟩ := List.getElem?_of_mem hv
  have ha : (W1 ++ imr gc a f :: W2)[W1.length]? = some (imr gc a f) := by rw [List.getElem?_append_right (Nat.le_refl _), Nat.sub_self]; rfl
  refine va_astq hC.1 hC.2.1 hC.2.2.2.2.2.1 hP hD hS W1.length 3 qk ci ha (r := r) (by show some (gc 3, FieldType.object "ChoiceBook$Situation") = _; rw [hr]) hqk hc (inb_vp hi) hd (fun H1 locs1 hP1 hD1 hS1 => ?_)
  have e : (W1 ++ imr gc a f :: W2).set W1.length (imr gc a (va_up f (ix i) (some v))) = W1 ++ imr gc a (va_up f (ix i) (some v)) :: W2 := by
    rw [List.set_append_right _ _ (Nat.le_refl _), Nat.sub_self]
    rfl
  exact kk H1 locs1 ls (by rw [← e]; exact hP1) (by rw [← e]; exact hD1) hS1 hl
theorem VL_newaC {atype : ArrayType} {t w : Nat} {v : Int32} {x : Nat × va_E} {R : va_W} (hC : CL K D gc cc nL own fr lo kc ns) (hac : Cond.arrayClass (newarray.typeOf atype) ∈ gt) (ht : (tysg gc)[t]? = some (gc t, newarray.typeOf atype)) (hp : (atype = .int ∧ t = 0) ∨ (atype = .byte ∧ t = 1) ∨ (atype = .boolean ∧ t = 2)) (hv : ¬ v < 0) (hw : v.toNatClampNeg = w) (hb : w ≤ 100000000) (hk : k + 1 ≤ kc) (hn : n + w ≤ ns) (hd : decode cc pc = .ok (.newarray atype, 2)) (kk : ∀ q, VL K D nL (k + 1) (n + w) (x :: (R ++ [(q, .inl (gc t, w, .inl (fun _ => 0)))])) (pc + 2) lv (.ref q :: st)) : VL K D nL k n (x :: R) pc lv (.int v :: st) := VL_newa hC hac ht hp hv hw hb hk hn hd kk
theorem VL_newC {idx ci : Nat} {C : String} {T : u_T} {N : Nat} {ty : Nat → FieldType} {fs : List Value} {x : Nat × va_E} {R : va_W} (hC : CL K D gc cc nL own fr lo kc ns) (huw : ∀ w ∈ u_ws C T N, w ∈ gt) (hpl : PLK C T N ty) (hci : vwCl[ci]? = some (C, T, N)) (hcl : Cond.classLink own idx C ∈ gt) (hin : Cond.instantiable C N ∈ gt) (hini : Cond.initialized C ∈ gt) (hfs : ∀ j, j < N → defaultValue (ty j) = vp_V fs j) (hk : k + 1 ≤ kc) (hn : n + N ≤ ns) (hd : decode cc pc = .ok (.new idx, 3)) (kk : ∀ q, VL K D nL (k + 1) (n + N) (x :: (R ++ [(q, .inr (ci, fs))])) (pc + 3) lv (.ref q :: st)) : VL K D nL k n (x :: R) pc lv st := VL_new hC huw hpl hci hcl hin hini hfs hk hn hd kk
theorem VL_initC {y : MethodName} {cc' : ByteArray} {nl' fr' lo' na idx q ci mc ms : Nat} {fs0 As st0 : List Value} {S : Type} {post : S → va_W} {x : Nat × va_E} {R : va_W} (hC : CL K D gc cc nL own fr lo kc ns) (hM : MI (kl K) y cc' nl' fr' lo' D gc q ci fs0 As post mc ms) (hm : ME y cc' nl' none na) (hyn : y.name = "<init>") (him : Cond.instanceMethod y ∈ gt) (hlk : Cond.methodLink own idx y ∈ gt) (hst : st0 = As.reverse ++ .ref q :: st) (hn : As.length = na) (hrest : (st.map fun v => v.category).sum ≤ 8) (hroom : fr' + 1 ≤ fr ∧ 8 + (nl' + 11) + lo' ≤ lo) (hkn : k + mc ≤ kc ∧ n + ms ≤ ns) (hd : decode cc pc = .ok (.invokespecial idx, 3)) (kk : ∀ qs, VL K D nL (k + mc) (n + ms) (x :: (R ++ post qs)) (pc + 3) lv st) : VL K D nL k n (x :: (R ++ [(q, .inr (ci, fs0))])) pc lv st0 := VL_init (ws1 := x :: R) hC hM hm hyn him hlk hst hn hrest hroom hkn hd kk
theorem VL_initNC {y : MethodName} {cc' : ByteArray} {nl' fr' lo' na idx q ci mc ms : Nat} {host : String} {fs0 As st0 : List Value} {S : Type} {post : S → va_W} {x : Nat × va_E} {R : va_W} (hC : CL K D gc cc nL own fr lo kc ns) (hM : MI (kl K) y cc' nl' fr' lo' D gc q ci fs0 As post mc ms) (hm : ME y cc' nl' none na) (hyn : y.name = "<init>") (him : Cond.instanceMethod y ∈ gt) (hlk : va_Nw (.methodLinkNest own idx y host) (ks K)) (hst : st0 = As.reverse ++ .ref q :: st) (hn : As.length = na) (hrest : (st.map fun v => v.category).sum ≤ 8) (hroom : fr' + 1 ≤ fr ∧ 8 + (nl' + 11) + lo' ≤ lo) (hkn : k + mc ≤ kc ∧ n + ms ≤ ns) (hd : decode cc pc = .ok (.invokespecial idx, 3)) (kk : ∀ qs, VL K D nL (k + mc) (n + ms) (x :: (R ++ post qs)) (pc + 3) lv st) : VL K D nL k n (x :: (R ++ [(q, .inr (ci, fs0))])) pc lv st0 := VL_initN (ws1 := x :: R) hC hM hm hyn him hlk hst hn hrest hroom hkn hd kk
theorem VL_newimC {idx : Nat} {x : Nat × va_E} {R : va_W} (hC : CL K D gc cc nL own fr lo kc ns) (hcl : Cond.classLink own idx "ChoiceBook$Situation" ∈ gt) (hk : k + 1 ≤ kc) (hn : n + 2 ≤ ns) (hd : decode cc pc = .ok (.anewarray idx, 3)) (kk : ∀ q, VL K D nL (k + 1) (n + 2) (x :: (R ++ [imr gc q (fun _ => none)])) (pc + 3) lv (.ref q :: st)) : VL K D nL k n (x :: R) pc lv (.int 2 :: st) := VL_newim hC hcl hk hn hd kk
end ROWSL
