/-! ===== rows of V that make rows of numbers; contracts that may change the shape ===== -/
def upL (L : Nat → Nat) (a n : Nat) : Nat → Nat := fun b => if b = a then n else L b
def aQ (Y : Yx) (z : Sh) (sz : Nat) : Nat → Prop := fun q => q ∈ adr Y z ∨ sz ≤ q
/-- the end of a method that may change the shape -/
def QA (Y : Yx) (z : Sh) (sz : Nat) (r : Option Value) (L' : Nat → Nat) (d' : Dt) : Array Value → State → Outcome → State → Prop := fun _ st oc t => oc = .returned r ∧ (∃ ad' : Nat → Nat, va_P (yD Y) vwCl (wl Y (L', ad') d') t.heap ∧ (adr Y (L', ad')).Nodup ∧ ∀ q ∈ adr Y (L', ad'), aQ Y z sz q) ∧ va_F (aQ Y z sz) st t
def MA (l : Launch) (y : MethodName) (cc : ByteArray) (nL : Nat) (ret : Option FieldType) (fr lo : Nat) (Y : Yx) (L : Nat → Nat) (As : List Value) (d : Dt) (r : Option Value) (L' : Nat → Nat) (d' : Dt) (kc ns : Nat) : Prop :=
  ∀ (ad : Nat → Nat) (sz : Nat), Met l y (mw y cc nL ret) { frames := fr, cells := kc, slots := ns, locals := lo } (va_Pc As (fun U => IN Y (L, ad) d U ∧ U.heap.size = sz)) (QA Y (L, ad) sz r L' d') kc ns (aQ Y (L, ad) sz)
theorem INs.blind {Y : Yx} {z : Sh} {d : Dt} {As : List Value} {sz : Nat} : FrameBlind (va_Pc As (fun U => IN Y z d U ∧ U.heap.size = sz)) := fun a U g mk q => ⟨q.1, (IN.blind a U g mk ⟨q.1, q.2.1⟩).2, q.2.2⟩
/-- costs -/
def al {α : Type} (a b : Nat) (x : Option (α × Nat × Nat)) : Option (α × Nat × Nat) := x.map (fun q => (q.1, q.2.1 + a, q.2.2 + b))
theorem al_some {α : Type} {a b kc ns : Nat} {x : Option (α × Nat × Nat)} {r : α} (h : al a b x = some (r, kc, ns)) : ∃ kc0 ns0, x = some (r, kc0, ns0) ∧ kc = kc0 + a ∧ ns = ns0 + b := by
  cases x with
  | none => cases h
  | some q =>
    obtain ⟨r0, k0, n0⟩ := q
    have h := Option.some.inj h
    have h1 : r0 = r := congrArg Prod.fst h
    have h2 : k0 + a = kc := congrArg (fun q => q.2.1) h
    have h3 : n0 + b = ns := congrArg (fun q => q.2.2) h
    exact ⟨k0, n0, by rw [h1], h2.symm, h3.symm⟩
theorem lp_indA {X ρ : Type} {f : (X → Option (ρ × Nat × Nat)) → X → Option (ρ × Nat × Nat)} {r : ρ} {P : X → Nat → Nat → Prop} (h : ∀ (k : X → Option (ρ × Nat × Nat)) (x : X), (∀ x' kc ns, k x' = some (r, kc, ns) → P x' kc ns) → ∀ kc ns, f k x = some (r, kc, ns) → P x kc ns) : ∀ (n : Nat) (x : X) (kc ns : Nat), lp f n x = some (r, kc, ns) → P x kc ns := by
  intro n
  induction n with
  | zero => intro x kc ns hx; cases hx
  | succ n ih => intro x kc ns hx; exact h _ x ih kc ns hx
theorem fl_ref {Y : Yx} {L ad : Nat → Nat} {d : Dt} {ci o j q n a : Nat} {f : Nat → Int32} (hk : (fkind ci)[j]? = some 1) (ha : a = 32 * o + j) : fl Y (upL L a n, upL ad a q) (sR d a f) ci o = (fl Y (L, ad) d ci o).set j (.ref q) := by
  subst ha
  apply List.ext_getElem?
  intro i
  have hl : j < (fkind ci).length := (List.getElem?_eq_some_iff.mp hk).1
  by_cases hi : i = j
  · subst hi
    rw [List.getElem?_set_self (by rw [fl_len]; exact hl), fl_get Y _ _ o hk]
    simp [fv, gad, upL]
  · rw [List.getElem?_set_ne (Ne.symm hi)]
    cases h : (fkind ci)[i]? with
    | none => simp [fl, List.getElem?_zipIdx, h]
    | some kd =>
      rw [fl_get Y _ _ o h, fl_get Y _ _ o h]
      match kd with
      | 0 => rfl
      | 1 =>
        have : ¬ 32 * o + i = 32 * o + j := by omega
        simp only [fv, gad, upL, if_neg this]
      | 2 => rfl
      | kd + 3 => rfl
theorem fl_ref' {Y : Yx} {L ad : Nat → Nat} {d : Dt} {ci o o' j q n a : Nat} {f : Nat → Int32} (hj : j < 32) (ho : o' ≠ o) (ha : a = 32 * o + j) : fl Y (upL L a n, upL ad a q) (sR d a f) ci o' = fl Y (L, ad) d ci o' := by
  subst ha
  apply List.ext_getElem?
  intro i
  cases h : (fkind ci)[i]? with
  | none => simp [fl, List.getElem?_zipIdx, h]
  | some kd =>
    have hi := fk_lt h
    rw [fl_get Y _ _ o' h, fl_get Y _ _ o' h]
    match kd with
    | 0 => rfl
    | 1 =>
      have : ¬ 32 * o' + i = 32 * o + j := by omega
      simp only [fv, gad, upL, if_neg this]
    | 2 => rfl
    | kd + 3 => rfl
abbrev nrow (Y : Yx) (q n : Nat) (f : Nat → Int32) : va_W := [(q, .inl (yc Y 0, n, .inl f))]
/-- a field's row becomes a new one -/
theorem wl_new {Y : Yx} {L ad : Nat → Nat} {d : Dt} {o ci j p q n a : Nat} {f : Nat → Int32} {H2 : Heap} (hL : LAY Y) (hp : (yI Y)[p]? = some (0, o, ci)) (hk : (fkind ci)[j]? = some 1) (ht : aty ci j = 0) (ha : a = 32 * o + j)
    (hP : va_P (yD Y) vwCl ((wl Y (L, ad) d ++ nrow Y q n f).set p (yo Y o, .inr (ci, (fl Y (L, ad) d ci o).set j (.ref q)))) H2) : va_P (yD Y) vwCl (wl Y (upL L a n, upL ad a q) (sR d a f)) H2 := by
  have hlen : (wl Y (L, ad) d).length = (yI Y).length := by simp [wl]
  have hpl : p < (yI Y).length := (List.getElem?_eq_some_iff.mp hp).1
  have hho := List.mem_of_getElem? hp
  have hrow : (1, a, 0) ∈ yI Y := by
    have := hL.row hho hk
    rw [ht, ← ha] at this
    exact this
  intro k e he
  rw [wl, List.getElem?_map] at he
  cases hx : (yI Y)[k]? with
  | none => rw [hx] at he; cases he
  | some x =>
    rw [hx] at he
    have he : ent Y (upL L a n, upL ad a q) (sR d a f) x = e := Option.some.inj he
    subst he
    have hkl : k < (yI Y).length := (List.getElem?_eq_some_iff.mp hx).1
    have hxm := List.mem_of_getElem? hx
    by_cases hkp : k = p
    · subst hkp
      have hxe : x = (0, o, ci) := Option.some.inj (hx.symm.trans hp)
      subst hxe
      have h1 := hP k (yo Y o, .inr (ci, (fl Y (L, ad) d ci o).set j (.ref q))) (by rw [List.getElem?_set_self (by rw [List.length_append, hlen]; omega)])
      have h2 : ent Y (upL L a n, upL ad a q) (sR d a f) (0, o, ci) = (yo Y o, .inr (ci, (fl Y (L, ad) d ci o).set j (.ref q))) := by
        show (yo Y o, _) = _
        rw [fl_ref hk ha]
      rw [h2]
      exact h1
    · have hold : ∀ e0, (wl Y (L, ad) d)[k]? = some e0 → va_at (yD Y) vwCl e0 H2 := fun e0 h0 => hP k e0 (by rw [List.getElem?_set_ne (Ne.symm hkp), List.getElem?_append_left (by rw [hlen]; exact hkl)]; exact h0)
      have hw : (wl Y (L, ad) d)[k]? = some (ent Y (L, ad) d x) := by rw [wl, List.getElem?_map, hx]; rfl
      by_cases hr : x.1 = 1 ∧ x.2.1 = a
      · have hxe : x = (1, a, 0) := hL.2.1 x hxm (1, a, 0) hrow hr.1 hr.2
        subst hxe
        have h1 := hP (wl Y (L, ad) d).length (q, .inl (yc Y 0, n, .inl f)) (by rw [List.getElem?_set_ne (by omega), List.getElem?_append_right (Nat.le_refl _), Nat.sub_self]; rfl)
        have h2 : ent Y (upL L a n, upL ad a q) (sR d a f) (1, a, 0) = (q, .inl (yc Y 0, n, .inl f)) := by
          show (gad _ a, _) = _
          simp only [gad, gL, upL, if_pos, gA_sR]
        rw [h2]
        exact h1
      · have h2 : ent Y (upL L a n, upL ad a q) (sR d a f) x = ent Y (L, ad) d x := by
          obtain ⟨t, i, c⟩ := x
          match t with
          | 0 =>
            have hio : i ≠ o := fun e => hkp (by
              subst e
              have := hL.2.1 (0, i, c) hxm (0, i, ci) hho rfl rfl
              rw [this] at hx
              exact (List.getElem?_inj hkl hL.1).mp (hx.trans hp.symm))
            show (yo Y i, Sum.inr (c, _)) = (yo Y i, Sum.inr (c, _))
            rw [fl_ref' (fk_lt hk) hio ha]
          | 1 =>
            have hia : ¬ i = a := fun e => hr ⟨rfl, e⟩
            show (gad _ i, Sum.inl (yc Y c, gL _ i, Sum.inl (gA _ i))) = (gad _ i, Sum.inl (yc Y c, gL _ i, Sum.inl (gA _ i)))
            rw [gA_sR' hia]
            simp only [gad, gL, upL, if_neg hia]
          | t + 2 => rfl
        rw [h2]
        exact hold _ hw
theorem adr_new {Y : Yx} {L ad : Nat → Nat} {a n q sz : Nat} (hL : LAY Y) (hN : (adr Y (L, ad)).Nodup) (hlt : ∀ x ∈ adr Y (L, ad), x < sz) (hq : sz ≤ q) : (adr Y (upL L a n, upL ad a q)).Nodup ∧ ∀ x ∈ adr Y (upL L a n, upL ad a q), x ∈ adr Y (L, ad) ∨ x = q := by
  have key : ∀ x ∈ yI Y, (x.1 = 1 ∧ x.2.1 = a ∧ ad1 Y (upL L a n, upL ad a q) x = q) ∨ (¬ (x.1 = 1 ∧ x.2.1 = a) ∧ ad1 Y (upL L a n, upL ad a q) x = ad1 Y (L, ad) x) := by
    intro x _
    obtain ⟨t, i, c⟩ := x
    match t with
    | 0 => exact Or.inr ⟨fun h => (by cases h.1), rfl⟩
    | 1 =>
      by_cases hi : i = a
      · exact Or.inl ⟨rfl, hi, by simp [ad1, gad, upL, hi]⟩
      · exact Or.inr ⟨fun h => hi h.2, by simp [ad1, gad, upL, hi]⟩
    | t + 2 => exact Or.inr ⟨fun h => (by have := h.1; omega), rfl⟩
  refine ⟨?_, fun x hx => ?_⟩
  · have h1 : (yI Y).Pairwise (fun x y => ad1 Y (L, ad) x ≠ ad1 Y (L, ad) y) := List.pairwise_map.mp hN
    refine List.pairwise_map.mpr (h1.imp_of_mem (fun {x y} hx hy hne => ?_))
    have hxl : ad1 Y (L, ad) x < sz := hlt _ (List.mem_map.mpr ⟨x, hx, rfl⟩)
    have hyl : ad1 Y (L, ad) y < sz := hlt _ (List.mem_map.mpr ⟨y, hy, rfl⟩)
    rcases key x hx with ⟨a1, a2, a3⟩ | ⟨a1, a3⟩ <;> rcases key y hy with ⟨b1, b2, b3⟩ | ⟨b1, b3⟩
    · exact absurd (congrArg (ad1 Y (L, ad)) (hL.2.1 x hx y hy (a1.trans b1.symm) (a2.trans b2.symm))) hne
    · rw [a3, b3]; omega
    · rw [a3, b3]; omega
    · rw [a3, b3]; exact hne
  · obtain ⟨y, hy, rfl⟩ := List.mem_map.mp hx
    rcases key y hy with ⟨_, _, h⟩ | ⟨_, h⟩
    · exact Or.inr h
    · exact Or.inl (by rw [h]; exact List.mem_map.mpr ⟨y, hy, rfl⟩)
theorem adr_lt {Y : Yx} {z : Sh} {d : Dt} {H : Heap} (hP : va_P (yD Y) vwCl (wl Y z d) H) : ∀ x ∈ adr Y z, x < H.size := by
  intro x hx
  rw [← wl_adr Y z d] at hx
  obtain ⟨e, he, rfl⟩ := List.mem_map.mp hx
  obtain ⟨k, hk⟩ := List.getElem?_of_mem he
  exact (hP k e hk).lt
section ROWSA
variable {K : Kx} {Y : Yx} {nL k n : Nat} {L ad : Nat → Nat} {d d1 : Dt} {pc : Nat} {lv : List (Nat × Value)} {st : List Value} {cc : ByteArray} {own : String} {fr lo : Nat}
/-- the class of rows of ints is one -/
theorem ck_cI (hC : CK K Y cc nL own fr lo) {cA : ClassId} (h : (ks K).vm.findClass ("[" ++ (FieldType.int).toString) = some cA) : cA = yc Y 0 := by
  have h2 : (ks K).vm.findClass ("[" ++ (FieldType.int).toString) = some (yc Y 0) := (hC.2.2.2.2.2.1.2 0 (yc Y 0, .int) rfl).2
  exact Option.some.inj (h.symm.trans h2)
/-- a reference is put: the last step of all that follows -/
theorem V_putA {o ci j idx q nn a : Nat} {f : Nat → Int32} {C : String} {T : u_T} {N : Nat} {ty0 : Nat → FieldType} {H : Heap} {locs : List Loc} {ls : Array Slot} (hC : CK K Y cc nL own fr lo) (ho : (0, o, ci) ∈ yI Y) (hk : (fkind ci)[j]? = some 1) (ht : aty ci j = 0) (ha : a = 32 * o + j) (hf : FLK own idx ci j C T N) (hp : PLK C T N ty0) (hfin : (T j).2.2.2 = false) (hty : ty0 j = .array .int)
    (hN : (adr Y (L, ad)).Nodup) (hsub : ∀ x ∈ adr Y (L, ad), kA K x) (hP : va_P (yD Y) vwCl (wl Y (L, ad) d ++ nrow Y q nn f) H) (hq : ∀ x ∈ adr Y (L, ad), x < q) (hqA : kA K q) (hS : va_S (kA K) (ks K).heap H locs) (hl : lv_has ls nL lv) (hd : decode cc pc = .ok (.putfield idx, 3)) (kk : V K Y nL k n (upL L a nn, upL ad a q) (sR d a f) (pc + 3) lv st) :
    W (kp K) (kl K) (ke K) (kR K) (ks K) (km K) (ka K) (kb K) (kme K) (kc K) H locs k n (kQ K) (F0 (km K) pc ls (.ref q :: .ref (yo Y o) :: st)) := by
  obtain ⟨p, hpi, he⟩ := wl_get (L, ad) d ho
  obtain ⟨f1, f2, f3, f4, f5⟩ := hf
  have hD : va_D (kA K) (wl Y (L, ad) d ++ nrow Y q nn f) := by
    refine (wl_D d hN hsub).app ⟨fun i j x y hi hj _ => ?_, fun i x hi => ?_⟩ (fun i j x y hi hj e => ?_)
    · have h1 := (List.getElem?_eq_some_iff.mp hi).1
      have h2 := (List.getElem?_eq_some_iff.mp hj).1
      simp only [List.length_singleton] at h1 h2
      omega
    · have h1 := List.mem_singleton.mp (List.mem_of_getElem? hi)
      rw [h1]
      exact hqA
    · have h1 := List.mem_singleton.mp (List.mem_of_getElem? hj)
      have h2 : x.1 ∈ adr Y (L, ad) := by rw [← wl_adr Y (L, ad) d]; exact List.mem_map.mpr ⟨x, List.mem_of_getElem? hi, rfl⟩
      have h3 := hq _ h2
      rw [e, h1] at h3
      exact absurd h3 (Nat.lt_irrefl _)
  have he2 : (wl Y (L, ad) d ++ nrow Y q nn f)[p]? = some (yo Y o, .inr (ci, fl Y (L, ad) d ci o)) := by
    rw [List.getElem?_append_left (List.getElem?_eq_some_iff.mp he).1]
    exact he
  refine va_put (D := yD Y) (C := C) (T := T) (N := N) (ref := C) hC.1 hC.2.1 hC.2.2.2.2.1 f2 ty0 hp.1 hp.2 hC.2.2.2.1 hC.2.2.2.2.2.1 hP hD hS p he2 f1 j f3 (hC.2.2.2.2.1 _ f5) (fun x h => by rw [f4] at h; exact h) hfin (hp.1 j f3) (by rw [hty]; rfl) (by rw [hty]; rfl) (by rw [fl_len]; exact (List.getElem?_eq_some_iff.mp hk).1) hd (fun H1 locs1 hP1 _ hS1 => ?_)
  have hP2 := wl_new hC.2.2.2.2.2.2.1 hpi hk ht ha hP1
  obtain ⟨g1, g2⟩ := adr_new (n := nn) (a := a) hC.2.2.2.2.2.2.1 hN hq (Nat.le_refl q)
  exact kk H1 locs1 ls ⟨g1, fun x hx => (g2 x hx).elim (hsub x) (fun e => by rw [e]; exact hqA), hP2, hS1⟩ hl
/-- a row of zeros, put into a field -/
theorem V_newput {o ci j idx a : Nat} {v : Int32} {C : String} {T : u_T} {N : Nat} {ty0 : Nat → FieldType} (hC : CK K Y cc nL own fr lo) (ho : (0, o, ci) ∈ yI Y) (hk : (fkind ci)[j]? = some 1) (ht : aty ci j = 0) (ha : a = 32 * o + j) (hf : FLK own idx ci j C T N) (hp : PLK C T N ty0) (hfin : (T j).2.2.2 = false) (hty : ty0 j = .array .int) (hac : Cond.arrayClass .int ∈ gt) (hv : inb v 100000000 = true) (hkn : k + 1 ≤ (kR K).cells ∧ n + ix v ≤ (kR K).slots) (hA : ∀ q, (ks K).heap.size ≤ q → kA K q) (hd : decode cc pc = .ok (.newarray .int, 2)) (hd2 : decode cc (pc + 2) = .ok (.putfield idx, 3))
    (kk : ∀ q, V K Y nL (k + 1) (n + ix v) (upL L a (ix v), upL ad a q) (sR d a (fun _ => 0)) (pc + 5) lv st) : V K Y nL k n (L, ad) d pc lv (.int v :: .ref (yo Y o) :: st) := by
  intro H locs ls hW hl
  obtain ⟨w, hw, rfl⟩ := vp_in_of (inb_vp hv) (by omega)
  have e0 : (nI w).toNatClampNeg = w := nI_clamp (by omega)
  refine va_newaK (atype := .int) hC.1 hC.2.1 (hC.2.2.2.2.1 _ hac) rfl hd rfl (nI_pos (by omega)) rfl (by rw [e0]; show w * 4 ≤ _; omega) hkn.1 hkn.2 rfl (fun H1 cA e1 z1 o1 _ hcl => ?_)
  have hcA := ck_cI hC hcl
  subst hcA
  have hlt := adr_lt hW.2.2.1
  have hP1 : va_P (yD Y) vwCl (wl Y (L, ad) d ++ nrow Y H.size (nI w).toNatClampNeg (fun _ => 0)) H1 := by
    refine (hW.2.2.1.kept (fun i x hx => o1 x.1 (hW.2.2.1 i x hx).lt)).app (fun i x hx => ?_)
    have h1 := List.mem_singleton.mp (List.mem_of_getElem? hx)
    rw [h1]
    show H1[H.size]? = some (vp_cell _ _)
    rw [e1]
    rfl
  have hS := hW.2.2.2
  exact V_putA hC ho hk ht ha hf hp hfin hty hW.1 hW.2.1 hP1 hlt (hA _ hS.1) ⟨Nat.le_trans hS.1 (by omega), fun x h1 h2 => (o1 x (Nat.lt_of_lt_of_le h1 hS.1)).trans (hS.2.1 x h1 h2), hS.2.2⟩ hl hd2 (kk _)
end ROWSA
/-! ===== calls and returns of methods that may change the shape ===== -/
section ROWSB
variable {K : Kx} {Y : Yx} {nL k n : Nat} {L ad : Nat → Nat} {d d1 : Dt} {pc : Nat} {lv : List (Nat × Value)} {st : List Value} {cc : ByteArray} {own : String} {fr lo : Nat}
/-- what is fixed in the walk of such a method: its start's shape and size, its room -/
def CA (K : Kx) (Y : Yx) (z0 : Sh) (kT nT : Nat) (r : Option Value) (L' : Nat → Nat) (d' : Dt) : Prop := kA K = aQ Y z0 (ks K).heap.size ∧ kQ K = MQ (kb K) (QA Y z0 (ks K).heap.size r L' d') (ka K) (ks K) kT nT (aQ Y z0 (ks K).heap.size) ∧ (kR K).cells = kT ∧ (kR K).slots = nT
theorem CA.new {z0 : Sh} {kT nT : Nat} {r : Option Value} {L' : Nat → Nat} {d' : Dt} (h : CA K Y z0 kT nT r L' d') : ∀ q, (ks K).heap.size ≤ q → kA K q := fun q hq => by rw [h.1]; exact Or.inr hq
theorem MA.ofV {l : Launch} {y : MethodName} {ret : Option FieldType} {As : List Value} {r : Option Value} {L' : Nat → Nat} {d' : Dt} {kT nT : Nat} {o0 c0 : Nat} (h0 : (0, o0, c0) ∈ yI Y) (hy : plainName y.cls = true) (hL : LAY Y) (hn : (lg_sl As).length ≤ nL)
    (h : ∀ (K : Kx) (ad : Nat → Nat), kl K = l → CK K Y cc nL y.cls fr lo → (kme K).sig.returnType = ret → CA K Y (L, ad) kT nT r L' d' → V K Y nL 0 0 (L, ad) d 0 (lv_args 0 As) []) :
    MA l y cc nL ret fr lo Y L As d r L' d' kT nT := by
  intro ad sz
  refine Met.ofW (cc := cc) (maxL := nL) (ret := ret) hy rfl ?_
  intro p e s m args below meth c s₁ B hml hv
  obtain ⟨rfl, ⟨hP, hK, hN, hB, hX⟩, hsz⟩ := hv
  subst hsz
  have hts := atoms_spec (ws := mw y cc nL ret) B.pre
  have hown : s.vm.findClass y.cls = some m.cls := findClass_of_methodNamed B.named
  rw [lg_entry_eq]
  have hyB : yB Y ≤ s.heap.size := by
    obtain ⟨p0, hp0, he0⟩ := wl_get (L, ad) d h0
    have h1 := (hP p0 _ he0).lt
    have h2 := hB (yo Y o0) (List.mem_map.mpr ⟨(0, o0, c0), h0, rfl⟩)
    exact Nat.le_of_lt (Nat.lt_of_le_of_lt h2 h1)
  exact h (p, l, e, { frames := fr, cells := kT, slots := nT, locals := lo }, s, m, As.toArray, below, meth, c, aQ Y (L, ad) s.heap.size, MQ below (QA Y (L, ad) s.heap.size r L' d') As.toArray s kT nT (aQ Y (L, ad) s.heap.size)) ad rfl
    ⟨B.exec, B.bytes, hml, hown, fun w hw => hts w (List.mem_cons_of_mem _ hw), hK, hL, hX, B.notSynchronized, fun q hq => hq.elim (hB q) (fun h => Nat.le_trans hyB h), rfl, rfl⟩ B.returns ⟨rfl, rfl, rfl, rfl⟩ s.heap [] _ ⟨hN, fun q hq => Or.inl hq, hP, va_S.rf⟩ (lv_entry As hn)
theorem V_retA {z0 : Sh} {r : Option Value} {H : Heap} {locs : List Loc} (hW : WD K Y (L, ad) d H locs) (hA : kA K = aQ Y z0 (ks K).heap.size) : (∀ t : State, t.heap = H → QA Y z0 (ks K).heap.size r L d (ka K) (ks K) (.returned r) t) ∧ ∀ q ∈ locs, aQ Y z0 (ks K).heap.size q.base := by
  have hS := hW.2.2.2
  have hs := hW.2.1
  rw [hA] at hS hs
  exact ⟨fun t ht => ⟨rfl, ⟨ad, by rw [ht]; exact hW.2.2.1, hW.1, hs⟩, hS.F ht⟩, hS.2.2⟩
theorem V_iretA {v : Int32} {z0 : Sh} {kT nT : Nat} (hC : CK K Y cc nL own fr lo) (hr : (kme K).sig.returnType = some .int) (hA : CA K Y z0 kT nT (some (.int v)) L d) (hk : k = kT) (hn : n = nT) (hd : decode cc pc = .ok (.ireturn, 1)) : V K Y nL k n (L, ad) d pc lv [.int v] := by
  intro H locs ls hW hl
  subst hk; subst hn
  have h := V_retA (r := some (.int v)) hW hA.1
  rw [hA.2.1]
  exact W.iret hC.1 hC.2.1 hr (fun t ht _ => h.1 t ht) h.2 hd hC.2.2.2.2.2.2.2.2.1
theorem V_zretA {v : Int32} {ty : FieldType} {z0 : Sh} {kT nT : Nat} (hC : CK K Y cc nL own fr lo) (hr : (kme K).sig.returnType = some ty) (hnr : narrow ty (.int v) = .int v) (hA : CA K Y z0 kT nT (some (.int v)) L d) (hk : k = kT) (hn : n = nT) (hd : decode cc pc = .ok (.ireturn, 1)) : V K Y nL k n (L, ad) d pc lv [.int v] := by
  intro H locs ls hW hl
  subst hk; subst hn
  have h := V_retA (r := some (.int v)) hW hA.1
  rw [hA.2.1]
  exact W.zret hC.1 hC.2.1 hr hnr (fun t ht _ => h.1 t ht) h.2 hd hC.2.2.2.2.2.2.2.2.1
theorem V_vretA {z0 : Sh} {kT nT : Nat} (hC : CK K Y cc nL own fr lo) (hr : (kme K).sig.returnType = none) (hA : CA K Y z0 kT nT none L d) (hk : k = kT) (hn : n = nT) (hd : decode cc pc = .ok (.return_, 1)) : V K Y nL k n (L, ad) d pc lv [] := by
  intro H locs ls hW hl
  subst hk; subst hn
  have h := V_retA (r := none) hW hA.1
  rw [hA.2.1]
  exact W.vret hC.1 hC.2.1 hr (fun t ht _ => h.1 t ht) h.2 hd hC.2.2.2.2.2.2.2.2.1
theorem V_aretA {a : Nat} {C : String} {z0 : Sh} {kT nT : Nat} (hC : CK K Y cc nL own fr lo) (hr : (kme K).sig.returnType = some (.object C)) (hA : CA K Y z0 kT nT (some (.ref a)) L d) (hk : k = kT) (hn : n = nT) (hd : decode cc pc = .ok (.areturn, 1)) : V K Y nL k n (L, ad) d pc lv [.ref a] := by
  intro H locs ls hW hl
  subst hk; subst hn
  have h := V_retA (r := some (.ref a)) hW hA.1
  rw [hA.2.1]
  exact W.aret hC.1 hC.2.1 hr (Or.inl ⟨C, rfl⟩) (Or.inr ⟨a, rfl⟩) (fun t ht _ => h.1 t ht) h.2 hd hC.2.2.2.2.2.2.2.2.1
/-- behind a call that may change the shape -/
theorem V_invA {y : MethodName} {cc' : ByteArray} {nl' : Nat} {ret' : Option FieldType} {na idx fr' lo' o ci : Nat} {C : String} {T : u_T} {N : Nat} {As rest st0 : List Value} {r1 : Option Value} {L1 : Nat → Nat} {k1 n1 : Nat} (hC : CK K Y cc nL own fr lo) (hA : ∀ q, (ks K).heap.size ≤ q → kA K q) (hM : MA (kl K) y cc' nl' ret' fr' lo' Y L (.ref (yo Y o) :: As) d r1 L1 d1 k1 n1) (hm : MEV C y cc' nl' ret' na) (hlk : Cond.methodLink own idx y ∈ gt) (ho : (0, o, ci) ∈ yI Y) (hci : vwCl[ci]? = some (C, T, N)) (hst : st0 = As.reverse ++ .ref (yo Y o) :: rest) (hn : As.length = na) (hrest : (rest.map fun v => v.category).sum ≤ 8) (hroom : fr' + 1 ≤ fr ∧ 8 + (nl' + 11) + lo' ≤ lo) (hkn : k + k1 ≤ (kR K).cells ∧ n + n1 ≤ (kR K).slots) (hd : decode cc pc = .ok (.invokevirtual idx, 3))
    (kk : ∀ ad1, V K Y nL (k + k1) (n + n1) (L1, ad1) d1 (pc + 3) lv (r1.toList ++ rest)) : V K Y nL k n (L, ad) d pc lv st0 := by
  intro H locs ls hW hl T0 hT X
  obtain ⟨p, hp, he⟩ := wl_get (L, ad) d ho
  have hrv := va_recv hC.2.2.2.2.2.1 hW.2.2.1 hci he
  have hr := va_runV (p := kp K) (l := kl K) (e := ke K) (R := kR K) (below := kb K) (meth := kme K) (locs := locs) (cells := k) (slots := n) (H := H) (Ts := gt) (nL := nL) (g := F0 (km K) pc ls st0) (rest := rest) (As := As) ⟨hC.1, hC.2.1, hC.2.2.1, hC.2.2.2.1, hC.2.2.2.2.1⟩ (hM ad H.size) ⟨ck_callB hC hm.1 hlk hroom, hC.2.2.2.2.1 _ hm.2.1, hC.2.2.2.2.1 _ hm.2.2⟩ ⟨INs.blind, hrv, fun U hU hWm => ⟨rfl, hW.IN hC hU hWm, by rw [hU]⟩⟩ rfl hn hl.1 hst (lv_room hrest) hd hkn
  obtain ⟨v, st₀, t, T', Lc, h0, X', hLc, e1, e2, ⟨hv, ⟨ad1, hP1, hN1, hs1⟩, hz, hk⟩, stp⟩ := hr T0 hT X
  cases hv
  rw [h0] at hz hk
  have hS := hW.2.2.2
  have hin : ∀ q, aQ Y (L, ad) H.size q → kA K q := fun q hq => hq.elim (hW.2.1 q) (fun h => hA q (Nat.le_trans hS.1 h))
  obtain ⟨t2, a1, b1⟩ := kk ad1 T'.heap (locs ++ Lc) ls ⟨hN1, fun q hq => hin q (hs1 q hq), by rw [e1]; exact hP1, Nat.le_trans hS.1 (by rw [e1]; exact hz), fun q h1 h2 => by rw [e1, hk q (Nat.lt_of_lt_of_le h1 hS.1) (fun z => h2 (hin q z))]; exact hS.2.1 q h1 h2, fun q hq => by
      rcases List.mem_append.mp hq with h | h
      · exact hS.2.2 q h
      · exact hin _ (hLc q h)⟩ hl T' rfl X'
  exact ⟨t2, stp t2 a1, b1⟩
theorem V_invAi {y : MethodName} {cc' : ByteArray} {nl' : Nat} {ret' : Option FieldType} {na idx fr' lo' o ci : Nat} {C : String} {T : u_T} {N : Nat} {As rest st0 : List Value} {r1 : Int32} {L1 : Nat → Nat} {k1 n1 : Nat} (hC : CK K Y cc nL own fr lo) (hA : ∀ q, (ks K).heap.size ≤ q → kA K q) (hM : MA (kl K) y cc' nl' ret' fr' lo' Y L (.ref (yo Y o) :: As) d (some (.int r1)) L1 d1 k1 n1) (hm : MEV C y cc' nl' ret' na) (hlk : Cond.methodLink own idx y ∈ gt) (ho : (0, o, ci) ∈ yI Y) (hci : vwCl[ci]? = some (C, T, N)) (hst : st0 = As.reverse ++ .ref (yo Y o) :: rest) (hn : As.length = na) (hrest : (rest.map fun v => v.category).sum ≤ 8) (hroom : fr' + 1 ≤ fr ∧ 8 + (nl' + 11) + lo' ≤ lo) (hkn : k + k1 ≤ (kR K).cells ∧ n + n1 ≤ (kR K).slots) (hd : decode cc pc = .ok (.invokevirtual idx, 3)) (kk : ∀ ad1, V K Y nL (k + k1) (n + n1) (L1, ad1) d1 (pc + 3) lv (.int r1 :: rest)) : V K Y nL k n (L, ad) d pc lv st0 := V_invA hC hA hM hm hlk ho hci hst hn hrest hroom hkn hd kk
theorem V_invAv {y : MethodName} {cc' : ByteArray} {nl' : Nat} {ret' : Option FieldType} {na idx fr' lo' o ci : Nat} {C : String} {T : u_T} {N : Nat} {As rest st0 : List Value} {L1 : Nat → Nat} {k1 n1 : Nat} (hC : CK K Y cc nL own fr lo) (hA : ∀ q, (ks K).heap.size ≤ q → kA K q) (hM : MA (kl K) y cc' nl' ret' fr' lo' Y L (.ref (yo Y o) :: As) d none L1 d1 k1 n1) (hm : MEV C y cc' nl' ret' na) (hlk : Cond.methodLink own idx y ∈ gt) (ho : (0, o, ci) ∈ yI Y) (hci : vwCl[ci]? = some (C, T, N)) (hst : st0 = As.reverse ++ .ref (yo Y o) :: rest) (hn : As.length = na) (hrest : (rest.map fun v => v.category).sum ≤ 8) (hroom : fr' + 1 ≤ fr ∧ 8 + (nl' + 11) + lo' ≤ lo) (hkn : k + k1 ≤ (kR K).cells ∧ n + n1 ≤ (kR K).slots) (hd : decode cc pc = .ok (.invokevirtual idx, 3)) (kk : ∀ ad1, V K Y nL (k + k1) (n + n1) (L1, ad1) d1 (pc + 3) lv rest) : V K Y nL k n (L, ad) d pc lv st0 := V_invA hC hA hM hm hlk ho hci hst hn hrest hroom hkn hd kk
theorem V_invAo {y : MethodName} {cc' : ByteArray} {nl' : Nat} {ret' : Option FieldType} {na idx fr' lo' o ci : Nat} {C : String} {T : u_T} {N : Nat} {As rest st0 : List Value} {r1 : Nat} {L1 : Nat → Nat} {k1 n1 : Nat} (hC : CK K Y cc nL own fr lo) (hA : ∀ q, (ks K).heap.size ≤ q → kA K q) (hM : MA (kl K) y cc' nl' ret' fr' lo' Y L (.ref (yo Y o) :: As) d (some (.ref r1)) L1 d1 k1 n1) (hm : MEV C y cc' nl' ret' na) (hlk : Cond.methodLink own idx y ∈ gt) (ho : (0, o, ci) ∈ yI Y) (hci : vwCl[ci]? = some (C, T, N)) (hst : st0 = As.reverse ++ .ref (yo Y o) :: rest) (hn : As.length = na) (hrest : (rest.map fun v => v.category).sum ≤ 8) (hroom : fr' + 1 ≤ fr ∧ 8 + (nl' + 11) + lo' ≤ lo) (hkn : k + k1 ≤ (kR K).cells ∧ n + n1 ≤ (kR K).slots) (hd : decode cc pc = .ok (.invokevirtual idx, 3)) (kk : ∀ ad1, V K Y nL (k + k1) (n + n1) (L1, ad1) d1 (pc + 3) lv (.ref r1 :: rest)) : V K Y nL k n (L, ad) d pc lv st0 := V_invA hC hA hM hm hlk ho hci hst hn hrest hroom hkn hd kk
/-- a method that makes one row: it stands at the heap's end -/
def QN (Y : Yx) (z : Sh) (d : Dt) (sz nn : Nat) (f : Nat → Int32) : Array Value → State → Outcome → State → Prop := fun _ st oc t => ∃ q, oc = .returned (some (.ref q)) ∧ (sz ≤ q ∧ ∀ x ∈ adr Y z, x < q) ∧ va_P (yD Y) vwCl (wl Y z d ++ nrow Y q nn f) t.heap ∧ va_F (aQ Y z sz) st t
/-- such a call, and the row put into a field -/
theorem V_callput {a o ci j idx nn : Nat} {f : Nat → Int32} {st0 : List Value} {C : String} {T : u_T} {N : Nat} {ty0 : Nat → FieldType} (hC : CK K Y cc nL own fr lo) (hA : ∀ q, (ks K).heap.size ≤ q → kA K q) (ho : (0, o, ci) ∈ yI Y) (hk : (fkind ci)[j]? = some 1) (ht : aty ci j = 0) (ha : a = 32 * o + j) (hf : FLK own idx ci j C T N) (hp : PLK C T N ty0) (hfin : (T j).2.2.2 = false) (hty : ty0 j = .array .int) (hd2 : decode cc (pc + 3) = .ok (.putfield idx, 3))
    (hr : ∀ (H : Heap) (locs : List Loc) (ls : Array Slot), WD K Y (L, ad) d H locs → lv_has ls nL lv → va_Run (kp K) (kl K) (ke K) (kR K) (ks K) (km K) (ka K) (kb K) (kme K) (kc K) H locs k n 1 nn (F0 (km K) pc ls st0) (.ref (yo Y o) :: st) (fun st oc t => QN Y (L, ad) d H.size nn f #[] st oc t) (aQ Y (L, ad) H.size))
    (kk : ∀ q, V K Y nL (k + 1) (n + nn) (upL L a nn, upL ad a q) (sR d a f) (pc + 6) lv st) : V K Y nL k n (L, ad) d pc lv st0 := by
  intro H locs ls hW hl T0 hT X
  obtain ⟨v, st₀, t, T', Lc, h0, X', hLc, e1, e2, ⟨q0, hv, hq0, hc, hz, hq⟩, stp⟩ := hr H locs ls hW hl T0 hT X
  cases hv
  rw [h0] at hz hq
  have hS := hW.2.2.2
  have hin : ∀ q, aQ Y (L, ad) H.size q → kA K q := fun q hq => hq.elim (hW.2.1 q) (fun h => hA q (Nat.le_trans hS.1 h))
  have hP1 : va_P (yD Y) vwCl (wl Y (L, ad) d ++ nrow Y q0 nn f) T'.heap := by rw [e1]; exact hc
  have hw := V_putA (k := k + 1) (n := n + nn) hC ho hk ht ha hf hp hfin hty hW.1 hW.2.1 hP1 hq0.2 (hA _ (Nat.le_trans hS.1 hq0.1)) (locs := locs ++ Lc) ⟨Nat.le_trans hS.1 (by rw [e1]; exact hz), fun x h1 h2 => by rw [e1, hq x (Nat.lt_of_lt_of_le h1 hS.1) (fun z => h2 (hin x z))]; exact hS.2.1 x h1 h2, fun q hq => by
      rcases List.mem_append.mp hq with h | h
      · exact hS.2.2 q h
      · exact hin _ (hLc q h)⟩ hl hd2 (kk _)
  obtain ⟨t2, a1, b1⟩ := hw T' rfl X'
  exact ⟨t2, stp t2 a1, b1⟩
end ROWSB
/-! ===== Arrays.copyOf; the room of a graph's rows; two rows that change places ===== -/
theorem nodup_inj {α β : Type} {l : List α} {f : α → β} (h : (l.map f).Nodup) : ∀ x ∈ l, ∀ y ∈ l, f x = f y → x = y := by
  intro x hx y hy e
  obtain ⟨i, hi⟩ := List.getElem?_of_mem hx
  obtain ⟨j, hj⟩ := List.getElem?_of_mem hy
  have h1 : (l.map f)[i]? = some (f x) := by rw [List.getElem?_map, hi]; rfl
  have h2 : (l.map f)[j]? = some (f y) := by rw [List.getElem?_map, hj]; rfl
  have := (List.getElem?_inj (List.getElem?_eq_some_iff.mp h1).1 h).mp (h1.trans (by rw [e, h2]))
  rw [this] at hi
  exact Option.some.inj (hi.symm.trans hj)
theorem nodup_of_inj {α β : Type} {l : List α} {f : α → β} (hl : l.Nodup) (h : ∀ x ∈ l, ∀ y ∈ l, f x = f y → x = y) : (l.map f).Nodup :=
  List.pairwise_map.mpr (hl.imp_of_mem (fun {x y} hx hy hne e => hne (h x hx y hy e)))
def swI (o b : Nat) : Nat := if b = 32 * o + 11 then 32 * o + 12 else if b = 32 * o + 12 then 32 * o + 11 else b
def swL (o : Nat) (L : Nat → Nat) : Nat → Nat := fun b => L (swI o b)
def swD (o : Nat) (d : Dt) : Dt := (d.1, fun a => d.2 (swI o a))
def swX (o : Nat) (x : Nat × Nat × Nat) : Nat × Nat × Nat := match x.1 with
  | 1 => (1, swI o x.2.1, x.2.2)
  | _ => x
theorem swI_swI (o b : Nat) : swI o (swI o b) = b := by
  unfold swI
  by_cases h1 : b = 32 * o + 11
  · simp [h1]
  · by_cases h2 : b = 32 * o + 12
    · simp [h2]
    · simp [h1, h2]
theorem swX_swX (o : Nat) (x : Nat × Nat × Nat) : swX o (swX o x) = x := by
  obtain ⟨t, i, c⟩ := x
  match t with
  | 0 => rfl
  | 1 => simp [swX, swI_swI]
  | t + 2 => rfl
theorem swX_mem {Y : Yx} (hL : LAY Y) {o : Nat} (ho : (0, o, 3) ∈ yI Y) {x : Nat × Nat × Nat} (hx : x ∈ yI Y) : swX o x ∈ yI Y := by
  have h11 : (1, 32 * o + 11, 0) ∈ yI Y := hL.row (j := 11) ho rfl
  have h12 : (1, 32 * o + 12, 0) ∈ yI Y := hL.row (j := 12) ho rfl
  obtain ⟨t, i, c⟩ := x
  match t with
  | 0 => exact hx
  | 1 =>
    show (1, swI o i, c) ∈ yI Y
    unfold swI
    by_cases h1 : i = 32 * o + 11
    · rw [if_pos h1]
      have := hL.2.1 _ hx _ h11 rfl h1
      have hc : c = 0 := congrArg (fun q => q.2.2) this
      rw [hc]; exact h12
    · rw [if_neg h1]
      by_cases h2 : i = 32 * o + 12
      · rw [if_pos h2]
        have := hL.2.1 _ hx _ h12 rfl h2
        have hc : c = 0 := congrArg (fun q => q.2.2) this
        rw [hc]; exact h11
      · rw [if_neg h2]; exact hx
  | t + 2 => exact hx
theorem ad1_sw {Y : Yx} {L ad : Nat → Nat} {o : Nat} (x : Nat × Nat × Nat) : ad1 Y (swL o L, swL o ad) x = ad1 Y (L, ad) (swX o x) := by
  obtain ⟨t, i, c⟩ := x
  match t with
  | 0 => rfl
  | 1 => rfl
  | t + 2 => rfl
theorem adr_sw {Y : Yx} {L ad : Nat → Nat} {o : Nat} (hL : LAY Y) (ho : (0, o, 3) ∈ yI Y) (hN : (adr Y (L, ad)).Nodup) : (adr Y (swL o L, swL o ad)).Nodup ∧ ∀ q ∈ adr Y (swL o L, swL o ad), q ∈ adr Y (L, ad) := by
  refine ⟨nodup_of_inj hL.1 (fun x hx y hy e => ?_), fun q hq => ?_⟩
  · rw [ad1_sw, ad1_sw] at e
    have := nodup_inj hN _ (swX_mem hL ho hx) _ (swX_mem hL ho hy) e
    have h2 := congrArg (swX o) this
    rw [swX_swX, swX_swX] at h2
    exact h2
  · obtain ⟨x, hx, rfl⟩ := List.mem_map.mp hq
    rw [ad1_sw]
    exact List.mem_map.mpr ⟨_, swX_mem hL ho hx, rfl⟩
theorem fl_sw {Y : Yx} {L ad : Nat → Nat} {d : Dt} {o : Nat} : ((fl Y (L, ad) d 3 o).set 11 (.ref (gad (L, ad) (32 * o + 12)))).set 12 (.ref (gad (L, ad) (32 * o + 11))) = fl Y (swL o L, swL o ad) (swD o d) 3 o := by
  have e : ∀ j : Nat, j ≠ 11 → j ≠ 12 → swI o (32 * o + j) = 32 * o + j := by
    intro j h1 h2
    unfold swI
    rw [if_neg (by omega), if_neg (by omega)]
  have e11 : swI o (32 * o + 11) = 32 * o + 12 := by simp [swI]
  have e12 : swI o (32 * o + 12) = 32 * o + 11 := by simp [swI]
  simp only [fl, fkind, List.zipIdx, List.map, fv, gad, gF, swL, swD, List.set, e11, e12, e 7 (by omega) (by omega), e 8 (by omega) (by omega), e 9 (by omega) (by omega), e 10 (by omega) (by omega), e 15 (by omega) (by omega)]
theorem fl_sw' {Y : Yx} {L ad : Nat → Nat} {d : Dt} {o o' ci : Nat} (ho : o' ≠ o) : fl Y (swL o L, swL o ad) (swD o d) ci o' = fl Y (L, ad) d ci o' := by
  apply List.ext_getElem?
  intro i
  cases h : (fkind ci)[i]? with
  | none => simp [fl, List.getElem?_zipIdx, h]
  | some kd =>
    have hi := fk_lt h
    rw [fl_get Y _ _ o' h, fl_get Y _ _ o' h]
    match kd with
    | 0 => rfl
    | 1 =>
      have : swI o (32 * o' + i) = 32 * o' + i := by
        unfold swI
        rw [if_neg (by omega), if_neg (by omega)]
      simp only [fv, gad, swL, this]
    | 2 => rfl
    | kd + 3 => rfl
theorem wl_sw {Y : Yx} {L ad : Nat → Nat} {d : Dt} {o p : Nat} {H2 : Heap} (hL : LAY Y) (hp : (yI Y)[p]? = some (0, o, 3)) (hP : va_P (yD Y) vwCl ((wl Y (L, ad) d).set p (yo Y o, .inr (3, ((fl Y (L, ad) d 3 o).set 11 (.ref (gad (L, ad) (32 * o + 12)))).set 12 (.ref (gad (L, ad) (32 * o + 11)))))) H2) : va_P (yD Y) vwCl (wl Y (swL o L, swL o ad) (swD o d)) H2 := by
  have hho := List.mem_of_getElem? hp
  intro k e he
  rw [wl, List.getElem?_map] at he
  cases hx : (yI Y)[k]? with
  | none => rw [hx] at he; cases he
  | some x =>
    rw [hx] at he
    have he : ent Y (swL o L, swL o ad) (swD o d) x = e := Option.some.inj he
    subst he
    have hkl : k < (yI Y).length := (List.getElem?_eq_some_iff.mp hx).1
    have hxm := List.mem_of_getElem? hx
    have hget : ∀ y ∈ yI Y, y ≠ (0, o, 3) → va_at (yD Y) vwCl (ent Y (L, ad) d y) H2 := by
      intro y hy hne
      obtain ⟨i, hi⟩ := List.getElem?_of_mem hy
      have hip : i ≠ p := fun e => hne (by rw [e, hp] at hi; exact (Option.some.inj hi).symm)
      exact hP i _ (by rw [List.getElem?_set_ne (Ne.symm hip), wl, List.getElem?_map, hi]; rfl)
    by_cases hx0 : x = (0, o, 3)
    · subst hx0
      have hkp : k = p := (List.getElem?_inj hkl hL.1).mp (hx.trans hp.symm)
      subst hkp
      have h1 := hP k _ (List.getElem?_set_self (by simp [wl]; exact hkl))
      rw [fl_sw] at h1
      exact h1
    · have h2 : ent Y (swL o L, swL o ad) (swD o d) x = ent Y (L, ad) d (swX o x) := by
        obtain ⟨t, i, c⟩ := x
        match t with
        | 0 =>
          have hio : i ≠ o := fun e => hx0 (by
            subst e
            exact hL.2.1 (0, i, c) hxm (0, i, 3) hho rfl rfl)
          show (yo Y i, Sum.inr (c, _)) = (yo Y i, Sum.inr (c, _))
          rw [fl_sw' hio]
          rfl
        | 1 => rfl
        | t + 2 => rfl
      rw [h2]
      refine hget _ (swX_mem hL hho hxm) (fun e => hx0 ?_)
      have := congrArg (swX o) e
      rw [swX_swX] at this
      exact this
section ROWSC
variable {K : Kx} {Y : Yx} {nL k n : Nat} {L ad : Nat → Nat} {d d1 : Dt} {pc : Nat} {lv : List (Nat × Value)} {st : List Value} {cc : ByteArray} {own : String} {fr lo : Nat}
/-- the field keeps its row -/
theorem V_putsame {o ci j idx : Nat} {C : String} {T : u_T} {N : Nat} {ty0 : Nat → FieldType} {z : Sh} (hC : CK K Y cc nL own fr lo) (ho : (0, o, ci) ∈ yI Y) (hk : (fkind ci)[j]? = some 1) (hf : FLK own idx ci j C T N) (hp : PLK C T N ty0) (hfin : (T j).2.2.2 = false) (hty : ty0 j = .array .int) (hd : decode cc pc = .ok (.putfield idx, 3)) (kk : V K Y nL k n z d (pc + 3) lv st) : V K Y nL k n z d pc lv (.ref (gad z (32 * o + j)) :: .ref (yo Y o) :: st) := by
  intro H locs ls hW hl
  obtain ⟨p, hpi, he⟩ := wl_get z d ho
  obtain ⟨f1, f2, f3, f4, f5⟩ := hf
  refine va_put (D := yD Y) (C := C) (T := T) (N := N) (ref := C) hC.1 hC.2.1 hC.2.2.2.2.1 f2 ty0 hp.1 hp.2 hC.2.2.2.1 hC.2.2.2.2.2.1 hW.2.2.1 hW.D hW.2.2.2 p he f1 j f3 (hC.2.2.2.2.1 _ f5) (fun x h => by rw [f4] at h; exact h) hfin (hp.1 j f3) (by rw [hty]; rfl) (by rw [hty]; rfl) (by rw [fl_len]; exact (List.getElem?_eq_some_iff.mp hk).1) hd (fun H1 locs1 hP1 _ hS1 => ?_)
  have e1 : (fl Y z d ci o).set j (.ref (gad z (32 * o + j))) = fl Y z d ci o := by
    apply List.ext_getElem?
    intro i
    have hl := (List.getElem?_eq_some_iff.mp hk).1
    by_cases hi : i = j
    · subst hi
      rw [List.getElem?_set_self (by rw [fl_len]; exact hl), fl_get Y z d o hk]
      rfl
    · rw [List.getElem?_set_ne (Ne.symm hi)]
  have e2 : (wl Y z d).set p (yo Y o, .inr (ci, fl Y z d ci o)) = wl Y z d := by
    apply List.ext_getElem?
    intro i
    by_cases hi : i = p
    · subst hi
      rw [List.getElem?_set_self (List.getElem?_eq_some_iff.mp he).1]
      exact he.symm
    · rw [List.getElem?_set_ne (Ne.symm hi)]
  have hP2 : va_P (yD Y) vwCl (wl Y z d) H1 := by
    rw [← e2, ← e1] 
    rw [e1] at hP1 ⊢
    first | exact hP1 | (rw [e1]; exact hP1)
  exact kk H1 locs1 ls ⟨hW.1, hW.2.1, hP2, hS1⟩ hl
/-- a row of zeros, handed back -/
theorem V_newret {v : Int32} {sz : Nat} (hC : CK K Y cc nL own fr lo) (hr : (kme K).sig.returnType = some (.array .int)) (hac : Cond.arrayClass .int ∈ gt) (hv : inb v 100000000 = true) (hsz : (ks K).heap.size = sz) (hA : kA K = aQ Y (L, ad) sz) (hQ : kQ K = MQ (kb K) (QN Y (L, ad) d sz (ix v) (fun _ => 0)) (ka K) (ks K) 1 (ix v) (aQ Y (L, ad) sz)) (hR : (kR K).cells = 1 ∧ (kR K).slots = ix v) (hd : decode cc pc = .ok (.newarray .int, 2)) (hd2 : decode cc (pc + 2) = .ok (.areturn, 1)) : V K Y nL 0 0 (L, ad) d pc lv [.int v] := by
  intro H locs ls hW hl
  obtain ⟨w, hw, rfl⟩ := vp_in_of (inb_vp hv) (by omega)
  have e0 : (nI w).toNatClampNeg = w := nI_clamp (by omega)
  have e00 : ix (nI w) = w := e0
  refine va_newaK (atype := .int) hC.1 hC.2.1 (hC.2.2.2.2.1 _ hac) rfl hd rfl (nI_pos (by omega)) rfl (by rw [e0]; show w * 4 ≤ _; omega) (by rw [hR.1]; exact Nat.le_refl _) (by rw [hR.2, e00, e0]; omega) rfl (fun H1 cA e1 z1 o1 _ hcl => ?_)
  have hcA := ck_cI hC hcl
  subst hcA
  have hS := hW.2.2.2
  have hlt := adr_lt hW.2.2.1
  have hP1 : va_P (yD Y) vwCl (wl Y (L, ad) d ++ nrow Y H.size (ix (nI w)) (fun _ => 0)) H1 := by
    refine (hW.2.2.1.kept (fun i x hx => o1 x.1 (hW.2.2.1 i x hx).lt)).app (fun i x hx => ?_)
    have h1 := List.mem_singleton.mp (List.mem_of_getElem? hx)
    rw [h1]
    show H1[H.size]? = some (vp_cell _ _)
    rw [e1]
    rfl
  rw [hA] at hS
  have hS2 : va_S (aQ Y (L, ad) sz) (ks K).heap H1 locs := ⟨Nat.le_trans hS.1 (by omega), fun x h1 h2 => (o1 x (Nat.lt_of_lt_of_le h1 hS.1)).trans (hS.2.1 x h1 h2), hS.2.2⟩
  refine W.widen (k := 1) (n := ix (nI w)) (Nat.le_refl _) (by rw [e0, e00]; omega) ?_
  rw [hQ]
  exact W.aret hC.1 hC.2.1 hr (Or.inr ⟨_, rfl⟩) (Or.inr ⟨_, rfl⟩) (fun t ht _ => ⟨H.size, rfl, ⟨by rw [← hsz]; exact hS.1, hlt⟩, by rw [ht]; exact hP1, hS2.F ht⟩) hS2.2.2 hd2 hC.2.2.2.2.2.2.2.2.1
end ROWSC
