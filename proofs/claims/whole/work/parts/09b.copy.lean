/-! ===== Arrays.copyOf, the change of places ===== -/
theorem fk_X4_44 : FLK RX4 44 3 11 RX4 TX4 17 := ⟨rfl, uw_X4, by decide, rfl, gt_t 193 (by decide +kernel) rfl⟩
theorem fk_X4_47 : FLK RX4 47 3 12 RX4 TX4 17 := ⟨rfl, uw_X4, by decide, rfl, gt_t 194 (by decide +kernel) rfl⟩
theorem mm_J7_304 : MML RJ7 304 Lib.Math.min.name Lib.Math.min.code 2 := ⟨gt_t 555 (by decide +kernel) rfl, gt_t 530 (by decide +kernel) rfl, gt_t 13 (by decide +kernel) rfl, gt_t 531 (by decide +kernel) rfl⟩
theorem ac_J7_150 : ACL RJ7 150 := ⟨gt_t 556 (by decide +kernel) rfl, gt_t 438 (by decide +kernel) rfl, gt_t 437 (by decide +kernel) rfl, gt_t 11 (by decide +kernel) rfl⟩
theorem fk_X4_22 : FLK RX4 22 3 4 RX4 TX4 17 := ⟨rfl, uw_X4, by decide, rfl, gt_t 186 (by decide +kernel) rfl⟩
theorem fk_X4_31 : FLK RX4 31 3 7 RX4 TX4 17 := ⟨rfl, uw_X4, by decide, rfl, gt_t 189 (by decide +kernel) rfl⟩
theorem lk_X4_103 : Cond.methodLink RX4 103 yX4_roomForAll ∈ gt := gt_t 678 (by decide +kernel) rfl
theorem me_X4_roomForAll : MEV RX4 yX4_roomForAll cX4_roomForAll 2 (some (.array .int)) 1 := ⟨⟨gt_t 681 (by decide +kernel) rfl, gt_t 5 (by decide +kernel) rfl, by decide +kernel⟩, gt_t 680 (by decide +kernel) rfl, gt_s (q := (yX4_roomForAll, 17)) 22 (by decide +kernel)⟩
theorem me_J7_copyOf_59c91 : MES yJ7_copyOf_59c91 cJ7_copyOf_59c91 3 (some (.array .int)) 2 := ⟨⟨gt_t 547 (by decide +kernel) rfl, gt_t 14 (by decide +kernel) rfl, by decide +kernel⟩, gt_t 546 (by decide +kernel) rfl⟩
theorem ac_int : Cond.arrayClass .int ∈ gt := gt_t 94 (by decide +kernel) rfl
section ROWSD
variable {K : Kx} {Y : Yx} {nL k n : Nat} {L ad : Nat → Nat} {d d1 : Dt} {lv : List (Nat × Value)} {st : List Value} {fr lo : Nat}
/-- runOneTurn: the two rows of odds change places -/
theorem V_swap {o : Nat} {x1 : Int32} (hC : CK K Y cX4_runOneTurn 4 RX4 fr lo) (ho : (0, o, 3) ∈ yI Y) (kk : V K Y 4 k n (swL o L, swL o ad) (swD o d) 69 [(0, .ref (yo Y o)), (1, .int x1)] []) : V K Y 4 k n (L, ad) d 51 [(0, .ref (yo Y o)), (1, .int x1)] [] := by
  intro H locs ls hW hl
  have hx := hC.1
  have hb := hC.2.1
  have hL := hC.2.2.2.2.2.2.1
  obtain ⟨p, hpi, he⟩ := wl_get (L, ad) d ho
  obtain ⟨f1, f2, f3, f4, f5⟩ := fk_X4_44
  obtain ⟨g1, g2, g3, g4, g5⟩ := fk_X4_47
  have hlen : (fl Y (L, ad) d 3 o).length = 17 := fl_len Y (L, ad) d 3 o
  have hpl : p < (wl Y (L, ad) d).length := (List.getElem?_eq_some_iff.mp he).1
  refine lv_aload_n hx hb dX4_runOneTurn_51 rfl (lv_at hl 0 rfl) ?_
  refine va_get (D := yD Y) (C := RX4) (T := TX4) (N := 17) (ref := RX4) hx hb hC.2.2.2.2.1 f2 hC.2.2.2.1 hC.2.2.2.2.2.1 hW.2.2.1 p he f1 11 f3 (hC.2.2.2.2.1 _ f5) (fun _ h => h) (fl_get Y (L, ad) d (ci := 3) (j := 11) (k := 1) o rfl) dX4_runOneTurn_52 ?_
  refine lv_astore_n (x := gad (L, ad) (32 * o + 11)) (lv' := [(2, .ref (gad (L, ad) (32 * o + 11))), (0, .ref (yo Y o)), (1, .int x1)]) hx hb dX4_runOneTurn_55 rfl hl (by decide) rfl (fun ls hl => ?_)
  refine lv_aload_n hx hb dX4_runOneTurn_56 rfl (lv_at hl 1 rfl) ?_
  refine lv_aload_n hx hb dX4_runOneTurn_57 rfl (lv_at hl 1 rfl) ?_
  refine va_get (D := yD Y) (C := RX4) (T := TX4) (N := 17) (ref := RX4) hx hb hC.2.2.2.2.1 g2 hC.2.2.2.1 hC.2.2.2.2.2.1 hW.2.2.1 p he g1 12 g3 (hC.2.2.2.2.1 _ g5) (fun _ h => h) (fl_get Y (L, ad) d (ci := 3) (j := 12) (k := 1) o rfl) dX4_runOneTurn_58 ?_
  refine va_put (D := yD Y) (C := RX4) (T := TX4) (N := 17) (ref := RX4) (v := .ref (gad (L, ad) (32 * o + 12))) hx hb hC.2.2.2.2.1 f2 tyX4 tyX4_ok nmX4 hC.2.2.2.1 hC.2.2.2.2.2.1 hW.2.2.1 hW.D hW.2.2.2 p he f1 11 f3 (hC.2.2.2.2.1 _ f5) (fun _ h => h) rfl (tyX4_ok 11 (by decide)) rfl rfl (by rw [hlen]; decide) dX4_runOneTurn_61 (fun H1 locs1 hP1 hD1 hS1 => ?_)
  refine lv_aload_n hx hb dX4_runOneTurn_64 rfl (lv_at hl 1 rfl) ?_
  refine lv_aload_n hx hb dX4_runOneTurn_65 rfl (lv_at hl 0 rfl) ?_
  refine va_put (D := yD Y) (C := RX4) (T := TX4) (N := 17) (ref := RX4) (v := .ref (gad (L, ad) (32 * o + 11))) hx hb hC.2.2.2.2.1 g2 tyX4 tyX4_ok nmX4 hC.2.2.2.1 hC.2.2.2.2.2.1 hP1 hD1 hS1 p (List.getElem?_set_self hpl) g1 12 g3 (hC.2.2.2.2.1 _ g5) (fun _ h => h) rfl (tyX4_ok 12 (by decide)) rfl rfl (by rw [List.length_set, hlen]; decide) dX4_runOneTurn_66 (fun H2 locs2 hP2 hD2 hS2 => ?_)
  rw [List.set_set] at hP2
  have hP3 := wl_sw hL hpi hP2
  obtain ⟨n1, n2⟩ := adr_sw (L := L) (ad := ad) hL ho hW.1
  exact kk H2 locs2 ls ⟨n1, fun q hq => hW.2.1 q (n2 q hq), hP3, hS2⟩ (lv_sub hl [1, 2] rfl)
end ROWSD
/-- Arrays.copyOf(row, m), m another length than the row's: the row's elements, then zeros -/
theorem c_copyOf {l : Launch} {Y : Yx} {L ad : Nat → Nat} {d : Dt} {a w sz : Nat} (ha : (1, a, 0) ∈ yI Y) (hw : w < 100000000) (hLa : L a < 100000000) (hne : w ≠ L a) :
    Met l yJ7_copyOf_59c91 (mw yJ7_copyOf_59c91 cJ7_copyOf_59c91 3 (some (.array .int))) { frames := 1, cells := 1, slots := w, locals := 60 } (va_Pc [.ref (gad (L, ad) a), .int (nI w)] (fun U => IN Y (L, ad) d U ∧ U.heap.size = sz)) (QN Y (L, ad) d sz w (va_cpy (gA d a) (fun _ => 0) 0 0 (min (L a) w))) 1 w (aQ Y (L, ad) sz) := by
  refine Met.ofW (cc := cJ7_copyOf_59c91) (maxL := 3) (ret := some (.array .int)) (by decide +kernel) rfl ?_
  intro p e s m args below meth c s₁ B hml hv
  obtain ⟨rfl, ⟨hP, hK, hN, hB, hX⟩, rfl⟩ := hv
  have hx := B.exec
  have hb := B.bytes
  have hr := B.returns
  have hlocks := B.notSynchronized
  have hts := atoms_spec (ws := mw yJ7_copyOf_59c91 cJ7_copyOf_59c91 3 (some (.array .int))) B.pre
  have hts : ∀ x ∈ gt, x.before ([Value.ref (gad (L, ad) a), Value.int (nI w)] : List Value).toArray s = true := fun x hw => hts x (List.mem_cons_of_mem _ hw)
  have hown : s.vm.findClass RJ7 = some m.cls := findClass_of_methodNamed B.named
  obtain ⟨p0, hp0, he0⟩ := wl_get (L, ad) d ha
  have e0 : (nI w).toNatClampNeg = w := nI_clamp (by omega)
  have hl := lv_entry ([.ref (gad (L, ad) a), .int (nI w)]) (n := 3) (Nat.le_of_ble_eq_true rfl)
  rw [lg_entry_eq]
  generalize (lg_sl ([.ref (gad (L, ad) a), .int (nI w)]) ++ List.replicate (3 - (lg_sl ([.ref (gad (L, ad) a), .int (nI w)])).length) Slot.unset).toArray = ls at hl ⊢
  have hl : lv_has ls 3 [(0, .ref (gad (L, ad) a)), (1, .int (nI w))] := hl
  refine lv_iload_n hx hb dJ7_copyOf_59c91_0 rfl (lv_at hl 1 rfl) ?_
  refine lv_aload_n hx hb dJ7_copyOf_59c91_1 rfl (lv_at hl 0 rfl) ?_
  refine va_alen (v := nI (L a)) hx hb hK hP p0 0 he0 rfl rfl dJ7_copyOf_59c91_2 ?_
  refine lv_icmp_ne (tgt := 14) hx hb dJ7_copyOf_59c91_3 (by decide) (fun _ => ?_) (fun c => absurd ((nI_eq (by omega) (by omega)).mp c) hne)
  refine lv_iload_n hx hb dJ7_copyOf_59c91_14 rfl (lv_at hl 1 rfl) ?_
  refine va_newaK (atype := .int) hx hb (hts _ ac_int) rfl dJ7_copyOf_59c91_15 rfl (nI_pos (by omega)) rfl (by rw [e0]; show w * 4 ≤ _; omega) (Nat.le_refl 1) (by rw [e0]; show 0 + w ≤ w; omega) rfl (fun H1 cA e1 z1 o1 _ hcl => ?_)
  have hcA : cA = yc Y 0 := by
    have h2 : s.vm.findClass ("[" ++ (FieldType.int).toString) = some (yc Y 0) := (hK.2 0 (yc Y 0, .int) rfl).2
    exact Option.some.inj (hcl.symm.trans h2)
  subst hcA
  rw [e0] at e1
  refine W.widen (k := 1) (n := w) (Nat.le_refl _) (by rw [e0]; omega) ?_
  have hP1 : va_P (yD Y) vwCl (wl Y (L, ad) d ++ nrow Y s.heap.size w (fun _ => 0)) H1 := by
    refine (hP.kept (fun i x hx => o1 x.1 (hP i x hx).lt)).app (fun i x hx => ?_)
    have h1 := List.mem_singleton.mp (List.mem_of_getElem? hx)
    rw [h1]
    show H1[s.heap.size]? = some (vp_cell _ _)
    rw [e1]
    rfl
  have hlt := adr_lt hP
  have hD1 : va_D (aQ Y (L, ad) s.heap.size) (wl Y (L, ad) d ++ nrow Y s.heap.size w (fun _ => 0)) := by
    refine (wl_D d hN (fun q hq => Or.inl hq)).app ⟨fun i j x y hi hj _ => ?_, fun i x hi => ?_⟩ (fun i j x y hi hj e => ?_)
    · have h1 := (List.getElem?_eq_some_iff.mp hi).1
      have h2 := (List.getElem?_eq_some_iff.mp hj).1
      simp only [List.length_singleton] at h1 h2
      omega
    · have h1 := List.mem_singleton.mp (List.mem_of_getElem? hi)
      rw [h1]
      exact Or.inr (Nat.le_refl _)
    · have h1 := List.mem_singleton.mp (List.mem_of_getElem? hj)
      have h2 := (hP i x hi).lt
      rw [e, h1] at h2
      exact absurd h2 (Nat.lt_irrefl _)
  have hlen : (wl Y (L, ad) d).length = (yI Y).length := by simp [wl]
  have he1 : (wl Y (L, ad) d ++ nrow Y s.heap.size w (fun _ => 0))[p0]? = some (gad (L, ad) a, .inl (yc Y 0, L a, .inl (gA d a))) := by
    rw [List.getElem?_append_left (List.getElem?_eq_some_iff.mp he0).1]
    exact he0
  have he2 : (wl Y (L, ad) d ++ nrow Y s.heap.size w (fun _ => 0))[(wl Y (L, ad) d).length]? = some (s.heap.size, .inl (yc Y 0, w, .inl (fun _ => 0))) := by
    rw [List.getElem?_append_right (Nat.le_refl _), Nat.sub_self]
    rfl
  refine lv_astore_n (x := s.heap.size) (lv' := [(2, .ref s.heap.size), (0, .ref (gad (L, ad) a)), (1, .int (nI w))]) hx hb dJ7_copyOf_59c91_17 rfl hl (by decide) rfl (fun ls hl => ?_)
  refine lv_aload_n hx hb dJ7_copyOf_59c91_18 rfl (lv_at hl 1 rfl) ?_
  refine lv_iconst (v := 0) hx hb dJ7_copyOf_59c91_19 rfl ?_
  refine lv_aload_n hx hb dJ7_copyOf_59c91_20 rfl (lv_at hl 0 rfl) ?_
  refine lv_iconst (v := 0) hx hb dJ7_copyOf_59c91_21 rfl ?_
  refine lv_aload_n hx hb dJ7_copyOf_59c91_22 rfl (lv_at hl 1 rfl) ?_
  refine va_alen (v := nI (L a)) hx hb hK hP1 p0 0 he1 rfl rfl dJ7_copyOf_59c91_23 ?_
  refine lv_iload_n hx hb dJ7_copyOf_59c91_24 rfl (lv_at hl 2 rfl) ?_
  refine va_mmin hx hb (hml.trans hl.1.symm) hown (hts _ mm_J7_304.1) (hts _ mm_J7_304.2.1) (hts _ mm_J7_304.2.2.1) (hts _ mm_J7_304.2.2.2) (Nat.le_refl 1) (Nat.le_of_ble_eq_true rfl) (Nat.le_refl 1) (Nat.le_refl w) dJ7_copyOf_59c91_25 ?_
  have emin : (if nI w < nI (L a) then nI w else nI (L a)) = nI (min (L a) w) := by
    by_cases h : w < L a
    · rw [if_pos (nI_lt h (by omega)), Nat.min_eq_right (by omega)]
    · rw [if_neg (nI_nlt (by omega) (by omega)), Nat.min_eq_left (by omega)]
  rw [emin]
  have em : (nI (min (L a) w)).toNatClampNeg = min (L a) w := nI_clamp (by omega)
  have z0 : (0 : Int32).toNatClampNeg = 0 := rfl
  have hneg : ¬ (0 : Int32) < 0 := by decide
  have hS1 : va_S (aQ Y (L, ad) s.heap.size) s.heap H1 [] := ⟨by omega, fun q h1 _ => o1 q h1, fun _ h => by cases h⟩
  refine va_copyi (ls := ls) hx hb (hml.trans hl.1.symm) hown (hts _ ac_J7_150.1) (hts _ ac_J7_150.2.1) (hts _ ac_J7_150.2.2.1) (hts _ ac_J7_150.2.2.2) hK hP1 hD1 hS1 p0 (wl Y (L, ad) d).length 0 0 he1 he2 rfl rfl rfl hneg hneg (nI_pos (by omega)) (by rw [em, z0]; omega) (by rw [em, z0]; omega) (fun _ _ => rfl) (Nat.le_refl 1) (by show 0 + _ ≤ 60; decide) dJ7_copyOf_59c91_28 (fun H2 locs2 hP2 _ hS2 => ?_)
  rw [em, z0] at hP2
  refine lv_aload_n hx hb dJ7_copyOf_59c91_31 rfl (lv_at hl 0 rfl) ?_
  have hP3 : va_P (yD Y) vwCl (wl Y (L, ad) d ++ nrow Y s.heap.size w (va_cpy (gA d a) (fun _ => 0) 0 0 (min (L a) w))) H2 := by
    have e3 : (wl Y (L, ad) d ++ nrow Y s.heap.size w (fun _ => 0)).set (wl Y (L, ad) d).length (s.heap.size, .inl (yc Y 0, w, .inl (va_cpy (gA d a) (fun _ => 0) 0 0 (min (L a) w)))) = wl Y (L, ad) d ++ nrow Y s.heap.size w (va_cpy (gA d a) (fun _ => 0) 0 0 (min (L a) w)) := by
      rw [List.set_append_right _ _ (Nat.le_refl _), Nat.sub_self]
      rfl
    rw [← e3]
    exact hP2
  exact W.aret hx hb hr (Or.inr ⟨_, rfl⟩) (Or.inr ⟨_, rfl⟩) (fun t ht _ => ⟨_, rfl, ⟨Nat.le_refl _, hlt⟩, by rw [ht]; exact hP3, hS2.F ht⟩) hS2.2.2 dJ7_copyOf_59c91_32
section ROWSE
variable {K : Kx} {Y : Yx} {nL k n : Nat} {L ad : Nat → Nat} {d d1 : Dt} {pc : Nat} {lv : List (Nat × Value)} {st : List Value} {cc : ByteArray} {own : String} {fr lo : Nat}
theorem V_copyput {a o ci j idx idx2 : Nat} {m : Int32} {C : String} {T : u_T} {N : Nat} {ty0 : Nat → FieldType} (hC : CK K Y cc nL own fr lo) (hA : ∀ q, (ks K).heap.size ≤ q → kA K q) (hlk : Cond.methodLink own idx2 yJ7_copyOf_59c91 ∈ gt) (hme : MES yJ7_copyOf_59c91 cJ7_copyOf_59c91 3 (some (.array .int)) 2) (ho : (0, o, ci) ∈ yI Y) (hk : (fkind ci)[j]? = some 1) (ht : aty ci j = 0) (ha : a = 32 * o + j) (hf : FLK own idx ci j C T N) (hp : PLK C T N ty0) (hfin : (T j).2.2.2 = false) (hty : ty0 j = .array .int)
    (hm : inb m 100000000 = true) (hLa : decide (L a < 100000000) = true) (hne : (!decide (ix m = L a)) = true) (hroom : 2 ≤ fr ∧ 82 ≤ lo) (hrest : ((.ref (yo Y o) :: st : List Value).map fun v => v.category).sum ≤ 8) (hkn : k + 1 ≤ (kR K).cells ∧ n + ix m ≤ (kR K).slots) (hd : decode cc pc = .ok (.invokestatic idx2, 3)) (hd2 : decode cc (pc + 3) = .ok (.putfield idx, 3))
    (kk : ∀ q, V K Y nL (k + 1) (n + ix m) (upL L a (ix m), upL ad a q) (sR d a (va_cpy (gA d a) (fun _ => 0) 0 0 (min (L a) (ix m)))) (pc + 6) lv st) : V K Y nL k n (L, ad) d pc lv (.int m :: .ref (gad (L, ad) a) :: .ref (yo Y o) :: st) := by
  obtain ⟨w, hw, rfl⟩ := vp_in_of (inb_vp hm) (by omega)
  have e0 : ix (nI w) = w := nI_clamp (by omega)
  rw [e0] at hne hkn kk
  have hrow : (1, a, 0) ∈ yI Y := by
    have := hC.2.2.2.2.2.2.1.row ho hk
    rw [ht, ← ha] at this
    exact this
  have hLa : L a < 100000000 := by simpa using hLa
  have hne : w ≠ L a := by simpa using hne
  refine V_callput hC hA ho hk ht ha hf hp hfin hty hd2 (fun H locs ls hW hl => ?_) kk
  exact va_runS (Ts := gt) (nL := nL) (As := [.ref (gad (L, ad) a), .int (nI w)]) ⟨hC.1, hC.2.1, hC.2.2.1, hC.2.2.2.1, hC.2.2.2.2.1⟩ (c_copyOf (sz := H.size) hrow hw hLa hne) ⟨ck_callB hC hme.1 hlk ⟨hroom.1, hroom.2⟩, hC.2.2.2.2.1 _ hme.2⟩ ⟨INs.blind, fun U hU hWm => ⟨rfl, hW.IN hC hU hWm, by rw [hU]⟩⟩ rfl rfl hl.1 rfl (lv_room hrest) hd hkn
end ROWSE
/-- a row that is long enough stays; else a new one, as long as the states' -/
theorem c_roomSame {l : Launch} {Y : Yx} (hL : LAY Y) {z : Sh} {d : Dt} {o a : Nat} (ho : (0, o, 3) ∈ yI Y) (ha : (1, a, 0) ∈ yI Y) (h : ¬ nI (gL z a) < gF d o 4) : MM l yX4_roomForAll cX4_roomForAll 2 (some (.array .int)) 0 0 Y z [.ref (yo Y o), .ref (gad z a)] d (some (.ref (gad z a))) d := by
  refine MM.ofV (by decide +kernel) hL (Nat.le_of_ble_eq_true rfl) (fun K hl hC hr hQ hA => ?_)
  have hC : CK K Y cX4_roomForAll 2 RX4 0 0 := hC
  show V K Y 2 0 0 z d 0 [(0, .ref (yo Y o)), (1, .ref (gad z a))] []
  refine V_aload_n 1 hC dX4_roomForAll_0 rfl rfl ?_
  refine V_alen hC ha (by decide) dX4_roomForAll_1 ?_
  refine V_aload_n 0 hC dX4_roomForAll_2 rfl rfl ?_
  refine V_geti (o := o) hC ho rfl fk_X4_22 dX4_roomForAll_3 ?_
  refine V_icmp_lt (tgt := 13) hC dX4_roomForAll_6 (by decide) (fun c => absurd c h) (fun c => ?_)
  refine V_aload_n 1 hC dX4_roomForAll_9 rfl rfl ?_
  refine V_goto (tgt := 20) hC dX4_roomForAll_10 (by decide) ?_
  intro H locs ls hW hl
  rw [hQ]
  have hS := hW.2.2.2
  rw [hA] at hS
  exact W.aret hC.1 hC.2.1 hr (Or.inr ⟨_, rfl⟩) (Or.inr ⟨_, rfl⟩) (fun t ht _ => ⟨rfl, by rw [ht]; exact hW.2.2.1, hS.F ht⟩) hS.2.2 dX4_roomForAll_20 hC.2.2.2.2.2.2.2.2.1
theorem c_roomNew {l : Launch} {Y : Yx} (hL : LAY Y) {L ad : Nat → Nat} {d : Dt} {o a sz : Nat} (ho : (0, o, 3) ∈ yI Y) (ha : (1, a, 0) ∈ yI Y) (h : nI (L a) < gF d o 4) (hw : L (32 * o + 7) < 100000000) :
    Met l yX4_roomForAll (mw yX4_roomForAll cX4_roomForAll 2 (some (.array .int))) { frames := 0, cells := 1, slots := L (32 * o + 7), locals := 0 } (va_Pc [.ref (yo Y o), .ref (gad (L, ad) a)] (fun U => IN Y (L, ad) d U ∧ U.heap.size = sz)) (QN Y (L, ad) d sz (L (32 * o + 7)) (fun _ => 0)) 1 (L (32 * o + 7)) (aQ Y (L, ad) sz) := by
  refine Met.ofW (cc := cX4_roomForAll) (maxL := 2) (ret := some (.array .int)) (by decide +kernel) rfl ?_
  intro p e s m args below meth c s₁ B hml hv
  obtain ⟨rfl, ⟨hP, hK, hN, hB, hX⟩, rfl⟩ := hv
  have hts := atoms_spec (ws := mw yX4_roomForAll cX4_roomForAll 2 (some (.array .int))) B.pre
  have hown : s.vm.findClass RX4 = some m.cls := findClass_of_methodNamed B.named
  have hyB : yB Y ≤ s.heap.size := by
    obtain ⟨p0, hp0, he0⟩ := wl_get (L, ad) d ho
    have h1 := (hP p0 _ he0).lt
    have h2 := hB (yo Y o) (List.mem_map.mpr ⟨(0, o, 3), ho, rfl⟩)
    exact Nat.le_of_lt (Nat.lt_of_le_of_lt h2 h1)
  rw [lg_entry_eq]
  have e7 : ix (nI (L (32 * o + 7))) = L (32 * o + 7) := nI_clamp (by omega)
  have key : ∀ K : Kx, CK K Y cX4_roomForAll 2 RX4 0 0 → (kme K).sig.returnType = some (.array .int) → (ks K).heap.size = s.heap.size → kA K = aQ Y (L, ad) s.heap.size → kQ K = MQ (kb K) (QN Y (L, ad) d s.heap.size (L (32 * o + 7)) (fun _ => 0)) (ka K) (ks K) 1 (L (32 * o + 7)) (aQ Y (L, ad) s.heap.size) → ((kR K).cells = 1 ∧ (kR K).slots = L (32 * o + 7)) → V K Y 2 0 0 (L, ad) d 0 [(0, .ref (yo Y o)), (1, .ref (gad (L, ad) a))] [] := by
    intro K hC hr hsz hA hQ hR
    refine V_aload_n 1 hC dX4_roomForAll_0 rfl rfl ?_
    refine V_alen hC ha (by decide) dX4_roomForAll_1 ?_
    refine V_aload_n 0 hC dX4_roomForAll_2 rfl rfl ?_
    refine V_geti (o := o) hC ho rfl fk_X4_22 dX4_roomForAll_3 ?_
    refine V_icmp_lt (tgt := 13) hC dX4_roomForAll_6 (by decide) (fun c => ?_) (fun c => absurd h c)
    refine V_aload_n 0 hC dX4_roomForAll_13 rfl rfl ?_
    refine V_geta (o := o) hC ho rfl fk_X4_31 dX4_roomForAll_14 ?_
    refine V_alen hC (hL.row (j := 7) ho rfl) (by decide) dX4_roomForAll_17 ?_
    have hin : inb (nI (L (32 * o + 7))) 100000000 = true := by
      have : (nI (L (32 * o + 7))).toInt = (L (32 * o + 7) : Int) := nI_toInt (by omega)
      simp [inb, this]
      omega
    exact V_newret hC hr ac_int hin hsz hA (by show _ = MQ _ (QN Y (L, ad) d _ (ix (nI (L (32 * o + 7)))) _) _ _ 1 (ix (nI (L (32 * o + 7)))) _; rw [e7]; exact hQ) ⟨hR.1, by show _ = ix (nI (L (32 * o + 7))); rw [e7]; exact hR.2⟩ dX4_roomForAll_18 dX4_roomForAll_20
  exact key (p, l, e, { frames := 0, cells := 1, slots := L (32 * o + 7), locals := 0 }, s, m, ([Value.ref (yo Y o), Value.ref (gad (L, ad) a)] : List Value).toArray, below, meth, c, aQ Y (L, ad) s.heap.size, MQ below (QN Y (L, ad) d s.heap.size (L (32 * o + 7)) (fun _ => 0)) ([Value.ref (yo Y o), Value.ref (gad (L, ad) a)] : List Value).toArray s 1 (L (32 * o + 7)) (aQ Y (L, ad) s.heap.size))
    ⟨B.exec, B.bytes, hml, hown, fun w hw => hts w (List.mem_cons_of_mem _ hw), hK, hL, hX, B.notSynchronized, fun q hq => hq.elim (hB q) (fun h => Nat.le_trans hyB h), rfl, rfl⟩ B.returns rfl rfl rfl ⟨rfl, rfl⟩ s.heap [] _ ⟨hN, fun q hq => Or.inl hq, hP, va_S.rf⟩ (lv_entry _ (Nat.le_of_ble_eq_true rfl))
section ROWSF
variable {K : Kx} {Y : Yx} {nL k n : Nat} {L ad : Nat → Nat} {d d1 : Dt} {pc : Nat} {lv : List (Nat × Value)} {st : List Value} {cc : ByteArray} {fr lo : Nat}
theorem V_roomSame {a o j idx : Nat} (hC : CK K Y cc nL RX4 fr lo) (ho : (0, o, 3) ∈ yI Y) (hk : (fkind 3)[j]? = some 1) (ht : aty 3 j = 0) (ha : a = 32 * o + j) (hf : FLK RX4 idx 3 j RX4 TX4 17) (hfin : (TX4 j).2.2.2 = false) (hty : tyX4 j = .array .int) (h : ¬ nI (L a) < gF d o 4) (hroom : 1 ≤ fr ∧ 21 ≤ lo) (hrest : ((.ref (yo Y o) :: st : List Value).map fun v => v.category).sum ≤ 8) (hkn : k ≤ (kR K).cells ∧ n ≤ (kR K).slots) (hd : decode cc pc = .ok (.invokevirtual 103, 3)) (hd2 : decode cc (pc + 3) = .ok (.putfield idx, 3))
    (kk : V K Y nL k n (L, ad) d (pc + 6) lv st) : V K Y nL k n (L, ad) d pc lv (.ref (gad (L, ad) a) :: .ref (yo Y o) :: .ref (yo Y o) :: st) := by
  have hrow : (1, a, 0) ∈ yI Y := by
    have := hC.2.2.2.2.2.2.1.row ho hk
    rw [ht, ← ha] at this
    exact this
  refine V_inv (o := o) (ci := 3) (As := [.ref (gad (L, ad) a)]) (rest := .ref (yo Y o) :: st) hC (c_roomSame hC.2.2.2.2.2.2.1 ho hrow h) me_X4_roomForAll lk_X4_103 ho rfl rfl rfl hrest ⟨hroom.1, hroom.2⟩ hkn hd ?_
  subst ha
  exact V_putsame hC ho hk hf pl_X4 hfin hty hd2 kk
theorem V_roomNew {a o j idx : Nat} (hC : CK K Y cc nL RX4 fr lo) (hA : ∀ q, (ks K).heap.size ≤ q → kA K q) (ho : (0, o, 3) ∈ yI Y) (hk : (fkind 3)[j]? = some 1) (ht : aty 3 j = 0) (ha : a = 32 * o + j) (hf : FLK RX4 idx 3 j RX4 TX4 17) (hfin : (TX4 j).2.2.2 = false) (hty : tyX4 j = .array .int) (h : nI (L a) < gF d o 4) (hw : decide (L (32 * o + 7) < 100000000) = true) (hroom : 1 ≤ fr ∧ 21 ≤ lo) (hrest : ((.ref (yo Y o) :: st : List Value).map fun v => v.category).sum ≤ 8) (hkn : k + 1 ≤ (kR K).cells ∧ n + L (32 * o + 7) ≤ (kR K).slots) (hd : decode cc pc = .ok (.invokevirtual 103, 3)) (hd2 : decode cc (pc + 3) = .ok (.putfield idx, 3))
    (kk : ∀ q, V K Y nL (k + 1) (n + L (32 * o + 7)) (upL L a (L (32 * o + 7)), upL ad a q) (sR d a (fun _ => 0)) (pc + 6) lv st) : V K Y nL k n (L, ad) d pc lv (.ref (gad (L, ad) a) :: .ref (yo Y o) :: .ref (yo Y o) :: st) := by
  have hrow : (1, a, 0) ∈ yI Y := by
    have := hC.2.2.2.2.2.2.1.row ho hk
    rw [ht, ← ha] at this
    exact this
  refine V_callput hC hA ho hk ht ha hf pl_X4 hfin hty hd2 (fun H locs ls hW hl => ?_) kk
  obtain ⟨p, hp, he⟩ := wl_get (L, ad) d ho
  have hrv := va_recv (q := (RX4, TX4, 17)) hC.2.2.2.2.2.1 hW.2.2.1 rfl he
  exact va_runV (Ts := gt) (nL := nL) (As := [.ref (gad (L, ad) a)]) ⟨hC.1, hC.2.1, hC.2.2.1, hC.2.2.2.1, hC.2.2.2.2.1⟩ (c_roomNew (sz := H.size) hC.2.2.2.2.2.2.1 ho hrow h (by simpa using hw)) ⟨ck_callB hC me_X4_roomForAll.1 lk_X4_103 ⟨hroom.1, hroom.2⟩, hC.2.2.2.2.1 _ me_X4_roomForAll.2.1, hC.2.2.2.2.1 _ me_X4_roomForAll.2.2⟩ ⟨INs.blind, hrv, fun U hU hWm => ⟨rfl, hW.IN hC hU hWm, by rw [hU]⟩⟩ rfl rfl hl.1 rfl (lv_room hrest) hd hkn
end ROWSF
theorem so_injA {a b : Int32} {L L' : Nat → Nat} {d d' : Dt} {k k' n n' : Nat} (h : some ((a, L, d), k, n) = some ((b, L', d'), k', n')) : b = a ∧ L' = L ∧ d' = d ∧ k' = k ∧ n' = n := by
  have h := Option.some.inj h
  exact ⟨(congrArg (fun q => q.1.1) h).symm, (congrArg (fun q => q.1.2.1) h).symm, (congrArg (fun q => q.1.2.2) h).symm, (congrArg (fun q => q.2.1) h).symm, (congrArg (fun q => q.2.2) h).symm⟩
theorem so_injAv {L L' : Nat → Nat} {d d' : Dt} {k k' n n' : Nat} (h : some ((L, d), k, n) = some ((L', d'), k', n')) : L' = L ∧ d' = d ∧ k' = k ∧ n' = n := by
  have h := Option.some.inj h
  exact ⟨(congrArg (fun q => q.1.1) h).symm, (congrArg (fun q => q.1.2) h).symm, (congrArg (fun q => q.2.1) h).symm, (congrArg (fun q => q.2.2) h).symm⟩
section ROWSG
variable {K : Kx} {Y : Yx} {nL k n : Nat} {L ad : Nat → Nat} {d d1 : Dt} {pc : Nat} {lv : List (Nat × Value)} {st : List Value} {cc : ByteArray} {own : String} {fr lo : Nat}
theorem V_newputG {o ci j idx a : Nat} {v : Int32} {C : String} {T : u_T} {N : Nat} {ty0 : Nat → FieldType} (hC : CK K Y cc nL own fr lo) (ho : (0, o, ci) ∈ yI Y) (hk : (fkind ci)[j]? = some 1) (ht : aty ci j = 0) (ha : a = 32 * o + j) (hf : FLK own idx ci j C T N) (hp : PLK C T N ty0) (hfin : (T j).2.2.2 = false) (hty : ty0 j = .array .int) (hac : Cond.arrayClass .int ∈ gt) (hv : inb v 100000000 = true) (hkn : k + 1 ≤ (kR K).cells ∧ n + ix v ≤ (kR K).slots) (hA : ∀ q, (ks K).heap.size ≤ q → kA K q) (hd : decode cc pc = .ok (.newarray .int, 2)) (hd2 : decode cc (pc + 2) = .ok (.putfield idx, 3))
    (kk : ∀ (L3 ad3 : Nat → Nat) (d3 : Dt), L3 = upL L a (ix v) → d3 = sR d a (fun _ => 0) → V K Y nL (k + 1) (n + ix v) (L3, ad3) d3 (pc + 5) lv st) : V K Y nL k n (L, ad) d pc lv (.int v :: .ref (yo Y o) :: st) := V_newput hC ho hk ht ha hf hp hfin hty hac hv hkn hA hd hd2 (fun _ => kk _ _ _ rfl rfl)
theorem V_copyputG {a o ci j idx idx2 : Nat} {m : Int32} {C : String} {T : u_T} {N : Nat} {ty0 : Nat → FieldType} (hC : CK K Y cc nL own fr lo) (hA : ∀ q, (ks K).heap.size ≤ q → kA K q) (hlk : Cond.methodLink own idx2 yJ7_copyOf_59c91 ∈ gt) (hme : MES yJ7_copyOf_59c91 cJ7_copyOf_59c91 3 (some (.array .int)) 2) (ho : (0, o, ci) ∈ yI Y) (hk : (fkind ci)[j]? = some 1) (ht : aty ci j = 0) (ha : a = 32 * o + j) (hf : FLK own idx ci j C T N) (hp : PLK C T N ty0) (hfin : (T j).2.2.2 = false) (hty : ty0 j = .array .int)
    (hm : inb m 100000000 = true) (hLa : decide (L a < 100000000) = true) (hne : (!decide (ix m = L a)) = true) (hroom : 2 ≤ fr ∧ 82 ≤ lo) (hrest : ((.ref (yo Y o) :: st : List Value).map fun v => v.category).sum ≤ 8) (hkn : k + 1 ≤ (kR K).cells ∧ n + ix m ≤ (kR K).slots) (hd : decode cc pc = .ok (.invokestatic idx2, 3)) (hd2 : decode cc (pc + 3) = .ok (.putfield idx, 3))
    (kk : ∀ (L3 ad3 : Nat → Nat) (d3 : Dt), L3 = upL L a (ix m) → d3 = sR d a (va_cpy (gA d a) (fun _ => 0) 0 0 (min (L a) (ix m))) → V K Y nL (k + 1) (n + ix m) (L3, ad3) d3 (pc + 6) lv st) : V K Y nL k n (L, ad) d pc lv (.int m :: .ref (gad (L, ad) a) :: .ref (yo Y o) :: st) := V_copyput hC hA hlk hme ho hk ht ha hf hp hfin hty hm hLa hne hroom hrest hkn hd hd2 (fun _ => kk _ _ _ rfl rfl)
theorem V_roomNewG {a o j idx : Nat} (hC : CK K Y cc nL RX4 fr lo) (hA : ∀ q, (ks K).heap.size ≤ q → kA K q) (ho : (0, o, 3) ∈ yI Y) (hk : (fkind 3)[j]? = some 1) (ht : aty 3 j = 0) (ha : a = 32 * o + j) (hf : FLK RX4 idx 3 j RX4 TX4 17) (hfin : (TX4 j).2.2.2 = false) (hty : tyX4 j = .array .int) (h : nI (L a) < gF d o 4) (hw : decide (L (32 * o + 7) < 100000000) = true) (hroom : 1 ≤ fr ∧ 21 ≤ lo) (hrest : ((.ref (yo Y o) :: st : List Value).map fun v => v.category).sum ≤ 8) (hkn : k + 1 ≤ (kR K).cells ∧ n + L (32 * o + 7) ≤ (kR K).slots) (hd : decode cc pc = .ok (.invokevirtual 103, 3)) (hd2 : decode cc (pc + 3) = .ok (.putfield idx, 3))
    (kk : ∀ (L3 ad3 : Nat → Nat) (d3 : Dt), L3 = upL L a (L (32 * o + 7)) → d3 = sR d a (fun _ => 0) → V K Y nL (k + 1) (n + L (32 * o + 7)) (L3, ad3) d3 (pc + 6) lv st) : V K Y nL k n (L, ad) d pc lv (.ref (gad (L, ad) a) :: .ref (yo Y o) :: .ref (yo Y o) :: st) := V_roomNew hC hA ho hk ht ha hf hfin hty h hw hroom hrest hkn hd hd2 (fun _ => kk _ _ _ rfl rfl)
theorem V_alenA {a t : Nat} (hC : CK K Y cc nL own fr lo) (ha : (1, a, t) ∈ yI Y) (ht : t < 3) (hd : decode cc pc = .ok (.arraylength, 1)) (kk : V K Y nL k n (L, ad) d (pc + 1) lv (.int (nI (L a)) :: st)) : V K Y nL k n (L, ad) d pc lv (.ref (gad (L, ad) a) :: st) := V_alen hC ha ht hd kk
theorem V_swapG {o : Nat} {x1 : Int32} (hC : CK K Y cX4_runOneTurn 4 RX4 fr lo) (ho : (0, o, 3) ∈ yI Y) (kk : ∀ (L3 ad3 : Nat → Nat) (d3 : Dt), L3 = swL o L → d3 = swD o d → V K Y 4 k n (L3, ad3) d3 69 [(0, .ref (yo Y o)), (1, .int x1)] []) : V K Y 4 k n (L, ad) d 51 [(0, .ref (yo Y o)), (1, .int x1)] [] := V_swap hC ho (kk _ _ _ rfl rfl)
end ROWSG
