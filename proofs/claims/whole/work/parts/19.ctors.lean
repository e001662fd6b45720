/-! ===== the constructors ===== -/
theorem oi_im : Cond.instanceMethod objectInit ∈ gt := gt_t 22 (by decide +kernel) rfl
theorem oi_c : Cond.code objectInit ⟨#[0xb1]⟩ 1 none ∈ gt := gt_t 23 (by decide +kernel) rfl
theorem ac_byte : Cond.arrayClass .byte ∈ gt := gt_t 129 (by decide +kernel) rfl
theorem ac_boolean : Cond.arrayClass .boolean ∈ gt := gt_t 975 (by decide +kernel) rfl
theorem lo_X0_3 : Cond.methodLink RX0 3 objectInit ∈ gt := gt_t 35 (by decide +kernel) rfl
theorem lo_X4_5 : Cond.methodLink RX4 5 objectInit ∈ gt := gt_t 178 (by decide +kernel) rfl
theorem lo_X1_3 : Cond.methodLink RX1 3 objectInit ∈ gt := gt_t 29 (by decide +kernel) rfl
theorem cq_X1_9 : Cond.classLink RX1 9 RX0 ∈ gt := gt_t 30 (by decide +kernel) rfl
theorem in_X0 : Cond.instantiable RX0 13 ∈ gt := gt_t 31 (by decide +kernel) rfl
theorem it_X0 : Cond.initialized RX0 ∈ gt := gt_t 3 (by decide +kernel) rfl
theorem mi_X0 : ME yX0_init cX0_init 1 none 0 := ⟨gt_t 34 (by decide +kernel) rfl, gt_t 3 (by decide +kernel) rfl, by decide +kernel⟩
theorem ii_X0 : Cond.instanceMethod yX0_init ∈ gt := gt_t 33 (by decide +kernel) rfl
theorem lo_X6_1 : Cond.methodLink RX6 1 objectInit ∈ gt := gt_t 883 (by decide +kernel) rfl
theorem fk_X6_7 : FLK RX6 7 5 0 RX6 TX6 30 := ⟨rfl, uw_X6, by decide, rfl, gt_t 885 (by decide +kernel) rfl⟩
theorem fk_X6_13 : FLK RX6 13 5 1 RX6 TX6 30 := ⟨rfl, uw_X6, by decide, rfl, gt_t 886 (by decide +kernel) rfl⟩
theorem fk_X6_17 : FLK RX6 17 5 2 RX6 TX6 30 := ⟨rfl, uw_X6, by decide, rfl, gt_t 887 (by decide +kernel) rfl⟩
theorem fk_X6_20 : FLK RX6 20 5 3 RX6 TX6 30 := ⟨rfl, uw_X6, by decide, rfl, gt_t 888 (by decide +kernel) rfl⟩
theorem fk_X6_23 : FLK RX6 23 5 9 RX6 TX6 30 := ⟨rfl, uw_X6, by decide, rfl, gt_t 894 (by decide +kernel) rfl⟩
theorem fk_X6_27 : FLK RX6 27 5 12 RX6 TX6 30 := ⟨rfl, uw_X6, by decide, rfl, gt_t 896 (by decide +kernel) rfl⟩
theorem fk_X6_30 : FLK RX6 30 5 13 RX6 TX6 30 := ⟨rfl, uw_X6, by decide, rfl, gt_t 897 (by decide +kernel) rfl⟩
theorem fk_X6_33 : FLK RX6 33 5 15 RX6 TX6 30 := ⟨rfl, uw_X6, by decide, rfl, gt_t 899 (by decide +kernel) rfl⟩
theorem fk_X6_36 : FLK RX6 36 5 16 RX6 TX6 30 := ⟨rfl, uw_X6, by decide, rfl, gt_t 900 (by decide +kernel) rfl⟩
theorem ck_X6_39 : Cond.constant RX6 39 (61440) ∈ gt := gt_t 884 (by decide +kernel) rfl
theorem fk_X6_40 : FLK RX6 40 5 19 RX6 TX6 30 := ⟨rfl, uw_X6, by decide, rfl, gt_t 903 (by decide +kernel) rfl⟩
theorem fk_X6_43 : FLK RX6 43 5 20 RX6 TX6 30 := ⟨rfl, uw_X6, by decide, rfl, gt_t 904 (by decide +kernel) rfl⟩
theorem fk_X6_46 : FLK RX6 46 5 24 RX6 TX6 30 := ⟨rfl, uw_X6, by decide, rfl, gt_t 908 (by decide +kernel) rfl⟩
theorem fk_X6_49 : FLK RX6 49 5 25 RX6 TX6 30 := ⟨rfl, uw_X6, by decide, rfl, gt_t 909 (by decide +kernel) rfl⟩
theorem fk_X6_52 : FLK RX6 52 5 26 RX6 TX6 30 := ⟨rfl, uw_X6, by decide, rfl, gt_t 910 (by decide +kernel) rfl⟩
theorem fk_X6_55 : FLK RX6 55 5 27 RX6 TX6 30 := ⟨rfl, uw_X6, by decide, rfl, gt_t 911 (by decide +kernel) rfl⟩
theorem fk_X6_58 : FLK RX6 58 5 28 RX6 TX6 30 := ⟨rfl, uw_X6, by decide, rfl, gt_t 912 (by decide +kernel) rfl⟩
theorem fk_X6_61 : FLK RX6 61 5 29 RX6 TX6 30 := ⟨rfl, uw_X6, by decide, rfl, gt_t 913 (by decide +kernel) rfl⟩
theorem lo_X2_3 : Cond.methodLink RX2 3 objectInit ∈ gt := gt_t 137 (by decide +kernel) rfl
theorem fk_X2_29 : FLK RX2 29 2 6 RX2 TX2 9 := ⟨rfl, uw_X2, by decide, rfl, gt_t 150 (by decide +kernel) rfl⟩
theorem va_D_nd {A : Nat → Prop} {ws : va_W} (h : va_D A ws) : (ws.map (fun q => q.1)).Nodup := by
  refine List.pairwise_iff_getElem.mpr (fun i j hi hj hij e => ?_)
  rw [List.length_map] at hi hj
  rw [List.getElem_map, List.getElem_map] at e
  exact absurd (h.1 i j ws[i] ws[j] (List.getElem?_eq_getElem hi) (List.getElem?_eq_getElem hj) e) (Nat.ne_of_lt hij)
theorem va_D_of {A : Nat → Prop} {ws : va_W} (hn : (ws.map (fun q => q.1)).Nodup) (hA : ∀ x ∈ ws, A x.1) : va_D A ws := by
  refine ⟨fun i j p q hi hj hpq => ?_, fun k q hk => hA _ (List.mem_of_getElem? hk)⟩
  have h1 : (ws.map (fun q => q.1))[i]? = some p.1 := by rw [List.getElem?_map, hi]; rfl
  have h2 : (ws.map (fun q => q.1))[j]? = some q.1 := by rw [List.getElem?_map, hj]; rfl
  exact (List.getElem?_inj (List.getElem?_eq_some_iff.mp h1).1 hn).mp (h1.trans (by rw [hpq, h2]))
theorem VL_perm {K : Kx} {D : va_G} {nL k n pc : Nat} {ws ws' : va_W} {lv : List (Nat × Value)} {st : List Value} (h : ws.Perm ws') (kk : VL K D nL k n ws' pc lv st) : VL K D nL k n ws pc lv st := by
  intro H locs ls hP hD hS hl
  refine kk H locs ls (fun i x hx => ?_) (va_D_of ((h.map _).nodup_iff.mp (va_D_nd hD)) (fun x hx => ?_)) hS hl
  · obtain ⟨j, hj⟩ := List.getElem?_of_mem (h.mem_iff.mpr (List.mem_of_getElem? hx))
    exact hP j x hj
  · obtain ⟨j, hj⟩ := List.getElem?_of_mem (h.mem_iff.mpr hx)
    exact hD.2 j x hj
def numF (i : Nat) : Nat → Int32 := fun j => if j < i then nI (j + 1) else 0
theorem numF_s {i : Nat} (hi : i < 24) : upd (numF i) (ix (nI i)) (nI i + 1) = numF (i + 1) := by
  have e : ix (nI i) = i := nI_clamp (by omega)
  rw [e, nI_1]
  funext j
  simp only [upd, numF]
  by_cases h : j = i
  · subst h
    rw [if_pos rfl, if_pos (by omega)]
  · rw [if_neg h]
    by_cases h2 : j < i
    · rw [if_pos h2, if_pos (by omega)]
    · rw [if_neg h2, if_neg (by omega)]
abbrev SX0 : Type := Nat × Nat × Nat × Nat × Nat × Nat × Nat × Nat × Nat × Nat × Nat
def X0W (gc : Nat → ClassId) (h0 : Nat) (s : SX0) : va_W := (h0, .inr (0, [.int 0, .int 5, .ref s.1, .ref s.2.1, .ref s.2.2.1, .ref s.2.2.2.1, .ref s.2.2.2.2.1, .ref s.2.2.2.2.2.1, .ref s.2.2.2.2.2.2.1, .ref s.2.2.2.2.2.2.2.1, .ref s.2.2.2.2.2.2.2.2.1, .ref s.2.2.2.2.2.2.2.2.2.1, .ref s.2.2.2.2.2.2.2.2.2.2])) :: ([] ++ [(s.1, .inl (gc 0, 24, .inl (fun _ => 0)))] ++ [(s.2.1, .inl (gc 0, 24, .inl (fun _ => 0)))] ++ [(s.2.2.1, .inl (gc 0, 24, .inl (fun _ => 0)))] ++ [(s.2.2.2.1, .inl (gc 0, 24, .inl (fun _ => 0)))] ++ [(s.2.2.2.2.1, .inl (gc 0, 24, .inl (fun _ => 0)))] ++ [(s.2.2.2.2.2.1, .inl (gc 0, 96, .inl (fun _ => 0)))] ++ [(s.2.2.2.2.2.2.1, .inl (gc 0, 96, .inl (fun _ => 0)))] ++ [(s.2.2.2.2.2.2.2.1, .inl (gc 0, 24, .inl (fun _ => 0)))] ++ [(s.2.2.2.2.2.2.2.2.1, .inl (gc 0, 144, .inl (fun _ => 0)))] ++ [(s.2.2.2.2.2.2.2.2.2.1, .inl (gc 0, 144, .inl (fun _ => 0)))] ++ [(s.2.2.2.2.2.2.2.2.2.2, .inl (gc 0, 144, .inl (fun _ => 0)))])
set_option maxRecDepth 20000 in
theorem i_X0 {l : Launch} {D : va_G} {gc : Nat → ClassId} {h0 : Nat} : MI l yX0_init cX0_init 1 1 21 D gc h0 0 [.int 0, .int 0, .null, .null, .null, .null, .null, .null, .null, .null, .null, .null, .null] [] (X0W gc h0) 11 768 := by
  refine MI.ofV (by decide +kernel) rfl (Nat.le_of_ble_eq_true rfl) (fun K hC hr hnm hA hQ => ?_)
  have hC : CL K D gc cX0_init 1 RX0 1 21 11 768 := hC
  show VL K D 1 0 0 ((h0, .inr (0, [.int 0, .int 0, .null, .null, .null, .null, .null, .null, .null, .null, .null, .null, .null])) :: []) 0 [(0, .ref h0)] []
  refine VL_aload_n 0 hC dX0_init_0 rfl rfl ?_
  refine VL_obj hC lo_X0_3 oi_im oi_c (Nat.le_of_ble_eq_true rfl) (by decide) (by decide) dX0_init_1 ?_
  refine VL_aload_n 0 hC dX0_init_4 rfl rfl ?_
  refine VL_iconst (v := 0) hC dX0_init_5 rfl ?_
  refine VL_put (fs' := [.int 0, .int 0, .null, .null, .null, .null, .null, .null, .null, .null, .null, .null, .null]) hC fk_X0_9 pl_X0 rfl rfl rfl (Nat.le_of_ble_eq_true rfl) rfl dX0_init_6 ?_
  refine VL_aload_n 0 hC dX0_init_9 rfl rfl ?_
  refine VL_iconst (v := 5) hC dX0_init_10 rfl ?_
  refine VL_put (fs' := [.int 0, .int 5, .null, .null, .null, .null, .null, .null, .null, .null, .null, .null, .null]) hC fk_X0_15 pl_X0 rfl rfl rfl (Nat.le_of_ble_eq_true rfl) rfl dX0_init_11 ?_
  refine VL_aload_n 0 hC dX0_init_14 rfl rfl ?_
  refine VL_bipush (v := 24) hC dX0_init_15 rfl ?_
  refine VL_newaC (atype := .int) (t := 0) (w := 24) hC ac_int rfl (by decide) (by decide +kernel) (by decide +kernel) (Nat.le_of_ble_eq_true rfl) (Nat.le_of_ble_eq_true rfl) (Nat.le_of_ble_eq_true rfl) dX0_init_17 (fun q1 => ?_)
  refine VL_putF (fs' := [.int 0, .int 5, .ref q1, .null, .null, .null, .null, .null, .null, .null, .null, .null, .null]) hC hnm fk_X0_18 pl_X0 rfl rfl rfl rfl (Nat.le_of_ble_eq_true rfl) rfl dX0_init_19 ?_
  refine VL_aload_n 0 hC dX0_init_22 rfl rfl ?_
  refine VL_bipush (v := 24) hC dX0_init_23 rfl ?_
  refine VL_newaC (atype := .int) (t := 0) (w := 24) hC ac_int rfl (by decide) (by decide +kernel) (by decide +kernel) (Nat.le_of_ble_eq_true rfl) (Nat.le_of_ble_eq_true rfl) (Nat.le_of_ble_eq_true rfl) dX0_init_25 (fun q2 => ?_)
  refine VL_putF (fs' := [.int 0, .int 5, .ref q1, .ref q2, .null, .null, .null, .null, .null, .null, .null, .null, .null]) hC hnm fk_X0_22 pl_X0 rfl rfl rfl rfl (Nat.le_of_ble_eq_true rfl) rfl dX0_init_27 ?_
  refine VL_aload_n 0 hC dX0_init_30 rfl rfl ?_
  refine VL_bipush (v := 24) hC dX0_init_31 rfl ?_
  refine VL_newaC (atype := .int) (t := 0) (w := 24) hC ac_int rfl (by decide) (by decide +kernel) (by decide +kernel) (Nat.le_of_ble_eq_true rfl) (Nat.le_of_ble_eq_true rfl) (Nat.le_of_ble_eq_true rfl) dX0_init_33 (fun q3 => ?_)
  refine VL_putF (fs' := [.int 0, .int 5, .ref q1, .ref q2, .ref q3, .null, .null, .null, .null, .null, .null, .null, .null]) hC hnm fk_X0_25 pl_X0 rfl rfl rfl rfl (Nat.le_of_ble_eq_true rfl) rfl dX0_init_35 ?_
  refine VL_aload_n 0 hC dX0_init_38 rfl rfl ?_
  refine VL_bipush (v := 24) hC dX0_init_39 rfl ?_
  refine VL_newaC (atype := .int) (t := 0) (w := 24) hC ac_int rfl (by decide) (by decide +kernel) (by decide +kernel) (Nat.le_of_ble_eq_true rfl) (Nat.le_of_ble_eq_true rfl) (Nat.le_of_ble_eq_true rfl) dX0_init_41 (fun q4 => ?_)
  refine VL_putF (fs' := [.int 0, .int 5, .ref q1, .ref q2, .ref q3, .ref q4, .null, .null, .null, .null, .null, .null, .null]) hC hnm fk_X0_28 pl_X0 rfl rfl rfl rfl (Nat.le_of_ble_eq_true rfl) rfl dX0_init_43 ?_
  refine VL_aload_n 0 hC dX0_init_46 rfl rfl ?_
  refine VL_bipush (v := 24) hC dX0_init_47 rfl ?_
  refine VL_newaC (atype := .int) (t := 0) (w := 24) hC ac_int rfl (by decide) (by decide +kernel) (by decide +kernel) (Nat.le_of_ble_eq_true rfl) (Nat.le_of_ble_eq_true rfl) (Nat.le_of_ble_eq_true rfl) dX0_init_49 (fun q5 => ?_)
  refine VL_putF (fs' := [.int 0, .int 5, .ref q1, .ref q2, .ref q3, .ref q4, .ref q5, .null, .null, .null, .null, .null, .null]) hC hnm fk_X0_31 pl_X0 rfl rfl rfl rfl (Nat.le_of_ble_eq_true rfl) rfl dX0_init_51 ?_
  refine VL_aload_n 0 hC dX0_init_54 rfl rfl ?_
  refine VL_bipush (v := 96) hC dX0_init_55 rfl ?_
  refine VL_newaC (atype := .int) (t := 0) (w := 96) hC ac_int rfl (by decide) (by decide +kernel) (by decide +kernel) (Nat.le_of_ble_eq_true rfl) (Nat.le_of_ble_eq_true rfl) (Nat.le_of_ble_eq_true rfl) dX0_init_57 (fun q6 => ?_)
  refine VL_putF (fs' := [.int 0, .int 5, .ref q1, .ref q2, .ref q3, .ref q4, .ref q5, .ref q6, .null, .null, .null, .null, .null]) hC hnm fk_X0_34 pl_X0 rfl rfl rfl rfl (Nat.le_of_ble_eq_true rfl) rfl dX0_init_59 ?_
  refine VL_aload_n 0 hC dX0_init_62 rfl rfl ?_
  refine VL_bipush (v := 96) hC dX0_init_63 rfl ?_
  refine VL_newaC (atype := .int) (t := 0) (w := 96) hC ac_int rfl (by decide) (by decide +kernel) (by decide +kernel) (Nat.le_of_ble_eq_true rfl) (Nat.le_of_ble_eq_true rfl) (Nat.le_of_ble_eq_true rfl) dX0_init_65 (fun q7 => ?_)
  refine VL_putF (fs' := [.int 0, .int 5, .ref q1, .ref q2, .ref q3, .ref q4, .ref q5, .ref q6, .ref q7, .null, .null, .null, .null]) hC hnm fk_X0_37 pl_X0 rfl rfl rfl rfl (Nat.le_of_ble_eq_true rfl) rfl dX0_init_67 ?_
  refine VL_aload_n 0 hC dX0_init_70 rfl rfl ?_
  refine VL_bipush (v := 24) hC dX0_init_71 rfl ?_
  refine VL_newaC (atype := .int) (t := 0) (w := 24) hC ac_int rfl (by decide) (by decide +kernel) (by decide +kernel) (Nat.le_of_ble_eq_true rfl) (Nat.le_of_ble_eq_true rfl) (Nat.le_of_ble_eq_true rfl) dX0_init_73 (fun q8 => ?_)
  refine VL_putF (fs' := [.int 0, .int 5, .ref q1, .ref q2, .ref q3, .ref q4, .ref q5, .ref q6, .ref q7, .ref q8, .null, .null, .null]) hC hnm fk_X0_40 pl_X0 rfl rfl rfl rfl (Nat.le_of_ble_eq_true rfl) rfl dX0_init_75 ?_
  refine VL_aload_n 0 hC dX0_init_78 rfl rfl ?_
  refine VL_sipush (v := 144) hC dX0_init_79 rfl ?_
  refine VL_newaC (atype := .int) (t := 0) (w := 144) hC ac_int rfl (by decide) (by decide +kernel) (by decide +kernel) (Nat.le_of_ble_eq_true rfl) (Nat.le_of_ble_eq_true rfl) (Nat.le_of_ble_eq_true rfl) dX0_init_82 (fun q9 => ?_)
  refine VL_putF (fs' := [.int 0, .int 5, .ref q1, .ref q2, .ref q3, .ref q4, .ref q5, .ref q6, .ref q7, .ref q8, .ref q9, .null, .null]) hC hnm fk_X0_43 pl_X0 rfl rfl rfl rfl (Nat.le_of_ble_eq_true rfl) rfl dX0_init_84 ?_
  refine VL_aload_n 0 hC dX0_init_87 rfl rfl ?_
  refine VL_sipush (v := 144) hC dX0_init_88 rfl ?_
  refine VL_newaC (atype := .int) (t := 0) (w := 144) hC ac_int rfl (by decide) (by decide +kernel) (by decide +kernel) (Nat.le_of_ble_eq_true rfl) (Nat.le_of_ble_eq_true rfl) (Nat.le_of_ble_eq_true rfl) dX0_init_91 (fun q10 => ?_)
  refine VL_putF (fs' := [.int 0, .int 5, .ref q1, .ref q2, .ref q3, .ref q4, .ref q5, .ref q6, .ref q7, .ref q8, .ref q9, .ref q10, .null]) hC hnm fk_X0_46 pl_X0 rfl rfl rfl rfl (Nat.le_of_ble_eq_true rfl) rfl dX0_init_93 ?_
  refine VL_aload_n 0 hC dX0_init_96 rfl rfl ?_
  refine VL_sipush (v := 144) hC dX0_init_97 rfl ?_
  refine VL_newaC (atype := .int) (t := 0) (w := 144) hC ac_int rfl (by decide) (by decide +kernel) (by decide +kernel) (Nat.le_of_ble_eq_true rfl) (Nat.le_of_ble_eq_true rfl) (Nat.le_of_ble_eq_true rfl) dX0_init_100 (fun q11 => ?_)
  refine VL_putF (fs' := [.int 0, .int 5, .ref q1, .ref q2, .ref q3, .ref q4, .ref q5, .ref q6, .ref q7, .ref q8, .ref q9, .ref q10, .ref q11]) hC hnm fk_X0_49 pl_X0 rfl rfl rfl rfl (Nat.le_of_ble_eq_true rfl) rfl dX0_init_102 ?_
  exact VL_vret (S := SX0) (q1, q2, q3, q4, q5, q6, q7, q8, q9, q10, q11) hC hr hA hQ rfl (Nat.le_of_ble_eq_true rfl) (Nat.le_of_ble_eq_true rfl) dX0_init_105
abbrev SX4 : Type := Nat × Nat × Nat × Nat × Nat × Nat × Nat
def X4W (gc : Nat → ClassId) (h0 b : Nat) (s : SX4) : va_W := (h0, .inr (3, [.int 0, .int 0, .int 0, .ref b, .int 0, .int 0, .int 0, .ref s.1, .ref s.2.1, .ref s.2.2.1, .ref s.2.2.2.1, .ref s.2.2.2.2.1, .ref s.2.2.2.2.2.1, .int (-1), .int 0, .ref s.2.2.2.2.2.2, .int 0])) :: ([] ++ [(s.1, .inl (gc 0, 64, .inl (fun _ => 0)))] ++ [(s.2.1, .inl (gc 0, 65, .inl (fun _ => 0)))] ++ [(s.2.2.1, .inl (gc 0, 256, .inl (fun _ => 0)))] ++ [(s.2.2.2.1, .inl (gc 0, 0, .inl (fun _ => 0)))] ++ [(s.2.2.2.2.1, .inl (gc 0, 64, .inl (fun _ => 0)))] ++ [(s.2.2.2.2.2.1, .inl (gc 0, 64, .inl (fun _ => 0)))] ++ [(s.2.2.2.2.2.2, .inl (gc 0, 64, .inl (fun _ => 0)))])
set_option maxRecDepth 20000 in
theorem i_X4 {l : Launch} {D : va_G} {gc : Nat → ClassId} {h0 b : Nat} : MI l yX4_init cX4_init 2 1 21 D gc h0 3 [.int 0, .int 0, .int 0, .null, .int 0, .int 0, .int 0, .null, .null, .null, .null, .null, .null, .int 0, .int 0, .null, .int 0] [.ref b] (X4W gc h0 b) 7 577 := by
  refine MI.ofV (by decide +kernel) rfl (Nat.le_of_ble_eq_true rfl) (fun K hC hr hnm hA hQ => ?_)
  have hC : CL K D gc cX4_init 2 RX4 1 21 7 577 := hC
  show VL K D 2 0 0 ((h0, .inr (3, [.int 0, .int 0, .int 0, .null, .int 0, .int 0, .int 0, .null, .null, .null, .null, .null, .null, .int 0, .int 0, .null, .int 0])) :: []) 0 [(0, .ref h0), (1, .ref b)] []
  refine VL_aload_n 0 hC dX4_init_0 rfl rfl ?_
  refine VL_obj hC lo_X4_5 oi_im oi_c (Nat.le_of_ble_eq_true rfl) (by decide) (by decide) dX4_init_1 ?_
  refine VL_aload_n 0 hC dX4_init_4 rfl rfl ?_
  refine VL_iconst (v := 0) hC dX4_init_5 rfl ?_
  refine VL_put (fs' := [.int 0, .int 0, .int 0, .null, .int 0, .int 0, .int 0, .null, .null, .null, .null, .null, .null, .int 0, .int 0, .null, .int 0]) hC fk_X4_11 pl_X4 rfl rfl rfl (Nat.le_of_ble_eq_true rfl) rfl dX4_init_6 ?_
  refine VL_aload_n 0 hC dX4_init_9 rfl rfl ?_
  refine VL_iconst (v := 0) hC dX4_init_10 rfl ?_
  refine VL_put (fs' := [.int 0, .int 0, .int 0, .null, .int 0, .int 0, .int 0, .null, .null, .null, .null, .null, .null, .int 0, .int 0, .null, .int 0]) hC fk_X4_15 pl_X4 rfl rfl rfl (Nat.le_of_ble_eq_true rfl) rfl dX4_init_11 ?_
  refine VL_aload_n 0 hC dX4_init_14 rfl rfl ?_
  refine VL_iconst (v := 0) hC dX4_init_15 rfl ?_
  refine VL_put (fs' := [.int 0, .int 0, .int 0, .null, .int 0, .int 0, .int 0, .null, .null, .null, .null, .null, .null, .int 0, .int 0, .null, .int 0]) hC fk_X4_18 pl_X4 rfl rfl rfl (Nat.le_of_ble_eq_true rfl) rfl dX4_init_16 ?_
  refine VL_aload_n 0 hC dX4_init_19 rfl rfl ?_
  refine VL_iconst (v := 0) hC dX4_init_20 rfl ?_
  refine VL_put (fs' := [.int 0, .int 0, .int 0, .null, .int 0, .int 0, .int 0, .null, .null, .null, .null, .null, .null, .int 0, .int 0, .null, .int 0]) hC fk_X4_22 pl_X4 rfl rfl rfl (Nat.le_of_ble_eq_true rfl) rfl dX4_init_21 ?_
  refine VL_aload_n 0 hC dX4_init_24 rfl rfl ?_
  refine VL_iconst (v := 0) hC dX4_init_25 rfl ?_
  refine VL_put (fs' := [.int 0, .int 0, .int 0, .null, .int 0, .int 0, .int 0, .null, .null, .null, .null, .null, .null, .int 0, .int 0, .null, .int 0]) hC fk_X4_25 pl_X4 rfl rfl rfl (Nat.le_of_ble_eq_true rfl) rfl dX4_init_26 ?_
  refine VL_aload_n 0 hC dX4_init_29 rfl rfl ?_
  refine VL_iconst (v := 0) hC dX4_init_30 rfl ?_
  refine VL_put (fs' := [.int 0, .int 0, .int 0, .null, .int 0, .int 0, .int 0, .null, .null, .null, .null, .null, .null, .int 0, .int 0, .null, .int 0]) hC fk_X4_28 pl_X4 rfl rfl rfl (Nat.le_of_ble_eq_true rfl) rfl dX4_init_31 ?_
  refine VL_aload_n 0 hC dX4_init_34 rfl rfl ?_
  refine VL_bipush (v := 64) hC dX4_init_35 rfl ?_
  refine VL_newaC (atype := .int) (t := 0) (w := 64) hC ac_int rfl (by decide) (by decide +kernel) (by decide +kernel) (Nat.le_of_ble_eq_true rfl) (Nat.le_of_ble_eq_true rfl) (Nat.le_of_ble_eq_true rfl) dX4_init_37 (fun q1 => ?_)
  refine VL_put (fs' := [.int 0, .int 0, .int 0, .null, .int 0, .int 0, .int 0, .ref q1, .null, .null, .null, .null, .null, .int 0, .int 0, .null, .int 0]) hC fk_X4_31 pl_X4 rfl rfl rfl (Nat.le_of_ble_eq_true rfl) rfl dX4_init_39 ?_
  refine VL_aload_n 0 hC dX4_init_42 rfl rfl ?_
  refine VL_bipush (v := 65) hC dX4_init_43 rfl ?_
  refine VL_newaC (atype := .int) (t := 0) (w := 65) hC ac_int rfl (by decide) (by decide +kernel) (by decide +kernel) (Nat.le_of_ble_eq_true rfl) (Nat.le_of_ble_eq_true rfl) (Nat.le_of_ble_eq_true rfl) dX4_init_45 (fun q2 => ?_)
  refine VL_put (fs' := [.int 0, .int 0, .int 0, .null, .int 0, .int 0, .int 0, .ref q1, .ref q2, .null, .null, .null, .null, .int 0, .int 0, .null, .int 0]) hC fk_X4_35 pl_X4 rfl rfl rfl (Nat.le_of_ble_eq_true rfl) rfl dX4_init_47 ?_
  refine VL_aload_n 0 hC dX4_init_50 rfl rfl ?_
  refine VL_sipush (v := 256) hC dX4_init_51 rfl ?_
  refine VL_newaC (atype := .int) (t := 0) (w := 256) hC ac_int rfl (by decide) (by decide +kernel) (by decide +kernel) (Nat.le_of_ble_eq_true rfl) (Nat.le_of_ble_eq_true rfl) (Nat.le_of_ble_eq_true rfl) dX4_init_54 (fun q3 => ?_)
  refine VL_put (fs' := [.int 0, .int 0, .int 0, .null, .int 0, .int 0, .int 0, .ref q1, .ref q2, .ref q3, .null, .null, .null, .int 0, .int 0, .null, .int 0]) hC fk_X4_38 pl_X4 rfl rfl rfl (Nat.le_of_ble_eq_true rfl) rfl dX4_init_56 ?_
  refine VL_aload_n 0 hC dX4_init_59 rfl rfl ?_
  refine VL_iconst (v := 0) hC dX4_init_60 rfl ?_
  refine VL_newaC (atype := .int) (t := 0) (w := 0) hC ac_int rfl (by decide) (by decide +kernel) (by decide +kernel) (Nat.le_of_ble_eq_true rfl) (Nat.le_of_ble_eq_true rfl) (Nat.le_of_ble_eq_true rfl) dX4_init_61 (fun q4 => ?_)
  refine VL_put (fs' := [.int 0, .int 0, .int 0, .null, .int 0, .int 0, .int 0, .ref q1, .ref q2, .ref q3, .ref q4, .null, .null, .int 0, .int 0, .null, .int 0]) hC fk_X4_41 pl_X4 rfl rfl rfl (Nat.le_of_ble_eq_true rfl) rfl dX4_init_63 ?_
  refine VL_aload_n 0 hC dX4_init_66 rfl rfl ?_
  refine VL_bipush (v := 64) hC dX4_init_67 rfl ?_
  refine VL_newaC (atype := .int) (t := 0) (w := 64) hC ac_int rfl (by decide) (by decide +kernel) (by decide +kernel) (Nat.le_of_ble_eq_true rfl) (Nat.le_of_ble_eq_true rfl) (Nat.le_of_ble_eq_true rfl) dX4_init_69 (fun q5 => ?_)
  refine VL_put (fs' := [.int 0, .int 0, .int 0, .null, .int 0, .int 0, .int 0, .ref q1, .ref q2, .ref q3, .ref q4, .ref q5, .null, .int 0, .int 0, .null, .int 0]) hC fk_X4_44 pl_X4 rfl rfl rfl (Nat.le_of_ble_eq_true rfl) rfl dX4_init_71 ?_
  refine VL_aload_n 0 hC dX4_init_74 rfl rfl ?_
  refine VL_bipush (v := 64) hC dX4_init_75 rfl ?_
  refine VL_newaC (atype := .int) (t := 0) (w := 64) hC ac_int rfl (by decide) (by decide +kernel) (by decide +kernel) (Nat.le_of_ble_eq_true rfl) (Nat.le_of_ble_eq_true rfl) (Nat.le_of_ble_eq_true rfl) dX4_init_77 (fun q6 => ?_)
  refine VL_put (fs' := [.int 0, .int 0, .int 0, .null, .int 0, .int 0, .int 0, .ref q1, .ref q2, .ref q3, .ref q4, .ref q5, .ref q6, .int 0, .int 0, .null, .int 0]) hC fk_X4_47 pl_X4 rfl rfl rfl (Nat.le_of_ble_eq_true rfl) rfl dX4_init_79 ?_
  refine VL_aload_n 0 hC dX4_init_82 rfl rfl ?_
  refine VL_iconst (v := -1) hC dX4_init_83 rfl ?_
  refine VL_put (fs' := [.int 0, .int 0, .int 0, .null, .int 0, .int 0, .int 0, .ref q1, .ref q2, .ref q3, .ref q4, .ref q5, .ref q6, .int (-1), .int 0, .null, .int 0]) hC fk_X4_50 pl_X4 rfl rfl rfl (Nat.le_of_ble_eq_true rfl) rfl dX4_init_84 ?_
  refine VL_aload_n 0 hC dX4_init_87 rfl rfl ?_
  refine VL_iconst (v := 0) hC dX4_init_88 rfl ?_
  refine VL_put (fs' := [.int 0, .int 0, .int 0, .null, .int 0, .int 0, .int 0, .ref q1, .ref q2, .ref q3, .ref q4, .ref q5, .ref q6, .int (-1), .int 0, .null, .int 0]) hC fk_X4_53 pl_X4 rfl rfl rfl (Nat.le_of_ble_eq_true rfl) rfl dX4_init_89 ?_
  refine VL_aload_n 0 hC dX4_init_92 rfl rfl ?_
  refine VL_bipush (v := 64) hC dX4_init_93 rfl ?_
  refine VL_newaC (atype := .int) (t := 0) (w := 64) hC ac_int rfl (by decide) (by decide +kernel) (by decide +kernel) (Nat.le_of_ble_eq_true rfl) (Nat.le_of_ble_eq_true rfl) (Nat.le_of_ble_eq_true rfl) dX4_init_95 (fun q7 => ?_)
  refine VL_put (fs' := [.int 0, .int 0, .int 0, .null, .int 0, .int 0, .int 0, .ref q1, .ref q2, .ref q3, .ref q4, .ref q5, .ref q6, .int (-1), .int 0, .ref q7, .int 0]) hC fk_X4_56 pl_X4 rfl rfl rfl (Nat.le_of_ble_eq_true rfl) rfl dX4_init_97 ?_
  refine VL_aload_n 0 hC dX4_init_100 rfl rfl ?_
  refine VL_iconst (v := 0) hC dX4_init_101 rfl ?_
  refine VL_put (fs' := [.int 0, .int 0, .int 0, .null, .int 0, .int 0, .int 0, .ref q1, .ref q2, .ref q3, .ref q4, .ref q5, .ref q6, .int (-1), .int 0, .ref q7, .int 0]) hC fk_X4_59 pl_X4 rfl rfl rfl (Nat.le_of_ble_eq_true rfl) rfl dX4_init_102 ?_
  refine VL_aload_n 0 hC dX4_init_105 rfl rfl ?_
  refine VL_aload_n 1 hC dX4_init_106 rfl rfl ?_
  refine VL_putF (fs' := [.int 0, .int 0, .int 0, .ref b, .int 0, .int 0, .int 0, .ref q1, .ref q2, .ref q3, .ref q4, .ref q5, .ref q6, .int (-1), .int 0, .ref q7, .int 0]) hC hnm fk_X4_62 pl_X4 rfl rfl rfl rfl (Nat.le_of_ble_eq_true rfl) rfl dX4_init_107 ?_
  exact VL_vret (S := SX4) (q1, q2, q3, q4, q5, q6, q7) hC hr hA hQ rfl (Nat.le_of_ble_eq_true rfl) (Nat.le_of_ble_eq_true rfl) dX4_init_110
abbrev SX1 : Type := Nat × SX0 × Nat × Nat × Nat
def X1W (gc : Nat → ClassId) (h0 : Nat) (s : SX1) : va_W := (h0, .inr (1, [.ref s.1, .int 0, .int (-1), .ref s.2.2.1, .int 0, .int 0, .int 0, .ref s.2.2.2.1, .ref s.2.2.2.2, .int 0])) :: ([] ++ X0W gc s.1 s.2.1 ++ [(s.2.2.1, .inl (gc 1, 600, .inl (fun _ => 0)))] ++ [(s.2.2.2.1, .inl (gc 0, 144, .inl (fun _ => 0)))] ++ [(s.2.2.2.2, .inl (gc 0, 144, .inl (fun _ => 0)))])
set_option maxRecDepth 20000 in
theorem i_X1 {l : Launch} {D : va_G} {gc : Nat → ClassId} {h0 : Nat} : MI l yX1_init cX1_init 1 2 41 D gc h0 1 [.null, .int 0, .int 0, .null, .int 0, .int 0, .int 0, .null, .null, .int 0] [] (X1W gc h0) 15 1669 := by
  refine MI.ofV (by decide +kernel) rfl (Nat.le_of_ble_eq_true rfl) (fun K hC hr hnm hA hQ => ?_)
  have hC : CL K D gc cX1_init 1 RX1 2 41 15 1669 := hC
  show VL K D 1 0 0 ((h0, .inr (1, [.null, .int 0, .int 0, .null, .int 0, .int 0, .int 0, .null, .null, .int 0])) :: []) 0 [(0, .ref h0)] []
  refine VL_aload_n 0 hC dX1_init_0 rfl rfl ?_
  refine VL_obj hC lo_X1_3 oi_im oi_c (Nat.le_of_ble_eq_true rfl) (by decide) (by decide) dX1_init_1 ?_
  refine VL_aload_n 0 hC dX1_init_4 rfl rfl ?_
  refine VL_newC (ci := 0) (fs := [.int 0, .int 0, .null, .null, .null, .null, .null, .null, .null, .null, .null, .null, .null]) hC uw_X0 pl_X0 rfl cq_X1_9 in_X0 it_X0 (by decide +kernel) (Nat.le_of_ble_eq_true rfl) (Nat.le_of_ble_eq_true rfl) dX1_init_5 (fun q1 => ?_)
  refine VL_dup hC dX1_init_8 rfl ?_
  refine VL_initNC (As := []) hC (i_X0 (h0 := q1)) mi_X0 rfl ii_X0 hC.2.2.2.2.2.2.1.2.2.1 rfl rfl (Nat.le_of_ble_eq_true rfl) ⟨by decide, by decide⟩ ⟨Nat.le_of_ble_eq_true rfl, Nat.le_of_ble_eq_true rfl⟩ dX1_init_9 (fun u2 => ?_)
  refine VL_putF (fs' := [.ref q1, .int 0, .int 0, .null, .int 0, .int 0, .int 0, .null, .null, .int 0]) hC hnm fk_X1_12 pl_X1 rfl rfl rfl rfl (Nat.le_of_ble_eq_true rfl) rfl dX1_init_12 ?_
  refine VL_aload_n 0 hC dX1_init_15 rfl rfl ?_
  refine VL_iconst (v := 0) hC dX1_init_16 rfl ?_
  refine VL_put (fs' := [.ref q1, .int 0, .int 0, .null, .int 0, .int 0, .int 0, .null, .null, .int 0]) hC fk_X1_18 pl_X1 rfl rfl rfl (Nat.le_of_ble_eq_true rfl) rfl dX1_init_17 ?_
  refine VL_aload_n 0 hC dX1_init_20 rfl rfl ?_
  refine VL_iconst (v := -1) hC dX1_init_21 rfl ?_
  refine VL_put (fs' := [.ref q1, .int 0, .int (-1), .null, .int 0, .int 0, .int 0, .null, .null, .int 0]) hC fk_X1_22 pl_X1 rfl rfl rfl (Nat.le_of_ble_eq_true rfl) rfl dX1_init_22 ?_
  refine VL_aload_n 0 hC dX1_init_25 rfl rfl ?_
  refine VL_sipush (v := 600) hC dX1_init_26 rfl ?_
  refine VL_newaC (atype := .byte) (t := 1) (w := 600) hC ac_byte rfl (by decide) (by decide +kernel) (by decide +kernel) (Nat.le_of_ble_eq_true rfl) (Nat.le_of_ble_eq_true rfl) (Nat.le_of_ble_eq_true rfl) dX1_init_29 (fun q3 => ?_)
  refine VL_putF (fs' := [.ref q1, .int 0, .int (-1), .ref q3, .int 0, .int 0, .int 0, .null, .null, .int 0]) hC hnm fk_X1_25 pl_X1 rfl rfl rfl rfl (Nat.le_of_ble_eq_true rfl) rfl dX1_init_31 ?_
  refine VL_aload_n 0 hC dX1_init_34 rfl rfl ?_
  refine VL_iconst (v := 0) hC dX1_init_35 rfl ?_
  refine VL_put (fs' := [.ref q1, .int 0, .int (-1), .ref q3, .int 0, .int 0, .int 0, .null, .null, .int 0]) hC fk_X1_29 pl_X1 rfl rfl rfl (Nat.le_of_ble_eq_true rfl) rfl dX1_init_36 ?_
  refine VL_aload_n 0 hC dX1_init_39 rfl rfl ?_
  refine VL_iconst (v := 0) hC dX1_init_40 rfl ?_
  refine VL_put (fs' := [.ref q1, .int 0, .int (-1), .ref q3, .int 0, .int 0, .int 0, .null, .null, .int 0]) hC fk_X1_32 pl_X1 rfl rfl rfl (Nat.le_of_ble_eq_true rfl) rfl dX1_init_41 ?_
  refine VL_aload_n 0 hC dX1_init_44 rfl rfl ?_
  refine VL_iconst (v := 0) hC dX1_init_45 rfl ?_
  refine VL_put (fs' := [.ref q1, .int 0, .int (-1), .ref q3, .int 0, .int 0, .int 0, .null, .null, .int 0]) hC fk_X1_35 pl_X1 rfl rfl rfl (Nat.le_of_ble_eq_true rfl) rfl dX1_init_46 ?_
  refine VL_aload_n 0 hC dX1_init_49 rfl rfl ?_
  refine VL_sipush (v := 144) hC dX1_init_50 rfl ?_
  refine VL_newaC (atype := .int) (t := 0) (w := 144) hC ac_int rfl (by decide) (by decide +kernel) (by decide +kernel) (Nat.le_of_ble_eq_true rfl) (Nat.le_of_ble_eq_true rfl) (Nat.le_of_ble_eq_true rfl) dX1_init_53 (fun q4 => ?_)
  refine VL_putF (fs' := [.ref q1, .int 0, .int (-1), .ref q3, .int 0, .int 0, .int 0, .ref q4, .null, .int 0]) hC hnm fk_X1_39 pl_X1 rfl rfl rfl rfl (Nat.le_of_ble_eq_true rfl) rfl dX1_init_55 ?_
  refine VL_aload_n 0 hC dX1_init_58 rfl rfl ?_
  refine VL_sipush (v := 144) hC dX1_init_59 rfl ?_
  refine VL_newaC (atype := .int) (t := 0) (w := 144) hC ac_int rfl (by decide) (by decide +kernel) (by decide +kernel) (Nat.le_of_ble_eq_true rfl) (Nat.le_of_ble_eq_true rfl) (Nat.le_of_ble_eq_true rfl) dX1_init_62 (fun q5 => ?_)
  refine VL_putF (fs' := [.ref q1, .int 0, .int (-1), .ref q3, .int 0, .int 0, .int 0, .ref q4, .ref q5, .int 0]) hC hnm fk_X1_43 pl_X1 rfl rfl rfl rfl (Nat.le_of_ble_eq_true rfl) rfl dX1_init_64 ?_
  refine VL_aload_n 0 hC dX1_init_67 rfl rfl ?_
  refine VL_iconst (v := 0) hC dX1_init_68 rfl ?_
  refine VL_put (fs' := [.ref q1, .int 0, .int (-1), .ref q3, .int 0, .int 0, .int 0, .ref q4, .ref q5, .int 0]) hC fk_X1_46 pl_X1 rfl rfl rfl (Nat.le_of_ble_eq_true rfl) rfl dX1_init_69 ?_
  exact VL_vret (S := SX1) (q1, u2, q3, q4, q5) hC hr hA hQ rfl (Nat.le_of_ble_eq_true rfl) (Nat.le_of_ble_eq_true rfl) dX1_init_72
abbrev SX2 : Type := Nat × Nat × Nat
def X2W (gc : Nat → ClassId) (h0 b : Nat) (s : SX2) : va_W := (h0, .inr (2, [.ref b, .ref s.1, .int 0, .int 0, .int 0, .int 0, .int 0, .ref s.2.1, .ref s.2.2])) :: ([] ++ [(s.1, .inl (gc 0, 24, .inl (numF 24)))] ++ [(s.2.1, .inl (gc 0, 576, .inl (fun _ => 0)))] ++ [(s.2.2, .inl (gc 0, 24, .inl (fun _ => 0)))])
set_option maxRecDepth 20000 in
theorem i_X2 {l : Launch} {D : va_G} {gc : Nat → ClassId} {h0 b : Nat} : MI l yX2_init cX2_init 3 1 21 D gc h0 2 [.null, .null, .int 0, .int 0, .int 0, .int 0, .int 0, .null, .null] [.ref b] (X2W gc h0 b) 3 624 := by
  refine MI.ofV (by decide +kernel) rfl (Nat.le_of_ble_eq_true rfl) (fun K hC hr hnm hA hQ => ?_)
  have hC : CL K D gc cX2_init 3 RX2 1 21 3 624 := hC
  show VL K D 3 0 0 ((h0, .inr (2, [.null, .null, .int 0, .int 0, .int 0, .int 0, .int 0, .null, .null])) :: []) 0 [(0, .ref h0), (1, .ref b)] []
  refine VL_aload_n 0 hC dX2_init_0 rfl rfl ?_
  refine VL_obj hC lo_X2_3 oi_im oi_c (Nat.le_of_ble_eq_true rfl) (by decide) (by decide) dX2_init_1 ?_
  refine VL_aload_n 0 hC dX2_init_4 rfl rfl ?_
  refine VL_bipush (v := 24) hC dX2_init_5 rfl ?_
  refine VL_newaC (atype := .int) (t := 0) (w := 24) hC ac_int rfl (by decide) (by decide +kernel) (by decide +kernel) (Nat.le_of_ble_eq_true rfl) (Nat.le_of_ble_eq_true rfl) (Nat.le_of_ble_eq_true rfl) dX2_init_7 (fun q1 => ?_)
  refine VL_putF (fs' := [.null, .ref q1, .int 0, .int 0, .int 0, .int 0, .int 0, .null, .null]) hC hnm fk_X2_9 pl_X2 rfl rfl rfl rfl (Nat.le_of_ble_eq_true rfl) rfl dX2_init_9 ?_
  refine VL_aload_n 0 hC dX2_init_12 rfl rfl ?_
  refine VL_iconst (v := 0) hC dX2_init_13 rfl ?_
  refine VL_put (fs' := [.null, .ref q1, .int 0, .int 0, .int 0, .int 0, .int 0, .null, .null]) hC fk_X2_15 pl_X2 rfl rfl rfl (Nat.le_of_ble_eq_true rfl) rfl dX2_init_14 ?_
  refine VL_aload_n 0 hC dX2_init_17 rfl rfl ?_
  refine VL_iconst (v := 0) hC dX2_init_18 rfl ?_
  refine VL_put (fs' := [.null, .ref q1, .int 0, .int 0, .int 0, .int 0, .int 0, .null, .null]) hC fk_X2_19 pl_X2 rfl rfl rfl (Nat.le_of_ble_eq_true rfl) rfl dX2_init_19 ?_
  refine VL_aload_n 0 hC dX2_init_22 rfl rfl ?_
  refine VL_iconst (v := 0) hC dX2_init_23 rfl ?_
  refine VL_put (fs' := [.null, .ref q1, .int 0, .int 0, .int 0, .int 0, .int 0, .null, .null]) hC fk_X2_23 pl_X2 rfl rfl rfl (Nat.le_of_ble_eq_true rfl) rfl dX2_init_24 ?_
  refine VL_aload_n 0 hC dX2_init_27 rfl rfl ?_
  refine VL_iconst (v := 0) hC dX2_init_28 rfl ?_
  refine VL_put (fs' := [.null, .ref q1, .int 0, .int 0, .int 0, .int 0, .int 0, .null, .null]) hC fk_X2_26 pl_X2 rfl rfl rfl (Nat.le_of_ble_eq_true rfl) rfl dX2_init_29 ?_
  refine VL_aload_n 0 hC dX2_init_32 rfl rfl ?_
  refine VL_iconst (v := 0) hC dX2_init_33 rfl ?_
  refine VL_put (fs' := [.null, .ref q1, .int 0, .int 0, .int 0, .int 0, .int 0, .null, .null]) hC fk_X2_29 pl_X2 rfl rfl rfl (Nat.le_of_ble_eq_true rfl) rfl dX2_init_34 ?_
  refine VL_aload_n 0 hC dX2_init_37 rfl rfl ?_
  refine VL_sipush (v := 576) hC dX2_init_38 rfl ?_
  refine VL_newaC (atype := .int) (t := 0) (w := 576) hC ac_int rfl (by decide) (by decide +kernel) (by decide +kernel) (Nat.le_of_ble_eq_true rfl) (Nat.le_of_ble_eq_true rfl) (Nat.le_of_ble_eq_true rfl) dX2_init_41 (fun q2 => ?_)
  refine VL_putF (fs' := [.null, .ref q1, .int 0, .int 0, .int 0, .int 0, .int 0, .ref q2, .null]) hC hnm fk_X2_32 pl_X2 rfl rfl rfl rfl (Nat.le_of_ble_eq_true rfl) rfl dX2_init_43 ?_
  refine VL_aload_n 0 hC dX2_init_46 rfl rfl ?_
  refine VL_bipush (v := 24) hC dX2_init_47 rfl ?_
  refine VL_newaC (atype := .int) (t := 0) (w := 24) hC ac_int rfl (by decide) (by decide +kernel) (by decide +kernel) (Nat.le_of_ble_eq_true rfl) (Nat.le_of_ble_eq_true rfl) (Nat.le_of_ble_eq_true rfl) dX2_init_49 (fun q3 => ?_)
  refine VL_putF (fs' := [.null, .ref q1, .int 0, .int 0, .int 0, .int 0, .int 0, .ref q2, .ref q3]) hC hnm fk_X2_35 pl_X2 rfl rfl rfl rfl (Nat.le_of_ble_eq_true rfl) rfl dX2_init_51 ?_
  refine VL_aload_n 0 hC dX2_init_54 rfl rfl ?_
  refine VL_aload_n 1 hC dX2_init_55 rfl rfl ?_
  refine VL_putF (fs' := [.ref b, .ref q1, .int 0, .int 0, .int 0, .int 0, .int 0, .ref q2, .ref q3]) hC hnm fk_X2_38 pl_X2 rfl rfl rfl rfl (Nat.le_of_ble_eq_true rfl) rfl dX2_init_56 ?_
  refine VL_iconst (v := 0) hC dX2_init_59 rfl ?_
  refine VL_istore_n (lv' := [(2, .int 0), (0, .ref h0), (1, .ref b)]) hC dX2_init_60 rfl (by decide) rfl ?_
  have lp : ∀ (m i : Nat), i + m = 24 → VL K D 3 3 624 ((h0, .inr (2, [.ref b, .ref q1, .int 0, .int 0, .int 0, .int 0, .int 0, .ref q2, .ref q3])) :: ([] ++ [(q1, .inl (gc 0, 24, .inl (numF i)))] ++ [(q2, .inl (gc 0, 576, .inl (fun _ => 0)))] ++ [(q3, .inl (gc 0, 24, .inl (fun _ => 0)))])) 61 [(2, .int (nI i)), (0, .ref h0), (1, .ref b)] [] := by
    intro m
    induction m with
    | zero =>
      intro i hi
      have hi : i = 24 := by omega
      subst hi
      refine VL_iload_n 0 hC dX2_init_61 rfl rfl ?_
      refine VL_bipush (v := 24) hC dX2_init_62 rfl ?_
      refine VL_icmp_ge (tgt := 82) hC dX2_init_64 (by decide) (fun _ => ?_) (fun c => absurd (by decide) c)
      exact VL_vret (S := SX2) (q1, q2, q3) hC hr hA hQ rfl (Nat.le_of_ble_eq_true rfl) (Nat.le_of_ble_eq_true rfl) dX2_init_82
    | succ m ih =>
      intro i hi
      refine VL_iload_n 0 hC dX2_init_61 rfl rfl ?_
      refine VL_bipush (v := 24) hC dX2_init_62 rfl ?_
      refine VL_icmp_ge (tgt := 82) hC dX2_init_64 (by decide) (fun c => absurd c (nI_ge (a := i) (b := 24) (by omega) (by decide))) (fun _ => ?_)
      refine VL_aload_n 1 hC dX2_init_67 rfl rfl ?_
      refine VL_get hC fk_X2_9 rfl dX2_init_68 ?_
      refine VL_iload_n 0 hC dX2_init_71 rfl rfl ?_
      refine VL_iload_n 0 hC dX2_init_72 rfl rfl ?_
      refine VL_iconst (v := 1) hC dX2_init_73 rfl ?_
      refine VL_iadd hC dX2_init_74 ?_
      have hin : inb (nI i) 24 = true := by
        have : (nI i).toInt = (i : Int) := nI_toInt (by omega)
        simp [inb, this]
        omega
      refine VL_iast (p := 1) hC rfl hin dX2_init_75 ?_
      rw [numF_s (by omega)]
      refine VL_iinc (v := nI (i + 1)) (lv' := [(2, .int (nI (i + 1))), (0, .ref h0), (1, .ref b)]) 0 hC dX2_init_76 rfl (nI_1 i) (by decide) rfl ?_
      refine VL_goto (tgt := 61) hC dX2_init_79 (by decide) ?_
      exact ih (i + 1) (by omega)
  have h0n : numF 0 = fun _ => 0 := by
    funext j
    simp [numF]
  have hg := lp 24 0 rfl
  rw [h0n] at hg
  exact hg
