/-! ===== the constructor of ChoiceBook ===== -/
theorem lo_X5_1 : Cond.methodLink RX5 1 objectInit ∈ gt := gt_t 21 (by decide +kernel) rfl
theorem cq_X5_7 : Cond.classLink RX5 7 RX1 ∈ gt := gt_t 24 (by decide +kernel) rfl
theorem in_X1 : Cond.instantiable RX1 10 ∈ gt := gt_t 25 (by decide +kernel) rfl
theorem it_X1 : Cond.initialized RX1 ∈ gt := gt_t 2 (by decide +kernel) rfl
theorem mi_X1 : ME yX1_init cX1_init 1 none 0 := ⟨gt_t 28 (by decide +kernel) rfl, gt_t 2 (by decide +kernel) rfl, by decide +kernel⟩
theorem ii_X1 : Cond.instanceMethod yX1_init ∈ gt := gt_t 27 (by decide +kernel) rfl
theorem cq_X5_37 : Cond.classLink RX5 37 RX0 ∈ gt := gt_t 130 (by decide +kernel) rfl
theorem cq_X5_40 : Cond.classLink RX5 40 RX2 ∈ gt := gt_t 132 (by decide +kernel) rfl
theorem in_X2 : Cond.instantiable RX2 9 ∈ gt := gt_t 133 (by decide +kernel) rfl
theorem it_X2 : Cond.initialized RX2 ∈ gt := gt_t 4 (by decide +kernel) rfl
theorem mi_X2 : ME yX2_init cX2_init 3 none 1 := ⟨gt_t 136 (by decide +kernel) rfl, gt_t 4 (by decide +kernel) rfl, by decide +kernel⟩
theorem ii_X2 : Cond.instanceMethod yX2_init ∈ gt := gt_t 135 (by decide +kernel) rfl
theorem lk_X5_42 : Cond.methodLink RX5 42 yX2_init ∈ gt := gt_t 134 (by decide +kernel) rfl
theorem cq_X5_49 : Cond.classLink RX5 49 RX4 ∈ gt := gt_t 173 (by decide +kernel) rfl
theorem in_X4 : Cond.instantiable RX4 17 ∈ gt := gt_t 174 (by decide +kernel) rfl
theorem it_X4 : Cond.initialized RX4 ∈ gt := gt_t 5 (by decide +kernel) rfl
theorem mi_X4 : ME yX4_init cX4_init 2 none 1 := ⟨gt_t 177 (by decide +kernel) rfl, gt_t 5 (by decide +kernel) rfl, by decide +kernel⟩
theorem ii_X4 : Cond.instanceMethod yX4_init ∈ gt := gt_t 176 (by decide +kernel) rfl
theorem lk_X5_51 : Cond.methodLink RX5 51 yX4_init ∈ gt := gt_t 175 (by decide +kernel) rfl
theorem pm_2 {α : Type} (a b c : List α) : ((a ++ b) ++ c).Perm ((a ++ c) ++ b) := by
  rw [List.append_assoc, List.append_assoc]
  exact List.Perm.append_left a List.perm_append_comm
theorem pm_a {α : Type} (x i : α) (r a b : List α) : x :: (((r ++ [i]) ++ a) ++ b) = (x :: r) ++ (i :: (a ++ b)) := by simp
theorem pm_b {α : Type} (x i : α) (r w a b : List α) : x :: (((r ++ (i :: w)) ++ a) ++ b) = (x :: r) ++ (i :: (w ++ (a ++ b))) := by simp
abbrev SX5 : Type := Nat × SX1 × Nat × Nat × Nat × Nat × Nat × SX0 × Nat × SX2 × Nat × SX4 × Nat × SX4 × Nat × Nat × Nat × SX0 × SX2 × Nat × Nat × SX0 × SX2
def X5W (gc : Nat → ClassId) (h0 : Nat) (s : SX5) : va_W := (h0, .inr (4, [.ref s.1, .ref s.2.2.2.2.2.2.2.2.1, .ref s.2.2.2.2.2.2.2.2.2.2.2.2.2.2.1, .ref s.2.2.1, .int 0, .ref s.2.2.2.2.2.2.2.2.2.2.1, .ref s.2.2.2.2.2.2.2.2.2.2.2.2.1, .int 0, .ref s.2.2.2.1, .ref s.2.2.2.2.1, .ref s.2.2.2.2.2.1])) :: ([] ++ X1W gc s.1 s.2.1 ++ [(s.2.2.1, .inl (gc 0, 60, .inl (fun _ => 0)))] ++ [(s.2.2.2.1, .inl (gc 0, 24, .inl (fun _ => 0)))] ++ [(s.2.2.2.2.1, .inl (gc 0, 24, .inl (fun _ => 0)))] ++ [(s.2.2.2.2.2.1, .inl (gc 0, 24, .inl (fun _ => 0)))] ++ X0W gc s.2.2.2.2.2.2.1 s.2.2.2.2.2.2.2.1 ++ X2W gc s.2.2.2.2.2.2.2.2.1 s.2.2.2.2.2.2.1 s.2.2.2.2.2.2.2.2.2.1 ++ X4W gc s.2.2.2.2.2.2.2.2.2.2.1 s.2.2.2.2.2.2.1 s.2.2.2.2.2.2.2.2.2.2.2.1 ++ X4W gc s.2.2.2.2.2.2.2.2.2.2.2.2.1 s.2.2.2.2.2.2.1 s.2.2.2.2.2.2.2.2.2.2.2.2.2.1 ++ (imr gc s.2.2.2.2.2.2.2.2.2.2.2.2.2.2.1 (va_up (va_up (fun _ => none) (ix 0) (some s.2.2.2.2.2.2.2.2.2.2.2.2.2.2.2.1)) (ix 1) (some s.2.2.2.2.2.2.2.2.2.2.2.2.2.2.2.2.2.2.2.1)) :: (((X0W gc s.2.2.2.2.2.2.2.2.2.2.2.2.2.2.2.2.1 s.2.2.2.2.2.2.2.2.2.2.2.2.2.2.2.2.2.1) ++ (X2W gc s.2.2.2.2.2.2.2.2.2.2.2.2.2.2.2.1 s.2.2.2.2.2.2.2.2.2.2.2.2.2.2.2.2.1 s.2.2.2.2.2.2.2.2.2.2.2.2.2.2.2.2.2.2.1)) ++ ((X0W gc s.2.2.2.2.2.2.2.2.2.2.2.2.2.2.2.2.2.2.2.2.1 s.2.2.2.2.2.2.2.2.2.2.2.2.2.2.2.2.2.2.2.2.2.1) ++ (X2W gc s.2.2.2.2.2.2.2.2.2.2.2.2.2.2.2.2.2.2.2.1 s.2.2.2.2.2.2.2.2.2.2.2.2.2.2.2.2.2.2.2.2.1 s.2.2.2.2.2.2.2.2.2.2.2.2.2.2.2.2.2.2.2.2.2.2)))))
set_option maxHeartbeats 4000000 in
set_option maxRecDepth 20000 in
theorem i_X5 {l : Launch} {D : va_G} {gc : Nat → ClassId} {h0 : Nat} : MI l yX5_init cX5_init 3 3 61 D gc h0 4 [.null, .null, .null, .null, .int 0, .null, .null, .int 0, .null, .null, .null] [] (X5W gc h0) 85 7243 := by
  refine MI.ofV (by decide +kernel) rfl (Nat.le_of_ble_eq_true rfl) (fun K hC hr hnm hA hQ => ?_)
  have hC : CL K D gc cX5_init 3 RX5 3 61 85 7243 := hC
  show VL K D 3 0 0 ((h0, .inr (4, [.null, .null, .null, .null, .int 0, .null, .null, .int 0, .null, .null, .null])) :: []) 0 [(0, .ref h0)] []
  refine VL_aload_n 0 hC dX5_init_0 rfl rfl ?_
  refine VL_obj hC lo_X5_1 oi_im oi_c (Nat.le_of_ble_eq_true rfl) (by decide) (by decide) dX5_init_1 ?_
  refine VL_aload_n 0 hC dX5_init_4 rfl rfl ?_
  refine VL_newC (ci := 1) (fs := [.null, .int 0, .int 0, .null, .int 0, .int 0, .int 0, .null, .null, .int 0]) hC uw_X1 pl_X1 rfl cq_X5_7 in_X1 it_X1 (by decide +kernel) (Nat.le_of_ble_eq_true rfl) (Nat.le_of_ble_eq_true rfl) dX5_init_5 (fun q1 => ?_)
  refine VL_dup hC dX5_init_8 rfl ?_
  refine VL_initNC (As := []) hC (i_X1 (h0 := q1)) mi_X1 rfl ii_X1 hC.2.2.2.2.2.2.1.1 rfl rfl (Nat.le_of_ble_eq_true rfl) ⟨by decide, by decide⟩ ⟨Nat.le_of_ble_eq_true rfl, Nat.le_of_ble_eq_true rfl⟩ dX5_init_9 (fun u2 => ?_)
  refine VL_putF (fs' := [.ref q1, .null, .null, .null, .int 0, .null, .null, .int 0, .null, .null, .null]) hC hnm fk_X5_10 pl_X5 rfl rfl rfl rfl (Nat.le_of_ble_eq_true rfl) rfl dX5_init_12 ?_
  refine VL_aload_n 0 hC dX5_init_15 rfl rfl ?_
  refine VL_bipush (v := 60) hC dX5_init_16 rfl ?_
  refine VL_newaC (atype := .int) (t := 0) (w := 60) hC ac_int rfl (by decide) (by decide +kernel) (by decide +kernel) (Nat.le_of_ble_eq_true rfl) (Nat.le_of_ble_eq_true rfl) (Nat.le_of_ble_eq_true rfl) dX5_init_18 (fun q3 => ?_)
  refine VL_putF (fs' := [.ref q1, .null, .null, .ref q3, .int 0, .null, .null, .int 0, .null, .null, .null]) hC hnm fk_X5_16 pl_X5 rfl rfl rfl rfl (Nat.le_of_ble_eq_true rfl) rfl dX5_init_20 ?_
  refine VL_aload_n 0 hC dX5_init_23 rfl rfl ?_
  refine VL_iconst (v := 0) hC dX5_init_24 rfl ?_
  refine VL_put (fs' := [.ref q1, .null, .null, .ref q3, .int 0, .null, .null, .int 0, .null, .null, .null]) hC fk_X5_20 pl_X5 rfl rfl rfl (Nat.le_of_ble_eq_true rfl) rfl dX5_init_25 ?_
  refine VL_aload_n 0 hC dX5_init_28 rfl rfl ?_
  refine VL_iconst (v := 0) hC dX5_init_29 rfl ?_
  refine VL_put (fs' := [.ref q1, .null, .null, .ref q3, .int 0, .null, .null, .int 0, .null, .null, .null]) hC fk_X5_24 pl_X5 rfl rfl rfl (Nat.le_of_ble_eq_true rfl) rfl dX5_init_30 ?_
  refine VL_aload_n 0 hC dX5_init_33 rfl rfl ?_
  refine VL_bipush (v := 24) hC dX5_init_34 rfl ?_
  refine VL_newaC (atype := .int) (t := 0) (w := 24) hC ac_int rfl (by decide) (by decide +kernel) (by decide +kernel) (Nat.le_of_ble_eq_true rfl) (Nat.le_of_ble_eq_true rfl) (Nat.le_of_ble_eq_true rfl) dX5_init_36 (fun q4 => ?_)
  refine VL_putF (fs' := [.ref q1, .null, .null, .ref q3, .int 0, .null, .null, .int 0, .ref q4, .null, .null]) hC hnm fk_X5_28 pl_X5 rfl rfl rfl rfl (Nat.le_of_ble_eq_true rfl) rfl dX5_init_38 ?_
  refine VL_aload_n 0 hC dX5_init_41 rfl rfl ?_
  refine VL_bipush (v := 24) hC dX5_init_42 rfl ?_
  refine VL_newaC (atype := .int) (t := 0) (w := 24) hC ac_int rfl (by decide) (by decide +kernel) (by decide +kernel) (Nat.le_of_ble_eq_true rfl) (Nat.le_of_ble_eq_true rfl) (Nat.le_of_ble_eq_true rfl) dX5_init_44 (fun q5 => ?_)
  refine VL_putF (fs' := [.ref q1, .null, .null, .ref q3, .int 0, .null, .null, .int 0, .ref q4, .ref q5, .null]) hC hnm fk_X5_31 pl_X5 rfl rfl rfl rfl (Nat.le_of_ble_eq_true rfl) rfl dX5_init_46 ?_
  refine VL_aload_n 0 hC dX5_init_49 rfl rfl ?_
  refine VL_bipush (v := 24) hC dX5_init_50 rfl ?_
  refine VL_newaC (atype := .int) (t := 0) (w := 24) hC ac_int rfl (by decide) (by decide +kernel) (by decide +kernel) (Nat.le_of_ble_eq_true rfl) (Nat.le_of_ble_eq_true rfl) (Nat.le_of_ble_eq_true rfl) dX5_init_52 (fun q6 => ?_)
  refine VL_putF (fs' := [.ref q1, .null, .null, .ref q3, .int 0, .null, .null, .int 0, .ref q4, .ref q5, .ref q6]) hC hnm fk_X5_34 pl_X5 rfl rfl rfl rfl (Nat.le_of_ble_eq_true rfl) rfl dX5_init_54 ?_
  refine VL_newC (ci := 0) (fs := [.int 0, .int 0, .null, .null, .null, .null, .null, .null, .null, .null, .null, .null, .null]) hC uw_X0 pl_X0 rfl cq_X5_37 in_X0 it_X0 (by decide +kernel) (Nat.le_of_ble_eq_true rfl) (Nat.le_of_ble_eq_true rfl) dX5_init_57 (fun q7 => ?_)
  refine VL_dup hC dX5_init_60 rfl ?_
  refine VL_initNC (As := []) hC (i_X0 (h0 := q7)) mi_X0 rfl ii_X0 hC.2.2.2.2.2.2.1.2.1 rfl rfl (Nat.le_of_ble_eq_true rfl) ⟨by decide, by decide⟩ ⟨Nat.le_of_ble_eq_true rfl, Nat.le_of_ble_eq_true rfl⟩ dX5_init_61 (fun u8 => ?_)
  refine VL_astore_n (lv' := [(1, .ref q7), (0, .ref h0)]) hC dX5_init_64 rfl (by decide) rfl ?_
  refine VL_aload_n 1 hC dX5_init_65 rfl rfl ?_
  refine VL_newC (ci := 2) (fs := [.null, .null, .int 0, .int 0, .int 0, .int 0, .int 0, .null, .null]) hC uw_X2 pl_X2 rfl cq_X5_40 in_X2 it_X2 (by decide +kernel) (Nat.le_of_ble_eq_true rfl) (Nat.le_of_ble_eq_true rfl) dX5_init_66 (fun q9 => ?_)
  refine VL_dup hC dX5_init_69 rfl ?_
  refine VL_aload_n 0 hC dX5_init_70 rfl rfl ?_
  refine VL_initC (As := [.ref q7]) hC (i_X2 (h0 := q9) (b := q7)) mi_X2 rfl ii_X2 lk_X5_42 rfl rfl (Nat.le_of_ble_eq_true rfl) ⟨by decide, by decide⟩ ⟨Nat.le_of_ble_eq_true rfl, Nat.le_of_ble_eq_true rfl⟩ dX5_init_71 (fun u10 => ?_)
  refine VL_putF (fs' := [.ref q1, .ref q9, .null, .ref q3, .int 0, .null, .null, .int 0, .ref q4, .ref q5, .ref q6]) hC hnm fk_X5_45 pl_X5 rfl rfl rfl rfl (Nat.le_of_ble_eq_true rfl) rfl dX5_init_74 ?_
  refine VL_aload_n 1 hC dX5_init_77 rfl rfl ?_
  refine VL_newC (ci := 3) (fs := [.int 0, .int 0, .int 0, .null, .int 0, .int 0, .int 0, .null, .null, .null, .null, .null, .null, .int 0, .int 0, .null, .int 0]) hC uw_X4 pl_X4 rfl cq_X5_49 in_X4 it_X4 (by decide +kernel) (Nat.le_of_ble_eq_true rfl) (Nat.le_of_ble_eq_true rfl) dX5_init_78 (fun q11 => ?_)
  refine VL_dup hC dX5_init_81 rfl ?_
  refine VL_aload_n 0 hC dX5_init_82 rfl rfl ?_
  refine VL_initC (As := [.ref q7]) hC (i_X4 (h0 := q11) (b := q7)) mi_X4 rfl ii_X4 lk_X5_51 rfl rfl (Nat.le_of_ble_eq_true rfl) ⟨by decide, by decide⟩ ⟨Nat.le_of_ble_eq_true rfl, Nat.le_of_ble_eq_true rfl⟩ dX5_init_83 (fun u12 => ?_)
  refine VL_putF (fs' := [.ref q1, .ref q9, .null, .ref q3, .int 0, .ref q11, .null, .int 0, .ref q4, .ref q5, .ref q6]) hC hnm fk_X5_52 pl_X5 rfl rfl rfl rfl (Nat.le_of_ble_eq_true rfl) rfl dX5_init_86 ?_
  refine VL_aload_n 1 hC dX5_init_89 rfl rfl ?_
  refine VL_newC (ci := 3) (fs := [.int 0, .int 0, .int 0, .null, .int 0, .int 0, .int 0, .null, .null, .null, .null, .null, .null, .int 0, .int 0, .null, .int 0]) hC uw_X4 pl_X4 rfl cq_X5_49 in_X4 it_X4 (by decide +kernel) (Nat.le_of_ble_eq_true rfl) (Nat.le_of_ble_eq_true rfl) dX5_init_90 (fun q13 => ?_)
  refine VL_dup hC dX5_init_93 rfl ?_
  refine VL_aload_n 0 hC dX5_init_94 rfl rfl ?_
  refine VL_initC (As := [.ref q7]) hC (i_X4 (h0 := q13) (b := q7)) mi_X4 rfl ii_X4 lk_X5_51 rfl rfl (Nat.le_of_ble_eq_true rfl) ⟨by decide, by decide⟩ ⟨Nat.le_of_ble_eq_true rfl, Nat.le_of_ble_eq_true rfl⟩ dX5_init_95 (fun u14 => ?_)
  refine VL_putF (fs' := [.ref q1, .ref q9, .null, .ref q3, .int 0, .ref q11, .ref q13, .int 0, .ref q4, .ref q5, .ref q6]) hC hnm fk_X5_56 pl_X5 rfl rfl rfl rfl (Nat.le_of_ble_eq_true rfl) rfl dX5_init_98 ?_
  refine VL_aload_n 1 hC dX5_init_101 rfl rfl ?_
  refine VL_iconst (v := 2) hC dX5_init_102 rfl ?_
  refine VL_newimC hC cq_X5_40 (Nat.le_of_ble_eq_true rfl) (Nat.le_of_ble_eq_true rfl) dX5_init_103 (fun qI => ?_)
  refine VL_putF (fs' := [.ref q1, .ref q9, .ref qI, .ref q3, .int 0, .ref q11, .ref q13, .int 0, .ref q4, .ref q5, .ref q6]) hC hnm fk_X5_59 pl_X5 rfl rfl rfl rfl (Nat.le_of_ble_eq_true rfl) rfl dX5_init_106 ?_
  refine VL_iconst (v := 0) hC dX5_init_109 rfl ?_
  refine VL_istore_n (lv' := [(2, .int 0), (1, .ref q7), (0, .ref h0)]) hC dX5_init_110 rfl (by decide) rfl ?_
  refine VL_iload_n 0 hC dX5_init_111 rfl rfl ?_
  refine VL_iconst (v := 2) hC dX5_init_112 rfl ?_
  refine VL_icmp_ge (tgt := 142) hC dX5_init_113 (by decide) (fun c => absurd c (by decide)) (fun _ => ?_)
  refine VL_aload_n 2 hC dX5_init_116 rfl rfl ?_
  refine VL_get hC fk_X5_59 rfl dX5_init_117 ?_
  refine VL_iload_n 0 hC dX5_init_120 rfl rfl ?_
  refine VL_newC (ci := 2) (fs := [.null, .null, .int 0, .int 0, .int 0, .int 0, .int 0, .null, .null]) hC uw_X2 pl_X2 rfl cq_X5_40 in_X2 it_X2 (by decide +kernel) (Nat.le_of_ble_eq_true rfl) (Nat.le_of_ble_eq_true rfl) dX5_init_121 (fun qs0 => ?_)
  refine VL_dup hC dX5_init_124 rfl ?_
  refine VL_newC (ci := 0) (fs := [.int 0, .int 0, .null, .null, .null, .null, .null, .null, .null, .null, .null, .null, .null]) hC uw_X0 pl_X0 rfl cq_X5_37 in_X0 it_X0 (by decide +kernel) (Nat.le_of_ble_eq_true rfl) (Nat.le_of_ble_eq_true rfl) dX5_init_125 (fun qb0 => ?_)
  refine VL_dup hC dX5_init_128 rfl ?_
  refine VL_initNC (As := []) hC (i_X0 (h0 := qb0)) mi_X0 rfl ii_X0 hC.2.2.2.2.2.2.1.2.1 rfl rfl (Nat.le_of_ble_eq_true rfl) ⟨by decide, by decide⟩ ⟨Nat.le_of_ble_eq_true rfl, Nat.le_of_ble_eq_true rfl⟩ dX5_init_129 (fun ub0 => ?_)
  refine VL_perm (ws' := (h0, .inr (4, [.ref q1, .ref q9, .ref qI, .ref q3, .int 0, .ref q11, .ref q13, .int 0, .ref q4, .ref q5, .ref q6])) :: ((([] ++ X1W gc q1 u2 ++ [(q3, .inl (gc 0, 60, .inl (fun _ => 0)))] ++ [(q4, .inl (gc 0, 24, .inl (fun _ => 0)))] ++ [(q5, .inl (gc 0, 24, .inl (fun _ => 0)))] ++ [(q6, .inl (gc 0, 24, .inl (fun _ => 0)))] ++ X0W gc q7 u8 ++ X2W gc q9 q7 u10 ++ X4W gc q11 q7 u12 ++ X4W gc q13 q7 u14 ++ [imr gc qI (fun _ => none)]) ++ X0W gc qb0 ub0) ++ [(qs0, .inr (2, [.null, .null, .int 0, .int 0, .int 0, .int 0, .int 0, .null, .null]))])) (List.Perm.cons _ (pm_2 _ _ _)) ?_
  refine VL_initC (As := [.ref qb0]) hC (i_X2 (h0 := qs0) (b := qb0)) mi_X2 rfl ii_X2 lk_X5_42 rfl rfl (Nat.le_of_ble_eq_true rfl) ⟨by decide, by decide⟩ ⟨Nat.le_of_ble_eq_true rfl, Nat.le_of_ble_eq_true rfl⟩ dX5_init_132 (fun us0 => ?_)
  refine VL_perm (ws' := ((h0, .inr (4, [.ref q1, .ref q9, .ref qI, .ref q3, .int 0, .ref q11, .ref q13, .int 0, .ref q4, .ref q5, .ref q6])) :: ([] ++ X1W gc q1 u2 ++ [(q3, .inl (gc 0, 60, .inl (fun _ => 0)))] ++ [(q4, .inl (gc 0, 24, .inl (fun _ => 0)))] ++ [(q5, .inl (gc 0, 24, .inl (fun _ => 0)))] ++ [(q6, .inl (gc 0, 24, .inl (fun _ => 0)))] ++ X0W gc q7 u8 ++ X2W gc q9 q7 u10 ++ X4W gc q11 q7 u12 ++ X4W gc q13 q7 u14)) ++ (imr gc qI (fun _ => none) :: ((X0W gc qb0 ub0) ++ (X2W gc qs0 qb0 us0)))) (List.Perm.of_eq (pm_a _ _ _ _ _)) ?_
  refine VL_aast (ci := 2) (r := (RX2, TX2, 9)) hC (List.mem_append_right _ (List.mem_cons_of_mem _ (List.mem_append_right _ List.mem_cons_self))) rfl rfl (by decide) dX5_init_135 ?_
  refine VL_iinc (v := 1) (lv' := [(2, .int 1), (1, .ref q7), (0, .ref h0)]) 0 hC dX5_init_136 rfl rfl (by decide) rfl ?_
  refine VL_goto (tgt := 111) hC dX5_init_139 (by decide) ?_
  refine VL_perm (ws' := (h0, .inr (4, [.ref q1, .ref q9, .ref qI, .ref q3, .int 0, .ref q11, .ref q13, .int 0, .ref q4, .ref q5, .ref q6])) :: ([] ++ X1W gc q1 u2 ++ [(q3, .inl (gc 0, 60, .inl (fun _ => 0)))] ++ [(q4, .inl (gc 0, 24, .inl (fun _ => 0)))] ++ [(q5, .inl (gc 0, 24, .inl (fun _ => 0)))] ++ [(q6, .inl (gc 0, 24, .inl (fun _ => 0)))] ++ X0W gc q7 u8 ++ X2W gc q9 q7 u10 ++ X4W gc q11 q7 u12 ++ X4W gc q13 q7 u14 ++ (imr gc qI (va_up (fun _ => none) (ix 0) (some qs0)) :: ((X0W gc qb0 ub0) ++ (X2W gc qs0 qb0 us0))))) (List.Perm.of_eq rfl) ?_
  refine VL_iload_n 0 hC dX5_init_111 rfl rfl ?_
  refine VL_iconst (v := 2) hC dX5_init_112 rfl ?_
  refine VL_icmp_ge (tgt := 142) hC dX5_init_113 (by decide) (fun c => absurd c (by decide)) (fun _ => ?_)
  refine VL_aload_n 2 hC dX5_init_116 rfl rfl ?_
  refine VL_get hC fk_X5_59 rfl dX5_init_117 ?_
  refine VL_iload_n 0 hC dX5_init_120 rfl rfl ?_
  refine VL_newC (ci := 2) (fs := [.null, .null, .int 0, .int 0, .int 0, .int 0, .int 0, .null, .null]) hC uw_X2 pl_X2 rfl cq_X5_40 in_X2 it_X2 (by decide +kernel) (Nat.le_of_ble_eq_true rfl) (Nat.le_of_ble_eq_true rfl) dX5_init_121 (fun qs1 => ?_)
  refine VL_dup hC dX5_init_124 rfl ?_
  refine VL_newC (ci := 0) (fs := [.int 0, .int 0, .null, .null, .null, .null, .null, .null, .null, .null, .null, .null, .null]) hC uw_X0 pl_X0 rfl cq_X5_37 in_X0 it_X0 (by decide +kernel) (Nat.le_of_ble_eq_true rfl) (Nat.le_of_ble_eq_true rfl) dX5_init_125 (fun qb1 => ?_)
  refine VL_dup hC dX5_init_128 rfl ?_
  refine VL_initNC (As := []) hC (i_X0 (h0 := qb1)) mi_X0 rfl ii_X0 hC.2.2.2.2.2.2.1.2.1 rfl rfl (Nat.le_of_ble_eq_true rfl) ⟨by decide, by decide⟩ ⟨Nat.le_of_ble_eq_true rfl, Nat.le_of_ble_eq_true rfl⟩ dX5_init_129 (fun ub1 => ?_)
  refine VL_perm (ws' := (h0, .inr (4, [.ref q1, .ref q9, .ref qI, .ref q3, .int 0, .ref q11, .ref q13, .int 0, .ref q4, .ref q5, .ref q6])) :: ((([] ++ X1W gc q1 u2 ++ [(q3, .inl (gc 0, 60, .inl (fun _ => 0)))] ++ [(q4, .inl (gc 0, 24, .inl (fun _ => 0)))] ++ [(q5, .inl (gc 0, 24, .inl (fun _ => 0)))] ++ [(q6, .inl (gc 0, 24, .inl (fun _ => 0)))] ++ X0W gc q7 u8 ++ X2W gc q9 q7 u10 ++ X4W gc q11 q7 u12 ++ X4W gc q13 q7 u14 ++ (imr gc qI (va_up (fun _ => none) (ix 0) (some qs0)) :: ((X0W gc qb0 ub0) ++ (X2W gc qs0 qb0 us0)))) ++ X0W gc qb1 ub1) ++ [(qs1, .inr (2, [.null, .null, .int 0, .int 0, .int 0, .int 0, .int 0, .null, .null]))])) (List.Perm.cons _ (pm_2 _ _ _)) ?_
  refine VL_initC (As := [.ref qb1]) hC (i_X2 (h0 := qs1) (b := qb1)) mi_X2 rfl ii_X2 lk_X5_42 rfl rfl (Nat.le_of_ble_eq_true rfl) ⟨by decide, by decide⟩ ⟨Nat.le_of_ble_eq_true rfl, Nat.le_of_ble_eq_true rfl⟩ dX5_init_132 (fun us1 => ?_)
  refine VL_perm (ws' := ((h0, .inr (4, [.ref q1, .ref q9, .ref qI, .ref q3, .int 0, .ref q11, .ref q13, .int 0, .ref q4, .ref q5, .ref q6])) :: ([] ++ X1W gc q1 u2 ++ [(q3, .inl (gc 0, 60, .inl (fun _ => 0)))] ++ [(q4, .inl (gc 0, 24, .inl (fun _ => 0)))] ++ [(q5, .inl (gc 0, 24, .inl (fun _ => 0)))] ++ [(q6, .inl (gc 0, 24, .inl (fun _ => 0)))] ++ X0W gc q7 u8 ++ X2W gc q9 q7 u10 ++ X4W gc q11 q7 u12 ++ X4W gc q13 q7 u14)) ++ (imr gc qI (va_up (fun _ => none) (ix 0) (some qs0)) :: (((X0W gc qb0 ub0) ++ (X2W gc qs0 qb0 us0)) ++ ((X0W gc qb1 ub1) ++ (X2W gc qs1 qb1 us1))))) (List.Perm.of_eq (pm_b _ _ _ _ _ _)) ?_
  refine VL_aast (ci := 2) (r := (RX2, TX2, 9)) hC (List.mem_append_right _ (List.mem_cons_of_mem _ (List.mem_append_right _ (List.mem_append_right _ List.mem_cons_self)))) rfl rfl (by decide) dX5_init_135 ?_
  refine VL_iinc (v := 2) (lv' := [(2, .int 2), (1, .ref q7), (0, .ref h0)]) 0 hC dX5_init_136 rfl rfl (by decide) rfl ?_
  refine VL_goto (tgt := 111) hC dX5_init_139 (by decide) ?_
  refine VL_iload_n 0 hC dX5_init_111 rfl rfl ?_
  refine VL_iconst (v := 2) hC dX5_init_112 rfl ?_
  refine VL_icmp_ge (tgt := 142) hC dX5_init_113 (by decide) (fun _ => ?_) (fun c => absurd (by decide) c)
  exact VL_vret (S := SX5) (q1, u2, q3, q4, q5, q6, q7, u8, q9, u10, q11, u12, q13, u14, qI, qs0, qb0, ub0, us0, qs1, qb1, ub1, us1) hC hr hA hQ rfl (Nat.le_of_ble_eq_true rfl) (Nat.le_of_ble_eq_true rfl) dX5_init_142
