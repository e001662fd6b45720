/-! ===== the reference's constructor ===== -/
abbrev SX6 : Type := Nat × Nat × Nat × Nat × Nat × Nat × Nat × Nat × Nat × Nat × Nat × Nat × Nat × Nat
def X6W (gc : Nat → ClassId) (h0 : Nat) (s : SX6) : va_W := (h0, .inr (5, [.ref s.1, .ref s.2.1, .ref s.2.2.1, .ref s.2.2.2.1, .int 0, .int 0, .int 0, .int 0, .int 0, .int (-1), .int 0, .int 0, .ref s.2.2.2.2.1, .ref s.2.2.2.2.2.1, .int 0, .int (-1), .int (-1), .int 0, .int 0, .ref s.2.2.2.2.2.2.1, .ref s.2.2.2.2.2.2.2.1, .int 0, .int 0, .int 0, .ref s.2.2.2.2.2.2.2.2.1, .ref s.2.2.2.2.2.2.2.2.2.1, .ref s.2.2.2.2.2.2.2.2.2.2.1, .ref s.2.2.2.2.2.2.2.2.2.2.2.1, .ref s.2.2.2.2.2.2.2.2.2.2.2.2.1, .ref s.2.2.2.2.2.2.2.2.2.2.2.2.2])) :: ([] ++ [(s.1, .inl (gc 0, 4128, .inl (upd (upd (fun _ => 0) (ix 1) 5) (ix 3) (-1))))] ++ [(s.2.1, .inl (gc 2, 2, .inl (fun _ => 0)))] ++ [(s.2.2.1, .inl (gc 0, 1376, .inl (fun _ => 0)))] ++ [(s.2.2.2.1, .inl (gc 0, 600, .inl (fun _ => 0)))] ++ [(s.2.2.2.2.1, .inl (gc 0, 200, .inl (fun _ => 0)))] ++ [(s.2.2.2.2.2.1, .inl (gc 0, 200, .inl (fun _ => 0)))] ++ [(s.2.2.2.2.2.2.1, .inl (gc 0, 61440, .inl (fun _ => 0)))] ++ [(s.2.2.2.2.2.2.2.1, .inl (gc 0, 61440, .inl (fun _ => 0)))] ++ [(s.2.2.2.2.2.2.2.2.1, .inl (gc 0, 60, .inl (fun _ => 0)))] ++ [(s.2.2.2.2.2.2.2.2.2.1, .inl (gc 0, 61440, .inl (fun _ => 0)))] ++ [(s.2.2.2.2.2.2.2.2.2.2.1, .inl (gc 0, 61440, .inl (fun _ => 0)))] ++ [(s.2.2.2.2.2.2.2.2.2.2.2.1, .inl (gc 2, 61440, .inl (fun _ => 0)))] ++ [(s.2.2.2.2.2.2.2.2.2.2.2.2.1, .inl (gc 2, 61440, .inl (fun _ => 0)))] ++ [(s.2.2.2.2.2.2.2.2.2.2.2.2.2, .inl (gc 0, 24, .inl (fun _ => 0)))])
set_option maxRecDepth 20000 in
theorem i_X6 {l : Launch} {D : va_G} {gc : Nat → ClassId} {h0 : Nat} : MI l yX6_init cX6_init 1 1 21 D gc h0 5 [.null, .null, .null, .null, .int 0, .int 0, .int 0, .int 0, .int 0, .int 0, .int 0, .int 0, .null, .null, .int 0, .int 0, .int 0, .int 0, .int 0, .null, .null, .int 0, .int 0, .int 0, .null, .null, .null, .null, .null, .null] [] (X6W gc h0) 14 375230 := by
  refine MI.ofV (by decide +kernel) rfl (Nat.le_of_ble_eq_true rfl) (fun K hC hr hnm hA hQ => ?_)
  have hC : CL K D gc cX6_init 1 RX6 1 21 14 375230 := hC
  show VL K D 1 0 0 ((h0, .inr (5, [.null, .null, .null, .null, .int 0, .int 0, .int 0, .int 0, .int 0, .int 0, .int 0, .int 0, .null, .null, .int 0, .int 0, .int 0, .int 0, .int 0, .null, .null, .int 0, .int 0, .int 0, .null, .null, .null, .null, .null, .null])) :: []) 0 [(0, .ref h0)] []
  refine VL_aload_n 0 hC dX6_init_0 rfl rfl ?_
  refine VL_obj hC lo_X6_1 oi_im oi_c (Nat.le_of_ble_eq_true rfl) (by decide) (by decide) dX6_init_1 ?_
  refine VL_aload_n 0 hC dX6_init_4 rfl rfl ?_
  refine VL_sipush (v := 4128) hC dX6_init_5 rfl ?_
  refine VL_newaC (atype := .int) (t := 0) (w := 4128) hC ac_int rfl (by decide) (by decide +kernel) (by decide +kernel) (Nat.le_of_ble_eq_true rfl) (Nat.le_of_ble_eq_true rfl) (Nat.le_of_ble_eq_true rfl) dX6_init_8 (fun q1 => ?_)
  refine VL_putF (fs' := [.ref q1, .null, .null, .null, .int 0, .int 0, .int 0, .int 0, .int 0, .int 0, .int 0, .int 0, .null, .null, .int 0, .int 0, .int 0, .int 0, .int 0, .null, .null, .int 0, .int 0, .int 0, .null, .null, .null, .null, .null, .null]) hC hnm fk_X6_7 pl_X6 rfl rfl rfl rfl (Nat.le_of_ble_eq_true rfl) rfl dX6_init_10 ?_
  refine VL_aload_n 0 hC dX6_init_13 rfl rfl ?_
  refine VL_iconst (v := 2) hC dX6_init_14 rfl ?_
  refine VL_newaC (atype := .boolean) (t := 2) (w := 2) hC ac_boolean rfl (by decide) (by decide +kernel) (by decide +kernel) (Nat.le_of_ble_eq_true rfl) (Nat.le_of_ble_eq_true rfl) (Nat.le_of_ble_eq_true rfl) dX6_init_15 (fun q2 => ?_)
  refine VL_putF (fs' := [.ref q1, .ref q2, .null, .null, .int 0, .int 0, .int 0, .int 0, .int 0, .int 0, .int 0, .int 0, .null, .null, .int 0, .int 0, .int 0, .int 0, .int 0, .null, .null, .int 0, .int 0, .int 0, .null, .null, .null, .null, .null, .null]) hC hnm fk_X6_13 pl_X6 rfl rfl rfl rfl (Nat.le_of_ble_eq_true rfl) rfl dX6_init_17 ?_
  refine VL_aload_n 0 hC dX6_init_20 rfl rfl ?_
  refine VL_sipush (v := 1376) hC dX6_init_21 rfl ?_
  refine VL_newaC (atype := .int) (t := 0) (w := 1376) hC ac_int rfl (by decide) (by decide +kernel) (by decide +kernel) (Nat.le_of_ble_eq_true rfl) (Nat.le_of_ble_eq_true rfl) (Nat.le_of_ble_eq_true rfl) dX6_init_24 (fun q3 => ?_)
  refine VL_putF (fs' := [.ref q1, .ref q2, .ref q3, .null, .int 0, .int 0, .int 0, .int 0, .int 0, .int 0, .int 0, .int 0, .null, .null, .int 0, .int 0, .int 0, .int 0, .int 0, .null, .null, .int 0, .int 0, .int 0, .null, .null, .null, .null, .null, .null]) hC hnm fk_X6_17 pl_X6 rfl rfl rfl rfl (Nat.le_of_ble_eq_true rfl) rfl dX6_init_26 ?_
  refine VL_aload_n 0 hC dX6_init_29 rfl rfl ?_
  refine VL_sipush (v := 600) hC dX6_init_30 rfl ?_
  refine VL_newaC (atype := .int) (t := 0) (w := 600) hC ac_int rfl (by decide) (by decide +kernel) (by decide +kernel) (Nat.le_of_ble_eq_true rfl) (Nat.le_of_ble_eq_true rfl) (Nat.le_of_ble_eq_true rfl) dX6_init_33 (fun q4 => ?_)
  refine VL_putF (fs' := [.ref q1, .ref q2, .ref q3, .ref q4, .int 0, .int 0, .int 0, .int 0, .int 0, .int 0, .int 0, .int 0, .null, .null, .int 0, .int 0, .int 0, .int 0, .int 0, .null, .null, .int 0, .int 0, .int 0, .null, .null, .null, .null, .null, .null]) hC hnm fk_X6_20 pl_X6 rfl rfl rfl rfl (Nat.le_of_ble_eq_true rfl) rfl dX6_init_35 ?_
  refine VL_aload_n 0 hC dX6_init_38 rfl rfl ?_
  refine VL_iconst (v := -1) hC dX6_init_39 rfl ?_
  refine VL_put (fs' := [.ref q1, .ref q2, .ref q3, .ref q4, .int 0, .int 0, .int 0, .int 0, .int 0, .int (-1), .int 0, .int 0, .null, .null, .int 0, .int 0, .int 0, .int 0, .int 0, .null, .null, .int 0, .int 0, .int 0, .null, .null, .null, .null, .null, .null]) hC fk_X6_23 pl_X6 rfl rfl rfl (Nat.le_of_ble_eq_true rfl) rfl dX6_init_40 ?_
  refine VL_aload_n 0 hC dX6_init_43 rfl rfl ?_
  refine VL_sipush (v := 200) hC dX6_init_44 rfl ?_
  refine VL_newaC (atype := .int) (t := 0) (w := 200) hC ac_int rfl (by decide) (by decide +kernel) (by decide +kernel) (Nat.le_of_ble_eq_true rfl) (Nat.le_of_ble_eq_true rfl) (Nat.le_of_ble_eq_true rfl) dX6_init_47 (fun q5 => ?_)
  refine VL_putF (fs' := [.ref q1, .ref q2, .ref q3, .ref q4, .int 0, .int 0, .int 0, .int 0, .int 0, .int (-1), .int 0, .int 0, .ref q5, .null, .int 0, .int 0, .int 0, .int 0, .int 0, .null, .null, .int 0, .int 0, .int 0, .null, .null, .null, .null, .null, .null]) hC hnm fk_X6_27 pl_X6 rfl rfl rfl rfl (Nat.le_of_ble_eq_true rfl) rfl dX6_init_49 ?_
  refine VL_aload_n 0 hC dX6_init_52 rfl rfl ?_
  refine VL_sipush (v := 200) hC dX6_init_53 rfl ?_
  refine VL_newaC (atype := .int) (t := 0) (w := 200) hC ac_int rfl (by decide) (by decide +kernel) (by decide +kernel) (Nat.le_of_ble_eq_true rfl) (Nat.le_of_ble_eq_true rfl) (Nat.le_of_ble_eq_true rfl) dX6_init_56 (fun q6 => ?_)
  refine VL_putF (fs' := [.ref q1, .ref q2, .ref q3, .ref q4, .int 0, .int 0, .int 0, .int 0, .int 0, .int (-1), .int 0, .int 0, .ref q5, .ref q6, .int 0, .int 0, .int 0, .int 0, .int 0, .null, .null, .int 0, .int 0, .int 0, .null, .null, .null, .null, .null, .null]) hC hnm fk_X6_30 pl_X6 rfl rfl rfl rfl (Nat.le_of_ble_eq_true rfl) rfl dX6_init_58 ?_
  refine VL_aload_n 0 hC dX6_init_61 rfl rfl ?_
  refine VL_iconst (v := -1) hC dX6_init_62 rfl ?_
  refine VL_put (fs' := [.ref q1, .ref q2, .ref q3, .ref q4, .int 0, .int 0, .int 0, .int 0, .int 0, .int (-1), .int 0, .int 0, .ref q5, .ref q6, .int 0, .int (-1), .int 0, .int 0, .int 0, .null, .null, .int 0, .int 0, .int 0, .null, .null, .null, .null, .null, .null]) hC fk_X6_33 pl_X6 rfl rfl rfl (Nat.le_of_ble_eq_true rfl) rfl dX6_init_63 ?_
  refine VL_aload_n 0 hC dX6_init_66 rfl rfl ?_
  refine VL_iconst (v := -1) hC dX6_init_67 rfl ?_
  refine VL_put (fs' := [.ref q1, .ref q2, .ref q3, .ref q4, .int 0, .int 0, .int 0, .int 0, .int 0, .int (-1), .int 0, .int 0, .ref q5, .ref q6, .int 0, .int (-1), .int (-1), .int 0, .int 0, .null, .null, .int 0, .int 0, .int 0, .null, .null, .null, .null, .null, .null]) hC fk_X6_36 pl_X6 rfl rfl rfl (Nat.le_of_ble_eq_true rfl) rfl dX6_init_68 ?_
  refine VL_aload_n 0 hC dX6_init_71 rfl rfl ?_
  refine VL_ldc hC ck_X6_39 dX6_init_72 ?_
  refine VL_newaC (atype := .int) (t := 0) (w := 61440) hC ac_int rfl (by decide) (by decide +kernel) (by decide +kernel) (Nat.le_of_ble_eq_true rfl) (Nat.le_of_ble_eq_true rfl) (Nat.le_of_ble_eq_true rfl) dX6_init_74 (fun q7 => ?_)
  refine VL_putF (fs' := [.ref q1, .ref q2, .ref q3, .ref q4, .int 0, .int 0, .int 0, .int 0, .int 0, .int (-1), .int 0, .int 0, .ref q5, .ref q6, .int 0, .int (-1), .int (-1), .int 0, .int 0, .ref q7, .null, .int 0, .int 0, .int 0, .null, .null, .null, .null, .null, .null]) hC hnm fk_X6_40 pl_X6 rfl rfl rfl rfl (Nat.le_of_ble_eq_true rfl) rfl dX6_init_76 ?_
  refine VL_aload_n 0 hC dX6_init_79 rfl rfl ?_
  refine VL_ldc hC ck_X6_39 dX6_init_80 ?_
  refine VL_newaC (atype := .int) (t := 0) (w := 61440) hC ac_int rfl (by decide) (by decide +kernel) (by decide +kernel) (Nat.le_of_ble_eq_true rfl) (Nat.le_of_ble_eq_true rfl) (Nat.le_of_ble_eq_true rfl) dX6_init_82 (fun q8 => ?_)
  refine VL_putF (fs' := [.ref q1, .ref q2, .ref q3, .ref q4, .int 0, .int 0, .int 0, .int 0, .int 0, .int (-1), .int 0, .int 0, .ref q5, .ref q6, .int 0, .int (-1), .int (-1), .int 0, .int 0, .ref q7, .ref q8, .int 0, .int 0, .int 0, .null, .null, .null, .null, .null, .null]) hC hnm fk_X6_43 pl_X6 rfl rfl rfl rfl (Nat.le_of_ble_eq_true rfl) rfl dX6_init_84 ?_
  refine VL_aload_n 0 hC dX6_init_87 rfl rfl ?_
  refine VL_bipush (v := 60) hC dX6_init_88 rfl ?_
  refine VL_newaC (atype := .int) (t := 0) (w := 60) hC ac_int rfl (by decide) (by decide +kernel) (by decide +kernel) (Nat.le_of_ble_eq_true rfl) (Nat.le_of_ble_eq_true rfl) (Nat.le_of_ble_eq_true rfl) dX6_init_90 (fun q9 => ?_)
  refine VL_putF (fs' := [.ref q1, .ref q2, .ref q3, .ref q4, .int 0, .int 0, .int 0, .int 0, .int 0, .int (-1), .int 0, .int 0, .ref q5, .ref q6, .int 0, .int (-1), .int (-1), .int 0, .int 0, .ref q7, .ref q8, .int 0, .int 0, .int 0, .ref q9, .null, .null, .null, .null, .null]) hC hnm fk_X6_46 pl_X6 rfl rfl rfl rfl (Nat.le_of_ble_eq_true rfl) rfl dX6_init_92 ?_
  refine VL_aload_n 0 hC dX6_init_95 rfl rfl ?_
  refine VL_ldc hC ck_X6_39 dX6_init_96 ?_
  refine VL_newaC (atype := .int) (t := 0) (w := 61440) hC ac_int rfl (by decide) (by decide +kernel) (by decide +kernel) (Nat.le_of_ble_eq_true rfl) (Nat.le_of_ble_eq_true rfl) (Nat.le_of_ble_eq_true rfl) dX6_init_98 (fun q10 => ?_)
  refine VL_putF (fs' := [.ref q1, .ref q2, .ref q3, .ref q4, .int 0, .int 0, .int 0, .int 0, .int 0, .int (-1), .int 0, .int 0, .ref q5, .ref q6, .int 0, .int (-1), .int (-1), .int 0, .int 0, .ref q7, .ref q8, .int 0, .int 0, .int 0, .ref q9, .ref q10, .null, .null, .null, .null]) hC hnm fk_X6_49 pl_X6 rfl rfl rfl rfl (Nat.le_of_ble_eq_true rfl) rfl dX6_init_100 ?_
  refine VL_aload_n 0 hC dX6_init_103 rfl rfl ?_
  refine VL_ldc hC ck_X6_39 dX6_init_104 ?_
  refine VL_newaC (atype := .int) (t := 0) (w := 61440) hC ac_int rfl (by decide) (by decide +kernel) (by decide +kernel) (Nat.le_of_ble_eq_true rfl) (Nat.le_of_ble_eq_true rfl) (Nat.le_of_ble_eq_true rfl) dX6_init_106 (fun q11 => ?_)
  refine VL_putF (fs' := [.ref q1, .ref q2, .ref q3, .ref q4, .int 0, .int 0, .int 0, .int 0, .int 0, .int (-1), .int 0, .int 0, .ref q5, .ref q6, .int 0, .int (-1), .int (-1), .int 0, .int 0, .ref q7, .ref q8, .int 0, .int 0, .int 0, .ref q9, .ref q10, .ref q11, .null, .null, .null]) hC hnm fk_X6_52 pl_X6 rfl rfl rfl rfl (Nat.le_of_ble_eq_true rfl) rfl dX6_init_108 ?_
  refine VL_aload_n 0 hC dX6_init_111 rfl rfl ?_
  refine VL_ldc hC ck_X6_39 dX6_init_112 ?_
  refine VL_newaC (atype := .boolean) (t := 2) (w := 61440) hC ac_boolean rfl (by decide) (by decide +kernel) (by decide +kernel) (Nat.le_of_ble_eq_true rfl) (Nat.le_of_ble_eq_true rfl) (Nat.le_of_ble_eq_true rfl) dX6_init_114 (fun q12 => ?_)
  refine VL_putF (fs' := [.ref q1, .ref q2, .ref q3, .ref q4, .int 0, .int 0, .int 0, .int 0, .int 0, .int (-1), .int 0, .int 0, .ref q5, .ref q6, .int 0, .int (-1), .int (-1), .int 0, .int 0, .ref q7, .ref q8, .int 0, .int 0, .int 0, .ref q9, .ref q10, .ref q11, .ref q12, .null, .null]) hC hnm fk_X6_55 pl_X6 rfl rfl rfl rfl (Nat.le_of_ble_eq_true rfl) rfl dX6_init_116 ?_
  refine VL_aload_n 0 hC dX6_init_119 rfl rfl ?_
  refine VL_ldc hC ck_X6_39 dX6_init_120 ?_
  refine VL_newaC (atype := .boolean) (t := 2) (w := 61440) hC ac_boolean rfl (by decide) (by decide +kernel) (by decide +kernel) (Nat.le_of_ble_eq_true rfl) (Nat.le_of_ble_eq_true rfl) (Nat.le_of_ble_eq_true rfl) dX6_init_122 (fun q13 => ?_)
  refine VL_putF (fs' := [.ref q1, .ref q2, .ref q3, .ref q4, .int 0, .int 0, .int 0, .int 0, .int 0, .int (-1), .int 0, .int 0, .ref q5, .ref q6, .int 0, .int (-1), .int (-1), .int 0, .int 0, .ref q7, .ref q8, .int 0, .int 0, .int 0, .ref q9, .ref q10, .ref q11, .ref q12, .ref q13, .null]) hC hnm fk_X6_58 pl_X6 rfl rfl rfl rfl (Nat.le_of_ble_eq_true rfl) rfl dX6_init_124 ?_
  refine VL_aload_n 0 hC dX6_init_127 rfl rfl ?_
  refine VL_bipush (v := 24) hC dX6_init_128 rfl ?_
  refine VL_newaC (atype := .int) (t := 0) (w := 24) hC ac_int rfl (by decide) (by decide +kernel) (by decide +kernel) (Nat.le_of_ble_eq_true rfl) (Nat.le_of_ble_eq_true rfl) (Nat.le_of_ble_eq_true rfl) dX6_init_130 (fun q14 => ?_)
  refine VL_putF (fs' := [.ref q1, .ref q2, .ref q3, .ref q4, .int 0, .int 0, .int 0, .int 0, .int 0, .int (-1), .int 0, .int 0, .ref q5, .ref q6, .int 0, .int (-1), .int (-1), .int 0, .int 0, .ref q7, .ref q8, .int 0, .int 0, .int 0, .ref q9, .ref q10, .ref q11, .ref q12, .ref q13, .ref q14]) hC hnm fk_X6_61 pl_X6 rfl rfl rfl rfl (Nat.le_of_ble_eq_true rfl) rfl dX6_init_132 ?_
  refine VL_aload_n 0 hC dX6_init_135 rfl rfl ?_
  refine VL_get hC fk_X6_7 rfl dX6_init_136 ?_
  refine VL_iconst (v := 1) hC dX6_init_139 rfl ?_
  refine VL_iconst (v := 5) hC dX6_init_140 rfl ?_
  refine VL_iast (p := 1) hC rfl (by decide) dX6_init_141 ?_
  show VL K D 1 _ _ ((h0, .inr (5, [.ref q1, .ref q2, .ref q3, .ref q4, .int 0, .int 0, .int 0, .int 0, .int 0, .int (-1), .int 0, .int 0, .ref q5, .ref q6, .int 0, .int (-1), .int (-1), .int 0, .int 0, .ref q7, .ref q8, .int 0, .int 0, .int 0, .ref q9, .ref q10, .ref q11, .ref q12, .ref q13, .ref q14])) :: ([] ++ [(q1, .inl (gc 0, 4128, .inl (upd (fun _ => 0) (ix 1) 5)))] ++ [(q2, .inl (gc 2, 2, .inl (fun _ => 0)))] ++ [(q3, .inl (gc 0, 1376, .inl (fun _ => 0)))] ++ [(q4, .inl (gc 0, 600, .inl (fun _ => 0)))] ++ [(q5, .inl (gc 0, 200, .inl (fun _ => 0)))] ++ [(q6, .inl (gc 0, 200, .inl (fun _ => 0)))] ++ [(q7, .inl (gc 0, 61440, .inl (fun _ => 0)))] ++ [(q8, .inl (gc 0, 61440, .inl (fun _ => 0)))] ++ [(q9, .inl (gc 0, 60, .inl (fun _ => 0)))] ++ [(q10, .inl (gc 0, 61440, .inl (fun _ => 0)))] ++ [(q11, .inl (gc 0, 61440, .inl (fun _ => 0)))] ++ [(q12, .inl (gc 2, 61440, .inl (fun _ => 0)))] ++ [(q13, .inl (gc 2, 61440, .inl (fun _ => 0)))] ++ [(q14, .inl (gc 0, 24, .inl (fun _ => 0)))])) 142 [(0, .ref h0)] []
  refine VL_aload_n 0 hC dX6_init_142 rfl rfl ?_
  refine VL_get hC fk_X6_7 rfl dX6_init_143 ?_
  refine VL_iconst (v := 3) hC dX6_init_146 rfl ?_
  refine VL_iconst (v := -1) hC dX6_init_147 rfl ?_
  refine VL_iast (p := 1) hC rfl (by decide) dX6_init_148 ?_
  show VL K D 1 _ _ ((h0, .inr (5, [.ref q1, .ref q2, .ref q3, .ref q4, .int 0, .int 0, .int 0, .int 0, .int 0, .int (-1), .int 0, .int 0, .ref q5, .ref q6, .int 0, .int (-1), .int (-1), .int 0, .int 0, .ref q7, .ref q8, .int 0, .int 0, .int 0, .ref q9, .ref q10, .ref q11, .ref q12, .ref q13, .ref q14])) :: ([] ++ [(q1, .inl (gc 0, 4128, .inl (upd (upd (fun _ => 0) (ix 1) 5) (ix 3) (-1))))] ++ [(q2, .inl (gc 2, 2, .inl (fun _ => 0)))] ++ [(q3, .inl (gc 0, 1376, .inl (fun _ => 0)))] ++ [(q4, .inl (gc 0, 600, .inl (fun _ => 0)))] ++ [(q5, .inl (gc 0, 200, .inl (fun _ => 0)))] ++ [(q6, .inl (gc 0, 200, .inl (fun _ => 0)))] ++ [(q7, .inl (gc 0, 61440, .inl (fun _ => 0)))] ++ [(q8, .inl (gc 0, 61440, .inl (fun _ => 0)))] ++ [(q9, .inl (gc 0, 60, .inl (fun _ => 0)))] ++ [(q10, .inl (gc 0, 61440, .inl (fun _ => 0)))] ++ [(q11, .inl (gc 0, 61440, .inl (fun _ => 0)))] ++ [(q12, .inl (gc 2, 61440, .inl (fun _ => 0)))] ++ [(q13, .inl (gc 2, 61440, .inl (fun _ => 0)))] ++ [(q14, .inl (gc 0, 24, .inl (fun _ => 0)))])) 149 [(0, .ref h0)] []
  exact VL_vret (S := SX6) (q1, q2, q3, q4, q5, q6, q7, q8, q9, q10, q11, q12, q13, q14) hC hr hA hQ rfl (Nat.le_of_ble_eq_true rfl) (Nat.le_of_ble_eq_true rfl) dX6_init_149
