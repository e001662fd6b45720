/-! ===== ChoiceBook$StateGraph, what makes nothing: lifted and met ===== -/
theorem lk_X4_89 : Cond.methodLink RX4 89 yX4_slotOf ∈ gt := gt_t 510 (by decide +kernel) rfl
theorem me_X4_slotOf : MES yX4_slotOf cX4_slotOf 1 (some .int) 1 := ⟨⟨gt_t 512 (by decide +kernel) rfl, gt_t 5 (by decide +kernel) rfl, by decide +kernel⟩, gt_t 511 (by decide +kernel) rfl⟩
theorem lk_X4_92 : Cond.methodLink RX4 92 yX3_fateOf ∈ gt := gt_t 540 (by decide +kernel) rfl
theorem fk_X4_41 : FLK RX4 41 3 10 RX4 TX4 17 := ⟨rfl, uw_X4, by decide, rfl, gt_t 192 (by decide +kernel) rfl⟩
theorem fk_X4_56 : FLK RX4 56 3 15 RX4 TX4 17 := ⟨rfl, uw_X4, by decide, rfl, gt_t 197 (by decide +kernel) rfl⟩
theorem fk_X4_11 : FLK RX4 11 3 0 RX4 TX4 17 := ⟨rfl, uw_X4, by decide, rfl, gt_t 179 (by decide +kernel) rfl⟩
theorem fk_X4_35 : FLK RX4 35 3 8 RX4 TX4 17 := ⟨rfl, uw_X4, by decide, rfl, gt_t 190 (by decide +kernel) rfl⟩
theorem lk_X4_107 : Cond.methodLink RX4 107 yX4_hasWon ∈ gt := gt_t 682 (by decide +kernel) rfl
theorem me_X4_hasWon : MEV RX4 yX4_hasWon cX4_hasWon 2 (some .boolean) 1 := ⟨⟨gt_t 685 (by decide +kernel) rfl, gt_t 5 (by decide +kernel) rfl, by decide +kernel⟩, gt_t 684 (by decide +kernel) rfl, gt_s (q := (yX4_hasWon, 17)) 23 (by decide +kernel)⟩
theorem lk_X4_117 : Cond.methodLink RX4 117 yX3_partOf ∈ gt := gt_t 561 (by decide +kernel) rfl
theorem lk_X4_120 : Cond.methodLink RX4 120 yX3_thingsOf ∈ gt := gt_t 761 (by decide +kernel) rfl
theorem fk_X4_50 : FLK RX4 50 3 13 RX4 TX4 17 := ⟨rfl, uw_X4, by decide, rfl, gt_t 195 (by decide +kernel) rfl⟩
theorem fk_X4_59 : FLK RX4 59 3 16 RX4 TX4 17 := ⟨rfl, uw_X4, by decide, rfl, gt_t 198 (by decide +kernel) rfl⟩
theorem fk_X4_62 : FLK RX4 62 3 3 RX4 TX4 17 := ⟨rfl, uw_X4, by decide, rfl, gt_t 185 (by decide +kernel) rfl⟩
theorem lk_X4_160 : Cond.methodLink RX4 160 yX0_isRoll ∈ gt := gt_t 695 (by decide +kernel) rfl
theorem fk_X4_163 : FLK RX4 163 0 3 RX0 TX0 13 := ⟨rfl, uw_X0, by decide, rfl, gt_t 48 (by decide +kernel) rfl⟩
theorem fk_X4_38 : FLK RX4 38 3 9 RX4 TX4 17 := ⟨rfl, uw_X4, by decide, rfl, gt_t 191 (by decide +kernel) rfl⟩
theorem lk_X4_166 : Cond.methodLink RX4 166 yX4_oddsOf ∈ gt := gt_t 696 (by decide +kernel) rfl
theorem me_X4_oddsOf : MEV RX4 yX4_oddsOf cX4_oddsOf 2 (some .int) 1 := ⟨⟨gt_t 699 (by decide +kernel) rfl, gt_t 5 (by decide +kernel) rfl, by decide +kernel⟩, gt_t 697 (by decide +kernel) rfl, gt_t 698 (by decide +kernel) rfl⟩
theorem ck_X4_156 : Cond.constant RX4 156 (1000000) ∈ gt := gt_t 686 (by decide +kernel) rfl
theorem mm_X4_169 : MML RX4 169 Lib.Math.max.name Lib.Math.max.code 2 := ⟨gt_t 700 (by decide +kernel) rfl, gt_t 701 (by decide +kernel) rfl, gt_t 13 (by decide +kernel) rfl, gt_t 702 (by decide +kernel) rfl⟩
theorem lk_X4_172 : Cond.methodLink RX4 172 yX4_turnsToWinOf ∈ gt := gt_t 726 (by decide +kernel) rfl
theorem me_X4_turnsToWinOf : MEV RX4 yX4_turnsToWinOf cX4_turnsToWinOf 2 (some .int) 1 := ⟨⟨gt_t 729 (by decide +kernel) rfl, gt_t 5 (by decide +kernel) rfl, by decide +kernel⟩, gt_t 727 (by decide +kernel) rfl, gt_t 728 (by decide +kernel) rfl⟩
def t_X4_slotOf (L : Nat → Nat) (d : Dt) (p0 : Int32) : Option (Int32) := some ((((p0 >>> ((6 : Int32) &&& 31)) * 9) + ((p0 >>> ((2 : Int32) &&& 31)) &&& 15)) - 1)
set_option maxRecDepth 20000 in
theorem c_X4_slotOf {l : Launch} {Y : Yx} (hL : LAY Y) {z : Sh} {d : Dt} {p0 : Int32}  {r : Int32} (hf : t_X4_slotOf z.1 d p0 = some r) : MM l yX4_slotOf cX4_slotOf 1 (some .int) 0 0 Y z [.int p0] d (some (.int r)) d := by
  refine MM.ofV (by decide +kernel) hL (Nat.le_of_ble_eq_true rfl) (fun K hl hC hr hQ hA => ?_)
  have hC : CK K Y cX4_slotOf 1 RX4 0 0 := hC
  unfold t_X4_slotOf at hf
  show V K Y 1 0 0 z d 0 [(0, .int p0)] []
  refine V_iload_n 0 hC dX4_slotOf_0 rfl rfl ?_
  refine V_bipush (v := 6) hC dX4_slotOf_1 rfl ?_
  refine V_ishr hC dX4_slotOf_3 ?_
  refine V_bipush (v := 9) hC dX4_slotOf_4 rfl ?_
  refine V_imul hC dX4_slotOf_6 ?_
  refine V_iload_n 0 hC dX4_slotOf_7 rfl rfl ?_
  refine V_iconst (v := 2) hC dX4_slotOf_8 rfl ?_
  refine V_ishr hC dX4_slotOf_9 ?_
  refine V_bipush (v := 15) hC dX4_slotOf_10 rfl ?_
  refine V_iand hC dX4_slotOf_12 ?_
  refine V_iadd hC dX4_slotOf_13 ?_
  refine V_iconst (v := 1) hC dX4_slotOf_14 rfl ?_
  refine V_isub hC dX4_slotOf_15 ?_
  obtain rfl := so_inj hf
  exact V_iret hC hr hQ hA dX4_slotOf_16
def t_X4_find (L : Nat → Nat) (d : Dt) (o : Nat) (p1 : Int32) : Option (Int32) := (t_X4_slotOf L d p1).bind (fun v1 => (t_X3_fateOf L d p1).bind (fun v2 => if v2 = 2 then some (-1) else if v1 < 0 then some (-1) else if v1 < (nI (L (32 * o + 10))) then gd (inb v1 (L (32 * o + 10))) (some ((gA d (32 * o + 10) (ix v1)) - 1)) else some (-1)))
set_option maxRecDepth 20000 in
theorem c_X4_find {l : Launch} {Y : Yx} (hL : LAY Y) {z : Sh} {d : Dt} {o : Nat} {p1 : Int32} (ho : (0, o, 3) ∈ yI Y) {r : Int32} (hf : t_X4_find z.1 d o p1 = some r) : MM l yX4_find cX4_find 3 (some .int) 1 20 Y z [.ref (yo Y o), .int p1] d (some (.int r)) d := by
  refine MM.ofV (by decide +kernel) hL (Nat.le_of_ble_eq_true rfl) (fun K hl hC hr hQ hA => ?_)
  have hC : CK K Y cX4_find 3 RX4 1 20 := hC
  have hkn : 0 ≤ (kR K).cells ∧ 0 ≤ (kR K).slots := ⟨Nat.zero_le _, Nat.zero_le _⟩
  unfold t_X4_find at hf
  show V K Y 3 0 0 z d 0 [(0, .ref (yo Y o)), (1, .int p1)] []
  refine V_iload_n 1 hC dX4_find_0 rfl rfl ?_
  obtain ⟨v1, ev1, hf⟩ := bi_some hf
  refine V_insi (As := [.int p1]) (rest := []) hC (c_X4_slotOf hL  ev1) me_X4_slotOf lk_X4_89 rfl rfl (Nat.le_of_ble_eq_true rfl) ⟨by decide, by decide⟩ hkn dX4_find_1 ?_
  refine V_istore_n (lv' := [(2, .int v1), (0, .ref (yo Y o)), (1, .int p1)]) hC dX4_find_4 rfl (by decide) rfl ?_
  refine V_iload_n 2 hC dX4_find_5 rfl rfl ?_
  obtain ⟨v2, ev2, hf⟩ := bi_some hf
  refine V_insi (As := [.int p1]) (rest := []) hC (c_X3_fateOf hL  ev2) me_X3_fateOf lk_X4_92 rfl rfl (Nat.le_of_ble_eq_true rfl) ⟨by decide, by decide⟩ hkn dX4_find_6 ?_
  refine V_iconst (v := 2) hC dX4_find_9 rfl ?_
  refine V_icmp_eq (tgt := 26) hC dX4_find_10 (by decide) (fun c3 => ?_) (fun c3 => ?_)
  · have hf := if_t hf c3
    refine V_iconst (v := -1) hC dX4_find_26 rfl ?_
    obtain rfl := so_inj hf
    exact V_iret hC hr hQ hA dX4_find_27
  · have hf := if_f hf c3
    refine V_iload_n 0 hC dX4_find_13 rfl rfl ?_
    refine V_if_lt (tgt := 26) hC dX4_find_14 (by decide) (fun c4 => ?_) (fun c4 => ?_)
    · have hf := if_t hf c4
      refine V_iconst (v := -1) hC dX4_find_26 rfl ?_
      obtain rfl := so_inj hf
      exact V_iret hC hr hQ hA dX4_find_27
    · have hf := if_f hf c4
      refine V_iload_n 0 hC dX4_find_17 rfl rfl ?_
      refine V_aload_n 1 hC dX4_find_18 rfl rfl ?_
      refine V_geta (o := o) hC ho rfl fk_X4_41 dX4_find_19 ?_
      refine V_alen (a := (32 * o + 10)) hC (hL.row ho rfl) (by decide) dX4_find_22 ?_
      refine V_icmp_lt (tgt := 28) hC dX4_find_23 (by decide) (fun c5 => ?_) (fun c5 => ?_)
      · have hf := if_t hf c5
        refine V_aload_n 1 hC dX4_find_28 rfl rfl ?_
        refine V_geta (o := o) hC ho rfl fk_X4_41 dX4_find_29 ?_
        refine V_iload_n 0 hC dX4_find_32 rfl rfl ?_
        obtain ⟨g6, hf⟩ := gd_some hf
        refine V_iald (a := (32 * o + 10)) hC (hL.row ho rfl) g6 dX4_find_33 ?_
        refine V_iconst (v := 1) hC dX4_find_34 rfl ?_
        refine V_isub hC dX4_find_35 ?_
        obtain rfl := so_inj hf
        exact V_iret hC hr hQ hA dX4_find_36
      · have hf := if_f hf c5
        refine V_iconst (v := -1) hC dX4_find_26 rfl ?_
        obtain rfl := so_inj hf
        exact V_iret hC hr hQ hA dX4_find_27
def t_X4_oddsOf (L : Nat → Nat) (d : Dt) (o : Nat) (p1 : Int32) : Option (Int32) := if p1 < 0 then some 0 else if (gF d o 4) ≤ p1 then some 0 else gd (inb p1 (L (32 * o + 11))) (some (gA d (32 * o + 11) (ix p1)))
set_option maxRecDepth 20000 in
theorem c_X4_oddsOf {l : Launch} {Y : Yx} (hL : LAY Y) {z : Sh} {d : Dt} {o : Nat} {p1 : Int32} (ho : (0, o, 3) ∈ yI Y) {r : Int32} (hf : t_X4_oddsOf z.1 d o p1 = some r) : MM l yX4_oddsOf cX4_oddsOf 2 (some .int) 0 0 Y z [.ref (yo Y o), .int p1] d (some (.int r)) d := by
  refine MM.ofV (by decide +kernel) hL (Nat.le_of_ble_eq_true rfl) (fun K hl hC hr hQ hA => ?_)
  have hC : CK K Y cX4_oddsOf 2 RX4 0 0 := hC
  unfold t_X4_oddsOf at hf
  show V K Y 2 0 0 z d 0 [(0, .ref (yo Y o)), (1, .int p1)] []
  refine V_iload_n 1 hC dX4_oddsOf_0 rfl rfl ?_
  refine V_if_lt (tgt := 21) hC dX4_oddsOf_1 (by decide) (fun c1 => ?_) (fun c1 => ?_)
  · have hf := if_t hf c1
    refine V_iconst (v := 0) hC dX4_oddsOf_21 rfl ?_
    obtain rfl := so_inj hf
    exact V_iret hC hr hQ hA dX4_oddsOf_22
  · have hf := if_f hf c1
    refine V_iload_n 1 hC dX4_oddsOf_4 rfl rfl ?_
    refine V_aload_n 0 hC dX4_oddsOf_5 rfl rfl ?_
    refine V_geti (o := o) hC ho rfl fk_X4_22 dX4_oddsOf_6 ?_
    refine V_icmp_ge (tgt := 21) hC dX4_oddsOf_9 (by decide) (fun c2 => ?_) (fun c2 => ?_)
    · have hf := if_t hf c2
      refine V_iconst (v := 0) hC dX4_oddsOf_21 rfl ?_
      obtain rfl := so_inj hf
      exact V_iret hC hr hQ hA dX4_oddsOf_22
    · have hf := if_f hf c2
      refine V_aload_n 0 hC dX4_oddsOf_12 rfl rfl ?_
      refine V_geta (o := o) hC ho rfl fk_X4_44 dX4_oddsOf_13 ?_
      refine V_iload_n 1 hC dX4_oddsOf_16 rfl rfl ?_
      obtain ⟨g3, hf⟩ := gd_some hf
      refine V_iald (a := (32 * o + 11)) hC (hL.row ho rfl) g3 dX4_oddsOf_17 ?_
      refine V_goto (tgt := 22) hC dX4_oddsOf_18 (by decide) ?_
      obtain rfl := so_inj hf
      exact V_iret hC hr hQ hA dX4_oddsOf_22
def t_X4_turnsToWinOf (L : Nat → Nat) (d : Dt) (o : Nat) (p1 : Int32) : Option (Int32) := if p1 < 0 then some (-1) else if (gF d o 4) ≤ p1 then some (-1) else gd (inb p1 (L (32 * o + 15))) (some (gA d (32 * o + 15) (ix p1)))
set_option maxRecDepth 20000 in
theorem c_X4_turnsToWinOf {l : Launch} {Y : Yx} (hL : LAY Y) {z : Sh} {d : Dt} {o : Nat} {p1 : Int32} (ho : (0, o, 3) ∈ yI Y) {r : Int32} (hf : t_X4_turnsToWinOf z.1 d o p1 = some r) : MM l yX4_turnsToWinOf cX4_turnsToWinOf 2 (some .int) 0 0 Y z [.ref (yo Y o), .int p1] d (some (.int r)) d := by
  refine MM.ofV (by decide +kernel) hL (Nat.le_of_ble_eq_true rfl) (fun K hl hC hr hQ hA => ?_)
  have hC : CK K Y cX4_turnsToWinOf 2 RX4 0 0 := hC
  unfold t_X4_turnsToWinOf at hf
  show V K Y 2 0 0 z d 0 [(0, .ref (yo Y o)), (1, .int p1)] []
  refine V_iload_n 1 hC dX4_turnsToWinOf_0 rfl rfl ?_
  refine V_if_lt (tgt := 21) hC dX4_turnsToWinOf_1 (by decide) (fun c1 => ?_) (fun c1 => ?_)
  · have hf := if_t hf c1
    refine V_iconst (v := -1) hC dX4_turnsToWinOf_21 rfl ?_
    obtain rfl := so_inj hf
    exact V_iret hC hr hQ hA dX4_turnsToWinOf_22
  · have hf := if_f hf c1
    refine V_iload_n 1 hC dX4_turnsToWinOf_4 rfl rfl ?_
    refine V_aload_n 0 hC dX4_turnsToWinOf_5 rfl rfl ?_
    refine V_geti (o := o) hC ho rfl fk_X4_22 dX4_turnsToWinOf_6 ?_
    refine V_icmp_ge (tgt := 21) hC dX4_turnsToWinOf_9 (by decide) (fun c2 => ?_) (fun c2 => ?_)
    · have hf := if_t hf c2
      refine V_iconst (v := -1) hC dX4_turnsToWinOf_21 rfl ?_
      obtain rfl := so_inj hf
      exact V_iret hC hr hQ hA dX4_turnsToWinOf_22
    · have hf := if_f hf c2
      refine V_aload_n 0 hC dX4_turnsToWinOf_12 rfl rfl ?_
      refine V_geta (o := o) hC ho rfl fk_X4_56 dX4_turnsToWinOf_13 ?_
      refine V_iload_n 1 hC dX4_turnsToWinOf_16 rfl rfl ?_
      obtain ⟨g3, hf⟩ := gd_some hf
      refine V_iald (a := (32 * o + 15)) hC (hL.row ho rfl) g3 dX4_turnsToWinOf_17 ?_
      refine V_goto (tgt := 22) hC dX4_turnsToWinOf_18 (by decide) ?_
      obtain rfl := so_inj hf
      exact V_iret hC hr hQ hA dX4_turnsToWinOf_22
def t_X4_hasWon (L : Nat → Nat) (d : Dt) (o : Nat) (p1 : Int32) : Option (Int32) := gd (inb p1 (L (32 * o + 7))) ((t_X3_fateOf L d (gA d (32 * o + 7) (ix p1))).bind (fun v2 => if v2 = 1 then some 1 else some 0))
set_option maxRecDepth 20000 in
theorem c_X4_hasWon {l : Launch} {Y : Yx} (hL : LAY Y) {z : Sh} {d : Dt} {o : Nat} {p1 : Int32} (ho : (0, o, 3) ∈ yI Y) {r : Int32} (hf : t_X4_hasWon z.1 d o p1 = some r) : MM l yX4_hasWon cX4_hasWon 2 (some .boolean) 1 20 Y z [.ref (yo Y o), .int p1] d (some (.int r)) d := by
  refine MM.ofV (by decide +kernel) hL (Nat.le_of_ble_eq_true rfl) (fun K hl hC hr hQ hA => ?_)
  have hC : CK K Y cX4_hasWon 2 RX4 1 20 := hC
  have hkn : 0 ≤ (kR K).cells ∧ 0 ≤ (kR K).slots := ⟨Nat.zero_le _, Nat.zero_le _⟩
  unfold t_X4_hasWon at hf
  show V K Y 2 0 0 z d 0 [(0, .ref (yo Y o)), (1, .int p1)] []
  refine V_aload_n 0 hC dX4_hasWon_0 rfl rfl ?_
  refine V_geta (o := o) hC ho rfl fk_X4_31 dX4_hasWon_1 ?_
  refine V_iload_n 1 hC dX4_hasWon_4 rfl rfl ?_
  obtain ⟨g1, hf⟩ := gd_some hf
  refine V_iald (a := (32 * o + 7)) hC (hL.row ho rfl) g1 dX4_hasWon_5 ?_
  obtain ⟨v2, ev2, hf⟩ := bi_some hf
  refine V_insi (As := [.int (gA d (32 * o + 7) (ix p1))]) (rest := []) hC (c_X3_fateOf hL  ev2) me_X3_fateOf lk_X4_92 rfl rfl (Nat.le_of_ble_eq_true rfl) ⟨by decide, by decide⟩ hkn dX4_hasWon_6 ?_
  refine V_iconst (v := 1) hC dX4_hasWon_9 rfl ?_
  refine V_icmp_ne (tgt := 17) hC dX4_hasWon_10 (by decide) (fun c3 => ?_) (fun c3 => ?_)
  · have hf := if_f hf c3
    refine V_iconst (v := 0) hC dX4_hasWon_17 rfl ?_
    obtain rfl := so_inj hf
    exact V_zret hC hr rfl hQ hA dX4_hasWon_18
  · have hf := if_t hf c3
    refine V_iconst (v := 1) hC dX4_hasWon_13 rfl ?_
    refine V_goto (tgt := 18) hC dX4_hasWon_14 (by decide) ?_
    obtain rfl := so_inj hf
    exact V_zret hC hr rfl hQ hA dX4_hasWon_18
def t_X4_holeParts_51 (L : Nat → Nat) (d : Dt) (o : Nat) (k4 : Int32 → Int32 → Option (Int32)) (x1 : Int32) (x2 : Int32)  : Option (Int32) := k4 x1 (x2 + 1)
set_option maxRecDepth 20000 in
theorem b_X4_holeParts_51 {K : Kx} {Y : Yx} {z : Sh} {d : Dt} (hC : CK K Y cX4_holeParts 3 RX4 2 41) (hr : (kme K).sig.returnType = some .int) (hA : kA K = aY Y z) {o : Nat} (ho : (0, o, 3) ∈ yI Y) {r : Int32} (hQ : kQ K = MQ (kb K) (QM Y z (some (.int r)) d) (ka K) (ks K) 0 0 (aY Y z)) {k4 : Int32 → Int32 → Option (Int32)} (hk4 : ∀ (x1 : Int32) (x2 : Int32) , k4 x1 x2  = some r → V K Y 3 0 0 z d 4 [(0, .ref (yo Y o)), (1, .int x1), (2, .int x2)] []) (x1 : Int32) (x2 : Int32)  (hf : t_X4_holeParts_51 z.1 d o k4 x1 x2  = some r) : V K Y 3 0 0 z d 51 [(0, .ref (yo Y o)), (1, .int x1), (2, .int x2)] [] := by
  have hL := hC.2.2.2.2.2.2.1
  unfold t_X4_holeParts_51 at hf
  refine V_iinc (v := x2 + 1) (lv' := [(2, .int (x2 + 1)), (0, .ref (yo Y o)), (1, .int x1)]) 2 hC dX4_holeParts_51 rfl rfl (by decide) rfl ?_
  refine V_goto (tgt := 4) hC dX4_holeParts_54 (by decide) ?_
  exact V_sub [1, 2, 0] rfl (hk4 x1 (x2 + 1) hf)
def t_X4_holeParts_4 (L : Nat → Nat) (d : Dt) (o : Nat) (k4 : Int32 → Int32 → Option (Int32)) (x1 : Int32) (x2 : Int32)  : Option (Int32) := if (gF d o 0) ≤ x2 then some x1 else gd (inb x2 (L (32 * o + 8))) (gd (inb (x2 + 1) (L (32 * o + 8))) (if (gA d (32 * o + 8) (ix x2)) = (gA d (32 * o + 8) (ix (x2 + 1))) then (t_X4_hasWon L d o x2).bind (fun v5 => if v5 = 0 then gd (inb x2 (L (32 * o + 7))) ((t_X3_partOf L d (gA d (32 * o + 7) (ix x2))).bind (fun v8 => bd (x1 ||| ((1 : Int32) <<< (v8 &&& 31))) (fun y9 => t_X4_holeParts_51 L d o k4 y9 x2))) else t_X4_holeParts_51 L d o k4 x1 x2) else t_X4_holeParts_51 L d o k4 x1 x2))
set_option maxRecDepth 20000 in
theorem b_X4_holeParts_4 {K : Kx} {Y : Yx} {z : Sh} {d : Dt} (hC : CK K Y cX4_holeParts 3 RX4 2 41) (hr : (kme K).sig.returnType = some .int) (hA : kA K = aY Y z) {o : Nat} (ho : (0, o, 3) ∈ yI Y) {r : Int32} (hQ : kQ K = MQ (kb K) (QM Y z (some (.int r)) d) (ka K) (ks K) 0 0 (aY Y z)) {k4 : Int32 → Int32 → Option (Int32)} (hk4 : ∀ (x1 : Int32) (x2 : Int32) , k4 x1 x2  = some r → V K Y 3 0 0 z d 4 [(0, .ref (yo Y o)), (1, .int x1), (2, .int x2)] []) (x1 : Int32) (x2 : Int32)  (hf : t_X4_holeParts_4 z.1 d o k4 x1 x2  = some r) : V K Y 3 0 0 z d 4 [(0, .ref (yo Y o)), (1, .int x1), (2, .int x2)] [] := by
  have hL := hC.2.2.2.2.2.2.1
  have hkn : 0 ≤ (kR K).cells ∧ 0 ≤ (kR K).slots := ⟨Nat.zero_le _, Nat.zero_le _⟩
  unfold t_X4_holeParts_4 at hf
  refine V_iload_n 2 hC dX4_holeParts_4 rfl rfl ?_
  refine V_aload_n 0 hC dX4_holeParts_5 rfl rfl ?_
  refine V_geti (o := o) hC ho rfl fk_X4_11 dX4_holeParts_6 ?_
  refine V_icmp_ge (tgt := 57) hC dX4_holeParts_9 (by decide) (fun c1 => ?_) (fun c1 => ?_)
  · have hf := if_t hf c1
    refine V_iload_n 1 hC dX4_holeParts_57 rfl rfl ?_
    obtain rfl := so_inj hf
    exact V_iret hC hr hQ hA dX4_holeParts_58
  · have hf := if_f hf c1
    refine V_aload_n 0 hC dX4_holeParts_12 rfl rfl ?_
    refine V_geta (o := o) hC ho rfl fk_X4_35 dX4_holeParts_13 ?_
    refine V_iload_n 2 hC dX4_holeParts_16 rfl rfl ?_
    obtain ⟨g2, hf⟩ := gd_some hf
    refine V_iald (a := (32 * o + 8)) hC (hL.row ho rfl) g2 dX4_holeParts_17 ?_
    refine V_aload_n 0 hC dX4_holeParts_18 rfl rfl ?_
    refine V_geta (o := o) hC ho rfl fk_X4_35 dX4_holeParts_19 ?_
    refine V_iload_n 2 hC dX4_holeParts_22 rfl rfl ?_
    refine V_iconst (v := 1) hC dX4_holeParts_23 rfl ?_
    refine V_iadd hC dX4_holeParts_24 ?_
    obtain ⟨g3, hf⟩ := gd_some hf
    refine V_iald (a := (32 * o + 8)) hC (hL.row ho rfl) g3 dX4_holeParts_25 ?_
    refine V_icmp_ne (tgt := 51) hC dX4_holeParts_26 (by decide) (fun c4 => ?_) (fun c4 => ?_)
    · have hf := if_f hf c4
      exact b_X4_holeParts_51 hC hr hA ho hQ hk4 x1 x2 hf
    · have hf := if_t hf c4
      refine V_aload_n 0 hC dX4_holeParts_29 rfl rfl ?_
      refine V_iload_n 2 hC dX4_holeParts_30 rfl rfl ?_
      obtain ⟨v5, ev5, hf⟩ := bi_some hf
      refine V_invi (o := o) (As := [.int x2]) (rest := []) hC (c_X4_hasWon hL ho ev5) me_X4_hasWon lk_X4_107 ho rfl rfl rfl (Nat.le_of_ble_eq_true rfl) ⟨by decide, by decide⟩ hkn dX4_holeParts_31 ?_
      refine V_if_ne (tgt := 51) hC dX4_holeParts_34 (by decide) (fun c6 => ?_) (fun c6 => ?_)
      · have hf := if_f hf c6
        exact b_X4_holeParts_51 hC hr hA ho hQ hk4 x1 x2 hf
      · have hf := if_t hf c6
        refine V_iload_n 1 hC dX4_holeParts_37 rfl rfl ?_
        refine V_iconst (v := 1) hC dX4_holeParts_38 rfl ?_
        refine V_aload_n 0 hC dX4_holeParts_39 rfl rfl ?_
        refine V_geta (o := o) hC ho rfl fk_X4_31 dX4_holeParts_40 ?_
        refine V_iload_n 2 hC dX4_holeParts_43 rfl rfl ?_
        obtain ⟨g7, hf⟩ := gd_some hf
        refine V_iald (a := (32 * o + 7)) hC (hL.row ho rfl) g7 dX4_holeParts_44 ?_
        obtain ⟨v8, ev8, hf⟩ := bi_some hf
        refine V_insi (As := [.int (gA d (32 * o + 7) (ix x2))]) (rest := [.int 1, .int x1]) hC (c_X3_partOf hL  ev8) me_X3_partOf lk_X4_117 rfl rfl (Nat.le_of_ble_eq_true rfl) ⟨by decide, by decide⟩ hkn dX4_holeParts_45 ?_
        refine V_ishl hC dX4_holeParts_48 ?_
        refine V_ior hC dX4_holeParts_49 ?_
        refine V_topi (fun y9 ey9 => ?_)
        have hf := bd_e hf y9 ey9
        refine V_istore_n (lv' := [(1, .int y9), (0, .ref (yo Y o)), (2, .int x2)]) hC dX4_holeParts_50 rfl (by decide) rfl ?_
        exact V_sub [1, 0, 2] rfl (b_X4_holeParts_51 hC hr hA ho hQ hk4 y9 x2 hf)
def t_X4_holeParts (L : Nat → Nat) (d : Dt) (o : Nat) : Option (Int32) := lp (fun k x => t_X4_holeParts_4 L d o  (fun x1 x2 => k (x1, x2)) x.1 x.2) FU (0, 0)
set_option maxRecDepth 20000 in
theorem c_X4_holeParts {l : Launch} {Y : Yx} (hL : LAY Y) {z : Sh} {d : Dt} {o : Nat} (ho : (0, o, 3) ∈ yI Y) {r : Int32} (hf : t_X4_holeParts z.1 d o = some r) : MM l yX4_holeParts cX4_holeParts 3 (some .int) 2 41 Y z [.ref (yo Y o)] d (some (.int r)) d := by
  refine MM.ofV (by decide +kernel) hL (Nat.le_of_ble_eq_true rfl) (fun K hl hC hr hQ hA => ?_)
  have hC : CK K Y cX4_holeParts 3 RX4 2 41 := hC
  unfold t_X4_holeParts at hf
  show V K Y 3 0 0 z d 0 [(0, .ref (yo Y o))] []
  refine V_iconst (v := 0) hC dX4_holeParts_0 rfl ?_
  refine V_istore_n (lv' := [(1, .int 0), (0, .ref (yo Y o))]) hC dX4_holeParts_1 rfl (by decide) rfl ?_
  refine V_iconst (v := 0) hC dX4_holeParts_2 rfl ?_
  refine V_istore_n (lv' := [(2, .int 0), (1, .int 0), (0, .ref (yo Y o))]) hC dX4_holeParts_3 rfl (by decide) rfl ?_
  exact V_sub [2, 1, 0] rfl (lp_ind (X := Int32 × Int32) (P := fun x => V K Y 3 0 0 z d 4 [(0, .ref (yo Y o)), (1, .int x.1), (2, .int x.2)] []) (fun k x hk hx => b_X4_holeParts_4 hC hr hA ho hQ  (k4 := fun x1 x2 => k (x1, x2)) (fun x1 x2 hx => hk (x1, x2) hx) x.1 x.2 hx) FU (0, 0) hf)
def t_X4_hadThings_4 (L : Nat → Nat) (d : Dt) (o : Nat) (k4 : Int32 → Int32 → Option (Int32)) (x1 : Int32) (x2 : Int32)  : Option (Int32) := if (gF d o 0) ≤ x2 then some x1 else gd (inb x2 (L (32 * o + 7))) ((t_X3_thingsOf L d (gA d (32 * o + 7) (ix x2))).bind (fun v3 => bd (x1 ||| v3) (fun y4 => k4 y4 (x2 + 1))))
set_option maxRecDepth 20000 in
theorem b_X4_hadThings_4 {K : Kx} {Y : Yx} {z : Sh} {d : Dt} (hC : CK K Y cX4_hadThings 3 RX4 1 20) (hr : (kme K).sig.returnType = some .int) (hA : kA K = aY Y z) {o : Nat} (ho : (0, o, 3) ∈ yI Y) {r : Int32} (hQ : kQ K = MQ (kb K) (QM Y z (some (.int r)) d) (ka K) (ks K) 0 0 (aY Y z)) {k4 : Int32 → Int32 → Option (Int32)} (hk4 : ∀ (x1 : Int32) (x2 : Int32) , k4 x1 x2  = some r → V K Y 3 0 0 z d 4 [(0, .ref (yo Y o)), (1, .int x1), (2, .int x2)] []) (x1 : Int32) (x2 : Int32)  (hf : t_X4_hadThings_4 z.1 d o k4 x1 x2  = some r) : V K Y 3 0 0 z d 4 [(0, .ref (yo Y o)), (1, .int x1), (2, .int x2)] [] := by
  have hL := hC.2.2.2.2.2.2.1
  have hkn : 0 ≤ (kR K).cells ∧ 0 ≤ (kR K).slots := ⟨Nat.zero_le _, Nat.zero_le _⟩
  unfold t_X4_hadThings_4 at hf
  refine V_iload_n 2 hC dX4_hadThings_4 rfl rfl ?_
  refine V_aload_n 0 hC dX4_hadThings_5 rfl rfl ?_
  refine V_geti (o := o) hC ho rfl fk_X4_11 dX4_hadThings_6 ?_
  refine V_icmp_ge (tgt := 30) hC dX4_hadThings_9 (by decide) (fun c1 => ?_) (fun c1 => ?_)
  · have hf := if_t hf c1
    refine V_iload_n 1 hC dX4_hadThings_30 rfl rfl ?_
    obtain rfl := so_inj hf
    exact V_iret hC hr hQ hA dX4_hadThings_31
  · have hf := if_f hf c1
    refine V_iload_n 1 hC dX4_hadThings_12 rfl rfl ?_
    refine V_aload_n 0 hC dX4_hadThings_13 rfl rfl ?_
    refine V_geta (o := o) hC ho rfl fk_X4_31 dX4_hadThings_14 ?_
    refine V_iload_n 2 hC dX4_hadThings_17 rfl rfl ?_
    obtain ⟨g2, hf⟩ := gd_some hf
    refine V_iald (a := (32 * o + 7)) hC (hL.row ho rfl) g2 dX4_hadThings_18 ?_
    obtain ⟨v3, ev3, hf⟩ := bi_some hf
    refine V_insi (As := [.int (gA d (32 * o + 7) (ix x2))]) (rest := [.int x1]) hC (c_X3_thingsOf hL  ev3) me_X3_thingsOf lk_X4_120 rfl rfl (Nat.le_of_ble_eq_true rfl) ⟨by decide, by decide⟩ hkn dX4_hadThings_19 ?_
    refine V_ior hC dX4_hadThings_22 ?_
    refine V_topi (fun y4 ey4 => ?_)
    have hf := bd_e hf y4 ey4
    refine V_istore_n (lv' := [(1, .int y4), (0, .ref (yo Y o)), (2, .int x2)]) hC dX4_hadThings_23 rfl (by decide) rfl ?_
    refine V_iinc (v := x2 + 1) (lv' := [(2, .int (x2 + 1)), (1, .int y4), (0, .ref (yo Y o))]) 2 hC dX4_hadThings_24 rfl rfl (by decide) rfl ?_
    refine V_goto (tgt := 4) hC dX4_hadThings_27 (by decide) ?_
    exact V_sub [2, 1, 0] rfl (hk4 y4 (x2 + 1) hf)
def t_X4_hadThings (L : Nat → Nat) (d : Dt) (o : Nat) : Option (Int32) := lp (fun k x => t_X4_hadThings_4 L d o  (fun x1 x2 => k (x1, x2)) x.1 x.2) FU (0, 0)
set_option maxRecDepth 20000 in
theorem c_X4_hadThings {l : Launch} {Y : Yx} (hL : LAY Y) {z : Sh} {d : Dt} {o : Nat} (ho : (0, o, 3) ∈ yI Y) {r : Int32} (hf : t_X4_hadThings z.1 d o = some r) : MM l yX4_hadThings cX4_hadThings 3 (some .int) 1 20 Y z [.ref (yo Y o)] d (some (.int r)) d := by
  refine MM.ofV (by decide +kernel) hL (Nat.le_of_ble_eq_true rfl) (fun K hl hC hr hQ hA => ?_)
  have hC : CK K Y cX4_hadThings 3 RX4 1 20 := hC
  unfold t_X4_hadThings at hf
  show V K Y 3 0 0 z d 0 [(0, .ref (yo Y o))] []
  refine V_iconst (v := 0) hC dX4_hadThings_0 rfl ?_
  refine V_istore_n (lv' := [(1, .int 0), (0, .ref (yo Y o))]) hC dX4_hadThings_1 rfl (by decide) rfl ?_
  refine V_iconst (v := 0) hC dX4_hadThings_2 rfl ?_
  refine V_istore_n (lv' := [(2, .int 0), (1, .int 0), (0, .ref (yo Y o))]) hC dX4_hadThings_3 rfl (by decide) rfl ?_
  exact V_sub [2, 1, 0] rfl (lp_ind (X := Int32 × Int32) (P := fun x => V K Y 3 0 0 z d 4 [(0, .ref (yo Y o)), (1, .int x.1), (2, .int x.2)] []) (fun k x hk hx => b_X4_hadThings_4 hC hr hA ho hQ  (k4 := fun x1 x2 => k (x1, x2)) (fun x1 x2 hx => hk (x1, x2) hx) x.1 x.2 hx) FU (0, 0) hf)
def t_X4_forgetResults (L : Nat → Nat) (d : Dt) (o : Nat) : Option (Dt) := bd (sF d o 13 (-1)) (fun d1 => bd (sF d1 o 16 0) (fun d2 => some d2))
set_option maxRecDepth 20000 in
theorem c_X4_forgetResults {l : Launch} {Y : Yx} (hL : LAY Y) {z : Sh} {d : Dt} {o : Nat} (ho : (0, o, 3) ∈ yI Y) {d' : Dt} (hf : t_X4_forgetResults z.1 d o = some d') : MM l yX4_forgetResults cX4_forgetResults 1 none 0 0 Y z [.ref (yo Y o)] d (none) d' := by
  refine MM.ofV (by decide +kernel) hL (Nat.le_of_ble_eq_true rfl) (fun K hl hC hr hQ hA => ?_)
  have hC : CK K Y cX4_forgetResults 1 RX4 0 0 := hC
  unfold t_X4_forgetResults at hf
  show V K Y 1 0 0 z d 0 [(0, .ref (yo Y o))] []
  refine V_aload_n 0 hC dX4_forgetResults_0 rfl rfl ?_
  refine V_iconst (v := -1) hC dX4_forgetResults_1 rfl ?_
  refine V_puti (o := o) hC ho rfl fk_X4_50 pl_X4 rfl rfl dX4_forgetResults_2 (fun d1 ed1 => ?_)
  have hf := bd_e hf d1 ed1
  refine V_aload_n 0 hC dX4_forgetResults_5 rfl rfl ?_
  refine V_iconst (v := 0) hC dX4_forgetResults_6 rfl ?_
  refine V_putz (o := o) hC ho rfl fk_X4_59 pl_X4 rfl rfl rfl dX4_forgetResults_7 (fun d2 ed2 => ?_)
  have hf := bd_e hf d2 ed2
  obtain rfl := so_inj hf
  exact V_vret hC hr hQ hA dX4_forgetResults_10
def t_X4_oddsBehindTurn_116 (L : Nat → Nat) (d : Dt) (o : Nat) (p1 : Int32) (k116 : Int32 → Int32 → Option (Int32)) (x4 : Int32) (x5 : Int32)  : Option (Int32) := gd (inb (p1 + 1) (L (32 * o + 8))) (if (gA d (32 * o + 8) (ix (p1 + 1))) ≤ x5 then some x4 else gd (inb x5 (L (32 * o + 9))) ((t_X4_oddsOf L d o (gA d (32 * o + 9) (ix x5))).bind (fun v23 => bd (if x4 < v23 then v23 else x4) (fun y24 => k116 y24 (x5 + 1)))))
set_option maxRecDepth 20000 in
theorem b_X4_oddsBehindTurn_116 {K : Kx} {Y : Yx} {z : Sh} {d : Dt} (hC : CK K Y cX4_oddsBehindTurn 7 RX4 2 42) (hr : (kme K).sig.returnType = some .int) (hA : kA K = aY Y z) {o : Nat} {p1 : Int32} (ho : (0, o, 3) ∈ yI Y) {r : Int32} (hQ : kQ K = MQ (kb K) (QM Y z (some (.int r)) d) (ka K) (ks K) 0 0 (aY Y z)) {k116 : Int32 → Int32 → Option (Int32)} (hk116 : ∀ (x4 : Int32) (x5 : Int32) , k116 x4 x5  = some r → V K Y 7 0 0 z d 116 [(0, .ref (yo Y o)), (1, .int p1), (4, .int x4), (5, .int x5)] []) (x4 : Int32) (x5 : Int32)  (hf : t_X4_oddsBehindTurn_116 z.1 d o p1 k116 x4 x5  = some r) : V K Y 7 0 0 z d 116 [(0, .ref (yo Y o)), (1, .int p1), (4, .int x4), (5, .int x5)] [] := by
  have hL := hC.2.2.2.2.2.2.1
  have hkn : 0 ≤ (kR K).cells ∧ 0 ≤ (kR K).slots := ⟨Nat.zero_le _, Nat.zero_le _⟩
  unfold t_X4_oddsBehindTurn_116 at hf
  refine V_iload 3 hC dX4_oddsBehindTurn_116 rfl ?_
  refine V_aload_n 0 hC dX4_oddsBehindTurn_118 rfl rfl ?_
  refine V_geta (o := o) hC ho rfl fk_X4_35 dX4_oddsBehindTurn_119 ?_
  refine V_iload_n 1 hC dX4_oddsBehindTurn_122 rfl rfl ?_
  refine V_iconst (v := 1) hC dX4_oddsBehindTurn_123 rfl ?_
  refine V_iadd hC dX4_oddsBehindTurn_124 ?_
  obtain ⟨g20, hf⟩ := gd_some hf
  refine V_iald (a := (32 * o + 8)) hC (hL.row ho rfl) g20 dX4_oddsBehindTurn_125 ?_
  refine V_icmp_ge (tgt := 153) hC dX4_oddsBehindTurn_126 (by decide) (fun c21 => ?_) (fun c21 => ?_)
  · have hf := if_t hf c21
    refine V_iload 2 hC dX4_oddsBehindTurn_153 rfl ?_
    obtain rfl := so_inj hf
    exact V_iret hC hr hQ hA dX4_oddsBehindTurn_155
  · have hf := if_f hf c21
    refine V_iload 2 hC dX4_oddsBehindTurn_129 rfl ?_
    refine V_aload_n 0 hC dX4_oddsBehindTurn_131 rfl rfl ?_
    refine V_aload_n 0 hC dX4_oddsBehindTurn_132 rfl rfl ?_
    refine V_geta (o := o) hC ho rfl fk_X4_38 dX4_oddsBehindTurn_133 ?_
    refine V_iload 3 hC dX4_oddsBehindTurn_136 rfl ?_
    obtain ⟨g22, hf⟩ := gd_some hf
    refine V_iald (a := (32 * o + 9)) hC (hL.row ho rfl) g22 dX4_oddsBehindTurn_138 ?_
    obtain ⟨v23, ev23, hf⟩ := bi_some hf
    refine V_invi (o := o) (As := [.int (gA d (32 * o + 9) (ix x5))]) (rest := [.int x4]) hC (c_X4_oddsOf hL ho ev23) me_X4_oddsOf lk_X4_166 ho rfl rfl rfl (Nat.le_of_ble_eq_true rfl) ⟨by decide, by decide⟩ hkn dX4_oddsBehindTurn_139 ?_
    refine V_mmax hC mm_X4_169 (by decide) (Nat.le_of_ble_eq_true rfl) hkn dX4_oddsBehindTurn_142 ?_
    refine V_topi (fun y24 ey24 => ?_)
    have hf := bd_e hf y24 ey24
    refine V_istore (lv' := [(4, .int y24), (0, .ref (yo Y o)), (1, .int p1), (5, .int x5)]) hC dX4_oddsBehindTurn_145 (by decide) rfl ?_
    refine V_iinc (v := x5 + 1) (lv' := [(5, .int (x5 + 1)), (4, .int y24), (0, .ref (yo Y o)), (1, .int p1)]) 3 hC dX4_oddsBehindTurn_147 rfl rfl (by decide) rfl ?_
    refine V_goto (tgt := 116) hC dX4_oddsBehindTurn_150 (by decide) ?_
    exact V_sub [2, 3, 1, 0] rfl (hk116 y24 (x5 + 1) hf)
def t_X4_oddsBehindTurn_110 (L : Nat → Nat) (d : Dt) (o : Nat) (p1 : Int32)  (x2 : Int32)  : Option (Int32) := lp (fun k x => t_X4_oddsBehindTurn_116 L d o p1  (fun x4 x5 => k (x4, x5)) x.1 x.2) FU (0, x2)
set_option maxRecDepth 20000 in
theorem b_X4_oddsBehindTurn_110 {K : Kx} {Y : Yx} {z : Sh} {d : Dt} (hC : CK K Y cX4_oddsBehindTurn 7 RX4 2 42) (hr : (kme K).sig.returnType = some .int) (hA : kA K = aY Y z) {o : Nat} {p1 : Int32} (ho : (0, o, 3) ∈ yI Y) {r : Int32} (hQ : kQ K = MQ (kb K) (QM Y z (some (.int r)) d) (ka K) (ks K) 0 0 (aY Y z))   (x2 : Int32)  (hf : t_X4_oddsBehindTurn_110 z.1 d o p1  x2  = some r) : V K Y 7 0 0 z d 110 [(0, .ref (yo Y o)), (1, .int p1), (2, .int x2)] [] := by
  have hL := hC.2.2.2.2.2.2.1
  unfold t_X4_oddsBehindTurn_110 at hf
  refine V_iconst (v := 0) hC dX4_oddsBehindTurn_110 rfl ?_
  refine V_istore (lv' := [(4, .int 0), (0, .ref (yo Y o)), (1, .int p1), (2, .int x2)]) hC dX4_oddsBehindTurn_111 (by decide) rfl ?_
  refine V_iload_n 3 hC dX4_oddsBehindTurn_113 rfl rfl ?_
  refine V_istore (lv' := [(5, .int x2), (4, .int 0), (0, .ref (yo Y o)), (1, .int p1), (2, .int x2)]) hC dX4_oddsBehindTurn_114 (by decide) rfl ?_
  exact V_sub [2, 3, 1, 0] rfl (lp_ind (X := Int32 × Int32) (P := fun x => V K Y 7 0 0 z d 116 [(0, .ref (yo Y o)), (1, .int p1), (4, .int x.1), (5, .int x.2)] []) (fun k x hk hx => b_X4_oddsBehindTurn_116 hC hr hA ho hQ  (k116 := fun x4 x5 => k (x4, x5)) (fun x4 x5 hx => hk (x4, x5) hx) x.1 x.2 hx) FU (0, x2) hf)
def t_X4_oddsBehindTurn (L : Nat → Nat) (d : Dt) (o : Nat) (p1 : Int32) : Option (Int32) := (t_X4_hasWon L d o p1).bind (fun v1 => if v1 = 0 then gd (inb p1 (L (32 * o + 8))) (bd (gA d (32 * o + 8) (ix p1)) (fun y4 => gd (inb p1 (L (32 * o + 7))) ((t_X3_partOf L d (gA d (32 * o + 7) (ix p1))).bind (fun v6 => (t_X0_isRoll L d 6 v6).bind (fun v7 => if v7 = 0 then t_X4_oddsBehindTurn_110 L d o p1  y4 else gd (inb (p1 + 1) (L (32 * o + 8))) (if ((gA d (32 * o + 8) (ix (p1 + 1))) - y4) = 2 then gd (inb v6 (L (32 * 6 + 3))) (bd (gA d (32 * 6 + 3) (ix v6)) (fun y12 => gd (inb y4 (L (32 * o + 9))) ((t_X4_oddsOf L d o (gA d (32 * o + 9) (ix y4))).bind (fun v14 => bd ((7 - y12) * v14) (fun y15 => gd (inb (y4 + 1) (L (32 * o + 9))) ((t_X4_oddsOf L d o (gA d (32 * o + 9) (ix (y4 + 1)))).bind (fun v17 => bd ((y12 - 1) * v17) (fun y18 => some ((y15 + y18) / 6))))))))) else t_X4_oddsBehindTurn_110 L d o p1  y4)))))) else some 1000000)
set_option maxRecDepth 20000 in
theorem c_X4_oddsBehindTurn {l : Launch} {Y : Yx} (hL : LAY Y) {z : Sh} {d : Dt} {o : Nat} {p1 : Int32} (ho : (0, o, 3) ∈ yI Y) {r : Int32} (hf : t_X4_oddsBehindTurn z.1 d o p1 = some r) : MM l yX4_oddsBehindTurn cX4_oddsBehindTurn 7 (some .int) 2 42 Y z [.ref (yo Y o), .int p1] d (some (.int r)) d := by
  refine MM.ofV (by decide +kernel) hL (Nat.le_of_ble_eq_true rfl) (fun K hl hC hr hQ hA => ?_)
  have hC : CK K Y cX4_oddsBehindTurn 7 RX4 2 42 := hC
  have hkn : 0 ≤ (kR K).cells ∧ 0 ≤ (kR K).slots := ⟨Nat.zero_le _, Nat.zero_le _⟩
  unfold t_X4_oddsBehindTurn at hf
  show V K Y 7 0 0 z d 0 [(0, .ref (yo Y o)), (1, .int p1)] []
  refine V_aload_n 0 hC dX4_oddsBehindTurn_0 rfl rfl ?_
  refine V_iload_n 1 hC dX4_oddsBehindTurn_1 rfl rfl ?_
  obtain ⟨v1, ev1, hf⟩ := bi_some hf
  refine V_invi (o := o) (As := [.int p1]) (rest := []) hC (c_X4_hasWon hL ho ev1) me_X4_hasWon lk_X4_107 ho rfl rfl rfl (Nat.le_of_ble_eq_true rfl) ⟨by decide, by decide⟩ hkn dX4_oddsBehindTurn_2 ?_
  refine V_if_eq (tgt := 11) hC dX4_oddsBehindTurn_5 (by decide) (fun c2 => ?_) (fun c2 => ?_)
  · have hf := if_t hf c2
    refine V_aload_n 0 hC dX4_oddsBehindTurn_11 rfl rfl ?_
    refine V_geta (o := o) hC ho rfl fk_X4_35 dX4_oddsBehindTurn_12 ?_
    refine V_iload_n 1 hC dX4_oddsBehindTurn_15 rfl rfl ?_
    obtain ⟨g3, hf⟩ := gd_some hf
    refine V_iald (a := (32 * o + 8)) hC (hL.row ho rfl) g3 dX4_oddsBehindTurn_16 ?_
    refine V_topi (fun y4 ey4 => ?_)
    have hf := bd_e hf y4 ey4
    refine V_istore_n (lv' := [(2, .int y4), (0, .ref (yo Y o)), (1, .int p1)]) hC dX4_oddsBehindTurn_17 rfl (by decide) rfl ?_
    refine V_aload_n 1 hC dX4_oddsBehindTurn_18 rfl rfl ?_
    refine V_geta (o := o) hC ho rfl fk_X4_31 dX4_oddsBehindTurn_19 ?_
    refine V_iload_n 2 hC dX4_oddsBehindTurn_22 rfl rfl ?_
    obtain ⟨g5, hf⟩ := gd_some hf
    refine V_iald (a := (32 * o + 7)) hC (hL.row ho rfl) g5 dX4_oddsBehindTurn_23 ?_
    obtain ⟨v6, ev6, hf⟩ := bi_some hf
    refine V_insi (As := [.int (gA d (32 * o + 7) (ix p1))]) (rest := []) hC (c_X3_partOf hL  ev6) me_X3_partOf lk_X4_117 rfl rfl (Nat.le_of_ble_eq_true rfl) ⟨by decide, by decide⟩ hkn dX4_oddsBehindTurn_24 ?_
    refine V_istore_n (lv' := [(3, .int v6), (2, .int y4), (0, .ref (yo Y o)), (1, .int p1)]) hC dX4_oddsBehindTurn_27 rfl (by decide) rfl ?_
    refine V_aload_n 2 hC dX4_oddsBehindTurn_28 rfl rfl ?_
    refine V_geto (o := o) (o2 := 6) hC ho rfl fk_X4_62 rfl dX4_oddsBehindTurn_29 ?_
    refine V_iload_n 0 hC dX4_oddsBehindTurn_32 rfl rfl ?_
    obtain ⟨v7, ev7, hf⟩ := bi_some hf
    refine V_invi (o := 6) (As := [.int v6]) (rest := []) hC (c_X0_isRoll hL (show (0, 6, 0) ∈ yI Y from hL.obj (j := 3) ho rfl) ev7) me_X0_isRoll lk_X4_160 (show (0, 6, 0) ∈ yI Y from hL.obj (j := 3) ho rfl) rfl rfl rfl (Nat.le_of_ble_eq_true rfl) ⟨by decide, by decide⟩ hkn dX4_oddsBehindTurn_33 ?_
    refine V_if_eq (tgt := 110) hC dX4_oddsBehindTurn_36 (by decide) (fun c8 => ?_) (fun c8 => ?_)
    · have hf := if_t hf c8
      exact V_sub [2, 3, 1] rfl (b_X4_oddsBehindTurn_110 hC hr hA ho hQ  y4 hf)
    · have hf := if_f hf c8
      refine V_aload_n 2 hC dX4_oddsBehindTurn_39 rfl rfl ?_
      refine V_geta (o := o) hC ho rfl fk_X4_35 dX4_oddsBehindTurn_40 ?_
      refine V_iload_n 3 hC dX4_oddsBehindTurn_43 rfl rfl ?_
      refine V_iconst (v := 1) hC dX4_oddsBehindTurn_44 rfl ?_
      refine V_iadd hC dX4_oddsBehindTurn_45 ?_
      obtain ⟨g9, hf⟩ := gd_some hf
      refine V_iald (a := (32 * o + 8)) hC (hL.row ho rfl) g9 dX4_oddsBehindTurn_46 ?_
      refine V_iload_n 1 hC dX4_oddsBehindTurn_47 rfl rfl ?_
      refine V_isub hC dX4_oddsBehindTurn_48 ?_
      refine V_iconst (v := 2) hC dX4_oddsBehindTurn_49 rfl ?_
      refine V_icmp_ne (tgt := 110) hC dX4_oddsBehindTurn_50 (by decide) (fun c10 => ?_) (fun c10 => ?_)
      · have hf := if_f hf c10
        exact V_sub [2, 3, 1] rfl (b_X4_oddsBehindTurn_110 hC hr hA ho hQ  y4 hf)
      · have hf := if_t hf c10
        refine V_aload_n 2 hC dX4_oddsBehindTurn_53 rfl rfl ?_
        refine V_geto (o := o) (o2 := 6) hC ho rfl fk_X4_62 rfl dX4_oddsBehindTurn_54 ?_
        refine V_geta (o := 6) hC (show (0, 6, 0) ∈ yI Y from hL.obj (j := 3) ho rfl) rfl fk_X4_163 dX4_oddsBehindTurn_57 ?_
        refine V_iload_n 0 hC dX4_oddsBehindTurn_60 rfl rfl ?_
        obtain ⟨g11, hf⟩ := gd_some hf
        refine V_iald (a := (32 * 6 + 3)) hC (hL.row (show (0, 6, 0) ∈ yI Y from hL.obj (j := 3) ho rfl) rfl) g11 dX4_oddsBehindTurn_61 ?_
        refine V_topi (fun y12 ey12 => ?_)
        have hf := bd_e hf y12 ey12
        refine V_istore (lv' := [(4, .int y12), (3, .int v6), (2, .int y4), (0, .ref (yo Y o)), (1, .int p1)]) hC dX4_oddsBehindTurn_62 (by decide) rfl ?_
        refine V_bipush (v := 7) hC dX4_oddsBehindTurn_64 rfl ?_
        refine V_iload 0 hC dX4_oddsBehindTurn_66 rfl ?_
        refine V_isub hC dX4_oddsBehindTurn_68 ?_
        refine V_aload_n 3 hC dX4_oddsBehindTurn_69 rfl rfl ?_
        refine V_aload_n 3 hC dX4_oddsBehindTurn_70 rfl rfl ?_
        refine V_geta (o := o) hC ho rfl fk_X4_38 dX4_oddsBehindTurn_71 ?_
        refine V_iload_n 2 hC dX4_oddsBehindTurn_74 rfl rfl ?_
        obtain ⟨g13, hf⟩ := gd_some hf
        refine V_iald (a := (32 * o + 9)) hC (hL.row ho rfl) g13 dX4_oddsBehindTurn_75 ?_
        obtain ⟨v14, ev14, hf⟩ := bi_some hf
        refine V_invi (o := o) (As := [.int (gA d (32 * o + 9) (ix y4))]) (rest := [.int (7 - y12)]) hC (c_X4_oddsOf hL ho ev14) me_X4_oddsOf lk_X4_166 ho rfl rfl rfl (Nat.le_of_ble_eq_true rfl) ⟨by decide, by decide⟩ hkn dX4_oddsBehindTurn_76 ?_
        refine V_imul hC dX4_oddsBehindTurn_79 ?_
        refine V_topi (fun y15 ey15 => ?_)
        have hf := bd_e hf y15 ey15
        refine V_istore (lv' := [(5, .int y15), (4, .int y12), (3, .int v6), (2, .int y4), (0, .ref (yo Y o)), (1, .int p1)]) hC dX4_oddsBehindTurn_80 (by decide) rfl ?_
        refine V_iload 1 hC dX4_oddsBehindTurn_82 rfl ?_
        refine V_iconst (v := 1) hC dX4_oddsBehindTurn_84 rfl ?_
        refine V_isub hC dX4_oddsBehindTurn_85 ?_
        refine V_aload_n 4 hC dX4_oddsBehindTurn_86 rfl rfl ?_
        refine V_aload_n 4 hC dX4_oddsBehindTurn_87 rfl rfl ?_
        refine V_geta (o := o) hC ho rfl fk_X4_38 dX4_oddsBehindTurn_88 ?_
        refine V_iload_n 3 hC dX4_oddsBehindTurn_91 rfl rfl ?_
        refine V_iconst (v := 1) hC dX4_oddsBehindTurn_92 rfl ?_
        refine V_iadd hC dX4_oddsBehindTurn_93 ?_
        obtain ⟨g16, hf⟩ := gd_some hf
        refine V_iald (a := (32 * o + 9)) hC (hL.row ho rfl) g16 dX4_oddsBehindTurn_94 ?_
        obtain ⟨v17, ev17, hf⟩ := bi_some hf
        refine V_invi (o := o) (As := [.int (gA d (32 * o + 9) (ix (y4 + 1)))]) (rest := [.int (y12 - 1)]) hC (c_X4_oddsOf hL ho ev17) me_X4_oddsOf lk_X4_166 ho rfl rfl rfl (Nat.le_of_ble_eq_true rfl) ⟨by decide, by decide⟩ hkn dX4_oddsBehindTurn_95 ?_
        refine V_imul hC dX4_oddsBehindTurn_98 ?_
        refine V_topi (fun y18 ey18 => ?_)
        have hf := bd_e hf y18 ey18
        refine V_istore (lv' := [(6, .int y18), (5, .int y15), (4, .int y12), (3, .int v6), (2, .int y4), (0, .ref (yo Y o)), (1, .int p1)]) hC dX4_oddsBehindTurn_99 (by decide) rfl ?_
        refine V_iload 1 hC dX4_oddsBehindTurn_101 rfl ?_
        refine V_iload 0 hC dX4_oddsBehindTurn_103 rfl ?_
        refine V_iadd hC dX4_oddsBehindTurn_105 ?_
        refine V_bipush (v := 6) hC dX4_oddsBehindTurn_106 rfl ?_
        refine V_idiv hC dX4_oddsBehindTurn_108 (by decide) ?_
        obtain rfl := so_inj hf
        exact V_iret hC hr hQ hA dX4_oddsBehindTurn_109
  · have hf := if_f hf c2
    refine V_ldc hC ck_X4_156 dX4_oddsBehindTurn_8 ?_
    obtain rfl := so_inj hf
    exact V_iret hC hr hQ hA dX4_oddsBehindTurn_10
def t_X4_leadsTo_7 (L : Nat → Nat) (d : Dt) (o : Nat) (p1 : Int32) (p2 : Int32) (k7 : Int32 → Option (Int32)) (x3 : Int32)  : Option (Int32) := gd (inb (p1 + 1) (L (32 * o + 8))) (if (gA d (32 * o + 8) (ix (p1 + 1))) ≤ x3 then some 0 else gd (inb x3 (L (32 * o + 9))) ((t_X4_turnsToWinOf L d o (gA d (32 * o + 9) (ix x3))).bind (fun v6 => if v6 = p2 then some 1 else k7 (x3 + 1))))
set_option maxRecDepth 20000 in
theorem b_X4_leadsTo_7 {K : Kx} {Y : Yx} {z : Sh} {d : Dt} (hC : CK K Y cX4_leadsTo 4 RX4 1 21) (hr : (kme K).sig.returnType = some .boolean) (hA : kA K = aY Y z) {o : Nat} {p1 : Int32} {p2 : Int32} (ho : (0, o, 3) ∈ yI Y) {r : Int32} (hQ : kQ K = MQ (kb K) (QM Y z (some (.int r)) d) (ka K) (ks K) 0 0 (aY Y z)) {k7 : Int32 → Option (Int32)} (hk7 : ∀ (x3 : Int32) , k7 x3  = some r → V K Y 4 0 0 z d 7 [(0, .ref (yo Y o)), (1, .int p1), (2, .int p2), (3, .int x3)] []) (x3 : Int32)  (hf : t_X4_leadsTo_7 z.1 d o p1 p2 k7 x3  = some r) : V K Y 4 0 0 z d 7 [(0, .ref (yo Y o)), (1, .int p1), (2, .int p2), (3, .int x3)] [] := by
  have hL := hC.2.2.2.2.2.2.1
  have hkn : 0 ≤ (kR K).cells ∧ 0 ≤ (kR K).slots := ⟨Nat.zero_le _, Nat.zero_le _⟩
  unfold t_X4_leadsTo_7 at hf
  refine V_iload_n 3 hC dX4_leadsTo_7 rfl rfl ?_
  refine V_aload_n 0 hC dX4_leadsTo_8 rfl rfl ?_
  refine V_geta (o := o) hC ho rfl fk_X4_35 dX4_leadsTo_9 ?_
  refine V_iload_n 1 hC dX4_leadsTo_12 rfl rfl ?_
  refine V_iconst (v := 1) hC dX4_leadsTo_13 rfl ?_
  refine V_iadd hC dX4_leadsTo_14 ?_
  obtain ⟨g3, hf⟩ := gd_some hf
  refine V_iald (a := (32 * o + 8)) hC (hL.row ho rfl) g3 dX4_leadsTo_15 ?_
  refine V_icmp_ge (tgt := 41) hC dX4_leadsTo_16 (by decide) (fun c4 => ?_) (fun c4 => ?_)
  · have hf := if_t hf c4
    refine V_iconst (v := 0) hC dX4_leadsTo_41 rfl ?_
    obtain rfl := so_inj hf
    exact V_zret hC hr rfl hQ hA dX4_leadsTo_42
  · have hf := if_f hf c4
    refine V_aload_n 0 hC dX4_leadsTo_19 rfl rfl ?_
    refine V_aload_n 0 hC dX4_leadsTo_20 rfl rfl ?_
    refine V_geta (o := o) hC ho rfl fk_X4_38 dX4_leadsTo_21 ?_
    refine V_iload_n 3 hC dX4_leadsTo_24 rfl rfl ?_
    obtain ⟨g5, hf⟩ := gd_some hf
    refine V_iald (a := (32 * o + 9)) hC (hL.row ho rfl) g5 dX4_leadsTo_25 ?_
    obtain ⟨v6, ev6, hf⟩ := bi_some hf
    refine V_invi (o := o) (As := [.int (gA d (32 * o + 9) (ix x3))]) (rest := []) hC (c_X4_turnsToWinOf hL ho ev6) me_X4_turnsToWinOf lk_X4_172 ho rfl rfl rfl (Nat.le_of_ble_eq_true rfl) ⟨by decide, by decide⟩ hkn dX4_leadsTo_26 ?_
    refine V_iload_n 2 hC dX4_leadsTo_29 rfl rfl ?_
    refine V_icmp_ne (tgt := 35) hC dX4_leadsTo_30 (by decide) (fun c7 => ?_) (fun c7 => ?_)
    · have hf := if_f hf c7
      refine V_iinc (v := x3 + 1) (lv' := [(3, .int (x3 + 1)), (0, .ref (yo Y o)), (1, .int p1), (2, .int p2)]) 3 hC dX4_leadsTo_35 rfl rfl (by decide) rfl ?_
      refine V_goto (tgt := 7) hC dX4_leadsTo_38 (by decide) ?_
      exact V_sub [1, 2, 3, 0] rfl (hk7 (x3 + 1) hf)
    · have hf := if_t hf c7
      refine V_iconst (v := 1) hC dX4_leadsTo_33 rfl ?_
      obtain rfl := so_inj hf
      exact V_zret hC hr rfl hQ hA dX4_leadsTo_34
def t_X4_leadsTo (L : Nat → Nat) (d : Dt) (o : Nat) (p1 : Int32) (p2 : Int32) : Option (Int32) := gd (inb p1 (L (32 * o + 8))) (bd (gA d (32 * o + 8) (ix p1)) (fun y2 => lp (fun k x => t_X4_leadsTo_7 L d o p1 p2  (fun x3 => k x3) x) FU y2))
set_option maxRecDepth 20000 in
theorem c_X4_leadsTo {l : Launch} {Y : Yx} (hL : LAY Y) {z : Sh} {d : Dt} {o : Nat} {p1 : Int32} {p2 : Int32} (ho : (0, o, 3) ∈ yI Y) {r : Int32} (hf : t_X4_leadsTo z.1 d o p1 p2 = some r) : MM l yX4_leadsTo cX4_leadsTo 4 (some .boolean) 1 21 Y z [.ref (yo Y o), .int p1, .int p2] d (some (.int r)) d := by
  refine MM.ofV (by decide +kernel) hL (Nat.le_of_ble_eq_true rfl) (fun K hl hC hr hQ hA => ?_)
  have hC : CK K Y cX4_leadsTo 4 RX4 1 21 := hC
  unfold t_X4_leadsTo at hf
  show V K Y 4 0 0 z d 0 [(0, .ref (yo Y o)), (1, .int p1), (2, .int p2)] []
  refine V_aload_n 0 hC dX4_leadsTo_0 rfl rfl ?_
  refine V_geta (o := o) hC ho rfl fk_X4_35 dX4_leadsTo_1 ?_
  refine V_iload_n 1 hC dX4_leadsTo_4 rfl rfl ?_
  obtain ⟨g1, hf⟩ := gd_some hf
  refine V_iald (a := (32 * o + 8)) hC (hL.row ho rfl) g1 dX4_leadsTo_5 ?_
  refine V_topi (fun y2 ey2 => ?_)
  have hf := bd_e hf y2 ey2
  refine V_istore_n (lv' := [(3, .int y2), (0, .ref (yo Y o)), (1, .int p1), (2, .int p2)]) hC dX4_leadsTo_6 rfl (by decide) rfl ?_
  exact V_sub [1, 2, 3, 0] rfl (lp_ind (X := Int32) (P := fun x => V K Y 4 0 0 z d 7 [(0, .ref (yo Y o)), (1, .int p1), (2, .int p2), (3, .int x)] []) (fun k x hk hx => b_X4_leadsTo_7 hC hr hA ho hQ  (k7 := fun x3 => k x3) (fun x3 hx => hk x3 hx) x hx) FU y2 hf)
