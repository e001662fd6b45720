/-! ===== texts: String.length, String.charAt of the constants ===== -/
theorem lk_J0_335 : Cond.methodLink RJ0 335 yJ0_coder_7d493 ∈ gt := gt_t 304 (by decide +kernel) rfl
theorem lk_J0_492 : Cond.methodLink RJ0 492 yJ0_isLatin1_aae02 ∈ gt := gt_t 314 (by decide +kernel) rfl
theorem lk_J0_495 : Cond.methodLink RJ0 495 yJ1_charAt_3b067 ∈ gt := gt_t 318 (by decide +kernel) rfl
theorem lk_J0_1059 : Cond.methodLink RJ0 1059 yJ3_checkIndex_8e157 ∈ gt := gt_t 326 (by decide +kernel) rfl
theorem lk_J1_9 : Cond.methodLink RJ1 9 yJ0_checkIndex_df160 ∈ gt := gt_t 321 (by decide +kernel) rfl
theorem me_J0_coder_7d493 : MEV RJ0 yJ0_coder_7d493 cJ0_coder_7d493 1 (some .byte) 0 := ⟨⟨gt_t 307 (by decide +kernel) rfl, gt_t 7 (by decide +kernel) rfl, by decide +kernel⟩, gt_t 305 (by decide +kernel) rfl, gt_t 306 (by decide +kernel) rfl⟩
theorem me_J0_isLatin1_aae02 : MEV RJ0 yJ0_isLatin1_aae02 cJ0_isLatin1_aae02 1 (some .boolean) 0 := ⟨⟨gt_t 317 (by decide +kernel) rfl, gt_t 7 (by decide +kernel) rfl, by decide +kernel⟩, gt_t 315 (by decide +kernel) rfl, gt_t 316 (by decide +kernel) rfl⟩
theorem me_J0_length_8abf5 : MEV RJ0 yJ0_length_8abf5 cJ0_length_8abf5 1 (some .int) 0 := ⟨⟨gt_t 303 (by decide +kernel) rfl, gt_t 7 (by decide +kernel) rfl, by decide +kernel⟩, gt_t 301 (by decide +kernel) rfl, gt_t 302 (by decide +kernel) rfl⟩
theorem me_J0_charAt_5068e : MEV RJ0 yJ0_charAt_5068e cJ0_charAt_5068e 2 (some .char) 1 := ⟨⟨gt_t 313 (by decide +kernel) rfl, gt_t 7 (by decide +kernel) rfl, by decide +kernel⟩, gt_t 311 (by decide +kernel) rfl, gt_t 312 (by decide +kernel) rfl⟩
theorem me_J1_charAt_3b067 : MES yJ1_charAt_3b067 cJ1_charAt_3b067 2 (some .char) 2 := ⟨⟨gt_t 320 (by decide +kernel) rfl, gt_t 8 (by decide +kernel) rfl, by decide +kernel⟩, gt_t 319 (by decide +kernel) rfl⟩
theorem me_J0_checkIndex_df160 : MES yJ0_checkIndex_df160 cJ0_checkIndex_df160 2 none 2 := ⟨⟨gt_t 323 (by decide +kernel) rfl, gt_t 7 (by decide +kernel) rfl, by decide +kernel⟩, gt_t 322 (by decide +kernel) rfl⟩
theorem me_J3_checkIndex_8e157 : MES yJ3_checkIndex_8e157 cJ3_checkIndex_8e157 3 (some .int) 3 := ⟨⟨gt_t 328 (by decide +kernel) rfl, gt_t 9 (by decide +kernel) rfl, by decide +kernel⟩, gt_t 327 (by decide +kernel) rfl⟩
theorem fs_J0_38 : Cond.fieldLink RJ0 38 "java/lang/String" "COMPACT_STRINGS" "Z" ∈ gt := gt_t 308 (by decide +kernel) rfl
theorem fs_J0_15 : Cond.fieldLink RJ0 15 "java/lang/String" "coder" "B" ∈ gt := gt_t 1379 (by decide +kernel) rfl
theorem fs_J0_9 : Cond.fieldLink RJ0 9 "java/lang/String" "value" "[B" ∈ gt := gt_t 1378 (by decide +kernel) rfl
theorem fs_J0_1053 : Cond.fieldLink RJ0 1053 "jdk/internal/util/Preconditions" "SIOOBE_FORMATTER" "Ljava/util/function/BiFunction;" ∈ gt := gt_t 324 (by decide +kernel) rfl
section STRROWS
variable {K : Kx} {Y : Yx} {nL k n : Nat} {z : Sh} {d d1 : Dt} {pc : Nat} {lv : List (Nat × Value)} {st : List Value} {cc : ByteArray} {own : String} {fr lo : Nat}
theorem WD.SB {H : Heap} {locs : List Loc} (hC : CK K Y cc nL own fr lo) (h : WD K Y z d H locs) : va_S (fun q => yB Y ≤ q) (ks K).heap H locs :=
  ⟨h.2.2.2.1, fun q h1 h2 => h.2.2.2.2.1 q h1 (fun z => h2 (hC.2.2.2.2.2.2.2.2.2.1 q z)), fun l hl => hC.2.2.2.2.2.2.2.2.2.1 _ (h.2.2.2.2.2 l hl)⟩
theorem V_sgetv {i : Nat} (hC : CK K Y cc nL RJ0 fr lo) (hi : i < 12) (hd : decode cc pc = .ok (.getfield 9, 3)) (kk : V K Y nL k n z d (pc + 3) lv (.ref (yV Y i) :: st)) : V K Y nL k n z d pc lv (.ref (yK Y i) :: st) := fun H locs ls hW hl => vk_getf hC.1 hC.2.1 (hC.2.2.2.2.2.2.2.1.1.1 i hi).2.2.1 (hW.SB hC) hC.2.2.2.1 (hC.2.2.2.2.1 _ fs_J0_9) (fun _ h => h) hd (kk H locs ls hW hl)
theorem V_sgetc {i : Nat} (hC : CK K Y cc nL RJ0 fr lo) (hi : i < 12) (hd : decode cc pc = .ok (.getfield 15, 3)) (kk : V K Y nL k n z d (pc + 3) lv (.int 0 :: st)) : V K Y nL k n z d pc lv (.ref (yK Y i) :: st) := fun H locs ls hW hl => vk_getf hC.1 hC.2.1 (hC.2.2.2.2.2.2.2.1.1.1 i hi).2.1 (hW.SB hC) hC.2.2.2.1 (hC.2.2.2.2.1 _ fs_J0_15) (fun _ h => h) hd (kk H locs ls hW hl)
theorem V_salen {i : Nat} (hC : CK K Y cc nL own fr lo) (hi : i < 12) (hd : decode cc pc = .ok (.arraylength, 1)) (kk : V K Y nL k n z d (pc + 1) lv (.int (nI (slen.getD i 0)) :: st)) : V K Y nL k n z d pc lv (.ref (yV Y i) :: st) := fun H locs ls hW hl => va_tlen hC.1 hC.2.1 (hC.2.2.2.2.2.2.2.1.1.1 i hi).2.2.2 (hW.SB hC) rfl hd (kk H locs ls hW hl)
theorem V_sbald {i : Nat} {j : Int32} (hC : CK K Y cc nL own fr lo) (hi : i < 12) (hj : inb j (slen.getD i 0) = true) (hd : decode cc pc = .ok (.baload, 1)) (kk : V K Y nL k n z d (pc + 1) lv (.int ((sbyt.getD i []).getD (ix j) 0) :: st)) : V K Y nL k n z d pc lv (.int j :: .ref (yV Y i) :: st) := fun H locs ls hW hl => va_tb hC.1 hC.2.1 (hC.2.2.2.2.2.2.2.1.1.1 i hi).2.2.2 (hW.SB hC) (inb_vp hj) rfl hd (kk H locs ls hW hl)
theorem V_gcomp (hC : CK K Y cc nL RJ0 fr lo) (hd : decode cc pc = .ok (.getstatic 38, 3)) (kk : V K Y nL k n z d (pc + 3) lv (.int 1 :: st)) : V K Y nL k n z d pc lv st := fun H locs ls hW hl => va_gets hC.1 hC.2.1 hC.2.2.2.2.2.2.2.1.2.2.1 (hW.SB hC) hC.2.2.2.1 (hC.2.2.2.2.1 _ fs_J0_38) (fun _ h => h) hd (kk H locs ls hW hl)
theorem V_gform (hC : CK K Y cc nL RJ0 fr lo) (hd : decode cc pc = .ok (.getstatic 1053, 3)) (kk : ∀ v : Value, v = .null ∨ (∃ a, v = .ref a) → V K Y nL k n z d (pc + 3) lv (v :: st)) : V K Y nL k n z d pc lv st := fun H locs ls hW hl => by
  rcases hC.2.2.2.2.2.2.2.1.2.2.2 with h | ⟨t, h⟩
  · exact va_gets hC.1 hC.2.1 h (hW.SB hC) hC.2.2.2.1 (hC.2.2.2.2.1 _ fs_J0_1053) (fun _ h => h) hd (kk .null (Or.inl rfl) H locs ls hW hl)
  · exact va_gets hC.1 hC.2.1 h (hW.SB hC) hC.2.2.2.1 (hC.2.2.2.2.1 _ fs_J0_1053) (fun _ h => h) hd (kk (.ref t) (Or.inr ⟨t, rfl⟩) H locs ls hW hl)
theorem V_invSi {y : MethodName} {cc' : ByteArray} {nl' : Nat} {ret' : Option FieldType} {na idx fr' lo' i : Nat} {As rest st0 : List Value} {r1 : Int32} (hC : CK K Y cc nL own fr lo) (hM : MM (kl K) y cc' nl' ret' fr' lo' Y z (.ref (yK Y i) :: As) d (some (.int r1)) d1) (hm : MEV RJ0 y cc' nl' ret' na) (hlk : Cond.methodLink own idx y ∈ gt) (hi : i < 12) (hst : st0 = As.reverse ++ .ref (yK Y i) :: rest) (hn : As.length = na) (hrest : (rest.map fun v => v.category).sum ≤ 8) (hroom : fr' + 1 ≤ fr ∧ 8 + (nl' + 11) + lo' ≤ lo) (hkn : k ≤ (kR K).cells ∧ n ≤ (kR K).slots) (hd : decode cc pc = .ok (.invokevirtual idx, 3))
    (kk : V K Y nL k n z d1 (pc + 3) lv (.int r1 :: rest)) : V K Y nL k n z d pc lv st0 := by
  refine V_after (r1 := some (.int r1)) (fun H locs ls hW hl => ?_) kk
  have hrv := vk_recv hC.2.2.2.2.2.2.2.1.1 hi (hW.SB hC)
  exact va_runV (Ts := gt) (nL := nL) ⟨hC.1, hC.2.1, hC.2.2.1, hC.2.2.2.1, hC.2.2.2.2.1⟩ hM ⟨ck_callB hC hm.1 hlk hroom, hC.2.2.2.2.1 _ hm.2.1, hC.2.2.2.2.1 _ hm.2.2⟩ ⟨IN.blind, hrv, fun U hU hWm => ⟨rfl, hW.IN hC hU hWm⟩⟩ rfl hn hl.1 hst (lv_room hrest) hd hkn
end STRROWS
theorem c_J0_coder {l : Launch} {Y : Yx} (hL : LAY Y) {z : Sh} {d : Dt} {i : Nat} (hi : i < 12) : MM l yJ0_coder_7d493 cJ0_coder_7d493 1 (some .byte) 0 0 Y z [.ref (yK Y i)] d (some (.int 0)) d := by
  refine MM.ofV (by decide +kernel) hL (Nat.le_of_ble_eq_true rfl) (fun K hl hC hr hQ hA => ?_)
  have hC : CK K Y cJ0_coder_7d493 1 RJ0 0 0 := hC
  show V K Y 1 0 0 z d 0 [(0, .ref (yK Y i))] []
  refine V_gcomp hC dJ0_coder_7d493_0 ?_
  refine V_if_eq (tgt := 13) hC dJ0_coder_7d493_3 (by decide) (fun c => absurd c (by decide)) (fun c => ?_)
  refine V_aload_n 0 hC dJ0_coder_7d493_6 rfl rfl ?_
  refine V_sgetc hC hi dJ0_coder_7d493_7 ?_
  refine V_goto (tgt := 14) hC dJ0_coder_7d493_10 (by decide) ?_
  exact V_zret hC hr rfl hQ hA dJ0_coder_7d493_14
theorem c_J0_isLatin1 {l : Launch} {Y : Yx} (hL : LAY Y) {z : Sh} {d : Dt} {i : Nat} (hi : i < 12) : MM l yJ0_isLatin1_aae02 cJ0_isLatin1_aae02 1 (some .boolean) 0 0 Y z [.ref (yK Y i)] d (some (.int 1)) d := by
  refine MM.ofV (by decide +kernel) hL (Nat.le_of_ble_eq_true rfl) (fun K hl hC hr hQ hA => ?_)
  have hC : CK K Y cJ0_isLatin1_aae02 1 RJ0 0 0 := hC
  show V K Y 1 0 0 z d 0 [(0, .ref (yK Y i))] []
  refine V_gcomp hC dJ0_isLatin1_aae02_0 ?_
  refine V_if_eq (tgt := 17) hC dJ0_isLatin1_aae02_3 (by decide) (fun c => absurd c (by decide)) (fun c => ?_)
  refine V_aload_n 0 hC dJ0_isLatin1_aae02_6 rfl rfl ?_
  refine V_sgetc hC hi dJ0_isLatin1_aae02_7 ?_
  refine V_if_ne (tgt := 17) hC dJ0_isLatin1_aae02_10 (by decide) (fun c => absurd rfl c) (fun c => ?_)
  refine V_iconst (v := 1) hC dJ0_isLatin1_aae02_13 rfl ?_
  refine V_goto (tgt := 18) hC dJ0_isLatin1_aae02_14 (by decide) ?_
  exact V_zret hC hr rfl hQ hA dJ0_isLatin1_aae02_18
def t_J0_length_8abf5 (L : Nat → Nat) (d : Dt) (i : Nat) : Option Int32 := some (nI (slen.getD i 0))
theorem sl_shr : ∀ i, i < 12 → nI (slen.getD i 0) >>> ((0 : Int32) &&& 31) = nI (slen.getD i 0) := by decide +kernel
theorem c_J0_length_8abf5 {l : Launch} {Y : Yx} (hL : LAY Y) {z : Sh} {d : Dt} {i : Nat} (hi : i < 12) {r : Int32} (hf : t_J0_length_8abf5 z.1 d i = some r) : MM l yJ0_length_8abf5 cJ0_length_8abf5 1 (some .int) 1 20 Y z [.ref (yK Y i)] d (some (.int r)) d := by
  obtain rfl := so_inj hf
  refine MM.ofV (by decide +kernel) hL (Nat.le_of_ble_eq_true rfl) (fun K hl hC hr hQ hA => ?_)
  have hC : CK K Y cJ0_length_8abf5 1 RJ0 1 20 := hC
  have hkn : 0 ≤ (kR K).cells ∧ 0 ≤ (kR K).slots := ⟨Nat.zero_le _, Nat.zero_le _⟩
  show V K Y 1 0 0 z d 0 [(0, .ref (yK Y i))] []
  refine V_aload_n 0 hC dJ0_length_8abf5_0 rfl rfl ?_
  refine V_sgetv hC hi dJ0_length_8abf5_1 ?_
  refine V_salen hC hi dJ0_length_8abf5_4 ?_
  refine V_aload_n 0 hC dJ0_length_8abf5_5 rfl rfl ?_
  refine V_invSi (i := i) (As := []) (rest := [.int (nI (slen.getD i 0))]) hC (c_J0_coder hL hi) me_J0_coder_7d493 lk_J0_335 hi rfl rfl (Nat.le_of_ble_eq_true rfl) ⟨by decide, by decide⟩ hkn dJ0_length_8abf5_6 ?_
  refine V_ishr hC dJ0_length_8abf5_9 ?_
  rw [sl_shr i hi]
  exact V_iret hC hr hQ hA dJ0_length_8abf5_10
theorem c_J3_checkIndex {l : Launch} {Y : Yx} (hL : LAY Y) {z : Sh} {d : Dt} {p0 p1 : Int32} {v : Value} (hv : v = .null ∨ ∃ a, v = .ref a) (h0 : ¬ p0 < 0) (h1 : p0 < p1) : MM l yJ3_checkIndex_8e157 cJ3_checkIndex_8e157 3 (some .int) 0 0 Y z [.int p0, .int p1, v] d (some (.int p0)) d := by
  have hn : (lg_sl [.int p0, .int p1, v]).length ≤ 3 := by rcases hv with rfl | ⟨a, rfl⟩ <;> exact Nat.le_of_ble_eq_true rfl
  refine MM.ofV (by decide +kernel) hL hn (fun K hl hC hr hQ hA => ?_)
  have hC : CK K Y cJ3_checkIndex_8e157 3 RJ3 0 0 := hC
  show V K Y 3 0 0 z d 0 [(0, .int p0), (1, .int p1), (2, v)] []
  refine V_iload_n 0 hC dJ3_checkIndex_8e157_0 rfl rfl ?_
  refine V_if_lt (tgt := 9) hC dJ3_checkIndex_8e157_1 (by decide) (fun c => absurd c h0) (fun c => ?_)
  refine V_iload_n 0 hC dJ3_checkIndex_8e157_4 rfl rfl ?_
  refine V_iload_n 1 hC dJ3_checkIndex_8e157_5 rfl rfl ?_
  refine V_icmp_lt (tgt := 16) hC dJ3_checkIndex_8e157_6 (by decide) (fun c => ?_) (fun c => absurd h1 c)
  refine V_iload_n 0 hC dJ3_checkIndex_8e157_16 rfl rfl ?_
  exact V_iret hC hr hQ hA dJ3_checkIndex_8e157_17
theorem c_J0_checkIndex {l : Launch} {Y : Yx} (hL : LAY Y) {z : Sh} {d : Dt} {p0 p1 : Int32} (h0 : ¬ p0 < 0) (h1 : p0 < p1) : MM l yJ0_checkIndex_df160 cJ0_checkIndex_df160 2 none 1 22 Y z [.int p0, .int p1] d none d := by
  refine MM.ofV (by decide +kernel) hL (Nat.le_of_ble_eq_true rfl) (fun K hl hC hr hQ hA => ?_)
  have hC : CK K Y cJ0_checkIndex_df160 2 RJ0 1 22 := hC
  have hkn : 0 ≤ (kR K).cells ∧ 0 ≤ (kR K).slots := ⟨Nat.zero_le _, Nat.zero_le _⟩
  show V K Y 2 0 0 z d 0 [(0, .int p0), (1, .int p1)] []
  refine V_iload_n 0 hC dJ0_checkIndex_df160_0 rfl rfl ?_
  refine V_iload_n 1 hC dJ0_checkIndex_df160_1 rfl rfl ?_
  refine V_gform hC dJ0_checkIndex_df160_2 (fun v hv => ?_)
  refine V_insi (As := [.int p0, .int p1, v]) (rest := []) hC (c_J3_checkIndex hL hv h0 h1) me_J3_checkIndex_8e157 lk_J0_1059 rfl rfl (Nat.le_of_ble_eq_true rfl) ⟨by decide, by decide⟩ hkn dJ0_checkIndex_df160_5 ?_
  refine V_pop hC dJ0_checkIndex_df160_8 rfl ?_
  exact V_vret hC hr hQ hA dJ0_checkIndex_df160_9
theorem sb_low : ∀ i, i < 12 → ∀ j, j < slen.getD i 0 → (((sbyt.getD i []).getD j 0 &&& 255).toUInt32 % 65536).toInt32 = (sbyt.getD i []).getD j 0 ∧ narrow .char (.int ((sbyt.getD i []).getD j 0)) = .int ((sbyt.getD i []).getD j 0) := by decide +kernel
theorem sl_lt : ∀ i, slen.getD i 0 < 100 := by
  intro i
  by_cases h : i < 12
  · have : ∀ i, i < 12 → slen.getD i 0 < 100 := by decide +kernel
    exact this i h
  · have : slen.getD i 0 = 0 := by
      rw [List.getD_eq_getElem?_getD, List.getElem?_eq_none (by show 12 ≤ i; omega)]
      rfl
    omega
def t_J0_charAt_5068e (L : Nat → Nat) (d : Dt) (i : Nat) (p1 : Int32) : Option Int32 := gd (inb p1 (slen.getD i 0)) (some ((sbyt.getD i []).getD (ix p1) 0))
theorem c_J1_charAt {l : Launch} {Y : Yx} (hL : LAY Y) {z : Sh} {d : Dt} {i : Nat} {p1 : Int32} (hi : i < 12) (hp : inb p1 (slen.getD i 0) = true) : MM l yJ1_charAt_3b067 cJ1_charAt_3b067 2 (some .char) 2 43 Y z [.ref (yV Y i), .int p1] d (some (.int ((sbyt.getD i []).getD (ix p1) 0))) d := by
  obtain ⟨j, hj, rfl⟩ := vp_in_of (inb_vp hp) (by have := sl_lt i; omega)
  have hlt := sl_lt i
  have e : ix (nI j) = j := nI_clamp (by omega)
  refine MM.ofV (by decide +kernel) hL (Nat.le_of_ble_eq_true rfl) (fun K hl hC hr hQ hA => ?_)
  have hC : CK K Y cJ1_charAt_3b067 2 RJ1 2 43 := hC
  have hkn : 0 ≤ (kR K).cells ∧ 0 ≤ (kR K).slots := ⟨Nat.zero_le _, Nat.zero_le _⟩
  show V K Y 2 0 0 z d 0 [(0, .ref (yV Y i)), (1, .int (nI j))] []
  refine V_iload_n 1 hC dJ1_charAt_3b067_0 rfl rfl ?_
  refine V_aload_n 0 hC dJ1_charAt_3b067_1 rfl rfl ?_
  refine V_salen hC hi dJ1_charAt_3b067_2 ?_
  refine V_insv (As := [.int (nI j), .int (nI (slen.getD i 0))]) (rest := []) hC (c_J0_checkIndex hL (nI_pos (by omega)) (nI_lt hj (by omega))) me_J0_checkIndex_df160 lk_J1_9 rfl rfl (Nat.le_of_ble_eq_true rfl) ⟨by decide, by decide⟩ hkn dJ1_charAt_3b067_3 ?_
  refine V_aload_n 0 hC dJ1_charAt_3b067_6 rfl rfl ?_
  refine V_iload_n 1 hC dJ1_charAt_3b067_7 rfl rfl ?_
  refine V_sbald hC hi hp dJ1_charAt_3b067_8 ?_
  refine V_sipush (v := 255) hC dJ1_charAt_3b067_9 rfl ?_
  refine V_iand hC dJ1_charAt_3b067_12 ?_
  refine V_i2c hC dJ1_charAt_3b067_13 ?_
  rw [e] at hQ ⊢
  have h2 := sb_low i hi j hj
  rw [h2.1]
  exact V_zret hC hr h2.2 hQ hA dJ1_charAt_3b067_14
theorem c_J0_charAt_5068e {l : Launch} {Y : Yx} (hL : LAY Y) {z : Sh} {d : Dt} {i : Nat} {p1 : Int32} (hi : i < 12) {r : Int32} (hf : t_J0_charAt_5068e z.1 d i p1 = some r) : MM l yJ0_charAt_5068e cJ0_charAt_5068e 2 (some .char) 3 64 Y z [.ref (yK Y i), .int p1] d (some (.int r)) d := by
  obtain ⟨hp, hf⟩ := gd_some hf
  obtain rfl := so_inj hf
  refine MM.ofV (by decide +kernel) hL (Nat.le_of_ble_eq_true rfl) (fun K hl hC hr hQ hA => ?_)
  have hC : CK K Y cJ0_charAt_5068e 2 RJ0 3 64 := hC
  have hkn : 0 ≤ (kR K).cells ∧ 0 ≤ (kR K).slots := ⟨Nat.zero_le _, Nat.zero_le _⟩
  show V K Y 2 0 0 z d 0 [(0, .ref (yK Y i)), (1, .int p1)] []
  refine V_aload_n 0 hC dJ0_charAt_5068e_0 rfl rfl ?_
  refine V_invSi (i := i) (As := []) (rest := []) hC (c_J0_isLatin1 hL hi) me_J0_isLatin1_aae02 lk_J0_492 hi rfl rfl (Nat.le_of_ble_eq_true rfl) ⟨by decide, by decide⟩ hkn dJ0_charAt_5068e_1 ?_
  refine V_if_eq (tgt := 16) hC dJ0_charAt_5068e_4 (by decide) (fun c => absurd c (by decide)) (fun c => ?_)
  refine V_aload_n 0 hC dJ0_charAt_5068e_7 rfl rfl ?_
  refine V_sgetv hC hi dJ0_charAt_5068e_8 ?_
  refine V_iload_n 1 hC dJ0_charAt_5068e_11 rfl rfl ?_
  refine V_insi (As := [.ref (yV Y i), .int p1]) (rest := []) hC (c_J1_charAt hL hi hp) me_J1_charAt_3b067 lk_J0_495 rfl rfl (Nat.le_of_ble_eq_true rfl) ⟨by decide, by decide⟩ hkn dJ0_charAt_5068e_12 ?_
  have hn : narrow .char (.int ((sbyt.getD i []).getD (ix p1) 0)) = .int ((sbyt.getD i []).getD (ix p1) 0) := by
    obtain ⟨j, hj, rfl⟩ := vp_in_of (inb_vp hp) (by have := sl_lt i; omega)
    have e : ix (nI j) = j := nI_clamp (by have := sl_lt i; omega)
    rw [e]
    exact (sb_low i hi j hj).2
  exact V_zret hC hr hn hQ hA dJ0_charAt_5068e_15
