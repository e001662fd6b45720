/-! ===== the law: two worlds and the script ===== -/
def WW (K : Kx) (Y M : Yx) (z : Sh) (d : Dt) (zm : Sh) (dm : Dt) (H : Heap) (locs : List Loc) : Prop := WD K Y z d H locs ∧ WD K M zm dm H locs ∧ ∀ q ∈ adr Y z, q ∉ adr M zm
def VW (K : Kx) (Y M : Yx) (k n : Nat) (z : Sh) (d : Dt) (zm : Sh) (dm : Dt) (pc : Nat) (lv : List (Nat × Value)) (st : List Value) : Prop :=
  ∀ (H : Heap) (locs : List Loc) (ls : Array Slot), WW K Y M z d zm dm H locs → lv_has ls 4 lv → W (kp K) (kl K) (ke K) (kR K) (ks K) (km K) (ka K) (kb K) (kme K) (kc K) H locs k n (kQ K) (F0 (km K) pc ls st)
/-- what is fixed in the law's walk: both contexts, the script of SL ints xs at the cell b -/
def CW (K : Kx) (Y M : Yx) (b SL : Nat) (xs : Nat → Int32) : Prop := CK K Y cL_law 4 RL 13 478 ∧ CK K M cL_law 4 RL 13 478 ∧ va_X b SL xs (ks K) (ks K).heap ∧ b < (ks K).heap.size ∧ kA K = (fun q => (ks K).heap.size ≤ q) ∧ (kR K).cells = 600000 ∧ (kR K).slots = 7302250 ∧ SL ≤ 2560
section ROWSW
variable {K : Kx} {Y M : Yx} {k n b SL : Nat} {xs : Nat → Int32} {z zm : Sh} {d d1 dm dm1 : Dt} {pc : Nat} {lv : List (Nat × Value)} {st : List Value}
theorem VW_aload_n {a : Fin 4} {i x : Nat} (j : Nat) (hC : CW K Y M b SL xs) (hd : decode cL_law pc = .ok (.aload_n a, 1)) (hi : (a : Nat) = i) (hj : lv[j]? = some (i, .ref x)) (kk : VW K Y M k n z d zm dm (pc + 1) lv (.ref x :: st)) : VW K Y M k n z d zm dm pc lv st := fun H locs ls hW hl => lv_aload_n hC.1.1 hC.1.2.1 hd hi (lv_at hl j hj) (kk H locs ls hW hl)
theorem VW_iload_n {a : Fin 4} {i : Nat} {x : Int32} (j : Nat) (hC : CW K Y M b SL xs) (hd : decode cL_law pc = .ok (.iload_n a, 1)) (hi : (a : Nat) = i) (hj : lv[j]? = some (i, .int x)) (kk : VW K Y M k n z d zm dm (pc + 1) lv (.int x :: st)) : VW K Y M k n z d zm dm pc lv st := fun H locs ls hW hl => lv_iload_n hC.1.1 hC.1.2.1 hd hi (lv_at hl j hj) (kk H locs ls hW hl)
theorem VW_iconst {a : Int} {v : Int32} (hC : CW K Y M b SL xs) (hd : decode cL_law pc = .ok (.iconst a, 1)) (hv : Int32.ofInt a = v) (kk : VW K Y M k n z d zm dm (pc + 1) lv (.int v :: st)) : VW K Y M k n z d zm dm pc lv st := fun H locs ls hW hl => lv_iconst hC.1.1 hC.1.2.1 hd hv (kk H locs ls hW hl)
theorem VW_bipush {a : Int} {v : Int32} (hC : CW K Y M b SL xs) (hd : decode cL_law pc = .ok (.bipush a, 2)) (hv : (Int8.ofInt a).toInt32 = v) (kk : VW K Y M k n z d zm dm (pc + 2) lv (.int v :: st)) : VW K Y M k n z d zm dm pc lv st := fun H locs ls hW hl => lv_bipush hC.1.1 hC.1.2.1 hd hv (kk H locs ls hW hl)
theorem VW_ldc2 {idx : Nat} {v : Int64} (hC : CW K Y M b SL xs) (hw : Cond.constantLong RL idx v ∈ gt) (hd : decode cL_law pc = .ok (.ldc2_w idx, 3)) (kk : VW K Y M k n z d zm dm (pc + 3) lv (.long v :: st)) : VW K Y M k n z d zm dm pc lv st := fun H locs ls hW hl => lv_ldc2 hC.1.1 hC.1.2.1 hC.1.2.2.2.1 (hC.1.2.2.2.2.1 _ hw) hd (kk H locs ls hW hl)
theorem VW_iadd {x y : Int32} (hC : CW K Y M b SL xs) (hd : decode cL_law pc = .ok (.iadd, 1)) (kk : VW K Y M k n z d zm dm (pc + 1) lv (.int (x + y) :: st)) : VW K Y M k n z d zm dm pc lv (.int y :: .int x :: st) := fun H locs ls hW hl => lv_iadd hC.1.1 hC.1.2.1 hd (kk H locs ls hW hl)
theorem VW_isub {x y : Int32} (hC : CW K Y M b SL xs) (hd : decode cL_law pc = .ok (.isub, 1)) (kk : VW K Y M k n z d zm dm (pc + 1) lv (.int (x - y) :: st)) : VW K Y M k n z d zm dm pc lv (.int y :: .int x :: st) := fun H locs ls hW hl => lv_isub hC.1.1 hC.1.2.1 hd (kk H locs ls hW hl)
theorem VW_iand {x y : Int32} (hC : CW K Y M b SL xs) (hd : decode cL_law pc = .ok (.iand, 1)) (kk : VW K Y M k n z d zm dm (pc + 1) lv (.int (x &&& y) :: st)) : VW K Y M k n z d zm dm pc lv (.int y :: .int x :: st) := fun H locs ls hW hl => lv_iand hC.1.1 hC.1.2.1 hd (kk H locs ls hW hl)
theorem VW_i2l {x : Int32} (hC : CW K Y M b SL xs) (hd : decode cL_law pc = .ok (.i2l, 1)) (kk : VW K Y M k n z d zm dm (pc + 1) lv (.long x.toInt64 :: st)) : VW K Y M k n z d zm dm pc lv (.int x :: st) := fun H locs ls hW hl => lv_i2l hC.1.1 hC.1.2.1 hd rfl (kk H locs ls hW hl)
theorem VW_lshl {x : Int64} {y : Int32} (hC : CW K Y M b SL xs) (hd : decode cL_law pc = .ok (.lshl, 1)) (kk : VW K Y M k n z d zm dm (pc + 1) lv (.long (x <<< (y.toInt64 &&& 63)) :: st)) : VW K Y M k n z d zm dm pc lv (.int y :: .long x :: st) := fun H locs ls hW hl => lv_lshl hC.1.1 hC.1.2.1 hd rfl (kk H locs ls hW hl)
theorem VW_land {x y : Int64} (hC : CW K Y M b SL xs) (hd : decode cL_law pc = .ok (.land, 1)) (kk : VW K Y M k n z d zm dm (pc + 1) lv (.long (x &&& y) :: st)) : VW K Y M k n z d zm dm pc lv (.long y :: .long x :: st) := fun H locs ls hW hl => lv_land hC.1.1 hC.1.2.1 hd (kk H locs ls hW hl)
theorem VW_lor {x y : Int64} (hC : CW K Y M b SL xs) (hd : decode cL_law pc = .ok (.lor, 1)) (kk : VW K Y M k n z d zm dm (pc + 1) lv (.long (x ||| y) :: st)) : VW K Y M k n z d zm dm pc lv (.long y :: .long x :: st) := fun H locs ls hW hl => lv_lor hC.1.1 hC.1.2.1 hd (kk H locs ls hW hl)
theorem VW_goto {off : Int} {tgt : Nat} (hC : CW K Y M b SL xs) (hd : decode cL_law pc = .ok (.goto off, 3)) (ht : (pc : Int) + off = (tgt : Int)) (kk : VW K Y M k n z d zm dm tgt lv st) : VW K Y M k n z d zm dm pc lv st := fun H locs ls hW hl => lv_goto hC.1.1 hC.1.2.1 hd ht (kk H locs ls hW hl)
theorem VW_icmp_gt {x y : Int32} {off : Int} {tgt : Nat} (hC : CW K Y M b SL xs) (hd : decode cL_law pc = .ok (.if_icmp .gt off, 3)) (ht : (pc : Int) + off = (tgt : Int)) (kt : y < x → VW K Y M k n z d zm dm tgt lv st) (kf : ¬ y < x → VW K Y M k n z d zm dm (pc + 3) lv st) : VW K Y M k n z d zm dm pc lv (.int y :: .int x :: st) := fun H locs ls hW hl => lv_icmp_gt hC.1.1 hC.1.2.1 hd ht (fun h => kt h H locs ls hW hl) (fun h => kf h H locs ls hW hl)
theorem VW_icmp_eq {x y : Int32} {off : Int} {tgt : Nat} (hC : CW K Y M b SL xs) (hd : decode cL_law pc = .ok (.if_icmp .eq off, 3)) (ht : (pc : Int) + off = (tgt : Int)) (h : x = y) (kt : VW K Y M k n z d zm dm tgt lv st) : VW K Y M k n z d zm dm pc lv (.int y :: .int x :: st) := fun H locs ls hW hl => lv_icmp_eq hC.1.1 hC.1.2.1 hd ht (fun _ => kt H locs ls hW hl) (fun hh => absurd h hh)
theorem VW_iinc {i : Nat} {a : Int} {x v : Int32} {lv' : List (Nat × Value)} (j : Nat) (hC : CW K Y M b SL xs) (hd : decode cL_law pc = .ok (.iinc i a, 3)) (hj : lv[j]? = some (i, .int x)) (hv : x + Int32.ofInt a = v) (hn : i < 4) (hl : (i, Value.int v) :: lv.filter (fun q => !(q.1 == i) && !(q.1 + 1 == i && q.2.category == 2)) = lv') (kk : VW K Y M k n z d zm dm (pc + 3) lv' st) : VW K Y M k n z d zm dm pc lv st := fun H locs ls hW h => lv_iinc hC.1.1 hC.1.2.1 hd h hj hv hn hl (fun ls' h' => kk H locs ls' hW h')
theorem VW_sub {lv' : List (Nat × Value)} (ks : List Nat) (h : lv_pick lv ks = lv') (kk : VW K Y M k n z d zm dm pc lv' st) : VW K Y M k n z d zm dm pc lv st := fun H locs ls hW hl => kk H locs ls hW (lv_sub hl ks h)
theorem WW.S {H : Heap} {locs : List Loc} (h : WW K Y M z d zm dm H locs) : va_S (kA K) (ks K).heap H locs := h.1.2.2.2
theorem VW_sld {i : Int32} (hC : CW K Y M b SL xs) (hi : inb i SL = true) (hd : decode cL_law pc = .ok (.iaload, 1)) (kk : VW K Y M k n z d zm dm (pc + 1) lv (.int (xs (ix i)) :: st)) : VW K Y M k n z d zm dm pc lv (.int i :: .ref b :: st) := fun H locs ls hW hl => va_sld hC.1.1 hC.1.2.1 hC.2.2.1 hC.2.2.2.1 (by rw [hC.2.2.2.2.1]; exact Nat.not_le.mpr hC.2.2.2.1) hW.S (inb_vp hi) hd (kk H locs ls hW hl)
theorem VW_slen (hC : CW K Y M b SL xs) (hd : decode cL_law pc = .ok (.arraylength, 1)) (kk : VW K Y M k n z d zm dm (pc + 1) lv (.int (nI SL) :: st)) : VW K Y M k n z d zm dm pc lv (.ref b :: st) := fun H locs ls hW hl => va_slen hC.1.1 hC.1.2.1 hC.2.2.1 hC.2.2.2.1 (by rw [hC.2.2.2.2.1]; exact Nat.not_le.mpr hC.2.2.2.1) hW.S hd (kk H locs ls hW hl)
theorem VW_tsw {x : Int32} {dflt l h : Int} {offs : Array Int} {len : Nat} {off : Int} {tgt : Nat} (hC : CW K Y M b SL xs) (hd : decode cL_law pc = .ok (.tableswitch dflt l h offs, len)) (j : Int32) (hx : x = j) (h1 : ¬ j.toInt < l) (h2 : ¬ h < j.toInt) (ho : offs[(j.toInt - l).toNat]? = some off) (ht : (pc : Int) + off = (tgt : Int)) (kk : VW K Y M k n z d zm dm tgt lv st) : VW K Y M k n z d zm dm pc lv (.int x :: st) := fun H locs ls hW hl => by
  subst hx
  exact lv_tableIn hC.1.1 hC.1.2.1 hd h1 h2 ho ht (kk H locs ls hW hl)
/-- a world that a call leaves alone -/
theorem WD.other {K : Kx} {M : Yx} {zm : Sh} {dm : Dt} {H H1 : Heap} {locs locs1 : List Loc} (h : WD K M zm dm H locs) (hS : va_S (kA K) (ks K).heap H1 locs1) (hk : ∀ q ∈ adr M zm, H1[q]? = H[q]?) : WD K M zm dm H1 locs1 :=
  ⟨h.1, h.2.1, h.2.2.1.kept (fun i x hx => hk x.1 (by rw [← wl_adr M zm dm]; exact List.mem_map.mpr ⟨x, List.mem_of_getElem? hx, rfl⟩)), hS⟩
theorem VW_x {y : MethodName} {cc' : ByteArray} {nl' : Nat} {ret' : Option FieldType} {na idx fr' lo' o ci : Nat} {C : String} {T : u_T} {N : Nat} {As rest st0 : List Value} {r1 : Int32} (hC : CW K Y M b SL xs) (hM : MM (kl K) y cc' nl' ret' fr' lo' Y z (.ref (yo Y o) :: As) d (some (.int r1)) d1) (hm : MEV C y cc' nl' ret' na) (hlk : Cond.methodLink RL idx y ∈ gt) (ho : (0, o, ci) ∈ yI Y) (hci : vwCl[ci]? = some (C, T, N)) (hst : st0 = As.reverse ++ .ref (yo Y o) :: rest) (hn : As.length = na) (hrest : (rest.map fun v => v.category).sum ≤ 8) (hroom : fr' + 1 ≤ 13 ∧ 8 + (nl' + 11) + lo' ≤ 478) (hkn : k ≤ 600000 ∧ n ≤ 7302250) (hd : decode cL_law pc = .ok (.invokevirtual idx, 3)) (kk : VW K Y M k n z d1 zm dm (pc + 3) lv (.int r1 :: rest)) : VW K Y M k n z d zm dm pc lv st0 := by
  intro H locs ls hW hl T0 hT X
  obtain ⟨hWx, hWm, hdis⟩ := hW
  obtain ⟨p, hp, he⟩ := wl_get z d ho
  have hrv := va_recv hC.1.2.2.2.2.2.1 hWx.2.2.1 hci he
  have hr := va_runV (p := kp K) (l := kl K) (e := ke K) (R := kR K) (below := kb K) (meth := kme K) (locs := locs) (cells := k) (slots := n) (H := H) (Ts := gt) (nL := 4) (g := F0 (km K) pc ls st0) (rest := rest) (As := As) ⟨hC.1.1, hC.1.2.1, hC.1.2.2.1, hC.1.2.2.2.1, hC.1.2.2.2.2.1⟩ hM ⟨ck_callB hC.1 hm.1 hlk hroom, hC.1.2.2.2.2.1 _ hm.2.1, hC.1.2.2.2.2.1 _ hm.2.2⟩ ⟨IN.blind, hrv, fun U hU hWm => ⟨rfl, hWx.IN hC.1 hU hWm⟩⟩ rfl hn hl.1 hst (lv_room hrest) hd ⟨by rw [hC.2.2.2.2.2.1]; exact hkn.1, by rw [hC.2.2.2.2.2.2.1]; exact hkn.2⟩
  obtain ⟨v, st₀, t, T', Lc, h0, X', hLc, e1, e2, ⟨hv, hP1, hz, hk⟩, stp⟩ := hr T0 hT X
  cases hv
  rw [h0] at hz hk
  have hS := hWx.2.2.2
  have hS1 : va_S (kA K) (ks K).heap T'.heap (locs ++ Lc) := ⟨Nat.le_trans hS.1 (by rw [e1]; exact hz), fun q h1 h2 => by rw [e1, hk q (Nat.lt_of_lt_of_le h1 hS.1) (fun z => h2 (hWx.2.1 q z))]; exact hS.2.1 q h1 h2, fun q hq => by
      rcases List.mem_append.mp hq with h | h
      · exact hS.2.2 q h
      · exact hWx.2.1 _ (hLc q h)⟩
  have hlt := adr_lt hWm.2.2.1
  obtain ⟨t2, a1, b1⟩ := kk T'.heap (locs ++ Lc) ls ⟨⟨hWx.1, hWx.2.1, by rw [e1]; exact hP1, hS1⟩, hWm.other hS1 (fun q hq => by rw [e1]; exact hk q (hlt q hq) (fun hh => hdis q hh hq)), hdis⟩ hl T' rfl X'
  exact ⟨t2, stp t2 a1, b1⟩
theorem VW_m {y : MethodName} {cc' : ByteArray} {nl' : Nat} {ret' : Option FieldType} {na idx fr' lo' o ci : Nat} {C : String} {T : u_T} {N : Nat} {As rest st0 : List Value} {r1 : Int32} (hC : CW K Y M b SL xs) (hM : MM (kl K) y cc' nl' ret' fr' lo' M zm (.ref (yo M o) :: As) dm (some (.int r1)) dm1) (hm : MEV C y cc' nl' ret' na) (hlk : Cond.methodLink RL idx y ∈ gt) (ho : (0, o, ci) ∈ yI M) (hci : vwCl[ci]? = some (C, T, N)) (hst : st0 = As.reverse ++ .ref (yo M o) :: rest) (hn : As.length = na) (hrest : (rest.map fun v => v.category).sum ≤ 8) (hroom : fr' + 1 ≤ 13 ∧ 8 + (nl' + 11) + lo' ≤ 478) (hkn : k ≤ 600000 ∧ n ≤ 7302250) (hd : decode cL_law pc = .ok (.invokevirtual idx, 3)) (kk : VW K Y M k n z d zm dm1 (pc + 3) lv (.int r1 :: rest)) : VW K Y M k n z d zm dm pc lv st0 := by
  intro H locs ls hW hl T0 hT X
  obtain ⟨hWx, hWm, hdis⟩ := hW
  obtain ⟨p, hp, he⟩ := wl_get zm dm ho
  have hrv := va_recv hC.2.1.2.2.2.2.2.1 hWm.2.2.1 hci he
  have hr := va_runV (p := kp K) (l := kl K) (e := ke K) (R := kR K) (below := kb K) (meth := kme K) (locs := locs) (cells := k) (slots := n) (H := H) (Ts := gt) (nL := 4) (g := F0 (km K) pc ls st0) (rest := rest) (As := As) ⟨hC.1.1, hC.1.2.1, hC.1.2.2.1, hC.1.2.2.2.1, hC.1.2.2.2.2.1⟩ hM ⟨ck_callB hC.2.1 hm.1 hlk hroom, hC.1.2.2.2.2.1 _ hm.2.1, hC.1.2.2.2.2.1 _ hm.2.2⟩ ⟨IN.blind, hrv, fun U hU hWr => ⟨rfl, hWm.IN hC.2.1 hU hWr⟩⟩ rfl hn hl.1 hst (lv_room hrest) hd ⟨by rw [hC.2.2.2.2.2.1]; exact hkn.1, by rw [hC.2.2.2.2.2.2.1]; exact hkn.2⟩
  obtain ⟨v, st₀, t, T', Lc, h0, X', hLc, e1, e2, ⟨hv, hP1, hz, hk⟩, stp⟩ := hr T0 hT X
  cases hv
  rw [h0] at hz hk
  have hS := hWm.2.2.2
  have hS1 : va_S (kA K) (ks K).heap T'.heap (locs ++ Lc) := ⟨Nat.le_trans hS.1 (by rw [e1]; exact hz), fun q h1 h2 => by rw [e1, hk q (Nat.lt_of_lt_of_le h1 hS.1) (fun z => h2 (hWm.2.1 q z))]; exact hS.2.1 q h1 h2, fun q hq => by
      rcases List.mem_append.mp hq with h | h
      · exact hS.2.2 q h
      · exact hWm.2.1 _ (hLc q h)⟩
  have hlt := adr_lt hWx.2.2.1
  obtain ⟨t2, a1, b1⟩ := kk T'.heap (locs ++ Lc) ls ⟨hWx.other hS1 (fun q hq => by rw [e1]; exact hk q (hlt q hq) (fun hh => hdis q hq hh)), ⟨hWm.1, hWm.2.1, by rw [e1]; exact hP1, hS1⟩, hdis⟩ hl T' rfl X'
  exact ⟨t2, stp t2 a1, b1⟩
theorem VW_xA {y : MethodName} {cc' : ByteArray} {nl' : Nat} {ret' : Option FieldType} {na idx fr' lo' o ci : Nat} {C : String} {T : u_T} {N : Nat} {As rest st0 : List Value} {r1 : Int32} {L ad L1 : Nat → Nat} {k1 n1 : Nat} (hC : CW K Y M b SL xs) (hM : MA (kl K) y cc' nl' ret' fr' lo' Y L (.ref (yo Y o) :: As) d (some (.int r1)) L1 d1 k1 n1) (hm : MEV C y cc' nl' ret' na) (hlk : Cond.methodLink RL idx y ∈ gt) (ho : (0, o, ci) ∈ yI Y) (hci : vwCl[ci]? = some (C, T, N)) (hst : st0 = As.reverse ++ .ref (yo Y o) :: rest) (hn : As.length = na) (hrest : (rest.map fun v => v.category).sum ≤ 8) (hroom : fr' + 1 ≤ 13 ∧ 8 + (nl' + 11) + lo' ≤ 478) (hkn : k + k1 ≤ 600000 ∧ n + n1 ≤ 7302250) (hd : decode cL_law pc = .ok (.invokevirtual idx, 3)) (kk : ∀ ad1, VW K Y M (k + k1) (n + n1) (L1, ad1) d1 zm dm (pc + 3) lv (.int r1 :: rest)) : VW K Y M k n (L, ad) d zm dm pc lv st0 := by
  intro H locs ls hW hl T0 hT X
  obtain ⟨hWx, hWm, hdis⟩ := hW
  obtain ⟨p, hp, he⟩ := wl_get (L, ad) d ho
  have hrv := va_recv hC.1.2.2.2.2.2.1 hWx.2.2.1 hci he
  have hr := va_runV (p := kp K) (l := kl K) (e := ke K) (R := kR K) (below := kb K) (meth := kme K) (locs := locs) (cells := k) (slots := n) (H := H) (Ts := gt) (nL := 4) (g := F0 (km K) pc ls st0) (rest := rest) (As := As) ⟨hC.1.1, hC.1.2.1, hC.1.2.2.1, hC.1.2.2.2.1, hC.1.2.2.2.2.1⟩ (hM ad H.size) ⟨ck_callB hC.1 hm.1 hlk hroom, hC.1.2.2.2.2.1 _ hm.2.1, hC.1.2.2.2.2.1 _ hm.2.2⟩ ⟨INs.blind, hrv, fun U hU hWr => ⟨rfl, hWx.IN hC.1 hU hWr, by rw [hU]⟩⟩ rfl hn hl.1 hst (lv_room hrest) hd ⟨by rw [hC.2.2.2.2.2.1]; exact hkn.1, by rw [hC.2.2.2.2.2.2.1]; exact hkn.2⟩
  obtain ⟨v, st₀, t, T', Lc, h0, X', hLc, e1, e2, ⟨hv, ⟨ad1, hP1, hN1, hs1⟩, hz, hk⟩, stp⟩ := hr T0 hT X
  cases hv
  rw [h0] at hz hk
  have hS := hWx.2.2.2
  have hin : ∀ q, aQ Y (L, ad) H.size q → kA K q := fun q hq => hq.elim (hWx.2.1 q) (fun h => by rw [hC.2.2.2.2.1]; exact Nat.le_trans hS.1 h)
  have hS1 : va_S (kA K) (ks K).heap T'.heap (locs ++ Lc) := ⟨Nat.le_trans hS.1 (by rw [e1]; exact hz), fun q h1 h2 => by rw [e1, hk q (Nat.lt_of_lt_of_le h1 hS.1) (fun z => h2 (hin q z))]; exact hS.2.1 q h1 h2, fun q hq => by
      rcases List.mem_append.mp hq with h | h
      · exact hS.2.2 q h
      · exact hin _ (hLc q h)⟩
  have hlt := adr_lt hWm.2.2.1
  have hdm : ∀ q ∈ adr M zm, ¬ aQ Y (L, ad) H.size q := fun q hq hh => hh.elim (fun h => hdis q h hq) (fun h => by have := hlt q hq; omega)
  obtain ⟨t2, a1, b1⟩ := kk ad1 T'.heap (locs ++ Lc) ls ⟨⟨hN1, fun q hq => hin q (hs1 q hq), by rw [e1]; exact hP1, hS1⟩, hWm.other hS1 (fun q hq => by rw [e1]; exact hk q (hlt q hq) (hdm q hq)), fun q hq hm => hdm q hm (hs1 q hq)⟩ hl T' rfl X'
  exact ⟨t2, stp t2 a1, b1⟩
end ROWSW
/-- the numbers of the switch -/
theorem and31 (x : Int32) : ∃ j : Nat, j < 32 ∧ x &&& 31 = nI j := pk_andE x 5 (by decide)
