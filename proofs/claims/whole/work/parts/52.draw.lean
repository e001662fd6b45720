/-! ===== fill a row; draw a number ===== -/
def fil (d : Dt) (a n : Nat) (v : Int32) : Dt := (d.1, fun b i => if b = a ∧ i < n then v else d.2 b i)
theorem fil_0 (d : Dt) (a : Nat) (v : Int32) : fil d a 0 v = d := by
  unfold fil
  have : (fun b i => if b = a ∧ i < 0 then v else d.2 b i) = d.2 := by
    funext b i
    rw [if_neg (fun q => by omega)]
  rw [this]
theorem fil_s (d : Dt) (a n : Nat) (v : Int32) : sA (fil d a n v) a n v = fil d a (n + 1) v := by
  unfold fil sA
  congr 1
  funext b i
  show (if b = a ∧ i = n then v else if b = a ∧ i < n then v else d.2 b i) = if b = a ∧ i < n + 1 then v else d.2 b i
  by_cases h : b = a ∧ i = n
  · rw [if_pos h, if_pos ⟨h.1, by omega⟩]
  · rw [if_neg h]
    by_cases h2 : b = a ∧ i < n
    · rw [if_pos h2, if_pos ⟨h2.1, by omega⟩]
    · rw [if_neg h2, if_neg (fun q => by
        by_cases e : i = n
        · exact h ⟨q.1, e⟩
        · exact h2 ⟨q.1, by omega⟩)]
theorem gA_fil (d : Dt) (a n : Nat) (v : Int32) (b i : Nat) : gA (fil d a n v) b i = if b = a ∧ i < n then v else gA d b i := rfl
theorem gF_fil (d : Dt) (a n : Nat) (v : Int32) (o j : Nat) : gF (fil d a n v) o j = gF d o j := rfl
theorem AG_fil {d : Dt} {o o' j n : Nat} {v : Int32} (hj : j < 32) (h : o ≠ o') : AG d (fil d (32 * o' + j) n v) o := ⟨fun _ => rfl, fun j' hj' i' => by rw [gA_fil, if_neg (fun q => by omega)]⟩
theorem fill_eq {L : Nat → Nat} {d : Dt} {a : Nat} (v : Int32) (hL : L a < 1000000) : t_J7_fill_53178 L d a v = some (fil d a (L a) v) := by
  unfold t_J7_fill_53178
  rw [bd_q]
  have main : ∀ (n i F : Nat), i + n = L a → n < F → lp (fun k x => t_J7_fill_53178_5 L a v (fun x2 x3 d => k (x2, x3, d)) x.1 x.2.1 x.2.2) F (nI i, nI (L a), fil d a i v) = some (fil d a (L a) v) := by
    intro n
    induction n with
    | zero =>
      intro i F hi hF
      obtain ⟨F, rfl⟩ : ∃ G, F = G + 1 := ⟨F - 1, by omega⟩
      show t_J7_fill_53178_5 L a v (fun x2 x3 d => lp _ F (x2, x3, d)) (nI i) (nI (L a)) (fil d a i v) = _
      rw [t_J7_fill_53178_5, if_pos (nI_le (by omega) (by omega)), show i = L a by omega]
    | succ n ih =>
      intro i F hi hF
      obtain ⟨F, rfl⟩ : ∃ G, F = G + 1 := ⟨F - 1, by omega⟩
      show t_J7_fill_53178_5 L a v (fun x2 x3 d => lp _ F (x2, x3, d)) (nI i) (nI (L a)) (fil d a i v) = _
      rw [t_J7_fill_53178_5, if_neg (nI_ge (by omega) (by omega)), gdi (by omega) (by omega), bd_q, ix_nI (by omega), fil_s, nI_1]
      exact ih _ _ (by omega) (by omega)
  have r := main (L a) 0 FU (by omega) (by unfold FU; omega)
  rw [fil_0] at r
  exact r
/-- the next seed -/
def nxt (j : Nat) : Nat := (j * 1103515245 + 12345) % 2147483648
theorem nxt_lt (j : Nat) : nxt j < 2147483648 := Nat.mod_lt _ (by decide)
theorem lN_and (a : Nat) (h : a < 2 ^ 63) : lN a &&& 2147483647 = lN (a % 2147483648) := by
  apply Int64.toBitVec_inj.mp
  show BitVec.ofNat 64 a &&& BitVec.ofNat 64 2147483647 = BitVec.ofNat 64 (a % 2147483648)
  apply BitVec.eq_of_toNat_eq
  rw [BitVec.toNat_and, BitVec.toNat_ofNat, BitVec.toNat_ofNat, BitVec.toNat_ofNat, Nat.mod_eq_of_lt (show a < 2 ^ 64 by omega), Nat.mod_eq_of_lt (show 2147483647 < 2 ^ 64 by decide), Nat.mod_eq_of_lt (show a % 2147483648 < 2 ^ 64 by omega)]
  exact Nat.and_two_pow_sub_one_eq_mod a 31
theorem seed_c {j : Nat} (hj : j < 2 ^ 31) : ((((nI j).toInt64 * 1103515245) + 12345) &&& 2147483647 : Int64).toInt32 = nI (nxt j) := by
  rw [nI_l hj, show (1103515245 : Int64) = lN 1103515245 from rfl, show (12345 : Int64) = lN 12345 from rfl, lN_mul, lN_add, lN_and _ (by omega), lN_i]
  rfl
theorem seed_m {j : Nat} (hj : j < 2 ^ 31) : ((((nI j).toInt64 * 1103515245) + 12345) - (((nI j).toInt64 * 1103515245) + 12345) / 2147483648 * 2147483648 : Int64).toInt32 = nI (nxt j) := by
  rw [nI_l hj, show (1103515245 : Int64) = lN 1103515245 from rfl, show (12345 : Int64) = lN 12345 from rfl, show (2147483648 : Int64) = lN 2147483648 from rfl, lN_mul, lN_add, pk_lRem (by omega) (by decide) (by decide), lN_i]
  rfl
/-- a number drawn below m -/
def drw (j m : Nat) : Nat := nxt j / 65536 % m
theorem drw_e {j m : Nat} (hm : 0 < m) (hm2 : m < 2 ^ 31) : (nI (nxt j) / 65536) - (nI (nxt j) / 65536) / nI m * nI m = nI (drw j m) := by
  have := nxt_lt j
  have hle : nxt j / 65536 / m * m ≤ nxt j / 65536 := Nat.div_mul_le_self _ _
  rw [show (65536 : Int32) = nI 65536 from rfl, pk_div (by omega) (by decide) (by decide), pk_div (by omega) hm hm2, nI_mulN, nI_subN hle]
  unfold drw
  congr 1
  have := Nat.div_add_mod (nxt j / 65536) m
  rw [Nat.mul_comm] at this
  omega
theorem draw_c {L : Nat → Nat} {d : Dt} {o j m : Nat} (hs : gF d o 2 = nI j) (hj : j < 2 ^ 31) (hm : 0 < m) (hm2 : m < 2 ^ 31) : t_X2_draw L d o (nI m) = some (nI (drw j m), sF d o 2 (nI (nxt j))) := by
  unfold t_X2_draw
  rw [bd_q, hs, seed_c hj, if_neg (nI_nle hm hm2), gd_h (by rw [decide_eq_false (nI_ne0 hm hm2)]; rfl), gF_sF1, drw_e hm hm2]
theorem draw_m {dm : Dt} {j m : Nat} (hs : wOf dm 2 = nI j) (hj : j < 2 ^ 31) (hm : 0 < m) (hm2 : m < 2 ^ 31) : t_X6_draw LM dm (nI m) = some (nI (drw j m), sA dm 0 2 (nI (nxt j))) := by
  unfold t_X6_draw
  rw [LM0, gd_h (show inb 2 4128 = true by decide), gd_h (show inb 2 4128 = true by decide), bd_q, show gA dm (32 * 0 + 0) (ix 2) = wOf dm 2 from rfl, hs, seed_m hj, gd_h (show inb 2 4128 = true by decide), gd_h (by rw [decide_eq_false (nI_ne0 hm hm2)]; rfl)]
  have e : gA (sA dm (32 * 0 + 0) (ix 2) (nI (nxt j))) (32 * 0 + 0) (ix 2) = nI (nxt j) := by rw [gA_sAi, if_pos ⟨rfl, rfl⟩]
  rw [e, drw_e hm hm2]
  rfl
