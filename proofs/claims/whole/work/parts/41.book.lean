/-! ===== a valid book w, and the class's Book b against it ===== -/
theorem nI_mulN (a b : Nat) : nI a * nI b = nI (a * b) := (Int32.ofNat_mul a b).symm
theorem nb_ix {x : Int32} {n : Nat} (h : NB x n) (hn : n ≤ 2 ^ 31) : x = nI (ix x) ∧ ix x < n := by
  obtain ⟨i, hi, rfl⟩ := h
  rw [ix_nI (by omega)]; exact ⟨rfl, hi⟩
theorem nb_of {x : Int32} {n i : Nat} (h : x = nI i) (hi : i < n) : NB x n := ⟨i, hi, h⟩
theorem nb_mono {x : Int32} {n m : Nat} (h : NB x n) (hm : n ≤ m) : NB x m := by
  obtain ⟨i, hi, e⟩ := h
  exact ⟨i, by omega, e⟩
def bP (w : Nat → Int32) : Nat := ix (w 0)
def bH (w : Nat → Int32) : Nat := ix (w 1)
def bE (w : Nat → Int32) (p : Nat) : Nat := ix (w (8 + p))
def bN (w : Nat → Int32) (p : Nat) : Nat := ix (w (32 + p))
def bC (w : Nat → Int32) (p : Nat) : Nat := ix (w (56 + p))
/-- kind and size of effect k of part p, goal of choice c of part p -/
def bK (w : Nat → Int32) (p k : Nat) : Nat := ix (w (176 + (4 * p + k)))
def bS (w : Nat → Int32) (p k : Nat) : Nat := ix (w (272 + (4 * p + k)))
def bT (w : Nat → Int32) (p c : Nat) : Nat := ix (w (368 + (6 * p + c)))
/-- a thing, or none -/
def VT (x : Int32) : Prop := x = -1 ∨ NB x 8
def VE (w : Nat → Int32) (p k : Nat) : Prop := NB (w (176 + (4 * p + k))) 4 ∧ NB (w (272 + (4 * p + k))) 10 ∧ (bK w p k < 2 → NB (w (272 + (4 * p + k))) 8)
def VC (w : Nat → Int32) (p c : Nat) : Prop := NB (w (368 + (6 * p + c))) (bP w) ∧ VT (w (512 + (6 * p + c))) ∧ VT (w (656 + (6 * p + c)))
def VP (w : Nat → Int32) (p : Nat) : Prop := NB (w (8 + p)) 4 ∧ NB (w (32 + p)) 5 ∧ NB (w (56 + p)) 7 ∧ (bE w p ≠ 0 → bC w p = 0) ∧ (bE w p = 3 → NB (w (80 + p)) 7 ∧ 2 ≤ ix (w (80 + p)) ∧ NB (w (104 + p)) (bP w) ∧ NB (w (128 + p)) (bP w)) ∧ (∀ k, k < bN w p → VE w p k) ∧ (∀ c, c < bC w p → VC w p c)
def VB (w : Nat → Int32) : Prop := NB (w 0) 25 ∧ NB (w 1) 10 ∧ 1 ≤ bH w ∧ ∀ p, p < bP w → VP w p
def LB (L : Nat → Nat) (b : Nat) : Prop := L (32 * b + 2) = 24 ∧ L (32 * b + 3) = 24 ∧ L (32 * b + 4) = 24 ∧ L (32 * b + 5) = 24 ∧ L (32 * b + 6) = 24 ∧ L (32 * b + 7) = 96 ∧ L (32 * b + 8) = 96 ∧ L (32 * b + 9) = 24 ∧ L (32 * b + 10) = 144 ∧ L (32 * b + 11) = 144 ∧ L (32 * b + 12) = 144
def BKp (d : Dt) (b : Nat) (w : Nat → Int32) (p : Nat) : Prop := gA d (32 * b + 2) p = w (8 + p) ∧ gA d (32 * b + 6) p = w (32 + p) ∧ gA d (32 * b + 9) p = w (56 + p) ∧ (bE w p = 3 → gA d (32 * b + 3) p = w (80 + p) ∧ gA d (32 * b + 4) p = w (104 + p) ∧ gA d (32 * b + 5) p = w (128 + p)) ∧ (∀ k, k < bN w p → gA d (32 * b + 7) (4 * p + k) = w (176 + (4 * p + k)) ∧ gA d (32 * b + 8) (4 * p + k) = w (272 + (4 * p + k))) ∧ (∀ c, c < bC w p → gA d (32 * b + 10) (6 * p + c) = w (368 + (6 * p + c)) ∧ gA d (32 * b + 11) (6 * p + c) = w (512 + (6 * p + c)) ∧ gA d (32 * b + 12) (6 * p + c) = w (656 + (6 * p + c)))
def BK (d : Dt) (b : Nat) (w : Nat → Int32) : Prop := gF d b 0 = w 0 ∧ gF d b 1 = w 1 ∧ ∀ p, p < bP w → BKp d b w p
theorem VB.P {w : Nat → Int32} (h : VB w) : w 0 = nI (bP w) ∧ bP w ≤ 24 := by
  have := nb_ix h.1 (by decide)
  exact ⟨this.1, by have := this.2; unfold bP; omega⟩
theorem VB.H {w : Nat → Int32} (h : VB w) : w 1 = nI (bH w) ∧ 1 ≤ bH w ∧ bH w ≤ 9 := by
  have := nb_ix h.2.1 (by decide)
  exact ⟨this.1, h.2.2.1, by have := this.2; unfold bH; omega⟩
theorem VP.E {w : Nat → Int32} {p : Nat} (h : VP w p) : w (8 + p) = nI (bE w p) ∧ bE w p < 4 := nb_ix h.1 (by decide)
theorem VP.N {w : Nat → Int32} {p : Nat} (h : VP w p) : w (32 + p) = nI (bN w p) ∧ bN w p < 5 := nb_ix h.2.1 (by decide)
theorem VP.C {w : Nat → Int32} {p : Nat} (h : VP w p) : w (56 + p) = nI (bC w p) ∧ bC w p < 7 := nb_ix h.2.2.1 (by decide)
theorem bd_q {α β : Type} (e : α) (f : α → β) : bd e f = f e := rfl
theorem gdi {α : Type} {i n : Nat} {x : Option α} (h : i < n) (hn : i < 2 ^ 31) : gd (inb (nI i) n) x = x := gd_h (in_nI h hn)
theorem oix {x : Int32} {n : Nat} (h : inb x n = false) : x < 0 ∨ nI n ≤ x ∨ 2 ^ 31 ≤ n := by
  by_cases hn : n < 2 ^ 31
  · rcases pk_ix x hn with h1 | h1 | ⟨j, hj, rfl⟩
    · exact .inl h1
    · exact .inr (.inl h1)
    · rw [in_nI hj (by omega)] at h; cases h
  · exact .inr (.inr (by omega))
/-! ===== readers of the class ===== -/
theorem hasPart_in {L : Nat → Nat} {d : Dt} {b : Nat} {w : Nat → Int32} (hv : VB w) (hb : BK d b w) {p : Nat} (hp : p < bP w) : t_X0_hasPart L d b (nI p) = some 1 := by
  have hP := hv.P
  unfold t_X0_hasPart
  rw [if_neg (nI_pos (by omega)), hb.1, hP.1, if_neg (nI_ge hp (by omega))]
  exact if_neg (show ¬ nI 24 ≤ nI p from nI_ge (by omega) (by decide))
theorem hasPart_out {L : Nat → Nat} {d : Dt} {b : Nat} {w : Nat → Int32} (hv : VB w) (hb : BK d b w) {x : Int32} (hp : inb x (bP w) = false) : t_X0_hasPart L d b x = some 0 := by
  have hP := hv.P
  unfold t_X0_hasPart
  rcases oix hp with h | h | h
  · rw [if_pos h]
  · by_cases h0 : x < 0
    · rw [if_pos h0]
    · rw [if_neg h0, hb.1, hP.1, if_pos h]
  · omega
/-! ===== arriving: effects of part p, one by one ===== -/
def arr (w : Nat → Int32) (bar : Int32) (p : Nat) : Nat → Nat → Int32 → Nat → Int32 × Nat
  | 0, _, t, h => (t, h)
  | n + 1, k, t, h => if h = 0 then (t, h) else if bK w p k = 0 then arr w bar p n (k + 1) (t ||| (if w (272 + (4 * p + k)) = bar then 0 else (1 : Int32) <<< (w (272 + (4 * p + k)) &&& 31))) h
    else if bK w p k = 1 then arr w bar p n (k + 1) (t &&& (((1 : Int32) <<< (w (272 + (4 * p + k)) &&& 31)) ^^^ (-1))) h
    else if bK w p k = 2 then arr w bar p n (k + 1) t (h - bS w p k)
    else arr w bar p n (k + 1) t (if h + bS w p k ≤ 9 then h + bS w p k else 9)
theorem arr_ok {w : Nat → Int32} {bar : Int32} {p : Nat} (hv : VP w p) : ∀ (n k : Nat) (t : Int32) (h : Nat), k + n ≤ bN w p → NB t 256 → h ≤ 9 → NB (arr w bar p n k t h).1 256 ∧ (arr w bar p n k t h).2 ≤ 9 := by
  intro n
  induction n with
  | zero => intro k t h _ ht hh; exact ⟨ht, hh⟩
  | succ n ih =>
    intro k t h hk ht hh
    have he := hv.2.2.2.2.2.1 k (by omega)
    have hs : NB ((1 : Int32) <<< (nI (bS w p k) &&& 31)) 256 → NB (t ||| (if nI (bS w p k) = bar then 0 else (1 : Int32) <<< (nI (bS w p k) &&& 31))) 256 := by
      intro h1
      refine NB.or (k := 8) ht ?_
      split
      · exact ⟨0, by decide, rfl⟩
      · exact h1
    unfold arr
    by_cases h0 : h = 0
    · rw [if_pos h0]; exact ⟨ht, hh⟩
    rw [if_neg h0]
    by_cases k0 : bK w p k = 0
    · rw [if_pos k0]
      have e8 := nb_ix (he.2.2 (by omega)) (by decide)
      rw [e8.1]
      exact ih _ _ _ (by omega) (hs (bit_NB _ e8.2)) hh
    rw [if_neg k0]
    by_cases k1 : bK w p k = 1
    · rw [if_pos k1]; exact ih _ _ _ (by omega) (ht.and _) hh
    rw [if_neg k1]
    by_cases k2 : bK w p k = 2
    · rw [if_pos k2]; exact ih _ _ _ (by omega) ht (by omega)
    rw [if_neg k2]
    exact ih _ _ _ (by omega) ht (by split <;> omega)
/-- the fate at part p with health h -/
def fat (w : Nat → Int32) (p h : Nat) : Nat := if h = 0 then 2 else if bE w p = 1 then 1 else if bE w p = 2 then 2 else 0
def arrS (w : Nat → Int32) (p : Nat) (q : Int32 × Nat) : Nat := sc p (ix q.1) q.2 (fat w p q.2)
theorem arrive_200 {L : Nat → Nat} {d : Dt} {b p h f : Nat} {p2 p3 bar t : Int32} (hp : p < 32) (ht : NB t 256) (hh : h < 16) (hf : f < 4) : t_X0_arrive_200 L d b (nI p) p2 p3 bar t (nI h) (nI f) = some (nI (sc p (ix t) h f)) := by
  unfold t_X0_arrive_200
  have e := nb_ix ht (by decide)
  rw [e.1, pack_eq hp e.2 hh hf, ix_nI (by omega)]
  rfl
theorem arrive_171 {L : Nat → Nat} {d : Dt} {b : Nat} {w : Nat → Int32} (hv : VB w) (hb : BK d b w) (hl : LB L b) {p : Nat} (hp : p < bP w) {p2 p3 bar t : Int32} {h : Nat} (ht : NB t 256) (hh : h ≤ 9) (h0 : 1 ≤ h) : t_X0_arrive_171 L d b (nI p) p2 p3 bar t (nI h) = some (nI (arrS w p (t, h))) := by
  have hP := hv.P
  have hE := (hv.2.2.2 p hp).E
  have hB := hb.2.2 p hp
  unfold t_X0_arrive_171 arrS fat
  rw [hl.1, gdi (show p < 24 by omega) (by omega), gdi (show p < 24 by omega) (by omega), ix_nI (by omega), hB.1, hE.1, if_neg (show ¬ (t, h).2 = 0 by show ¬ h = 0; omega)]
  by_cases e1 : bE w p = 1
  · rw [e1, if_pos (show nI 1 = 1 from rfl), if_pos rfl]
    exact arrive_200 (f := 1) (by omega) ht (by omega) (by decide)
  · rw [if_neg (show ¬ nI (bE w p) = 1 from fun q => e1 (nI_inj (by omega) (by decide) q)), if_neg e1]
    by_cases e2 : bE w p = 2
    · rw [e2, if_pos (show nI 2 = 2 from rfl), if_pos rfl]
      exact arrive_200 (f := 2) (by omega) ht (by omega) (by decide)
    · rw [if_neg (show ¬ nI (bE w p) = 2 from fun q => e2 (nI_inj (by omega) (by decide) q)), if_neg e2]
      exact arrive_200 (f := 0) (by omega) ht (by omega) (by decide)
theorem arr_0 {w : Nat → Int32} {bar : Int32} {p n k : Nat} {t : Int32} : arr w bar p n k t 0 = (t, 0) := by
  cases n with
  | zero => rfl
  | succ n => unfold arr; rw [if_pos rfl]
theorem nI_subN {a b : Nat} (h : b ≤ a) : nI a - nI b = nI (a - b) := by
  have e : nI a = nI (a - b) + nI b := by rw [nI_add]; congr 1; omega
  rw [e]
  exact Int32.add_sub_cancel _ _
theorem arrive_151 {L : Nat → Nat} {d : Dt} {b p : Nat} {w : Nat → Int32} {p2 p3 bar t : Int32} {h k : Nat} {K : Int32 → Int32 → Int32 → Option Int32} {q : Int32 × Nat} (hp : p < 32) (ht : NB t 256) (hh : h ≤ 9) (hz : h = 0 → q = (t, 0)) (hk : 1 ≤ h → K t (nI h) (nI (k + 1)) = some (nI (arrS w p q))) : t_X0_arrive_151 L d b (nI p) p2 p3 bar K t (nI h) (nI k) = some (nI (arrS w p q)) := by
  unfold t_X0_arrive_151
  by_cases h0 : h = 0
  · rw [if_neg (by rw [h0]; exact (by decide : ¬ (0 : Int32) < nI 0)), hz h0]
    have e := nb_ix ht (by decide)
    unfold arrS fat
    rw [if_pos rfl]
    show (t_X3_pack L d (nI p) t (nI 0) (nI 2)).bind _ = _
    rw [e.1, pack_eq hp e.2 (by decide) (by decide), ix_nI (by omega)]
    rfl
  · rw [if_pos (show (0 : Int32) < nI h from nI_lt (a := 0) (by omega) (by omega)), nI_1]
    exact hk (by omega)
/-- a hurt that takes all: what is left may be below 0 -/
theorem arrive_151n {L : Nat → Nat} {d : Dt} {b p : Nat} {w : Nat → Int32} {p2 p3 bar t x : Int32} {k : Nat} {K : Int32 → Int32 → Int32 → Option Int32} (hp : p < 32) (ht : NB t 256) (hx : ¬ 0 < x) : t_X0_arrive_151 L d b (nI p) p2 p3 bar K t x (nI k) = some (nI (arrS w p (t, 0))) := by
  unfold t_X0_arrive_151
  rw [if_neg hx]
  have e := nb_ix ht (by decide)
  unfold arrS fat
  rw [if_pos rfl]
  show (t_X3_pack L d (nI p) t (nI 0) (nI 2)).bind _ = _
  rw [e.1, pack_eq hp e.2 (by decide) (by decide), ix_nI (by omega)]
  rfl
theorem sub_le0 {a b : Nat} (h : a ≤ b) (ha : a < 2 ^ 30) (hb : b < 2 ^ 30) : ¬ 0 < nI a - nI b := by
  intro q
  have q2 := Int32.lt_iff_toInt_lt.mp q
  rw [Int32.toInt_sub, nI_toInt (by omega), nI_toInt (by omega), Int.bmod_eq_of_le (by omega) (by omega)] at q2
  have : (0 : Int32).toInt = 0 := rfl
  omega
theorem neg_lt0 {a b : Nat} (h : a < b) (ha : a < 2 ^ 30) (hb : b < 2 ^ 30) : ¬ 0 ≤ nI a - nI b := by
  intro q
  have q2 := Int32.le_iff_toInt_le.mp q
  rw [Int32.toInt_sub, nI_toInt (by omega), nI_toInt (by omega), Int.bmod_eq_of_le (by omega) (by omega)] at q2
  have : (0 : Int32).toInt = 0 := rfl
  omega
theorem arrive_step {L : Nat → Nat} {d : Dt} {b : Nat} {w : Nat → Int32} (hv : VB w) (hb : BK d b w) (hl : LB L b) {p : Nat} (hp : p < bP w) {p2 p3 bar : Int32} {n k : Nat} {t : Int32} {h : Nat} {K : Int32 → Int32 → Int32 → Option Int32} (hk : k + (n + 1) = bN w p) (ht : NB t 256) (h0 : 1 ≤ h) (hh : h ≤ 9) (ih' : ∀ (t' : Int32) (h' : Nat), NB t' 256 → 1 ≤ h' → h' ≤ 9 → K t' (nI h') (nI (k + 1)) = some (nI (arrS w p (arr w bar p n (k + 1) t' h')))) : t_X0_arrive_25 L d b (nI p) p2 p3 bar K t (nI h) (nI k) = some (nI (arrS w p (arr w bar p (n + 1) k t h))) := by
  have hP := hv.P
  have hV := hv.2.2.2 p hp
  have hN := hV.N
  have hB := hb.2.2 p hp
  obtain ⟨_, _, _, _, l6, l7, l8, _⟩ := hl
  have he := hV.2.2.2.2.2.1 k (by omega)
  have hB2 := hB.2.2.2.2.1 k (by omega)
  have hK : w (176 + (4 * p + k)) = nI (bK w p k) ∧ bK w p k < 4 := nb_ix he.1 (by decide)
  have hS : w (272 + (4 * p + k)) = nI (bS w p k) ∧ bS w p k < 10 := nb_ix he.2.1 (by decide)
  have e4 : nI p * 4 + nI k = nI (4 * p + k) := by
    show nI p * nI 4 + nI k = _
    rw [nI_mulN, nI_add]; congr 1; omega
  unfold t_X0_arrive_25
  rw [bd_q, bd_q, bd_q, bd_q]
  rw [l6, gdi (show p < 24 by omega) (by omega), ix_nI (show p < 2 ^ 31 by omega), hB.2.1, hN.1, if_neg (nI_ge (by omega) (by omega)), if_neg (show ¬ (4 : Int32) ≤ nI k from nI_ge (b := 4) (by omega) (by decide)), e4, l8, gdi (by omega) (by omega), l7, gdi (by omega) (by omega), ix_nI (by omega), hB2.1, hB2.2]
  unfold arr
  rw [if_neg (show ¬ h = 0 by omega), hK.1]
  by_cases k0 : bK w p k = 0
  · have e8 : NB (w (272 + (4 * p + k))) 8 := he.2.2 (by omega)
    have hn : NB (t ||| (if w (272 + (4 * p + k)) = bar then 0 else (1 : Int32) <<< (w (272 + (4 * p + k)) &&& 31))) 256 := by
      refine NB.or (k := 8) ht ?_
      split
      · exact ⟨0, by decide, rfl⟩
      · have e9 := nb_ix e8 (by decide)
        rw [e9.1]; exact bit_NB _ e9.2
    rw [if_pos (show nI (bK w p k) = 0 by rw [k0]; rfl), if_pos k0]
    have fin : t_X0_arrive_151 L d b (nI p) p2 p3 bar K (t ||| (if w (272 + (4 * p + k)) = bar then 0 else (1 : Int32) <<< (w (272 + (4 * p + k)) &&& 31))) (nI h) (nI k) = some (nI (arrS w p (arr w bar p n (k + 1) (t ||| (if w (272 + (4 * p + k)) = bar then 0 else (1 : Int32) <<< (w (272 + (4 * p + k)) &&& 31))) h))) :=
      arrive_151 (by omega) hn hh (fun q => by omega) (fun _ => ih' _ h hn h0 hh)
    by_cases eb : w (272 + (4 * p + k)) = bar
    · rw [if_pos eb, if_pos eb]
      rw [if_pos eb] at fin
      exact fin
    · rw [if_neg eb, if_neg eb]
      rw [if_neg eb] at fin
      exact fin
  rw [if_neg (show ¬ nI (bK w p k) = 0 from nI_ne0 (by omega) (by omega)), if_neg k0]
  by_cases k1 : bK w p k = 1
  · rw [if_pos (show nI (bK w p k) = 1 by rw [k1]; rfl), if_pos k1]
    exact arrive_151 (by omega) (ht.and _) hh (fun q => by omega) (fun _ => ih' _ h (ht.and _) h0 hh)
  rw [if_neg (show ¬ nI (bK w p k) = 1 from fun q => k1 (nI_inj (by omega) (by decide) q)), if_neg k1]
  by_cases k2 : bK w p k = 2
  · rw [if_pos (show nI (bK w p k) = 2 by rw [k2]; rfl), if_pos k2, hS.1]
    by_cases hle : h ≤ bS w p k
    · rw [show h - bS w p k = 0 by omega, arr_0]
      exact arrive_151n (by omega) ht (sub_le0 hle (by omega) (by omega))
    · rw [nI_subN (show bS w p k ≤ h by omega)]
      exact arrive_151 (by omega) ht (by omega) (fun q => by omega) (fun _ => ih' _ _ ht (by omega) (by omega))
  rw [if_neg (show ¬ nI (bK w p k) = 2 from fun q => k2 (nI_inj (by omega) (by decide) q)), if_neg k2, hS.1, nI_add]
  have e : (if nI (h + bS w p k) < 9 then nI (h + bS w p k) else 9) = nI (if h + bS w p k ≤ 9 then h + bS w p k else 9) := by
    show (if nI (h + bS w p k) < nI 9 then nI (h + bS w p k) else nI 9) = _
    by_cases q : h + bS w p k < 9
    · rw [if_pos (nI_lt q (by omega)), if_pos (by omega)]
    · rw [if_neg (nI_nlt (by omega) (by omega))]
      congr 1
      split <;> omega
  rw [e]
  exact arrive_151 (by omega) ht (by split <;> omega) (fun q => by split at q <;> omega) (fun _ => ih' _ _ ht (by split <;> omega) (by split <;> omega))
theorem arrive_lp {L : Nat → Nat} {d : Dt} {b : Nat} {w : Nat → Int32} (hv : VB w) (hb : BK d b w) (hl : LB L b) {p : Nat} (hp : p < bP w) {p2 p3 bar : Int32} : ∀ (n k F : Nat) (t : Int32) (h : Nat), k + n = bN w p → n < F → NB t 256 → 1 ≤ h → h ≤ 9 → lp (fun k x => t_X0_arrive_25 L d b (nI p) p2 p3 bar (fun x5 x6 x7 => k (x5, x6, x7)) x.1 x.2.1 x.2.2) F (t, nI h, nI k) = some (nI (arrS w p (arr w bar p n k t h))) := by
  have hP := hv.P
  have hN := (hv.2.2.2 p hp).N
  have hB := hb.2.2 p hp
  intro n
  induction n with
  | zero =>
    intro k F t h hk hF ht h0 hh
    obtain ⟨F, rfl⟩ : ∃ G, F = G + 1 := ⟨F - 1, by omega⟩
    show t_X0_arrive_25 L d b (nI p) p2 p3 bar (fun x5 x6 x7 => lp _ F (x5, x6, x7)) t (nI h) (nI k) = _
    rw [t_X0_arrive_25, hl.2.2.2.2.1, gdi (show p < 24 by omega) (by omega), ix_nI (by omega), hB.2.1, hN.1, if_pos (nI_le (by omega) (by omega))]
    exact arrive_171 hv hb hl hp ht hh h0
  | succ n ih =>
    intro k F t h hk hF ht h0 hh
    obtain ⟨F, rfl⟩ : ∃ G, F = G + 1 := ⟨F - 1, by omega⟩
    exact arrive_step hv hb hl hp hk ht h0 hh (fun t' h' ht' h0' hh' => ih (k + 1) F t' h' (by omega) (by omega) ht' h0' hh')
/-- arriving at part p with things t and health h -/
def com (w : Nat → Int32) (bar : Int32) (p : Nat) (t : Int32) (h : Nat) : Int32 × Nat := arr w bar p (bN w p) 0 t h
theorem arrive_eq {L : Nat → Nat} {d : Dt} {b : Nat} {w : Nat → Int32} (hv : VB w) (hb : BK d b w) (hl : LB L b) {p : Nat} (hp : p < bP w) {bar t : Int32} {h : Nat} (ht : NB t 256) (h0 : 1 ≤ h) (hh : h ≤ 9) : t_X0_arrive L d b (nI p) t (nI h) bar = some (nI (arrS w p (com w bar p t h))) := by
  unfold t_X0_arrive
  rw [hasPart_in hv hb hp]
  exact arrive_lp hv hb hl hp (bN w p) 0 FU t h (by omega) (by have := (hv.2.2.2 p hp).N.2; unfold FU; omega) ht h0 hh
/-! ===== the same in the reference ===== -/
theorem sF_sF (d : Dt) (o j : Nat) (u v : Int32) : sF (sF d o j u) o j v = sF d o j v := by
  unfold sF
  congr 1
  funext o' j'
  show (if o' = o ∧ j' = j then v else if o' = o ∧ j' = j then u else d.1 o' j') = if o' = o ∧ j' = j then v else d.1 o' j'
  by_cases h : o' = o ∧ j' = j
  · rw [if_pos h, if_pos h]
  · rw [if_neg h, if_neg h, if_neg h]
theorem sF_cm (d : Dt) {o j o' j' : Nat} (u v : Int32) (h : ¬ (o = o' ∧ j = j')) : sF (sF d o j u) o' j' v = sF (sF d o' j' v) o j u := by
  unfold sF
  congr 1
  funext a b
  show (if a = o' ∧ b = j' then v else if a = o ∧ b = j then u else d.1 a b) = if a = o ∧ b = j then u else if a = o' ∧ b = j' then v else d.1 a b
  by_cases h1 : a = o' ∧ b = j'
  · rw [if_pos h1]
    by_cases h2 : a = o ∧ b = j
    · exact absurd ⟨h2.1.symm.trans h1.1, h2.2.symm.trans h1.2⟩ h
    · rw [if_neg h2, if_pos h1]
  · rw [if_neg h1]
    by_cases h2 : a = o ∧ b = j
    · rw [if_pos h2, if_pos h2]
    · rw [if_neg h2, if_neg h2, if_neg h1]
/-- the reference's registers with newThings t and newHealth h -/
def nw (d : Dt) (t : Int32) (h : Nat) : Dt := sF (sF d 0 17 t) 0 18 (nI h)
theorem nw17 (d : Dt) (t : Int32) (h : Nat) : gF (nw d t h) 0 17 = t := by unfold nw; rw [gF_sFn (by decide), gF_sF1]
theorem nw18 (d : Dt) (t : Int32) (h : Nat) : gF (nw d t h) 0 18 = nI h := by unfold nw; rw [gF_sF1]
theorem nw_o {d : Dt} {t : Int32} {h : Nat} {o j : Nat} (e : j ≠ 17) (e2 : j ≠ 18) : gF (nw d t h) o j = gF d o j := by
  unfold nw
  rw [gF_sFn (fun q => e2 q.2), gF_sFn (fun q => e q.2)]
theorem nw_A (d : Dt) (t : Int32) (h a i : Nat) : gA (nw d t h) a i = gA d a i := rfl
theorem nw_t (d : Dt) (t t' : Int32) (h : Nat) : sF (nw d t h) 0 17 t' = nw d t' h := by
  unfold nw
  rw [sF_cm _ _ _ (by decide), sF_sF]
theorem nw_h (d : Dt) (t : Int32) (h h' : Nat) : sF (nw d t h) 0 18 (nI h') = nw d t h' := by
  unfold nw
  rw [sF_sF]
def wOf (d : Dt) : Nat → Int32 := fun i => gA d 0 i
theorem LM0 : LM (32 * 0 + 0) = 4128 := rfl
theorem come_201 {p1 p2 p3 t : Int32} {d : Dt} {h : Nat} (hh : h ≤ 9) : t_X6_come_201 LM p1 p2 p3 (nw d t h) = some (if h = 0 then 0 else 1, nw d t h) := by
  unfold t_X6_come_201
  rw [nw18]
  by_cases h0 : h = 0
  · rw [if_pos h0, h0]; exact if_pos (by decide)
  · rw [if_neg h0, if_neg (nI_nle (by omega) (by omega))]
theorem come_step {d : Dt} (hv : VB (wOf d)) {p : Nat} (hp : p < bP (wOf d)) {p2 p3 : Int32} {n k : Nat} {t : Int32} {h : Nat} {K : Int32 → Dt → Option (Int32 × Dt)} (hk : k + (n + 1) = bN (wOf d) p) (h0 : 1 ≤ h) (hh : h ≤ 9) (ih' : ∀ (t' : Int32) (h' : Nat), h' ≤ 9 → K (nI (k + 1)) (nw d t' h') = some (if (arr (wOf d) (gF d 0 16) p n (k + 1) t' h').2 = 0 then 0 else 1, nw d (arr (wOf d) (gF d 0 16) p n (k + 1) t' h').1 (arr (wOf d) (gF d 0 16) p n (k + 1) t' h').2)) : t_X6_come_13 LM (nI p) p2 p3 K (nI k) (nw d t h) = some (if (arr (wOf d) (gF d 0 16) p (n + 1) k t h).2 = 0 then 0 else 1, nw d (arr (wOf d) (gF d 0 16) p (n + 1) k t h).1 (arr (wOf d) (gF d 0 16) p (n + 1) k t h).2) := by
  have hP := hv.P
  have hV := hv.2.2.2 p hp
  have hN := hV.N
  have he := hV.2.2.2.2.2.1 k (by omega)
  have hK : wOf d (176 + (4 * p + k)) = nI (bK (wOf d) p k) ∧ bK (wOf d) p k < 4 := nb_ix he.1 (by decide)
  have hS : wOf d (272 + (4 * p + k)) = nI (bS (wOf d) p k) ∧ bS (wOf d) p k < 10 := nb_ix he.2.1 (by decide)
  have e1 : (32 : Int32) + nI p = nI (32 + p) := nI_add 32 p
  have e2 : ((272 : Int32) + 4 * nI p) + nI k = nI (272 + (4 * p + k)) := by
    show (nI 272 + nI 4 * nI p) + nI k = _
    rw [nI_mulN, nI_add, nI_add, Nat.add_assoc]
  have e3 : ((176 : Int32) + 4 * nI p) + nI k = nI (176 + (4 * p + k)) := by
    show (nI 176 + nI 4 * nI p) + nI k = _
    rw [nI_mulN, nI_add, nI_add, Nat.add_assoc]
  have hg : ∀ i, gA (nw d t h) (32 * 0 + 0) i = wOf d i := fun _ => rfl
  unfold t_X6_come_13
  rw [bd_q, bd_q]
  rw [LM0, e1, e2, e3, gdi (show 32 + p < 4128 by omega) (by omega), gdi (show 272 + (4 * p + k) < 4128 by omega) (by omega), gdi (show 176 + (4 * p + k) < 4128 by omega) (by omega), ix_nI (show 32 + p < 2 ^ 31 by omega), ix_nI (show 272 + (4 * p + k) < 2 ^ 31 by omega), ix_nI (show 176 + (4 * p + k) < 2 ^ 31 by omega), hg, hg, hg, hN.1, if_neg (nI_ge (by omega) (by omega)), nw17, nw18, nw_o (by decide) (by decide), if_neg (nI_nle (by omega) (by omega))]
  unfold arr
  rw [if_neg (show ¬ h = 0 by omega), hK.1]
  by_cases k0 : bK (wOf d) p k = 0
  · rw [if_pos (show nI (bK (wOf d) p k) = 0 by rw [k0]; rfl), if_pos k0]
    by_cases eb : wOf d (272 + (4 * p + k)) = gF d 0 16
    · rw [if_pos eb, if_pos eb]
      show K (nI k + 1) (sF (nw d t h) 0 17 (t ||| 0)) = _
      rw [nI_1, nw_t]
      exact ih' _ _ hh
    · rw [if_neg eb, if_neg eb]
      show K (nI k + 1) (sF (nw d t h) 0 17 _) = _
      rw [nI_1, nw_t]
      exact ih' _ _ hh
  rw [if_neg (show ¬ nI (bK (wOf d) p k) = 0 from nI_ne0 (by omega) (by omega)), if_neg k0]
  by_cases k1 : bK (wOf d) p k = 1
  · rw [if_pos (show nI (bK (wOf d) p k) = 1 by rw [k1]; rfl), if_pos k1]
    show K (nI k + 1) (sF (nw d t h) 0 17 _) = _
    rw [nI_1, nw_t]
    exact ih' _ _ hh
  rw [if_neg (show ¬ nI (bK (wOf d) p k) = 1 from fun q => k1 (nI_inj (by omega) (by decide) q)), if_neg k1]
  by_cases k2 : bK (wOf d) p k = 2
  · rw [if_pos (show nI (bK (wOf d) p k) = 2 by rw [k2]; rfl), if_pos k2, hS.1]
    by_cases hle : bS (wOf d) p k ≤ h
    · rw [nI_subN hle, if_pos (nI_pos' (by omega))]
      show K (nI k + 1) (sF (nw d t h) 0 18 _) = _
      rw [nI_1, nw_h]
      exact ih' _ _ (by omega)
    · rw [if_neg (neg_lt0 (by omega) (by omega) (by omega)), show h - bS (wOf d) p k = 0 by omega]
      show K (nI k + 1) (sF (nw d t h) 0 18 (nI 0)) = _
      rw [nI_1, nw_h]
      exact ih' _ _ (by omega)
  rw [if_neg (show ¬ nI (bK (wOf d) p k) = 2 from fun q => k2 (nI_inj (by omega) (by decide) q)), if_neg k2, hS.1, nI_add]
  by_cases q : h + bS (wOf d) p k ≤ 9
  · rw [if_pos (show nI (h + bS (wOf d) p k) ≤ 9 from nI_le (b := 9) q (by decide)), if_pos q]
    show K (nI k + 1) (sF (nw d t h) 0 18 _) = _
    rw [nI_1, nw_h]
    exact ih' _ _ q
  · rw [if_neg (show ¬ nI (h + bS (wOf d) p k) ≤ 9 from nI_ge (a := 9) (by omega) (by omega)), if_neg q]
    show K (nI k + 1) (sF (nw d t h) 0 18 (nI 9)) = _
    rw [nI_1, nw_h]
    exact ih' _ _ (by omega)
theorem come_lp {d : Dt} (hv : VB (wOf d)) {p : Nat} (hp : p < bP (wOf d)) {p2 p3 : Int32} : ∀ (n k F : Nat) (t : Int32) (h : Nat), k + n = bN (wOf d) p → n < F → h ≤ 9 → lp (fun k x => t_X6_come_13 LM (nI p) p2 p3 (fun x4 d => k (x4, d)) x.1 x.2) F (nI k, nw d t h) = some (if (arr (wOf d) (gF d 0 16) p n k t h).2 = 0 then 0 else 1, nw d (arr (wOf d) (gF d 0 16) p n k t h).1 (arr (wOf d) (gF d 0 16) p n k t h).2) := by
  have hP := hv.P
  have hN := (hv.2.2.2 p hp).N
  have e1 : (32 : Int32) + nI p = nI (32 + p) := nI_add 32 p
  intro n
  induction n with
  | zero =>
    intro k F t h hk hF hh
    obtain ⟨F, rfl⟩ : ∃ G, F = G + 1 := ⟨F - 1, by omega⟩
    show t_X6_come_13 LM (nI p) p2 p3 (fun x4 d => lp _ F (x4, d)) (nI k) (nw d t h) = _
    rw [t_X6_come_13, LM0, e1, gdi (show 32 + p < 4128 by omega) (by omega), ix_nI (by omega), show gA (nw d t h) (32 * 0 + 0) (32 + p) = wOf d (32 + p) from rfl, hN.1, if_pos (nI_le (by omega) (by omega))]
    exact come_201 hh
  | succ n ih =>
    intro k F t h hk hF hh
    obtain ⟨F, rfl⟩ : ∃ G, F = G + 1 := ⟨F - 1, by omega⟩
    by_cases h0 : h = 0
    · subst h0
      rw [arr_0]
      show t_X6_come_13 LM (nI p) p2 p3 (fun x4 d => lp _ F (x4, d)) (nI k) (nw d t 0) = _
      rw [t_X6_come_13, LM0, e1, gdi (show 32 + p < 4128 by omega) (by omega), ix_nI (by omega), show gA (nw d t 0) (32 * 0 + 0) (32 + p) = wOf d (32 + p) from rfl, hN.1, if_neg (nI_ge (by omega) (by omega)), nw18, if_pos (show nI 0 ≤ 0 by decide)]
      exact come_201 hh
    · exact come_step hv hp hk (by omega) hh (fun t' h' hh' => ih (k + 1) F t' h' (by omega) (by omega) hh')
theorem come_eq {d : Dt} (hv : VB (wOf d)) {p : Nat} (hp : p < bP (wOf d)) {t : Int32} {h : Nat} (hh : h ≤ 9) : t_X6_come LM d (nI p) t (nI h) = some (if (com (wOf d) (gF d 0 16) p t h).2 = 0 then 0 else 1, nw d (com (wOf d) (gF d 0 16) p t h).1 (com (wOf d) (gF d 0 16) p t h).2) :=
  come_lp hv hp (bN (wOf d) p) 0 FU t h (by omega) (by have := (hv.2.2.2 p hp).N.2; unfold FU; omega) hh
