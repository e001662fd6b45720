/-! ===== PHASE 2: tools over the lifted functions ===== -/
theorem gF_sF (d : Dt) (o j : Nat) (v : Int32) (o' j' : Nat) : gF (sF d o j v) o' j' = if o' = o ∧ j' = j then v else gF d o' j' := rfl
theorem gF_sF1 (d : Dt) (o j : Nat) (v : Int32) : gF (sF d o j v) o j = v := by rw [gF_sF, if_pos ⟨rfl, rfl⟩]
theorem gF_sFn {d : Dt} {o j o' j' : Nat} {v : Int32} (h : ¬ (o' = o ∧ j' = j)) : gF (sF d o j v) o' j' = gF d o' j' := by rw [gF_sF, if_neg h]
theorem gF_sA (d : Dt) (a i : Nat) (v : Int32) (o j : Nat) : gF (sA d a i v) o j = gF d o j := rfl
theorem gF_sR (d : Dt) (a : Nat) (f : Nat → Int32) (o j : Nat) : gF (sR d a f) o j = gF d o j := rfl
theorem gA_sF (d : Dt) (o j : Nat) (v : Int32) (a i : Nat) : gA (sF d o j v) a i = gA d a i := rfl
theorem gA_sAi (d : Dt) (a i : Nat) (v : Int32) (b j : Nat) : gA (sA d a i v) b j = if b = a ∧ j = i then v else gA d b j := rfl
theorem gA_sRi (d : Dt) (a : Nat) (f : Nat → Int32) (b j : Nat) : gA (sR d a f) b j = if b = a then f j else gA d b j := rfl
theorem gd_t {α : Type} (x : Option α) : gd true x = x := rfl
theorem gd_h {α : Type} {b : Bool} {x : Option α} (h : b = true) : gd b x = x := by rw [h]; rfl
/-- a loop, by an invariant and a measure: whatever the fuel, if it is enough -/
theorem lp_spec {X R : Type} {f : (X → Option R) → X → Option R} (P : X → Option R → Prop) (I : X → Prop) (μ : X → Nat) (hs : ∀ (k : X → Option R) (x : X), I x → (∀ y, I y → μ y < μ x → P y (k y)) → P x (f k x)) : ∀ (n : Nat) (x : X), I x → μ x < n → P x (lp f n x) := by
  intro n
  induction n with
  | zero => intro x _ h; omega
  | succ n ih =>
    intro x hx hm
    exact hs (lp f n) x hx (fun y hy hlt => ih y hy (by omega))
theorem lp_FU {X R : Type} {f : (X → Option R) → X → Option R} (P : X → Option R → Prop) (I : X → Prop) (μ : X → Nat) (hs : ∀ (k : X → Option R) (x : X), I x → (∀ y, I y → μ y < μ x → P y (k y)) → P x (f k x)) (x : X) (hx : I x) (hm : μ x < 1000000) : P x (lp f FU x) := lp_spec P I μ hs FU x hx hm
/-- small numbers -/
theorem ix_nI {i : Nat} (h : i < 2 ^ 31) : ix (nI i) = i := nI_clamp h
theorem in_nI {i n : Nat} (h : i < n) (hn : i < 2 ^ 31) : inb (nI i) n = true := by
  have e : (nI i).toInt = (i : Int) := nI_toInt hn
  simp only [inb, e, Bool.and_eq_true, decide_eq_true_eq]
  omega
theorem inb_ex {x : Int32} {n : Nat} (h : inb x n = true) (hn : n < 2 ^ 31) : ∃ i, i < n ∧ x = nI i := vp_in_of (inb_vp h) hn
theorem nx_or (a b : Nat) : nI a ||| nI b = nI (a ||| b) := by
  apply Int32.toBitVec_inj.mp
  show BitVec.ofNat 32 a ||| BitVec.ofNat 32 b = BitVec.ofNat 32 (a ||| b)
  apply BitVec.eq_of_getLsbD_eq
  intro i hi
  simp [BitVec.getLsbD_or, BitVec.getLsbD_ofNat, hi]
theorem nx_and' (a b : Nat) : nI a &&& nI b = nI (a &&& b) := by
  apply Int32.toBitVec_inj.mp
  show BitVec.ofNat 32 a &&& BitVec.ofNat 32 b = BitVec.ofNat 32 (a &&& b)
  apply BitVec.eq_of_getLsbD_eq
  intro i hi
  simp [BitVec.getLsbD_and, BitVec.getLsbD_ofNat, hi]
theorem nI_inj {a b : Nat} (ha : a < 2 ^ 31) (hb : b < 2 ^ 31) (h : nI a = nI b) : a = b := (nI_eq ha hb).mp h
/-- x is a number below n -/
def NB (x : Int32) (n : Nat) : Prop := ∃ i, i < n ∧ x = nI i
theorem NB.and {x : Int32} {n : Nat} (h : NB x n) (y : Int32) : NB (x &&& y) n := by
  obtain ⟨i, hi, rfl⟩ := h
  obtain ⟨j, _, rfl⟩ : ∃ j, j < 2 ^ 32 ∧ y = nI j := ⟨y.toBitVec.toNat, y.toBitVec.isLt, Int32.toBitVec_inj.mp (by show _ = BitVec.ofNat 32 _; simp)⟩
  exact ⟨i &&& j, Nat.lt_of_le_of_lt Nat.and_le_left hi, nx_and' i j⟩
theorem NB.or {x y : Int32} {k : Nat} (h : NB x (2 ^ k)) (h2 : NB y (2 ^ k)) : NB (x ||| y) (2 ^ k) := by
  obtain ⟨i, hi, rfl⟩ := h
  obtain ⟨j, hj, rfl⟩ := h2
  exact ⟨i ||| j, Nat.or_lt_two_pow hi hj, nx_or i j⟩
theorem bit_NB : ∀ v, v < 8 → NB ((1 : Int32) <<< (nI v &&& 31)) 256 := by
  have h : ∀ v, v < 8 → (1 : Int32) <<< (nI v &&& 31) = nI (2 ^ v) ∧ 2 ^ v < 256 := by decide +kernel
  exact fun v hv => ⟨2 ^ v, (h v hv).2, (h v hv).1⟩
/-! ===== State: a STATE as one number ===== -/
def sc (p t h f : Nat) : Nat := p * 16384 + t * 64 + h * 4 + f
theorem sc_lt {p t h f : Nat} (hp : p < 32) (ht : t < 256) (hh : h < 16) (hf : f < 4) : sc p t h f < 2 ^ 20 := by unfold sc; omega
theorem sc_part {p t h f : Nat} (ht : t < 256) (hh : h < 16) (hf : f < 4) : sc p t h f / 16384 = p := by unfold sc; omega
theorem sc_things {p t h f : Nat} (ht : t < 256) (hh : h < 16) (hf : f < 4) : sc p t h f / 64 % 256 = t := by unfold sc; omega
theorem sc_health {p t h f : Nat} (hh : h < 16) (hf : f < 4) : sc p t h f / 4 % 16 = h := by unfold sc; omega
theorem sc_fate {p t h f : Nat} (hf : f < 4) : sc p t h f % 4 = f := by unfold sc; omega
theorem or_add {a b i : Nat} (h : b < 2 ^ i) : a * 2 ^ i ||| b = a * 2 ^ i + b := by
  rw [Nat.mul_comm]
  exact (Nat.two_pow_add_eq_or_of_lt h a).symm
theorem pack_eq {L : Nat → Nat} {d : Dt} {p t h f : Nat} (hp : p < 32) (ht : t < 256) (hh : h < 16) (hf : f < 4) : t_X3_pack L d (nI p) (nI t) (nI h) (nI f) = some (nI (sc p t h f)) := by
  unfold t_X3_pack
  rw [pk_shlN (n := p) ((14 : Int32) &&& 31) 14 (by decide) (by omega), pk_shlN (n := t) ((6 : Int32) &&& 31) 6 (by decide) (by omega), pk_shlN (n := h) ((2 : Int32) &&& 31) 2 (by decide) (by omega), nx_or, nx_or, nx_or]
  have e1 : p * 2 ^ 14 ||| t * 2 ^ 6 = (p * 256 + t) * 2 ^ 6 := by
    rw [or_add (by omega)]
    omega
  have e2 : (p * 256 + t) * 2 ^ 6 ||| h * 2 ^ 2 = ((p * 256 + t) * 16 + h) * 2 ^ 2 := by
    rw [or_add (by omega)]
    omega
  rw [e1, e2, or_add (by omega)]
  unfold sc
  congr 2
  omega
theorem partOf_eq {L : Nat → Nat} {d : Dt} {n : Nat} (h : n < 2 ^ 19) : t_X3_partOf L d (nI n) = some (nI (n / 16384)) := by
  unfold t_X3_partOf
  rw [pk_shrN (by omega) ((14 : Int32) &&& 31) 14 (by decide), pk_andN (by omega) 5 (by decide)]
  congr 2
  omega
theorem thingsOf_eq {L : Nat → Nat} {d : Dt} {n : Nat} (h : n < 2 ^ 31) : t_X3_thingsOf L d (nI n) = some (nI (n / 64 % 256)) := by
  unfold t_X3_thingsOf
  rw [pk_shrN h ((6 : Int32) &&& 31) 6 (by decide), pk_andN (by omega) 8 (by decide)]
theorem healthOf_eq {L : Nat → Nat} {d : Dt} {n : Nat} (h : n < 2 ^ 31) : t_X3_healthOf L d (nI n) = some (nI (n / 4 % 16)) := by
  unfold t_X3_healthOf
  rw [pk_shrN h ((2 : Int32) &&& 31) 2 (by decide), pk_andN (by omega) 4 (by decide)]
theorem fateOf_eq {L : Nat → Nat} {d : Dt} {n : Nat} (h : n < 2 ^ 31) : t_X3_fateOf L d (nI n) = some (nI (n % 4)) := by
  unfold t_X3_fateOf
  rw [pk_andN (by omega) 2 (by decide)]
theorem isOver_eq {L : Nat → Nat} {d : Dt} {n : Nat} (h : n < 2 ^ 31) : t_X3_isOver L d (nI n) = some (if n % 4 = 0 then 0 else 1) := by
  unfold t_X3_isOver
  rw [pk_andN (by omega) 2 (by decide)]
  by_cases h0 : n % 2 ^ 2 = 0
  · rw [if_pos (show n % 4 = 0 from h0), h0]; rfl
  · rw [if_neg (nI_ne0 (by omega) (by omega)), if_neg (show ¬ n % 4 = 0 from h0)]
