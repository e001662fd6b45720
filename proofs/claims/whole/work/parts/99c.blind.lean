/-! ===== blind ===== -/
def mkm (o : Nat → Bool) : Nat → Nat → Int32 → Int32
  | 0, _, m => m
  | n + 1, c, m => mkm o n (c + 1) (if o c = true then m ||| ((1 : Int32) <<< (nI c &&& 31)) else m)
def cnt (o : Nat → Bool) : Nat → Nat → Nat
  | 0, _ => 0
  | n + 1, c => (if o c = true then 1 else 0) + cnt o n (c + 1)
theorem msk_mk (w : Nat → Int32) (p : Nat) (t : Int32) : ∀ (n c : Nat) (m : Int32), msk w p t n c m = mkm (fun x => opn w p t x) n c m := by
  intro n
  induction n with
  | zero => intro c m; rfl
  | succ n ih => intro c m; unfold msk mkm; exact ih _ _
theorem mk_cg {o o' : Nat → Bool} : ∀ (n c : Nat) (m : Int32), (∀ x, c ≤ x → x < c + n → o' x = o x) → mkm o' n c m = mkm o n c m ∧ cnt o' n c = cnt o n c := by
  intro n
  induction n with
  | zero => intro c m _; exact ⟨rfl, rfl⟩
  | succ n ih =>
    intro c m h
    unfold mkm cnt
    rw [h c (Nat.le_refl _) (by omega)]
    have i1 := ih (c + 1) (if o c = true then m ||| ((1 : Int32) <<< (nI c &&& 31)) else m) (fun x a b => h x (by omega) (by omega))
    exact ⟨i1.1, by rw [i1.2]⟩
theorem mk_no {o : Nat → Bool} : ∀ (n c : Nat) (m : Int32), (∀ x, c ≤ x → x < c + n → o x = false) → mkm o n c m = m ∧ cnt o n c = 0 := by
  intro n
  induction n with
  | zero => intro c m _; exact ⟨rfl, rfl⟩
  | succ n ih =>
    intro c m h
    unfold mkm cnt
    rw [h c (Nat.le_refl _) (by omega), if_neg (by decide), if_neg (by decide)]
    have i1 := ih (c + 1) m (fun x a b => h x (by omega) (by omega))
    exact ⟨i1.1, by rw [i1.2]⟩
theorem mk_add {o : Nat → Bool} (r : Nat) : ∀ (n c : Nat) (m : Int32), (∀ x, c + n ≤ x → x < c + n + r → o x = false) → mkm o (n + r) c m = mkm o n c m ∧ cnt o (n + r) c = cnt o n c := by
  intro n
  induction n with
  | zero =>
    intro c m h
    rw [Nat.zero_add]
    exact mk_no r c m (fun x a b => h x (by omega) (by omega))
  | succ n ih =>
    intro c m h
    rw [show n + 1 + r = (n + r) + 1 by omega]
    unfold mkm cnt
    have i1 := ih (c + 1) (if o c = true then m ||| ((1 : Int32) <<< (nI c &&& 31)) else m) (fun x a b => h x (by omega) (by omega))
    exact ⟨i1.1, by rw [i1.2]⟩
def B6 (a b c d e f : Bool) : Int32 := mkm (fun x => if x = 0 then a else if x = 1 then b else if x = 2 then c else if x = 3 then d else if x = 4 then e else if x = 5 then f else false) 6 0 0
def BCT (p0 : Int32) : Int32 := bd (p0 - (((p0.toUInt32 >>> ((1 : Int32).toUInt32 &&& Int32.toUInt32 31)).toInt32) &&& 1431655765)) (fun y1 => bd ((y1 &&& 858993459) + (((y1.toUInt32 >>> ((2 : Int32).toUInt32 &&& Int32.toUInt32 31)).toInt32) &&& 858993459)) (fun y2 => bd ((y2 + ((y2.toUInt32 >>> ((4 : Int32).toUInt32 &&& Int32.toUInt32 31)).toInt32)) &&& 252645135) (fun y3 => bd (y3 + ((y3.toUInt32 >>> ((8 : Int32).toUInt32 &&& Int32.toUInt32 31)).toInt32)) (fun y4 => bd (y4 + ((y4.toUInt32 >>> ((16 : Int32).toUInt32 &&& Int32.toUInt32 31)).toInt32)) (fun y5 => y5 &&& 63)))))
theorem bitCount_eq (L : Nat → Nat) (d : Dt) (x : Int32) : t_J6_bitCount_0f7a4 L d x = some (BCT x) := rfl
theorem B6_all : ∀ a b c d e f : Bool, BCT (B6 a b c d e f) = nI (a.toNat + (b.toNat + (c.toNat + (d.toNat + (e.toNat + f.toNat))))) ∧ ((((B6 a b c d e f) >>> (nI 0 &&& 31)) &&& 1 = 1) ↔ a = true) ∧ ((((B6 a b c d e f) >>> (nI 1 &&& 31)) &&& 1 = 1) ↔ b = true) ∧ ((((B6 a b c d e f) >>> (nI 2 &&& 31)) &&& 1 = 1) ↔ c = true) ∧ ((((B6 a b c d e f) >>> (nI 3 &&& 31)) &&& 1 = 1) ↔ d = true) ∧ ((((B6 a b c d e f) >>> (nI 4 &&& 31)) &&& 1 = 1) ↔ e = true) ∧ ((((B6 a b c d e f) >>> (nI 5 &&& 31)) &&& 1 = 1) ↔ f = true) := by decide +kernel
theorem tn (b : Bool) : (if b = true then 1 else 0) = b.toNat := by cases b <;> rfl
theorem mk_bits {o : Nat → Bool} {n : Nat} (hn : n ≤ 6) : BCT (mkm o n 0 0) = nI (cnt o n 0) ∧ ∀ c, c < 6 → ((((mkm o n 0 0) >>> (nI c &&& 31)) &&& 1 = 1) ↔ (c < n ∧ o c = true)) := by
  let o' : Nat → Bool := fun x => decide (x < n) && o x
  have h1 := mk_cg (o := o) (o' := o') n 0 0 (fun x _ b => by
    show (decide (x < n) && o x) = o x
    rw [decide_eq_true (by omega), Bool.true_and])
  have h2 := mk_add (o := o') (6 - n) n 0 0 (fun x a _ => by
    show (decide (x < n) && o x) = false
    rw [decide_eq_false (by omega), Bool.false_and])
  rw [show n + (6 - n) = 6 by omega] at h2
  have h3 := mk_cg (o := o') (o' := fun x => if x = 0 then o' 0 else if x = 1 then o' 1 else if x = 2 then o' 2 else if x = 3 then o' 3 else if x = 4 then o' 4 else if x = 5 then o' 5 else false) 6 0 0 (fun x _ b => by
    have : x = 0 ∨ x = 1 ∨ x = 2 ∨ x = 3 ∨ x = 4 ∨ x = 5 := by omega
    rcases this with e | e | e | e | e | e <;> (subst e; rfl))
  have hm : mkm o n 0 0 = B6 (o' 0) (o' 1) (o' 2) (o' 3) (o' 4) (o' 5) := by
    rw [← h1.1, ← h2.1, ← h3.1]; rfl
  have hc : cnt o n 0 = (o' 0).toNat + ((o' 1).toNat + ((o' 2).toNat + ((o' 3).toNat + ((o' 4).toNat + (o' 5).toNat)))) := by
    rw [← h1.2, ← h2.2]
    show (if o' 0 = true then 1 else 0) + ((if o' 1 = true then 1 else 0) + ((if o' 2 = true then 1 else 0) + ((if o' 3 = true then 1 else 0) + ((if o' 4 = true then 1 else 0) + ((if o' 5 = true then 1 else 0) + 0))))) = _
    rw [tn, tn, tn, tn, tn, tn, Nat.add_zero]
  obtain ⟨a0, a1, a2, a3, a4, a5, a6⟩ := B6_all (o' 0) (o' 1) (o' 2) (o' 3) (o' 4) (o' 5)
  have it : ∀ c, o' c = true ↔ (c < n ∧ o c = true) := fun c => by
    show (decide (c < n) && o c) = true ↔ _
    rw [Bool.and_eq_true, decide_eq_true_eq]
  rw [hm, hc]
  refine ⟨a0, fun c hc => ?_⟩
  have : c = 0 ∨ c = 1 ∨ c = 2 ∨ c = 3 ∨ c = 4 ∨ c = 5 := by omega
  rcases this with e | e | e | e | e | e
  · subst e; exact a1.trans (it 0)
  · subst e; exact a2.trans (it 1)
  · subst e; exact a3.trans (it 2)
  · subst e; exact a4.trans (it 3)
  · subst e; exact a5.trans (it 4)
  · subst e; exact a6.trans (it 5)
theorem cnt_le (o : Nat → Bool) : ∀ n c, cnt o n c ≤ n := by
  intro n
  induction n with
  | zero => intro c; exact Nat.le_refl _
  | succ n ih =>
    intro c
    unfold cnt
    have := ih (c + 1)
    split <;> omega
theorem cnt_pos {o : Nat → Bool} : ∀ n c x, c ≤ x → x < c + n → o x = true → 0 < cnt o n c := by
  intro n
  induction n with
  | zero => intro c x a b; omega
  | succ n ih =>
    intro c x a b e
    unfold cnt
    by_cases z : x = c
    · rw [← z, if_pos e]; omega
    · have := ih (c + 1) x (by omega) (by omega) e
      omega
/-- the reference's count -/
theorem manyOpen_q {u : Nat → Int32} {dm : Dt} (h : RU u dm) {q : Nat} (hq : VQ u q) : t_X6_manyOpen LM dm (nI q) = some (nI (cnt (fun c => wo u q c) (wys u (qp q)) 0)) := by
  have hw6 := wys_lt h.v hq.1
  have main : ∀ (n c F m : Nat), c + n = wys u (qp q) → n < F → lp (fun k x => t_X6_manyOpen_4 LM dm (nI q) (fun x2 x3 => k (x2, x3)) x.1 x.2) F (nI m, nI c) = some (nI (m + cnt (fun c => wo u q c) n c)) := by
    intro n
    induction n with
    | zero =>
      intro c F m hc hF
      obtain ⟨F, rfl⟩ : ∃ G, F = G + 1 := ⟨F - 1, by omega⟩
      have le : nI (wys u (qp q)) ≤ nI c := nI_le (by omega) (by omega)
      show t_X6_manyOpen_4 LM dm (nI q) (fun x2 x3 => lp _ F (x2, x3)) (nI m) (nI c) = _
      rw [t_X6_manyOpen_4, waysOf_q h hq, ob, if_pos le]
      rfl
    | succ n ih =>
      intro c F m hc hF
      obtain ⟨F, rfl⟩ : ∃ G, F = G + 1 := ⟨F - 1, by omega⟩
      have le : ¬ nI (wys u (qp q)) ≤ nI c := nI_ge (by omega) (by omega)
      show t_X6_manyOpen_4 LM dm (nI q) (fun x2 x3 => lp _ F (x2, x3)) (nI m) (nI c) = _
      rw [t_X6_manyOpen_4, waysOf_q h hq, ob, if_neg le, isWay_q h hq (by omega), ob]
      unfold cnt
      by_cases o : wo u q c = true
      · rw [if_pos o, t_X6_one, if_neg (by decide), ob, bd_q, nI_1, nI_1, if_pos o, ← Nat.add_assoc]
        exact ih (c + 1) F (m + 1) (by omega) (by omega)
      · rw [if_neg o, t_X6_one, if_pos rfl, ob, bd_q, nI_1, if_neg o, Nat.zero_add, Int32.add_zero]
        exact ih (c + 1) F m (by omega) (by omega)
  unfold t_X6_manyOpen
  have := main (wys u (qp q)) 0 FU 0 (by omega) (by unfold FU; omega)
  rw [Nat.zero_add] at this
  exact this
/-- the r-th open way, both sides -/
theorem nth_q {L : Nat → Nat} {u : Nat → Int32} {d dm : Dt} {M x0 y : Int32} (h : RU u dm) {q : Nat} (hq : VQ u q) (hM : ∀ c, c < 6 → (((M >>> (nI c &&& 31)) &&& 1 = 1) ↔ (c < wys u (qp q) ∧ wo u q c = true))) : ∀ (n c F r : Nat), c + n = wys u (qp q) → n < F → r < cnt (fun c => wo u q c) n c → ∃ c', c' < wys u (qp q) ∧ wo u q c' = true ∧ lp (fun k x => t_X5_nthOf_4 L d M x0 (fun x2 x3 => k (x2, x3)) x.1 x.2) F (nI r, nI c) = some (nI c') ∧ lp (fun k x => t_X6_nthOpen_5 LM dm (nI q) y (fun x3 x4 => k (x3, x4)) x.1 x.2) F (nI r, nI c) = some (nI c') := by
  have hw6 := wys_lt h.v hq.1
  intro n
  induction n with
  | zero => intro c F r hc hF hr; exact absurd hr (Nat.not_lt_zero _)
  | succ n ih =>
    intro c F r hc hF hr
    obtain ⟨F, rfl⟩ : ∃ G, F = G + 1 := ⟨F - 1, by omega⟩
    have le : ¬ nI (wys u (qp q)) ≤ nI c := nI_ge (by omega) (by omega)
    have l6 : ¬ (6 : Int32) ≤ nI c := nI_ge (b := 6) (by omega) (by decide)
    show ∃ c', _ ∧ _ ∧ t_X5_nthOf_4 L d M x0 (fun x2 x3 => lp _ F (x2, x3)) (nI r) (nI c) = _ ∧ t_X6_nthOpen_5 LM dm (nI q) y (fun x3 x4 => lp _ F (x3, x4)) (nI r) (nI c) = _
    rw [t_X5_nthOf_4, t_X6_nthOpen_5, waysOf_q h hq, ob, if_neg le, if_neg l6, isWay_q h hq (by omega), ob]
    unfold cnt at hr
    have bt := hM c (by omega)
    by_cases o : wo u q c = true
    · rw [if_pos o] at hr
      rw [if_pos (bt.mpr ⟨by omega, o⟩), if_pos o, if_neg (show ¬ (1 : Int32) = 0 by decide)]
      by_cases z : r = 0
      · subst z
        rw [if_pos (show nI 0 = 0 from rfl), if_pos (show nI 0 = 0 from rfl)]
        exact ⟨c, by omega, o, rfl, rfl⟩
      · have hr24 := cnt_le (fun c => wo u q c) n (c + 1)
        have nz : ¬ nI r = 0 := nI_ne0 (by omega) (by omega)
        obtain ⟨r', rfl⟩ : ∃ r', r = r' + 1 := ⟨r - 1, by omega⟩
        have e1 : nI (r' + 1) + -1 = nI r' := by
          rw [← Int32.sub_eq_add_neg]; exact nI_pred r'
        rw [if_neg nz, if_neg nz, t_X5_nthOf_28, t_X6_nthOpen_35, nI_1, e1]
        exact ih (c + 1) F r' (by omega) (by omega) (by omega)
    · rw [if_neg o] at hr
      rw [if_neg (fun z => o (bt.mp z).2), if_neg o, if_pos rfl, t_X5_nthOf_28, t_X6_nthOpen_35, nI_1]
      exact ih (c + 1) F r (by omega) (by omega) (by omega)
