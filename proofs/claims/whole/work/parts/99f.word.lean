/-! ===== words and numbers ===== -/
def byt (s i : Nat) : Nat := ix ((sbyt.getD s []).getD i 0)
def bI (b : Bool) : Int32 := if b = true then 1 else 0
theorem bI_t {b : Bool} (h : b = true) : bI b = 1 := if_pos h
theorem bI_f {b : Bool} (h : b = false) : bI b = 0 := if_neg (by rw [h]; decide)
def wd (n : Nat) (T : Nat → Nat) (a s : Nat) : Bool := decide (wln n T a = slen.getD s 0 ∧ ∀ i, i < slen.getD s 0 → T (a + i) = byt s i)
theorem byt_all : ∀ s, s < 12 → slen.getD s 0 ≤ 7 ∧ ∀ i, i < slen.getD s 0 → (sbyt.getD s []).getD i 0 = nI (byt s i) ∧ byt s i < 128 := by decide +kernel
theorem isWord_c1 {n s : Nat} {T : Nat → Nat} {L : Nat → Nat} {d : Dt} (ht : TFc n T L d) : ∀ (f x F c : Nat), x + f = n → f < F → lp (fun k x => t_X1_isWord_7 L d s (fun x2 x3 => k (x2, x3)) x.1 x.2) F (nI c, nI x) = t_X1_isWord_46 L d s (nI (c + rnl (tLt T) f x)) := by
  have n6 := ht.1
  intro f
  induction f with
  | zero =>
    intro x F c hx hF
    obtain ⟨F, rfl⟩ : ∃ G, F = G + 1 := ⟨F - 1, by omega⟩
    have le : nI n ≤ nI x := nI_le (by omega) (by omega)
    show t_X1_isWord_7 L d s (fun x2 x3 => lp _ F (x2, x3)) (nI c) (nI x) = _
    rw [t_X1_isWord_7, ht.2.1, if_pos le]
    rfl
  | succ f ih =>
    intro x F c hx hF
    obtain ⟨F, rfl⟩ : ∃ G, F = G + 1 := ⟨F - 1, by omega⟩
    have le : ¬ nI n ≤ nI x := nI_ge (by omega) (by omega)
    obtain ⟨t1, t2⟩ := ht.2.2.2 x (by omega)
    have sg := (sgn_all _ t1).2.1
    show t_X1_isWord_7 L d s (fun x2 x3 => lp _ F (x2, x3)) (nI c) (nI x) = _
    rw [t_X1_isWord_7, ht.2.1, if_neg le, ht.2.2.1, gdi (show x < 600 by omega) (by omega), ix_nI (by omega), t2]
    unfold rnl
    by_cases z : 97 ≤ T x ∧ T x ≤ 122
    · have nz : ¬ (sgn (T x) < 97 ∨ 122 < sgn (T x)) := fun y => sg.mp y z
      rw [if_neg (fun y => nz (.inl y)), gdi (show x < 600 by omega) (by omega), if_neg (fun y => nz (.inr y)), if_pos (show tLt T x = true from decide_eq_true z), nI_1, nI_1]
      refine (ih (x + 1) F (c + 1) (by omega) (by omega)).trans ?_
      rw [show c + 1 + rnl (tLt T) f (x + 1) = c + (rnl (tLt T) f (x + 1) + 1) by omega]
    · rw [if_neg (show ¬ tLt T x = true from fun y => z (of_decide_eq_true y)), Nat.add_zero]
      rcases sg.mpr z with y | y
      · rw [if_pos y]
      · by_cases y2 : sgn (T x) < 97
        · rw [if_pos y2]
        · rw [if_neg y2, gdi (show x < 600 by omega) (by omega), if_pos y]
theorem isWord_c2 {n s a : Nat} {T : Nat → Nat} {L : Nat → Nat} {d : Dt} (ht : TFc n T L d) (hs : s < 12) (h4 : gF d 1 4 = nI a) (hn : a + slen.getD s 0 ≤ n) : ∀ (f i F : Nat), i + f = slen.getD s 0 → f < F → (∀ j, j < i → T (a + j) = byt s j) → lp (fun k x => t_X1_isWord_58 L d s (fun x2 x3 => k (x2, x3)) x.1 x.2) F (nI (slen.getD s 0), nI i) = some (bI (decide (∀ j, j < slen.getD s 0 → T (a + j) = byt s j))) := by
  have n6 := ht.1
  obtain ⟨b1, b2⟩ := byt_all s hs
  intro f
  induction f with
  | zero =>
    intro i F hx hF hj
    obtain ⟨F, rfl⟩ : ∃ G, F = G + 1 := ⟨F - 1, by omega⟩
    have le : nI (slen.getD s 0) ≤ nI i := nI_le (by omega) (by omega)
    show t_X1_isWord_58 L d s (fun x2 x3 => lp _ F (x2, x3)) (nI (slen.getD s 0)) (nI i) = _
    rw [t_X1_isWord_58, if_pos le, bI_t (decide_eq_true (fun j h => hj j (by omega)))]
  | succ f ih =>
    intro i F hx hF hj
    obtain ⟨F, rfl⟩ : ∃ G, F = G + 1 := ⟨F - 1, by omega⟩
    have le : ¬ nI (slen.getD s 0) ≤ nI i := nI_ge (by omega) (by omega)
    obtain ⟨t1, t2⟩ := ht.2.2.2 (a + i) (by omega)
    obtain ⟨c1, c2⟩ := b2 i (by omega)
    show t_X1_isWord_58 L d s (fun x2 x3 => lp _ F (x2, x3)) (nI (slen.getD s 0)) (nI i) = _
    rw [t_X1_isWord_58, if_neg le, h4, nI_add, ht.2.2.1, gdi (show a + i < 600 by omega) (by omega), ix_nI (by omega), t2]
    unfold t_J0_charAt_5068e
    rw [gdi (show i < slen.getD s 0 by omega) (by omega), ob, ix_nI (by omega), c1]
    by_cases z : T (a + i) = byt s i
    · rw [if_pos ((sgn_eq t1 c2).mpr z), nI_1]
      exact ih (i + 1) F (by omega) (by omega) (fun j h => by
        by_cases y : j = i
        · rw [y]; exact z
        · exact hj j (by omega))
    · rw [if_neg (fun y => z ((sgn_eq t1 c2).mp y)), bI_f (decide_eq_false (fun y => z (y i (by omega))))]
theorem isWord_c {n s a : Nat} {T : Nat → Nat} {L : Nat → Nat} {d : Dt} (ht : TFc n T L d) (hs : s < 12) (h4 : gF d 1 4 = nI a) (ha : a ≤ n) : t_X1_isWord L d s = some (bI (wd n T a s)) := by
  have n6 := ht.1
  obtain ⟨b1, b2⟩ := byt_all s hs
  have hw := wln_le (T := T) ha
  unfold t_X1_isWord
  rw [bd_q, h4]
  have e := isWord_c1 (s := s) ht (n - a) a FU 0 (by omega) (by unfold FU; omega)
  rw [Nat.zero_add] at e
  refine Eq.trans e ?_
  show t_X1_isWord_46 L d s (nI (wln n T a)) = _
  unfold t_X1_isWord_46 t_J0_length_8abf5
  rw [ob]
  by_cases z : wln n T a = slen.getD s 0
  · rw [if_pos (by rw [z]), z]
    refine (isWord_c2 ht hs h4 (by omega) (slen.getD s 0) 0 FU (by omega) (by unfold FU; omega) (fun j h => absurd h (Nat.not_lt_zero _))).trans ?_
    unfold wd
    rw [z]
    by_cases y : ∀ j, j < slen.getD s 0 → T (a + j) = byt s j
    · rw [decide_eq_true y, decide_eq_true ⟨rfl, y⟩]
    · rw [decide_eq_false y, decide_eq_false (fun q => y q.2)]
  · have ne : ¬ nI (wln n T a) = nI (slen.getD s 0) := fun y => z (nI_inj (by omega) (by omega) y)
    rw [if_neg ne]
    unfold wd
    rw [bI_f (decide_eq_false (fun q => z q.1))]
/-- the reference's words -/
def CWd (n : Nat) (T : Nat → Nat) (dm : Dt) (a : Nat) : Prop := a ≤ n ∧ gF dm 0 6 = nI a ∧ gF dm 0 7 = nI (wln n T a)
theorem isWord_m {n a m : Nat} {T : Nat → Nat} {dm : Dt} {k : Nat → Nat} (ht : TFm n T dm) (hc : CWd n T dm a) (hm : m ≤ 5) (hk : ∀ i, i < m → k i < 128) : t_X6_isWord LM dm (nI m) (nI (k 0)) (nI (k 1)) (nI (k 2)) (nI (k 3)) (nI (k 4)) = some (bI (decide (wln n T a = m ∧ ∀ i, i < m → T (a + i) = k i))) := by
  have n6 := ht.1
  obtain ⟨c1, c2, c3⟩ := hc
  have hw := wln_le (T := T) c1
  have out : ∀ (F i : Nat) (x7 : Int32), x7 = 0 → lp (fun k' x => t_X6_isWord_18 LM dm (nI m) (nI (k 0)) (nI (k 1)) (nI (k 2)) (nI (k 3)) (nI (k 4)) (fun x7 x8 => k' (x7, x8)) x.1 x.2) (F + 1) (x7, nI i) = some 0 := by
    intro F i x7 h0
    subst h0
    show t_X6_isWord_18 LM dm (nI m) (nI (k 0)) (nI (k 1)) (nI (k 2)) (nI (k 3)) (nI (k 4)) (fun x7 x8 => lp _ F (x7, x8)) 0 (nI i) = _
    rw [t_X6_isWord_18, t_X6_isWord_100, if_pos rfl, if_pos rfl]
    split <;> rfl
  have main : m ≤ wln n T a → ∀ (f i F : Nat), i + f = m → f + 1 < F → (∀ j, j < i → T (a + j) = k j) → lp (fun k' x => t_X6_isWord_18 LM dm (nI m) (nI (k 0)) (nI (k 1)) (nI (k 2)) (nI (k 3)) (nI (k 4)) (fun x7 x8 => k' (x7, x8)) x.1 x.2) F (1, nI i) = some (bI (decide (wln n T a = m ∧ ∀ i, i < m → T (a + i) = k i))) := by
    intro hle f
    induction f with
    | zero =>
      intro i F hi hF hj
      obtain ⟨F, rfl⟩ : ∃ G, F = G + 1 := ⟨F - 1, by omega⟩
      have le : nI m ≤ nI i := nI_le (by omega) (by omega)
      show t_X6_isWord_18 LM dm (nI m) (nI (k 0)) (nI (k 1)) (nI (k 2)) (nI (k 3)) (nI (k 4)) (fun x7 x8 => lp _ F (x7, x8)) 1 (nI i) = _
      rw [t_X6_isWord_18, if_pos le, t_X6_isWord_100, if_neg (by decide), c3]
      by_cases z : wln n T a = m
      · rw [if_pos (by rw [z]), bI_t (decide_eq_true ⟨z, fun j h => hj j (by omega)⟩)]
      · rw [if_neg (fun y => z (nI_inj (by omega) (by omega) y)), bI_f (decide_eq_false (fun q => z q.1))]
    | succ f ih =>
      intro i F hi hF hj
      obtain ⟨F, rfl⟩ : ∃ G, F = G + 2 := ⟨F - 2, by omega⟩
      have le : ¬ nI m ≤ nI i := nI_ge (by omega) (by omega)
      obtain ⟨t1, t2⟩ := ht.2.2 (a + i) (by omega)
      have ki := hk i (by omega)
      have step : t_X6_isWord_84 LM dm (nI m) (nI (k 0)) (nI (k 1)) (nI (k 2)) (nI (k 3)) (nI (k 4)) (fun x7 x8 => lp (fun k' x => t_X6_isWord_18 LM dm (nI m) (nI (k 0)) (nI (k 1)) (nI (k 2)) (nI (k 3)) (nI (k 4)) (fun x7 x8 => k' (x7, x8)) x.1 x.2) (F + 1) (x7, x8)) (nI i) (nI (k i)) (nI (T (a + i))) = some (bI (decide (wln n T a = m ∧ ∀ i, i < m → T (a + i) = k i))) := by
        unfold t_X6_isWord_84
        by_cases z : T (a + i) = k i
        · rw [if_pos (by rw [z]), t_X6_isWord_92, nI_1]
          exact ih (i + 1) (F + 1) (by omega) (by omega) (fun j h => by
            by_cases y : j = i
            · rw [y]; exact z
            · exact hj j (by omega))
        · rw [if_neg (fun y => z (nI_inj (by omega) (by omega) y)), t_X6_isWord_92, nI_1, bI_f (decide_eq_false (fun q => z (q.2 i (by omega))))]
          exact out F (i + 1) 0 rfl
      show t_X6_isWord_18 LM dm (nI m) (nI (k 0)) (nI (k 1)) (nI (k 2)) (nI (k 3)) (nI (k 4)) (fun x7 x8 => lp _ (F + 1) (x7, x8)) 1 (nI i) = _
      rw [t_X6_isWord_18, if_neg le, if_neg (by decide), c2, nI_add, LM3, gdi (show a + i < 600 by omega) (by omega), ix_nI (by omega), t2]
      have : i = 0 ∨ i = 1 ∨ i = 2 ∨ i = 3 ∨ i = 4 := by omega
      rcases this with e | e | e | e | e
      · subst e; rw [if_pos (show nI 0 = 0 from rfl)]; exact step
      · subst e; rw [if_neg (by decide), if_pos (show nI 1 = 1 from rfl)]; exact step
      · subst e; rw [if_neg (by decide), if_neg (by decide), if_pos (show nI 2 = 2 from rfl)]; exact step
      · subst e; rw [if_neg (by decide), if_neg (by decide), if_neg (by decide), if_pos (show nI 3 = 3 from rfl)]; exact step
      · subst e; rw [if_neg (by decide), if_neg (by decide), if_neg (by decide), if_neg (by decide)]; exact step
  unfold t_X6_isWord t_X6_isWord_13
  rw [c3]
  by_cases z : wln n T a < m
  · rw [if_pos (nI_lt (by omega) (by omega)), bI_f (decide_eq_false (fun q => by omega))]
    obtain ⟨F9, hFU⟩ : ∃ G, FU = G + 1 := ⟨FU - 1, by unfold FU; omega⟩
    rw [hFU]
    exact out F9 0 0 rfl
  · rw [if_neg (nI_nlt (by omega) (by omega))]
    exact main (by omega) m 0 FU (by omega) (by unfold FU; omega) (fun j h => absurd h (Nat.not_lt_zero _))
theorem isWord_s {n a s : Nat} {T : Nat → Nat} {dm : Dt} {p1 p2 p3 p4 p5 p6 : Int32} (ht : TFm n T dm) (hc : CWd n T dm a) (hs : s < 12) (hm : slen.getD s 0 ≤ 5) (e1 : p1 = nI (slen.getD s 0)) (e2 : p2 = nI (byt s 0)) (e3 : p3 = nI (byt s 1)) (e4 : p4 = nI (byt s 2)) (e5 : p5 = nI (byt s 3)) (e6 : p6 = nI (byt s 4)) : t_X6_isWord LM dm p1 p2 p3 p4 p5 p6 = some (bI (wd n T a s)) := by
  subst e1 e2 e3 e4 e5 e6
  exact isWord_m ht hc hm (fun i hi => ((byt_all s hs).2 i hi).2)
theorem w_part {n a : Nat} {T : Nat → Nat} {dm : Dt} (ht : TFm n T dm) (hc : CWd n T dm a) : t_X6_isWord LM dm 4 112 97 114 116 0 = some (bI (wd n T a 1)) := isWord_s ht hc (by decide) (by decide +kernel) (by decide +kernel) (by decide +kernel) (by decide +kernel) (by decide +kernel) (by decide +kernel) (by decide +kernel)
theorem w_take {n a : Nat} {T : Nat → Nat} {dm : Dt} (ht : TFm n T dm) (hc : CWd n T dm a) : t_X6_isWord LM dm 4 116 97 107 101 0 = some (bI (wd n T a 2)) := isWord_s ht hc (by decide) (by decide +kernel) (by decide +kernel) (by decide +kernel) (by decide +kernel) (by decide +kernel) (by decide +kernel) (by decide +kernel)
theorem w_drop {n a : Nat} {T : Nat → Nat} {dm : Dt} (ht : TFm n T dm) (hc : CWd n T dm a) : t_X6_isWord LM dm 4 100 114 111 112 0 = some (bI (wd n T a 3)) := isWord_s ht hc (by decide) (by decide +kernel) (by decide +kernel) (by decide +kernel) (by decide +kernel) (by decide +kernel) (by decide +kernel) (by decide +kernel)
theorem w_hurt {n a : Nat} {T : Nat → Nat} {dm : Dt} (ht : TFm n T dm) (hc : CWd n T dm a) : t_X6_isWord LM dm 4 104 117 114 116 0 = some (bI (wd n T a 4)) := isWord_s ht hc (by decide) (by decide +kernel) (by decide +kernel) (by decide +kernel) (by decide +kernel) (by decide +kernel) (by decide +kernel) (by decide +kernel)
theorem w_heal {n a : Nat} {T : Nat → Nat} {dm : Dt} (ht : TFm n T dm) (hc : CWd n T dm a) : t_X6_isWord LM dm 4 104 101 97 108 0 = some (bI (wd n T a 5)) := isWord_s ht hc (by decide) (by decide +kernel) (by decide +kernel) (by decide +kernel) (by decide +kernel) (by decide +kernel) (by decide +kernel) (by decide +kernel)
theorem w_win {n a : Nat} {T : Nat → Nat} {dm : Dt} (ht : TFm n T dm) (hc : CWd n T dm a) : t_X6_isWord LM dm 3 119 105 110 0 0 = some (bI (wd n T a 6)) := isWord_s ht hc (by decide) (by decide +kernel) (by decide +kernel) (by decide +kernel) (by decide +kernel) (by decide +kernel) (by decide +kernel) (by decide +kernel)
theorem w_die {n a : Nat} {T : Nat → Nat} {dm : Dt} (ht : TFm n T dm) (hc : CWd n T dm a) : t_X6_isWord LM dm 3 100 105 101 0 0 = some (bI (wd n T a 7)) := isWord_s ht hc (by decide) (by decide +kernel) (by decide +kernel) (by decide +kernel) (by decide +kernel) (by decide +kernel) (by decide +kernel) (by decide +kernel)
theorem w_roll {n a : Nat} {T : Nat → Nat} {dm : Dt} (ht : TFm n T dm) (hc : CWd n T dm a) : t_X6_isWord LM dm 4 114 111 108 108 0 = some (bI (wd n T a 8)) := isWord_s ht hc (by decide) (by decide +kernel) (by decide +kernel) (by decide +kernel) (by decide +kernel) (by decide +kernel) (by decide +kernel) (by decide +kernel)
theorem w_go {n a : Nat} {T : Nat → Nat} {dm : Dt} (ht : TFm n T dm) (hc : CWd n T dm a) : t_X6_isWord LM dm 2 103 111 0 0 0 = some (bI (wd n T a 9)) := isWord_s ht hc (by decide) (by decide +kernel) (by decide +kernel) (by decide +kernel) (by decide +kernel) (by decide +kernel) (by decide +kernel) (by decide +kernel)
theorem w_with {n a : Nat} {T : Nat → Nat} {dm : Dt} (ht : TFm n T dm) (hc : CWd n T dm a) : t_X6_isWord LM dm 4 119 105 116 104 0 = some (bI (wd n T a 10)) := isWord_s ht hc (by decide) (by decide +kernel) (by decide +kernel) (by decide +kernel) (by decide +kernel) (by decide +kernel) (by decide +kernel) (by decide +kernel)
/-- which effect stands here -/
def kdn (n : Nat) (T : Nat → Nat) (a : Nat) : Int32 := if wd n T a 2 = true then 0 else if wd n T a 3 = true then 1 else if wd n T a 4 = true then 2 else if wd n T a 5 = true then 3 else -1
theorem bI_if {α : Type} (b : Bool) (x y : α) : (if bI b = 0 then x else y) = if b = true then y else x := by
  cases b <;> rfl
theorem kind_m {n a : Nat} {T : Nat → Nat} {dm : Dt} (ht : TFm n T dm) (hc : CWd n T dm a) : t_X6_kindHere LM dm = some (kdn n T a) := by
  unfold t_X6_kindHere kdn
  rw [w_take ht hc, ob, bI_if, w_drop ht hc, ob, bI_if, w_hurt ht hc, ob, bI_if, w_heal ht hc, ob, bI_if]
  split <;> (try rfl)
  split <;> (try rfl)
  split <;> (try rfl)
  split <;> rfl
theorem kind_c {n a : Nat} {T : Nat → Nat} {L : Nat → Nat} {d : Dt} (ht : TFc n T L d) (h4 : gF d 1 4 = nI a) (ha : a ≤ n) : t_X1_effectHere L d = some (kdn n T a) := by
  unfold t_X1_effectHere kdn
  rw [isWord_c ht (by decide) h4 ha, ob, bI_if, isWord_c ht (by decide) h4 ha, ob, bI_if, isWord_c ht (by decide) h4 ha, ob, bI_if, isWord_c ht (by decide) h4 ha, ob, bI_if]
  split <;> (try rfl)
  split <;> (try rfl)
  split <;> (try rfl)
  split <;> rfl
