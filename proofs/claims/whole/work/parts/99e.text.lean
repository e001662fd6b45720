/-! ===== the text: blanks, words, digits ===== -/
def rnl (P : Nat → Bool) : Nat → Nat → Nat
  | 0, _ => 0
  | f + 1, a => if P a = true then rnl P f (a + 1) + 1 else 0
theorem rnl_le (P : Nat → Bool) : ∀ f a, rnl P f a ≤ f := by
  intro f
  induction f with
  | zero => intro a; exact Nat.le_refl _
  | succ f ih =>
    intro a
    unfold rnl
    have := ih (a + 1)
    split <;> omega
def tBl (T : Nat → Nat) (i : Nat) : Bool := decide (T i = 32)
def tLt (T : Nat → Nat) (i : Nat) : Bool := decide (97 ≤ T i ∧ T i ≤ 122)
def tDg (T : Nat → Nat) (i : Nat) : Bool := decide (48 ≤ T i ∧ T i ≤ 57)
def skp (n : Nat) (T : Nat → Nat) (a : Nat) : Nat := a + rnl (tBl T) (n - a) a
def wln (n : Nat) (T : Nat → Nat) (a : Nat) : Nat := rnl (tLt T) (n - a) a
def dln (n : Nat) (T : Nat → Nat) (a : Nat) : Nat := rnl (tDg T) (n - a) a
theorem skp_le {n : Nat} {T : Nat → Nat} {a : Nat} (h : a ≤ n) : a ≤ skp n T a ∧ skp n T a ≤ n := by
  have := rnl_le (tBl T) (n - a) a
  unfold skp
  omega
theorem wln_le {n : Nat} {T : Nat → Nat} {a : Nat} (h : a ≤ n) : a + wln n T a ≤ n := by
  have := rnl_le (tLt T) (n - a) a
  unfold wln
  omega
theorem dln_le {n : Nat} {T : Nat → Nat} {a : Nat} (h : a ≤ n) : a + dln n T a ≤ n := by
  have := rnl_le (tDg T) (n - a) a
  unfold dln
  omega
theorem rnl_end (P : Nat → Bool) : ∀ f a, rnl P f a < f → P (a + rnl P f a) = false := by
  intro f
  induction f with
  | zero => intro a h; exact absurd h (Nat.not_lt_zero _)
  | succ f ih =>
    intro a h
    unfold rnl at h ⊢
    by_cases c : P a = true
    · rw [if_pos c] at h ⊢
      have := ih (a + 1) (by omega)
      rw [show a + (rnl P f (a + 1) + 1) = a + 1 + rnl P f (a + 1) by omega]
      exact this
    · rw [if_neg c, Nat.add_zero]
      cases e : P a with
      | true => exact absurd e c
      | false => rfl
theorem skp_nb {n : Nat} {T : Nat → Nat} {a : Nat} (h : skp n T a < n) : T (skp n T a) ≠ 32 := by
  have := rnl_end (tBl T) (n - a) a (by unfold skp at h; omega)
  unfold skp
  unfold tBl at this
  exact of_decide_eq_false this
theorem skp_fix {n : Nat} {T : Nat → Nat} {a : Nat} (h : a ≤ n) (hb : a < n → T a ≠ 32) : skp n T a = a := by
  unfold skp
  by_cases c : a < n
  · obtain ⟨f, hf⟩ : ∃ f, n - a = f + 1 := ⟨n - a - 1, by omega⟩
    rw [hf]
    unfold rnl
    rw [if_neg (by unfold tBl; rw [decide_eq_true_eq]; exact hb c)]
    rfl
  · rw [show n - a = 0 by omega]; rfl
theorem skp_skp {n : Nat} {T : Nat → Nat} {a : Nat} (h : a ≤ n) : skp n T (skp n T a) = skp n T a := skp_fix (skp_le h).2 (fun z => skp_nb z)
/-- bytes as the class has them -/
theorem sgn_all : ∀ b, b < 256 → ((sgn b = 32 ↔ b = 32) ∧ (sgn b = 59 ↔ b = 59)) ∧ ((sgn b < 97 ∨ 122 < sgn b) ↔ ¬ (97 ≤ b ∧ b ≤ 122)) ∧ ((sgn b < 48 ∨ 57 < sgn b) ↔ ¬ (48 ≤ b ∧ b ≤ 57)) ∧ ((48 ≤ b ∧ b ≤ 57) → sgn b = nI b) := by decide +kernel
theorem sgn_lo : ∀ b, b < 128 → sgn b = nI b := by decide +kernel
theorem sgn_hi : ∀ b, b < 128 → sgn (128 + b) < 0 := by decide +kernel
theorem sgn_eq {b k : Nat} (hb : b < 256) (hk : k < 128) : sgn b = nI k ↔ b = k := by
  by_cases c : b < 128
  · rw [sgn_lo b c]
    exact ⟨fun z => nI_inj (by omega) (by omega) z, fun z => by rw [z]⟩
  · obtain ⟨b', rfl⟩ : ∃ b', b = 128 + b' := ⟨b - 128, by omega⟩
    refine ⟨fun z => ?_, fun z => by omega⟩
    have := sgn_hi b' (by omega)
    rw [z] at this
    exact absurd this (nI_pos (by omega))
def TFc (n : Nat) (T : Nat → Nat) (L : Nat → Nat) (d : Dt) : Prop := n ≤ 600 ∧ gF d 1 1 = nI n ∧ L (32 * 1 + 3) = 600 ∧ ∀ i, i < n → T i < 256 ∧ gA d (32 * 1 + 3) i = sgn (T i)
def TFm (n : Nat) (T : Nat → Nat) (dm : Dt) : Prop := n ≤ 600 ∧ gF dm 0 4 = nI n ∧ ∀ i, i < n → T i < 256 ∧ gA dm (32 * 0 + 3) i = nI (T i)
def KCu (d d' : Dt) : Prop := (∀ o j, ¬ (o = 1 ∧ j = 4) → gF d' o j = gF d o j) ∧ ∀ a i, gA d' a i = gA d a i
def KMu (d d' : Dt) : Prop := (∀ j, j ≠ 5 → j ≠ 6 → j ≠ 7 → gF d' 0 j = gF d 0 j) ∧ ∀ a i, gA d' a i = gA d a i
theorem KCu.rf (d : Dt) : KCu d d := ⟨fun _ _ _ => rfl, fun _ _ => rfl⟩
theorem KMu.rf (d : Dt) : KMu d d := ⟨fun _ _ _ _ => rfl, fun _ _ => rfl⟩
theorem KCu.tr {d d' d'' : Dt} (h : KCu d d') (h2 : KCu d' d'') : KCu d d'' := ⟨fun o j q => (h2.1 o j q).trans (h.1 o j q), fun a i => (h2.2 a i).trans (h.2 a i)⟩
theorem KMu.tr {d d' d'' : Dt} (h : KMu d d') (h2 : KMu d' d'') : KMu d d'' := ⟨fun j a b c => (h2.1 j a b c).trans (h.1 j a b c), fun a i => (h2.2 a i).trans (h.2 a i)⟩
theorem KCu.s (d : Dt) (v : Int32) : KCu d (sF d 1 4 v) := ⟨fun _ _ h => gF_sFn h, fun _ _ => rfl⟩
theorem KMu.s5 (d : Dt) (v : Int32) : KMu d (sF d 0 5 v) := ⟨fun _ h _ _ => gF_sFn (fun z => h z.2), fun _ _ => rfl⟩
theorem KMu.s6 (d : Dt) (v : Int32) : KMu d (sF d 0 6 v) := ⟨fun _ _ h _ => gF_sFn (fun z => h z.2), fun _ _ => rfl⟩
theorem KMu.s7 (d : Dt) (v : Int32) : KMu d (sF d 0 7 v) := ⟨fun _ _ _ h => gF_sFn (fun z => h z.2), fun _ _ => rfl⟩
theorem TFc.k {n : Nat} {T : Nat → Nat} {L : Nat → Nat} {d d' : Dt} (h : TFc n T L d) (k : KCu d d') : TFc n T L d' := ⟨h.1, (k.1 1 1 (by omega)).trans h.2.1, h.2.2.1, fun i hi => ⟨(h.2.2.2 i hi).1, (k.2 _ i).trans (h.2.2.2 i hi).2⟩⟩
theorem TFm.k {n : Nat} {T : Nat → Nat} {d d' : Dt} (h : TFm n T d) (k : KMu d d') : TFm n T d' := ⟨h.1, (k.1 4 (by decide) (by decide) (by decide)).trans h.2.1, fun i hi => ⟨(h.2.2 i hi).1, (k.2 _ i).trans (h.2.2 i hi).2⟩⟩
theorem LM2 : LM (32 * 0 + 2) = 1376 := rfl
theorem LM12 : LM (32 * 0 + 12) = 200 := rfl
theorem LM13 : LM (32 * 0 + 13) = 200 := rfl
theorem pass_lp {n : Nat} {T : Nat → Nat} {L : Nat → Nat} {p : Int32} : ∀ (f x F : Nat) (d : Dt), x + f = n → f < F → gF d 1 4 = nI x → TFc n T L d → ∃ d', lp (fun k x => t_X1_pass_15 L p (fun x2 d => k (x2, d)) x.1 x.2) F (nI x, d) = some d' ∧ gF d' 1 4 = nI (x + rnl (tBl T) f x) ∧ KCu d d' := by
  intro f
  induction f with
  | zero =>
    intro x F d hx hF h4 ht
    obtain ⟨F, rfl⟩ : ∃ G, F = G + 1 := ⟨F - 1, by omega⟩
    have n6 := ht.1
    have le : nI n ≤ nI x := nI_le (by omega) (by omega)
    refine ⟨d, ?_, h4, KCu.rf d⟩
    show t_X1_pass_15 L p (fun x2 d => lp _ F (x2, d)) (nI x) d = _
    rw [t_X1_pass_15, ht.2.1, if_pos le]
  | succ f ih =>
    intro x F d hx hF h4 ht
    obtain ⟨F, rfl⟩ : ∃ G, F = G + 1 := ⟨F - 1, by omega⟩
    have n6 := ht.1
    have le : ¬ nI n ≤ nI x := nI_ge (by omega) (by omega)
    obtain ⟨t1, t2⟩ := ht.2.2.2 x (by omega)
    show ∃ d', t_X1_pass_15 L p (fun x2 d => lp _ F (x2, d)) (nI x) d = _ ∧ _
    rw [t_X1_pass_15, ht.2.1, if_neg le, ht.2.2.1, gdi (show x < 600 by omega) (by omega), ix_nI (by omega), t2]
    unfold rnl
    by_cases c : T x = 32
    · rw [if_pos ((sgn_all _ t1).1.1.mpr c), bd_q, h4, nI_1, if_pos (show tBl T x = true from decide_eq_true c)]
      obtain ⟨d', a1, a2, a3⟩ := ih (x + 1) F (sF d 1 4 (nI (x + 1))) (by omega) (by omega) (gF_sF1 _ _ _ _) (ht.k (KCu.s _ _))
      exact ⟨d', a1, by rw [a2]; congr 1; omega, (KCu.s _ _).tr a3⟩
    · rw [if_neg (fun z => c ((sgn_all _ t1).1.1.mp z)), if_neg (show ¬ tBl T x = true from fun z => c (of_decide_eq_true z))]
      exact ⟨d, rfl, h4, KCu.rf d⟩
theorem pass_q {n : Nat} {T : Nat → Nat} {L : Nat → Nat} {d : Dt} {a m : Nat} (ht : TFc n T L d) (h4 : gF d 1 4 = nI a) (hm : a + m ≤ n) : ∃ d', t_X1_pass L d (nI m) = some d' ∧ gF d' 1 4 = nI (skp n T (a + m)) ∧ KCu d d' := by
  have n6 := ht.1
  unfold t_X1_pass
  rw [bd_q, h4, nI_add, bd_q, gF_sF1]
  obtain ⟨d', a1, a2, a3⟩ := pass_lp (T := T) (L := L) (p := nI m) (n - (a + m)) (a + m) FU (sF d 1 4 (nI (a + m))) (by omega) (by unfold FU; omega) (gF_sF1 _ _ _ _) (ht.k (KCu.s _ _))
  exact ⟨d', a1, a2, (KCu.s _ _).tr a3⟩
/-- the reference: on to what is no blank -/
theorem here_lp {n : Nat} {T : Nat → Nat} : ∀ (f x F : Nat) (d : Dt), x + f = n → f < F → gF d 0 5 = nI x → TFm n T d → ∃ d', lp (fun k x => t_X6_here_0 LM (fun d => k d) x) F d = some (if x + rnl (tBl T) f x < n then nI (T (x + rnl (tBl T) f x)) else -1, d') ∧ gF d' 0 5 = nI (x + rnl (tBl T) f x) ∧ KMu d d' := by
  intro f
  induction f with
  | zero =>
    intro x F d hx hF h4 ht
    obtain ⟨F, rfl⟩ : ∃ G, F = G + 1 := ⟨F - 1, by omega⟩
    have n6 := ht.1
    have le : nI n ≤ nI x := nI_le (by omega) (by omega)
    refine ⟨d, ?_, h4, KMu.rf d⟩
    show t_X6_here_0 LM (fun d => lp _ F d) d = _
    rw [t_X6_here_0, ht.2.1, h4, if_pos le, t_X6_here_38, ht.2.1, h4, if_pos le]
    unfold rnl
    rw [if_neg (by omega)]
  | succ f ih =>
    intro x F d hx hF h4 ht
    obtain ⟨F, rfl⟩ : ∃ G, F = G + 1 := ⟨F - 1, by omega⟩
    have n6 := ht.1
    have le : ¬ nI n ≤ nI x := nI_ge (by omega) (by omega)
    obtain ⟨t1, t2⟩ := ht.2.2 x (by omega)
    show ∃ d', t_X6_here_0 LM (fun d => lp _ F d) d = _ ∧ _
    rw [t_X6_here_0, ht.2.1, h4, if_neg le, LM3, gdi (show x < 600 by omega) (by omega), ix_nI (by omega), t2]
    unfold rnl
    by_cases c : T x = 32
    · rw [c, if_pos (show nI 32 = 32 from rfl), bd_q, nI_1, if_pos (show tBl T x = true from decide_eq_true c)]
      obtain ⟨d', a1, a2, a3⟩ := ih (x + 1) F (sF d 0 5 (nI (x + 1))) (by omega) (by omega) (gF_sF1 _ _ _ _) (ht.k (KMu.s5 _ _))
      rw [show x + (rnl (tBl T) f (x + 1) + 1) = x + 1 + rnl (tBl T) f (x + 1) by omega]
      exact ⟨d', a1, a2, (KMu.s5 _ _).tr a3⟩
    · have ne : ¬ nI (T x) = 32 := fun z => c (nI_inj (by omega) (by decide) z)
      rw [if_neg ne, if_neg (show ¬ tBl T x = true from fun z => c (of_decide_eq_true z)), t_X6_here_38, ht.2.1, h4, if_neg le, LM3, gdi (show x < 600 by omega) (by omega), ix_nI (by omega), t2, Nat.add_zero, if_pos (by omega)]
      exact ⟨d, rfl, h4, KMu.rf d⟩
theorem here_q {n : Nat} {T : Nat → Nat} {d : Dt} {c : Nat} (ht : TFm n T d) (h5 : gF d 0 5 = nI c) (hc : c ≤ n) : ∃ d', t_X6_here LM d = some (if skp n T c < n then nI (T (skp n T c)) else -1, d') ∧ gF d' 0 5 = nI (skp n T c) ∧ KMu d d' :=
  here_lp (n - c) c FU d (by omega) (by have := ht.1; unfold FU; omega) h5 ht
theorem in_N {L : Nat → Nat} {d : Dt} (x a b : Int32) : t_X6_in L d x.toInt64 a.toInt64 b.toInt64 = some (if a.toInt ≤ x.toInt ∧ x.toInt ≤ b.toInt then 1 else 0) := by
  rw [in_I, Int32.toInt_toInt64, Int32.toInt_toInt64, Int32.toInt_toInt64]
theorem in_b {L : Nat → Nat} {d : Dt} {b lo hi : Nat} {l h : Int64} (hb : b < 2 ^ 31) (hl : l.toInt = (lo : Int)) (hh : h.toInt = (hi : Int)) : t_X6_in L d (nI b).toInt64 l h = some (if lo ≤ b ∧ b ≤ hi then 1 else 0) := by
  rw [in_I, Int32.toInt_toInt64, nI_toInt hb, hl, hh]
  by_cases c : lo ≤ b ∧ b ≤ hi
  · rw [if_pos c, if_pos (by omega)]
  · rw [if_neg c, if_neg (by omega)]
theorem word_lp {n s : Nat} {T : Nat → Nat} : ∀ (f x F : Nat) (d : Dt), x + f = n → f < F → s ≤ x → gF d 0 5 = nI x → gF d 0 6 = nI s → TFm n T d → ∃ d', lp (fun k x => t_X6_takeWord_13 LM (fun d => k d) x) F d = some d' ∧ gF d' 0 5 = nI (x + rnl (tLt T) f x) ∧ gF d' 0 6 = nI s ∧ gF d' 0 7 = nI (x + rnl (tLt T) f x - s) ∧ KMu d d' := by
  intro f
  induction f with
  | zero =>
    intro x F d hx hF hs h4 h6 ht
    obtain ⟨F, rfl⟩ : ∃ G, F = G + 1 := ⟨F - 1, by omega⟩
    have n6 := ht.1
    have le : nI n ≤ nI x := nI_le (by omega) (by omega)
    show ∃ d', t_X6_takeWord_13 LM (fun d => lp _ F d) d = _ ∧ _
    rw [t_X6_takeWord_13, ht.2.1, h4, if_pos le, t_X6_takeWord_59, bd_q, h4, h6, nI_subN hs]
    exact ⟨_, rfl, by rw [gF_sFn (by omega)]; exact h4, by rw [gF_sFn (by omega)]; exact h6, gF_sF1 _ _ _ _, KMu.s7 _ _⟩
  | succ f ih =>
    intro x F d hx hF hs h4 h6 ht
    obtain ⟨F, rfl⟩ : ∃ G, F = G + 1 := ⟨F - 1, by omega⟩
    have n6 := ht.1
    have le : ¬ nI n ≤ nI x := nI_ge (by omega) (by omega)
    obtain ⟨t1, t2⟩ := ht.2.2 x (by omega)
    show ∃ d', t_X6_takeWord_13 LM (fun d => lp _ F d) d = _ ∧ _
    rw [t_X6_takeWord_13, ht.2.1, h4, if_neg le, LM3, gdi (show x < 600 by omega) (by omega), ix_nI (by omega), t2, in_b (lo := 97) (hi := 122) (by omega) rfl rfl, ob]
    unfold rnl
    by_cases c : 97 ≤ T x ∧ T x ≤ 122
    · rw [if_pos c, if_neg (show ¬ (1 : Int32) = 0 by decide), bd_q, nI_1, if_pos (show tLt T x = true from decide_eq_true c)]
      obtain ⟨d', a1, a2, a3, a4, a5⟩ := ih (x + 1) F (sF d 0 5 (nI (x + 1))) (by omega) (by omega) (by omega) (gF_sF1 _ _ _ _) (by rw [gF_sFn (by omega)]; exact h6) (ht.k (KMu.s5 _ _))
      rw [show x + (rnl (tLt T) f (x + 1) + 1) = x + 1 + rnl (tLt T) f (x + 1) by omega]
      exact ⟨d', a1, a2, a3, a4, (KMu.s5 _ _).tr a5⟩
    · rw [if_neg c, if_pos rfl, if_neg (show ¬ tLt T x = true from fun z => c (of_decide_eq_true z)), t_X6_takeWord_59, bd_q, h4, h6, nI_subN hs]
      exact ⟨_, rfl, by rw [gF_sFn (by omega)]; exact h4, by rw [gF_sFn (by omega)]; exact h6, gF_sF1 _ _ _ _, KMu.s7 _ _⟩
theorem takeWord_q {n : Nat} {T : Nat → Nat} {d : Dt} {c : Nat} (ht : TFm n T d) (h5 : gF d 0 5 = nI c) (hc : c ≤ n) : ∃ d', t_X6_takeWord LM d = some d' ∧ gF d' 0 5 = nI (skp n T c + wln n T (skp n T c)) ∧ gF d' 0 6 = nI (skp n T c) ∧ gF d' 0 7 = nI (wln n T (skp n T c)) ∧ KMu d d' := by
  obtain ⟨d1, a1, a2, a3⟩ := here_q ht h5 hc
  have hk := skp_le (T := T) hc
  unfold t_X6_takeWord
  rw [a1, ob, bd_q, a2]
  have n6 := ht.1
  obtain ⟨d', b1, b2, b3, b4, b5⟩ := word_lp (T := T) (s := skp n T c) (n - skp n T c) (skp n T c) FU (sF d1 0 6 (nI (skp n T c))) (by omega) (by unfold FU; omega) (Nat.le_refl _) (by rw [gF_sFn (by omega)]; exact a2) (gF_sF1 _ _ _ _) ((ht.k a3).k (KMu.s6 _ _))
  refine ⟨d', b1, b2, b3, ?_, (a3.tr (KMu.s6 _ _)).tr b5⟩
  rw [b4]
  congr 1
  unfold wln
  omega
