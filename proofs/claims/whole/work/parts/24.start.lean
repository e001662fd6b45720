/-! ===== the worlds behind the constructors ===== -/
def idsB (o : Nat) : List (Nat × Nat × Nat) := (0, o, 0) :: [(1, 32 * o + 2, 0), (1, 32 * o + 3, 0), (1, 32 * o + 4, 0), (1, 32 * o + 5, 0), (1, 32 * o + 6, 0), (1, 32 * o + 7, 0), (1, 32 * o + 8, 0), (1, 32 * o + 9, 0), (1, 32 * o + 10, 0), (1, 32 * o + 11, 0), (1, 32 * o + 12, 0)]
def idsS (o : Nat) : List (Nat × Nat × Nat) := (0, o, 2) :: [(1, 32 * o + 1, 0), (1, 32 * o + 7, 0), (1, 32 * o + 8, 0)]
def idsG (o : Nat) : List (Nat × Nat × Nat) := (0, o, 3) :: [(1, 32 * o + 7, 0), (1, 32 * o + 8, 0), (1, 32 * o + 9, 0), (1, 32 * o + 10, 0), (1, 32 * o + 11, 0), (1, 32 * o + 12, 0), (1, 32 * o + 15, 0)]
def idsP : List (Nat × Nat × Nat) := (0, 1, 1) :: ([] ++ idsB 5 ++ [(1, 32 * 1 + 3, 1)] ++ [(1, 32 * 1 + 7, 0)] ++ [(1, 32 * 1 + 8, 0)])
def idsXa : List (Nat × Nat × Nat) := (0, 0, 4) :: ([] ++ idsP ++ [(1, 32 * 0 + 3, 0)] ++ [(1, 32 * 0 + 8, 0)] ++ [(1, 32 * 0 + 9, 0)] ++ [(1, 32 * 0 + 10, 0)] ++ idsB 6 ++ idsS 2 ++ idsG 9 ++ idsG 10)
def idsXb : List (Nat × Nat × Nat) := idsB 7 ++ idsS 3 ++ (idsB 8 ++ idsS 4)
def idsX : List (Nat × Nat × Nat) := idsXa ++ ((2, 31, 3) :: idsXb)
def idsM : List (Nat × Nat × Nat) := (0, 0, 5) :: [(1, 32 * 0 + 0, 0), (1, 32 * 0 + 1, 2), (1, 32 * 0 + 2, 0), (1, 32 * 0 + 3, 0), (1, 32 * 0 + 12, 0), (1, 32 * 0 + 13, 0), (1, 32 * 0 + 19, 0), (1, 32 * 0 + 20, 0), (1, 32 * 0 + 24, 0), (1, 32 * 0 + 25, 0), (1, 32 * 0 + 26, 0), (1, 32 * 0 + 27, 2), (1, 32 * 0 + 28, 2), (1, 32 * 0 + 29, 0)]
def adB (s : SX0) : Nat → Nat := fun j => match j with
  | 2 => s.1
  | 3 => s.2.1
  | 4 => s.2.2.1
  | 5 => s.2.2.2.1
  | 6 => s.2.2.2.2.1
  | 7 => s.2.2.2.2.2.1
  | 8 => s.2.2.2.2.2.2.1
  | 9 => s.2.2.2.2.2.2.2.1
  | 10 => s.2.2.2.2.2.2.2.2.1
  | 11 => s.2.2.2.2.2.2.2.2.2.1
  | 12 => s.2.2.2.2.2.2.2.2.2.2
  | _ => 0
def adS (s : SX2) : Nat → Nat := fun j => match j with
  | 1 => s.1
  | 7 => s.2.1
  | 8 => s.2.2
  | _ => 0
def adG (s : SX4) : Nat → Nat := fun j => match j with
  | 7 => s.1
  | 8 => s.2.1
  | 9 => s.2.2.1
  | 10 => s.2.2.2.1
  | 11 => s.2.2.2.2.1
  | 12 => s.2.2.2.2.2.1
  | 15 => s.2.2.2.2.2.2
  | _ => 0
def adP (s : SX1) : Nat → Nat := fun j => match j with
  | 3 => s.2.2.1
  | 7 => s.2.2.2.1
  | 8 => s.2.2.2.2
  | _ => 0
def ad0 (s : SX5) : Nat → Nat := fun j => match j with
  | 3 => s.2.2.1
  | 8 => s.2.2.2.1
  | 9 => s.2.2.2.2.1
  | 10 => s.2.2.2.2.2.1
  | _ => 0
def adX (s : SX5) (a : Nat) : Nat := match a / 32 with
  | 0 => ad0 s (a % 32)
  | 1 => adP s.2.1 (a % 32)
  | 2 => adS s.2.2.2.2.2.2.2.2.2.1 (a % 32)
  | 3 => adS s.2.2.2.2.2.2.2.2.2.2.2.2.2.2.2.2.2.2.1 (a % 32)
  | 4 => adS s.2.2.2.2.2.2.2.2.2.2.2.2.2.2.2.2.2.2.2.2.2.2 (a % 32)
  | 5 => adB s.2.1.2.1 (a % 32)
  | 6 => adB s.2.2.2.2.2.2.2.1 (a % 32)
  | 7 => adB s.2.2.2.2.2.2.2.2.2.2.2.2.2.2.2.2.2.1 (a % 32)
  | 8 => adB s.2.2.2.2.2.2.2.2.2.2.2.2.2.2.2.2.2.2.2.2.2.1 (a % 32)
  | 9 => adG s.2.2.2.2.2.2.2.2.2.2.2.1 (a % 32)
  | 10 => adG s.2.2.2.2.2.2.2.2.2.2.2.2.2.1 (a % 32)
  | _ => 0
def yoX (h0 : Nat) (s : SX5) : Nat → Nat := fun o => match o with
  | 0 => h0
  | 1 => s.1
  | 2 => s.2.2.2.2.2.2.2.2.1
  | 3 => s.2.2.2.2.2.2.2.2.2.2.2.2.2.2.2.1
  | 4 => s.2.2.2.2.2.2.2.2.2.2.2.2.2.2.2.2.2.2.2.1
  | 5 => s.2.1.1
  | 6 => s.2.2.2.2.2.2.1
  | 7 => s.2.2.2.2.2.2.2.2.2.2.2.2.2.2.2.2.1
  | 8 => s.2.2.2.2.2.2.2.2.2.2.2.2.2.2.2.2.2.2.2.2.1
  | 9 => s.2.2.2.2.2.2.2.2.2.2.1
  | 10 => s.2.2.2.2.2.2.2.2.2.2.2.2.1
  | 31 => s.2.2.2.2.2.2.2.2.2.2.2.2.2.2.1
  | _ => 0
def lnB  : Nat → Nat := fun j => match j with
  | 2 => 24
  | 3 => 24
  | 4 => 24
  | 5 => 24
  | 6 => 24
  | 7 => 96
  | 8 => 96
  | 9 => 24
  | 10 => 144
  | 11 => 144
  | 12 => 144
  | _ => 0
def lnS  : Nat → Nat := fun j => match j with
  | 1 => 24
  | 7 => 576
  | 8 => 24
  | _ => 0
def lnG  : Nat → Nat := fun j => match j with
  | 7 => 64
  | 8 => 65
  | 9 => 256
  | 10 => 0
  | 11 => 64
  | 12 => 64
  | 15 => 64
  | _ => 0
def lnP  : Nat → Nat := fun j => match j with
  | 3 => 600
  | 7 => 144
  | 8 => 144
  | _ => 0
def ln0  : Nat → Nat := fun j => match j with
  | 3 => 60
  | 8 => 24
  | 9 => 24
  | 10 => 24
  | _ => 0
/-- the lengths of all rows at the start -/
def L0 (a : Nat) : Nat := match a / 32 with
  | 0 => ln0 (a % 32)
  | 1 => lnP (a % 32)
  | 2 => lnS (a % 32)
  | 3 => lnS (a % 32)
  | 4 => lnS (a % 32)
  | 5 => lnB (a % 32)
  | 6 => lnB (a % 32)
  | 7 => lnB (a % 32)
  | 8 => lnB (a % 32)
  | 9 => lnG (a % 32)
  | 10 => lnG (a % 32)
  | _ => 0
def F0x (o j : Nat) : Int32 := match o, j with
  | 5, 1 => 5
  | 6, 1 => 5
  | 7, 1 => 5
  | 8, 1 => 5
  | 1, 2 => -1
  | 9, 13 => -1
  | 10, 13 => -1
  | _, _ => 0
def A0x (a : Nat) : Nat → Int32 := match a with
  | 65 => numF 24
  | 97 => numF 24
  | 129 => numF 24
  | _ => fun _ => 0
/-- the data at the start -/
def d0 : Dt := (F0x, A0x)
def YX (D : va_G) (gc : Nat → ClassId) (h0 : Nat) (s : SX5) (b0 : Nat) (aK aV : Nat → Nat) : Yx := (D, gc, yoX h0 s, idsX, b0, aK, aV)
def adM (s : SX6) : Nat → Nat := fun j => match j with
  | 0 => s.1
  | 1 => s.2.1
  | 2 => s.2.2.1
  | 3 => s.2.2.2.1
  | 12 => s.2.2.2.2.1
  | 13 => s.2.2.2.2.2.1
  | 19 => s.2.2.2.2.2.2.1
  | 20 => s.2.2.2.2.2.2.2.1
  | 24 => s.2.2.2.2.2.2.2.2.1
  | 25 => s.2.2.2.2.2.2.2.2.2.1
  | 26 => s.2.2.2.2.2.2.2.2.2.2.1
  | 27 => s.2.2.2.2.2.2.2.2.2.2.2.1
  | 28 => s.2.2.2.2.2.2.2.2.2.2.2.2.1
  | 29 => s.2.2.2.2.2.2.2.2.2.2.2.2.2
  | _ => 0
def LM  : Nat → Nat := fun j => match j with
  | 0 => 4128
  | 1 => 2
  | 2 => 1376
  | 3 => 600
  | 12 => 200
  | 13 => 200
  | 19 => 61440
  | 20 => 61440
  | 24 => 60
  | 25 => 61440
  | 26 => 61440
  | 27 => 61440
  | 28 => 61440
  | 29 => 24
  | _ => 0
def F0m (o j : Nat) : Int32 := match o, j with
  | 0, 9 => -1
  | 0, 15 => -1
  | 0, 16 => -1
  | _, _ => 0
def A0m (a : Nat) : Nat → Int32 := match a with
  | 0 => upd (upd (fun _ => 0) (ix 1) 5) (ix 3) (-1)
  | _ => fun _ => 0
def m0 : Dt := (F0m, A0m)
def YM (D : va_G) (gc : Nat → ClassId) (h0 : Nat) (b0 : Nat) (aK aV : Nat → Nat) : Yx := (D, gc, (fun _ => h0), idsM, b0, aK, aV)
theorem wlM {D : va_G} {gc : Nat → ClassId} {h0 b0 : Nat} {aK aV : Nat → Nat} {s : SX6} : wl (YM D gc h0 b0 aK aV) (LM, adM s) m0 = X6W gc h0 s := rfl
theorem wlB {Y : Yx} {z : Sh} {d : Dt} {gc : Nat → ClassId} {q o : Nat} {s : SX0} (hc : yc Y = gc) (hq : yo Y o = q) (h0 : gF d o 0 = 0) (h1 : gF d o 1 = 5) (hz : ∀ j, j < 13 → 2 ≤ j → gad z (32 * o + j) = adB s j ∧ gL z (32 * o + j) = lnB j ∧ gA d (32 * o + j) = fun _ => 0) : (idsB o).map (ent Y z d) = X0W gc q s := by
  have z2 := hz 2 (by omega) (by omega)
  have z3 := hz 3 (by omega) (by omega)
  have z4 := hz 4 (by omega) (by omega)
  have z5 := hz 5 (by omega) (by omega)
  have z6 := hz 6 (by omega) (by omega)
  have z7 := hz 7 (by omega) (by omega)
  have z8 := hz 8 (by omega) (by omega)
  have z9 := hz 9 (by omega) (by omega)
  have z10 := hz 10 (by omega) (by omega)
  have z11 := hz 11 (by omega) (by omega)
  have z12 := hz 12 (by omega) (by omega)
  simp only [idsB, List.map, ent, fl, fkind, List.zipIdx, fv, hq, hc, h0, h1, z2, z3, z4, z5, z6, z7, z8, z9, z10, z11, z12]
  rfl
theorem wlS {Y : Yx} {z : Sh} {d : Dt} {gc : Nat → ClassId} {q b o : Nat} {s : SX2} (hc : yc Y = gc) (hq : yo Y o = q) (hb : yo Y (o + 4) = b) (hf : ∀ j, 2 ≤ j → j < 7 → gF d o j = 0) (hz : ∀ j, j = 1 ∨ j = 7 ∨ j = 8 → gad z (32 * o + j) = adS s j ∧ gL z (32 * o + j) = lnS j) (h1 : gA d (32 * o + 1) = numF 24) (h7 : gA d (32 * o + 7) = fun _ => 0) (h8 : gA d (32 * o + 8) = fun _ => 0) : (idsS o).map (ent Y z d) = X2W gc q b s := by
  have z1 := hz 1 (Or.inl rfl)
  have z7 := hz 7 (Or.inr (Or.inl rfl))
  have z8 := hz 8 (Or.inr (Or.inr rfl))
  have f2 := hf 2 (by omega) (by omega)
  have f3 := hf 3 (by omega) (by omega)
  have f4 := hf 4 (by omega) (by omega)
  have f5 := hf 5 (by omega) (by omega)
  have f6 := hf 6 (by omega) (by omega)
  simp only [idsS, List.map, ent, fl, fkind, List.zipIdx, fv, ro, hq, hb, hc, f2, f3, f4, f5, f6, z1, z7, z8, h1, h7, h8]
  rfl
theorem arrV_ext {cA : ClassId} {n : Nat} {f g : Nat → Value} (h : ∀ j, j < n → f j = g j) : arrV cA n f = arrV cA n g := by
  have e : (arrV cA n f).slots = (arrV cA n g).slots := by
    apply Array.ext
    · rw [arrV_size, arrV_size]
    · intro i h1 h2
      rw [arrV_size] at h1
      have a1 := arrV_read cA f h1
      have a2 := arrV_read cA g h1
      rw [Array.getElem?_eq_getElem (by rw [arrV_size]; exact h1)] at a1 a2
      exact Option.some.inj (a1.trans ((congrArg some (h i h1)).trans a2.symm))
  have e2 : arrV cA n f = { cls := cA, slots := (arrV cA n f).slots, vm := .none } := rfl
  have e3 : arrV cA n g = { cls := cA, slots := (arrV cA n g).slots, vm := .none } := rfl
  rw [e2, e3, e]
def ndB : List (Nat × Nat × Nat) → Bool
  | [] => true
  | a :: l => decide (a ∉ l) && ndB l
theorem nd_of : ∀ {l : List (Nat × Nat × Nat)}, ndB l = true → l.Nodup
  | [], _ => List.nodup_nil
  | a :: l, h => by
    simp only [ndB, Bool.and_eq_true, decide_eq_true_eq] at h
    exact List.nodup_cons.mpr ⟨h.1, nd_of h.2⟩
set_option maxRecDepth 20000 in
def layB (I : List (Nat × Nat × Nat)) : Bool := I.all (fun q => !(q.1 == 0) || (List.range 32).all (fun j => match (fkind q.2.2)[j]? with
  | some 1 => decide ((1, 32 * q.2.1 + j, aty q.2.2 j) ∈ I)
  | some 2 => decide ((0, ro q.2.2 q.2.1 j, oty q.2.2 j) ∈ I)
  | some 3 => decide ((2, 31, 3) ∈ I)
  | _ => true))
theorem lay_of {I : List (Nat × Nat × Nat)} (h : layB I = true) : ∀ q ∈ I, q.1 = 0 → ∀ j, j < 32 → ((fkind q.2.2)[j]? = some 1 → (1, 32 * q.2.1 + j, aty q.2.2 j) ∈ I) ∧ ((fkind q.2.2)[j]? = some 2 → (0, ro q.2.2 q.2.1 j, oty q.2.2 j) ∈ I) ∧ ((fkind q.2.2)[j]? = some 3 → (2, 31, 3) ∈ I) := by
  intro q hq h0 j hj
  have h1 := List.all_eq_true.mp h q hq
  simp only [h0, beq_self_eq_true, Bool.not_true, Bool.false_or] at h1
  have h2 := List.all_eq_true.mp h1 j (List.mem_range.mpr hj)
  refine ⟨fun e => ?_, fun e => ?_, fun e => ?_⟩ <;> rw [e] at h2 <;> simpa using h2
set_option maxRecDepth 20000 in
theorem wc_5 {D : va_G} {gc : Nat → ClassId} {h0 b0 : Nat} {aK aV : Nat → Nat} {s : SX5} : (idsB 6).map (ent (YX D gc h0 s b0 aK aV) (L0, adX s) d0) = X0W gc s.2.2.2.2.2.2.1 s.2.2.2.2.2.2.2.1 := rfl
set_option maxRecDepth 20000 in
theorem wc_6 {D : va_G} {gc : Nat → ClassId} {h0 b0 : Nat} {aK aV : Nat → Nat} {s : SX5} : (idsS 2).map (ent (YX D gc h0 s b0 aK aV) (L0, adX s) d0) = X2W gc s.2.2.2.2.2.2.2.2.1 s.2.2.2.2.2.2.1 s.2.2.2.2.2.2.2.2.2.1 := rfl
set_option maxRecDepth 20000 in
theorem wc_7 {D : va_G} {gc : Nat → ClassId} {h0 b0 : Nat} {aK aV : Nat → Nat} {s : SX5} : (idsG 9).map (ent (YX D gc h0 s b0 aK aV) (L0, adX s) d0) = X4W gc s.2.2.2.2.2.2.2.2.2.2.1 s.2.2.2.2.2.2.1 s.2.2.2.2.2.2.2.2.2.2.2.1 := rfl
set_option maxRecDepth 20000 in
theorem wc_8 {D : va_G} {gc : Nat → ClassId} {h0 b0 : Nat} {aK aV : Nat → Nat} {s : SX5} : (idsG 10).map (ent (YX D gc h0 s b0 aK aV) (L0, adX s) d0) = X4W gc s.2.2.2.2.2.2.2.2.2.2.2.2.1 s.2.2.2.2.2.2.1 s.2.2.2.2.2.2.2.2.2.2.2.2.2.1 := rfl
set_option maxRecDepth 20000 in
theorem wc_b5 {D : va_G} {gc : Nat → ClassId} {h0 b0 : Nat} {aK aV : Nat → Nat} {s : SX5} : (idsB 5).map (ent (YX D gc h0 s b0 aK aV) (L0, adX s) d0) = X0W gc s.2.1.1 s.2.1.2.1 := rfl
set_option maxRecDepth 20000 in
theorem wc_0 {D : va_G} {gc : Nat → ClassId} {h0 b0 : Nat} {aK aV : Nat → Nat} {s : SX5} : idsP.map (ent (YX D gc h0 s b0 aK aV) (L0, adX s) d0) = X1W gc s.1 s.2.1 := by
  rw [idsP, List.map_cons, List.map_append, List.map_append, List.map_append, List.map_append, wc_b5]
  rfl
set_option maxRecDepth 20000 in
theorem wd_0 {D : va_G} {gc : Nat → ClassId} {h0 b0 : Nat} {aK aV : Nat → Nat} {s : SX5} : (idsB 7).map (ent (YX D gc h0 s b0 aK aV) (L0, adX s) d0) = X0W gc s.2.2.2.2.2.2.2.2.2.2.2.2.2.2.2.2.1 s.2.2.2.2.2.2.2.2.2.2.2.2.2.2.2.2.2.1 := rfl
set_option maxRecDepth 20000 in
theorem wd_1 {D : va_G} {gc : Nat → ClassId} {h0 b0 : Nat} {aK aV : Nat → Nat} {s : SX5} : (idsS 3).map (ent (YX D gc h0 s b0 aK aV) (L0, adX s) d0) = X2W gc s.2.2.2.2.2.2.2.2.2.2.2.2.2.2.2.1 s.2.2.2.2.2.2.2.2.2.2.2.2.2.2.2.2.1 s.2.2.2.2.2.2.2.2.2.2.2.2.2.2.2.2.2.2.1 := rfl
set_option maxRecDepth 20000 in
theorem wd_2 {D : va_G} {gc : Nat → ClassId} {h0 b0 : Nat} {aK aV : Nat → Nat} {s : SX5} : (idsB 8).map (ent (YX D gc h0 s b0 aK aV) (L0, adX s) d0) = X0W gc s.2.2.2.2.2.2.2.2.2.2.2.2.2.2.2.2.2.2.2.2.1 s.2.2.2.2.2.2.2.2.2.2.2.2.2.2.2.2.2.2.2.2.2.1 := rfl
set_option maxRecDepth 20000 in
theorem wd_3 {D : va_G} {gc : Nat → ClassId} {h0 b0 : Nat} {aK aV : Nat → Nat} {s : SX5} : (idsS 4).map (ent (YX D gc h0 s b0 aK aV) (L0, adX s) d0) = X2W gc s.2.2.2.2.2.2.2.2.2.2.2.2.2.2.2.2.2.2.2.1 s.2.2.2.2.2.2.2.2.2.2.2.2.2.2.2.2.2.2.2.2.1 s.2.2.2.2.2.2.2.2.2.2.2.2.2.2.2.2.2.2.2.2.2.2 := rfl
set_option maxRecDepth 20000 in
theorem wlXa {D : va_G} {gc : Nat → ClassId} {h0 b0 : Nat} {aK aV : Nat → Nat} {s : SX5} : idsXa.map (ent (YX D gc h0 s b0 aK aV) (L0, adX s) d0) = (h0, .inr (4, [.ref s.1, .ref s.2.2.2.2.2.2.2.2.1, .ref s.2.2.2.2.2.2.2.2.2.2.2.2.2.2.1, .ref s.2.2.1, .int 0, .ref s.2.2.2.2.2.2.2.2.2.2.1, .ref s.2.2.2.2.2.2.2.2.2.2.2.2.1, .int 0, .ref s.2.2.2.1, .ref s.2.2.2.2.1, .ref s.2.2.2.2.2.1])) :: ([] ++ X1W gc s.1 s.2.1 ++ [(s.2.2.1, .inl (gc 0, 60, .inl (fun _ => 0)))] ++ [(s.2.2.2.1, .inl (gc 0, 24, .inl (fun _ => 0)))] ++ [(s.2.2.2.2.1, .inl (gc 0, 24, .inl (fun _ => 0)))] ++ [(s.2.2.2.2.2.1, .inl (gc 0, 24, .inl (fun _ => 0)))] ++ X0W gc s.2.2.2.2.2.2.1 s.2.2.2.2.2.2.2.1 ++ X2W gc s.2.2.2.2.2.2.2.2.1 s.2.2.2.2.2.2.1 s.2.2.2.2.2.2.2.2.2.1 ++ X4W gc s.2.2.2.2.2.2.2.2.2.2.1 s.2.2.2.2.2.2.1 s.2.2.2.2.2.2.2.2.2.2.2.1 ++ X4W gc s.2.2.2.2.2.2.2.2.2.2.2.2.1 s.2.2.2.2.2.2.1 s.2.2.2.2.2.2.2.2.2.2.2.2.2.1) := by
  rw [idsXa, List.map_cons]
  simp only [List.map_append, wc_5, wc_6, wc_7, wc_8, wc_0]
  rfl
set_option maxRecDepth 20000 in
theorem wlXb {D : va_G} {gc : Nat → ClassId} {h0 b0 : Nat} {aK aV : Nat → Nat} {s : SX5} : idsXb.map (ent (YX D gc h0 s b0 aK aV) (L0, adX s) d0) = (((X0W gc s.2.2.2.2.2.2.2.2.2.2.2.2.2.2.2.2.1 s.2.2.2.2.2.2.2.2.2.2.2.2.2.2.2.2.2.1) ++ (X2W gc s.2.2.2.2.2.2.2.2.2.2.2.2.2.2.2.1 s.2.2.2.2.2.2.2.2.2.2.2.2.2.2.2.2.1 s.2.2.2.2.2.2.2.2.2.2.2.2.2.2.2.2.2.2.1)) ++ ((X0W gc s.2.2.2.2.2.2.2.2.2.2.2.2.2.2.2.2.2.2.2.2.1 s.2.2.2.2.2.2.2.2.2.2.2.2.2.2.2.2.2.2.2.2.2.1) ++ (X2W gc s.2.2.2.2.2.2.2.2.2.2.2.2.2.2.2.2.2.2.2.1 s.2.2.2.2.2.2.2.2.2.2.2.2.2.2.2.2.2.2.2.2.1 s.2.2.2.2.2.2.2.2.2.2.2.2.2.2.2.2.2.2.2.2.2.2))) := by
  rw [idsXb]
  simp only [List.map_append, wd_0, wd_1, wd_2, wd_3]
theorem startX {D : va_G} {gc : Nat → ClassId} {h0 b0 : Nat} {aK aV : Nat → Nat} {s : SX5} {H : Heap} (hP : va_P D vwCl (X5W gc h0 s) H) : va_P D vwCl (wl (YX D gc h0 s b0 aK aV) (L0, adX s) d0) H := by
  have e1 : wl (YX D gc h0 s b0 aK aV) (L0, adX s) d0 = idsXa.map (ent (YX D gc h0 s b0 aK aV) (L0, adX s) d0) ++ (ent (YX D gc h0 s b0 aK aV) (L0, adX s) d0 (2, 31, 3) :: idsXb.map (ent (YX D gc h0 s b0 aK aV) (L0, adX s) d0)) := by
    show idsX.map _ = _
    rw [idsX, List.map_append, List.map_cons]
  have e2 : X5W gc h0 s = idsXa.map (ent (YX D gc h0 s b0 aK aV) (L0, adX s) d0) ++ (imr gc s.2.2.2.2.2.2.2.2.2.2.2.2.2.2.1 (va_up (va_up (fun _ => none) (ix 0) (some s.2.2.2.2.2.2.2.2.2.2.2.2.2.2.2.1)) (ix 1) (some s.2.2.2.2.2.2.2.2.2.2.2.2.2.2.2.2.2.2.2.1)) :: idsXb.map (ent (YX D gc h0 s b0 aK aV) (L0, adX s) d0)) := by
    rw [wlXa, wlXb]
    rfl
  rw [e1]
  rw [e2] at hP
  intro k e he
  rcases Nat.lt_trichotomy k (idsXa.map (ent (YX D gc h0 s b0 aK aV) (L0, adX s) d0)).length with hk | hk | hk
  · rw [List.getElem?_append_left hk] at he
    exact hP k e (by rw [List.getElem?_append_left hk]; exact he)
  · subst hk
    rw [List.getElem?_append_right (Nat.le_refl _), Nat.sub_self] at he
    have he : ent (YX D gc h0 s b0 aK aV) (L0, adX s) d0 (2, 31, 3) = e := Option.some.inj he
    subst he
    have h1 := hP _ _ (by rw [List.getElem?_append_right (Nat.le_refl _), Nat.sub_self]; rfl)
    refine Eq.trans h1 (congrArg some ?_)
    refine (vp_cell_q _ _ _).trans (Eq.trans ?_ (vp_cell_q _ _ _).symm)
    exact arrV_ext (fun j hj => by
      rcases (show j = 0 ∨ j = 1 by omega) with rfl | rfl <;> rfl)
  · rw [List.getElem?_append_right (by omega)] at he
    refine hP k e ?_
    rw [List.getElem?_append_right (by omega)]
    obtain ⟨n, hn⟩ : ∃ n, k - (idsXa.map (ent (YX D gc h0 s b0 aK aV) (L0, adX s) d0)).length = n + 1 := ⟨k - (idsXa.map (ent (YX D gc h0 s b0 aK aV) (L0, adX s) d0)).length - 1, by omega⟩
    rw [hn] at he ⊢
    exact he
theorem adrX {D : va_G} {gc : Nat → ClassId} {h0 b0 : Nat} {aK aV : Nat → Nat} {s : SX5} : adr (YX D gc h0 s b0 aK aV) (L0, adX s) = (X5W gc h0 s).map (fun q => q.1) := by
  have e1 : wl (YX D gc h0 s b0 aK aV) (L0, adX s) d0 = idsXa.map (ent (YX D gc h0 s b0 aK aV) (L0, adX s) d0) ++ (ent (YX D gc h0 s b0 aK aV) (L0, adX s) d0 (2, 31, 3) :: idsXb.map (ent (YX D gc h0 s b0 aK aV) (L0, adX s) d0)) := by
    show idsX.map _ = _
    rw [idsX, List.map_append, List.map_cons]
  have e2 : X5W gc h0 s = idsXa.map (ent (YX D gc h0 s b0 aK aV) (L0, adX s) d0) ++ (imr gc s.2.2.2.2.2.2.2.2.2.2.2.2.2.2.1 (va_up (va_up (fun _ => none) (ix 0) (some s.2.2.2.2.2.2.2.2.2.2.2.2.2.2.2.1)) (ix 1) (some s.2.2.2.2.2.2.2.2.2.2.2.2.2.2.2.2.2.2.2.1)) :: idsXb.map (ent (YX D gc h0 s b0 aK aV) (L0, adX s) d0)) := by
    rw [wlXa, wlXb]
    rfl
  rw [← wl_adr _ _ d0, e1, e2, List.map_append, List.map_append, List.map_cons, List.map_cons]
  rfl
set_option maxRecDepth 20000 in
theorem layX {D : va_G} {gc : Nat → ClassId} {h0 b0 : Nat} {aK aV : Nat → Nat} {s : SX5} : LAY (YX D gc h0 s b0 aK aV) := by
  show idsX.Nodup ∧ (∀ q ∈ idsX, ∀ q' ∈ idsX, q.1 = q'.1 → q.2.1 = q'.2.1 → q = q') ∧ (∀ q ∈ idsX, q.1 = 0 → ∀ j, j < 32 → ((fkind q.2.2)[j]? = some 1 → (1, 32 * q.2.1 + j, aty q.2.2 j) ∈ idsX) ∧ ((fkind q.2.2)[j]? = some 2 → (0, ro q.2.2 q.2.1 j, oty q.2.2 j) ∈ idsX) ∧ ((fkind q.2.2)[j]? = some 3 → (2, 31, 3) ∈ idsX)) ∧ ((2, 31, 3) ∈ idsX → (0, 3, 2) ∈ idsX ∧ (0, 4, 2) ∈ idsX)
  exact ⟨nd_of (by decide +kernel), by decide +kernel, lay_of (by decide +kernel), by decide +kernel⟩
set_option maxRecDepth 20000 in
theorem layM {D : va_G} {gc : Nat → ClassId} {h0 b0 : Nat} {aK aV : Nat → Nat} : LAY (YM D gc h0 b0 aK aV) := by
  show idsM.Nodup ∧ (∀ q ∈ idsM, ∀ q' ∈ idsM, q.1 = q'.1 → q.2.1 = q'.2.1 → q = q') ∧ (∀ q ∈ idsM, q.1 = 0 → ∀ j, j < 32 → ((fkind q.2.2)[j]? = some 1 → (1, 32 * q.2.1 + j, aty q.2.2 j) ∈ idsM) ∧ ((fkind q.2.2)[j]? = some 2 → (0, ro q.2.2 q.2.1 j, oty q.2.2 j) ∈ idsM) ∧ ((fkind q.2.2)[j]? = some 3 → (2, 31, 3) ∈ idsM)) ∧ ((2, 31, 3) ∈ idsM → (0, 3, 2) ∈ idsM ∧ (0, 4, 2) ∈ idsM)
  exact ⟨nd_of (by decide +kernel), by decide +kernel, lay_of (by decide +kernel), by decide +kernel⟩
