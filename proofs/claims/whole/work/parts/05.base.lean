/-! ===== the world as registers: data (fields, rows), shape (lengths, addresses), layout ===== -/
/-- data: field j of object o; element i of row a (row a = 32 * o + j is what field j of object o refers to) -/
abbrev Dt : Type := (Nat → Nat → Int32) × (Nat → Nat → Int32)
/-- shape: the length of a row, its address -/
abbrev Sh : Type := (Nat → Nat) × (Nat → Nat)
def gF (d : Dt) (o j : Nat) : Int32 := d.1 o j
def gA (d : Dt) (a i : Nat) : Int32 := d.2 a i
def sF (d : Dt) (o j : Nat) (v : Int32) : Dt := (fun o' j' => if o' = o ∧ j' = j then v else d.1 o' j', d.2)
def sA (d : Dt) (a i : Nat) (v : Int32) : Dt := (d.1, fun a' i' => if a' = a ∧ i' = i then v else d.2 a' i')
def sR (d : Dt) (a : Nat) (f : Nat → Int32) : Dt := (d.1, fun a' i' => if a' = a then f i' else d.2 a' i')
abbrev gL (z : Sh) (a : Nat) : Nat := z.1 a
def gad (z : Sh) (a : Nat) : Nat := z.2 a
/-- an index as the machine takes it; whether it is inside -/
def ix (i : Int32) : Nat := i.toNatClampNeg
def inb (i : Int32) (n : Nat) : Bool := decide (0 ≤ i.toInt) && decide (i.toInt < (n : Int))
def isB (v : Int32) : Bool := decide (v = 0) || decide (v = 1)
/-- a step that wants something -/
def gd {α : Type} (b : Bool) (x : Option α) : Option α := match b with
  | true => x
  | false => none
theorem gd_some {α : Type} {b : Bool} {x : Option α} {r : α} (h : gd b x = some r) : b = true ∧ x = some r := by
  cases b with
  | true => exact ⟨rfl, h⟩
  | false => cases h
theorem bi_some {α β : Type} {x : Option α} {f : α → Option β} {r : β} (h : x.bind f = some r) : ∃ y, x = some y ∧ f y = some r := by
  cases x with
  | none => cases h
  | some y => exact ⟨y, rfl, h⟩
def bd {α β : Type} (e : α) (f : α → β) : β := f e
theorem bd_e {α β : Type} {e : α} {f : α → β} {r : β} (h : bd e f = r) : ∀ x, x = e → f x = r := fun x hx => by rw [hx]; exact h
theorem if_t {α : Type} {c : Prop} [Decidable c] {a b r : α} (h : (if c then a else b) = r) (hc : c) : a = r := by rw [if_pos hc] at h; exact h
theorem if_f {α : Type} {c : Prop} [Decidable c] {a b r : α} (h : (if c then a else b) = r) (hc : ¬ c) : b = r := by rw [if_neg hc] at h; exact h
theorem inb_vp {i : Int32} {n : Nat} (h : inb i n = true) : vp_in i n := by
  rw [vp_in_iff]
  simpa [inb] using h
theorem isB_or {v : Int32} (h : isB v = true) : v = 0 ∨ v = 1 := by simpa [isB] using h
/-- kinds of fields, by class (its number in vwCl): 0 a number, 1 a row, 2 an object, 3 the row of images -/
def fkind : Nat → List Nat
  | 0 => [0, 0, 1, 1, 1, 1, 1, 1, 1, 1, 1, 1, 1]
  | 1 => [2, 0, 0, 1, 0, 0, 0, 1, 1, 0]
  | 2 => [2, 1, 0, 0, 0, 0, 0, 1, 1]
  | 3 => [0, 0, 0, 2, 0, 0, 0, 1, 1, 1, 1, 1, 1, 0, 0, 1, 0]
  | 4 => [2, 2, 3, 1, 0, 2, 2, 0, 1, 1, 1]
  | 5 => [1, 1, 1, 1, 0, 0, 0, 0, 0, 0, 0, 0, 1, 1, 0, 0, 0, 0, 0, 1, 1, 0, 0, 0, 1, 1, 1, 1, 1, 1]
  | _ => []
/-- which object a field of kind 2 refers to -/
def ro (ci o j : Nat) : Nat := match ci with
  | 1 => 5
  | 2 => o + 4
  | 3 => 6
  | 4 => (match j with | 0 => 1 | 1 => 2 | 5 => 9 | _ => 10)
  | _ => 0
/-- its class -/
def oty (ci j : Nat) : Nat := match ci with
  | 4 => (match j with | 0 => 1 | 1 => 2 | 5 => 3 | _ => 3)
  | _ => 0
/-- the type of a row: 0 int, 1 byte, 2 boolean -/
def aty (ci j : Nat) : Nat := match ci with
  | 1 => (match j with | 3 => 1 | _ => 0)
  | 5 => (match j with | 1 => 2 | 27 => 2 | 28 => 2 | _ => 0)
  | _ => 0
/-- a layout: class numbers and slots; the classes of rows; the objects' addresses; what there is (tag 0 object, 1 row, 2 row of images; number; class); the first address that may be ours; the addresses of the texts and of their bytes -/
abbrev Yx : Type := va_G × (Nat → ClassId) × (Nat → Nat) × List (Nat × Nat × Nat) × Nat × (Nat → Nat) × (Nat → Nat)
def yD (Y : Yx) : va_G := Y.1
def yc (Y : Yx) : Nat → ClassId := Y.2.1
def yo (Y : Yx) : Nat → Nat := Y.2.2.1
def yI (Y : Yx) : List (Nat × Nat × Nat) := Y.2.2.2.1
def yB (Y : Yx) : Nat := Y.2.2.2.2.1
def yK (Y : Yx) : Nat → Nat := Y.2.2.2.2.2.1
def yV (Y : Yx) : Nat → Nat := Y.2.2.2.2.2.2
def ytys (Y : Yx) : List (ClassId × FieldType) := [(yc Y 0, .int), (yc Y 1, .byte), (yc Y 2, .boolean), (yc Y 3, .object "ChoiceBook$Situation")]
def fv (Y : Yx) (z : Sh) (d : Dt) (ci o j k : Nat) : Value := match k with
  | 0 => .int (gF d o j)
  | 1 => .ref (gad z (32 * o + j))
  | 2 => .ref (yo Y (ro ci o j))
  | _ => .ref (yo Y 31)
def fl (Y : Yx) (z : Sh) (d : Dt) (ci o : Nat) : List Value := (fkind ci).zipIdx.map (fun q => fv Y z d ci o q.2 q.1)
def ent (Y : Yx) (z : Sh) (d : Dt) (q : Nat × Nat × Nat) : Nat × va_E := match q.1 with
  | 0 => (yo Y q.2.1, .inr (q.2.2, fl Y z d q.2.2 q.2.1))
  | 1 => (gad z q.2.1, .inl (yc Y q.2.2, gL z q.2.1, .inl (gA d q.2.1)))
  | _ => (yo Y q.2.1, .inl (yc Y 3, 2, .inr (.inr (.inr (.inr (fun i => some (yo Y (3 + i))))))))
def wl (Y : Yx) (z : Sh) (d : Dt) : va_W := (yI Y).map (ent Y z d)
def ad1 (Y : Yx) (z : Sh) (q : Nat × Nat × Nat) : Nat := match q.1 with
  | 0 => yo Y q.2.1
  | 1 => gad z q.2.1
  | _ => yo Y q.2.1
def adr (Y : Yx) (z : Sh) : List Nat := (yI Y).map (ad1 Y z)
theorem ent_1 (Y : Yx) (z : Sh) (d : Dt) (q : Nat × Nat × Nat) : (ent Y z d q).1 = ad1 Y z q := by
  obtain ⟨t, i, c⟩ := q
  match t with
  | 0 => rfl
  | 1 => rfl
  | t + 2 => rfl
theorem wl_adr (Y : Yx) (z : Sh) (d : Dt) : (wl Y z d).map (fun q => q.1) = adr Y z := by
  simp only [wl, adr, List.map_map]
  exact List.map_congr_left (fun q _ => ent_1 Y z d q)
theorem wl_D {Y : Yx} {z : Sh} {A : Nat → Prop} (d : Dt) (hn : (adr Y z).Nodup) (hA : ∀ q ∈ adr Y z, A q) : va_D A (wl Y z d) := by
  have e := wl_adr Y z d
  refine ⟨fun i j p q hi hj hpq => ?_, fun k q hk => hA _ ?_⟩
  · have h1 : (adr Y z)[i]? = some p.1 := by rw [← e, List.getElem?_map, hi]; rfl
    have h2 : (adr Y z)[j]? = some q.1 := by rw [← e, List.getElem?_map, hj]; rfl
    exact (List.getElem?_inj (List.getElem?_eq_some_iff.mp h1).1 hn).mp (h1.trans (by rw [hpq, h2]))
  · rw [← e]
    exact List.mem_map.mpr ⟨q, List.mem_of_getElem? hk, rfl⟩
theorem wl_get {Y : Yx} (z : Sh) (d : Dt) {q : Nat × Nat × Nat} (h : q ∈ yI Y) : ∃ k : Nat, (yI Y)[k]? = some q ∧ (wl Y z d)[k]? = some (ent Y z d q) := by
  obtain ⟨k, hk⟩ := List.getElem?_of_mem h
  exact ⟨k, hk, by rw [wl, List.getElem?_map, hk]; rfl⟩
theorem map_set' {α β : Type} {l : List α} {f g : α → β} {p : Nat} {q0 : α} {e : β} (hn : l.Nodup) (hp : l[p]? = some q0) (he : g q0 = e) (ho : ∀ q ∈ l, q ≠ q0 → g q = f q) : (l.map f).set p e = l.map g := by
  apply List.ext_getElem?
  intro i
  have hl : p < l.length := (List.getElem?_eq_some_iff.mp hp).1
  by_cases hi : i = p
  · subst hi
    rw [List.getElem?_set_self (by rw [List.length_map]; exact hl), List.getElem?_map, hp]
    simp [he]
  · rw [List.getElem?_set_ne (Ne.symm hi), List.getElem?_map, List.getElem?_map]
    cases hq : l[i]? with
    | none => rfl
    | some q =>
      have hne : q ≠ q0 := fun h => hi ((List.getElem?_inj (List.getElem?_eq_some_iff.mp hq).1 hn).mp (hq.trans (by rw [h, hp])))
      simp [ho q (List.mem_of_getElem? hq) hne]
theorem fl_len (Y : Yx) (z : Sh) (d : Dt) (ci o : Nat) : (fl Y z d ci o).length = (fkind ci).length := by simp [fl]
theorem fl_get (Y : Yx) (z : Sh) (d : Dt) {ci j k : Nat} (o : Nat) (h : (fkind ci)[j]? = some k) : (fl Y z d ci o)[j]? = some (fv Y z d ci o j k) := by
  simp [fl, List.getElem?_map, List.getElem?_zipIdx, h]
theorem fv_sF {Y : Yx} {z : Sh} {d : Dt} {ci o j v o' j' k : Nat} {x : Int32} (h : ¬ (o' = o ∧ j' = j)) : fv Y z (sF d o j x) ci o' j' k = fv Y z d ci o' j' k := by
  match k with
  | 0 => simp [fv, gF, sF, h]
  | 1 => rfl
  | 2 => rfl
  | k + 3 => rfl
theorem fl_sF {Y : Yx} {z : Sh} {d : Dt} {ci o j : Nat} {x : Int32} (h : (fkind ci)[j]? = some 0) : (fl Y z d ci o).set j (.int x) = fl Y z (sF d o j x) ci o := by
  apply List.ext_getElem?
  intro i
  have hl : j < (fkind ci).length := (List.getElem?_eq_some_iff.mp h).1
  by_cases hi : i = j
  · subst hi
    rw [List.getElem?_set_self (by rw [fl_len]; exact hl), fl_get Y z _ o h]
    simp [fv, gF, sF]
  · rw [List.getElem?_set_ne (Ne.symm hi)]
    cases hk : (fkind ci)[i]? with
    | none => simp [fl, List.getElem?_zipIdx, hk]
    | some k =>
      rw [fl_get Y z _ o hk, fl_get Y z _ o hk, fv_sF (v := 0)]
      intro hc
      exact hi hc.2
theorem fl_sF' {Y : Yx} {z : Sh} {d : Dt} {ci o o' j : Nat} {x : Int32} (h : o' ≠ o) : fl Y z (sF d o j x) ci o' = fl Y z d ci o' := by
  apply List.ext_getElem?
  intro i
  cases hk : (fkind ci)[i]? with
  | none => simp [fl, List.getElem?_zipIdx, hk]
  | some k =>
    rw [fl_get Y z _ o' hk, fl_get Y z _ o' hk, fv_sF (v := 0)]
    intro hc
    exact h hc.1
/-- a layout that is whole: what a field refers to is in it; no number twice -/
def LAY (Y : Yx) : Prop := (yI Y).Nodup ∧ (∀ q ∈ yI Y, ∀ q' ∈ yI Y, q.1 = q'.1 → q.2.1 = q'.2.1 → q = q') ∧ (∀ q ∈ yI Y, q.1 = 0 → ∀ j, j < 32 → ((fkind q.2.2)[j]? = some 1 → (1, 32 * q.2.1 + j, aty q.2.2 j) ∈ yI Y) ∧ ((fkind q.2.2)[j]? = some 2 → (0, ro q.2.2 q.2.1 j, oty q.2.2 j) ∈ yI Y) ∧ ((fkind q.2.2)[j]? = some 3 → (2, 31, 3) ∈ yI Y)) ∧ ((2, 31, 3) ∈ yI Y → (0, 3, 2) ∈ yI Y ∧ (0, 4, 2) ∈ yI Y)
theorem fk_lt {ci j k : Nat} (h : (fkind ci)[j]? = some k) : j < 32 := by
  have hl := (List.getElem?_eq_some_iff.mp h).1
  have h2 : (fkind ci).length ≤ 30 := by
    match ci with
    | 0 => decide
    | 1 => decide
    | 2 => decide
    | 3 => decide
    | 4 => decide
    | 5 => decide
    | ci + 6 => simp [fkind]
  omega
theorem LAY.row {Y : Yx} (h : LAY Y) {o ci j : Nat} (ho : (0, o, ci) ∈ yI Y) (hk : (fkind ci)[j]? = some 1) : (1, 32 * o + j, aty ci j) ∈ yI Y := (h.2.2.1 _ ho rfl j (fk_lt hk)).1 hk
theorem LAY.obj {Y : Yx} (h : LAY Y) {o ci j : Nat} (ho : (0, o, ci) ∈ yI Y) (hk : (fkind ci)[j]? = some 2) : (0, ro ci o j, oty ci j) ∈ yI Y := (h.2.2.1 _ ho rfl j (fk_lt hk)).2.1 hk
theorem LAY.im {Y : Yx} (h : LAY Y) (hm : (2, 31, 3) ∈ yI Y) {i : Int32} (hi : inb i 2 = true) : (0, 3 + ix i, 2) ∈ yI Y := by
  obtain ⟨j, hj, rfl⟩ := vp_in_of (inb_vp hi) (by decide)
  have e : ix (nI j) = j := nI_clamp (by omega)
  rw [e]
  rcases (show j = 0 ∨ j = 1 by omega) with rfl | rfl
  · exact (h.2.2.2 hm).1
  · exact (h.2.2.2 hm).2
theorem LAY.ims {Y : Yx} (h : LAY Y) {o ci j : Nat} (ho : (0, o, ci) ∈ yI Y) (hk : (fkind ci)[j]? = some 3) : (2, 31, 3) ∈ yI Y := (h.2.2.1 _ ho rfl j (fk_lt hk)).2.2 hk
theorem ent_sF {Y : Yx} {z : Sh} {d : Dt} {o j : Nat} {x : Int32} {q : Nat × Nat × Nat} (h : ¬ (q.1 = 0 ∧ q.2.1 = o)) : ent Y z (sF d o j x) q = ent Y z d q := by
  obtain ⟨t, i, c⟩ := q
  match t with
  | 0 =>
    have : i ≠ o := fun e => h ⟨rfl, e⟩
    simp only [ent, fl_sF' this]
  | 1 => rfl
  | t + 2 => rfl
theorem wl_sF {Y : Yx} {z : Sh} {d : Dt} {o ci j p : Nat} {x : Int32} (hL : LAY Y) (hp : (yI Y)[p]? = some (0, o, ci)) (hk : (fkind ci)[j]? = some 0) : (wl Y z d).set p (yo Y o, .inr (ci, (fl Y z d ci o).set j (.int x))) = wl Y z (sF d o j x) := by
  refine map_set' hL.1 hp ?_ (fun q hq hne => ent_sF ?_)
  · show (yo Y o, _) = _
    rw [fl_sF hk]
  · intro hc
    exact hne (hL.2.1 q hq (0, o, ci) (List.mem_of_getElem? hp) hc.1 hc.2)
theorem gA_sA {d : Dt} {a i : Nat} {x : Int32} : upd (gA d a) i x = gA (sA d a i x) a := by
  funext j
  simp [upd, gA, sA]
theorem gA_sA' {d : Dt} {a b i : Nat} {x : Int32} (h : b ≠ a) : gA (sA d a i x) b = gA d b := by
  funext j
  simp [gA, sA, h]
theorem gA_sR {d : Dt} {a : Nat} {f : Nat → Int32} : gA (sR d a f) a = f := by
  funext j
  simp [gA, sR]
theorem gA_sR' {d : Dt} {a b : Nat} {f : Nat → Int32} (h : b ≠ a) : gA (sR d a f) b = gA d b := by
  funext j
  simp [gA, sR, h]
theorem ent_A {Y : Yx} {z : Sh} {d d2 : Dt} {a : Nat} {q : Nat × Nat × Nat} (hF : d2.1 = d.1) (hA : ∀ b, b ≠ a → gA d2 b = gA d b) (h : ¬ (q.1 = 1 ∧ q.2.1 = a)) : ent Y z d2 q = ent Y z d q := by
  obtain ⟨t, i, c⟩ := q
  match t with
  | 0 =>
    have e : fl Y z d2 c i = fl Y z d c i := by
      simp only [fl]
      refine List.map_congr_left (fun q _ => ?_)
      obtain ⟨k, j⟩ := q
      match k with
      | 0 => simp [fv, gF, hF]
      | 1 => rfl
      | 2 => rfl
      | k + 3 => rfl
    simp only [ent, e]
  | 1 =>
    have : i ≠ a := fun e => h ⟨rfl, e⟩
    simp only [ent, hA i this]
  | t + 2 => rfl
theorem wl_A {Y : Yx} {z : Sh} {d d2 : Dt} {a t p : Nat} (hL : LAY Y) (hp : (yI Y)[p]? = some (1, a, t)) (hF : d2.1 = d.1) (hA : ∀ b, b ≠ a → gA d2 b = gA d b) : (wl Y z d).set p (gad z a, .inl (yc Y t, gL z a, .inl (gA d2 a))) = wl Y z d2 := by
  refine map_set' hL.1 hp rfl (fun q hq hne => ent_A hF hA ?_)
  intro hc
  exact hne (hL.2.1 q hq (1, a, t) (List.mem_of_getElem? hp) hc.1 hc.2)
