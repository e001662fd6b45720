/-! ===== frames: what a change elsewhere leaves ===== -/
/-- d' says of object o what d says -/
def AG (d d' : Dt) (o : Nat) : Prop := (∀ j, gF d' o j = gF d o j) ∧ ∀ j, j < 32 → ∀ i, gA d' (32 * o + j) i = gA d (32 * o + j) i
theorem AG.refl (d : Dt) (o : Nat) : AG d d o := ⟨fun _ => rfl, fun _ _ _ => rfl⟩
theorem AG.trans {d d' d'' : Dt} {o : Nat} (h : AG d d' o) (h2 : AG d' d'' o) : AG d d'' o := ⟨fun j => (h2.1 j).trans (h.1 j), fun j hj i => (h2.2 j hj i).trans (h.2 j hj i)⟩
theorem AG_sF {d : Dt} {o o' j : Nat} {v : Int32} (h : o ≠ o') : AG d (sF d o' j v) o := ⟨fun _ => gF_sFn (fun q => h q.1), fun _ _ _ => rfl⟩
theorem AG_sA {d : Dt} {o o' j i : Nat} {v : Int32} (hj : j < 32) (h : o ≠ o') : AG d (sA d (32 * o' + j) i v) o := ⟨fun _ => rfl, fun j' hj' i' => by rw [gA_sAi, if_neg (fun q => by omega)]⟩
theorem AG_sR {d : Dt} {o o' j : Nat} {f : Nat → Int32} (hj : j < 32) (h : o ≠ o') : AG d (sR d (32 * o' + j) f) o := ⟨fun _ => rfl, fun j' hj' i' => by rw [gA_sRi, if_neg (fun q => by omega)]⟩
theorem bP_congr {w w' : Nat → Int32} (h : ∀ i, i < 800 → (i < 2 ∨ 8 ≤ i) → w' i = w i) : bP w' = bP w := by unfold bP; rw [h 0 (by decide) (by decide)]
theorem VP_congr {w w' : Nat → Int32} (h : ∀ i, i < 800 → (i < 2 ∨ 8 ≤ i) → w' i = w i) {p : Nat} (hp : p < 24) (hv : VP w p) : VP w' p := by
  have hP := bP_congr h
  have hE : bE w' p = bE w p := by unfold bE; rw [h _ (by omega) (by omega)]
  have hN : bN w' p = bN w p := by unfold bN; rw [h _ (by omega) (by omega)]
  have hC : bC w' p = bC w p := by unfold bC; rw [h _ (by omega) (by omega)]
  have N5 := hv.N.2
  have C7 := hv.C.2
  obtain ⟨a, b, c, e, f, g, k⟩ := hv
  refine ⟨?_, ?_, ?_, ?_, ?_, ?_, ?_⟩
  · rw [h _ (by omega) (by omega)]; exact a
  · rw [h _ (by omega) (by omega)]; exact b
  · rw [h _ (by omega) (by omega)]; exact c
  · rw [hE, hC]; exact e
  · rw [hE, hP, h (80 + p) (by omega) (by omega), h (104 + p) (by omega) (by omega), h (128 + p) (by omega) (by omega)]; exact f
  · intro q hq
    rw [hN] at hq
    have := g q hq
    unfold VE bK at this ⊢
    rw [h (176 + (4 * p + q)) (by omega) (by omega), h (272 + (4 * p + q)) (by omega) (by omega)]
    exact this
  · intro q hq
    rw [hC] at hq
    have := k q hq
    unfold VC at this ⊢
    rw [hP, h (368 + (6 * p + q)) (by omega) (by omega), h (512 + (6 * p + q)) (by omega) (by omega), h (656 + (6 * p + q)) (by omega) (by omega)]
    exact this
theorem VB_congr {w w' : Nat → Int32} (h : ∀ i, i < 800 → (i < 2 ∨ 8 ≤ i) → w' i = w i) (hv : VB w) : VB w' := by
  have hP := bP_congr h
  have P24 := hv.P.2
  refine ⟨?_, ?_, ?_, ?_⟩
  · rw [h 0 (by decide) (by decide)]; exact hv.1
  · rw [h 1 (by decide) (by decide)]; exact hv.2.1
  · unfold bH; rw [h 1 (by decide) (by decide)]; exact hv.2.2.1
  · intro p hp
    rw [hP] at hp
    exact VP_congr h (by omega) (hv.2.2.2 p hp)
theorem BK_congr {d d' : Dt} {b : Nat} {w w' : Nat → Int32} (ha : AG d d' b) (h : ∀ i, i < 800 → (i < 2 ∨ 8 ≤ i) → w' i = w i) (hv : VB w) (hb : BK d b w) : BK d' b w' := by
  have hP := bP_congr h
  have P24 := hv.P.2
  refine ⟨?_, ?_, ?_⟩
  · rw [ha.1, h 0 (by decide) (by decide)]; exact hb.1
  · rw [ha.1, h 1 (by decide) (by decide)]; exact hb.2.1
  · intro p hp
    rw [hP] at hp
    have hV := hv.2.2.2 p hp
    have N5 := hV.N.2
    have C7 := hV.C.2
    have hE : bE w' p = bE w p := by unfold bE; rw [h _ (by omega) (by omega)]
    have hN : bN w' p = bN w p := by unfold bN; rw [h _ (by omega) (by omega)]
    have hC : bC w' p = bC w p := by unfold bC; rw [h _ (by omega) (by omega)]
    obtain ⟨a, b', c, e, f, g⟩ := hb.2.2 p hp
    refine ⟨?_, ?_, ?_, ?_, ?_, ?_⟩
    · rw [ha.2 2 (by decide), h _ (by omega) (by omega)]; exact a
    · rw [ha.2 6 (by decide), h _ (by omega) (by omega)]; exact b'
    · rw [ha.2 9 (by decide), h _ (by omega) (by omega)]; exact c
    · rw [hE, ha.2 3 (by decide), ha.2 4 (by decide), ha.2 5 (by decide), h (80 + p) (by omega) (by omega), h (104 + p) (by omega) (by omega), h (128 + p) (by omega) (by omega)]; exact e
    · intro q hq
      rw [hN] at hq
      rw [ha.2 7 (by decide), ha.2 8 (by decide), h (176 + (4 * p + q)) (by omega) (by omega), h (272 + (4 * p + q)) (by omega) (by omega)]
      exact f q hq
    · intro q hq
      rw [hC] at hq
      rw [ha.2 10 (by decide), ha.2 11 (by decide), ha.2 12 (by decide), h (368 + (6 * p + q)) (by omega) (by omega), h (512 + (6 * p + q)) (by omega) (by omega), h (656 + (6 * p + q)) (by omega) (by omega)]
      exact g q hq
theorem fat_congr {w w' : Nat → Int32} (h : ∀ i, i < 800 → (i < 2 ∨ 8 ≤ i) → w' i = w i) {p : Nat} (hp : p < 24) (x : Nat) : fat w' p x = fat w p x := by
  unfold fat bE
  rw [h _ (by omega) (by omega)]
theorem SI_congr {d d' : Dt} {o : Nat} {w w' : Nat → Int32} (ha : AG d d' o) (hb : AG d d' (o + 4)) (h : ∀ i, i < 1376 → w' i = w i) (hs : SI d o w) : SI d' o w' := by
  have h8 : ∀ i, i < 800 → (i < 2 ∨ 8 ≤ i) → w' i = w i := fun i hi _ => h i (by omega)
  have hP := bP_congr h8
  obtain ⟨hv, hk, h2, h0, hn, hs⟩ := hs
  have P24 := hv.P.2
  refine ⟨VB_congr h8 hv, BK_congr hb h8 hv hk, ?_, ?_, ?_, ?_⟩
  · rw [ha.1, h 2 (by decide)]; exact h2
  · rw [h 2 (by decide)]; exact h0
  · intro p hp
    rw [hP] at hp
    rw [ha.2 1 (by decide), h _ (by omega)]
    exact hn p hp
  · rw [ha.1, h 3 (by decide)]
    rcases hs with q | ⟨q, p, x, t, ⟨q3, q4, q5, q6, q7, q8⟩, r1, r2, r3⟩
    · exact .inl q
    · refine .inr ⟨q, p, x, t, ⟨?_, ?_, ?_, ?_, q7, q8⟩, ?_, ?_, ?_⟩
      · rw [h 3 (by decide)]; exact q3
      · rw [h 4 (by decide)]; exact q4
      · rw [h 5 (by decide)]; exact q5
      · rw [hP]; exact q6
      · rw [ha.1, fat_congr h8 (by omega)]; exact r1
      · rw [ha.1, h 6 (by decide)]; exact r2
      · intro i hi
        rw [ha.2 7 (by decide), h _ (by omega)]
        exact r3 i hi
