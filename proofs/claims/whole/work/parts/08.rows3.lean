/-! ===== rows of V: loops, tops, calls by kind, switches, images ===== -/
/-- a loop: its body tells where it goes on; so many rounds at most -/
def lp {X R : Type} (f : (X → Option R) → X → Option R) : Nat → X → Option R
  | 0, _ => none
  | n + 1, x => f (lp f n) x
theorem lp_ind {X R : Type} {f : (X → Option R) → X → Option R} {r : R} {P : X → Prop} (h : ∀ (k : X → Option R) (x : X), (∀ x', k x' = some r → P x') → f k x = some r → P x) : ∀ (n : Nat) (x : X), lp f n x = some r → P x := by
  intro n
  induction n with
  | zero => intro x hx; cases hx
  | succ n ih => intro x hx; exact h _ x ih hx
theorem so_inj {α : Type} {a b : α} (h : some a = some b) : b = a := (Option.some.inj h).symm
theorem so_inj2 {α β : Type} {a c : α} {b e : β} (h : some (a, b) = some (c, e)) : c = a ∧ e = b := ⟨congrArg Prod.fst (Option.some.inj h).symm, congrArg Prod.snd (Option.some.inj h).symm⟩
def FU : Nat := 1000000
section ROWS3
variable {K : Kx} {Y : Yx} {nL k n : Nat} {z : Sh} {d d1 : Dt} {pc : Nat} {lv : List (Nat × Value)} {st : List Value} {cc : ByteArray} {own : String} {fr lo : Nat}
theorem V_topi {x : Int32} (kk : ∀ y : Int32, y = x → V K Y nL k n z d pc lv (.int y :: st)) : V K Y nL k n z d pc lv (.int x :: st) := kk x rfl
theorem V_invi {y : MethodName} {cc' : ByteArray} {nl' : Nat} {ret' : Option FieldType} {na idx fr' lo' o ci : Nat} {C : String} {T : u_T} {N : Nat} {As rest st0 : List Value} {r1 : Int32} (hC : CK K Y cc nL own fr lo) (hM : MM (kl K) y cc' nl' ret' fr' lo' Y z (.ref (yo Y o) :: As) d (some (.int r1)) d1) (hm : MEV C y cc' nl' ret' na) (hlk : Cond.methodLink own idx y ∈ gt) (ho : (0, o, ci) ∈ yI Y) (hci : vwCl[ci]? = some (C, T, N)) (hst : st0 = As.reverse ++ .ref (yo Y o) :: rest) (hn : As.length = na) (hrest : (rest.map fun v => v.category).sum ≤ 8) (hroom : fr' + 1 ≤ fr ∧ 8 + (nl' + 11) + lo' ≤ lo) (hkn : k ≤ (kR K).cells ∧ n ≤ (kR K).slots) (hd : decode cc pc = .ok (.invokevirtual idx, 3)) (kk : V K Y nL k n z d1 (pc + 3) lv (.int r1 :: rest)) : V K Y nL k n z d pc lv st0 := V_inv hC hM hm hlk ho hci hst hn hrest hroom hkn hd kk
theorem V_invv {y : MethodName} {cc' : ByteArray} {nl' : Nat} {ret' : Option FieldType} {na idx fr' lo' o ci : Nat} {C : String} {T : u_T} {N : Nat} {As rest st0 : List Value} (hC : CK K Y cc nL own fr lo) (hM : MM (kl K) y cc' nl' ret' fr' lo' Y z (.ref (yo Y o) :: As) d none d1) (hm : MEV C y cc' nl' ret' na) (hlk : Cond.methodLink own idx y ∈ gt) (ho : (0, o, ci) ∈ yI Y) (hci : vwCl[ci]? = some (C, T, N)) (hst : st0 = As.reverse ++ .ref (yo Y o) :: rest) (hn : As.length = na) (hrest : (rest.map fun v => v.category).sum ≤ 8) (hroom : fr' + 1 ≤ fr ∧ 8 + (nl' + 11) + lo' ≤ lo) (hkn : k ≤ (kR K).cells ∧ n ≤ (kR K).slots) (hd : decode cc pc = .ok (.invokevirtual idx, 3)) (kk : V K Y nL k n z d1 (pc + 3) lv rest) : V K Y nL k n z d pc lv st0 := V_inv hC hM hm hlk ho hci hst hn hrest hroom hkn hd kk
theorem V_insi {y : MethodName} {cc' : ByteArray} {nl' : Nat} {ret' : Option FieldType} {na idx fr' lo' : Nat} {As rest st0 : List Value} {r1 : Int32} (hC : CK K Y cc nL own fr lo) (hM : MM (kl K) y cc' nl' ret' fr' lo' Y z As d (some (.int r1)) d1) (hm : MES y cc' nl' ret' na) (hlk : Cond.methodLink own idx y ∈ gt) (hst : st0 = As.reverse ++ rest) (hn : As.length = na) (hrest : (rest.map fun v => v.category).sum ≤ 8) (hroom : fr' + 1 ≤ fr ∧ 8 + (nl' + 11) + lo' ≤ lo) (hkn : k ≤ (kR K).cells ∧ n ≤ (kR K).slots) (hd : decode cc pc = .ok (.invokestatic idx, 3)) (kk : V K Y nL k n z d1 (pc + 3) lv (.int r1 :: rest)) : V K Y nL k n z d pc lv st0 := V_ins hC hM hm hlk hst hn hrest hroom hkn hd kk
theorem V_insv {y : MethodName} {cc' : ByteArray} {nl' : Nat} {ret' : Option FieldType} {na idx fr' lo' : Nat} {As rest st0 : List Value} (hC : CK K Y cc nL own fr lo) (hM : MM (kl K) y cc' nl' ret' fr' lo' Y z As d none d1) (hm : MES y cc' nl' ret' na) (hlk : Cond.methodLink own idx y ∈ gt) (hst : st0 = As.reverse ++ rest) (hn : As.length = na) (hrest : (rest.map fun v => v.category).sum ≤ 8) (hroom : fr' + 1 ≤ fr ∧ 8 + (nl' + 11) + lo' ≤ lo) (hkn : k ≤ (kR K).cells ∧ n ≤ (kR K).slots) (hd : decode cc pc = .ok (.invokestatic idx, 3)) (kk : V K Y nL k n z d1 (pc + 3) lv rest) : V K Y nL k n z d pc lv st0 := V_ins hC hM hm hlk hst hn hrest hroom hkn hd kk
theorem V_tswIn {x : Int32} {dflt l h : Int} {offs : Array Int} {len : Nat} {off : Int} {tgt : Nat} (hC : CK K Y cc nL own fr lo) (hd : decode cc pc = .ok (.tableswitch dflt l h offs, len)) (j : Int32) (hx : x = j) (h1 : ¬ j.toInt < l) (h2 : ¬ h < j.toInt) (ho : offs[(j.toInt - l).toNat]? = some off) (ht : (pc : Int) + off = (tgt : Int)) (kk : V K Y nL k n z d tgt lv st) : V K Y nL k n z d pc lv (.int x :: st) := fun H locs ls hW hl => by
  subst hx
  exact lv_tableIn hC.1 hC.2.1 hd h1 h2 ho ht (kk H locs ls hW hl)
theorem V_tswOut {x : Int32} {dflt l h : Int} {offs : Array Int} {len : Nat} {tgt : Nat} (hC : CK K Y cc nL own fr lo) (hd : decode cc pc = .ok (.tableswitch dflt l h offs, len)) (h1 : x.toInt < l ∨ h < x.toInt) (ht : (pc : Int) + dflt = (tgt : Int)) (kk : V K Y nL k n z d tgt lv st) : V K Y nL k n z d pc lv (.int x :: st) := fun H locs ls hW hl => lv_tableOut hC.1 hC.2.1 hd h1 ht (kk H locs ls hW hl)
theorem V_lsw {x : Int32} {dflt : Int} {ps : Array (Int × Int)} {len : Nat} {off : Int} {tgt : Nat} (hC : CK K Y cc nL own fr lo) (hd : decode cc pc = .ok (.lookupswitch dflt ps, len)) (hp : (ps.toList.zip (ps.toList.drop 1)).all (fun (a, next) => a.1 < next.1) = true) (ho : Op.lookupswitch.offset ps.toList dflt x.toInt = off) (ht : (pc : Int) + off = (tgt : Int)) (kk : V K Y nL k n z d tgt lv st) : V K Y nL k n z d pc lv (.int x :: st) := fun H locs ls hW hl => lv_lookup hC.1 hC.2.1 hd hp ho ht (kk H locs ls hW hl)
theorem V_getm {o ci j idx : Nat} {C : String} {T : u_T} {N : Nat} (hC : CK K Y cc nL own fr lo) (ho : (0, o, ci) ∈ yI Y) (hk : (fkind ci)[j]? = some 3) (hf : FLK own idx ci j C T N) (hd : decode cc pc = .ok (.getfield idx, 3)) (kk : V K Y nL k n z d (pc + 3) lv (.ref (yo Y 31) :: st)) : V K Y nL k n z d pc lv (.ref (yo Y o) :: st) := V_getf hC ho hk hf hd kk
theorem V_aald {i : Int32} (hC : CK K Y cc nL own fr lo) (hm : (2, 31, 3) ∈ yI Y) (hi : inb i 2 = true) (hd : decode cc pc = .ok (.aaload, 1)) (kk : V K Y nL k n z d (pc + 1) lv (.ref (yo Y (3 + ix i)) :: st)) : V K Y nL k n z d pc lv (.int i :: .ref (yo Y 31) :: st) := by
  intro H locs ls hW hl
  obtain ⟨p, hp, he⟩ := wl_get z d hm
  exact va_aldq hC.1 hC.2.1 hC.2.2.2.2.2.1 hW.2.2.1 p 3 he rfl (inb_vp hi) hd (kk H locs ls hW hl)
end ROWS3
theorem uw_X0 : ∀ w ∈ u_ws RX0 TX0 13, w ∈ gt := by decide +kernel
theorem pl_X0 : PLK RX0 TX0 13 tyX0 := ⟨tyX0_ok, nmX0⟩
theorem uw_X1 : ∀ w ∈ u_ws RX1 TX1 10, w ∈ gt := by decide +kernel
theorem pl_X1 : PLK RX1 TX1 10 tyX1 := ⟨tyX1_ok, nmX1⟩
theorem uw_X2 : ∀ w ∈ u_ws RX2 TX2 9, w ∈ gt := by decide +kernel
theorem pl_X2 : PLK RX2 TX2 9 tyX2 := ⟨tyX2_ok, nmX2⟩
theorem uw_X4 : ∀ w ∈ u_ws RX4 TX4 17, w ∈ gt := by decide +kernel
theorem pl_X4 : PLK RX4 TX4 17 tyX4 := ⟨tyX4_ok, nmX4⟩
theorem uw_X5 : ∀ w ∈ u_ws RX5 TX5 11, w ∈ gt := by decide +kernel
theorem pl_X5 : PLK RX5 TX5 11 tyX5 := ⟨tyX5_ok, nmX5⟩
theorem uw_X6 : ∀ w ∈ u_ws RX6 TX6 30, w ∈ gt := by decide +kernel
theorem pl_X6 : PLK RX6 TX6 30 tyX6 := ⟨tyX6_ok, nmX6⟩
