/-! ===== short forms for the program that lays the methods' walks ===== -/
/-- the loops' fuel: far above what any run needs -/
def FU : Nat := 2 ^ 62
theorem nbz {x : Int32} (h : x = 0 ∨ x = 1) : narrow .boolean (.int x) = .int x ∧ fits .boolean (.int x) = true := by
  rcases h with rfl | rfl <;> exact ⟨rfl, rfl⟩
theorem nbi (x : Bool) : narrow .boolean (.int (bi x)) = .int (bi x) := by cases x <;> rfl
section
variable {ρ : Type} {ε : ρ → Option AV × Hp} {UF : US} {M : MD} {b : Nat × Nat} {U : US} {pc : Nat} {ls : List (Option AV)} {st : List AV} {h : Hp} {X Y : Option ρ}
theorem Aw.ifT {q : Prop} [Decidable q] (hq : q) (k : Aw ε UF M b U pc ls st h (if q then X else Y)) : Aw ε UF M b U pc ls st h X := by
  rw [if_pos hq] at k
  exact k
theorem Aw.ifF {q : Prop} [Decidable q] (hq : ¬ q) (k : Aw ε UF M b U pc ls st h (if q then X else Y)) : Aw ε UF M b U pc ls st h Y := by
  rw [if_neg hq] at k
  exact k
def LSub : List (Option AV) → List (Option AV) → Prop
  | [], [] => True
  | none :: l, _ :: m => LSub l m
  | some v :: l, w :: m => w = some v ∧ LSub l m
  | _, _ => False
theorem LSub.at : ∀ {l m : List (Option AV)}, LSub l m → ∀ (i : Nat) (v : AV), l[i]? = some (some v) → m[i]? = some (some v)
  | [], [], _, i, v, e => by simp at e
  | none :: l, _ :: m, k, 0, v, e => by simp at e
  | none :: l, _ :: m, k, i + 1, v, e => by
    have := LSub.at (l := l) (m := m) k i v (by simpa using e)
    simpa using this
  | some w :: l, _ :: m, k, 0, v, e => by
    simp at e
    rw [k.1, e]
    rfl
  | some w :: l, _ :: m, k, i + 1, v, e => by
    have := LSub.at (l := l) (m := m) k.2 i v (by simpa using e)
    simpa using this
  | [], _ :: _, k, _, _, _ => k.elim
  | none :: _, [], k, _, _, _ => k.elim
  | some _ :: _, [], k, _, _, _ => k.elim
theorem VokO.of {h : Hp} : ∀ {l : List (Option AV)}, (∀ (i : Nat) (v : AV), l[i]? = some (some v) → Vok h v) → VokO h l
  | [], _ => trivial
  | none :: l, k => VokO.of (l := l) (fun i v e => k (i + 1) v (by simpa using e))
  | some w :: l, k => ⟨k 0 w rfl, VokO.of (l := l) (fun i v e => k (i + 1) v (by simpa using e))⟩
theorem Aw.weak {ls' : List (Option AV)} (hs : LSub ls' ls) (k : Aw ε UF M b U pc ls' st h X) : Aw ε UF M b U pc ls st h X := by
  intro r hr p l e R s m args below meth c Γ ad0 h0 A0 Z cx rt H locs cells slots ad la hh
  refine k r hr p l e R s m args below meth c Γ ad0 h0 A0 Z cx rt H locs cells slots ad la ⟨hh.1, hh.2.1, lv_less hh.2.2.1 (fun q hq => ?_), hh.2.2.2.1, VokO.of (fun i v e => hh.2.2.2.2.1.at (hs.at i v e)), hh.2.2.2.2.2⟩
  obtain ⟨j, v, h1, h2⟩ := lvo_mem.mp hq
  exact lvo_mem.mpr ⟨j, v, hs.at j v h1, h2⟩
theorem A_retI {x : Int32} (hM : mr M = some .int) (d : decode (mb M) pc = .ok (.ireturn, 1)) : Aw eI U M b U pc ls [vi x] h (some (x, h)) := A_ret (v := some (vi x)) rfl rfl ⟨d, .int, hM, rfl⟩ (fun _ _ _ _ _ _ _ => rfl)
theorem A_retIr {x : Int32} (hM : mr M = some .int) (d : decode (mb M) pc = .ok (.ireturn, 1)) : Aw (eIr h) U M b U pc ls [vi x] h (some x) := A_ret (v := some (vi x)) rfl rfl ⟨d, .int, hM, rfl⟩ (fun _ _ _ _ _ _ _ => rfl)
theorem A_retB {x : Bool} {y : Int32} (hM : mr M = some .boolean) (hy : bi x = y) (d : decode (mb M) pc = .ok (.ireturn, 1)) : Aw eB U M b U pc ls [vi y] h (some (x, h)) := A_ret (v := some (vi (bi x))) rfl (by rw [hy]; rfl) ⟨d, .boolean, hM, nbi x⟩ (fun _ _ _ _ _ _ _ => rfl)
theorem A_retBr {x : Bool} {y : Int32} (hM : mr M = some .boolean) (hy : bi x = y) (d : decode (mb M) pc = .ok (.ireturn, 1)) : Aw (eBr h) U M b U pc ls [vi y] h (some x) := A_ret (v := some (vi (bi x))) rfl (by rw [hy]; rfl) ⟨d, .boolean, hM, nbi x⟩ (fun _ _ _ _ _ _ _ => rfl)
theorem A_retLr {x : Int64} (hM : mr M = some .long) (d : decode (mb M) pc = .ok (.lreturn, 1)) : Aw (eLr h) U M b U pc ls [vl x] h (some x) := A_ret (v := some (vl x)) rfl rfl ⟨d, hM⟩ (fun _ _ _ _ _ _ _ => rfl)
theorem A_retRr {t : Nat} {o : Option Nat} {nm : String} (hM : mr M = some (.object nm)) (d : decode (mb M) pc = .ok (.areturn, 1)) : Aw (eRr t h) U M b U pc ls [vr t o] h (some o) := A_ret (v := some (vr t o)) rfl rfl ⟨d, nm, hM⟩ (fun _ _ _ _ _ _ _ => rfl)
theorem A_retV (hM : mr M = none) (d : decode (mb M) pc = .ok (.return_, 1)) : Aw eV U M b U pc ls [] h (some h) := A_ret (v := none) rfl rfl ⟨d, hM⟩ (fun _ _ _ _ _ _ _ => rfl)
theorem AwL_n {G : Nat → Option ρ → Prop} {pc : Nat} {offs : Array Int} {i : Nat} : AwL G pc offs i [] := trivial
theorem AwL_c {G : Nat → Option ρ → Prop} {pc : Nat} {offs : Array Int} {i : Nat} {X : Option ρ} {l : List (Option ρ)} (tgt : Nat) (h : (offs[i]?).map (fun o => (pc : Int) + o) = some (tgt : Int)) (g : G tgt X) (k : AwL G pc offs (i + 1) l) : AwL G pc offs i (X :: l) := ⟨⟨tgt, h, g⟩, k⟩
theorem LwL_n {G : Nat → Option ρ → Prop} {pc : Nat} : LwL G pc [] [] := trivial
theorem LwL_c {G : Nat → Option ρ → Prop} {pc : Nat} {a o : Int} {ps : List (Int × Int)} {k : Int32} {X : Option ρ} {l : List (Int32 × Option ρ)} (tgt : Nat) (hk : k.toInt = a) (h : (pc : Int) + o = (tgt : Int)) (g : G tgt X) (kk : LwL G pc ps l) : LwL G pc ((a, o) :: ps) ((k, X) :: l) := ⟨⟨hk, tgt, h, g⟩, kk⟩
/-- new objects: of classes without structural fields, and with them -/
theorem A_newP {t idx : Nat} {C : String} {T : u_T} {N : Nat} {ty : Nat → FieldType} (b' : Nat × Nat) (F : ClF t C T N ty) (d : decode (mb M) pc = .ok (.new idx, 3)) (hl : Cond.classLink (my M).cls idx C ∈ WSG) (hi : Cond.instantiable C N ∈ WSG) (hini : Cond.initialized C ∈ WSG) (h0 : ∀ k, k < N → fty t k = 0) (h1 : ∀ k, k < N → defaultValue (ty k) = .int 0) (h2 : ∀ k, ¬ fty t k = 2) (hb : b'.1 + 1 ≤ b.1) (hb2 : b'.2 + N ≤ b.2)
    (kk : Aw ε UF M b' U (pc + 3) ls (vr t (some (gN h t)) :: st) (wN h t) X) : Aw ε UF M b U pc ls st h X :=
  A_newG (U' := U) b' F d hl hi hini (fun ad k hk => by unfold fval; rw [if_pos (h0 k hk), gI_wN, if_pos ⟨rfl, rfl⟩]; exact h1 k hk) (fun _ _ _ _ => rfl) (fun k _ q => absurd q (h2 k)) hb hb2 kk
theorem A_newS {t idx i : Nat} {C : String} {T : u_T} {N : Nat} {ty : Nat → FieldType} (b' : Nat × Nat) (F : ClF t C T N ty) (d : decode (mb M) pc = .ok (.new idx, 3)) (hl : Cond.classLink (my M).cls idx C ∈ WSG) (hi : Cond.instantiable C N ∈ WSG) (hini : Cond.initialized C ∈ WSG) (h0 : ∀ k, k < N → (fty t k = 0 ∧ defaultValue (ty k) = .int 0) ∨ (fty t k = 1 ∧ defaultValue (ty k) = .long 0) ∨ (fty t k = 2 ∧ defaultValue (ty k) = .null)) (hb : b'.1 + 1 ≤ b.1) (hb2 : b'.2 + N ≤ b.2)
    (kk : Aw ε UF M b' (uN U t i) (pc + 3) ls (vr t (some i) :: st) (wN h t) X) : Aw ε UF M b U pc ls st h (if gN h t = i then X else none) := by
  by_cases hg : gN h t = i
  · rw [if_pos hg]
    subst hg
    refine A_newG (U' := uN U t (gN h t)) b' F d hl hi hini (fun ad k hk => ?_) (fun a c j hne => if_neg (fun q => hne ⟨q.1, q.2.1⟩)) (fun k _ q => if_pos ⟨rfl, rfl, q⟩) hb hb2 kk
    unfold fval
    rcases h0 k hk with ⟨e1, e2⟩ | ⟨e1, e2⟩ | ⟨e1, e2⟩
    · rw [if_pos e1, gI_wN, if_pos ⟨rfl, rfl⟩]
      exact e2
    · rw [if_neg (by omega), if_pos e1, gL_wN, if_pos ⟨rfl, rfl⟩]
      exact e2
    · rw [if_neg (by omega), if_neg (by omega), show uN U t (gN h t) t (gN h t) k = true from if_pos ⟨rfl, rfl, e1⟩, if_pos rfl]
      exact e2
  · rw [if_neg hg]
    exact Aw.none
theorem A_newI {t i : Nat} {n : Int32} {N : Nat} {ty : FieldType} {atype : ArrayType} (b' : Nat × Nat) (ht : ¬ t < 9) (hT : t < TT) (d : decode (mb M) pc = .ok (.newarray atype, 2)) (hty : newarray.typeOf atype = ty) (harr : Cond.arrayClass (newarray.typeOf atype) ∈ WSG)
    (hN : alen t = N) (hn : ¬ n < 0) (hn2 : n.toNatClampNeg = N) (hby : N * componentBytes ty ≤ 536870912) (htys : ∀ cA, (tysOf cA)[aty t]? = some (cA (aty t), ty)) (h1 : ¬ aty t = 1) (h4 : aty t < 4) (hd : defaultValue ty = .int 0) (hb : b'.1 + 1 ≤ b.1) (hb2 : b'.2 + N ≤ b.2)
    (kk : Aw ε UF M b' U (pc + 2) ls (vr t (some i) :: st) (wN h t) X) : Aw ε UF M b U pc ls (vi n :: st) h (if gN h t = i then X else none) := by
  by_cases hg : gN h t = i
  · rw [if_pos hg]
    subst hg
    refine A_newarr b' ht hT d hty harr hN hn hn2 hby htys (fun ad cA => ?_) (fun ad ad' => by unfold acont; rw [if_neg h1, if_neg h1, if_pos h4, if_pos h4]) hb hb2 kk
    unfold acont
    rw [if_neg h1, if_pos h4, vp_cell_i, hd]
    congr 1
    funext j
    rw [gI_wN, if_pos ⟨rfl, rfl⟩]
  · rw [if_neg hg]
    exact Aw.none
theorem A_newL {t i : Nat} {n : Int32} {N : Nat} {atype : ArrayType} (b' : Nat × Nat) (ht : ¬ t < 9) (hT : t < TT) (d : decode (mb M) pc = .ok (.newarray atype, 2)) (hty : newarray.typeOf atype = .long) (harr : Cond.arrayClass (newarray.typeOf atype) ∈ WSG)
    (hN : alen t = N) (hn : ¬ n < 0) (hn2 : n.toNatClampNeg = N) (hby : N * componentBytes .long ≤ 536870912) (htys : ∀ cA, (tysOf cA)[aty t]? = some (cA (aty t), .long)) (h1 : aty t = 1) (hb : b'.1 + 1 ≤ b.1) (hb2 : b'.2 + N ≤ b.2)
    (kk : Aw ε UF M b' U (pc + 2) ls (vr t (some i) :: st) (wN h t) X) : Aw ε UF M b U pc ls (vi n :: st) h (if gN h t = i then X else none) := by
  by_cases hg : gN h t = i
  · rw [if_pos hg]
    subst hg
    refine A_newarr b' ht hT d hty harr hN hn hn2 hby htys (fun ad cA => ?_) (fun ad ad' => by unfold acont; rw [if_pos h1, if_pos h1]) hb hb2 kk
    unfold acont
    rw [if_pos h1, vp_cell_l]
    congr 1
    funext j
    rw [gL_wN, if_pos ⟨rfl, rfl⟩]
    rfl
  · rw [if_neg hg]
    exact Aw.none
theorem A_newQ {t i idx : Nat} {n : Int32} {N : Nat} {C : String} (b' : Nat × Nat) (ht : ¬ t < 9) (hT : t < TT) (ha : 4 ≤ aty t) (d : decode (mb M) pc = .ok (.anewarray idx, 3)) (hl : Cond.classLink (my M).cls idx C ∈ WSG) (hC : C ∈ [RX0, RX1, RX6])
    (hN : alen t = N) (hn : ¬ n < 0) (hn2 : n.toNatClampNeg = N) (hby : N * 4 ≤ 536870912) (htys : ∀ cA, (tysOf cA)[aty t]? = some (cA (aty t), .object C)) (hb : b'.1 + 1 ≤ b.1) (hb2 : b'.2 + N ≤ b.2)
    (kk : Aw ε UF M b' U (pc + 3) ls (vr t (some i) :: st) (wN h t) X) : Aw ε UF M b U pc ls (vi n :: st) h (if gN h t = i then X else none) := by
  by_cases hg : gN h t = i
  · rw [if_pos hg]
    subst hg
    exact A_anew b' ht hT ha d hl hC hN hn hn2 hby htys hb hb2 kk
  · rw [if_neg hg]
    exact Aw.none
/-- System.arraycopy between two arrays of ints -/
def wC (h : Hp) (t i i' sp dp n : Nat) : Hp := (gN h, (fun a c k => if a = t ∧ c = i' ∧ dp ≤ k ∧ k < dp + n then gI h t i (sp + (k - dp)) else gI h a c k), gL h, gP h)
theorem gI_wC (h : Hp) (t i i' sp dp n a c k : Nat) : gI (wC h t i i' sp dp n) a c k = if a = t ∧ c = i' ∧ dp ≤ k ∧ k < dp + n then gI h t i (sp + (k - dp)) else gI h a c k := rfl
theorem gN_wC (h : Hp) (t i i' sp dp n : Nat) : gN (wC h t i i' sp dp n) = gN h := rfl
theorem gL_wC (h : Hp) (t i i' sp dp n : Nat) : gL (wC h t i i' sp dp n) = gL h := rfl
theorem gP_wC (h : Hp) (t i i' sp dp n : Nat) : gP (wC h t i i' sp dp n) = gP h := rfl
theorem fval_wC {U : US} {ad : AD} {h : Hp} {t i i' sp dp n a c j : Nat} (hne : ¬ (a = t ∧ c = i')) : fval U ad (wC h t i i' sp dp n) a c j = fval U ad h a c j := by
  unfold fval
  rw [gI_wC, if_neg (show ¬ (a = t ∧ c = i' ∧ dp ≤ j ∧ j < dp + n) from fun q => hne ⟨q.1, q.2.1⟩), gL_wC]
set_option maxHeartbeats 1000000 in
theorem A_copy {t i i' idx : Nat} {sp dp n N : Int32} (ht : ¬ t < 9) (hT : t < TT) (ha : aty t = 0) (hN : N.toInt = (alen t : Int)) (d : decode (mb M) pc = .ok (.invokestatic idx, 3)) (hl : Cond.methodLink (my M).cls idx arraycopyName ∈ WSG) (hnat : Cond.native arraycopyName ∈ WSG) (hstat : Cond.static arraycopyName ∈ WSG) (hini : Cond.initialized "java/lang/System" ∈ WSG) (hf : 1 ≤ (mrm M).frames) (hlo : catL st + (nativeFrameWords "java/lang/System" "arraycopy" 5 + 11) ≤ (mrm M).locals)
    (kk : Aw ε UF M b U (pc + 3) ls st (wC h t i i' sp.toNatClampNeg dp.toNatClampNeg n.toNatClampNeg) X) : Aw ε UF M b U pc ls (vi n :: vi dp :: vr t (some i') :: vi sp :: vr t (some i) :: st) h (if 0 ≤ sp ∧ 0 ≤ dp ∧ 0 ≤ n ∧ sp.toNatClampNeg + n.toNatClampNeg ≤ alen t ∧ dp.toNatClampNeg + n.toNatClampNeg ≤ alen t then X else none) := by
  intro r hr p l e R s m args below meth c Γ ad0 h0 A0 Z cx rt H locs cells slots ad la hh
  split at hr
  case isFalse => cases hr
  case isTrue hj =>
    have hi' := hh.sv.2.2.1.ref hT
    have hi := hh.sv.2.2.2.2.1.ref hT
    have hR := cx.2.2.2.2.2.2.2.2.1
    obtain ⟨q, -, hq⟩ := wsd_at (Γ := Γ) (U := U) (ad := ad) hT hi
    obtain ⟨q1, -, hq1⟩ := wsd_at (Γ := Γ) (U := U) (ad := ad) hT hi'
    have hq0 := hq1
    rw [cell_i ht (by omega) (by omega)] at hq hq1
    refine va_copyi (ty := .int) (t0 := aty t) (t1 := aty t) cx.1 cx.2.1 (cx.2.2.1.trans hh.2.2.1.1.symm) cx.2.2.2.1 (cx.2.2.2.2.1 _ hl) (cx.2.2.2.2.1 _ hnat) (cx.2.2.2.2.1 _ hstat) (cx.2.2.2.2.1 _ hini) cx.2.2.2.2.2.1.1 hh.1.toP hh.1.toD hh.2.1 q q1 hq hq1 (by rw [ha]; rfl) (by rw [ha]; rfl) rfl (Int32.not_lt.mpr hj.1) (Int32.not_lt.mpr hj.2.1) (Int32.not_lt.mpr hj.2.2.1) hj.2.2.2.1 hj.2.2.2.2 (fun _ _ => rfl) (by rw [hR]; exact hf) (by rw [catL_eq, hR]; exact hlo) d fun H1 locs1 g1 g2 g3 => ?_
    refine kk r hr p l e R s m args below meth c Γ ad0 h0 A0 Z cx rt H1 locs1 cells slots ad la (hh.wr rfl (hh.1.ofSet hq0 hT hi' rfl ?_ g1 (fun a c hne => ?_) hh.1.2.2.2.1 hh.1.2.2.2.2) g3 hh.sv.2.2.2.2.2)
    · rw [cell_i ht (by omega) (by omega)]
      congr 3
      congr 1
      funext k
      simp only [gI_wC, va_cpy, true_and]
    · unfold cellOf
      split
      · congr 2
        exact List.map_congr_left fun j _ => fval_wC hne
      · congr 3
        unfold acont
        rw [gL_wC, gP_wC, show gI (wC h t i i' sp.toNatClampNeg dp.toNatClampNeg n.toNatClampNeg) a c = gI h a c from funext fun k => by rw [gI_wC, if_neg (fun q => hne ⟨q.1, q.2.1⟩)]]
def lmin (x y : Int64) : Int64 := if y < x then y else x
theorem A_lmin {x y : Int64} {idx : Nat} (d : decode (mb M) pc = .ok (.invokestatic idx, 3)) (hl : Cond.methodLink (my M).cls idx Lib.MathLoose.min_long.x ∈ WSG) (hs : Cond.static Lib.MathLoose.min_long.x ∈ WSG) (hi : Cond.initialized "java/lang/Math" ∈ WSG) (hc : Cond.code Lib.MathLoose.min_long.x Lib.MathLoose.min_long.code 4 (some .long) ∈ WSG) (hf : 1 ≤ (mrm M).frames) (hlo : catL st + 15 ≤ (mrm M).locals) (kk : Aw ε UF M b U (pc + 3) ls (vl (lmin x y) :: st) h X) : Aw ε UF M b U pc ls (vl y :: vl x :: st) h X := by
  intro r hr p l e R s m args below meth c Γ ad0 h0 A0 Z cx rt H locs cells slots ad la hh
  have hR := cx.2.2.2.2.2.2.2.2.1
  have g1 := hh.2.2.2.2.2.2.1
  have g2 := hh.2.2.2.2.2.2.2
  exact va_mmin_long (ls := la) (rest := st.map (cv ad)) cx.1 cx.2.1 (cx.2.2.1.trans hh.2.2.1.1.symm) cx.2.2.2.1 (cx.2.2.2.2.1 _ hl) (cx.2.2.2.2.1 _ hs) (cx.2.2.2.2.1 _ hi) (cx.2.2.2.2.1 _ hc) (by rw [hR]; exact hf) (by rw [catL_eq, hR]; exact hlo) (by omega) (by omega) d (kk r hr p l e R s m args below meth c Γ ad0 h0 A0 Z cx rt H locs cells slots ad la (hh.stk ⟨trivial, hh.sv.2.2⟩))
theorem Aw.bud {b' : Nat × Nat} (h1 : b'.1 ≤ b.1) (h2 : b'.2 ≤ b.2) (kk : Aw ε UF M b' U pc ls st h X) : Aw ε UF M b U pc ls st h X :=
  fun r hr p l e R s m args below meth c Γ ad0 h0 A0 Z cx rt H locs cells slots ad la hh => kk r hr p l e R s m args below meth c Γ ad0 h0 A0 Z cx rt H locs cells slots ad la ⟨hh.1, hh.2.1, hh.2.2.1, hh.2.2.2.1, hh.2.2.2.2.1, hh.2.2.2.2.2.1, by have := hh.2.2.2.2.2.2.1; omega, by have := hh.2.2.2.2.2.2.2; omega⟩
theorem Aw.setU {U' : US} (hU : ∀ t i k, ¬ fty t k = 0 → ¬ fty t k = 1 → U' t i k = U t i k) (kk : Aw ε UF M b U' pc ls st h X) : Aw ε UF M b U pc ls st h X :=
  fun r hr p l e R s m args below meth c Γ ad0 h0 A0 Z cx rt H locs cells slots ad la hh => kk r hr p l e R s m args below meth c Γ ad0 h0 A0 Z cx rt H locs cells slots ad la ⟨hh.1.congrU (fun t i k _ _ => hU t i k), hh.2⟩
/-- a name for a heap -/
def hb (a : Hp) (f : Hp → Option ρ) : Option ρ := f a
theorem A_hb {a : Hp} {f : Hp → Option ρ} (k : ∀ h', Aw ε UF M b U pc ls st h' (f h')) : Aw ε UF M b U pc ls st a (hb a f) := k a
end
