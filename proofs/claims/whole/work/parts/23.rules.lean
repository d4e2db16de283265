section
variable {ρ : Type} {ε : ρ → Option AV × Hp} {UF : US} {M : MD} {b : Nat × Nat} {U : US} {pc : Nat} {ls : List (Option AV)} {st : List AV} {h : Hp} {X Y : Option ρ}
theorem A_iconst {n : Int} {v : Int32} (d : decode (mb M) pc = .ok (.iconst n, 1)) (hv : Int32.ofInt n = v) (kk : Aw ε UF M b U (pc + 1) ls (vi v :: st) h X) : Aw ε UF M b U pc ls (st) h X :=
  fun r hr p l e R s m args below meth c Γ ad0 h0 A0 Z cx rt H locs cells slots ad la hh => lv_iconst cx.1 cx.2.1 d hv (kk r hr p l e R s m args below meth c Γ ad0 h0 A0 Z cx rt H locs cells slots ad la (hh.stk ⟨trivial, hh.sv⟩))
theorem A_bipush {n : Int} {v : Int32} (d : decode (mb M) pc = .ok (.bipush n, 2)) (hv : (Int8.ofInt n).toInt32 = v) (kk : Aw ε UF M b U (pc + 2) ls (vi v :: st) h X) : Aw ε UF M b U pc ls (st) h X :=
  fun r hr p l e R s m args below meth c Γ ad0 h0 A0 Z cx rt H locs cells slots ad la hh => lv_bipush cx.1 cx.2.1 d hv (kk r hr p l e R s m args below meth c Γ ad0 h0 A0 Z cx rt H locs cells slots ad la (hh.stk ⟨trivial, hh.sv⟩))
theorem A_sipush {n : Int} {v : Int32} (d : decode (mb M) pc = .ok (.sipush n, 3)) (hv : (Int16.ofInt n).toInt32 = v) (kk : Aw ε UF M b U (pc + 3) ls (vi v :: st) h X) : Aw ε UF M b U pc ls (st) h X :=
  fun r hr p l e R s m args below meth c Γ ad0 h0 A0 Z cx rt H locs cells slots ad la hh => lv_sipush cx.1 cx.2.1 d hv (kk r hr p l e R s m args below meth c Γ ad0 h0 A0 Z cx rt H locs cells slots ad la (hh.stk ⟨trivial, hh.sv⟩))
theorem A_lconst {n : Fin 2} {v : Int64} (d : decode (mb M) pc = .ok (.lconst n, 1)) (hv : Int64.ofNat (n : Nat) = v) (kk : Aw ε UF M b U (pc + 1) ls (vl v :: st) h X) : Aw ε UF M b U pc ls (st) h X :=
  fun r hr p l e R s m args below meth c Γ ad0 h0 A0 Z cx rt H locs cells slots ad la hh => lv_lconst cx.1 cx.2.1 d hv (kk r hr p l e R s m args below meth c Γ ad0 h0 A0 Z cx rt H locs cells slots ad la (hh.stk ⟨trivial, hh.sv⟩))
theorem A_null (t : Nat) (d : decode (mb M) pc = .ok (.aconst_null, 1))  (kk : Aw ε UF M b U (pc + 1) ls (vr t none :: st) h X) : Aw ε UF M b U pc ls (st) h X :=
  fun r hr p l e R s m args below meth c Γ ad0 h0 A0 Z cx rt H locs cells slots ad la hh => lv_null cx.1 cx.2.1 d  (kk r hr p l e R s m args below meth c Γ ad0 h0 A0 Z cx rt H locs cells slots ad la (hh.stk ⟨trivial, hh.sv⟩))
theorem A_iadd {x y : Int32} (d : decode (mb M) pc = .ok (.iadd, 1))  (kk : Aw ε UF M b U (pc + 1) ls (vi (x + y) :: st) h X) : Aw ε UF M b U pc ls (vi y :: vi x :: st) h X :=
  fun r hr p l e R s m args below meth c Γ ad0 h0 A0 Z cx rt H locs cells slots ad la hh => lv_iadd cx.1 cx.2.1 d  (kk r hr p l e R s m args below meth c Γ ad0 h0 A0 Z cx rt H locs cells slots ad la (hh.stk ⟨trivial, hh.sv.2.2⟩))
theorem A_isub {x y : Int32} (d : decode (mb M) pc = .ok (.isub, 1))  (kk : Aw ε UF M b U (pc + 1) ls (vi (x - y) :: st) h X) : Aw ε UF M b U pc ls (vi y :: vi x :: st) h X :=
  fun r hr p l e R s m args below meth c Γ ad0 h0 A0 Z cx rt H locs cells slots ad la hh => lv_isub cx.1 cx.2.1 d  (kk r hr p l e R s m args below meth c Γ ad0 h0 A0 Z cx rt H locs cells slots ad la (hh.stk ⟨trivial, hh.sv.2.2⟩))
theorem A_imul {x y : Int32} (d : decode (mb M) pc = .ok (.imul, 1))  (kk : Aw ε UF M b U (pc + 1) ls (vi (x * y) :: st) h X) : Aw ε UF M b U pc ls (vi y :: vi x :: st) h X :=
  fun r hr p l e R s m args below meth c Γ ad0 h0 A0 Z cx rt H locs cells slots ad la hh => lv_imul cx.1 cx.2.1 d  (kk r hr p l e R s m args below meth c Γ ad0 h0 A0 Z cx rt H locs cells slots ad la (hh.stk ⟨trivial, hh.sv.2.2⟩))
theorem A_iand {x y : Int32} (d : decode (mb M) pc = .ok (.iand, 1))  (kk : Aw ε UF M b U (pc + 1) ls (vi (x &&& y) :: st) h X) : Aw ε UF M b U pc ls (vi y :: vi x :: st) h X :=
  fun r hr p l e R s m args below meth c Γ ad0 h0 A0 Z cx rt H locs cells slots ad la hh => lv_iand cx.1 cx.2.1 d  (kk r hr p l e R s m args below meth c Γ ad0 h0 A0 Z cx rt H locs cells slots ad la (hh.stk ⟨trivial, hh.sv.2.2⟩))
theorem A_ior {x y : Int32} (d : decode (mb M) pc = .ok (.ior, 1))  (kk : Aw ε UF M b U (pc + 1) ls (vi (x ||| y) :: st) h X) : Aw ε UF M b U pc ls (vi y :: vi x :: st) h X :=
  fun r hr p l e R s m args below meth c Γ ad0 h0 A0 Z cx rt H locs cells slots ad la hh => lv_ior cx.1 cx.2.1 d  (kk r hr p l e R s m args below meth c Γ ad0 h0 A0 Z cx rt H locs cells slots ad la (hh.stk ⟨trivial, hh.sv.2.2⟩))
theorem A_ixor {x y : Int32} (d : decode (mb M) pc = .ok (.ixor, 1))  (kk : Aw ε UF M b U (pc + 1) ls (vi (x ^^^ y) :: st) h X) : Aw ε UF M b U pc ls (vi y :: vi x :: st) h X :=
  fun r hr p l e R s m args below meth c Γ ad0 h0 A0 Z cx rt H locs cells slots ad la hh => lv_ixor cx.1 cx.2.1 d  (kk r hr p l e R s m args below meth c Γ ad0 h0 A0 Z cx rt H locs cells slots ad la (hh.stk ⟨trivial, hh.sv.2.2⟩))
theorem A_ishl {x y : Int32} (d : decode (mb M) pc = .ok (.ishl, 1))  (kk : Aw ε UF M b U (pc + 1) ls (vi (x <<< (y &&& 31)) :: st) h X) : Aw ε UF M b U pc ls (vi y :: vi x :: st) h X :=
  fun r hr p l e R s m args below meth c Γ ad0 h0 A0 Z cx rt H locs cells slots ad la hh => lv_ishl cx.1 cx.2.1 d  (kk r hr p l e R s m args below meth c Γ ad0 h0 A0 Z cx rt H locs cells slots ad la (hh.stk ⟨trivial, hh.sv.2.2⟩))
theorem A_ishr {x y : Int32} (d : decode (mb M) pc = .ok (.ishr, 1))  (kk : Aw ε UF M b U (pc + 1) ls (vi (x >>> (y &&& 31)) :: st) h X) : Aw ε UF M b U pc ls (vi y :: vi x :: st) h X :=
  fun r hr p l e R s m args below meth c Γ ad0 h0 A0 Z cx rt H locs cells slots ad la hh => lv_ishr cx.1 cx.2.1 d  (kk r hr p l e R s m args below meth c Γ ad0 h0 A0 Z cx rt H locs cells slots ad la (hh.stk ⟨trivial, hh.sv.2.2⟩))
theorem A_ladd {x y : Int64} (d : decode (mb M) pc = .ok (.ladd, 1))  (kk : Aw ε UF M b U (pc + 1) ls (vl (x + y) :: st) h X) : Aw ε UF M b U pc ls (vl y :: vl x :: st) h X :=
  fun r hr p l e R s m args below meth c Γ ad0 h0 A0 Z cx rt H locs cells slots ad la hh => lv_ladd cx.1 cx.2.1 d  (kk r hr p l e R s m args below meth c Γ ad0 h0 A0 Z cx rt H locs cells slots ad la (hh.stk ⟨trivial, hh.sv.2.2⟩))
theorem A_land {x y : Int64} (d : decode (mb M) pc = .ok (.land, 1))  (kk : Aw ε UF M b U (pc + 1) ls (vl (x &&& y) :: st) h X) : Aw ε UF M b U pc ls (vl y :: vl x :: st) h X :=
  fun r hr p l e R s m args below meth c Γ ad0 h0 A0 Z cx rt H locs cells slots ad la hh => lv_land cx.1 cx.2.1 d  (kk r hr p l e R s m args below meth c Γ ad0 h0 A0 Z cx rt H locs cells slots ad la (hh.stk ⟨trivial, hh.sv.2.2⟩))
theorem A_lor {x y : Int64} (d : decode (mb M) pc = .ok (.lor, 1))  (kk : Aw ε UF M b U (pc + 1) ls (vl (x ||| y) :: st) h X) : Aw ε UF M b U pc ls (vl y :: vl x :: st) h X :=
  fun r hr p l e R s m args below meth c Γ ad0 h0 A0 Z cx rt H locs cells slots ad la hh => lv_lor cx.1 cx.2.1 d  (kk r hr p l e R s m args below meth c Γ ad0 h0 A0 Z cx rt H locs cells slots ad la (hh.stk ⟨trivial, hh.sv.2.2⟩))
theorem A_ineg {x : Int32} (d : decode (mb M) pc = .ok (.ineg, 1))  (kk : Aw ε UF M b U (pc + 1) ls (vi (-x) :: st) h X) : Aw ε UF M b U pc ls (vi x :: st) h X :=
  fun r hr p l e R s m args below meth c Γ ad0 h0 A0 Z cx rt H locs cells slots ad la hh => lv_ineg cx.1 cx.2.1 d  (kk r hr p l e R s m args below meth c Γ ad0 h0 A0 Z cx rt H locs cells slots ad la (hh.stk ⟨trivial, hh.sv.2⟩))
theorem A_i2l {x : Int32} (d : decode (mb M) pc = .ok (.i2l, 1))  (kk : Aw ε UF M b U (pc + 1) ls (vl x.toInt64 :: st) h X) : Aw ε UF M b U pc ls (vi x :: st) h X :=
  fun r hr p l e R s m args below meth c Γ ad0 h0 A0 Z cx rt H locs cells slots ad la hh => lv_i2l cx.1 cx.2.1 d rfl (kk r hr p l e R s m args below meth c Γ ad0 h0 A0 Z cx rt H locs cells slots ad la (hh.stk ⟨trivial, hh.sv.2⟩))
theorem A_l2i {x : Int64} (d : decode (mb M) pc = .ok (.l2i, 1))  (kk : Aw ε UF M b U (pc + 1) ls (vi x.toInt32 :: st) h X) : Aw ε UF M b U pc ls (vl x :: st) h X :=
  fun r hr p l e R s m args below meth c Γ ad0 h0 A0 Z cx rt H locs cells slots ad la hh => lv_l2i cx.1 cx.2.1 d rfl (kk r hr p l e R s m args below meth c Γ ad0 h0 A0 Z cx rt H locs cells slots ad la (hh.stk ⟨trivial, hh.sv.2⟩))
theorem A_i2b {x : Int32} (d : decode (mb M) pc = .ok (.i2b, 1))  (kk : Aw ε UF M b U (pc + 1) ls (vi x.toInt8.toInt32 :: st) h X) : Aw ε UF M b U pc ls (vi x :: st) h X :=
  fun r hr p l e R s m args below meth c Γ ad0 h0 A0 Z cx rt H locs cells slots ad la hh => lv_i2b cx.1 cx.2.1 d rfl (kk r hr p l e R s m args below meth c Γ ad0 h0 A0 Z cx rt H locs cells slots ad la (hh.stk ⟨trivial, hh.sv.2⟩))
theorem A_i2s {x : Int32} (d : decode (mb M) pc = .ok (.i2s, 1))  (kk : Aw ε UF M b U (pc + 1) ls (vi x.toInt16.toInt32 :: st) h X) : Aw ε UF M b U pc ls (vi x :: st) h X :=
  fun r hr p l e R s m args below meth c Γ ad0 h0 A0 Z cx rt H locs cells slots ad la hh => lv_i2s cx.1 cx.2.1 d rfl (kk r hr p l e R s m args below meth c Γ ad0 h0 A0 Z cx rt H locs cells slots ad la (hh.stk ⟨trivial, hh.sv.2⟩))
theorem A_lshl {x : Int64} {y : Int32} (d : decode (mb M) pc = .ok (.lshl, 1))  (kk : Aw ε UF M b U (pc + 1) ls (vl (x <<< (y.toInt64 &&& 63)) :: st) h X) : Aw ε UF M b U pc ls (vi y :: vl x :: st) h X :=
  fun r hr p l e R s m args below meth c Γ ad0 h0 A0 Z cx rt H locs cells slots ad la hh => lv_lshl cx.1 cx.2.1 d rfl (kk r hr p l e R s m args below meth c Γ ad0 h0 A0 Z cx rt H locs cells slots ad la (hh.stk ⟨trivial, hh.sv.2.2⟩))
theorem A_lshr {x : Int64} {y : Int32} (d : decode (mb M) pc = .ok (.lshr, 1))  (kk : Aw ε UF M b U (pc + 1) ls (vl (x >>> (y.toInt64 &&& 63)) :: st) h X) : Aw ε UF M b U pc ls (vi y :: vl x :: st) h X :=
  fun r hr p l e R s m args below meth c Γ ad0 h0 A0 Z cx rt H locs cells slots ad la hh => lv_lshr cx.1 cx.2.1 d rfl (kk r hr p l e R s m args below meth c Γ ad0 h0 A0 Z cx rt H locs cells slots ad la (hh.stk ⟨trivial, hh.sv.2.2⟩))
theorem A_iushr {x y : Int32} (d : decode (mb M) pc = .ok (.iushr, 1))  (kk : Aw ε UF M b U (pc + 1) ls (vi ((x.toUInt32 >>> (y.toUInt32 &&& Int32.toUInt32 31)).toInt32) :: st) h X) : Aw ε UF M b U pc ls (vi y :: vi x :: st) h X :=
  fun r hr p l e R s m args below meth c Γ ad0 h0 A0 Z cx rt H locs cells slots ad la hh => lv_iushr cx.1 cx.2.1 d rfl (kk r hr p l e R s m args below meth c Γ ad0 h0 A0 Z cx rt H locs cells slots ad la (hh.stk ⟨trivial, hh.sv.2.2⟩))
theorem A_lcmp {x y : Int64} (d : decode (mb M) pc = .ok (.lcmp, 1))  (kk : Aw ε UF M b U (pc + 1) ls (vi (lg_cmp x y) :: st) h X) : Aw ε UF M b U pc ls (vl y :: vl x :: st) h X :=
  fun r hr p l e R s m args below meth c Γ ad0 h0 A0 Z cx rt H locs cells slots ad la hh => W.lcmp cx.1 cx.2.1 d  (kk r hr p l e R s m args below meth c Γ ad0 h0 A0 Z cx rt H locs cells slots ad la (hh.stk ⟨trivial, hh.sv.2.2⟩))
theorem A_dup {v : AV} (d : decode (mb M) pc = .ok (.dup, 1)) (hc : ∀ ad, (cv ad v).category = 1) (kk : Aw ε UF M b U (pc + 1) ls (v :: v :: st) h X) : Aw ε UF M b U pc ls (v :: st) h X :=
  fun r hr p l e R s m args below meth c Γ ad0 h0 A0 Z cx rt H locs cells slots ad la hh => lv_dup cx.1 cx.2.1 d (hc ad) (kk r hr p l e R s m args below meth c Γ ad0 h0 A0 Z cx rt H locs cells slots ad la (hh.stk ⟨hh.sv.1, hh.sv⟩))
theorem A_pop {v : AV} (d : decode (mb M) pc = .ok (.pop, 1)) (hc : ∀ ad, (cv ad v).category = 1) (kk : Aw ε UF M b U (pc + 1) ls (st) h X) : Aw ε UF M b U pc ls (v :: st) h X :=
  fun r hr p l e R s m args below meth c Γ ad0 h0 A0 Z cx rt H locs cells slots ad la hh => lv_pop cx.1 cx.2.1 d (hc ad) (kk r hr p l e R s m args below meth c Γ ad0 h0 A0 Z cx rt H locs cells slots ad la (hh.stk hh.sv.2))
theorem A_dup2 {v w : AV} (d : decode (mb M) pc = .ok (.dup2, 1)) (hc : ∀ ad, (cv ad v).category = 1) (hd : ∀ ad, (cv ad w).category = 1) (kk : Aw ε UF M b U (pc + 1) ls (v :: w :: v :: w :: st) h X) : Aw ε UF M b U pc ls (v :: w :: st) h X :=
  fun r hr p l e R s m args below meth c Γ ad0 h0 A0 Z cx rt H locs cells slots ad la hh => lv_dup2_11 cx.1 cx.2.1 d (hc ad) (hd ad) (kk r hr p l e R s m args below meth c Γ ad0 h0 A0 Z cx rt H locs cells slots ad la (hh.stk ⟨hh.sv.1, hh.sv.2.1, hh.sv⟩))
theorem A_idiv {x y : Int32} (d : decode (mb M) pc = .ok (.idiv, 1)) (hy : ¬ y = 0) (kk : Aw ε UF M b U (pc + 1) ls (vi (x / y) :: st) h X) : Aw ε UF M b U pc ls (vi y :: vi x :: st) h X :=
  fun r hr p l e R s m args below meth c Γ ad0 h0 A0 Z cx rt H locs cells slots ad la hh => lv_idiv cx.1 cx.2.1 d hy (kk r hr p l e R s m args below meth c Γ ad0 h0 A0 Z cx rt H locs cells slots ad la (hh.stk ⟨trivial, hh.sv.2.2⟩))
theorem A_irem {x y : Int32} (d : decode (mb M) pc = .ok (.irem, 1)) (hy : ¬ y = 0) (kk : Aw ε UF M b U (pc + 1) ls (vi (x - x / y * y) :: st) h X) : Aw ε UF M b U pc ls (vi y :: vi x :: st) h X :=
  fun r hr p l e R s m args below meth c Γ ad0 h0 A0 Z cx rt H locs cells slots ad la hh => lv_irem cx.1 cx.2.1 d hy (kk r hr p l e R s m args below meth c Γ ad0 h0 A0 Z cx rt H locs cells slots ad la (hh.stk ⟨trivial, hh.sv.2.2⟩))
theorem A_iload {i : Nat} {x : Int32} (d : decode (mb M) pc = .ok (.iload i, 2)) (hx : ls[i]? = some (some (vi x))) (kk : Aw ε UF M b U (pc + 2) ls (vi x :: st) h X) : Aw ε UF M b U pc ls st h X :=
  fun r hr p l e R s m args below meth c Γ ad0 h0 A0 Z cx rt H locs cells slots ad la hh => lv_iload cx.1 cx.2.1 d (lvo_at hh.2.2.1 hx) (kk r hr p l e R s m args below meth c Γ ad0 h0 A0 Z cx rt H locs cells slots ad la (hh.stk ⟨trivial, hh.sv⟩))
theorem A_iload_n {k : Fin 4} {i : Nat} {x : Int32} (d : decode (mb M) pc = .ok (.iload_n k, 1)) (hk : (k : Nat) = i) (hx : ls[i]? = some (some (vi x))) (kk : Aw ε UF M b U (pc + 1) ls (vi x :: st) h X) : Aw ε UF M b U pc ls st h X :=
  fun r hr p l e R s m args below meth c Γ ad0 h0 A0 Z cx rt H locs cells slots ad la hh => lv_iload_n cx.1 cx.2.1 d hk (lvo_at hh.2.2.1 hx) (kk r hr p l e R s m args below meth c Γ ad0 h0 A0 Z cx rt H locs cells slots ad la (hh.stk ⟨trivial, hh.sv⟩))
theorem A_lload {i : Nat} {x : Int64} (d : decode (mb M) pc = .ok (.lload i, 2)) (hx : ls[i]? = some (some (vl x))) (kk : Aw ε UF M b U (pc + 2) ls (vl x :: st) h X) : Aw ε UF M b U pc ls st h X :=
  fun r hr p l e R s m args below meth c Γ ad0 h0 A0 Z cx rt H locs cells slots ad la hh => lv_lload cx.1 cx.2.1 d (lvo_at hh.2.2.1 hx) (kk r hr p l e R s m args below meth c Γ ad0 h0 A0 Z cx rt H locs cells slots ad la (hh.stk ⟨trivial, hh.sv⟩))
theorem A_lload_n {k : Fin 4} {i : Nat} {x : Int64} (d : decode (mb M) pc = .ok (.lload_n k, 1)) (hk : (k : Nat) = i) (hx : ls[i]? = some (some (vl x))) (kk : Aw ε UF M b U (pc + 1) ls (vl x :: st) h X) : Aw ε UF M b U pc ls st h X :=
  fun r hr p l e R s m args below meth c Γ ad0 h0 A0 Z cx rt H locs cells slots ad la hh => lv_lload_n cx.1 cx.2.1 d hk (lvo_at hh.2.2.1 hx) (kk r hr p l e R s m args below meth c Γ ad0 h0 A0 Z cx rt H locs cells slots ad la (hh.stk ⟨trivial, hh.sv⟩))
theorem A_aload {i t : Nat} {o : Option Nat} (d : decode (mb M) pc = .ok (.aload i, 2)) (hx : ls[i]? = some (some (vr t o))) (kk : Aw ε UF M b U (pc + 2) ls (vr t o :: st) h X) : Aw ε UF M b U pc ls st h X := by
  intro r hr p l e R s m args below meth c Γ ad0 h0 A0 Z cx rt H locs cells slots ad la hh
  have h1 := lvo_at hh.2.2.1 hx
  have h2 := kk r hr p l e R s m args below meth c Γ ad0 h0 A0 Z cx rt H locs cells slots ad la (hh.stk ⟨hh.2.2.2.2.1.at hx, hh.sv⟩)
  cases o with
  | none => exact lv_aloadN cx.1 cx.2.1 d h1 h2
  | some q => exact lv_aload cx.1 cx.2.1 d h1 h2
theorem A_aload_n {k : Fin 4} {i t : Nat} {o : Option Nat} (d : decode (mb M) pc = .ok (.aload_n k, 1)) (hk : (k : Nat) = i) (hx : ls[i]? = some (some (vr t o))) (kk : Aw ε UF M b U (pc + 1) ls (vr t o :: st) h X) : Aw ε UF M b U pc ls st h X := by
  intro r hr p l e R s m args below meth c Γ ad0 h0 A0 Z cx rt H locs cells slots ad la hh
  have h1 := lvo_at hh.2.2.1 hx
  have h2 := kk r hr p l e R s m args below meth c Γ ad0 h0 A0 Z cx rt H locs cells slots ad la (hh.stk ⟨hh.2.2.2.2.1.at hx, hh.sv⟩)
  cases o with
  | none => exact lv_aload_nN cx.1 cx.2.1 d hk h1 h2
  | some q => exact lv_aload_n cx.1 cx.2.1 d hk h1 h2
theorem A_istore {i : Nat} {x : Int32} {ls2 : List (Option AV)} (d : decode (mb M) pc = .ok (.istore i, 2)) (hn : i < mL M) (hs : s1 ls i (vi x) = some ls2) (kk : Aw ε UF M b U (pc + 2) ls2 st h X) : Aw ε UF M b U pc ls (vi x :: st) h X :=
  fun r hr p l e R s m args below meth c Γ ad0 h0 A0 Z cx rt H locs cells slots ad la hh => lv_istore cx.1 cx.2.1 d hh.2.2.1 hn rfl fun la2 hl => kk r hr p l e R s m args below meth c Γ ad0 h0 A0 Z cx rt H locs cells slots ad la2 ⟨hh.1, hh.2.1, s1_has hs hl, hh.sv.2, s1_vok hs hh.2.2.2.2.1 trivial, hh.2.2.2.2.2⟩
theorem A_istore_n {k : Fin 4} {i : Nat} {x : Int32} {ls2 : List (Option AV)} (d : decode (mb M) pc = .ok (.istore_n k, 1)) (hk : (k : Nat) = i) (hn : i < mL M) (hs : s1 ls i (vi x) = some ls2) (kk : Aw ε UF M b U (pc + 1) ls2 st h X) : Aw ε UF M b U pc ls (vi x :: st) h X :=
  fun r hr p l e R s m args below meth c Γ ad0 h0 A0 Z cx rt H locs cells slots ad la hh => lv_istore_n cx.1 cx.2.1 d hk hh.2.2.1 hn rfl fun la2 hl => kk r hr p l e R s m args below meth c Γ ad0 h0 A0 Z cx rt H locs cells slots ad la2 ⟨hh.1, hh.2.1, s1_has hs hl, hh.sv.2, s1_vok hs hh.2.2.2.2.1 trivial, hh.2.2.2.2.2⟩
theorem A_lstore {i : Nat} {x : Int64} {ls2 : List (Option AV)} (d : decode (mb M) pc = .ok (.lstore i, 2)) (hn : i + 1 < mL M) (hs : s2 ls i (vl x) = some ls2) (kk : Aw ε UF M b U (pc + 2) ls2 st h X) : Aw ε UF M b U pc ls (vl x :: st) h X :=
  fun r hr p l e R s m args below meth c Γ ad0 h0 A0 Z cx rt H locs cells slots ad la hh => lv_lstore cx.1 cx.2.1 d hh.2.2.1 hn rfl fun la2 hl => kk r hr p l e R s m args below meth c Γ ad0 h0 A0 Z cx rt H locs cells slots ad la2 ⟨hh.1, hh.2.1, s2_has hs hl, hh.sv.2, s2_vok hs hh.2.2.2.2.1 trivial, hh.2.2.2.2.2⟩
theorem A_lstore_n {k : Fin 4} {i : Nat} {x : Int64} {ls2 : List (Option AV)} (d : decode (mb M) pc = .ok (.lstore_n k, 1)) (hk : (k : Nat) = i) (hn : i + 1 < mL M) (hs : s2 ls i (vl x) = some ls2) (kk : Aw ε UF M b U (pc + 1) ls2 st h X) : Aw ε UF M b U pc ls (vl x :: st) h X :=
  fun r hr p l e R s m args below meth c Γ ad0 h0 A0 Z cx rt H locs cells slots ad la hh => lv_lstore_n cx.1 cx.2.1 d hk hh.2.2.1 hn rfl fun la2 hl => kk r hr p l e R s m args below meth c Γ ad0 h0 A0 Z cx rt H locs cells slots ad la2 ⟨hh.1, hh.2.1, s2_has hs hl, hh.sv.2, s2_vok hs hh.2.2.2.2.1 trivial, hh.2.2.2.2.2⟩
theorem A_astore {i t : Nat} {o : Option Nat} {ls2 : List (Option AV)} (d : decode (mb M) pc = .ok (.astore i, 2)) (hn : i < mL M) (hs : s1 ls i (vr t o) = some ls2) (kk : Aw ε UF M b U (pc + 2) ls2 st h X) : Aw ε UF M b U pc ls (vr t o :: st) h X := by
  intro r hr p l e R s m args below meth c Γ ad0 h0 A0 Z cx rt H locs cells slots ad la hh
  have h2 : ∀ la2, lv_has la2 (mL M) ((i, cv ad (vr t o)) :: (lvo ad 0 ls).filter (fun q => !(q.1 == i) && !(q.1 + 1 == i && q.2.category == 2))) → W p l e R s m args below meth c H locs cells slots Z (F0 m (pc + 2) la2 (st.map (cv ad))) := fun la2 hl => kk r hr p l e R s m args below meth c Γ ad0 h0 A0 Z cx rt H locs cells slots ad la2 ⟨hh.1, hh.2.1, s1_has hs hl, hh.sv.2, s1_vok hs hh.2.2.2.2.1 hh.sv.1, hh.2.2.2.2.2⟩
  cases o with
  | none => exact lv_astoreN cx.1 cx.2.1 d hh.2.2.1 hn rfl h2
  | some q => exact lv_astore cx.1 cx.2.1 d hh.2.2.1 hn rfl h2
theorem A_astore_n {k : Fin 4} {i t : Nat} {o : Option Nat} {ls2 : List (Option AV)} (d : decode (mb M) pc = .ok (.astore_n k, 1)) (hk : (k : Nat) = i) (hn : i < mL M) (hs : s1 ls i (vr t o) = some ls2) (kk : Aw ε UF M b U (pc + 1) ls2 st h X) : Aw ε UF M b U pc ls (vr t o :: st) h X := by
  intro r hr p l e R s m args below meth c Γ ad0 h0 A0 Z cx rt H locs cells slots ad la hh
  have h2 : ∀ la2, lv_has la2 (mL M) ((i, cv ad (vr t o)) :: (lvo ad 0 ls).filter (fun q => !(q.1 == i) && !(q.1 + 1 == i && q.2.category == 2))) → W p l e R s m args below meth c H locs cells slots Z (F0 m (pc + 1) la2 (st.map (cv ad))) := fun la2 hl => kk r hr p l e R s m args below meth c Γ ad0 h0 A0 Z cx rt H locs cells slots ad la2 ⟨hh.1, hh.2.1, s1_has hs hl, hh.sv.2, s1_vok hs hh.2.2.2.2.1 hh.sv.1, hh.2.2.2.2.2⟩
  cases o with
  | none => exact lv_astore_nN cx.1 cx.2.1 d hk hh.2.2.1 hn rfl h2
  | some q => exact lv_astore_n cx.1 cx.2.1 d hk hh.2.2.1 hn rfl h2
theorem A_iinc {i : Nat} {n : Int} {x v : Int32} {ls2 : List (Option AV)} (d : decode (mb M) pc = .ok (.iinc i n, 3)) (hx : ls[i]? = some (some (vi x))) (hv : x + Int32.ofInt n = v) (hn : i < mL M) (hs : s1 ls i (vi v) = some ls2) (kk : Aw ε UF M b U (pc + 3) ls2 st h X) : Aw ε UF M b U pc ls st h X := by
  intro r hr p l e R s m args below meth c Γ ad0 h0 A0 Z cx rt H locs cells slots ad la hh
  obtain ⟨k, hk⟩ := List.getElem?_of_mem (lvo_mem.mpr ⟨i, vi x, hx, rfl⟩ : ((0 + i, cv ad (vi x)) : Nat × Value) ∈ lvo ad 0 ls)
  rw [Nat.zero_add] at hk
  exact lv_iinc cx.1 cx.2.1 d hh.2.2.1 hk hv hn rfl fun la2 hl => kk r hr p l e R s m args below meth c Γ ad0 h0 A0 Z cx rt H locs cells slots ad la2 ⟨hh.1, hh.2.1, s1_has hs hl, hh.sv, s1_vok hs hh.2.2.2.2.1 trivial, hh.2.2.2.2.2⟩
theorem A_if_eq {x : Int32} {off : Int} {tgt : Nat} (d : decode (mb M) pc = .ok (.ifCond .eq off, 3)) (ht : (pc : Int) + off = (tgt : Int)) (kt : Aw ε UF M b U tgt ls st h X) (kf : Aw ε UF M b U (pc + 3) ls st h Y) : Aw ε UF M b U pc ls (vi x :: st) h (if x = 0 then X else Y) :=
  fun r hr p l e R s m args below meth c Γ ad0 h0 A0 Z cx rt H locs cells slots ad la hh => lv_if_eq cx.1 cx.2.1 d ht (fun q => kt r (by rw [if_pos q] at hr; exact hr) p l e R s m args below meth c Γ ad0 h0 A0 Z cx rt H locs cells slots ad la (hh.stk hh.sv.2)) (fun q => kf r (by rw [if_neg q] at hr; exact hr) p l e R s m args below meth c Γ ad0 h0 A0 Z cx rt H locs cells slots ad la (hh.stk hh.sv.2))
theorem A_if_lt {x : Int32} {off : Int} {tgt : Nat} (d : decode (mb M) pc = .ok (.ifCond .lt off, 3)) (ht : (pc : Int) + off = (tgt : Int)) (kt : Aw ε UF M b U tgt ls st h X) (kf : Aw ε UF M b U (pc + 3) ls st h Y) : Aw ε UF M b U pc ls (vi x :: st) h (if x < 0 then X else Y) :=
  fun r hr p l e R s m args below meth c Γ ad0 h0 A0 Z cx rt H locs cells slots ad la hh => lv_if_lt cx.1 cx.2.1 d ht (fun q => kt r (by rw [if_pos q] at hr; exact hr) p l e R s m args below meth c Γ ad0 h0 A0 Z cx rt H locs cells slots ad la (hh.stk hh.sv.2)) (fun q => kf r (by rw [if_neg q] at hr; exact hr) p l e R s m args below meth c Γ ad0 h0 A0 Z cx rt H locs cells slots ad la (hh.stk hh.sv.2))
theorem A_if_ge {x : Int32} {off : Int} {tgt : Nat} (d : decode (mb M) pc = .ok (.ifCond .ge off, 3)) (ht : (pc : Int) + off = (tgt : Int)) (kt : Aw ε UF M b U tgt ls st h X) (kf : Aw ε UF M b U (pc + 3) ls st h Y) : Aw ε UF M b U pc ls (vi x :: st) h (if 0 ≤ x then X else Y) :=
  fun r hr p l e R s m args below meth c Γ ad0 h0 A0 Z cx rt H locs cells slots ad la hh => lv_if_ge cx.1 cx.2.1 d ht (fun q => kt r (by rw [if_pos q] at hr; exact hr) p l e R s m args below meth c Γ ad0 h0 A0 Z cx rt H locs cells slots ad la (hh.stk hh.sv.2)) (fun q => kf r (by rw [if_neg q] at hr; exact hr) p l e R s m args below meth c Γ ad0 h0 A0 Z cx rt H locs cells slots ad la (hh.stk hh.sv.2))
theorem A_if_gt {x : Int32} {off : Int} {tgt : Nat} (d : decode (mb M) pc = .ok (.ifCond .gt off, 3)) (ht : (pc : Int) + off = (tgt : Int)) (kt : Aw ε UF M b U tgt ls st h X) (kf : Aw ε UF M b U (pc + 3) ls st h Y) : Aw ε UF M b U pc ls (vi x :: st) h (if 0 < x then X else Y) :=
  fun r hr p l e R s m args below meth c Γ ad0 h0 A0 Z cx rt H locs cells slots ad la hh => lv_if_gt cx.1 cx.2.1 d ht (fun q => kt r (by rw [if_pos q] at hr; exact hr) p l e R s m args below meth c Γ ad0 h0 A0 Z cx rt H locs cells slots ad la (hh.stk hh.sv.2)) (fun q => kf r (by rw [if_neg q] at hr; exact hr) p l e R s m args below meth c Γ ad0 h0 A0 Z cx rt H locs cells slots ad la (hh.stk hh.sv.2))
theorem A_if_le {x : Int32} {off : Int} {tgt : Nat} (d : decode (mb M) pc = .ok (.ifCond .le off, 3)) (ht : (pc : Int) + off = (tgt : Int)) (kt : Aw ε UF M b U tgt ls st h X) (kf : Aw ε UF M b U (pc + 3) ls st h Y) : Aw ε UF M b U pc ls (vi x :: st) h (if x ≤ 0 then X else Y) :=
  fun r hr p l e R s m args below meth c Γ ad0 h0 A0 Z cx rt H locs cells slots ad la hh => lv_if_le cx.1 cx.2.1 d ht (fun q => kt r (by rw [if_pos q] at hr; exact hr) p l e R s m args below meth c Γ ad0 h0 A0 Z cx rt H locs cells slots ad la (hh.stk hh.sv.2)) (fun q => kf r (by rw [if_neg q] at hr; exact hr) p l e R s m args below meth c Γ ad0 h0 A0 Z cx rt H locs cells slots ad la (hh.stk hh.sv.2))
theorem A_icmp_eq {x y : Int32} {off : Int} {tgt : Nat} (d : decode (mb M) pc = .ok (.if_icmp .eq off, 3)) (ht : (pc : Int) + off = (tgt : Int)) (kt : Aw ε UF M b U tgt ls st h X) (kf : Aw ε UF M b U (pc + 3) ls st h Y) : Aw ε UF M b U pc ls (vi y :: vi x :: st) h (if x = y then X else Y) :=
  fun r hr p l e R s m args below meth c Γ ad0 h0 A0 Z cx rt H locs cells slots ad la hh => lv_icmp_eq cx.1 cx.2.1 d ht (fun q => kt r (by rw [if_pos q] at hr; exact hr) p l e R s m args below meth c Γ ad0 h0 A0 Z cx rt H locs cells slots ad la (hh.stk hh.sv.2.2)) (fun q => kf r (by rw [if_neg q] at hr; exact hr) p l e R s m args below meth c Γ ad0 h0 A0 Z cx rt H locs cells slots ad la (hh.stk hh.sv.2.2))
theorem A_icmp_lt {x y : Int32} {off : Int} {tgt : Nat} (d : decode (mb M) pc = .ok (.if_icmp .lt off, 3)) (ht : (pc : Int) + off = (tgt : Int)) (kt : Aw ε UF M b U tgt ls st h X) (kf : Aw ε UF M b U (pc + 3) ls st h Y) : Aw ε UF M b U pc ls (vi y :: vi x :: st) h (if x < y then X else Y) :=
  fun r hr p l e R s m args below meth c Γ ad0 h0 A0 Z cx rt H locs cells slots ad la hh => lv_icmp_lt cx.1 cx.2.1 d ht (fun q => kt r (by rw [if_pos q] at hr; exact hr) p l e R s m args below meth c Γ ad0 h0 A0 Z cx rt H locs cells slots ad la (hh.stk hh.sv.2.2)) (fun q => kf r (by rw [if_neg q] at hr; exact hr) p l e R s m args below meth c Γ ad0 h0 A0 Z cx rt H locs cells slots ad la (hh.stk hh.sv.2.2))
theorem A_icmp_ge {x y : Int32} {off : Int} {tgt : Nat} (d : decode (mb M) pc = .ok (.if_icmp .ge off, 3)) (ht : (pc : Int) + off = (tgt : Int)) (kt : Aw ε UF M b U tgt ls st h X) (kf : Aw ε UF M b U (pc + 3) ls st h Y) : Aw ε UF M b U pc ls (vi y :: vi x :: st) h (if y ≤ x then X else Y) :=
  fun r hr p l e R s m args below meth c Γ ad0 h0 A0 Z cx rt H locs cells slots ad la hh => lv_icmp_ge cx.1 cx.2.1 d ht (fun q => kt r (by rw [if_pos q] at hr; exact hr) p l e R s m args below meth c Γ ad0 h0 A0 Z cx rt H locs cells slots ad la (hh.stk hh.sv.2.2)) (fun q => kf r (by rw [if_neg q] at hr; exact hr) p l e R s m args below meth c Γ ad0 h0 A0 Z cx rt H locs cells slots ad la (hh.stk hh.sv.2.2))
theorem A_icmp_gt {x y : Int32} {off : Int} {tgt : Nat} (d : decode (mb M) pc = .ok (.if_icmp .gt off, 3)) (ht : (pc : Int) + off = (tgt : Int)) (kt : Aw ε UF M b U tgt ls st h X) (kf : Aw ε UF M b U (pc + 3) ls st h Y) : Aw ε UF M b U pc ls (vi y :: vi x :: st) h (if y < x then X else Y) :=
  fun r hr p l e R s m args below meth c Γ ad0 h0 A0 Z cx rt H locs cells slots ad la hh => lv_icmp_gt cx.1 cx.2.1 d ht (fun q => kt r (by rw [if_pos q] at hr; exact hr) p l e R s m args below meth c Γ ad0 h0 A0 Z cx rt H locs cells slots ad la (hh.stk hh.sv.2.2)) (fun q => kf r (by rw [if_neg q] at hr; exact hr) p l e R s m args below meth c Γ ad0 h0 A0 Z cx rt H locs cells slots ad la (hh.stk hh.sv.2.2))
theorem A_icmp_le {x y : Int32} {off : Int} {tgt : Nat} (d : decode (mb M) pc = .ok (.if_icmp .le off, 3)) (ht : (pc : Int) + off = (tgt : Int)) (kt : Aw ε UF M b U tgt ls st h X) (kf : Aw ε UF M b U (pc + 3) ls st h Y) : Aw ε UF M b U pc ls (vi y :: vi x :: st) h (if x ≤ y then X else Y) :=
  fun r hr p l e R s m args below meth c Γ ad0 h0 A0 Z cx rt H locs cells slots ad la hh => lv_icmp_le cx.1 cx.2.1 d ht (fun q => kt r (by rw [if_pos q] at hr; exact hr) p l e R s m args below meth c Γ ad0 h0 A0 Z cx rt H locs cells slots ad la (hh.stk hh.sv.2.2)) (fun q => kf r (by rw [if_neg q] at hr; exact hr) p l e R s m args below meth c Γ ad0 h0 A0 Z cx rt H locs cells slots ad la (hh.stk hh.sv.2.2))
theorem A_if_ne {x : Int32} {off : Int} {tgt : Nat} (d : decode (mb M) pc = .ok (.ifCond .ne off, 3)) (ht : (pc : Int) + off = (tgt : Int)) (kt : Aw ε UF M b U tgt ls st h X) (kf : Aw ε UF M b U (pc + 3) ls st h Y) : Aw ε UF M b U pc ls (vi x :: st) h (if x = 0 then Y else X) :=
  fun r hr p l e R s m args below meth c Γ ad0 h0 A0 Z cx rt H locs cells slots ad la hh => lv_if_ne cx.1 cx.2.1 d ht (fun q => kt r (by rw [if_neg q] at hr; exact hr) p l e R s m args below meth c Γ ad0 h0 A0 Z cx rt H locs cells slots ad la (hh.stk hh.sv.2)) (fun q => kf r (by rw [if_pos q] at hr; exact hr) p l e R s m args below meth c Γ ad0 h0 A0 Z cx rt H locs cells slots ad la (hh.stk hh.sv.2))
theorem A_icmp_ne {x y : Int32} {off : Int} {tgt : Nat} (d : decode (mb M) pc = .ok (.if_icmp .ne off, 3)) (ht : (pc : Int) + off = (tgt : Int)) (kt : Aw ε UF M b U tgt ls st h X) (kf : Aw ε UF M b U (pc + 3) ls st h Y) : Aw ε UF M b U pc ls (vi y :: vi x :: st) h (if x = y then Y else X) :=
  fun r hr p l e R s m args below meth c Γ ad0 h0 A0 Z cx rt H locs cells slots ad la hh => lv_icmp_ne cx.1 cx.2.1 d ht (fun q => kt r (by rw [if_neg q] at hr; exact hr) p l e R s m args below meth c Γ ad0 h0 A0 Z cx rt H locs cells slots ad la (hh.stk hh.sv.2.2)) (fun q => kf r (by rw [if_pos q] at hr; exact hr) p l e R s m args below meth c Γ ad0 h0 A0 Z cx rt H locs cells slots ad la (hh.stk hh.sv.2.2))
theorem A_goto {off : Int} {tgt : Nat} (d : decode (mb M) pc = .ok (.goto off, 3)) (ht : (pc : Int) + off = (tgt : Int)) (kk : Aw ε UF M b U tgt ls st h X) : Aw ε UF M b U pc ls st h X :=
  fun r hr p l e R s m args below meth c Γ ad0 h0 A0 Z cx rt H locs cells slots ad la hh => lv_goto cx.1 cx.2.1 d ht (kk r hr p l e R s m args below meth c Γ ad0 h0 A0 Z cx rt H locs cells slots ad la hh)
def bi (x : Bool) : Int32 := if x = true then 1 else 0
theorem A_ifb_eq {x : Bool} {off : Int} {tgt : Nat} (d : decode (mb M) pc = .ok (.ifCond .eq off, 3)) (ht : (pc : Int) + off = (tgt : Int)) (kt : Aw ε UF M b U tgt ls st h X) (kf : Aw ε UF M b U (pc + 3) ls st h Y) : Aw ε UF M b U pc ls (vi (bi x) :: st) h (if x = true then Y else X) := by
  cases x
  · intro r hr
    exact A_if_eq (X := X) (Y := Y) d ht kt kf r (by simpa [bi] using hr)
  · intro r hr
    exact A_if_eq (X := X) (Y := Y) d ht kt kf r (by simpa [bi] using hr)
theorem A_ifb_ne {x : Bool} {off : Int} {tgt : Nat} (d : decode (mb M) pc = .ok (.ifCond .ne off, 3)) (ht : (pc : Int) + off = (tgt : Int)) (kt : Aw ε UF M b U tgt ls st h X) (kf : Aw ε UF M b U (pc + 3) ls st h Y) : Aw ε UF M b U pc ls (vi (bi x) :: st) h (if x = true then X else Y) := by
  cases x
  · intro r hr
    exact A_if_ne (X := X) (Y := Y) d ht kt kf r (by simpa [bi] using hr)
  · intro r hr
    exact A_if_ne (X := X) (Y := Y) d ht kt kf r (by simpa [bi] using hr)
theorem A_ifnull {t : Nat} {o : Option Nat} {off : Int} {tgt : Nat} (d : decode (mb M) pc = .ok (.ifnull off, 3)) (ht : (pc : Int) + off = (tgt : Int)) (kn : o = none → Aw ε UF M b U (tgt) ls st h X) (ks : ∀ i, o = some i → Aw ε UF M b U (pc + 3) ls st h X) : Aw ε UF M b U pc ls (vr t o :: st) h X := by
  intro r hr p l e R s m args below meth c Γ ad0 h0 A0 Z cx rt H locs cells slots ad la hh
  cases o with
  | none => exact lv_ifnullN cx.1 cx.2.1 d ht (kn rfl r hr p l e R s m args below meth c Γ ad0 h0 A0 Z cx rt H locs cells slots ad la (hh.stk hh.sv.2))
  | some i => exact lv_ifnull cx.1 cx.2.1 d (ks i rfl r hr p l e R s m args below meth c Γ ad0 h0 A0 Z cx rt H locs cells slots ad la (hh.stk hh.sv.2))
theorem A_ifnonnull {t : Nat} {o : Option Nat} {off : Int} {tgt : Nat} (d : decode (mb M) pc = .ok (.ifnonnull off, 3)) (ht : (pc : Int) + off = (tgt : Int)) (kn : o = none → Aw ε UF M b U (pc + 3) ls st h X) (ks : ∀ i, o = some i → Aw ε UF M b U (tgt) ls st h X) : Aw ε UF M b U pc ls (vr t o :: st) h X := by
  intro r hr p l e R s m args below meth c Γ ad0 h0 A0 Z cx rt H locs cells slots ad la hh
  cases o with
  | none => exact lv_ifnonnullN cx.1 cx.2.1 d (kn rfl r hr p l e R s m args below meth c Γ ad0 h0 A0 Z cx rt H locs cells slots ad la (hh.stk hh.sv.2))
  | some i => exact lv_ifnonnull cx.1 cx.2.1 d ht (ks i rfl r hr p l e R s m args below meth c Γ ad0 h0 A0 Z cx rt H locs cells slots ad la (hh.stk hh.sv.2))
theorem Rp.congrU {Γ : GW} {U UF : US} {ad : AD} {A0 : Nat → Prop} {h : Hp} {H : Heap} (x : Rp Γ U ad A0 h H) (hU : ∀ t i k, t < 9 → i < gN h t → ¬ fty t k = 0 → ¬ fty t k = 1 → UF t i k = U t i k) : Rp Γ UF ad A0 h H := by
  have hc : ∀ t i, t < TT → i < gN h t → cellOf Γ UF ad h t i = cellOf Γ U ad h t i := by
    intro t i h1 h2
    unfold cellOf
    by_cases h9 : t < 9
    · rw [if_pos h9, if_pos h9]
      congr 2
      refine List.map_congr_left fun k _ => ?_
      unfold fval
      by_cases hf0 : fty t k = 0
      · rw [if_pos hf0, if_pos hf0]
      · by_cases hf1 : fty t k = 1
        · rw [if_neg hf0, if_pos hf1, if_neg hf0, if_pos hf1]
        · rw [hU t i k h9 h2 hf0 hf1]
    · rw [if_neg h9, if_neg h9]
  refine ⟨fun t i h1 h2 => by rw [hc t i h1 h2]; exact x.1 t i h1 h2, x.2.1, x.2.2.1, fun t i k h1 h2 h3 h4 => x.2.2.2.1 t i k h1 h2 h3 (by rw [← hU t i k h1 h2 (by omega) (by omega)]; exact h4), x.2.2.2.2⟩
theorem A_ret {r : ρ} {v : Option AV} (hv : ε r = (v, h)) (hs : v.toList = st) (ha : RetAt M pc v) (hU : ∀ t i k, t < 9 → i < gN h t → ¬ fty t k = 0 → ¬ fty t k = 1 → UF t i k = U t i k) : Aw ε UF M b U pc ls st h (some r) := by
  intro r' hr p l e R s m args below meth c Γ ad0 h0 A0 Z cx rt H locs cells slots ad la hh
  cases hr
  rw [hv] at rt
  subst hs
  exact rt H locs cells slots ad la pc (hh.1.congrU hU) hh.2.1 hh.sv hh.2.2.2.2.2.1 (by have := hh.2.2.2.2.2.2.1; show cells ≤ R.cells; omega) (by have := hh.2.2.2.2.2.2.2; show slots ≤ R.slots; omega) ha
end
