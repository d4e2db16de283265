/-! ===== the words that every method rests on; a method's own numbers; the judgement ===== -/
def WSG : List Cond := lw_tbl.filter goodWord
theorem WSG_in {w : Cond} (h : w ∈ WSG) : w ∈ lw_tbl := (List.mem_filter.mp h).1
theorem WSG_g {ws : List Cond} (h : ∀ w ∈ ws, w ∈ WSG) : GoodIn WSG ws := fun w hw => ⟨h w hw, good_of_word (List.mem_filter.mp (h w hw)).2⟩
theorem WSG_c {c : Cond} (h : c ∈ WSG) : ∀ w ∈ c :: WSG, w ∈ WSG := fun w hw => by
  rcases List.mem_cons.mp hw with rfl | k
  · exact h
  · exact k
/-- name, code, locals, what it answers, room; the script, where it is the law -/
abbrev MD : Type := MethodName × ByteArray × Nat × Option FieldType × Room × Option (Nat × (Nat → Int32))
abbrev my (M : MD) : MethodName := M.1
abbrev mb (M : MD) : ByteArray := M.2.1
abbrev mL (M : MD) : Nat := M.2.2.1
abbrev mr (M : MD) : Option FieldType := M.2.2.2.1
abbrev mrm (M : MD) : Room := M.2.2.2.2.1
abbrev msc (M : MD) : Option (Nat × (Nat → Int32)) := M.2.2.2.2.2
def wsM (M : MD) : List Cond := Cond.code (my M) (mb M) (mL M) (mr M) :: WSG
def nestL : List (String × Nat × MethodName × String) := [(RX5, 23, yX7_isWithin, RX7), (RX4, 103, yX7_isInSet, RX7), (RX3, 25, yX7_isWithin, RX7)]
def KK (Γ : GW) (U : State) : Prop := va_K Γ.1 vwCl (tysOf Γ.2) U ∧ (∀ q ∈ nestL, va_Nw (.methodLinkNest q.1 q.2.1 q.2.2.1 q.2.2.2) U) ∧ ∀ C ∈ [RX0, RX1, RX6], va_AO C U
theorem KK.warm {Γ : GW} {s U : State} (hW : s.WarmedH U.vm) (h : KK Γ s) : KK Γ U := ⟨va_K.moved hW.alike h.1, fun q hq => va_Nw.warmM hW (h.2.1 q hq), fun C hC => (h.2.2 C hC).moved hW.alike⟩
theorem KK.call {Γ : GW} {U : State} (g : JFrame) (mk : MethodId) (a : Array Value) (h : KK Γ U) : KK Γ (U.calling g mk a) := ⟨va_K.moved (u := U) (U := U.calling g mk a) (Vm.Alike.refl U.vm) h.1, fun q hq => va_Nw.same rfl (u := U) rfl (h.2.1 q hq), fun C hC => (h.2.2 C hC).moved (U := U.calling g mk a) (Vm.Alike.refl U.vm)⟩
/-- the machine, the code, the words, the tables of this method's frame -/
def Cx (M : MD) (p : Program) (R : Room) (s : State) (m : MethodId) (args : Array Value) (meth : Method) (c : Code) (Γ : GW) (ad0 : AD) (A0 : Nat → Prop) : Prop :=
  p.tables.exec = Jvm.exec ∧ c.code = mb M ∧ c.maxLocals = mL M ∧ s.vm.findClass (my M).cls = some m.cls ∧ (∀ w ∈ WSG, w.before args s = true) ∧ KK Γ s ∧ (∀ q, s.heap.size ≤ q → A0 q) ∧ ((my M).name = "<init>" → meth.name = "<init>") ∧ R = mrm M ∧
  (∀ L xs, msc M = some (L, xs) → va_X (ad0 99 0) L xs s s.heap ∧ ad0 99 0 < s.heap.size ∧ ¬ A0 (ad0 99 0))
/-- what holds at a point: the heap, the frame's writes, locals, stack, room left -/
def Hr (M : MD) (Γ : GW) (U : US) (ad0 : AD) (h0 : Hp) (ad : AD) (A0 : Nat → Prop) (s : State) (R : Room) (b : Nat × Nat) (ls : List (Option AV)) (st : List AV) (h : Hp) (H : Heap) (locs : List Loc) (cells slots : Nat) (la : Array Slot) : Prop :=
  Rp Γ U ad A0 h H ∧ va_S A0 s.heap H locs ∧ lv_has la (mL M) (lvo ad 0 ls) ∧ VokL h st ∧ VokO h ls ∧ Ext ad0 h0 ad h ∧ cells + b.1 ≤ R.cells ∧ slots + b.2 ≤ R.slots
/-- a return instruction of the right kind stands at pc -/
def RetAt (M : MD) (pc : Nat) : Option AV → Prop
  | none => decode (mb M) pc = .ok (.return_, 1) ∧ mr M = none
  | some (.inl x) => decode (mb M) pc = .ok (.ireturn, 1) ∧ ∃ ty, mr M = some ty ∧ narrow ty (.int x) = .int x
  | some (.inr (.inl _)) => decode (mb M) pc = .ok (.lreturn, 1) ∧ mr M = some .long
  | some (.inr (.inr _)) => decode (mb M) pc = .ok (.areturn, 1) ∧ ∃ n, mr M = some (.object n)
def Rt (M : MD) (p : Program) (l : Launch) (e : Env) (R : Room) (s : State) (m : MethodId) (args : Array Value) (below : List Frame) (meth : Method) (c : Code) (Γ : GW) (ad0 : AD) (h0 : Hp) (A0 : Nat → Prop) (UF : US) (Z : State → Prop) (res : Option AV × Hp) : Prop :=
  ∀ (H : Heap) (locs : List Loc) (cells slots : Nat) (ad : AD) (la : Array Slot) (pc : Nat), Rp Γ UF ad A0 res.2 H → va_S A0 s.heap H locs → VokL res.2 res.1.toList → Ext ad0 h0 ad res.2 → cells ≤ R.cells → slots ≤ R.slots → RetAt M pc res.1 →
    W p l e R s m args below meth c H locs cells slots Z (F0 m pc la (res.1.toList.map (cv ad)))
/-- from this point, if X says what is answered and left, the machine comes to a return of just that -/
def Aw {ρ : Type} (ε : ρ → Option AV × Hp) (UF : US) (M : MD) (b : Nat × Nat) (U : US) (pc : Nat) (ls : List (Option AV)) (st : List AV) (h : Hp) (X : Option ρ) : Prop :=
  ∀ r, X = some r → ∀ (p : Program) (l : Launch) (e : Env) (R : Room) (s : State) (m : MethodId) (args : Array Value) (below : List Frame) (meth : Method) (c : Code) (Γ : GW) (ad0 : AD) (h0 : Hp) (A0 : Nat → Prop) (Z : State → Prop),
    Cx M p R s m args meth c Γ ad0 A0 → Rt M p l e R s m args below meth c Γ ad0 h0 A0 UF Z (ε r) → ∀ (H : Heap) (locs : List Loc) (cells slots : Nat) (ad : AD) (la : Array Slot), Hr M Γ U ad0 h0 ad A0 s R b ls st h H locs cells slots la →
      W p l e R s m args below meth c H locs cells slots Z (F0 m pc la (st.map (cv ad)))
/-- which real cells a call may change: those of the abstract heap, and new ones -/
def AA (ad : AD) (h : Hp) (sz : Nat) : Nat → Prop := fun q => (∃ t i, t < TT ∧ i < gN h t ∧ q = ad t i) ∨ sz ≤ q
def QcM (Γ : GW) (UF : US) (ad : AD) (A1 : Nat → Prop) (h : Hp) (res : Option AV × Hp) : Array Value → State → Outcome → State → Prop := fun _ st o t =>
  ∃ ad' : AD, o = .returned (res.1.map (cv ad')) ∧ Rp Γ UF ad' A1 res.2 t.heap ∧ Ext ad h ad' res.2 ∧ VokL res.2 res.1.toList ∧ va_F A1 st t
def PcM (Γ : GW) (U : US) (ad : AD) (h : Hp) (sz : Nat) (av : List AV) : Array Value → State → Prop := va_Pc (av.map (cv ad)) (fun T => T.heap.size = sz ∧ Rp Γ U ad (fun _ => True) h T.heap ∧ KK Γ T)
/-- a method's contract: called with av in the heap h it answers and leaves res -/
def Ct (M : MD) (U UF : US) (av : List AV) (h : Hp) (res : Option AV × Hp) : Prop :=
  ∀ (l : Launch) (Γ : GW) (ad : AD) (sz : Nat), VokL h av → Met l (my M) (wsM M) (mrm M) (PcM Γ U ad h sz av) (QcM Γ UF ad (AA ad h sz) h res) (mrm M).cells (mrm M).slots (AA ad h sz)
def CtA {ρ : Type} (ε : ρ → Option AV × Hp) (M : MD) (U UF : US) (av : List AV) (h : Hp) (X : Option ρ) : Prop := ∀ r, X = some r → Ct M U UF av h (ε r)
theorem Hr.stk {M : MD} {Γ : GW} {U : US} {ad0 : AD} {h0 : Hp} {ad : AD} {A0 : Nat → Prop} {s : State} {R : Room} {b : Nat × Nat} {ls : List (Option AV)} {st st' : List AV} {h : Hp} {H : Heap} {locs : List Loc} {cells slots : Nat} {la : Array Slot} (x : Hr M Γ U ad0 h0 ad A0 s R b ls st h H locs cells slots la) (v : VokL h st') : Hr M Γ U ad0 h0 ad A0 s R b ls st' h H locs cells slots la := ⟨x.1, x.2.1, x.2.2.1, v, x.2.2.2.2⟩
theorem Hr.sv {M : MD} {Γ : GW} {U : US} {ad0 : AD} {h0 : Hp} {ad : AD} {A0 : Nat → Prop} {s : State} {R : Room} {b : Nat × Nat} {ls : List (Option AV)} {st : List AV} {h : Hp} {H : Heap} {locs : List Loc} {cells slots : Nat} {la : Array Slot} (x : Hr M Γ U ad0 h0 ad A0 s R b ls st h H locs cells slots la) : VokL h st := x.2.2.2.1
theorem Aw.none {ρ : Type} {ε : ρ → Option AV × Hp} {UF : US} {M : MD} {b : Nat × Nat} {U : US} {pc : Nat} {ls : List (Option AV)} {st : List AV} {h : Hp} : Aw ε UF M b U pc ls st h none := fun r hr => by cases hr
/-- a method's body out of its entry -/
def posL : List AV → List (Option AV)
  | [] => []
  | .inr (.inl x) :: l => some (.inr (.inl x)) :: none :: posL l
  | v :: l => some v :: posL l
theorem posL_mem {ad : AD} {q : Nat × Value} : ∀ {av : List AV} {k n : Nat}, q ∈ lvo ad k (posL av ++ List.replicate n none) → q ∈ lv_args k (av.map (cv ad))
  | [], k, n, h => by
    obtain ⟨j, v, h1, -⟩ := lvo_mem.mp h
    simp [posL, List.getElem?_replicate] at h1
  | .inr (.inl x) :: l, k, n, h => by
    simp only [posL, List.cons_append, lvo, List.mem_cons] at h
    simp only [List.map_cons, lv_args, List.mem_cons]
    rcases h with h | h
    · exact Or.inl h
    · exact Or.inr (posL_mem (av := l) (n := n) (by simpa [cv, Value.category] using h))
  | .inl x :: l, k, n, h => by
    simp only [posL, List.cons_append, lvo, List.mem_cons] at h
    simp only [List.map_cons, lv_args, List.mem_cons]
    rcases h with h | h
    · exact Or.inl h
    · exact Or.inr (posL_mem (av := l) (n := n) (by simpa [cv, Value.category] using h))
  | .inr (.inr (t, o)) :: l, k, n, h => by
    simp only [posL, List.cons_append, lvo, List.mem_cons] at h
    simp only [List.map_cons, lv_args, List.mem_cons]
    rcases h with h | h
    · exact Or.inl h
    · refine Or.inr (posL_mem (av := l) (n := n) ?_)
      have hc : (cv ad (.inr (.inr (t, o)))).category = 1 := cv_catr t o
      rw [hc]
      simpa using h
theorem posL_vok {h : Hp} {n : Nat} : ∀ {av : List AV}, VokL h av → VokO h (posL av ++ List.replicate n none)
  | [], _ => by
    induction n with
    | zero => trivial
    | succ n ih => exact ih
  | .inr (.inl _) :: l, k => ⟨trivial, posL_vok (av := l) k.2⟩
  | .inl _ :: l, k => ⟨trivial, posL_vok (av := l) k.2⟩
  | .inr (.inr (_, _)) :: l, k => ⟨k.1, posL_vok (av := l) k.2⟩
theorem lg_cons (v : Value) (vs : List Value) : (lg_sl (v :: vs)).length = (if v.category = 2 then 2 else 1) + (lg_sl vs).length := by
  unfold lg_sl
  rw [List.flatMap_cons, List.length_append]
  split <;> rfl
theorem posL_len {ad : AD} : ∀ {av : List AV}, (lg_sl (av.map (cv ad))).length = (posL av).length
  | [] => rfl
  | .inr (.inl x) :: l => by
    rw [List.map_cons, lg_cons, posL_len (av := l), if_pos (show (cv ad (.inr (.inl x))).category = 2 from rfl)]
    simp only [posL, List.length_cons]
    omega
  | .inl x :: l => by
    rw [List.map_cons, lg_cons, posL_len (av := l), if_neg (show ¬ (cv ad (.inl x)).category = 2 from fun q => absurd q (by simp [cv, Value.category]))]
    simp only [posL, List.length_cons]
    omega
  | .inr (.inr (t, o)) :: l => by
    have hc : (cv ad (.inr (.inr (t, o)))).category = 1 := cv_catr t o
    rw [List.map_cons, lg_cons, posL_len (av := l), if_neg (by rw [hc]; decide)]
    simp only [posL, List.length_cons]
    omega
set_option maxHeartbeats 4000000 in
theorem Ct.of {ρ : Type} {ε : ρ → Option AV × Hp} {M : MD} {U UF : US} {av : List AV} {h : Hp} {X : Option ρ} {ls : List (Option AV)} {n : Nat} (hpl : plainName (my M).cls = true) (hls : posL av ++ List.replicate n none = ls) (hn : ls.length = mL M) (hsc : msc M = none)
    (k : Aw ε UF M ((mrm M).cells, (mrm M).slots) U 0 ls [] h X) : CtA ε M U UF av h X := by
  intro r hr l Γ ad sz hav
  refine Met.ofW (cc := mb M) (maxL := mL M) (ret := mr M) (ws' := WSG) hpl rfl ?_
  intro p e s m args below meth c s₁ B hml hv
  obtain ⟨rfl, hsz, hP, hK⟩ := hv
  have hts := atoms_spec (ws := wsM M) B.pre
  have hown : s.vm.findClass (my M).cls = some m.cls := findClass_of_methodNamed B.named
  have hlocks := B.notSynchronized
  have hl0 : (lg_sl (av.map (cv ad))).length ≤ mL M := by
    rw [posL_len, ← hn, ← hls, List.length_append]
    exact Nat.le_add_right _ _
  have hl := lv_entry (av.map (cv ad)) (n := mL M) hl0
  rw [lg_entry_eq]
  generalize (lg_sl (av.map (cv ad)) ++ List.replicate (mL M - (lg_sl (av.map (cv ad))).length) Slot.unset).toArray = la at hl ⊢
  have hA : ∀ q, s.heap.size ≤ q → AA ad h sz q := fun q hq => Or.inr (by rw [← hsz]; exact hq)
  have cx : Cx M p (mrm M) s m ((av.map (cv ad)).toArray) meth c Γ ad (AA ad h sz) := ⟨B.exec, B.bytes, hml, hown, fun w hw => hts w (List.mem_cons_of_mem _ hw), hK, hA, fun q => (name_of_methodNamed B.named B.method).1.trans q, rfl, fun L xs e => by rw [hsc] at e; cases e⟩
  have hR : Rp Γ U ad (AA ad h sz) h s.heap := ⟨hP.1, hP.2.1, fun t i a b => Or.inl ⟨t, i, a, b, rfl⟩, hP.2.2.2.1, hP.2.2.2.2⟩
  refine k r hr p l e (mrm M) s m _ below meth c Γ ad h (AA ad h sz) _ cx ?_ s.heap [] 0 0 ad la ⟨hR, va_S.rf, ?_, trivial, ?_, Ext.rf ad h, by simp, by simp⟩
  · intro H locs cells slots ad' la' pc h1 h2 h3 h4 h5 h6 h7
    refine W.widen (k := (mrm M).cells) (n := (mrm M).slots) h5 h6 ?_
    have hr0 := B.returns
    match hv : (ε r).1, h7 with
    | none, h7 => exact W.vret B.exec B.bytes (hr0.trans h7.2) (fun t ht hW => ⟨ad', by rw [hv]; rfl, by rw [ht]; exact h1, h4, h3, h2.F ht⟩) h2.2.2 h7.1
    | some (.inl x), h7 =>
      obtain ⟨d, ty, e1, e2⟩ := h7
      exact W.zret B.exec B.bytes (hr0.trans e1) e2 (fun t ht hW => ⟨ad', by rw [hv]; rfl, by rw [ht]; exact h1, h4, h3, h2.F ht⟩) h2.2.2 d
    | some (.inr (.inl x)), h7 => exact W.lret B.exec B.bytes (hr0.trans h7.2) (fun t ht hW => ⟨ad', by rw [hv]; rfl, by rw [ht]; exact h1, h4, h3, h2.F ht⟩) h2.2.2 h7.1
    | some (.inr (.inr (t0, o))), h7 =>
      obtain ⟨d, nm, e1⟩ := h7
      exact W.aret B.exec B.bytes (hr0.trans e1) (Or.inl ⟨nm, rfl⟩) (by cases o <;> simp [cv, va_rf]) (fun t ht hW => ⟨ad', by rw [hv]; rfl, by rw [ht]; exact h1, h4, h3, h2.F ht⟩) h2.2.2 d
  · refine lv_less hl fun q hq => ?_
    rw [← hls] at hq
    exact posL_mem hq
  · rw [← hls]
    exact posL_vok hav
