/-! ===== fields and arrays ===== -/
/-- what the tables say of a class by its number -/
def ClF (t : Nat) (C : String) (T : u_T) (N : Nat) (ty : Nat → FieldType) : Prop := vwCl[t]? = some (C, T, N) ∧ (∀ w ∈ u_ws C T N, w ∈ WSG) ∧ (∀ k, k < N → parseFieldDescriptor (T k).2.2.1 = some (ty k)) ∧ (∀ a, a < N → ∀ b, b < N → a ≠ b → (T a).2.1 ≠ (T b).2.1) ∧ nfl t = N ∧ t < 9
theorem cellOf_o (Γ : GW) (U : US) (ad : AD) (h : Hp) {t : Nat} (ht : t < 9) (i : Nat) : cellOf Γ U ad h t i = .inr (t, (List.range (nfl t)).map (fval U ad h t i)) := if_pos ht
theorem cellOf_a (Γ : GW) (U : US) (ad : AD) (h : Hp) {t : Nat} (ht : ¬ t < 9) (i : Nat) : cellOf Γ U ad h t i = .inl (Γ.2 (aty t), alen t, acont ad h t i) := if_neg ht
theorem map_range_set {β : Type} (f g : Nat → β) (n k : Nat) (hk : k < n) (hg : ∀ j, j ≠ k → g j = f j) : (List.range n).map g = ((List.range n).map f).set k (g k) := by
  apply List.ext_getElem?
  intro j
  by_cases hj : j = k
  · subst hj
    rw [List.getElem?_set_self (by simpa using hk)]
    simp [hk]
  · rw [List.getElem?_set_ne (Ne.symm hj)]
    simp only [List.getElem?_map]
    cases he : (List.range n)[j]? with
    | none => rfl
    | some a =>
      have : a = j := by
        obtain ⟨h1, h2⟩ := List.getElem?_eq_some_iff.mp he
        simpa using h2.symm
      subst this
      simp [hg a hj]
section
variable {ρ : Type} {ε : ρ → Option AV × Hp} {UF : US} {M : MD} {b : Nat × Nat} {U : US} {pc : Nat} {ls : List (Option AV)} {st : List AV} {h : Hp} {X Y : Option ρ}
theorem Vok.ref {h : Hp} {t i : Nat} (k : Vok h (vr t (some i))) (ht : t < TT) : i < gN h t := by
  rcases k with k | k
  · exact absurd ht (by rw [k]; decide)
  · exact k.2
set_option maxHeartbeats 1000000 in
theorem A_getV {t i k idx : Nat} {C : String} {T : u_T} {N : Nat} {ty : Nat → FieldType} {v : AV} (F : ClF t C T N ty) (hk : k < N) (d : decode (mb M) pc = .ok (.getfield idx, 3)) (hl : Cond.fieldLink (my M).cls idx (T k).1 (T k).2.1 (T k).2.2.1 ∈ WSG) (hv : ∀ ad, fval U ad h t i k = cv ad v) (hvk : i < gN h t → (∀ t i k, t < 9 → i < gN h t → fty t k = 2 → U t i k = false → ptag t k < TT ∧ i < gN h (ptag t k)) → Vok h v)
    (kk : Aw ε UF M b U (pc + 3) ls (v :: st) h X) : Aw ε UF M b U pc ls (vr t (some i) :: st) h X := by
  intro r hr p l e R s m args below meth c Γ ad0 h0 A0 Z cx rt H locs cells slots ad la hh
  obtain ⟨hc, hin, hty, hnm, hN, h9⟩ := F
  have hT : t < TT := Nat.lt_trans h9 (by decide)
  have hi := hh.sv.1.ref hT
  obtain ⟨q, -, hq⟩ := wsd_at (Γ := Γ) (U := U) (ad := ad) hT hi
  rw [cellOf_o Γ U ad h h9] at hq
  refine va_get (v := cv ad v) cx.1 cx.2.1 cx.2.2.2.2.1 hin cx.2.2.2.1 cx.2.2.2.2.2.1.1 hh.1.toP q hq hc k hk (cx.2.2.2.2.1 _ hl) (fun _ x => x) ?_ d ?_
  · rw [List.getElem?_map, List.getElem?_range (by rw [hN]; exact hk)]
    exact congrArg some (hv ad)
  · exact kk r hr p l e R s m args below meth c Γ ad0 h0 A0 Z cx rt H locs cells slots ad la (hh.stk ⟨hvk hi hh.1.2.2.2.1, hh.sv.2⟩)
theorem A_getI {t i k idx : Nat} {C : String} {T : u_T} {N : Nat} {ty : Nat → FieldType} (F : ClF t C T N ty) (hk : k < N) (d : decode (mb M) pc = .ok (.getfield idx, 3)) (hl : Cond.fieldLink (my M).cls idx (T k).1 (T k).2.1 (T k).2.2.1 ∈ WSG) (hf : fty t k = 0)
    (kk : Aw ε UF M b U (pc + 3) ls (vi (gI h t i k) :: st) h X) : Aw ε UF M b U pc ls (vr t (some i) :: st) h X := A_getV (v := vi (gI h t i k)) F hk d hl (fun ad => by unfold fval; rw [if_pos hf]; rfl) (fun _ _ => trivial) kk
theorem A_getL {t i k idx : Nat} {C : String} {T : u_T} {N : Nat} {ty : Nat → FieldType} (F : ClF t C T N ty) (hk : k < N) (d : decode (mb M) pc = .ok (.getfield idx, 3)) (hl : Cond.fieldLink (my M).cls idx (T k).1 (T k).2.1 (T k).2.2.1 ∈ WSG) (hf : fty t k = 1)
    (kk : Aw ε UF M b U (pc + 3) ls (vl (gL h t i k) :: st) h X) : Aw ε UF M b U pc ls (vr t (some i) :: st) h X := A_getV (v := vl (gL h t i k)) F hk d hl (fun ad => by unfold fval; rw [if_neg (by omega), if_pos hf]; rfl) (fun _ _ => trivial) kk
theorem A_getS {t i k idx tp : Nat} {C : String} {T : u_T} {N : Nat} {ty : Nat → FieldType} (F : ClF t C T N ty) (hk : k < N) (d : decode (mb M) pc = .ok (.getfield idx, 3)) (hl : Cond.fieldLink (my M).cls idx (T k).1 (T k).2.1 (T k).2.2.1 ∈ WSG) (hf : fty t k = 2) (hp : ptag t k = tp) (hu : U t i k = false)
    (kk : Aw ε UF M b U (pc + 3) ls (vr tp (some i) :: st) h X) : Aw ε UF M b U pc ls (vr t (some i) :: st) h X := by
  subst hp
  exact A_getV (v := vr (ptag t k) (some i)) F hk d hl (fun ad => by unfold fval; rw [if_neg (by omega), if_neg (by omega), if_neg (by rw [hu]; decide)]; rfl) (fun hi hc => Or.inr (hc t i k F.2.2.2.2.2 hi hf hu)) kk
theorem Hr.wr {M : MD} {Γ : GW} {U U' : US} {ad0 : AD} {h0 : Hp} {ad : AD} {A0 : Nat → Prop} {s : State} {R : Room} {b : Nat × Nat} {ls : List (Option AV)} {st st' : List AV} {h h' : Hp} {H H1 : Heap} {locs locs1 : List Loc} {cells slots : Nat} {la : Array Slot} (x : Hr M Γ U ad0 h0 ad A0 s R b ls st h H locs cells slots la) (hN : gN h' = gN h) (hR : Rp Γ U' ad A0 h' H1) (hS : va_S A0 s.heap H1 locs1) (v : VokL h st') : Hr M Γ U' ad0 h0 ad A0 s R b ls st' h' H1 locs1 cells slots la :=
  ⟨hR, hS, x.2.2.1, v.mono (fun t => by rw [hN]; exact Nat.le_refl _), x.2.2.2.2.1.mono (fun t => by rw [hN]; exact Nat.le_refl _), x.2.2.2.2.2.1.same hN, x.2.2.2.2.2.2⟩
set_option maxHeartbeats 1000000 in
/-- a field that isn't final, or a final one in its constructor -/
theorem A_putV {t i k idx : Nat} {C : String} {T : u_T} {N : Nat} {ty : Nat → FieldType} {v : AV} {U' : US} {h' : Hp} (F : ClF t C T N ty) (hk : k < N) (d : decode (mb M) pc = .ok (.putfield idx, 3)) (hl : Cond.fieldLink (my M).cls idx (T k).1 (T k).2.1 (T k).2.2.1 ∈ WSG)
    (hfin : (T k).2.2.2 = false ∨ ((my M).name = "<init>" ∧ (T k).1 = (my M).cls)) (hnar : ∀ ad, narrow (ty k) (cv ad v) = cv ad v ∧ fits (ty k) (cv ad v) = true)
    (hN : gN h' = gN h) (hk2 : ∀ ad, fval U' ad h' t i k = cv ad v) (hj : ∀ ad j, j ≠ k → fval U' ad h' t i j = fval U ad h t i j) (ho : ∀ (Γ : GW) ad a c, ¬ (a = t ∧ c = i) → cellOf Γ U' ad h' a c = cellOf Γ U ad h a c)
    (c4 : Vok h v → (∀ t i k, t < 9 → i < gN h t → fty t k = 2 → U t i k = false → ptag t k < TT ∧ i < gN h (ptag t k)) → ∀ t i k, t < 9 → i < gN h t → fty t k = 2 → U' t i k = false → ptag t k < TT ∧ i < gN h (ptag t k)) (c5 : gP h' = gP h)
    (kk : Aw ε UF M b U' (pc + 3) ls st h' X) : Aw ε UF M b U pc ls (v :: vr t (some i) :: st) h X := by
  intro r hr p l e R s m args below meth c Γ ad0 h0 A0 Z cx rt H locs cells slots ad la hh
  obtain ⟨hc, hin, hty, hnm, hNn, h9⟩ := F
  have hT : t < TT := Nat.lt_trans h9 (by decide)
  have hi := hh.sv.2.1.ref hT
  obtain ⟨q, -, hq⟩ := wsd_at (Γ := Γ) (U := U) (ad := ad) hT hi
  have hq0 := hq
  rw [cellOf_o Γ U ad h h9] at hq
  have hcell : cellOf Γ U' ad h' t i = .inr (t, ((List.range (nfl t)).map (fval U ad h t i)).set k (cv ad v)) := by
    rw [cellOf_o Γ U' ad h' h9, map_range_set (fval U ad h t i) (fval U' ad h' t i) (nfl t) k (by rw [hNn]; exact hk) (hj ad), hk2 ad]
  have hlen : k < ((List.range (nfl t)).map (fval U ad h t i)).length := by simpa [hNn] using hk
  have key : ∀ (H1 : Heap) (locs1 : List Loc), va_P Γ.1 vwCl ((wsd Γ U ad h).set q (ad t i, .inr (t, ((List.range (nfl t)).map (fval U ad h t i)).set k (cv ad v)))) H1 → va_D A0 ((wsd Γ U ad h).set q (ad t i, .inr (t, ((List.range (nfl t)).map (fval U ad h t i)).set k (cv ad v)))) → va_S A0 s.heap H1 locs1 → W p l e R s m args below meth c H1 locs1 cells slots Z (F0 m (pc + 3) la (st.map (cv ad))) := by
    intro H1 locs1 g1 g2 g3
    exact kk r hr p l e R s m args below meth c Γ ad0 h0 A0 Z cx rt H1 locs1 cells slots ad la (hh.wr hN (hh.1.ofSet hq0 hT hi hN hcell g1 (ho Γ ad) (c4 hh.sv.1 hh.1.2.2.2.1) (by rw [c5]; exact hh.1.2.2.2.2)) g3 hh.sv.2.2)
  rcases hfin with hfin | ⟨hfi, hdc⟩
  · by_cases hf2 : (T k).2.2.2 = false
    · exact va_put (v := cv ad v) cx.1 cx.2.1 cx.2.2.2.2.1 hin ty hty hnm cx.2.2.2.1 cx.2.2.2.2.2.1.1 hh.1.toP hh.1.toD hh.2.1 q hq hc k hk (cx.2.2.2.2.1 _ hl) (fun _ x => x) hf2 (hty k hk) (hnar ad).1 (hnar ad).2 hlen d key
    · exact absurd hfin hf2
  · by_cases hf2 : (T k).2.2.2 = true
    · exact va_putF (v := cv ad v) cx.1 cx.2.1 cx.2.2.2.2.1 hin ty hty hnm cx.2.2.2.1 cx.2.2.2.2.2.1.1 hh.1.toP hh.1.toD hh.2.1 q hq hc k hk (cx.2.2.2.2.1 _ hl) (fun _ x => x) hf2 (cx.2.2.2.2.2.2.2.1 hfi) hdc (hty k hk) (hnar ad).1 (hnar ad).2 hlen d key
    · exact va_put (v := cv ad v) cx.1 cx.2.1 cx.2.2.2.2.1 hin ty hty hnm cx.2.2.2.1 cx.2.2.2.2.2.1.1 hh.1.toP hh.1.toD hh.2.1 q hq hc k hk (cx.2.2.2.2.1 _ hl) (fun _ x => x) (by simpa using hf2) (hty k hk) (hnar ad).1 (hnar ad).2 hlen d key
theorem fval_wI {U : US} {ad : AD} {h : Hp} {t i k : Nat} {x : Int32} {a c j : Nat} (hne : ¬ (a = t ∧ c = i ∧ j = k)) : fval U ad (wI h t i k x) a c j = fval U ad h a c j := by
  unfold fval
  rw [gI_wI, if_neg hne, gL_wI]
theorem cellOf_wI {Γ : GW} {U : US} {ad : AD} {h : Hp} {t i k : Nat} {x : Int32} {a c : Nat} (hne : ¬ (a = t ∧ c = i)) : cellOf Γ U ad (wI h t i k x) a c = cellOf Γ U ad h a c := by
  unfold cellOf
  split
  · congr 2
    exact List.map_congr_left fun j _ => fval_wI (fun q => hne ⟨q.1, q.2.1⟩)
  · congr 3
    unfold acont
    rw [gL_wI, gP_wI, show gI (wI h t i k x) a c = gI h a c from funext fun j => by rw [gI_wI, if_neg (fun q => hne ⟨q.1, q.2.1⟩)]]
theorem A_putI {t i k idx : Nat} {C : String} {T : u_T} {N : Nat} {ty : Nat → FieldType} {x : Int32} (F : ClF t C T N ty) (hk : k < N) (d : decode (mb M) pc = .ok (.putfield idx, 3)) (hl : Cond.fieldLink (my M).cls idx (T k).1 (T k).2.1 (T k).2.2.1 ∈ WSG) (hf : fty t k = 0)
    (hfin : (T k).2.2.2 = false ∨ ((my M).name = "<init>" ∧ (T k).1 = (my M).cls)) (hnar : narrow (ty k) (.int x) = .int x ∧ fits (ty k) (.int x) = true)
    (kk : Aw ε UF M b U (pc + 3) ls st (wI h t i k x) X) : Aw ε UF M b U pc ls (vi x :: vr t (some i) :: st) h X :=
  A_putV (U' := U) (h' := wI h t i k x) (v := vi x) F hk d hl hfin (fun _ => hnar) rfl (fun ad => by unfold fval; rw [if_pos hf, gI_wI, if_pos ⟨rfl, rfl, rfl⟩]; rfl) (fun ad j hj => fval_wI (fun q => hj q.2.2)) (fun _ _ _ _ hne => cellOf_wI hne) (fun _ x => x) rfl kk
theorem fval_wL {U : US} {ad : AD} {h : Hp} {t i k : Nat} {x : Int64} {a c j : Nat} (hne : ¬ (a = t ∧ c = i ∧ j = k)) : fval U ad (wL h t i k x) a c j = fval U ad h a c j := by
  unfold fval
  rw [gL_wL, if_neg hne, gI_wL]
theorem cellOf_wL {Γ : GW} {U : US} {ad : AD} {h : Hp} {t i k : Nat} {x : Int64} {a c : Nat} (hne : ¬ (a = t ∧ c = i)) : cellOf Γ U ad (wL h t i k x) a c = cellOf Γ U ad h a c := by
  unfold cellOf
  split
  · congr 2
    exact List.map_congr_left fun j _ => fval_wL (fun q => hne ⟨q.1, q.2.1⟩)
  · congr 3
    unfold acont
    rw [gI_wL, gP_wL, show gL (wL h t i k x) a c = gL h a c from funext fun j => by rw [gL_wL, if_neg (fun q => hne ⟨q.1, q.2.1⟩)]]
theorem A_putL {t i k idx : Nat} {C : String} {T : u_T} {N : Nat} {ty : Nat → FieldType} {x : Int64} (F : ClF t C T N ty) (hk : k < N) (d : decode (mb M) pc = .ok (.putfield idx, 3)) (hl : Cond.fieldLink (my M).cls idx (T k).1 (T k).2.1 (T k).2.2.1 ∈ WSG) (hf : fty t k = 1)
    (hfin : (T k).2.2.2 = false ∨ ((my M).name = "<init>" ∧ (T k).1 = (my M).cls)) (hnar : narrow (ty k) (.long x) = .long x ∧ fits (ty k) (.long x) = true)
    (kk : Aw ε UF M b U (pc + 3) ls st (wL h t i k x) X) : Aw ε UF M b U pc ls (vl x :: vr t (some i) :: st) h X :=
  A_putV (U' := U) (h' := wL h t i k x) (v := vl x) F hk d hl hfin (fun _ => hnar) rfl (fun ad => by unfold fval; rw [if_neg (by omega), if_pos hf, gL_wL, if_pos ⟨rfl, rfl, rfl⟩]; rfl) (fun ad j hj => fval_wL (fun q => hj q.2.2)) (fun _ _ _ _ hne => cellOf_wL hne) (fun _ x => x) rfl kk
/-- a structural field is set in its constructor: what it holds goes by the index of its object -/
def uS (U : US) (t i k : Nat) : US := fun a c j => if a = t ∧ c = i ∧ j = k then false else U a c j
theorem A_putS {t i k idx tp : Nat} {C : String} {T : u_T} {N : Nat} {ty : Nat → FieldType} (F : ClF t C T N ty) (hk : k < N) (d : decode (mb M) pc = .ok (.putfield idx, 3)) (hl : Cond.fieldLink (my M).cls idx (T k).1 (T k).2.1 (T k).2.2.1 ∈ WSG) (hf : fty t k = 2) (hp : ptag t k = tp) (hpT : tp < TT)
    (hfin : (T k).2.2.2 = false ∨ ((my M).name = "<init>" ∧ (T k).1 = (my M).cls)) (hnar : ∀ a, narrow (ty k) (.ref a) = .ref a ∧ fits (ty k) (.ref a) = true)
    (kk : Aw ε UF M b (uS U t i k) (pc + 3) ls st h X) : Aw ε UF M b U pc ls (vr tp (some i) :: vr t (some i) :: st) h X := by
  subst hp
  refine A_putV (U' := uS U t i k) (h' := h) F hk d hl hfin (fun ad => hnar _) rfl (fun ad => ?_) (fun ad j hj => ?_) (fun Γ ad a c hne => ?_) (fun hv c4 => ?_) rfl kk
  · unfold fval
    rw [if_neg (by omega), if_neg (by omega), if_neg (by simp [uS])]
    rfl
  · unfold fval
    rw [show uS U t i k t i j = U t i j from if_neg (fun q => hj q.2.2)]
  · unfold cellOf
    split
    · congr 2
      refine List.map_congr_left fun j _ => ?_
      unfold fval
      rw [show uS U t i k a c j = U a c j from if_neg (fun q => hne ⟨q.1, q.2.1⟩)]
    · rfl
  · intro a c j h1 h2 h3 h4
    by_cases hx : a = t ∧ c = i ∧ j = k
    · obtain ⟨rfl, rfl, rfl⟩ := hx
      exact ⟨hpT, hv.ref hpT⟩
    · exact c4 a c j h1 h2 h3 (by rw [← h4]; exact (if_neg hx).symm)
end
