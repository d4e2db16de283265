/-! ===== what stands at a point of a method; the judgement Aw ===== -/
def Ext (ad : AD) (h : Hp) (ad' : AD) (h' : Hp) : Prop := (∀ t i, t < TT → i < gN h t → ad' t i = ad t i) ∧ (∀ t, gN h t ≤ gN h' t) ∧ ∀ t, ¬ t < TT → ad' t = ad t
theorem Ext.rf (ad : AD) (h : Hp) : Ext ad h ad h := ⟨fun _ _ _ _ => rfl, fun _ => Nat.le_refl _, fun _ _ => rfl⟩
theorem Ext.tr {ad ad1 ad2 : AD} {h h1 h2 : Hp} (a : Ext ad h ad1 h1) (b : Ext ad1 h1 ad2 h2) : Ext ad h ad2 h2 := ⟨fun t i x y => (b.1 t i x (Nat.lt_of_lt_of_le y (a.2.1 t))).trans (a.1 t i x y), fun t => Nat.le_trans (a.2.1 t) (b.2.1 t), fun t x => (b.2.2 t x).trans (a.2.2 t x)⟩
theorem Ext.same {ad0 ad : AD} {h0 h h' : Hp} (a : Ext ad0 h0 ad h) (hN : gN h' = gN h) : Ext ad0 h0 ad h' := ⟨a.1, fun t => by rw [hN]; exact a.2.1 t, a.2.2⟩
def Vok (h : Hp) : AV → Prop
  | .inr (.inr (t, some i)) => t = 99 ∨ (t < TT ∧ i < gN h t)
  | _ => True
def VokL (h : Hp) : List AV → Prop
  | [] => True
  | v :: l => Vok h v ∧ VokL h l
def VokO (h : Hp) : List (Option AV) → Prop
  | [] => True
  | none :: l => VokO h l
  | some v :: l => Vok h v ∧ VokO h l
theorem Vok.mono {h h' : Hp} (hN : ∀ t, gN h t ≤ gN h' t) {v : AV} (k : Vok h v) : Vok h' v := by
  match v, k with
  | .inl _, _ => trivial
  | .inr (.inl _), _ => trivial
  | .inr (.inr (t, none)), _ => trivial
  | .inr (.inr (t, some i)), k => exact k.elim Or.inl (fun q => Or.inr ⟨q.1, Nat.lt_of_lt_of_le q.2 (hN t)⟩)
theorem VokL.mono {h h' : Hp} (hN : ∀ t, gN h t ≤ gN h' t) : ∀ {l : List AV}, VokL h l → VokL h' l
  | [], _ => trivial
  | _ :: _, k => ⟨k.1.mono hN, VokL.mono hN k.2⟩
theorem VokO.mono {h h' : Hp} (hN : ∀ t, gN h t ≤ gN h' t) : ∀ {l : List (Option AV)}, VokO h l → VokO h' l
  | [], _ => trivial
  | none :: l, k => VokO.mono (l := l) hN k
  | some _ :: _, k => ⟨k.1.mono hN, VokO.mono hN k.2⟩
theorem Vok.cv {h h' : Hp} {ad ad' : AD} (x : Ext ad h ad' h') {v : AV} (k : Vok h v) : cv ad' v = cv ad v := by
  match v, k with
  | .inl _, _ => rfl
  | .inr (.inl _), _ => rfl
  | .inr (.inr (t, none)), _ => rfl
  | .inr (.inr (t, some i)), k =>
    show Value.ref (ad' t i) = Value.ref (ad t i)
    rcases k with k | k
    · rw [x.2.2 t (by rw [k]; decide)]
    · rw [x.1 t i k.1 k.2]
theorem VokL.cv {h h' : Hp} {ad ad' : AD} (x : Ext ad h ad' h') : ∀ {l : List AV}, VokL h l → l.map (cv ad') = l.map (cv ad)
  | [], _ => rfl
  | _ :: _, k => by rw [List.map_cons, List.map_cons, k.1.cv x, VokL.cv x k.2]
theorem VokL.app {h : Hp} : ∀ {a b : List AV}, VokL h a → VokL h b → VokL h (a ++ b)
  | [], _, _, k => k
  | _ :: _, _, j, k => ⟨j.1, VokL.app j.2 k⟩
theorem VokL.left {h : Hp} : ∀ {a b : List AV}, VokL h (a ++ b) → VokL h a
  | [], _, _ => trivial
  | _ :: _, _, j => ⟨j.1, VokL.left j.2⟩
theorem VokL.right {h : Hp} : ∀ {a b : List AV}, VokL h (a ++ b) → VokL h b
  | [], _, j => j
  | _ :: a, _, j => VokL.right (a := a) j.2
theorem VokL.rev {h : Hp} : ∀ {a : List AV}, VokL h a.reverse → VokL h a
  | [], _ => trivial
  | v :: a, k => by
    rw [List.reverse_cons] at k
    exact ⟨(VokL.right k).1, VokL.rev (VokL.left k)⟩
theorem VokO.at {h : Hp} : ∀ {l : List (Option AV)} {i : Nat} {v : AV}, VokO h l → l[i]? = some (some v) → Vok h v
  | [], i, v, _, e => by simp at e
  | none :: l, 0, v, _, e => by simp at e
  | some w :: l, 0, v, k, e => by simp at e; rw [← e]; exact k.1
  | none :: l, i + 1, v, k, e => VokO.at (l := l) (i := i) k (by simpa using e)
  | some _ :: l, i + 1, v, k, e => VokO.at (l := l) (i := i) k.2 (by simpa using e)
theorem VokO.set {h : Hp} : ∀ {l : List (Option AV)} {i : Nat} {o : Option AV}, VokO h l → (∀ v, o = some v → Vok h v) → VokO h (l.set i o)
  | [], _, _, _, _ => trivial
  | none :: l, 0, none, k, _ => k
  | none :: l, 0, some v, k, e => ⟨e v rfl, k⟩
  | some _ :: l, 0, none, k, _ => k.2
  | some _ :: l, 0, some v, k, e => ⟨e v rfl, k.2⟩
  | none :: l, i + 1, _, k, e => VokO.set (l := l) k e
  | some _ :: l, i + 1, _, k, e => ⟨k.1, VokO.set (l := l) k.2 e⟩
/-- the listed locals, in the kit's form -/
def lvo (ad : AD) : Nat → List (Option AV) → List (Nat × Value)
  | _, [] => []
  | k, none :: l => lvo ad (k + 1) l
  | k, some v :: l => (k, cv ad v) :: lvo ad (k + 1) l
theorem lvo_mem {ad : AD} {q : Nat × Value} : ∀ {l : List (Option AV)} {k : Nat}, q ∈ lvo ad k l ↔ ∃ j v, l[j]? = some (some v) ∧ q = (k + j, cv ad v)
  | [], k => by simp [lvo]
  | none :: l, k => by
    rw [lvo, lvo_mem (l := l) (k := k + 1)]
    constructor
    · rintro ⟨j, v, h1, h2⟩
      exact ⟨j + 1, v, by simpa using h1, by rw [h2]; congr 1; omega⟩
    · rintro ⟨j, v, h1, h2⟩
      cases j with
      | zero => simp at h1
      | succ j => exact ⟨j, v, by simpa using h1, by rw [h2]; congr 1; omega⟩
  | some w :: l, k => by
    rw [lvo, List.mem_cons, lvo_mem (l := l) (k := k + 1)]
    constructor
    · rintro (h | ⟨j, v, h1, h2⟩)
      · exact ⟨0, w, rfl, h⟩
      · exact ⟨j + 1, v, by simpa using h1, by rw [h2]; congr 1; omega⟩
    · rintro ⟨j, v, h1, h2⟩
      cases j with
      | zero => exact Or.inl (by simp at h1; rw [h2, h1]; rfl)
      | succ j => exact Or.inr ⟨j, v, by simpa using h1, by rw [h2]; congr 1; omega⟩
theorem lvo_cv {h h' : Hp} {ad ad' : AD} (x : Ext ad h ad' h') : ∀ {l : List (Option AV)} {k : Nat}, VokO h l → lvo ad' k l = lvo ad k l
  | [], _, _ => rfl
  | none :: l, k, q => lvo_cv x (l := l) (k := k + 1) q
  | some _ :: l, k, q => by rw [lvo, lvo, q.1.cv x, lvo_cv x q.2]
theorem lv_less {la : Array Slot} {n : Nat} {l l' : List (Nat × Value)} (h : lv_has la n l) (k : ∀ q ∈ l', q ∈ l) : lv_has la n l' := ⟨h.1, h.2.1, fun q hq => h.2.2 q (k q hq)⟩
theorem lvo_at {ad : AD} {la : Array Slot} {n : Nat} {l : List (Option AV)} {i : Nat} {v : AV} (h : lv_has la n (lvo ad 0 l)) (e : l[i]? = some (some v)) : la[i]? = some (.val (cv ad v)) := h.2.2 (i, cv ad v) (lvo_mem.mpr ⟨i, v, e, by simp⟩)
/-- no long stands just before place i -/
def nol (l : List (Option AV)) : Nat → Bool
  | 0 => true
  | j + 1 => match l[j]? with
    | some (some (.inr (.inl _))) => false
    | _ => true
def s1 (l : List (Option AV)) (i : Nat) (v : AV) : Option (List (Option AV)) := if nol l i = true then some (l.set i (some v)) else none
def s2 (l : List (Option AV)) (i : Nat) (v : AV) : Option (List (Option AV)) := if nol l i = true then some ((l.set i (some v)).set (i + 1) none) else none
theorem cv_cat {ad : AD} {v : AV} (h : (cv ad v).category = 2) : ∃ x, v = .inr (.inl x) := by
  match v, h with
  | .inl _, h => simp [cv, Value.category] at h
  | .inr (.inl x), _ => exact ⟨x, rfl⟩
  | .inr (.inr (t, none)), h => simp [cv, va_rf, Value.category] at h
  | .inr (.inr (t, some i)), h => simp [cv, va_rf, Value.category] at h
theorem cv_catr {ad : AD} (t : Nat) (o : Option Nat) : (cv ad (vr t o)).category = 1 := by cases o <;> rfl
theorem nol_no {l : List (Option AV)} {i j : Nat} {x : Int64} (h : nol l i = true) (e : j + 1 = i) : l[j]? ≠ some (some (.inr (.inl x))) := by
  intro k
  subst e
  simp [nol, k] at h
theorem s1_has {ad : AD} {la : Array Slot} {n i : Nat} {l l' : List (Option AV)} {v : AV} (hs : s1 l i v = some l') (h : lv_has la n ((i, cv ad v) :: (lvo ad 0 l).filter (fun q => !(q.1 == i) && !(q.1 + 1 == i && q.2.category == 2)))) : lv_has la n (lvo ad 0 l') := by
  unfold s1 at hs
  split at hs
  case isFalse => cases hs
  case isTrue hn =>
    cases hs
    refine lv_less h fun q hq => ?_
    obtain ⟨j, w, h1, rfl⟩ := lvo_mem.mp hq
    rw [Nat.zero_add]
    by_cases hj : i = j
    · subst hj
      rw [List.getElem?_set] at h1
      simp at h1
      rw [← h1.2]
      exact List.mem_cons_self
    · rw [List.getElem?_set_ne hj] at h1
      refine List.mem_cons_of_mem _ (List.mem_filter.mpr ⟨lvo_mem.mpr ⟨j, w, h1, by rw [Nat.zero_add]⟩, ?_⟩)
      have h2 : ¬ (j + 1 = i ∧ (cv ad w).category = 2) := by
        rintro ⟨ea, eb⟩
        obtain ⟨x, rfl⟩ := cv_cat eb
        exact nol_no hn ea h1
      simp
      exact ⟨fun q => hj q.symm, (Decidable.em (j + 1 = i)).elim (fun ea => Or.inr (fun eb => h2 ⟨ea, eb⟩)) Or.inl⟩
theorem s2_has {ad : AD} {la : Array Slot} {n i : Nat} {l l' : List (Option AV)} {v : AV} (hs : s2 l i v = some l') (h : lv_has la n ((i, cv ad v) :: (lvo ad 0 l).filter (fun q => !(q.1 == i) && (!(q.1 == i + 1) && !(q.1 + 1 == i && q.2.category == 2))))) : lv_has la n (lvo ad 0 l') := by
  unfold s2 at hs
  split at hs
  case isFalse => cases hs
  case isTrue hn =>
    cases hs
    refine lv_less h fun q hq => ?_
    obtain ⟨j, w, h1, rfl⟩ := lvo_mem.mp hq
    rw [Nat.zero_add]
    by_cases hj1 : i + 1 = j
    · subst hj1
      rw [List.getElem?_set] at h1
      simp at h1
    · rw [List.getElem?_set_ne hj1] at h1
      by_cases hj : i = j
      · subst hj
        rw [List.getElem?_set] at h1
        simp at h1
        rw [← h1.2]
        exact List.mem_cons_self
      · rw [List.getElem?_set_ne hj] at h1
        refine List.mem_cons_of_mem _ (List.mem_filter.mpr ⟨lvo_mem.mpr ⟨j, w, h1, by rw [Nat.zero_add]⟩, ?_⟩)
        have h2 : ¬ (j + 1 = i ∧ (cv ad w).category = 2) := by
          rintro ⟨ea, eb⟩
          obtain ⟨x, rfl⟩ := cv_cat eb
          exact nol_no hn ea h1
        simp
        exact ⟨fun q => hj q.symm, fun q => hj1 q.symm, (Decidable.em (j + 1 = i)).elim (fun ea => Or.inr (fun eb => h2 ⟨ea, eb⟩)) Or.inl⟩
theorem s1_vok {h : Hp} {i : Nat} {l l' : List (Option AV)} {v : AV} (hs : s1 l i v = some l') (k : VokO h l) (kv : Vok h v) : VokO h l' := by
  unfold s1 at hs
  split at hs
  · cases hs
    exact k.set (fun w e => by cases e; exact kv)
  · cases hs
theorem s2_vok {h : Hp} {i : Nat} {l l' : List (Option AV)} {v : AV} (hs : s2 l i v = some l') (k : VokO h l) (kv : Vok h v) : VokO h l' := by
  unfold s2 at hs
  split at hs
  · cases hs
    exact (k.set (fun w e => by cases e; exact kv)).set (fun w e => by cases e)
  · cases hs
