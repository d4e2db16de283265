/-! ===== an abstract machine over logical addresses (tag, index): values, heaps, tables ===== -/
abbrev AV : Type := Int32 ⊕ Int64 ⊕ (Nat × Option Nat)
abbrev vi (x : Int32) : AV := Sum.inl x
abbrev vl (x : Int64) : AV := Sum.inr (Sum.inl x)
abbrev vr (t : Nat) (o : Option Nat) : AV := Sum.inr (Sum.inr (t, o))
/-- how many cells of each tag there are; ints, longs, references by tag, index, place -/
abbrev Hp : Type := (Nat → Nat) × (Nat → Nat → Nat → Int32) × (Nat → Nat → Nat → Int64) × (Nat → Nat → Nat → Option Nat)
def gN (h : Hp) : Nat → Nat := h.1
def gI (h : Hp) : Nat → Nat → Nat → Int32 := h.2.1
def gL (h : Hp) : Nat → Nat → Nat → Int64 := h.2.2.1
def gP (h : Hp) : Nat → Nat → Nat → Option Nat := h.2.2.2
def wI (h : Hp) (t i k : Nat) (v : Int32) : Hp := (gN h, (fun a b c => if a = t ∧ b = i ∧ c = k then v else gI h a b c), gL h, gP h)
def wL (h : Hp) (t i k : Nat) (v : Int64) : Hp := (gN h, gI h, (fun a b c => if a = t ∧ b = i ∧ c = k then v else gL h a b c), gP h)
def wP (h : Hp) (t i k : Nat) (v : Option Nat) : Hp := (gN h, gI h, gL h, (fun a b c => if a = t ∧ b = i ∧ c = k then v else gP h a b c))
/-- one more cell of a tag, all of it 0 or null -/
def wN (h : Hp) (t : Nat) : Hp := ((fun a => if a = t then gN h t + 1 else gN h a), (fun a b c => if a = t ∧ b = gN h t then 0 else gI h a b c), (fun a b c => if a = t ∧ b = gN h t then 0 else gL h a b c), (fun a b c => if a = t ∧ b = gN h t then none else gP h a b c))
theorem gN_wI (h : Hp) (t i k : Nat) (v : Int32) : gN (wI h t i k v) = gN h := rfl
theorem gL_wI (h : Hp) (t i k : Nat) (v : Int32) : gL (wI h t i k v) = gL h := rfl
theorem gP_wI (h : Hp) (t i k : Nat) (v : Int32) : gP (wI h t i k v) = gP h := rfl
theorem gI_wI (h : Hp) (t i k : Nat) (v : Int32) (a b c : Nat) : gI (wI h t i k v) a b c = if a = t ∧ b = i ∧ c = k then v else gI h a b c := rfl
theorem gN_wL (h : Hp) (t i k : Nat) (v : Int64) : gN (wL h t i k v) = gN h := rfl
theorem gI_wL (h : Hp) (t i k : Nat) (v : Int64) : gI (wL h t i k v) = gI h := rfl
theorem gP_wL (h : Hp) (t i k : Nat) (v : Int64) : gP (wL h t i k v) = gP h := rfl
theorem gL_wL (h : Hp) (t i k : Nat) (v : Int64) (a b c : Nat) : gL (wL h t i k v) a b c = if a = t ∧ b = i ∧ c = k then v else gL h a b c := rfl
theorem gN_wP (h : Hp) (t i k : Nat) (v : Option Nat) : gN (wP h t i k v) = gN h := rfl
theorem gI_wP (h : Hp) (t i k : Nat) (v : Option Nat) : gI (wP h t i k v) = gI h := rfl
theorem gL_wP (h : Hp) (t i k : Nat) (v : Option Nat) : gL (wP h t i k v) = gL h := rfl
theorem gP_wP (h : Hp) (t i k : Nat) (v : Option Nat) (a b c : Nat) : gP (wP h t i k v) a b c = if a = t ∧ b = i ∧ c = k then v else gP h a b c := rfl
theorem gN_wN (h : Hp) (t a : Nat) : gN (wN h t) a = if a = t then gN h t + 1 else gN h a := rfl
theorem gI_wN (h : Hp) (t a b c : Nat) : gI (wN h t) a b c = if a = t ∧ b = gN h t then 0 else gI h a b c := rfl
theorem gL_wN (h : Hp) (t a b c : Nat) : gL (wN h t) a b c = if a = t ∧ b = gN h t then 0 else gL h a b c := rfl
theorem gP_wN (h : Hp) (t a b c : Nat) : gP (wN h t) a b c = if a = t ∧ b = gN h t then none else gP h a b c := rfl
/-- tags 0 to 8: objects of the classes of vwCl; 10 on: arrays, one tag for each field that holds one -/
abbrev TT : Nat := 64
def ocl (t : Nat) : Option Nat := if t < 9 then some t else none
def nfl (t : Nat) : Nat := [4, 12, 2, 6, 8, 6, 3, 6, 45].getD t 0
def fty (t k : Nat) : Nat := ([[0, 0, 0, 0], [0, 0, 0, 0, 0, 0, 0, 0, 0, 0, 0, 0], [0, 0], [2, 2, 2, 2, 0, 0], [2, 2, 2, 2, 2, 2, 0, 1], [2, 2, 0, 0, 0, 0], [2, 0, 0], [2, 2, 2, 2, 2, 0], [0, 2, 2, 2, 2, 0, 0, 2, 2, 2, 2, 2, 2, 2, 2, 2, 0, 2, 2, 0, 0, 0, 2, 2, 2, 2, 0, 2, 2, 2, 0, 0, 2, 2, 2, 2, 2, 2, 0, 0, 0, 2, 2, 2, 2]].getD t []).getD k 9
def ptag (t k : Nat) : Nat := ([[63, 63, 63, 63], [63, 63, 63, 63, 63, 63, 63, 63, 63, 63, 63, 63], [63, 63], [18, 19, 20, 21, 63, 63], [12, 13, 14, 15, 16, 17, 63, 63], [10, 11, 63, 63, 63, 63], [23, 63, 63], [5, 2, 4, 3, 22, 63], [63, 30, 31, 32, 33, 63, 63, 34, 35, 36, 37, 38, 39, 40, 41, 42, 63, 43, 44, 63, 63, 63, 45, 46, 47, 48, 63, 49, 50, 51, 63, 63, 52, 53, 54, 55, 56, 57, 63, 63, 63, 58, 59, 60, 61]].getD t []).getD k 63
def aty (t : Nat) : Nat := [9, 9, 9, 9, 9, 9, 9, 9, 9, 9, 4, 5, 5, 0, 0, 1, 1, 1, 2, 0, 0, 0, 6, 0, 9, 9, 9, 9, 9, 9, 0, 0, 0, 0, 0, 0, 0, 3, 0, 0, 0, 0, 0, 0, 0, 0, 0, 0, 0, 0, 0, 0, 0, 0, 0, 0, 0, 0, 0, 0, 0, 0, 9, 9].getD t 9
def alen (t : Nat) : Nat := [0, 0, 0, 0, 0, 0, 0, 0, 0, 0, 4, 8, 6, 6, 6, 384, 64, 64, 80, 8, 8, 8, 4, 8, 0, 0, 0, 0, 0, 0, 4, 4, 4, 4, 8, 8, 8, 8, 8, 8, 8, 8, 8, 4, 24, 8, 8, 8, 80, 4, 4, 32, 6, 10, 11, 11, 11, 11, 6, 6, 8, 8, 0, 0].getD t 0
def etag (t : Nat) : Nat := [63, 63, 63, 63, 63, 63, 63, 63, 63, 63, 0, 1, 1, 63, 63, 63, 63, 63, 63, 63, 63, 63, 6, 63, 63, 63, 63, 63, 63, 63, 63, 63, 63, 63, 63, 63, 63, 63, 63, 63, 63, 63, 63, 63, 63, 63, 63, 63, 63, 63, 63, 63, 63, 63, 63, 63, 63, 63, 63, 63, 63, 63, 63, 63].getD t 63
abbrev GW : Type := va_G × (Nat → ClassId)
abbrev US : Type := Nat → Nat → Nat → Bool
abbrev U0 : US := fun _ _ _ => false
abbrev AD : Type := Nat → Nat → Nat
def tysOf (cA : Nat → ClassId) : List (ClassId × FieldType) := [(cA 0, .int), (cA 1, .long), (cA 2, .byte), (cA 3, .boolean), (cA 4, .object RX0), (cA 5, .object RX1), (cA 6, .object RX6)]
/-- the real value of an abstract one -/
def cv (ad : AD) : AV → Value
  | .inl x => .int x
  | .inr (.inl x) => .long x
  | .inr (.inr (t, o)) => va_rf (o.map (ad t))
def fval (U : US) (ad : AD) (h : Hp) (t i k : Nat) : Value := if fty t k = 0 then .int (gI h t i k) else if fty t k = 1 then .long (gL h t i k) else if U t i k = true then .null else .ref (ad (ptag t k) i)
def acont (ad : AD) (h : Hp) (t i : Nat) : (Nat → Int32) ⊕ (Nat → Int64) ⊕ (Nat → UInt32) ⊕ (Nat → UInt64) ⊕ (Nat → Option Nat) := if aty t = 1 then .inr (.inl (gL h t i)) else if aty t < 4 then .inl (gI h t i) else .inr (.inr (.inr (.inr (fun j => (gP h t i j).map (ad (etag t))))))
def cellOf (Γ : GW) (U : US) (ad : AD) (h : Hp) (t i : Nat) : va_E := if t < 9 then .inr (t, (List.range (nfl t)).map (fval U ad h t i)) else .inl (Γ.2 (aty t), alen t, acont ad h t i)
/-- the real heap holds the abstract one -/
def Rp (Γ : GW) (U : US) (ad : AD) (A0 : Nat → Prop) (h : Hp) (H : Heap) : Prop :=
  (∀ t i, t < TT → i < gN h t → va_at Γ.1 vwCl (ad t i, cellOf Γ U ad h t i) H) ∧
  (∀ t i t' i', t < TT → i < gN h t → t' < TT → i' < gN h t' → ad t i = ad t' i' → t = t' ∧ i = i') ∧
  (∀ t i, t < TT → i < gN h t → A0 (ad t i)) ∧
  (∀ t i k, t < 9 → i < gN h t → fty t k = 2 → U t i k = false → ptag t k < TT ∧ i < gN h (ptag t k)) ∧
  (∀ t i j q, t < TT → i < gN h t → gP h t i j = some q → etag t < TT ∧ q < gN h (etag t))
def dm (h : Hp) : List (Nat × Nat) := (List.range TT).flatMap (fun t => (List.range (gN h t)).map (fun i => (t, i)))
theorem mem_dm {h : Hp} {t i : Nat} : (t, i) ∈ dm h ↔ t < TT ∧ i < gN h t := by
  simp only [dm, List.mem_flatMap, List.mem_range, List.mem_map, Prod.mk.injEq]
  constructor
  · rintro ⟨a, ha, b, hb, rfl, rfl⟩
    exact ⟨ha, hb⟩
  · rintro ⟨h1, h2⟩
    exact ⟨t, h1, i, h2, rfl, rfl⟩
theorem dm_pw (h : Hp) : (dm h).Pairwise (fun x y => x ≠ y) := by
  unfold dm
  rw [List.pairwise_flatMap]
  refine ⟨fun t _ => ?_, ?_⟩
  · rw [List.pairwise_map]
    exact List.pairwise_lt_range.imp (fun hab he => by simp at he; omega)
  · refine List.pairwise_lt_range.imp (fun {a b} hab x hx y hy he => ?_)
    simp only [List.mem_map] at hx hy
    obtain ⟨i, -, rfl⟩ := hx
    obtain ⟨j, -, rfl⟩ := hy
    simp at he
    omega
theorem dm_inj (h : Hp) {a b : Nat} {x : Nat × Nat} (ha : (dm h)[a]? = some x) (hb : (dm h)[b]? = some x) : a = b := by
  obtain ⟨ha1, ha2⟩ := List.getElem?_eq_some_iff.mp ha
  obtain ⟨hb1, hb2⟩ := List.getElem?_eq_some_iff.mp hb
  have hp := List.pairwise_iff_getElem.mp (dm_pw h)
  rcases Nat.lt_trichotomy a b with hlt | heq | hgt
  · exact absurd (ha2.trans hb2.symm) (hp a b ha1 hb1 hlt)
  · exact heq
  · exact absurd (hb2.trans ha2.symm) (hp b a hb1 ha1 hgt)
def wsd (Γ : GW) (U : US) (ad : AD) (h : Hp) : va_W := (dm h).map (fun c => (ad c.1 c.2, cellOf Γ U ad h c.1 c.2))
theorem wsd_at {Γ : GW} {U : US} {ad : AD} {h : Hp} {t i : Nat} (h1 : t < TT) (h2 : i < gN h t) : ∃ q : Nat, (dm h)[q]? = some (t, i) ∧ (wsd Γ U ad h)[q]? = some (ad t i, cellOf Γ U ad h t i) := by
  obtain ⟨q, hq⟩ := List.getElem?_of_mem (mem_dm.mpr ⟨h1, h2⟩)
  exact ⟨q, hq, by rw [wsd, List.getElem?_map, hq]; rfl⟩
theorem wsd_of {Γ : GW} {U : US} {ad : AD} {h : Hp} {k : Nat} {q : Nat × va_E} (hk : (wsd Γ U ad h)[k]? = some q) : ∃ t i, (dm h)[k]? = some (t, i) ∧ t < TT ∧ i < gN h t ∧ q = (ad t i, cellOf Γ U ad h t i) := by
  rw [wsd, List.getElem?_map] at hk
  cases hc : (dm h)[k]? with
  | none => rw [hc] at hk; cases hk
  | some c =>
    obtain ⟨t, i⟩ := c
    rw [hc] at hk
    have hm := mem_dm.mp (List.mem_of_getElem? hc)
    exact ⟨t, i, rfl, hm.1, hm.2, (Option.some.inj hk).symm⟩
theorem Rp.toP {Γ : GW} {U : US} {ad : AD} {A0 : Nat → Prop} {h : Hp} {H : Heap} (R : Rp Γ U ad A0 h H) : va_P Γ.1 vwCl (wsd Γ U ad h) H := by
  intro k q hk
  obtain ⟨t, i, -, h1, h2, rfl⟩ := wsd_of hk
  exact R.1 t i h1 h2
theorem Rp.toD {Γ : GW} {U : US} {ad : AD} {A0 : Nat → Prop} {h : Hp} {H : Heap} (R : Rp Γ U ad A0 h H) : va_D A0 (wsd Γ U ad h) := by
  refine ⟨fun a b p q ha hb he => ?_, fun k q hk => ?_⟩
  · obtain ⟨t, i, d1, h1, h2, rfl⟩ := wsd_of ha
    obtain ⟨t', i', d2, h3, h4, rfl⟩ := wsd_of hb
    obtain ⟨rfl, rfl⟩ := R.2.1 t i t' i' h1 h2 h3 h4 he
    exact dm_inj h d1 d2
  · obtain ⟨t, i, -, h1, h2, rfl⟩ := wsd_of hk
    exact R.2.2.1 t i h1 h2
/-- one cell of the world changed, as the new abstract heap has it -/
theorem Rp.ofSet {Γ : GW} {U U' : US} {ad : AD} {A0 : Nat → Prop} {h h' : Hp} {H H1 : Heap} {t i q0 : Nat} {e : va_E} (R : Rp Γ U ad A0 h H) (hq : (wsd Γ U ad h)[q0]? = some (ad t i, cellOf Γ U ad h t i)) (h1 : t < TT) (h2 : i < gN h t) (hN : gN h' = gN h)
    (he : cellOf Γ U' ad h' t i = e) (hP : va_P Γ.1 vwCl ((wsd Γ U ad h).set q0 (ad t i, e)) H1) (ho : ∀ a b, ¬ (a = t ∧ b = i) → cellOf Γ U' ad h' a b = cellOf Γ U ad h a b)
    (c4 : ∀ t i k, t < 9 → i < gN h t → fty t k = 2 → U' t i k = false → ptag t k < TT ∧ i < gN h (ptag t k)) (c5 : ∀ t i j q, t < TT → i < gN h t → gP h' t i j = some q → etag t < TT ∧ q < gN h (etag t)) : Rp Γ U' ad A0 h' H1 := by
  refine ⟨fun a b ha hb => ?_, ?_, ?_, ?_, ?_⟩
  · rw [hN] at hb
    have hl := (List.getElem?_eq_some_iff.mp hq).1
    by_cases hab : a = t ∧ b = i
    · obtain ⟨rfl, rfl⟩ := hab
      rw [he]
      exact hP q0 _ (List.getElem?_set_self hl)
    · rw [ho a b hab]
      obtain ⟨q, -, hq'⟩ := wsd_at (Γ := Γ) (U := U) (ad := ad) ha hb
      have hne : q ≠ q0 := by
        rintro rfl
        rw [hq] at hq'
        have := Option.some.inj hq'
        have := R.2.1 t i a b h1 h2 ha hb (congrArg Prod.fst this)
        exact hab ⟨this.1.symm, this.2.symm⟩
      exact hP q _ (by rw [List.getElem?_set_ne (Ne.symm hne)]; exact hq')
  · rw [hN]; exact R.2.1
  · rw [hN]; exact R.2.2.1
  · rw [hN]; exact c4
  · rw [hN]; exact c5
theorem Rp.mono {Γ : GW} {U : US} {ad : AD} {A0 A1 : Nat → Prop} {h : Hp} {H : Heap} (R : Rp Γ U ad A0 h H) (hA : ∀ q, A0 q → A1 q) : Rp Γ U ad A1 h H := ⟨R.1, R.2.1, fun t i a b => hA _ (R.2.2.1 t i a b), R.2.2.2.1, R.2.2.2.2⟩
theorem Rp.lt {Γ : GW} {U : US} {ad : AD} {A0 : Nat → Prop} {h : Hp} {H : Heap} (R : Rp Γ U ad A0 h H) {t i : Nat} (h1 : t < TT) (h2 : i < gN h t) : ad t i < H.size := (R.1 t i h1 h2).lt
