/-! ===== the class's table of costs ===== -/
abbrev NEV : Nat := 1099511627776
section
variable {A : Nat → Nat → Nat → Bool} {N V : Nat → Nat → Bool} {s : Nat}
theorem mkL_nil {l : List Nat} (h : mkL l = 0) : l = [] := by
  cases l with
  | nil => rfl
  | cons r l =>
    have : (mkL (r :: l)).testBit r = true := (mkL_bit r _).mpr (by simp)
    rw [h, Nat.zero_testBit] at this
    exact absurd this (by decide)
theorem popc_len {b : Nat} : ∀ {l : List Nat}, rOk A N b l → (∀ r, r ∈ l → r < 6) → popc (mkL l) = l.length
  | [], _, _ => by decide
  | q :: l, h, h6 => by
    have ih := popc_len h.2.2.2 (fun r hr => h6 r (by simp [hr]))
    have hq : q ∉ l := h.2.2.1
    rw [List.length_cons, ← ih]
    unfold popc
    refine (cntB_dec (p := fun r => (mkL (q :: l)).testBit r) (q := fun r => (mkL l).testBit r) (i := q) ?_ ?_ 8 (by have := h6 q (by simp); omega) (fun r _ hr => ?_)).symm
    · exact (mkL_bit q _).mpr (by simp)
    · cases e : (mkL l).testBit q
      · rfl
      · exact absurd ((mkL_bit q l).mp e) hq
    · have : (mkL l).testBit r = true ↔ (mkL (q :: l)).testBit r = true := by
        rw [mkL_bit, mkL_bit, List.mem_cons]
        simp [hr]
      cases q1 : (mkL l).testBit r <;> cases q2 : (mkL (q :: l)).testBit r <;> simp_all
theorem popc_cV {b r m : Nat} (hm : ∀ q, q < s → (m.testBit q = true ↔ V q r = true)) : ∀ {l : List Nat}, rOk A N b l → (∀ q, q ∈ l → q < s ∧ q < 6) → popc (mkL l &&& m) = cV V r l
  | [], _, _ => by rw [mkL, Nat.zero_and, cV]; decide
  | q :: l, h, h6 => by
    have ih := popc_cV hm h.2.2.2 (fun r hr => h6 r (by simp [hr]))
    have hq : q ∉ l := h.2.2.1
    have q6 := h6 q (by simp)
    rw [cV, ← ih]
    unfold popc
    have other : ∀ r, r ≠ q → (mkL l &&& m).testBit r = (mkL (q :: l) &&& m).testBit r := by
      intro r hr
      have : (mkL l).testBit r = (mkL (q :: l)).testBit r := by
        have : (mkL l).testBit r = true ↔ (mkL (q :: l)).testBit r = true := by
          rw [mkL_bit, mkL_bit, List.mem_cons]
          simp [hr]
        cases q1 : (mkL l).testBit r <;> cases q2 : (mkL (q :: l)).testBit r <;> simp_all
      rw [Nat.testBit_and, Nat.testBit_and, this]
    have lq : (mkL l &&& m).testBit q = false := by
      rw [Nat.testBit_and]
      have : (mkL l).testBit q = false := by
        cases e : (mkL l).testBit q
        · rfl
        · exact absurd ((mkL_bit q l).mp e) hq
      rw [this, Bool.false_and]
    have cq : (mkL (q :: l)).testBit q = true := (mkL_bit q _).mpr (by simp)
    by_cases v : V q r = true
    · rw [if_pos v]
      refine (cntB_dec (p := fun r => (mkL (q :: l) &&& m).testBit r) (q := fun r => (mkL l &&& m).testBit r) (i := q) ?_ lq 8 (by omega) (fun r _ hr => other r hr)).symm
      show (mkL (q :: l) &&& m).testBit q = true
      rw [Nat.testBit_and, cq, (hm q q6.1).mpr v]
      rfl
    · rw [if_neg v, Nat.add_zero]
      refine cntB_c 8 (fun r _ => ?_)
      by_cases e : r = q
      · subst e
        show (mkL (r :: l) &&& m).testBit r = (mkL l &&& m).testBit r
        rw [lq, Nat.testBit_and, cq]
        cases w : m.testBit r
        · rfl
        · exact absurd ((hm r q6.1).mp w) v
      · exact (other r e).symm
theorem rCo_lt (hA : ∀ r b k, A r b k = true → k < 6) {b : Nat} (hb : b < 4) {l : List Nat} (h : rOk A N b l) (h6 : ∀ r, r ∈ l → r < 6) : rCo V b l < 40000000000 := by
  rw [rCo_W A N V h h6]
  have len := rOk_len A N hA h
  have pr := rwPr_le V len
  have dig : ∀ r, (if r ∈ l then 8 * b + rPl l r else 0) < 32 := by
    intro r
    by_cases e : r ∈ l
    · rw [if_pos e]
      have := rPl_lt e
      omega
    · rw [if_neg e]; omega
  have h0 := dig 0
  have h1 := dig 1
  have h2 := dig 2
  have h3 := dig 3
  have h4 := dig 4
  have h5 := dig 5
  have w : W6 (fun r => if r ∈ l then 8 * b + rPl l r else 0) < 1073741824 := by
    show (if 0 ∈ l then 8 * b + rPl l 0 else 0) * 33554432 + (if 1 ∈ l then 8 * b + rPl l 1 else 0) * 1048576 + (if 2 ∈ l then 8 * b + rPl l 2 else 0) * 32768 + (if 3 ∈ l then 8 * b + rPl l 3 else 0) * 1024 + (if 4 ∈ l then 8 * b + rPl l 4 else 0) * 32 + (if 5 ∈ l then 8 * b + rPl l 5 else 0) < 1073741824
    generalize (if 0 ∈ l then 8 * b + rPl l 0 else 0) = x0 at *
    generalize (if 1 ∈ l then 8 * b + rPl l 1 else 0) = x1 at *
    generalize (if 2 ∈ l then 8 * b + rPl l 2 else 0) = x2 at *
    generalize (if 3 ∈ l then 8 * b + rPl l 3 else 0) = x3 at *
    generalize (if 4 ∈ l then 8 * b + rPl l 4 else 0) = x4 at *
    generalize (if 5 ∈ l then 8 * b + rPl l 5 else 0) = x5 at *
    omega
  generalize W6 (fun r => if r ∈ l then 8 * b + rPl l r else 0) = w' at *
  omega
variable (A N V)
/-- the cheapest row of a part with this one outermost; the cheapest row of a part; the cheapest rows of a part at the first berths -/
def RcS (b part o v : Nat) : Prop := v ≤ NEV ∧ (∀ l, rOk A N b (o :: l) → mkL (o :: l) = part → v ≤ rCo V b (o :: l)) ∧ (v = NEV ∨ ∃ l, rOk A N b (o :: l) ∧ mkL (o :: l) = part ∧ rCo V b (o :: l) = v)
def BcS (b part v : Nat) : Prop := v ≤ NEV ∧ (∀ l, rOk A N b l → mkL l = part → v ≤ rCo V b l) ∧ (v = NEV ∨ ∃ l, rOk A N b l ∧ mkL l = part ∧ rCo V b l = v)
def CsS (b part v : Nat) : Prop := v ≤ NEV ∧ (∀ P, P.length = b → pOk A N P → mkP P = part → v ≤ pCo V P) ∧ (v = NEV ∨ ∃ P, P.length = b ∧ pOk A N P ∧ mkP P = part ∧ pCo V P = v)
end
theorem in6 {l : List Nat} {part : Nat} (hp : part < 64) (e : mkL l = part) : ∀ r, r ∈ l → r < 6 := by
  intro r hr
  have : part.testBit r = true := by rw [← e]; exact (mkL_bit r l).mpr hr
  apply Classical.byContradiction
  intro w
  have : part.testBit r = false := Nat.testBit_lt_two_pow (Nat.lt_of_lt_of_le hp (by
    have : 2 ^ 6 ≤ 2 ^ r := Nat.pow_le_pow_right (by omega) (by omega)
    exact this))
  simp_all
theorem inS {l : List Nat} {part s : Nat} (hp : part < 2 ^ s) (e : mkL l = part) : ∀ r, r ∈ l → r < s := by
  intro r hr
  have h1 : part.testBit r = true := by rw [← e]; exact (mkL_bit r l).mpr hr
  apply Classical.byContradiction
  intro w
  have h2 : part.testBit r = false := Nat.testBit_lt_two_pow (Nat.lt_of_lt_of_le hp (Nat.pow_le_pow_right (by omega) (by omega)))
  rw [h1] at h2
  exact absurd h2 (by decide)
theorem mkL_dif {o part : Nat} {l : List Nat} (hp : part < 64) (no : o ∉ l) (e : mkL (o :: l) = part) : mkL l = dif part (2 ^ o) := by
  apply bit_ext
  intro r
  rw [dif_bit hp, ← e, mkL_bit, mkL_bit, Nat.testBit_two_pow, List.mem_cons, decide_eq_true_iff]
  constructor
  · intro w
    exact ⟨Or.inr w, fun q => no (by rw [q]; exact w)⟩
  · rintro ⟨w1 | w1, w2⟩
    · exact absurd w1.symm w2
    · exact w1
theorem mkL_dif' {o part : Nat} {l : List Nat} (hp : part < 64) (ho : part.testBit o = true) (e : mkL l = dif part (2 ^ o)) : o ∉ l ∧ mkL (o :: l) = part := by
  refine ⟨fun w => ?_, ?_⟩
  · have := (mkL_bit o l).mpr w
    rw [e, dif_bit hp, Nat.testBit_two_pow] at this
    simp at this
  · apply bit_ext
    intro r
    rw [mkL_bit, List.mem_cons]
    have := mkL_bit r l
    rw [e, dif_bit hp, Nat.testBit_two_pow, decide_eq_true_iff] at this
    constructor
    · rintro (w | w)
      · rw [w]; exact ho
      · exact (this.mpr w).1
    · intro w
      by_cases q : r = o
      · exact Or.inl q
      · exact Or.inr (this.mp ⟨w, fun q2 => q q2.symm⟩)
