/-! ===== placings that go on from a place of the search ===== -/
section
variable {A : Nat → Nat → Nat → Bool} {N V : Nat → Nat → Bool} {s nb : Nat}
theorem rOk_app {b : Nat} {l : List Nat} : ∀ {x : List Nat}, rOk A N b (x ++ l) → rOk A N b l
  | [], h => h
  | _ :: x, h => rOk_app (x := x) h.2.2.2
theorem rOk_dis {b : Nat} {l : List Nat} {r : Nat} : ∀ {x : List Nat}, rOk A N b (x ++ l) → r ∈ x → r ∉ l
  | [], _, h => absurd h (by simp)
  | q :: x, h, hr => by
    rcases List.mem_cons.mp hr with e | e
    · intro w
      exact h.2.2.1 (by rw [← e]; simp [w])
    · exact rOk_dis (x := x) h.2.2.2 e
theorem pOk_app {Q : List (List Nat)} : ∀ {X : List (List Nat)}, pOk A N (X ++ Q) → pOk A N Q
  | [], h => h
  | _ :: X, h => pOk_app (X := X) h.2.2
theorem inP_app {X Q : List (List Nat)} {r : Nat} : inP (X ++ Q) r ↔ inP X r ∨ inP Q r := by
  constructor
  · rintro ⟨l, h1, h2⟩
    rcases List.mem_append.mp h1 with e | e
    · exact Or.inl ⟨l, e, h2⟩
    · exact Or.inr ⟨l, e, h2⟩
  · rintro (⟨l, h1, h2⟩ | ⟨l, h1, h2⟩)
    · exact ⟨l, by simp [h1], h2⟩
    · exact ⟨l, by simp [h1], h2⟩
theorem pOk_dis {Q : List (List Nat)} {r : Nat} : ∀ {X : List (List Nat)}, pOk A N (X ++ Q) → inP X r → ¬ inP Q r
  | [], _, h => absurd h (inP_nil r)
  | l :: X, h, hr => by
    rcases inP_cons.mp hr with e | e
    · intro w
      exact h.2.1 r e (inP_app.mpr (Or.inr w))
    · exact pOk_dis (X := X) h.2.2 e
theorem pad_ok {Q : List (List Nat)} (h : pOk A N Q) : ∀ n, pOk A N (List.replicate n [] ++ Q) ∧ mkP (List.replicate n [] ++ Q) = mkP Q ∧ pPr V (List.replicate n [] ++ Q) = pPr V Q ∧ ∀ r, s6 (List.replicate n [] ++ Q) r = s6 Q r
  | 0 => ⟨h, rfl, rfl, fun _ => rfl⟩
  | n + 1 => by
    obtain ⟨a, b, c, d⟩ := pad_ok h n
    rw [List.replicate_succ, List.cons_append]
    refine ⟨⟨trivial, fun r hr => absurd hr (by simp), a⟩, ?_, ?_, fun r => ?_⟩
    · rw [mkP, mkL, Nat.zero_or, b]
    · rw [pPr, c]
      rfl
    · rw [← d r]
      unfold s6
      rw [pB, pK, if_neg (by simp), if_neg (by simp)]
variable (A N s nb)
def ExtP (l : List Nat) (Pd P : List (List Nat)) : Prop := Full A N s nb P ∧ ∃ X x, P = X ++ ((x ++ l) :: Pd)
/-- the comer's own conditions at the end of a row -/
def okR (i : Nat) (l : List Nat) (Pd : List (List Nat)) : Prop := i < s ∧ (A i Pd.length l.length = true ∧ ∀ q, l.head? = some q → N i q = true) ∧ ¬ inP (l :: Pd) i
variable {A N s nb}
theorem ExtP.split {l : List Nat} {Pd P : List (List Nat)} (nf : mkP (l :: Pd) ≠ 2 ^ s - 1) : ExtP A N s nb l Pd P ↔ (∃ i, okR A N s i l Pd ∧ ExtP A N s nb (i :: l) Pd P) ∨ (Pd.length + 1 < nb ∧ ExtP A N s nb [] (l :: Pd) P) := by
  constructor
  · rintro ⟨hF, X, x, rfl⟩
    rcases List.eq_nil_or_concat x with rfl | ⟨x', i, rfl⟩
    · right
      rcases List.eq_nil_or_concat X with rfl | ⟨X', y, rfl⟩
      · exact absurd hF.2.2 nf
      · have e : X'.concat y ++ (([] ++ l) :: Pd) = X' ++ ((y ++ []) :: (l :: Pd)) := by simp
        rw [e] at hF ⊢
        refine ⟨?_, hF, X', y, rfl⟩
        have := hF.1
        simp only [List.length_append, List.length_cons] at this
        omega
    · left
      have e : X ++ ((x'.concat i ++ l) :: Pd) = X ++ ((x' ++ (i :: l)) :: Pd) := by simp
      rw [e] at hF ⊢
      have o1 := pOk_app hF.2.1
      have o2 : rOk A N Pd.length (i :: l) := rOk_app o1.1
      refine ⟨i, ⟨?_, ⟨o2.1, o2.2.1⟩, ?_⟩, hF, X, x', rfl⟩
      · refine (hF.mem i).mp (inP_app.mpr (Or.inr (inP_cons.mpr (Or.inl ?_))))
        simp
      · rw [inP_cons]
        rintro (w | w)
        · exact o2.2.2.1 w
        · exact o1.2.1 i (by simp) w
  · rintro (⟨i, -, hF, X, x, rfl⟩ | ⟨-, hF, X, x, rfl⟩)
    · refine ⟨hF, X, x ++ [i], ?_⟩
      simp
    · refine ⟨hF, X ++ [x], [], ?_⟩
      simp
theorem ExtP.full {l : List Nat} {Pd P : List (List Nat)} (fl : mkP (l :: Pd) = 2 ^ s - 1) (ok : pOk A N (l :: Pd)) (hl : Pd.length < nb) : Full A N s nb (List.replicate (nb - 1 - Pd.length) [] ++ (l :: Pd)) ∧ (ExtP A N s nb l Pd P ↔ P = List.replicate (nb - 1 - Pd.length) [] ++ (l :: Pd)) := by
  obtain ⟨a, b, -, -⟩ := pad_ok (V := fun _ _ => false) ok (nb - 1 - Pd.length)
  have F : Full A N s nb (List.replicate (nb - 1 - Pd.length) [] ++ (l :: Pd)) := ⟨by simp; omega, a, b.trans fl⟩
  refine ⟨F, ?_, ?_⟩
  · rintro ⟨hF, X, x, rfl⟩
    have o1 := pOk_app hF.2.1
    have mem : ∀ r, inP (X ++ ((x ++ l) :: Pd)) r → inP (l :: Pd) r := by
      intro r hr
      rw [← mkP_bit, fl, Nat.testBit_two_pow_sub_one, decide_eq_true_iff]
      exact (hF.mem r).mp hr
    have x0 : x = [] := by
      rcases List.eq_nil_or_concat x with e | ⟨x', i, e⟩
      · exact e
      · exfalso
        have hi : i ∈ x := by rw [e]; simp
        have h1 := mem i (inP_app.mpr (Or.inr (inP_cons.mpr (Or.inl (by simp [hi])))))
        rcases inP_cons.mp h1 with w | w
        · exact rOk_dis o1.1 hi w
        · exact o1.2.1 i (by simp [hi]) w
    subst x0
    have X0 : X = List.replicate X.length [] := by
      rw [List.eq_replicate_iff]
      refine ⟨rfl, fun y hy => ?_⟩
      cases y with
      | nil => rfl
      | cons r y =>
        exfalso
        have hx : inP X r := ⟨r :: y, hy, by simp⟩
        have h1 := mem r (inP_app.mpr (Or.inl hx))
        exact pOk_dis hF.2.1 hx h1
    have len := hF.1
    simp only [List.length_append, List.length_cons] at len
    rw [X0, show X.length = nb - 1 - Pd.length by omega]
    rfl
  · rintro rfl
    exact ⟨F, _, [], rfl⟩
def un (s : Nat) (P : List (List Nat)) : Nat := cntB (fun r => !(mkP P).testBit r) s
theorem cntB_0 {p : Nat → Bool} : ∀ n, cntB p n = 0 → ∀ r, r < n → p r = false
  | 0, _, r, hr => by omega
  | n + 1, h, r, hr => by
    unfold cntB at h
    by_cases e : r = n
    · subst e
      cases q : p r
      · rfl
      · rw [if_pos q] at h; omega
    · exact cntB_0 n (by omega) r (by omega)
theorem un_pos {P : List (List Nat)} (nf : mkP P ≠ 2 ^ s - 1) (hr : ∀ r, inP P r → r < s) : 1 ≤ un s P := by
  apply Classical.byContradiction
  intro w
  apply nf
  apply bit_ext
  intro r
  rw [Nat.testBit_two_pow_sub_one, decide_eq_true_iff]
  refine ⟨fun q => hr r ((mkP_bit r P).mp q), fun q => ?_⟩
  have := cntB_0 (p := fun r => !(mkP P).testBit r) s (by unfold un at w; omega) r q
  simpa using this
theorem un_cons {i : Nat} {l : List Nat} {Pd : List (List Nat)} (hi : i < s) (hn : ¬ inP (l :: Pd) i) : un s ((i :: l) :: Pd) + 1 = un s (l :: Pd) := by
  unfold un
  refine cntB_dec (i := i) ?_ ?_ s hi (fun r _ hr => ?_)
  · have : ¬ (mkP (l :: Pd)).testBit i = true := fun w => hn ((mkP_bit i _).mp w)
    simpa using this
  · have : (mkP ((i :: l) :: Pd)).testBit i = true := (mkP_bit i _).mpr (inP_cons.mpr (Or.inl (by simp)))
    simp [this]
  · have : (mkP ((i :: l) :: Pd)).testBit r = true ↔ (mkP (l :: Pd)).testBit r = true := by
      rw [mkP_bit, mkP_bit, inP_cons, inP_cons, List.mem_cons]
      simp [hr]
    cases q1 : (mkP ((i :: l) :: Pd)).testBit r <;> cases q2 : (mkP (l :: Pd)).testBit r <;> simp_all
theorem mkP_nil (Q : List (List Nat)) : mkP ([] :: Q) = mkP Q := by rw [mkP, mkL, Nat.zero_or]
theorem mkP_in (i : Nat) (l : List Nat) (Pd : List (List Nat)) : mkP ((i :: l) :: Pd) = mkP (l :: Pd) ||| 2 ^ i := by
  rw [mkP, mkL, mkP, Nat.or_assoc, Nat.or_comm]
theorem mkP_lt {P : List (List Nat)} (hs : s ≤ 6) (hr : ∀ r, inP P r → r < s) : mkP P < 64 := by
  refine Nat.lt_pow_two_of_testBit (n := 6) _ (fun r h6 => ?_)
  cases q : (mkP P).testBit r
  · rfl
  · have := hr r ((mkP_bit r P).mp q)
    omega
end
