/-! ===== run: who leaves next ===== -/
theorem e_could {h : Hp} (R : Rel h) {i b k : Nat} (hi : i < gN h 1) (hbb : b < gN h 0) (hk : k < cnA h b) (l8 : gI h 1 i 8 = nI b) (l9 : gI h 1 i 9 = nI k) (er : rwA h b k = i) :
    ∃ v, f_X5_movedIfLeaving i (gI h 2 0 0) h = some v ∧ f_X8_outside (nI (6 * b + k)) h = some v ∧ (v = -1 ∨ ∃ c, c ≤ 6 ∧ v = nI c) := by
  obtain ⟨⟨hB, hT⟩, hcn, hr, hp⟩ := R.pos
  have c6 := (hcn b hbb).1
  have hrow : ∀ k, k < cnA h b → gI h 44 0 (6 * b + k) = nI (rwA h b k) ∧ rwA h b k < 8 := fun k hk => ⟨(hr b k hbb hk).2.1, by have := (hr b k hbb hk).1; omega⟩
  have LO := L_outs R.rm hbb hk hrow (cnA h b - k) FU k (by omega) (FUb (by omega))
  have LM := L_moved R (i0 := i) l8 l9 8 FU 0 0 (by omega) (FUb (by omega))
  have d6 := (div6 (b := b) (k := k) (by omega) (by omega)).1
  have key : ∀ v, f_X5_movedIfLeaving i (gI h 2 0 0) h = some v → f_X8_outside (nI (6 * b + k)) h = some v → (v = -1 ∨ ∃ c, c ≤ 6 ∧ v = nI c) → ∃ v, f_X5_movedIfLeaving i (gI h 2 0 0) h = some v ∧ f_X8_outside (nI (6 * b + k)) h = some v ∧ (v = -1 ∨ ∃ c, c ≤ 6 ∧ v = nI c) := fun v a b c => ⟨v, a, b, c⟩
  by_cases A : ∀ k', k ≤ k' → k' < cnA h b → crw h (rwA h b k') = true
  · refine key (nI (cnA h b - k - 1)) ?_ ?_ (Or.inr ⟨cnA h b - k - 1, by omega, rfl⟩)
    · unfold f_X5_movedIfLeaving
      have ck := A k (Nat.le_refl k) hk
      rw [er] at ck
      rw [e_crew R hi, bnd_some, if_pos ck]
      refine (LM.1 ?_).trans ?_
      · intro i' _ hi' ⟨q1, q2, q3⟩
        rcases hp i' q1 with w | ⟨b', k', w1, w2, w3, w4, w5⟩
        · rw [w.1] at q2
          exact absurd q2 (fun q => by have := (nIr (n := b) (k := 4) (by omega) (by omega)).1; rw [← q] at this; exact absurd this (by decide))
        · rw [w3] at q2
          obtain rfl : b' = b := (nI_eq (by omega) (by omega)).mp q2
          have k6 : k' < 6 := by omega
          rw [w4] at q3
          have := (nI_ltI (by omega) (by omega)).mp q3
          rw [← w5]
          exact A k' (by omega) w2
      · have e0 : sm (otS h (nI b) (nI k)) 0 = 0 := rfl
        have e1 : sm (otS h (nI b) (nI k)) 8 = nI (cnA h b - k - 1) := by
          refine (reidx R hbb _).trans ?_
          rw [← sm_gt (k := k) (cnA h b) (by omega)]
          apply sm_c
          intro k' hk'
          rw [(hr b k' hbb hk').2.2.2]
          have k6 : k' < 6 := by omega
          simp only [nI_ltI (show k < 2 ^ 31 by omega) (show k' < 2 ^ 31 by omega)]
        rw [e0, e1]
        congr 1
        grind
    · unfold f_X8_outside
      rw [d6]
      exact LO.1 A
  · have A' : ∃ k', k ≤ k' ∧ k' < cnA h b ∧ crw h (rwA h b k') = false := by
      apply Classical.byContradiction
      intro q
      apply A
      intro k' q1 q2
      cases e : crw h (rwA h b k')
      · exact absurd ⟨k', q1, q2, e⟩ q
      · rfl
    refine key (-1) ?_ ?_ (Or.inl rfl)
    · unfold f_X5_movedIfLeaving
      rw [e_crew R hi, bnd_some]
      by_cases ck : crw h i = true
      · rw [if_pos ck]
        refine LM.2 ?_
        obtain ⟨k', q1, q2, q3⟩ := A'
        have hrk := hr b k' hbb q2
        refine ⟨rwA h b k', by omega, by omega, ⟨hrk.1, hrk.2.2.1, ?_⟩, q3⟩
        rw [hrk.2.2.2]
        refine (nI_ltI (by omega) (by omega)).mpr ?_
        by_cases e : k' = k
        · subst e; rw [er, ck] at q3; exact absurd q3 (by decide)
        · omega
      · rw [if_neg ck]
    · unfold f_X8_outside
      rw [d6]
      exact LO.2 A'
section
variable {h h' : Hp}
theorem lm_L12 (E : MP h h') : ∀ (n : Nat) (c c' : Int32 → Int32 → Option Int32) (_ : ∀ a b, c a b = c' a b) (x1 x2 x3 : Int32), fL_X8_spotOf_12 h c n x1 x2 x3 = fL_X8_spotOf_12 h' c' n x1 x2 x3 := by
  intro n
  induction n with
  | zero => intros; rfl
  | succ n ih =>
    intro c c' hc x1 x2 x3
    rw [fL_X8_spotOf_12, fL_X8_spotOf_12, E 43 rfl, E 44 rfl]
    simp only [ih c c' hc, hc]
theorem lm_L2 (E : MP h h') : ∀ (n : Nat) (x1 x2 : Int32), fL_X8_spotOf_2 h n x1 x2 = fL_X8_spotOf_2 h' n x1 x2 := by
  intro n
  induction n with
  | zero => intros; rfl
  | succ n ih =>
    intro x1 x2
    rw [fL_X8_spotOf_2, fL_X8_spotOf_2, E 8 rfl, lm_L12 E FU (fL_X8_spotOf_2 h n) (fL_X8_spotOf_2 h' n) (fun a b => ih a b)]
theorem lm_spot (E : MP h h') (x : Int32) : f_X8_spotOf x h = f_X8_spotOf x h' := by unfold f_X8_spotOf; exact lm_L2 E _ _ _
theorem lm_L7 (E : MP h h') : ∀ (n : Nat) (x1 x2 x3 : Int32), fL_X8_outside_7 h n x1 x2 x3 = fL_X8_outside_7 h' n x1 x2 x3 := by
  intro n
  induction n with
  | zero => intros; rfl
  | succ n ih => intros; rw [fL_X8_outside_7, fL_X8_outside_7, E 43 rfl, E 44 rfl, E 40 rfl, E 8 rfl]; simp only [ih]
theorem lm_outside (E : MP h h') (x : Int32) : f_X8_outside x h = f_X8_outside x h' := by unfold f_X8_outside; exact lm_L7 E _ _ _ _
theorem lm_L6 (E : MP h h') : ∀ (n : Nat) (x1 x2 x3 : Int32), fL_X8_nextToLeave_6 h n x1 x2 x3 = fL_X8_nextToLeave_6 h' n x1 x2 x3 := by
  intro n
  induction n with
  | zero => intros; rfl
  | succ n ih =>
    intro x1 x2 x3
    rw [fL_X8_nextToLeave_6, fL_X8_nextToLeave_6, E 8 rfl, E 38 rfl, lm_spot E]
    simp only [fJ_X8_nextToLeave_39, fJ_X8_nextToLeave_49, fJ_X8_nextToLeave_66, ih, lm_outside E]
theorem lm_next (E : MP h h') : f_X8_nextToLeave h = f_X8_nextToLeave h' := by unfold f_X8_nextToLeave; exact lm_L6 E _ _ _ _
end
theorem L_nextE {h : Hp} (R : Rel h) (o : Option Nat) (x3 : Int32) : ∀ (m n j : Nat), j + m = 8 → m < n → gN h 1 ≤ j → fL_X2_nextToLeave_19 h n o x3 8 (nI j) = some o := by
  intro m
  induction m with
  | zero =>
    intro n j hj hn hk
    obtain ⟨n, rfl⟩ : ∃ k, n = k + 1 := ⟨n - 1, by omega⟩
    obtain rfl : j = 8 := by omega
    rw [fL_X2_nextToLeave_19, if_pos (by decide)]
  | succ m ih =>
    intro n j hj hn hk
    obtain ⟨n, rfl⟩ : ∃ k, n = k + 1 := ⟨n - 1, by omega⟩
    have hS := R.boA j (by omega)
    rw [if_neg (by omega)] at hS
    rw [fL_X2_nextToLeave_19, if_neg (fun q => by have := (nIl (n := 8) (by omega) (by omega)).mp q; omega), if_pos (show 0 ≤ nI j ∧ nI j < 8 from nIr (k := 8) (by omega) (by omega)), nI_clamp (by omega), hS, nI_s]
    exact ih n (j + 1) (by omega) (by omega) (by omega)
theorem e_wants {h : Hp} (R : Rel h) {i : Nat} (hi : i < gN h 1) : f_X2_wantsToLeave i h = some (decide (¬ gI h 1 i 8 = -1 ∧ gI h 38 0 i ≤ gI h 8 0 19)) := by
  have hB := R.boa hi
  have hr : gI h 2 0 0 = gI h 8 0 19 := R.2.2.2.2.1.2.1
  unfold f_X2_wantsToLeave
  rw [e_lying, bnd_some, hB.2.2.2.2.2.1, hr]
  by_cases q : gI h 1 i 8 = -1
  · rw [decide_eq_false (fun w => w q), if_neg (by decide), decide_eq_false (fun w => w.1 q)]
  · rw [decide_eq_true q, if_pos rfl]
    by_cases q2 : gI h 8 0 19 < gI h 38 0 i
    · rw [if_pos q2, decide_eq_false (fun w => Int32.not_le.mpr q2 w.2)]
    · rw [if_neg q2, decide_eq_true ⟨q, Int32.not_lt.mp q2⟩]
theorem L_next {h : Hp} (R : Rel h) : ∀ (m n1 n2 j : Nat) (o : Option Nat) (x3 x1 x2 : Int32), j + m = gN h 1 → 8 < n1 + j → m < n2 →
    ((o = none ∧ x3 = 8 ∧ x1 = -1) ∨ (∃ i c, i < gN h 1 ∧ ¬ gI h 1 i 8 = -1 ∧ o = some i ∧ x1 = nI i ∧ x3 = nI c ∧ x2 = nI c ∧ c ≤ 6)) →
    ∃ o', fL_X2_nextToLeave_19 h n1 o x3 8 (nI j) = some o' ∧ ((o' = none ∧ fL_X8_nextToLeave_6 h n2 x1 x2 (nI j) = some (-1)) ∨ (∃ i, i < gN h 1 ∧ ¬ gI h 1 i 8 = -1 ∧ o' = some i ∧ fL_X8_nextToLeave_6 h n2 x1 x2 (nI j) = some (nI i))) := by
  obtain ⟨⟨hB, hT⟩, hcn, hr, hps⟩ := R.pos
  have nt := R.nt
  intro m
  induction m with
  | zero =>
    intro n1 n2 j o x3 x1 x2 hj h1 h2 I
    obtain ⟨n2, rfl⟩ : ∃ k, n2 = k + 1 := ⟨n2 - 1, by omega⟩
    refine ⟨o, L_nextE R o x3 (8 - j) n1 j (by omega) (by omega) (by omega), ?_⟩
    have em : fL_X8_nextToLeave_6 h (n2 + 1) x1 x2 (nI j) = some x1 := by rw [fL_X8_nextToLeave_6, nt, if_pos ((nIl (by omega) (by omega)).mpr (by omega))]
    rw [em]
    rcases I with ⟨a1, a2, a3⟩ | ⟨i, c, a1, a2, a3, a4, a5⟩
    · exact Or.inl ⟨a1, by rw [a3]⟩
    · exact Or.inr ⟨i, a1, a2, a3, by rw [a4]⟩
  | succ m ih =>
    intro n1 n2 j o x3 x1 x2 hj h1 h2 I
    obtain ⟨n1, rfl⟩ : ∃ k, n1 = k + 1 := ⟨n1 - 1, by omega⟩
    obtain ⟨n2, rfl⟩ : ∃ k, n2 = k + 1 := ⟨n2 - 1, by omega⟩
    have hjt : j < gN h 1 := by omega
    have i1 := fun o x3 x1 x2 I => ih n1 n2 (j + 1) o x3 x1 x2 (by omega) (by omega) (by omega) I
    have hS := R.boA j (by omega)
    rw [if_pos hjt] at hS
    have j8 : 0 ≤ nI j ∧ nI j < 8 := nIr (k := 8) (by omega) (by omega)
    have cj : (nI j).toNatClampNeg = j := nI_clamp (by omega)
    have EC : fL_X2_nextToLeave_19 h (n1 + 1) o x3 8 (nI j) = if (decide (¬ gI h 1 j 8 = -1 ∧ gI h 38 0 j ≤ gI h 8 0 19)) = true then ((f_X5_movedIfLeaving j (gI h 2 0 0) h).bind fun r4 => (if r4 < 0 then (fL_X2_nextToLeave_19 h n1 o x3 8 (nI (j + 1))) else (if x3 ≤ r4 then (fL_X2_nextToLeave_19 h n1 o x3 8 (nI (j + 1))) else (fL_X2_nextToLeave_19 h n1 (some j) r4 8 (nI (j + 1)))))) else fL_X2_nextToLeave_19 h n1 o x3 8 (nI (j + 1)) := by
      rw [fL_X2_nextToLeave_19, if_neg (fun q => by have := (nIl (n := 8) (by omega) (by omega)).mp q; omega), if_pos j8, cj, hS, nI_s]
      simp only []
      rw [e_wants R hjt, bnd_some]
    have EM : fL_X8_nextToLeave_6 h (n2 + 1) x1 x2 (nI j) = (f_X8_spotOf (nI j) h).bind fun r1 => if r1 < 0 then fL_X8_nextToLeave_6 h n2 x1 x2 (nI (j + 1)) else if gI h 38 0 j ≤ gI h 8 0 19 then (f_X8_outside r1 h).bind fun r2 => (if r2 < 0 then fL_X8_nextToLeave_6 h n2 x1 x2 (nI (j + 1)) else if x1 < 0 then fL_X8_nextToLeave_6 h n2 (nI j) r2 (nI (j + 1)) else if x2 ≤ r2 then fL_X8_nextToLeave_6 h n2 x1 x2 (nI (j + 1)) else fL_X8_nextToLeave_6 h n2 (nI j) r2 (nI (j + 1))) else fL_X8_nextToLeave_6 h n2 x1 x2 (nI (j + 1)) := by
      rw [fL_X8_nextToLeave_6, nt, if_neg (fun q => by have := (nIl (by omega) (by omega)).mp q; omega)]
      simp only [j8, and_self, if_true, cj, fJ_X8_nextToLeave_39, fJ_X8_nextToLeave_49, fJ_X8_nextToLeave_66, nI_s, if_pos (show (-1 : Int32) < 0 by decide)]
    have skip : fL_X2_nextToLeave_19 h (n1 + 1) o x3 8 (nI j) = fL_X2_nextToLeave_19 h n1 o x3 8 (nI (j + 1)) → fL_X8_nextToLeave_6 h (n2 + 1) x1 x2 (nI j) = fL_X8_nextToLeave_6 h n2 x1 x2 (nI (j + 1)) → ∃ o', fL_X2_nextToLeave_19 h (n1 + 1) o x3 8 (nI j) = some o' ∧ ((o' = none ∧ fL_X8_nextToLeave_6 h (n2 + 1) x1 x2 (nI j) = some (-1)) ∨ (∃ i, i < gN h 1 ∧ ¬ gI h 1 i 8 = -1 ∧ o' = some i ∧ fL_X8_nextToLeave_6 h (n2 + 1) x1 x2 (nI j) = some (nI i))) := by
      intro a b
      rw [a, b]
      exact i1 o x3 x1 x2 I
    rcases R.lies? hjt with ⟨q1, q2, q3, q4⟩ | ⟨b0, k0, q1, q2, q3, q4, q5, q6, q7⟩
    · have sp := q4 h R.rm (fun _ => rfl) (fun _ => rfl)
      refine skip ?_ ?_
      · rw [EC, if_neg (by rw [decide_eq_false (fun w => w.1 q1)]; decide)]
      · rw [EM, sp, bnd_some, if_pos (by decide)]
    · have sp := q7 h R.rm (fun _ => rfl) (fun _ => rfl)
      have c6 := (hcn b0 q1).1
      have s0 : ¬ nI (6 * b0 + k0) < 0 := nI_pos (by omega)
      have ly : ¬ gI h 1 j 8 = -1 := by rw [q3]; exact fun w => nI_m1 (by omega) w.symm
      by_cases wt : gI h 38 0 j ≤ gI h 8 0 19
      · obtain ⟨v, v1, v2, v3⟩ := e_could R hjt q1 q2 q3 q4 q5
        rw [if_pos (decide_eq_true ⟨ly, wt⟩), v1, bnd_some] at EC
        rw [sp, bnd_some, if_neg s0, if_pos wt, v2, bnd_some] at EM
        rcases v3 with rfl | ⟨c, hc, rfl⟩
        · exact skip (by rw [EC, if_pos (by decide)]) (by rw [EM, if_pos (by decide)])
        · have c0 : ¬ nI c < 0 := nI_pos (by omega)
          rw [if_neg c0] at EC EM
          have take : fL_X2_nextToLeave_19 h (n1 + 1) o x3 8 (nI j) = fL_X2_nextToLeave_19 h n1 (some j) (nI c) 8 (nI (j + 1)) → fL_X8_nextToLeave_6 h (n2 + 1) x1 x2 (nI j) = fL_X8_nextToLeave_6 h n2 (nI j) (nI c) (nI (j + 1)) → ∃ o', fL_X2_nextToLeave_19 h (n1 + 1) o x3 8 (nI j) = some o' ∧ ((o' = none ∧ fL_X8_nextToLeave_6 h (n2 + 1) x1 x2 (nI j) = some (-1)) ∨ (∃ i, i < gN h 1 ∧ ¬ gI h 1 i 8 = -1 ∧ o' = some i ∧ fL_X8_nextToLeave_6 h (n2 + 1) x1 x2 (nI j) = some (nI i))) := by
            intro a b
            rw [a, b]
            exact i1 (some j) (nI c) (nI j) (nI c) (Or.inr ⟨j, c, hjt, ly, rfl, rfl, rfl, rfl, hc⟩)
          rcases I with ⟨a1, a2, a3⟩ | ⟨i, c', a1, a2, a3, a4, a5, a6, a7⟩
          · refine take ?_ ?_
            · rw [EC, a2, if_neg (fun q => by have := (nIl (n := 8) (by omega) (by omega)).mp q; omega)]
            · rw [EM, a3, if_pos (by decide)]
          · have i0 : ¬ nI i < 0 := nI_pos (by omega)
            by_cases lt : c' ≤ c
            · refine skip ?_ ?_
              · rw [EC, a5, if_pos ((nIl (by omega) (by omega)).mpr lt)]
              · rw [EM, a4, if_neg i0, a6, if_pos ((nIl (by omega) (by omega)).mpr lt)]
            · refine take ?_ ?_
              · rw [EC, a5, if_neg (fun q => lt ((nIl (by omega) (by omega)).mp q))]
              · rw [EM, a4, if_neg i0, a6, if_neg (fun q => lt ((nIl (by omega) (by omega)).mp q))]
      · refine skip ?_ ?_
        · rw [EC, if_neg (by rw [decide_eq_false (fun w => wt w.2)]; decide)]
        · rw [EM, sp, bnd_some, if_neg s0, if_neg wt]
theorem e_next {h : Hp} (R : Rel h) : ∃ o', f_X2_nextToLeave h = some o' ∧ ((o' = none ∧ f_X8_nextToLeave h = some (-1)) ∨ (∃ i, i < gN h 1 ∧ ¬ gI h 1 i 8 = -1 ∧ o' = some i ∧ f_X8_nextToLeave h = some (nI i))) := by
  have := L_next R (gN h 1) FU FU 0 none 8 (-1) 0 (by omega) (by have := FUb (m := 8) (by omega); omega) (FUb (by have := R.t8; omega)) (Or.inl ⟨rfl, rfl, rfl⟩)
  exact this
