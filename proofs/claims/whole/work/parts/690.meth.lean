/-! ===== could ===== -/
def crw (h : Hp) (i : Nat) : Bool := decide (¬ ((gI h 40 0 i >>> (gI h 8 0 19 &&& 31)) &&& 1) = 0)
theorem e_crew {h : Hp} (R : Rel h) {i : Nat} (hi : i < gN h 1) : f_X1_hasCrewAt i (gI h 2 0 0) h = some (crw h i) := by
  unfold f_X1_hasCrewAt crw
  rw [(R.boa hi).2.2.2.2.2.2.2.1, R.2.2.2.2.1.2.1]
  by_cases e : ((gI h 40 0 i >>> (gI h 8 0 19 &&& 31)) &&& 1) = 0 <;> simp [e]
theorem e_outOf (i j : Nat) (h : Hp) : f_X1_isOutsideOf i j h = some (decide (gI h 1 i 8 = gI h 1 j 8 ∧ gI h 1 j 9 < gI h 1 i 9)) := by
  unfold f_X1_isOutsideOf
  by_cases e : gI h 1 i 8 = gI h 1 j 8
  · rw [if_pos e]
    by_cases e2 : gI h 1 i 9 ≤ gI h 1 j 9
    · rw [if_pos e2, decide_eq_false (fun q => Int32.not_lt.mpr e2 q.2)]
    · rw [if_neg e2, decide_eq_true ⟨e, Int32.not_le.mp e2⟩]
  · rw [if_neg e, decide_eq_false (fun q => e q.1)]
/-- 1 for a boat that lies at this berth outside of this place -/
def otS (h : Hp) (b k : Int32) (i : Nat) : Int32 := atS h b (fun i => if k < gI h 1 i 9 then 1 else 0) i
def otP (h : Hp) (b k : Int32) (i : Nat) : Prop := i < gN h 1 ∧ gI h 1 i 8 = b ∧ k < gI h 1 i 9
theorem otS_y {h : Hp} {b k : Int32} {i : Nat} (q : otP h b k i) : otS h b k i = 1 := by
  unfold otS atS
  exact (if_pos ⟨q.1, q.2.1⟩).trans (if_pos q.2.2)
theorem otS_n {h : Hp} {b k : Int32} {i : Nat} (q : ¬ otP h b k i) : otS h b k i = 0 := by
  unfold otS atS
  by_cases e : i < gN h 1 ∧ gI h 1 i 8 = b
  · exact (if_pos e).trans (if_neg (fun q2 => q ⟨e.1, e.2, q2⟩))
  · rw [if_neg e]
theorem L_moved {h : Hp} (R : Rel h) {i0 : Nat} {b k : Int32} (e8 : gI h 1 i0 8 = b) (e9 : gI h 1 i0 9 = k) : ∀ (m n j : Nat) (acc : Int32), j + m = 8 → m < n →
    ((∀ i, j ≤ i → i < 8 → otP h b k i → crw h i = true) → fL_X5_movedIfLeaving_26 h n i0 (gI h 2 0 0) acc 8 (nI j) = some (acc + (sm (otS h b k) 8 - sm (otS h b k) j))) ∧
    ((∃ i, j ≤ i ∧ i < 8 ∧ otP h b k i ∧ crw h i = false) → fL_X5_movedIfLeaving_26 h n i0 (gI h 2 0 0) acc 8 (nI j) = some (-1)) := by
  intro m
  induction m with
  | zero =>
    intro n j acc hj hn
    obtain ⟨n, rfl⟩ : ∃ k, n = k + 1 := ⟨n - 1, by omega⟩
    obtain rfl : j = 8 := by omega
    refine ⟨fun _ => ?_, fun ⟨i, q1, q2, _⟩ => by omega⟩
    rw [fL_X5_movedIfLeaving_26, if_pos (by decide), Int32.sub_self, Int32.add_zero]
  | succ m ih =>
    intro n j acc hj hn
    obtain ⟨n, rfl⟩ : ∃ k, n = k + 1 := ⟨n - 1, by omega⟩
    have e1 : sm (otS h b k) (j + 1) = sm (otS h b k) j + otS h b k j := rfl
    have i1 := fun acc => ih n (j + 1) acc (by omega) (by omega)
    have hS := R.boA j (by omega)
    have hc : (nI j).toNatClampNeg = j := nI_clamp (by omega)
    have h8 : ¬ (8 : Int32) ≤ nI j := fun q => by have := (nIl (n := 8) (by omega) (by omega)).mp q; omega
    have h0 : 0 ≤ nI j ∧ nI j < 8 := nIr (k := 8) (by omega) (by omega)
    rw [fL_X5_movedIfLeaving_26, if_neg h8, if_pos h0, hc, hS, nI_s]
    have no : ¬ otP h b k j → ((∀ i, j ≤ i → i < 8 → otP h b k i → crw h i = true) → fL_X5_movedIfLeaving_26 h n i0 (gI h 2 0 0) acc 8 (nI (j + 1)) = some (acc + (sm (otS h b k) 8 - sm (otS h b k) j))) ∧ ((∃ i, j ≤ i ∧ i < 8 ∧ otP h b k i ∧ crw h i = false) → fL_X5_movedIfLeaving_26 h n i0 (gI h 2 0 0) acc 8 (nI (j + 1)) = some (-1)) := by
      intro q
      rw [otS_n q, Int32.add_zero] at e1
      rw [← e1]
      refine ⟨fun a => (i1 acc).1 (fun i q1 q2 q3 => a i (by omega) q2 q3), fun ⟨i, q1, q2, q3, q4⟩ => (i1 acc).2 ⟨i, ?_, q2, q3, q4⟩⟩
      by_cases e : i = j
      · subst e; exact absurd q3 q
      · omega
    by_cases hjt : j < gN h 1
    · rw [if_pos hjt]
      simp only [e_outOf, bnd_some, e_crew R hjt, e8, e9]
      by_cases q : gI h 1 j 8 = b ∧ k < gI h 1 j 9
      · rw [decide_eq_true q, if_pos rfl]
        have qo : otP h b k j := ⟨hjt, q⟩
        by_cases cr : crw h j = true
        · rw [if_pos cr]
          rw [otS_y qo] at e1
          have e2 : acc + (sm (otS h b k) 8 - sm (otS h b k) j) = acc + 1 + (sm (otS h b k) 8 - sm (otS h b k) (j + 1)) := by rw [e1]; grind
          rw [e2]
          refine ⟨fun a => (i1 (acc + 1)).1 (fun i q1 q2 q3 => a i (by omega) q2 q3), fun ⟨i, q1, q2, q3, q4⟩ => (i1 (acc + 1)).2 ⟨i, ?_, q2, q3, q4⟩⟩
          by_cases e : i = j
          · subst e; rw [cr] at q4; exact absurd q4 (by decide)
          · omega
        · rw [if_neg cr]
          exact ⟨fun a => absurd (a j (by omega) (by omega) qo) cr, fun _ => rfl⟩
      · rw [decide_eq_false q, if_neg (by decide)]
        exact no (fun q2 => q q2.2)
    · rw [if_neg hjt]
      exact no (fun q2 => hjt q2.1)
theorem L_outs {nb nt : Nat} {h : Hp} (M : RM nb nt h) {b k0 : Nat} (hb : b < nb) (hk0 : k0 < cnA h b) (hrow : ∀ k, k < cnA h b → gI h 44 0 (6 * b + k) = nI (rwA h b k) ∧ rwA h b k < 8) : ∀ (m n k : Nat), k + m = cnA h b → m < n →
    ((∀ k', k ≤ k' → k' < cnA h b → crw h (rwA h b k') = true) → fL_X8_outside_7 h n (nI (6 * b + k0)) (nI b) (nI (6 * b + k)) = some (nI (cnA h b - k0 - 1))) ∧
    ((∃ k', k ≤ k' ∧ k' < cnA h b ∧ crw h (rwA h b k') = false) → fL_X8_outside_7 h n (nI (6 * b + k0)) (nI b) (nI (6 * b + k)) = some (-1)) := by
  intro m
  have hb4 : nb ≤ 4 := M.1
  obtain ⟨c6, e43⟩ := M.2.2.2.2.1 b hb
  have h4 : 0 ≤ nI b ∧ nI b < 4 := nIr (k := 4) (by omega) (by omega)
  have cb : (nI b).toNatClampNeg = b := nI_clamp (by omega)
  have d6 := (div6 (b := b) (k := k0) (by omega) (by omega)).2
  induction m with
  | zero =>
    intro n k hk hn
    obtain ⟨n, rfl⟩ : ∃ k, n = k + 1 := ⟨n - 1, by omega⟩
    refine ⟨fun _ => ?_, fun ⟨k', q1, q2, _⟩ => by omega⟩
    rw [fL_X8_outside_7, if_pos h4, cb, e43, i6, if_pos ((nIl (by omega) (by omega)).mpr (by omega)), if_pos h4, d6, nI_sub (by omega)]
    rw [show (1 : Int32) = nI 1 from rfl, nI_sub (by omega)]
  | succ m ih =>
    intro n k hk hn
    obtain ⟨n, rfl⟩ : ∃ k, n = k + 1 := ⟨n - 1, by omega⟩
    obtain ⟨er, hr8⟩ := hrow k (by omega)
    have i1 := ih n (k + 1) (by omega) (by omega)
    have ec : (((gI h 40 0 (rwA h b k)) >>> ((gI h 8 0 19) &&& 31)) &&& (1 : Int32)) = 0 ↔ crw h (rwA h b k) = false := by
      unfold crw
      simp
    rw [fL_X8_outside_7, if_pos h4, cb, e43, i6, if_neg (fun q => by have := (nIl (by omega) (by omega)).mp q; omega), if_pos (show 0 ≤ nI (6 * b + k) ∧ nI (6 * b + k) < 24 from nIr (k := 24) (by omega) (by omega)), nI_clamp (n := 6 * b + k) (by omega), er, if_pos (show 0 ≤ nI (rwA h b k) ∧ nI (rwA h b k) < 8 from nIr (k := 8) (by omega) (by omega)), nI_clamp (n := rwA h b k) (by omega), nI_s]
    by_cases cr : crw h (rwA h b k) = true
    · rw [if_neg (fun q => by rw [ec.mp q] at cr; exact absurd cr (by decide))]
      refine ⟨fun a => i1.1 (fun k' q1 q2 => a k' (by omega) q2), fun ⟨k', q1, q2, q3⟩ => i1.2 ⟨k', ?_, q2, q3⟩⟩
      by_cases e : k' = k
      · subst e; rw [cr] at q3; exact absurd q3 (by decide)
      · omega
    · rw [if_pos (ec.mpr (by simpa using cr))]
      exact ⟨fun a => absurd (a k (by omega) (by omega)) cr, fun _ => rfl⟩
theorem sm_gt {k : Nat} : ∀ n, n < 1000 → sm (fun k' => if k < k' then (1 : Int32) else 0) n = nI (n - k - 1)
  | 0, _ => by
    rw [Nat.zero_sub, Nat.zero_sub]
    rfl
  | n + 1, hn => by
    rw [sm, sm_gt n (by omega)]
    by_cases e : k < n
    · rw [if_pos e, nI_s]
      congr 1
      omega
    · rw [if_neg e, Int32.add_zero]
      congr 1
      omega
theorem p_could {h : Hp} (R : Rel h) (x : Int32) : Pm h (f_X7_could x) (f_X8_could x) := by
  rcases R.boat? x with ⟨i, hi, rfl, hb, hm, hc, h8⟩ | ⟨hb, hm, -⟩
  · rcases R.lies? hi with ⟨l8, l9, hl, hs⟩ | ⟨b, k, hbb, hk, l8, l9, er, hl, hs⟩
    · have sp : f_X8_spotOf (nI i) (hcF h) = some (-1) := hs (hcF h) R.rmF (fun _ => rfl) (fun _ => rfl)
      refine Pm.find R (-1000005) ?_ ?_
      · simp only [f_X7_could, hb, bnd_some, hl, c_find (c := -1000005) (by decide)]
        rfl
      · simp only [f_X8_could, isBoat_F, hm, bnd_some, if_true, sp, if_neg (show ¬ (0 : Int32) ≤ -1 by decide), fnd_eta]
    · obtain ⟨⟨hB, hT⟩, hcn, hr, hp⟩ := R.pos
      have sp : f_X8_spotOf (nI i) h = some (nI (6 * b + k)) := hs h R.rm (fun _ => rfl) (fun _ => rfl)
      have c6 := (hcn b hbb).1
      have s0 : (0 : Int32) ≤ nI (6 * b + k) := (nIr (n := 6 * b + k) (k := 100) (by omega) (by omega)).1
      have hrow : ∀ k, k < cnA h b → gI h 44 0 (6 * b + k) = nI (rwA h b k) ∧ rwA h b k < 8 := fun k hk => ⟨(hr b k hbb hk).2.1, by have := (hr b k hbb hk).1; omega⟩
      have LO := L_outs R.rm hbb hk hrow (cnA h b - k) FU k (by omega) (FUb (by omega))
      have LM := L_moved R (i0 := i) l8 l9 8 FU 0 0 (by omega) (FUb (by omega))
      have d6 := (div6 (b := b) (k := k) (by omega) (by omega)).1
      have key : ∀ v, f_X5_movedIfLeaving i (gI h 2 0 0) h = some v → f_X8_outside (nI (6 * b + k)) h = some v → Pm h (f_X7_could (nI i)) (f_X8_could (nI i)) := by
        intro v v1 v2
        refine Pm.rd R v ?_ ?_
        · simp only [f_X7_could, hb, bnd_some, hl, if_true, v1]
        · simp only [f_X8_could, hm, bnd_some, if_true, sp, if_pos s0, v2]
      by_cases A : ∀ k', k ≤ k' → k' < cnA h b → crw h (rwA h b k') = true
      · refine key (nI (cnA h b - k - 1)) ?_ ?_
        · unfold f_X5_movedIfLeaving
          have ck := A k (Nat.le_refl k) hk
          rw [er] at ck
          rw [e_crew R hi, bnd_some, if_pos ck]
          refine (LM.1 ?_).trans ?_
          · intro i' _ hi' ⟨q1, q2, q3⟩
            rcases hp i' q1 with w | ⟨b', k', w1, w2, w3, w4, w5⟩
            · rw [w.1] at q2
              exact absurd q2 (fun q => by have := (nIr (n := b) (k := 4) (by omega) (by omega)).1; rw [← q] at this; exact absurd this (by decide))
            · rw [w3] at q2
              obtain rfl : b' = b := (nI_eq (by omega) (by omega)).mp q2
              have k6 : k' < 6 := by omega
              rw [w4] at q3
              have := (nI_ltI (by omega) (by omega)).mp q3
              rw [← w5]
              exact A k' (by omega) w2
          · have e0 : sm (otS h (nI b) (nI k)) 0 = 0 := rfl
            have e1 : sm (otS h (nI b) (nI k)) 8 = nI (cnA h b - k - 1) := by
              refine (reidx R hbb _).trans ?_
              rw [← sm_gt (k := k) (cnA h b) (by omega)]
              apply sm_c
              intro k' hk'
              rw [(hr b k' hbb hk').2.2.2]
              have k6 : k' < 6 := by omega
              simp only [nI_ltI (show k < 2 ^ 31 by omega) (show k' < 2 ^ 31 by omega)]
            rw [e0, e1]
            congr 1
            grind
        · unfold f_X8_outside
          rw [d6]
          exact LO.1 A
      · have A' : ∃ k', k ≤ k' ∧ k' < cnA h b ∧ crw h (rwA h b k') = false := by
          apply Classical.byContradiction
          intro q
          apply A
          intro k' q1 q2
          cases e : crw h (rwA h b k')
          · exact absurd ⟨k', q1, q2, e⟩ q
          · rfl
        refine key (-1) ?_ ?_
        · unfold f_X5_movedIfLeaving
          rw [e_crew R hi, bnd_some]
          by_cases ck : crw h i = true
          · rw [if_pos ck]
            refine LM.2 ?_
            obtain ⟨k', q1, q2, q3⟩ := A'
            have hrk := hr b k' hbb q2
            refine ⟨rwA h b k', by omega, by omega, ⟨hrk.1, hrk.2.2.1, ?_⟩, q3⟩
            rw [hrk.2.2.2]
            refine (nI_ltI (by omega) (by omega)).mpr ?_
            by_cases e : k' = k
            · subst e; rw [er, ck] at q3; exact absurd q3 (by decide)
            · omega
          · rw [if_neg ck]
        · unfold f_X8_outside
          rw [d6]
          exact LO.2 A'
  · refine Pm.find R (-1000001) ?_ ?_
    · simp only [f_X7_could, hb, bnd_some, c_find (c := -1000001) (by decide)]
    · simp only [f_X8_could, isBoat_F, hm, bnd_some, fnd_eta]
      rfl
