/-! ===== pairs ===== -/
def mvv (h : Hp) (x : Int32) (j i : Nat) : Int32 := if x = 0 then (if gI h 39 0 i ≤ gI h 38 0 j then 0 else 1) else (if gI h 38 0 i ≤ gI h 39 0 j then 0 else 1)
theorem sm_lt (f : Nat → Int32) (k : Nat) : ∀ n, k ≤ n → sm (fun k' => if k' < k then f k' else 0) n = sm f k
  | 0, hk => by
    obtain rfl : k = 0 := by omega
    rfl
  | n + 1, hk => by
    by_cases e : k = n + 1
    · subst e
      apply sm_c
      intro i hi
      exact if_pos hi
    · rw [sm, sm_lt f k n (by omega), if_neg (by omega), Int32.add_zero]
def cmS (h : Hp) (x : Int32) (i j : Nat) : Int32 := atS h (gI h 1 i 8) (fun j => if gI h 1 j 9 < gI h 1 i 9 then mvv h x j i else 0) j
theorem L_cm {h : Hp} (R : Rel h) {i : Nat} (hi : i < gN h 1) (x : Int32) : ∀ (m n j : Nat) (acc : Int32), j + m = 8 → m < n → fL_X5_countMoving_16 h n i x acc 8 (nI j) = some (acc + (sm (cmS h x i) 8 - sm (cmS h x i) j)) := by
  intro m
  have hbi := R.boa hi
  induction m with
  | zero =>
    intro n j acc hj hn
    obtain ⟨n, rfl⟩ : ∃ k, n = k + 1 := ⟨n - 1, by omega⟩
    obtain rfl : j = 8 := by omega
    rw [fL_X5_countMoving_16, if_pos (by decide), Int32.sub_self, Int32.add_zero]
  | succ m ih =>
    intro n j acc hj hn
    obtain ⟨n, rfl⟩ : ∃ k, n = k + 1 := ⟨n - 1, by omega⟩
    have e1 : sm (cmS h x i) (j + 1) = sm (cmS h x i) j + cmS h x i j := rfl
    have i1 := fun acc => ih n (j + 1) acc (by omega) (by omega)
    have hS := R.boA j (by omega)
    have hc : (nI j).toNatClampNeg = j := nI_clamp (by omega)
    have h8 : ¬ (8 : Int32) ≤ nI j := fun q => by have := (nIl (n := 8) (by omega) (by omega)).mp q; omega
    have h0 : 0 ≤ nI j ∧ nI j < 8 := nIr (k := 8) (by omega) (by omega)
    have g0 : cmS h x i j = 0 → fL_X5_countMoving_16 h n i x acc 8 (nI (j + 1)) = some (acc + (sm (cmS h x i) 8 - sm (cmS h x i) j)) := by
      intro q
      rw [i1, e1, q, Int32.add_zero]
    have g1 : cmS h x i j = 1 → fL_X5_countMoving_16 h n i x (acc + 1) 8 (nI (j + 1)) = some (acc + (sm (cmS h x i) 8 - sm (cmS h x i) j)) := by
      intro q
      rw [i1, e1, q]
      congr 1
      generalize sm (cmS h x i) 8 = A
      generalize sm (cmS h x i) j = B
      clear i1 e1 hS hbi g0 ih
      grind
    rw [fL_X5_countMoving_16, if_neg h8, if_pos h0, hc, hS, nI_s]
    by_cases hjt : j < gN h 1
    · have hbj := R.boa hjt
      rw [if_pos hjt]
      simp only [e_outOf, bnd_some]
      by_cases q : gI h 1 i 8 = gI h 1 j 8 ∧ gI h 1 j 9 < gI h 1 i 9
      · rw [decide_eq_true q, if_pos rfl]
        have ev : cmS h x i j = mvv h x j i := (if_pos ⟨hjt, q.1.symm⟩).trans (if_pos q.2)
        by_cases x0 : x = 0
        · have em : mvv h x j i = if gI h 39 0 i ≤ gI h 38 0 j then 0 else 1 := if_pos x0
          rw [if_pos x0, f_X1_movesMaybe, hbi.2.2.2.2.2.2.1, hbj.2.2.2.2.2.1]
          by_cases q2 : gI h 39 0 i ≤ gI h 38 0 j
          · rw [if_pos q2]
            exact g0 (ev.trans (em.trans (if_pos q2)))
          · rw [if_neg q2]
            exact g1 (ev.trans (em.trans (if_neg q2)))
        · have em : mvv h x j i = if gI h 38 0 i ≤ gI h 39 0 j then 0 else 1 := if_neg x0
          rw [if_neg x0, f_X1_movesSurely, hbi.2.2.2.2.2.1, hbj.2.2.2.2.2.2.1]
          by_cases q2 : gI h 38 0 i ≤ gI h 39 0 j
          · rw [if_pos q2]
            exact g0 (ev.trans (em.trans (if_pos q2)))
          · rw [if_neg q2]
            exact g1 (ev.trans (em.trans (if_neg q2)))
      · rw [decide_eq_false q, if_neg (by decide)]
        refine g0 ?_
        unfold cmS atS
        by_cases q3 : j < gN h 1 ∧ gI h 1 j 8 = gI h 1 i 8
        · exact (if_pos q3).trans (if_neg (fun q4 => q ⟨q3.2.symm, q4⟩))
        · exact if_neg q3
    · rw [if_neg hjt]
      exact g0 (if_neg (fun q => hjt q.1))
/-- how many boats the boat at a place moves -/
def cmP (h : Hp) (x : Int32) (b k : Nat) : Int32 := sm (fun k' => mvv h x (rwA h b k') (rwA h b k)) k
theorem e_cm {h : Hp} (R : Rel h) {b k : Nat} (hb : b < gN h 0) (hk : k < cnA h b) (x : Int32) : f_X5_countMoving (rwA h b k) x h = some (cmP h x b k) := by
  obtain ⟨⟨hB, hT⟩, hcn, hr, hp⟩ := R.pos
  have c6 := (hcn b hb).1
  have hq := hr b k hb hk
  unfold f_X5_countMoving
  refine (L_cm R hq.1 x 8 FU 0 0 (by omega) (FUb (by omega))).trans ?_
  have e0 : sm (cmS h x (rwA h b k)) 0 = 0 := rfl
  have e1 : sm (cmS h x (rwA h b k)) 8 = cmP h x b k := by
    unfold cmS
    rw [hq.2.2.1]
    refine (reidx R hb _).trans ?_
    refine Eq.trans ?_ (sm_lt (fun k' => mvv h x (rwA h b k') (rwA h b k)) k (cnA h b) (by omega))
    apply sm_c
    intro k' hk'
    have hq' := hr b k' hb hk'
    show (if gI h 1 (rwA h b k') 9 < gI h 1 (rwA h b k) 9 then _ else (0 : Int32)) = _
    rw [hq.2.2.2, hq'.2.2.2]
    simp only [nI_ltI (show k' < 2 ^ 31 by omega) (show k < 2 ^ 31 by omega)]
  rw [e0, e1]
  congr 1
  generalize cmP h x b k = A
  grind
