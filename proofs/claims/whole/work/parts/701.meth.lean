/-! ===== pairs, the sums over a berth ===== -/
def cpS (h : Hp) (x : Int32) (b : Nat) (i : Nat) : Int32 := atS h (nI b) (fun i => sm (cmS h x i) 8) i
theorem L_cp {h : Hp} (R : Rel h) {b : Nat} (x : Int32) : ∀ (m n j : Nat) (acc : Int32), j + m = 8 → m < n → fL_X5_countPairs_27 h n (nI b) x acc 8 (nI j) = some (acc + (sm (cpS h x b) 8 - sm (cpS h x b) j)) := by
  intro m
  induction m with
  | zero =>
    intro n j acc hj hn
    obtain ⟨n, rfl⟩ : ∃ k, n = k + 1 := ⟨n - 1, by omega⟩
    obtain rfl : j = 8 := by omega
    rw [fL_X5_countPairs_27, if_pos (by decide), Int32.sub_self, Int32.add_zero]
  | succ m ih =>
    intro n j acc hj hn
    obtain ⟨n, rfl⟩ : ∃ k, n = k + 1 := ⟨n - 1, by omega⟩
    have e1 : sm (cpS h x b) (j + 1) = sm (cpS h x b) j + cpS h x b j := rfl
    have i1 := fun acc => ih n (j + 1) acc (by omega) (by omega)
    have hS := R.boA j (by omega)
    have hc : (nI j).toNatClampNeg = j := nI_clamp (by omega)
    have h8 : ¬ (8 : Int32) ≤ nI j := fun q => by have := (nIl (n := 8) (by omega) (by omega)).mp q; omega
    have h0 : 0 ≤ nI j ∧ nI j < 8 := nIr (k := 8) (by omega) (by omega)
    rw [fL_X5_countPairs_27, if_neg h8, if_pos h0, hc, hS, nI_s]
    by_cases hjt : j < gN h 1
    · rw [if_pos hjt]
      by_cases q : gI h 1 j 8 = nI b
      · have ec : f_X5_countMoving j x h = some (sm (cmS h x j) 8) := by
          refine (L_cm R hjt x 8 FU 0 0 (by omega) (FUb (by omega))).trans ?_
          have e0 : sm (cmS h x j) 0 = 0 := rfl
          rw [e0]
          congr 1
          generalize sm (cmS h x j) 8 = A
          clear i1 e1 hS ih
          grind
        have ev : cpS h x b j = sm (cmS h x j) 8 := if_pos ⟨hjt, q⟩
        simp only [if_pos q, ec, bnd_some]
        rw [i1, e1, ev]
        congr 1
        generalize sm (cpS h x b) 8 = A
        generalize sm (cpS h x b) j = B
        generalize sm (cmS h x j) 8 = C
        clear i1 e1 hS ih ec ev
        grind
      · have ev : cpS h x b j = 0 := if_neg (fun q2 => q q2.2)
        simp only [if_neg q]
        rw [i1, e1, ev, Int32.add_zero]
    · have ev : cpS h x b j = 0 := if_neg (fun q2 => hjt q2.1)
      rw [if_neg hjt]
      simp only []
      rw [i1, e1, ev, Int32.add_zero]
