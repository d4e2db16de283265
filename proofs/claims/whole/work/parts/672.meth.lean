/-! ===== write ===== -/
theorem cutB8 (v : BitVec 32) : (v <<< 24).sshiftRight 24 = (v.signExtend 8).signExtend 32 := by
  apply BitVec.eq_of_getLsbD_eq
  intro i hi
  simp only [BitVec.getLsbD_sshiftRight, BitVec.getLsbD_signExtend, BitVec.getLsbD_shiftLeft, BitVec.msb_eq_getLsbD_last]
  simp
  grind
theorem cutB16 (v : BitVec 32) : (v <<< 16).sshiftRight 16 = (v.signExtend 16).signExtend 32 := by
  apply BitVec.eq_of_getLsbD_eq
  intro i hi
  simp only [BitVec.getLsbD_sshiftRight, BitVec.getLsbD_signExtend, BitVec.getLsbD_shiftLeft, BitVec.msb_eq_getLsbD_last]
  simp
  grind
theorem cut8 (x : Int32) : (x <<< (((32 : Int32) - 8) &&& 31)) >>> (((32 : Int32) - 8) &&& 31) = Int8.toInt32 (Int32.toInt8 x) := by
  apply Int32.toBitVec_inj.mp
  exact cutB8 x.toBitVec
theorem cut16 (x : Int32) : (x <<< (((32 : Int32) - 16) &&& 31)) >>> (((32 : Int32) - 16) &&& 31) = Int16.toInt32 (Int32.toInt16 x) := by
  apply Int32.toBitVec_inj.mp
  exact cutB16 x.toBitVec
theorem cut32 (x : Int32) : (x <<< (((32 : Int32) - 32) &&& 31)) >>> (((32 : Int32) - 32) &&& 31) = x := by
  apply Int32.toBitVec_inj.mp
  show (x.toBitVec <<< 0).sshiftRight 0 = x.toBitVec
  simp
theorem c_cut (s : Nat) (x : Int32) (h : Hp) (hw : gI h 6 s 1 = 8 ∨ gI h 6 s 1 = 16 ∨ gI h 6 s 1 = 32) : f_X6_cutToWidth s x h = some ((x <<< (((32 : Int32) - gI h 6 s 1) &&& 31)) >>> (((32 : Int32) - gI h 6 s 1) &&& 31)) := by
  unfold f_X6_cutToWidth
  rcases hw with e | e | e <;> rw [e]
  · rw [cut8]; rfl
  · rw [cut16]; rfl
  · rw [cut32]; rfl
theorem e_missing (s : Nat) (h : Hp) : f_X6_isMissing s h = some (decide (gI h 6 s 1 = 0)) := by
  unfold f_X6_isMissing
  by_cases e : gI h 6 s 1 = 0 <;> simp [e]
theorem e_hasNum {s : Nat} {h : Hp} (hz : 0 ≤ gI h 6 s 2 ∧ gI h 6 s 2 ≤ 8) (a n : Int32) : f_X6_hasNumbers s a n h = some (decide (0 ≤ a ∧ 0 ≤ n ∧ a ≤ gI h 6 s 2 ∧ n ≤ gI h 6 s 2 - a)) := by
  unfold f_X6_hasNumbers
  by_cases e : 0 ≤ a ∧ 0 ≤ n ∧ a ≤ gI h 6 s 2 ∧ n ≤ gI h 6 s 2 - a
  · rw [decide_eq_true e]; grind
  · rw [decide_eq_false e]; grind
theorem m_isSheet (x : Int32) (h : Hp) : f_X8_isSheet x h = some (decide (0 ≤ x ∧ x ≤ 3)) := by
  unfold f_X8_isSheet
  rw [w_within]
  rfl
theorem nI_sub {a b : Nat} (h : b ≤ a) : nI a - nI b = nI (a - b) := by
  have : nI a = nI (a - b) + nI b := by rw [nI_add]; congr 1; omega
  rw [this, Int32.add_sub_cancel]
theorem nIr {n k : Nat} (h : n < k) (hk : k < 2147483648) : 0 ≤ nI n ∧ nI n < nI k := by
  have h1 := nI_toInt (n := n) (by omega)
  have h2 := nI_toInt (n := k) (by omega)
  constructor
  · rw [Int32.le_iff_toInt_le, h1]; exact Int.natCast_nonneg n
  · rw [Int32.lt_iff_toInt_lt, h1, h2]; omega
theorem nIl {n k : Nat} (hn : n < 2147483648) (hk : k < 2147483648) : nI n ≤ nI k ↔ n ≤ k := by
  have h1 := nI_toInt (n := n) (by omega)
  have h2 := nI_toInt (n := k) (by omega)
  rw [Int32.le_iff_toInt_le, h1, h2]; omega
theorem ar1 {x z : Int32} (hz : 0 ≤ z ∧ z ≤ 8) : (0 ≤ x ∧ x ≤ z - 1) ↔ (0 ≤ x ∧ 0 ≤ (1 : Int32) ∧ x ≤ z ∧ 1 ≤ z - x) := by
  obtain ⟨c, hc, rfl⟩ := ofR (x := z) (n := 9) (by decide) hz.1 (Int32.lt_of_le_of_lt hz.2 (by decide))
  constructor
  · rintro ⟨a, b⟩
    by_cases c0 : c = 0
    · subst c0
      exact absurd (Int32.le_trans a b) (by decide)
    · have e : nI c - 1 = nI (c - 1) := nI_sub (a := c) (b := 1) (by omega)
      rw [e] at b
      obtain ⟨j, hj, rfl⟩ := nI_of (Int32.not_lt.mpr a)
      have hjc := (nIl (by omega) (by omega)).mp b
      refine ⟨a, by decide, (nIl (by omega) (by omega)).mpr (by omega), ?_⟩
      rw [nI_sub (by omega)]
      exact (nIl (n := 1) (by omega) (by omega)).mpr (by omega)
  · rintro ⟨a, -, b, d⟩
    obtain ⟨j, hj, rfl⟩ := nI_of (Int32.not_lt.mpr a)
    have hjc := (nIl (by omega) (by omega)).mp b
    rw [nI_sub (by omega)] at d
    have hd := (nIl (n := 1) (by omega) (by omega)).mp d
    have e : nI c - 1 = nI (c - 1) := nI_sub (a := c) (b := 1) (by omega)
    rw [e]
    exact ⟨a, (nIl (by omega) (by omega)).mpr (by omega)⟩
theorem ar2 {x z : Int32} (hz : 0 ≤ z ∧ z ≤ 8) (hx : 0 ≤ x ∧ x ≤ z - 1) : ¬ x < 0 ∧ ¬ z ≤ x ∧ ¬ 8 ≤ x ∧ x < 8 := by grind
theorem p_write {h : Hp} (R : Rel h) (a x y : Int32) : Pm h (f_X7_write a x y) (f_X8_write a x y) := by
  rcases R.sheet? a with ⟨s, hs, rfl, hb, hc, h4, h3⟩ | ⟨hb, h3⟩
  · obtain ⟨q1, q2, q3, q4, q5⟩ := R.2.2.2.2.2.2.2 s hs
    simp only at q1 q2 q3 q4 q5
    by_cases hw : gI h 49 0 s = 0
    · have hw' : gI h 6 s 1 = 0 := q1.trans hw
      have hwF : gI (hcF h) 49 0 s = 0 := hw
      refine Pm.find R (-1000006) ?_ ?_
      · simp only [f_X7_write, hb, bnd_some, e_missing, decide_eq_true hw', if_true, c_find (c := -1000006) (by decide)]
      · simp only [f_X8_write, m_isSheet, bnd_some, decide_eq_true h3, if_true, if_pos h4, hc, if_pos hwF, fnd_eta]
    · have hw' : ¬ gI h 6 s 1 = 0 := by rw [q1]; exact hw
      have hwF : ¬ gI (hcF h) 49 0 s = 0 := hw
      have hz : 0 ≤ gI h 6 s 2 ∧ gI h 6 s 2 ≤ 8 := by rw [q2]; exact q4
      by_cases hx : 0 ≤ x ∧ x ≤ gI h 50 0 s - 1
      · have hx' : 0 ≤ x ∧ 0 ≤ (1 : Int32) ∧ x ≤ gI h 6 s 2 ∧ 1 ≤ gI h 6 s 2 - x := by rw [q2]; exact (ar1 q4).mp hx
        obtain ⟨a1, a2, a3, a4⟩ := ar2 q4 hx
        obtain ⟨j, hj, rfl⟩ := ofR (x := x) (n := 8) (by decide) hx.1 a4
        have cj : (nI j).toNatClampNeg = j := nI_clamp (by omega)
        have e8 : (8 : Int32) * nI s + nI j = nI (8 * s + j) := by rw [nq8, pk_mul, nI_add]
        have c8 : (nI (8 * s + j)).toNatClampNeg = 8 * s + j := nI_clamp (by omega)
        have h32 : 0 ≤ nI (8 * s + j) ∧ nI (8 * s + j) < 32 := nIr (k := 32) (by omega) (by omega)
        have hj8 : 0 ≤ nI j ∧ nI j < 8 := ⟨hx.1, a4⟩
        let v := (y <<< (((32 : Int32) - gI h 49 0 s) &&& 31)) >>> (((32 : Int32) - gI h 49 0 s) &&& 31)
        refine Pm.mk (v := gI h 23 s j) (h1 := wI h 23 s j v) (h2 := wI (wI h 23 s j v) 51 0 (8 * s + j) v) ?_ ?_ ?_ (fun i => rfl) (fun i => rfl)
        · have n1 : f_X6_numberAt s (nI j) h = some (gI h 23 s j) := by
            unfold f_X6_numberAt
            rw [if_neg a1, q2, if_neg a2, if_neg a3, if_pos hj8, cj]
          have n2 : f_X6_replace s (nI j) y h = some (gI h 23 s j, wI h 23 s j v) := by
            unfold f_X6_replace
            rw [n1, bnd_some, if_neg a1, if_neg a3, c_cut s y h (by rw [q1]; rcases q3 with q | q; exact absurd q hw; exact q), bnd_some, if_pos hj8, cj, q1]
          simp only [f_X7_write, hb, bnd_some, e_missing, decide_eq_false hw', e_hasNum hz, decide_eq_true hx', if_true, n2]
          rfl
        · have g49 : gI (wI h 23 s j v) 49 0 s = gI h 49 0 s := rfl
          have g50 : gI (wI h 23 s j v) 50 0 s = gI h 50 0 s := rfl
          have g51 : gI (wI h 23 s j v) 51 0 (8 * s + j) = gI h 51 0 (8 * s + j) := rfl
          simp only [f_X8_write, m_isSheet, bnd_some, decide_eq_true h3, if_true, if_pos h4, hc, g49, if_neg hw, g50, w_within, decide_eq_true hx, e8, if_pos h32, c8, g51, q5 j hj]
          rfl
        · refine R.she ?_ ?_ ?_ ?_
          · intro a; simp only [xN_wI]
          · intro a b c; simp only [xP_wI]
          · intro t a1 a2 a3 a4 a5 b c; simp only [xI_wI, a1, a2, a3, a4, a5, false_and, if_false]
          · intro s' hs'
            obtain ⟨w1, w2, w3, w4, w5⟩ := R.2.2.2.2.2.2.2 s' hs'
            simp only [xI_wI] at w1 w2 w3 w4 ⊢
            refine ⟨by simp; exact w1, by simp; exact w2, by simp; exact w3, by simp; exact w4, fun j' hj' => ?_⟩
            have := w5 j' hj'
            simp
            by_cases e : s' = s ∧ j' = j
            · rw [if_pos e, if_pos (by omega)]
            · rw [if_neg e, if_neg (by omega)]
              exact this
      · have hx' : ¬ (0 ≤ x ∧ 0 ≤ (1 : Int32) ∧ x ≤ gI h 6 s 2 ∧ 1 ≤ gI h 6 s 2 - x) := by rw [q2]; exact fun q => hx ((ar1 q4).mpr q)
        have g50 : gI (hcF h) 50 0 s = gI h 50 0 s := rfl
        refine Pm.find R (-1000001) ?_ ?_
        · simp only [f_X7_write, hb, bnd_some, e_missing, decide_eq_false hw', e_hasNum hz, decide_eq_false hx', c_find (c := -1000001) (by decide)]
          rfl
        · simp only [f_X8_write, m_isSheet, bnd_some, decide_eq_true h3, if_true, if_pos h4, hc, if_neg hwF, g50, w_within, decide_eq_false hx, fnd_eta]
          rfl
  · refine Pm.find R (-1000001) ?_ ?_
    · simp only [f_X7_write, hb, bnd_some, c_find (c := -1000001) (by decide)]
    · simp only [f_X8_write, m_isSheet, bnd_some, decide_eq_false h3, fnd_eta]
      rfl
