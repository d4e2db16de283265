theorem z_add (A : Int32) : 0 + (A - 0) = A := by rw [Int32.sub_zero, Int32.zero_add]
theorem cm8 {h : Hp} (R : Rel h) {b k : Nat} (hb : b < gN h 0) (hk : k < cnA h b) (x : Int32) : sm (cmS h x (rwA h b k)) 8 = cmP h x b k := by
  have e := e_cm R hb hk x
  have e2 := L_cm R (R.pos.2.2.1 b k hb hk).1 x 8 FU 0 0 (by omega) (FUb (by omega))
  unfold f_X5_countMoving at e
  rw [show (0 : Int32) = nI 0 from rfl] at e
  rw [show fL_X5_countMoving_16 h FU (rwA h b k) x (nI 0) 8 (nI 0) = fL_X5_countMoving_16 h FU (rwA h b k) x 0 8 (nI 0) from rfl, e2] at e
  have e0 : sm (cmS h x (rwA h b k)) 0 = 0 := rfl
  rw [e0, z_add] at e
  exact Option.some.inj e
theorem mvv_b (h : Hp) (x : Int32) (j i : Nat) : ∃ t, t ≤ 1 ∧ mvv h x j i = nI t := by
  unfold mvv
  by_cases x0 : x = 0
  · rw [if_pos x0]
    by_cases q : gI h 39 0 i ≤ gI h 38 0 j
    · exact ⟨0, by omega, if_pos q⟩
    · exact ⟨1, by omega, if_neg q⟩
  · rw [if_neg x0]
    by_cases q : gI h 38 0 i ≤ gI h 39 0 j
    · exact ⟨0, by omega, if_pos q⟩
    · exact ⟨1, by omega, if_neg q⟩
theorem cmP_b (h : Hp) (x : Int32) (b k : Nat) (hk : k < 6) : ∃ t, t ≤ 6 ∧ cmP h x b k = nI t := by
  obtain ⟨t, ht, e⟩ := sm_b (f := fun k' => mvv h x (rwA h b k') (rwA h b k)) (c := 1) k (fun i _ => mvv_b h x _ _)
  exact ⟨t, by omega, e⟩
theorem p_pairs {h : Hp} (R : Rel h) (x y : Int32) : Pm h (f_X7_pairs x y) (f_X8_pairs x y) := by
  rcases R.berth? x with ⟨b, hbb, rfl, hb', hm', hc', h4⟩ | ⟨hb', hm', -⟩
  · have c6 := (R.pos.2.1 b hbb).1
    obtain ⟨t, ht, et⟩ := sm_b (f := cmP h y b) (c := 6) (cnA h b) (fun k hk => cmP_b h y b k (by omega))
    have ht2 : t ≤ 36 := by
      have : cnA h b * 6 ≤ 6 * 6 := Nat.mul_le_mul_right 6 c6
      omega
    have e8 : sm (cpS h y b) 8 = nI t := by
      refine (reidx R hbb _).trans ?_
      rw [← et]
      apply sm_c
      intro k hk
      exact cm8 R hbb hk y
    have v3 : ¬ nI t < -1000000 := fun q => absurd (Int32.lt_of_le_of_lt (nIr (n := t) (k := 100) (by omega) (by omega)).1 q) (by decide)
    refine Pm.rd R (nI t) ?_ ?_
    · have : f_X5_countPairs (nI b) y h = some (nI t) := by
        unfold f_X5_countPairs
        rw [hb', bnd_some]
        refine (L_cp R y 8 FU 0 0 (by omega) (FUb (by omega))).trans ?_
        have e0 : sm (cpS h y b) 0 = 0 := rfl
        rw [e0, z_add, e8]
      simp only [f_X7_pairs, this, bnd_some, c_same v3]
    · simp only [f_X8_pairs, hm', bnd_some, if_true]
      refine (L_p20 R hbb y (cnA h b) FU 0 0 (by omega) (FUb (by omega))).trans ?_
      have e0 : sm (cmP h y b) 0 = 0 := rfl
      rw [e0, z_add, et]
  · refine Pm.find R (-1000001) ?_ ?_
    · simp only [f_X7_pairs, f_X5_countPairs, hb', bnd_some, c_find (c := -1000001) (by decide)]
    · simp only [f_X8_pairs, isBerth_F, hm', bnd_some, fnd_eta]
      rfl
