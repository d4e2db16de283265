/-! ===== of, at, told, berth, boat ===== -/
theorem Pm.rd {h : Hp} (R : Rel h) {fC fM : Hp → Option (Int32 × Hp)} (v : Int32) (e1 : fC h = some (v, h)) (e2 : fM h = some (v, h)) : Pm h fC fM := Pm.mk e1 e2 R (fun _ => rfl) (fun _ => rfl)
theorem nif_o {ρ : Type} {x : Int32} {l : List (Option ρ)} {D : Option ρ} (n : Nat) (hl : l.length = n) (hn : n < 2147483648) (hx : ¬ (0 ≤ x ∧ x < nI n)) : nif x 0 l D = D := by
  refine nif_out (by omega) ?_
  have h1 : (nI n).toInt = (n : Int) := nI_toInt (by omega)
  rcases Int.lt_or_le x.toInt 0 with q | q
  · exact Or.inl q
  · refine Or.inr ?_
    rw [hl, Nat.zero_add, ← h1]
    apply Int.not_lt.mp
    intro q2
    exact hx ⟨Int32.le_iff_toInt_le.mpr q, Int32.lt_iff_toInt_lt.mpr q2⟩
theorem div6 {b k : Nat} (hk : k < 6) (hb : b < 1000) : nI (6 * b + k) / 6 = nI b ∧ nI (6 * b + k) - nI (6 * b + k) / 6 * 6 = nI k := by
  have h1 : nI (6 * b + k) / nI 6 = nI ((6 * b + k) / 6) := pk_div (by omega) (by decide) (by decide)
  have h2 : nI (6 * b + k) - nI (6 * b + k) / nI 6 * nI 6 = nI ((6 * b + k) % 6) := pk_rem (by omega) (by decide) (by decide)
  rw [show (6 * b + k) / 6 = b by omega] at h1
  rw [show (6 * b + k) % 6 = k by omega] at h2
  exact ⟨h1, h2⟩
theorem p_of {h : Hp} (R : Rel h) {n : Nat} (hn : n < 1000) (B : Bd n h) (x y : Int32) : Pm h (f_X7_of x y) (f_X8_of x y) := by
  rcases R.boat? x with ⟨i, hi, rfl, hb, hm, hc, h8⟩ | ⟨hb, hm, -⟩
  · have hB := R.boa hi
    have hT := R.t8
    have b1 := B i (by omega)
    by_cases hy : 0 ≤ y ∧ y < nI 11
    · obtain ⟨k, hk, rfl⟩ := ofR (by decide) hy.1 hy.2
      have key : ∃ v, f_X1_detail i (nI k) h = some v ∧ ¬ v < -1000000 ∧ f_X8_of (nI i) (nI k) h = some (v, h) := by
        obtain ⟨s, hs, hs7, hs8⟩ : ∃ s, f_X8_spotOf (nI i) h = some s ∧ (if 0 ≤ s then (some ((s / (6)), h)) else (some ((-1), h))) = some (gI h 1 i 8, h) ∧ (if 0 ≤ s then (some ((s - s / (6) * (6)), h)) else (some ((-1), h))) = some (gI h 1 i 9, h) := by
          rcases R.lies? hi with ⟨q1, q2, q3, q4⟩ | ⟨b0, k0, q1, q2, q3, q4, q5, q6, q7⟩
          · exact ⟨-1, q4 h R.rm (fun _ => rfl) (fun _ => rfl), by rw [q1]; rfl, by rw [q2]; rfl⟩
          · have h6 := ((R.pos).2.1 b0 q1).1
            have h4 := R.b4
            have hd := div6 (b := b0) (k := k0) (by omega) (by omega)
            refine ⟨nI (6 * b0 + k0), q7 h R.rm (fun _ => rfl) (fun _ => rfl), ?_, ?_⟩
            · rw [if_pos (nI_pos' (by omega)), hd.1, q3]
            · rw [if_pos (nI_pos' (by omega)), hd.2, q4]
        have hge : -1 ≤ gI h 1 i 8 ∧ -1 ≤ gI h 1 i 9 := by
          rcases R.lies? hi with ⟨q1, q2, q3, q4⟩ | ⟨b0, k0, q1, q2, q3, q4, q5, q6, q7⟩
          · grind
          · have h6 := ((R.pos).2.1 b0 q1).1
            have h4 := R.b4
            grind [nI_ti]
        simp only [f_X1_detail, f_X8_of, hm, bnd_some, hs, if_true, h8, and_self, hc, hs7, hs8]
        have hk' : k = 0 ∨ k = 1 ∨ k = 2 ∨ k = 3 ∨ k = 4 ∨ k = 5 ∨ k = 6 ∨ k = 7 ∨ k = 8 ∨ k = 9 ∨ k = 10 := by omega
        rcases hk' with rfl | rfl | rfl | rfl | rfl | rfl | rfl | rfl | rfl | rfl | rfl
        · exact ⟨gI h 1 i 1, rfl, by grind, by rw [hB.2.1]; rfl⟩
        · exact ⟨gI h 1 i 2, rfl, by grind, by rw [hB.2.2.1]; rfl⟩
        · exact ⟨gI h 1 i 3, rfl, by grind, by rw [hB.2.2.2.1]; rfl⟩
        · rcases hB.2.2.2.2.2.2.2.2.2.2.2.2.2.1 with q | q
          · refine ⟨0, ?_, by decide, ?_⟩
            · show (if gI h 1 i 4 = 0 then some 0 else some 1) = some (0 : Int32)
              rw [hB.2.2.2.2.1, q]; rfl
            · show (if gI h 37 0 i = 0 then some (0, h) else some (1, h)) = some ((0 : Int32), h)
              rw [q]; rfl
          · refine ⟨1, ?_, by decide, ?_⟩
            · show (if gI h 1 i 4 = 0 then some 0 else some 1) = some (1 : Int32)
              rw [hB.2.2.2.2.1, q]; rfl
            · show (if gI h 37 0 i = 0 then some (0, h) else some (1, h)) = some ((1 : Int32), h)
              rw [q]; rfl
        · exact ⟨gI h 1 i 5, rfl, by grind, by rw [hB.2.2.2.2.2.1]; rfl⟩
        · exact ⟨gI h 1 i 6, rfl, by grind, by rw [hB.2.2.2.2.2.2.1]; rfl⟩
        · exact ⟨gI h 1 i 7, rfl, by grind, by rw [hB.2.2.2.2.2.2.2.1]; rfl⟩
        · exact ⟨gI h 1 i 8, rfl, by grind, rfl⟩
        · exact ⟨gI h 1 i 9, rfl, by grind, rfl⟩
        · exact ⟨gI h 1 i 10, rfl, by grind, by rw [hB.2.2.2.2.2.2.2.2.1]; rfl⟩
        · exact ⟨gI h 1 i 11, rfl, by grind, by rw [hB.2.2.2.2.2.2.2.2.2.1]; rfl⟩
      obtain ⟨v, k1, k2, k3⟩ := key
      refine Pm.rd R v ?_ k3
      simp [f_X7_of, hb, k1, c_same k2]
    · obtain ⟨s, hs⟩ : ∃ s, f_X8_spotOf (nI i) (hcF h) = some s := by
        rcases R.lies? hi with ⟨q1, q2, q3, q4⟩ | ⟨b0, k0, q1, q2, q3, q4, q5, q6, q7⟩
        · exact ⟨_, q4 (hcF h) R.rmF (fun _ => rfl) (fun _ => rfl)⟩
        · exact ⟨_, q7 (hcF h) R.rmF (fun _ => rfl) (fun _ => rfl)⟩
      refine Pm.find R (-1000001) ?_ ?_
      · simp only [f_X7_of, hb, bnd_some, f_X1_detail]
        rw [nif_o 11 rfl (by decide) hy]
        simp [c_find]
      · simp only [f_X8_of, isBoat_F, hm, bnd_some, hs, if_true]
        rw [nif_o 11 rfl (by decide) hy]
        simp [f_X8_finding]
  · refine Pm.find R (-1000001) ?_ ?_
    · simp [f_X7_of, hb, c_find]
    · simp [f_X8_of, isBoat_F, hm, f_X8_finding]
theorem p_at {h : Hp} (R : Rel h) (x y : Int32) : Pm h (f_X7_at x y) (f_X8_at x y) := by
  rcases R.berth? x with ⟨b, hbb, rfl, hb', hm', hc', h4⟩ | ⟨hb', hm', -⟩
  · obtain ⟨⟨hB, hT⟩, hc, hr, hp⟩ := R.pos
    have h6 := (hc b hbb)
    by_cases hy : 0 ≤ y ∧ y ≤ 5
    · obtain ⟨k, hk, rfl⟩ := ofR (x := y) (n := 6) (by decide) hy.1 (by grind [nI_ti])
      by_cases hk2 : k < cnA h b
      · have hrk := hr b k hbb hk2
        have hk3 : 0 ≤ nI k ∧ nI k < nI (cnA h b) := by grind [nI_ti]
        have hk4 : ¬ nI (cnA h b) ≤ nI k := by grind
        have h24 : 0 ≤ nI (6 * b + k) ∧ nI (6 * b + k) < 24 := by grind [nI_ti]
        refine Pm.rd R (nI (rwA h b k)) ?_ ?_
        · simp [f_X7_at, hb', w_isWithin, hy, e_boatAt R hbb, hk3, nI_clamp (show k < 2 ^ 31 by omega), (R.boa hrk.1).1]
        · simp [f_X8_at, hm', w_within, hy, h4, hc', h6.2.1, hk4, i6, h24, nI_clamp (show 6 * b + k < 2 ^ 31 by omega), hrk.2.1]
      · have hk3 : ¬ (0 ≤ nI k ∧ nI k < nI (cnA h b)) := by grind [nI_ti]
        have hk4 : nI (cnA h b) ≤ nI k := by grind [nI_ti]
        have hk5 : ¬ nI k < nI (cnA h b) := by grind [nI_ti]
        refine Pm.rd R (-1) ?_ ?_
        · simp [f_X7_at, hb', w_isWithin, hy, e_boatAt R hbb, hk5]
        · simp [f_X8_at, hm', w_within, hy, h4, hc', h6.2.1, hk4]
    · refine Pm.find R (-1000001) ?_ ?_
      · simp [f_X7_at, hb', w_isWithin, hy, c_find]
      · simp [f_X8_at, isBerth_F, hm', w_within, hy, f_X8_finding]
  · refine Pm.find R (-1000001) ?_ ?_
    · simp [f_X7_at, hb', c_find]
    · simp [f_X8_at, isBerth_F, hm', f_X8_finding]
def lyS (h : Hp) (i : Nat) : Int32 := if i < gN h 1 ∧ ¬ gI h 1 i 8 = -1 then 1 else 0
theorem L_countLying {h : Hp} (S : BoA h) : ∀ (m n j : Nat) (acc : Int32), j + m = 8 → m < n → fL_X5_countLying_13 h n acc 8 (nI j) = some (acc + (sm (lyS h) 8 - sm (lyS h) j)) := by
  intro m
  induction m with
  | zero =>
    intro n j acc hj hn
    obtain ⟨n, rfl⟩ : ∃ k, n = k + 1 := ⟨n - 1, by omega⟩
    have : j = 8 := by omega
    subst this
    unfold fL_X5_countLying_13
    rw [if_pos (by decide), Int32.sub_self, Int32.add_zero]
  | succ m ih =>
    intro n j acc hj hn
    obtain ⟨n, rfl⟩ : ∃ k, n = k + 1 := ⟨n - 1, by omega⟩
    unfold fL_X5_countLying_13
    have e1 : sm (lyS h) (j + 1) = sm (lyS h) j + lyS h j := rfl
    have i1 := fun acc => ih n (j + 1) acc (by omega) (by omega)
    have hS := S j (by omega)
    have hc : (nI j).toNatClampNeg = j := nI_clamp (by omega)
    have h8 : ¬ (8 : Int32) ≤ nI j := by grind [nI_ti]
    have h0 : 0 ≤ nI j ∧ nI j < 8 := by grind [nI_ti]
    rw [if_neg h8, if_pos h0, hc, hS, nI_s]
    simp only [e_lying, bnd_some]
    unfold lyS at *
    grind
theorem sm_swap (F : Nat → Nat → Int32) (m : Nat) : ∀ n, sm (fun i => sm (fun b => F i b) m) n = sm (fun b => sm (fun i => F i b) n) m
  | 0 => (sm_0 m (fun _ _ => rfl)).symm
  | n + 1 => by
    rw [sm, sm_swap F m n, ← sm_add]
    rfl
theorem e_countLying {h : Hp} (R : Rel h) : f_X5_countLying h = some (sm (fun b => nI (cnA h b)) (gN h 0)) := by
  obtain ⟨⟨hB, hT⟩, hc, hr, hp⟩ := R.pos
  have h1 := L_countLying R.boA 8 FU 0 0 rfl (FUb (by decide))
  unfold f_X5_countLying
  rw [show (0 : Int32) = nI 0 from rfl] at *
  rw [h1]
  have h2 : sm (lyS h) 8 = sm (fun b => nI (cnA h b)) (gN h 0) := by
    have : sm (lyS h) 8 = sm (fun i => sm (fun b => atS h (nI b) (fun _ => 1) i) (gN h 0)) 8 := by
      refine sm_c 8 fun i _ => ?_
      unfold lyS atS
      by_cases hi : i < gN h 1
      · rcases hp i hi with q | ⟨b, k, hb, hk, e1, e2, e3⟩
        · rw [if_neg (by simp [q.1]), sm_0]
          intro b hb
          rw [if_neg]
          rintro ⟨-, e⟩
          have := q.1.symm.trans e
          grind [nI_ti]
        · have : sm (fun b' => if b' = b then (1 : Int32) else 0) (gN h 0) = 1 := by rw [sm_one, if_pos hb]
          rw [if_pos ⟨hi, by rw [e1]; grind [nI_ti]⟩]
          refine this.symm.trans ?_
          refine sm_c _ fun b' hb' => ?_
          by_cases hbb : b' = b
          · rw [if_pos hbb, if_pos ⟨hi, by rw [e1, hbb]⟩]
          · rw [if_neg hbb, if_neg]
            rintro ⟨-, e⟩
            have := e1.symm.trans e
            grind [nI_ti]
      · rw [if_neg (by simp [hi]), sm_0]
        intro b _
        rw [if_neg (by simp [hi])]
    rw [this, sm_swap]
    refine sm_c _ fun b hb => ?_
    show sm (atS h (nI b) (fun _ => 1)) 8 = _
    rw [reidx R hb, sm_k, Int32.mul_one]
  rw [h2]
  simp [sm]
  rfl
theorem L_told {nb nt : Nat} {h : Hp} (M : RM nb nt h) (x : Int32) : ∀ (m n b : Nat) (acc : Int32), b + m = nb → m < n → fL_X8_told_4 n x acc (nI b) h = fL_X8_told_4 1 x (acc + (sm (fun b => nI (cnA h b)) nb - sm (fun b => nI (cnA h b)) b)) (nI nb) h := by
  have h4 := M.1
  intro m
  induction m with
  | zero =>
    intro n b acc hb hn
    obtain ⟨n, rfl⟩ : ∃ k, n = k + 1 := ⟨n - 1, by omega⟩
    have : b = nb := by omega
    subst this
    unfold fL_X8_told_4
    rw [M.2.2.1, if_pos (Int32.le_refl _), if_pos (Int32.le_refl _), Int32.sub_self, Int32.add_zero]
  | succ m ih =>
    intro n b acc hb hn
    obtain ⟨n, rfl⟩ : ∃ k, n = k + 1 := ⟨n - 1, by omega⟩
    have e1 : sm (fun b => nI (cnA h b)) (b + 1) = sm (fun b => nI (cnA h b)) b + nI (cnA h b) := rfl
    rw [fL_X8_told_4, M.2.2.1, if_neg (by grind [nI_ti]), if_pos (by grind [nI_ti]), nI_clamp (by omega), (M.2.2.2.2.1 b (by omega)).2, nI_s, ih n (b + 1) _ (by omega) (by omega), e1]
    congr 1
    grind
theorem p_told {h : Hp} (R : Rel h) (x : Int32) : Pm h (f_X7_told x) (f_X8_told x) := by
  have hL := fun h1 (M : RM (gN h 0) (gN h 1) h1) => L_told M x (gN h 0) FU 0 0 (by omega) (FUb (by have := R.b4; omega))
  obtain ⟨⟨s1, s2, s3, s4, s5, s6, s7, s8, s9⟩, -, -, -, ⟨t1, t2, t3, t4, t5, -⟩, ⟨u1, -⟩, ⟨v1, -⟩, -⟩ := id R
  by_cases hy : 0 ≤ x ∧ x < nI 8
  · obtain ⟨k, hk, rfl⟩ := ofR (by decide) hy.1 hy.2
    have key : ∃ v, f_X7_told (nI k) h = some (v, h) ∧ f_X8_told (nI k) h = some (v, h) := by
      have hM := hL h R.rm
      rw [show (nI 0 : Int32) = 0 from rfl] at hM
      unfold f_X8_told f_X7_told
      rw [hM]
      unfold fL_X8_told_4
      rw [R.nb, if_pos (Int32.le_refl _), s6, s8, R.nt, e_countLying R, t2, t4, t5, u1, v1]
      have hk' : k = 0 ∨ k = 1 ∨ k = 2 ∨ k = 3 ∨ k = 4 ∨ k = 5 ∨ k = 6 ∨ k = 7 := by omega
      rcases hk' with rfl | rfl | rfl | rfl | rfl | rfl | rfl | rfl
      · exact ⟨_, rfl, rfl⟩
      · exact ⟨_, rfl, rfl⟩
      · refine ⟨sm (fun b => nI (cnA h b)) (gN h 0), rfl, ?_⟩
        show some (_, h) = _
        rw [show sm (fun b => nI (cnA h b)) 0 = 0 from rfl, Int32.sub_zero, Int32.zero_add]
      · exact ⟨_, rfl, rfl⟩
      · exact ⟨_, rfl, rfl⟩
      · exact ⟨_, rfl, rfl⟩
      · exact ⟨_, rfl, rfl⟩
      · exact ⟨_, rfl, rfl⟩
    obtain ⟨v, k1, k2⟩ := key
    exact Pm.rd R v k1 k2
  · refine Pm.find R (-1000001) ?_ ?_
    · unfold f_X7_told
      rw [nif_o 8 rfl (by decide) hy]
      simp [c_find]
    · have hM := hL (hcF h) R.rmF
      rw [show (nI 0 : Int32) = 0 from rfl] at hM
      unfold f_X8_told
      rw [hM]
      unfold fL_X8_told_4
      rw [R.rmF.2.2.1, if_pos (Int32.le_refl _), nif_o 8 rfl (by decide) hy]
      rfl
