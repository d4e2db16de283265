theorem nar_b {p : Int32} (hp : p = 0 ∨ p = 1) : vp_nar .boolean p = p := by rcases hp with rfl | rfl <;> rfl
def hT1 (h : Hp) (nt : Nat) (x y z p : Int32) : Hp := wI (wP (wI (wI (wI (wI (wI (wI (wI (wI (wI (wN h 1) 1 nt 0 (nI nt)) 1 nt 1 x) 1 nt 2 y) 1 nt 3 z) 1 nt 4 p) 1 nt 6 23) 1 nt 7 16777215) 1 nt 8 (-1)) 1 nt 9 (-1)) 11 0 nt (some nt)) 5 0 3 (nI nt + 1)
def hT2 (h1 : Hp) (nt : Nat) (x y z p : Int32) : Hp := wI (wI (wI (wI (wI (wI (wI h1 34 0 nt x) 35 0 nt y) 36 0 nt z) 37 0 nt p) 39 0 nt 23) 40 0 nt 16777215) 8 0 6 (nI nt + 1)
theorem c_boat {h : Hp} {nt : Nat} (h8 : nt < 8) (hnt : gN h 1 = nt) (e5 : gI h 5 0 3 = nI nt) {x y z p : Int32} (hp : p = 0 ∨ p = 1) (r1 : 0 ≤ x ∧ x ≤ 3) (r2 : 1 ≤ y ∧ y ≤ 40) (r3 : 0 ≤ z ∧ z ≤ 99) : f_X7_boat x y z p h = some (nI nt, hT1 h nt x y z p) := by
  have en : nI nt + 1 - 1 = nI nt := by grind
  have hv : ¬ nI nt < -1000000 := by grind [nI_ti]
  have g2 : 0 ≤ nI nt := by grind [nI_ti]
  have g3 : nI nt < 8 := by grind [nI_ti]
  have g4 : (nI nt).toNatClampNeg = nt := nI_clamp (by omega)
  refine cntS hv (biT r1 (biT r2 (biT r3 (iT (by rw [e5]; exact g3) ?_))))
  simp only [f_X1_init, hp, bnd_some, e5, g2, g3, and_self, if_true, g4, hnt, xI_wN]
  simp only [xI_wI, xI_wP, xI_wN, e5]
  simp [en, hT1]
theorem m_boat {h : Hp} {nt : Nat} (h8 : nt < 8) (e8 : gI h 8 0 6 = nI nt) {x y z p : Int32} (hp : p = 0 ∨ p = 1) (r1 : 0 ≤ x ∧ x ≤ 3) (r2 : 1 ≤ y ∧ y ≤ 40) (r3 : 0 ≤ z ∧ z ≤ 99) : f_X8_boat x y z p h = some (nI nt, hT2 h nt x y z p) := by
  have en : nI nt + 1 - 1 = nI nt := by grind
  have g1 : ¬ nI nt = 8 := by grind [nI_ti]
  have g2 : 0 ≤ nI nt := by grind [nI_ti]
  have g3 : nI nt < 8 := by grind [nI_ti]
  have g4 : (nI nt).toNatClampNeg = nt := nI_clamp (by omega)
  refine bwT r1 (bwT r2 (bwT r3 (iF (by rw [e8]; exact g1) (iT (by rw [e8]; exact ⟨g2, g3⟩) ?_))))
  rw [e8, g4, nar_b hp]
  simp [hb, xI_wI, e8, g2, g3, g4, en, hT2]
theorem r_boatA {h h2 : Hp} (R : Rel h) {nt : Nat} (hnt : gN h 1 = nt) (h8 : nt < 8) {x y z p : Int32} (hp : p = 0 ∨ p = 1) (r1 : 0 ≤ x ∧ x ≤ 3) (r2 : 1 ≤ y ∧ y ≤ 40) (r3 : 0 ≤ z ∧ z ≤ 99)
    (n0 : gN h2 0 = gN h 0) (n1 : gN h2 1 = nt + 1) (q11 : ∀ b, gP h2 11 0 b = if b = nt then some nt else gP h 11 0 b) (q10 : gP h2 10 = gP h 10) (q22 : gP h2 22 = gP h 22)
    (hI : ∀ t, t ≠ 1 → t ≠ 5 → t ≠ 8 → t ≠ 34 → t ≠ 35 → t ≠ 36 → t ≠ 37 → t ≠ 39 → t ≠ 40 → t ≠ 99 → gI h2 t = gI h t)
    (i5 : ∀ c, gI h2 5 0 c = if c = 3 then nI nt + 1 else gI h 5 0 c) (i8 : ∀ c, gI h2 8 0 c = if c = 6 then nI nt + 1 else gI h 8 0 c)
    (i1 : ∀ i, i ≠ nt → ∀ c, gI h2 1 i c = gI h 1 i c) (j0 : gI h2 1 nt 0 = nI nt) (j1 : gI h2 1 nt 1 = x) (j2 : gI h2 1 nt 2 = y) (j3 : gI h2 1 nt 3 = z) (j4 : gI h2 1 nt 4 = p) (j5 : gI h2 1 nt 5 = 0) (j6 : gI h2 1 nt 6 = 23) (j7 : gI h2 1 nt 7 = 16777215) (j8 : gI h2 1 nt 8 = -1) (j9 : gI h2 1 nt 9 = -1) (j10 : gI h2 1 nt 10 = 0) (j11 : gI h2 1 nt 11 = 0)
    (i34 : ∀ b, gI h2 34 0 b = if b = nt then x else gI h 34 0 b) (i35 : ∀ b, gI h2 35 0 b = if b = nt then y else gI h 35 0 b) (i36 : ∀ b, gI h2 36 0 b = if b = nt then z else gI h 36 0 b) (i37 : ∀ b, gI h2 37 0 b = if b = nt then p else gI h 37 0 b) (i39 : ∀ b, gI h2 39 0 b = if b = nt then 23 else gI h 39 0 b) (i40 : ∀ b, gI h2 40 0 b = if b = nt then 16777215 else gI h 40 0 b) : Rel h2 := by
  obtain ⟨⟨s1, s2, s3, s4, s5, s6, s7, s8, s9⟩, b, ⟨c1, c2⟩, ⟨p1, p2, p3, p4⟩, e, f, g, k⟩ := R
  rw [hnt] at s4 s8 s9 c1 c2 p3 p4
  unfold Rel
  rw [n0, n1, q10, q22]
  simp only [hI 0 (by decide) (by decide) (by decide) (by decide) (by decide) (by decide) (by decide) (by decide) (by decide) (by decide), hI 2 (by decide) (by decide) (by decide) (by decide) (by decide) (by decide) (by decide) (by decide) (by decide) (by decide), hI 3 (by decide) (by decide) (by decide) (by decide) (by decide) (by decide) (by decide) (by decide) (by decide) (by decide), hI 6 (by decide) (by decide) (by decide) (by decide) (by decide) (by decide) (by decide) (by decide) (by decide) (by decide), hI 7 (by decide) (by decide) (by decide) (by decide) (by decide) (by decide) (by decide) (by decide) (by decide) (by decide), hI 18 (by decide) (by decide) (by decide) (by decide) (by decide) (by decide) (by decide) (by decide) (by decide) (by decide), hI 19 (by decide) (by decide) (by decide) (by decide) (by decide) (by decide) (by decide) (by decide) (by decide) (by decide), hI 20 (by decide) (by decide) (by decide) (by decide) (by decide) (by decide) (by decide) (by decide) (by decide) (by decide), hI 21 (by decide) (by decide) (by decide) (by decide) (by decide) (by decide) (by decide) (by decide) (by decide) (by decide), hI 23 (by decide) (by decide) (by decide) (by decide) (by decide) (by decide) (by decide) (by decide) (by decide) (by decide), hI 30 (by decide) (by decide) (by decide) (by decide) (by decide) (by decide) (by decide) (by decide) (by decide) (by decide), hI 31 (by decide) (by decide) (by decide) (by decide) (by decide) (by decide) (by decide) (by decide) (by decide) (by decide), hI 32 (by decide) (by decide) (by decide) (by decide) (by decide) (by decide) (by decide) (by decide) (by decide) (by decide), hI 33 (by decide) (by decide) (by decide) (by decide) (by decide) (by decide) (by decide) (by decide) (by decide) (by decide), hI 38 (by decide) (by decide) (by decide) (by decide) (by decide) (by decide) (by decide) (by decide) (by decide) (by decide), hI 41 (by decide) (by decide) (by decide) (by decide) (by decide) (by decide) (by decide) (by decide) (by decide) (by decide), hI 42 (by decide) (by decide) (by decide) (by decide) (by decide) (by decide) (by decide) (by decide) (by decide) (by decide), hI 43 (by decide) (by decide) (by decide) (by decide) (by decide) (by decide) (by decide) (by decide) (by decide) (by decide), hI 44 (by decide) (by decide) (by decide) (by decide) (by decide) (by decide) (by decide) (by decide) (by decide) (by decide), hI 45 (by decide) (by decide) (by decide) (by decide) (by decide) (by decide) (by decide) (by decide) (by decide) (by decide), hI 46 (by decide) (by decide) (by decide) (by decide) (by decide) (by decide) (by decide) (by decide) (by decide) (by decide), hI 47 (by decide) (by decide) (by decide) (by decide) (by decide) (by decide) (by decide) (by decide) (by decide) (by decide), hI 48 (by decide) (by decide) (by decide) (by decide) (by decide) (by decide) (by decide) (by decide) (by decide) (by decide), hI 49 (by decide) (by decide) (by decide) (by decide) (by decide) (by decide) (by decide) (by decide) (by decide) (by decide), hI 50 (by decide) (by decide) (by decide) (by decide) (by decide) (by decide) (by decide) (by decide) (by decide) (by decide), hI 51 (by decide) (by decide) (by decide) (by decide) (by decide) (by decide) (by decide) (by decide) (by decide) (by decide)]
  refine ⟨⟨s1, by omega, s3, fun i hi => ?_, s5, ?_, ?_, ?_, ?_⟩, b, ⟨fun i hi => ?_, fun i hi hi8 => c2 i (by omega) hi8⟩, ⟨p1, p2, fun b' k' hb' hk' => ?_, fun i hi => ?_⟩, ?_, ?_, ?_, k⟩
  · have := s4 i hi
    show gP h2 11 0 i = _
    rw [q11]
    by_cases hb2 : i = nt
    · simp [hb2]
    · rw [if_neg hb2]
      refine Eq.trans this ?_
      have : i < nt ↔ i < nt + 1 := by omega
      simp only [this]
  · rw [i5]; exact s6
  · rw [i8]; exact s7
  · rw [i5]; exact nI_s nt
  · rw [i8]; exact nI_s nt
  · by_cases hi' : i = nt
    · have q2 := c2 i (by omega) (by omega)
      subst hi'
      simp only [i34, i35, i36, i37, i39, i40, j0, j1, j2, j3, j4, j5, j6, j7, j10, j11, if_true] at q2 ⊢
      simp [q2.1, q2.2.1, q2.2.2, r1, r2, r3, hp]
    · have q1 := c1 i (by omega)
      simp only [i34, i35, i36, i37, i39, i40, i1 i hi', hi', if_false]
      exact q1
  · obtain ⟨i, q3, q4, q5, q6⟩ := p3 b' k' hb' hk'
    refine ⟨i, by omega, q4, ?_, ?_⟩
    · show gI h2 1 i 8 = _
      rw [i1 i (by omega)]
      exact q5
    · show gI h2 1 i 9 = _
      rw [i1 i (by omega)]
      exact q6
  · by_cases hi' : i = nt
    · subst hi'
      exact Or.inl ⟨j8, j9⟩
    · simp only [i1 i hi']
      exact p4 i (by omega)
  · rw [i5, i5, i8, i8, i8, i8, i8]; exact e
  · rw [i8]; exact f
  · rw [i8]; exact g
theorem r_boat {h : Hp} (R : Rel h) {nt : Nat} (hnt : gN h 1 = nt) (h8 : nt < 8) {x y z p : Int32} (hp : p = 0 ∨ p = 1) (r1 : 0 ≤ x ∧ x ≤ 3) (r2 : 1 ≤ y ∧ y ≤ 40) (r3 : 0 ≤ z ∧ z ≤ 99) : Rel (hT2 (hT1 h nt x y z p) nt x y z p) := by
  refine r_boatA R hnt h8 hp r1 r2 r3 ?_ ?_ ?_ ?_ ?_ ?_ ?_ ?_ ?_ ?_ ?_ ?_ ?_ ?_ ?_ ?_ ?_ ?_ ?_ ?_ ?_ ?_ ?_ ?_ ?_ ?_ ?_
  · simp only [hT2, hT1, xN_wI, xN_wP, xN_wN]; simp
  · simp only [hT2, hT1, xN_wI, xN_wP, xN_wN, hnt, if_true]
  · intro b; simp only [hT2, hT1, xP_wI, xP_wP, xP_wN]; simp
  · funext a b; simp only [hT2, hT1, xP_wI, xP_wP, xP_wN]; simp
  · funext a b; simp only [hT2, hT1, xP_wI, xP_wP, xP_wN]; simp
  · intro t a1 a2 a3 a4 a5 a6 a7 a8 a9 a10; funext a b; simp only [hT2, hT1, xI_wI, xI_wP, xI_wN, a1, a2, a3, a4, a5, a6, a7, a8, a9, a10, false_and, if_false]
  · intro c; simp only [hT2, hT1, xI_wI, xI_wP, xI_wN]; simp
  · intro c; simp only [hT2, hT1, xI_wI, xI_wP, xI_wN]; simp
  · intro b hb c; simp only [hT2, hT1, xI_wI, xI_wP, xI_wN]; simp [hb, hnt]
  · simp only [hT2, hT1, xI_wI, xI_wP, xI_wN]; simp [hnt]
  · simp only [hT2, hT1, xI_wI, xI_wP, xI_wN]; simp [hnt]
  · simp only [hT2, hT1, xI_wI, xI_wP, xI_wN]; simp [hnt]
  · simp only [hT2, hT1, xI_wI, xI_wP, xI_wN]; simp [hnt]
  · simp only [hT2, hT1, xI_wI, xI_wP, xI_wN]; simp [hnt]
  · simp only [hT2, hT1, xI_wI, xI_wP, xI_wN]; simp [hnt]
  · simp only [hT2, hT1, xI_wI, xI_wP, xI_wN]; simp [hnt]
  · simp only [hT2, hT1, xI_wI, xI_wP, xI_wN]; simp [hnt]
  · simp only [hT2, hT1, xI_wI, xI_wP, xI_wN]; simp [hnt]
  · simp only [hT2, hT1, xI_wI, xI_wP, xI_wN]; simp [hnt]
  · simp only [hT2, hT1, xI_wI, xI_wP, xI_wN]; simp [hnt]
  · simp only [hT2, hT1, xI_wI, xI_wP, xI_wN]; simp [hnt]
  · intro b; simp only [hT2, hT1, xI_wI, xI_wP, xI_wN]; simp
  · intro b; simp only [hT2, hT1, xI_wI, xI_wP, xI_wN]; simp
  · intro b; simp only [hT2, hT1, xI_wI, xI_wP, xI_wN]; simp
  · intro b; simp only [hT2, hT1, xI_wI, xI_wP, xI_wN]; simp
  · intro b; simp only [hT2, hT1, xI_wI, xI_wP, xI_wN]; simp
  · intro b; simp only [hT2, hT1, xI_wI, xI_wP, xI_wN]; simp
theorem p_boat {h : Hp} (R : Rel h) (x y z p : Int32) (hp : p = 0 ∨ p = 1) : Pm h (f_X7_boat x y z p) (f_X8_boat x y z p) := by
  have h8 := R.t8
  have e5 : gI h 5 0 3 = nI (gN h 1) := R.1.2.2.2.2.2.2.2.1
  by_cases r1 : 0 ≤ x ∧ x ≤ 3
  · by_cases r2 : 1 ≤ y ∧ y ≤ 40
    · by_cases r3 : 0 ≤ z ∧ z ≤ 99
      · by_cases hf : gN h 1 = 8
        · have e54 : ¬ gI h 5 0 3 < 8 := by rw [e5, hf]; decide
          have e84 : gI h 8 0 6 = 8 := by rw [R.nt, hf]; rfl
          exact Pm.find R (-1000002) (cntF (by decide) (biT r1 (biT r2 (biT r3 (iF e54 rfl))))) (bwT r1 (bwT r2 (bwT r3 (iT e84 rfl))))
        · have e80 : gI (hT1 h (gN h 1) x y z p) 8 0 6 = nI (gN h 1) := by
            rw [← R.nt]
            simp only [hT1, xI_wI, xI_wP, xI_wN]; simp
          refine Pm.mk (c_boat (by omega) rfl e5 hp r1 r2 r3) (m_boat (by omega) e80 hp r1 r2 r3) (r_boat R rfl (by omega) hp r1 r2 r3) (fun i => ?_) (fun i => ?_)
          · simp only [hT2, hT1, xI_wI, xI_wP, xI_wN]; simp
          · simp only [hT2, hT1, xI_wI, xI_wP, xI_wN]; simp
      · exact Pm.find R (-1000001) (cntF (by decide) (biT r1 (biT r2 (biF r3 rfl)))) (bwT r1 (bwT r2 (bwF r3 rfl)))
    · exact Pm.find R (-1000001) (cntF (by decide) (biT r1 (biF r2 rfl))) (bwT r1 (bwF r2 rfl))
  · exact Pm.find R (-1000001) (cntF (by decide) (biF r1 rfl)) (bwF r1 rfl)
