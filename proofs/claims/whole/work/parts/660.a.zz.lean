/-! ===== berth, boat ===== -/
theorem bwT {α : Type} {x a b : Int32} {h : Hp} {X Y R : Option α} (hr : a ≤ x ∧ x ≤ b) (k : X = R) : ((f_X8_within x a b h).bind fun r => if r = true then X else Y) = R := by
  rw [w_within, decide_eq_true hr]
  exact k
theorem bwF {α : Type} {x a b : Int32} {h : Hp} {X Y R : Option α} (hr : ¬ (a ≤ x ∧ x ≤ b)) (k : Y = R) : ((f_X8_within x a b h).bind fun r => if r = true then X else Y) = R := by
  rw [w_within, decide_eq_false hr]
  exact k
theorem biT {α : Type} {x a b : Int32} {h : Hp} {X Y R : Option α} (hr : a ≤ x ∧ x ≤ b) (k : X = R) : ((f_X7_isWithin x a b h).bind fun r => if r = true then X else Y) = R := bwT hr k
theorem biF {α : Type} {x a b : Int32} {h : Hp} {X Y R : Option α} (hr : ¬ (a ≤ x ∧ x ≤ b)) (k : Y = R) : ((f_X7_isWithin x a b h).bind fun r => if r = true then X else Y) = R := bwF hr k
theorem iT {α : Type} {c : Prop} [Decidable c] {X Y R : Option α} (hc : c) (k : X = R) : (if c then X else Y) = R := (if_pos hc).trans k
theorem iF {α : Type} {c : Prop} [Decidable c] {X Y R : Option α} (hc : ¬ c) (k : Y = R) : (if c then X else Y) = R := (if_neg hc).trans k
theorem cntF {f : Hp → Option (Int32 × Hp)} {c : Int32} {h : Hp} (hc : c < -1000000) (k : f h = some (c, h)) : ((f h).bind fun r1 => ((f_X7_counted r1.1 r1.2).bind fun r2 => (some (r2.1, r2.2)))) = some (c, hcF h) := by
  rw [k, bnd_some, c_find hc]
  rfl
theorem cntS {o : Option (Int32 × Hp)} {c : Int32} {h : Hp} (hc : ¬ c < -1000000) (k : o = some (c, h)) : (o.bind fun r1 => ((f_X7_counted r1.1 r1.2).bind fun r2 => (some (r2.1, r2.2)))) = some (c, h) := by
  rw [k, bnd_some, c_same hc]
  rfl
def hB1 (h : Hp) (nb : Nat) (x y z w : Int32) : Hp := wI (wP (wI (wI (wI (wI (wN h 0) 0 nb 0 x) 0 nb 1 y) 0 nb 2 z) 0 nb 3 w) 10 0 nb (some nb)) 5 0 2 (nI nb + 1)
def hB2 (h1 : Hp) (nb : Nat) (x y z w : Int32) : Hp := wI (wI (wI (wI (wI h1 30 0 nb x) 31 0 nb y) 32 0 nb z) 33 0 nb w) 8 0 0 (nI nb + 1)
theorem c_berth {h : Hp} {nb : Nat} (h4 : nb < 4) (hnb : gN h 0 = nb) (e5 : gI h 5 0 2 = nI nb) {x y z w : Int32} (r1 : 0 ≤ x ∧ x ≤ 90) (r2 : 0 ≤ y ∧ y ≤ 9) (r3 : 1 ≤ z ∧ z ≤ 6) (r4 : 0 ≤ w ∧ w ≤ 6) : f_X7_berth x y z w h = some (nI nb, hB1 h nb x y z w) := by
  have en : nI nb + 1 - 1 = nI nb := by grind
  have hv : ¬ nI nb < -1000000 := by grind [nI_ti]
  have g2 : 0 ≤ nI nb := by grind [nI_ti]
  have g3 : nI nb < 4 := by grind [nI_ti]
  have g4 : (nI nb).toNatClampNeg = nb := nI_clamp (by omega)
  refine cntS hv (biT r1 (biT r2 (biT r3 (biT r4 (iT (by rw [e5]; exact g3) ?_)))))
  simp only [f_X0_init, bnd_some, e5, g2, g3, and_self, if_true, g4, hnb]
  simp only [gI_wI, gI_wP, gI_wN, e5]
  simp [en, hB1]
theorem m_berth {h : Hp} {nb : Nat} (h4 : nb < 4) (e8 : gI h 8 0 0 = nI nb) {x y z w : Int32} (r1 : 0 ≤ x ∧ x ≤ 90) (r2 : 0 ≤ y ∧ y ≤ 9) (r3 : 1 ≤ z ∧ z ≤ 6) (r4 : 0 ≤ w ∧ w ≤ 6) : f_X8_berth x y z w h = some (nI nb, hB2 h nb x y z w) := by
  have en : nI nb + 1 - 1 = nI nb := by grind
  have g1 : ¬ nI nb = 4 := by grind [nI_ti]
  have g2 : 0 ≤ nI nb := by grind [nI_ti]
  have g3 : nI nb < 4 := by grind [nI_ti]
  have g4 : (nI nb).toNatClampNeg = nb := nI_clamp (by omega)
  refine bwT r1 (bwT r2 (bwT r3 (bwT r4 (iF (by rw [e8]; exact g1) (iT (by rw [e8]; exact ⟨g2, g3⟩) ?_)))))
  rw [e8, g4]
  simp [hb, gI_wI, e8, g2, g3, g4, en, hB2]
theorem r_berth {h : Hp} (R : Rel h) {nb : Nat} (hnb : gN h 0 = nb) (h4 : nb < 4) {x y z w : Int32} (r1 : 0 ≤ x ∧ x ≤ 90) (r2 : 0 ≤ y ∧ y ≤ 9) (r3 : 1 ≤ z ∧ z ≤ 6) (r4 : 0 ≤ w ∧ w ≤ 6) : Rel (hB2 (hB1 h nb x y z w) nb x y z w) := by
  obtain ⟨⟨s1, s2, s3, s4, s5, s6, s7, s8, s9⟩, b, c, ⟨p1, p2, p3, p4⟩, e, f, g, k⟩ := R
  rw [hnb] at s3 s6 s7 b p1 p2 p3 p4
  have n0 : gN (hB2 (hB1 h nb x y z w) nb x y z w) 0 = nb + 1 := by simp [hB2, hB1, gN_wI, gN_wP, gN_wN, hnb]
  have n1 : gN (hB2 (hB1 h nb x y z w) nb x y z w) 1 = gN h 1 := rfl
  unfold Rel
  rw [n0, n1]
  refine ⟨⟨by omega, s2, fun b hb => ?_, s4, s5, nI_s nb, nI_s nb, s8, s9⟩, fun b' hb' => ?_, c, ⟨fun b' hb' => ?_, fun b' h1' h2' => p2 b' (by omega) h2', fun b' k' hb' hk' => ?_, fun i hi => ?_⟩, e, f, g, k⟩
  · have := s3 b hb
    simp only [hB2, hB1, gP_wI, gP_wP, gP_wN] at this ⊢
    by_cases hb2 : b = nb
    · simp [hb2]
    · simp [hb2]
      rw [this]
      grind
  · by_cases hb'' : b' = nb
    · subst hb''
      simp only [hB2, hB1, gI_wI, gI_wP, gI_wN]
      simp [r1, r2, r3, r4]
    · have := b b' (by omega)
      simp only [hB2, hB1, gI_wI, gI_wP, gI_wN] at this ⊢
      simp [hnb, hb'']
      exact this
  · by_cases hb'' : b' = nb
    · have q : gI h 43 0 b' = 0 := p2 b' (by omega) (by omega)
      refine ⟨0, by omega, q, ?_⟩
      show gI h 43 0 b' ≤ gI (hB2 (hB1 h nb x y z w) nb x y z w) 32 0 b'
      rw [q]
      simp only [hB2, hB1, gI_wI, hb'']
      simp
      grind
    · obtain ⟨c', q3, q4, q5⟩ := p1 b' (by omega)
      refine ⟨c', q3, q4, ?_⟩
      simp only [hB2, hB1, gI_wI, gI_wP, gI_wN] at q5 ⊢
      simp [hb'']
      exact q5
  · by_cases hb'' : b' = nb
    · exfalso
      have q2 : gI h 43 0 b' = 0 := p2 b' (by omega) (by omega)
      have hk'' : k' < (gI h 43 0 b').toNatClampNeg := hk'
      rw [q2] at hk''
      exact absurd hk'' (by simp)
    · exact p3 b' k' (by omega) hk'
  · rcases p4 i hi with q | ⟨b', k', q1, q2⟩
    · exact Or.inl q
    · exact Or.inr ⟨b', k', by omega, q2⟩
theorem p_berth {h : Hp} (R : Rel h) (x y z w : Int32) : Pm h (f_X7_berth x y z w) (f_X8_berth x y z w) := by
  have h4 := R.b4
  have e5 : gI h 5 0 2 = nI (gN h 0) := R.1.2.2.2.2.2.1
  by_cases r1 : 0 ≤ x ∧ x ≤ 90
  · by_cases r2 : 0 ≤ y ∧ y ≤ 9
    · by_cases r3 : 1 ≤ z ∧ z ≤ 6
      · by_cases r4 : 0 ≤ w ∧ w ≤ 6
        · by_cases hf : gN h 0 = 4
          · have e54 : ¬ gI h 5 0 2 < 4 := by rw [e5, hf]; decide
            have e84 : gI h 8 0 0 = 4 := by rw [R.nb, hf]; rfl
            exact Pm.find R (-1000002) (cntF (by decide) (biT r1 (biT r2 (biT r3 (biT r4 (iF e54 rfl)))))) (bwT r1 (bwT r2 (bwT r3 (bwT r4 (iT e84 rfl)))))
          · have e80 : gI (hB1 h (gN h 0) x y z w) 8 0 0 = nI (gN h 0) := by rw [← R.nb]; rfl
            exact Pm.mk (c_berth (by omega) rfl e5 r1 r2 r3 r4) (m_berth (by omega) e80 r1 r2 r3 r4) (r_berth R rfl (by omega) r1 r2 r3 r4) (fun _ => rfl) (fun _ => rfl)
        · exact Pm.find R (-1000001) (cntF (by decide) (biT r1 (biT r2 (biT r3 (biF r4 rfl))))) (bwT r1 (bwT r2 (bwT r3 (bwF r4 rfl))))
      · exact Pm.find R (-1000001) (cntF (by decide) (biT r1 (biT r2 (biF r3 rfl)))) (bwT r1 (bwT r2 (bwF r3 rfl)))
    · exact Pm.find R (-1000001) (cntF (by decide) (biT r1 (biF r2 rfl))) (bwT r1 (bwF r2 rfl))
  · exact Pm.find R (-1000001) (cntF (by decide) (biF r1 rfl)) (bwF r1 rfl)
