/-! ===== reads of written heaps, by rewriting (the kernel must not unfold nested writes) ===== -/
theorem xN_wI (h : Hp) (t i k : Nat) (v : Int32) (a : Nat) : gN (wI h t i k v) a = gN h a := (rfl)
theorem xP_wI (h : Hp) (t i k : Nat) (v : Int32) (a b c : Nat) : gP (wI h t i k v) a b c = gP h a b c := (rfl)
theorem xI_wI (h : Hp) (t i k : Nat) (v : Int32) (a b c : Nat) : gI (wI h t i k v) a b c = if a = t ∧ b = i ∧ c = k then v else gI h a b c := (rfl)
theorem xN_wP (h : Hp) (t i k : Nat) (v : Option Nat) (a : Nat) : gN (wP h t i k v) a = gN h a := (rfl)
theorem xI_wP (h : Hp) (t i k : Nat) (v : Option Nat) (a b c : Nat) : gI (wP h t i k v) a b c = gI h a b c := (rfl)
theorem xP_wP (h : Hp) (t i k : Nat) (v : Option Nat) (a b c : Nat) : gP (wP h t i k v) a b c = if a = t ∧ b = i ∧ c = k then v else gP h a b c := (rfl)
theorem xN_wN (h : Hp) (t a : Nat) : gN (wN h t) a = if a = t then gN h t + 1 else gN h a := (rfl)
theorem xI_wN (h : Hp) (t a b c : Nat) : gI (wN h t) a b c = if a = t ∧ b = gN h t then 0 else gI h a b c := (rfl)
theorem xP_wN (h : Hp) (t a b c : Nat) : gP (wN h t) a b c = if a = t ∧ b = gN h t then none else gP h a b c := (rfl)
/-! ===== berth, boat ===== -/
theorem bwT {α : Type} {x a b : Int32} {h : Hp} {X Y R : Option α} (hr : a ≤ x ∧ x ≤ b) (k : X = R) : ((f_X8_within x a b h).bind fun r => if r = true then X else Y) = R := by
  rw [w_within, decide_eq_true hr]
  exact k
theorem bwF {α : Type} {x a b : Int32} {h : Hp} {X Y R : Option α} (hr : ¬ (a ≤ x ∧ x ≤ b)) (k : Y = R) : ((f_X8_within x a b h).bind fun r => if r = true then X else Y) = R := by
  rw [w_within, decide_eq_false hr]
  exact k
theorem biT {α : Type} {x a b : Int32} {h : Hp} {X Y R : Option α} (hr : a ≤ x ∧ x ≤ b) (k : X = R) : ((f_X7_isWithin x a b h).bind fun r => if r = true then X else Y) = R := bwT (h := h) hr k
theorem biF {α : Type} {x a b : Int32} {h : Hp} {X Y R : Option α} (hr : ¬ (a ≤ x ∧ x ≤ b)) (k : Y = R) : ((f_X7_isWithin x a b h).bind fun r => if r = true then X else Y) = R := bwF (h := h) hr k
theorem iT {α : Type} {c : Prop} [Decidable c] {X Y R : Option α} (hc : c) (k : X = R) : (if c then X else Y) = R := (if_pos hc).trans k
theorem iF {α : Type} {c : Prop} [Decidable c] {X Y R : Option α} (hc : ¬ c) (k : Y = R) : (if c then X else Y) = R := (if_neg hc).trans k
theorem cntF {f : Hp → Option (Int32 × Hp)} {c : Int32} {h : Hp} (hc : c < -1000000) (k : f h = some (c, h)) : ((f h).bind fun r1 => ((f_X7_counted r1.1 r1.2).bind fun r2 => (some (r2.1, r2.2)))) = some (c, hcF h) := by
  rw [k, bnd_some, c_find hc]
  rfl
theorem cntS {o : Option (Int32 × Hp)} {c : Int32} {h : Hp} (hc : ¬ c < -1000000) (k : o = some (c, h)) : (o.bind fun r1 => ((f_X7_counted r1.1 r1.2).bind fun r2 => (some (r2.1, r2.2)))) = some (c, h) := by
  rw [k, bnd_some, c_same hc]
  rfl
def hB1 (h : Hp) (nb : Nat) (x y z w : Int32) : Hp := wI (wP (wI (wI (wI (wI (wN h 0) 0 nb 0 x) 0 nb 1 y) 0 nb 2 z) 0 nb 3 w) 10 0 nb (some nb)) 5 0 2 (nI nb + 1)
def hB2 (h1 : Hp) (nb : Nat) (x y z w : Int32) : Hp := wI (wI (wI (wI (wI h1 30 0 nb x) 31 0 nb y) 32 0 nb z) 33 0 nb w) 8 0 0 (nI nb + 1)
theorem c_berth {h : Hp} {nb : Nat} (h4 : nb < 4) (hnb : gN h 0 = nb) (e5 : gI h 5 0 2 = nI nb) {x y z w : Int32} (r1 : 0 ≤ x ∧ x ≤ 90) (r2 : 0 ≤ y ∧ y ≤ 9) (r3 : 1 ≤ z ∧ z ≤ 6) (r4 : 0 ≤ w ∧ w ≤ 6) : f_X7_berth x y z w h = some (nI nb, hB1 h nb x y z w) := by
  have en : nI nb + 1 - 1 = nI nb := by grind
  have hv : ¬ nI nb < -1000000 := by grind [nI_ti]
  have g2 : 0 ≤ nI nb := by grind [nI_ti]
  have g3 : nI nb < 4 := by grind [nI_ti]
  have g4 : (nI nb).toNatClampNeg = nb := nI_clamp (by omega)
  refine cntS hv (biT r1 (biT r2 (biT r3 (biT r4 (iT (by rw [e5]; exact g3) ?_)))))
  simp only [f_X0_init, bnd_some, e5, g2, g3, and_self, if_true, g4, hnb]
  simp only [gI_wI, gI_wP, gI_wN, e5]
  simp [en, hB1]
theorem m_berth {h : Hp} {nb : Nat} (h4 : nb < 4) (e8 : gI h 8 0 0 = nI nb) {x y z w : Int32} (r1 : 0 ≤ x ∧ x ≤ 90) (r2 : 0 ≤ y ∧ y ≤ 9) (r3 : 1 ≤ z ∧ z ≤ 6) (r4 : 0 ≤ w ∧ w ≤ 6) : f_X8_berth x y z w h = some (nI nb, hB2 h nb x y z w) := by
  have en : nI nb + 1 - 1 = nI nb := by grind
  have g1 : ¬ nI nb = 4 := by grind [nI_ti]
  have g2 : 0 ≤ nI nb := by grind [nI_ti]
  have g3 : nI nb < 4 := by grind [nI_ti]
  have g4 : (nI nb).toNatClampNeg = nb := nI_clamp (by omega)
  refine bwT r1 (bwT r2 (bwT r3 (bwT r4 (iF (by rw [e8]; exact g1) (iT (by rw [e8]; exact ⟨g2, g3⟩) ?_)))))
  rw [e8, g4]
  simp [hb, gI_wI, e8, g2, g3, g4, en, hB2]
theorem r_berthA {h h2 : Hp} (R : Rel h) {nb : Nat} (hnb : gN h 0 = nb) (h4 : nb < 4) {x y z w : Int32} (r1 : 0 ≤ x ∧ x ≤ 90) (r2 : 0 ≤ y ∧ y ≤ 9) (r3 : 1 ≤ z ∧ z ≤ 6) (r4 : 0 ≤ w ∧ w ≤ 6)
    (n0 : gN h2 0 = nb + 1) (n1 : gN h2 1 = gN h 1) (q10 : ∀ b, gP h2 10 0 b = if b = nb then some nb else gP h 10 0 b) (q11 : gP h2 11 = gP h 11) (q22 : gP h2 22 = gP h 22)
    (hI : ∀ t, t ≠ 0 → t ≠ 5 → t ≠ 8 → t ≠ 30 → t ≠ 31 → t ≠ 32 → t ≠ 33 → gI h2 t = gI h t)
    (i5 : ∀ c, gI h2 5 0 c = if c = 2 then nI nb + 1 else gI h 5 0 c) (i8 : ∀ c, gI h2 8 0 c = if c = 0 then nI nb + 1 else gI h 8 0 c)
    (i0 : ∀ b, b ≠ nb → ∀ c, gI h2 0 b c = gI h 0 b c) (j0 : gI h2 0 nb 0 = x) (j1 : gI h2 0 nb 1 = y) (j2 : gI h2 0 nb 2 = z) (j3 : gI h2 0 nb 3 = w)
    (i30 : ∀ b, gI h2 30 0 b = if b = nb then x else gI h 30 0 b) (i31 : ∀ b, gI h2 31 0 b = if b = nb then y else gI h 31 0 b) (i32 : ∀ b, gI h2 32 0 b = if b = nb then z else gI h 32 0 b) (i33 : ∀ b, gI h2 33 0 b = if b = nb then w else gI h 33 0 b) : Rel h2 := by
  obtain ⟨⟨s1, s2, s3, s4, s5, s6, s7, s8, s9⟩, b, c, ⟨p1, p2, p3, p4⟩, e, f, g, k⟩ := R
  rw [hnb] at s3 s6 s7 b p1 p2 p3 p4
  unfold Rel
  rw [n0, n1, q11, q22]
  simp only [hI 1 (by decide) (by decide) (by decide) (by decide) (by decide) (by decide) (by decide), hI 2 (by decide) (by decide) (by decide) (by decide) (by decide) (by decide) (by decide), hI 3 (by decide) (by decide) (by decide) (by decide) (by decide) (by decide) (by decide), hI 6 (by decide) (by decide) (by decide) (by decide) (by decide) (by decide) (by decide), hI 7 (by decide) (by decide) (by decide) (by decide) (by decide) (by decide) (by decide), hI 18 (by decide) (by decide) (by decide) (by decide) (by decide) (by decide) (by decide), hI 19 (by decide) (by decide) (by decide) (by decide) (by decide) (by decide) (by decide), hI 20 (by decide) (by decide) (by decide) (by decide) (by decide) (by decide) (by decide), hI 21 (by decide) (by decide) (by decide) (by decide) (by decide) (by decide) (by decide), hI 23 (by decide) (by decide) (by decide) (by decide) (by decide) (by decide) (by decide),
    hI 34 (by decide) (by decide) (by decide) (by decide) (by decide) (by decide) (by decide), hI 35 (by decide) (by decide) (by decide) (by decide) (by decide) (by decide) (by decide), hI 36 (by decide) (by decide) (by decide) (by decide) (by decide) (by decide) (by decide), hI 37 (by decide) (by decide) (by decide) (by decide) (by decide) (by decide) (by decide), hI 38 (by decide) (by decide) (by decide) (by decide) (by decide) (by decide) (by decide), hI 39 (by decide) (by decide) (by decide) (by decide) (by decide) (by decide) (by decide), hI 40 (by decide) (by decide) (by decide) (by decide) (by decide) (by decide) (by decide), hI 41 (by decide) (by decide) (by decide) (by decide) (by decide) (by decide) (by decide), hI 42 (by decide) (by decide) (by decide) (by decide) (by decide) (by decide) (by decide), hI 43 (by decide) (by decide) (by decide) (by decide) (by decide) (by decide) (by decide), hI 44 (by decide) (by decide) (by decide) (by decide) (by decide) (by decide) (by decide), hI 45 (by decide) (by decide) (by decide) (by decide) (by decide) (by decide) (by decide), hI 46 (by decide) (by decide) (by decide) (by decide) (by decide) (by decide) (by decide), hI 47 (by decide) (by decide) (by decide) (by decide) (by decide) (by decide) (by decide), hI 48 (by decide) (by decide) (by decide) (by decide) (by decide) (by decide) (by decide), hI 49 (by decide) (by decide) (by decide) (by decide) (by decide) (by decide) (by decide), hI 50 (by decide) (by decide) (by decide) (by decide) (by decide) (by decide) (by decide), hI 51 (by decide) (by decide) (by decide) (by decide) (by decide) (by decide) (by decide)]
  refine ⟨⟨by omega, s2, fun b hb => ?_, s4, s5, ?_, ?_, ?_, ?_⟩, fun b' hb' => ?_, c, ⟨fun b' hb' => ?_, fun b' h1' h2' => p2 b' (by omega) h2', fun b' k' hb' hk' => ?_, fun i hi => ?_⟩, ?_, ?_, ?_, k⟩
  · have := s3 b hb
    show gP h2 10 0 b = _
    rw [q10]
    by_cases hb2 : b = nb
    · simp [hb2]
    · rw [if_neg hb2]
      refine Eq.trans this ?_
      have : b < nb ↔ b < nb + 1 := by omega
      simp only [this]
  · rw [i5]; exact nI_s nb
  · rw [i8]; exact nI_s nb
  · rw [i5]; exact s8
  · rw [i8]; exact s9
  · by_cases hb'' : b' = nb
    · subst hb''
      simp only [i30, i31, i32, i33, j0, j1, j2, j3, if_true]
      exact ⟨trivial, trivial, trivial, trivial, r1, r2, r3, r4⟩
    · have := b b' (by omega)
      simp only [i30, i31, i32, i33, i0 b' hb'', hb'', if_false]
      exact this
  · by_cases hb'' : b' = nb
    · have q : gI h 43 0 b' = 0 := p2 b' (by omega) (by omega)
      refine ⟨0, by omega, q, ?_⟩
      show gI h 43 0 b' ≤ gI h2 32 0 b'
      rw [q, i32, if_pos hb'']
      grind
    · obtain ⟨c', q3, q4, q5⟩ := p1 b' (by omega)
      refine ⟨c', q3, q4, ?_⟩
      show gI h 43 0 b' ≤ gI h2 32 0 b'
      rw [i32, if_neg hb'']
      exact q5
  · by_cases hb'' : b' = nb
    · exfalso
      have q2 : gI h 43 0 b' = 0 := p2 b' (by omega) (by omega)
      have hk'' : k' < (gI h 43 0 b').toNatClampNeg := hk'
      rw [q2] at hk''
      exact absurd hk'' (by simp)
    · exact p3 b' k' (by omega) hk'
  · rcases p4 i hi with q | ⟨b', k', q1, q2⟩
    · exact Or.inl q
    · exact Or.inr ⟨b', k', by omega, q2⟩
  · rw [i5, i5, i8, i8, i8, i8, i8]; exact e
  · rw [i8]; exact f
  · rw [i8]; exact g
theorem r_berth {h : Hp} (R : Rel h) {nb : Nat} (hnb : gN h 0 = nb) (h4 : nb < 4) {x y z w : Int32} (r1 : 0 ≤ x ∧ x ≤ 90) (r2 : 0 ≤ y ∧ y ≤ 9) (r3 : 1 ≤ z ∧ z ≤ 6) (r4 : 0 ≤ w ∧ w ≤ 6) : Rel (hB2 (hB1 h nb x y z w) nb x y z w) := by
  refine r_berthA R hnb h4 r1 r2 r3 r4 ?_ ?_ ?_ ?_ ?_ ?_ ?_ ?_ ?_ ?_ ?_ ?_ ?_ ?_ ?_ ?_ ?_
  · simp only [hB2, hB1, xN_wI, xN_wP, xN_wN, hnb, if_true]
  · simp only [hB2, hB1, xN_wI, xN_wP, xN_wN]; simp
  · intro b; simp only [hB2, hB1, xP_wI, xP_wP, xP_wN]; simp
  · funext a b; simp only [hB2, hB1, xP_wI, xP_wP, xP_wN]; simp
  · funext a b; simp only [hB2, hB1, xP_wI, xP_wP, xP_wN]; simp
  · intro t a0 a5 a8 a30 a31 a32 a33; funext a b; simp only [hB2, hB1, xI_wI, xI_wP, xI_wN, a0, a5, a8, a30, a31, a32, a33, false_and, if_false]
  · intro c; simp only [hB2, hB1, xI_wI, xI_wP, xI_wN]; simp
  · intro c; simp only [hB2, hB1, xI_wI, xI_wP, xI_wN]; simp
  · intro b hb c; simp only [hB2, hB1, xI_wI, xI_wP, xI_wN]; simp [hb, hnb]
  · simp only [hB2, hB1, xI_wI, xI_wP, xI_wN]; simp
  · simp only [hB2, hB1, xI_wI, xI_wP, xI_wN]; simp
  · simp only [hB2, hB1, xI_wI, xI_wP, xI_wN]; simp
  · simp only [hB2, hB1, xI_wI, xI_wP, xI_wN]; simp
  · intro b; simp only [hB2, hB1, xI_wI, xI_wP, xI_wN]; simp
  · intro b; simp only [hB2, hB1, xI_wI, xI_wP, xI_wN]; simp
  · intro b; simp only [hB2, hB1, xI_wI, xI_wP, xI_wN]; simp
  · intro b; simp only [hB2, hB1, xI_wI, xI_wP, xI_wN]; simp
theorem p_berth {h : Hp} (R : Rel h) (x y z w : Int32) : Pm h (f_X7_berth x y z w) (f_X8_berth x y z w) := by
  have h4 := R.b4
  have e5 : gI h 5 0 2 = nI (gN h 0) := R.1.2.2.2.2.2.1
  by_cases r1 : 0 ≤ x ∧ x ≤ 90
  · by_cases r2 : 0 ≤ y ∧ y ≤ 9
    · by_cases r3 : 1 ≤ z ∧ z ≤ 6
      · by_cases r4 : 0 ≤ w ∧ w ≤ 6
        · by_cases hf : gN h 0 = 4
          · have e54 : ¬ gI h 5 0 2 < 4 := by rw [e5, hf]; decide
            have e84 : gI h 8 0 0 = 4 := by rw [R.nb, hf]; rfl
            exact Pm.find R (-1000002) (cntF (by decide) (biT r1 (biT r2 (biT r3 (biT r4 (iF e54 rfl)))))) (bwT r1 (bwT r2 (bwT r3 (bwT r4 (iT e84 rfl)))))
          · have e80 : gI (hB1 h (gN h 0) x y z w) 8 0 0 = nI (gN h 0) := by rw [← R.nb]; rfl
            exact Pm.mk (c_berth (by omega) rfl e5 r1 r2 r3 r4) (m_berth (by omega) e80 r1 r2 r3 r4) (r_berth R rfl (by omega) r1 r2 r3 r4) (fun _ => rfl) (fun _ => rfl)
        · exact Pm.find R (-1000001) (cntF (by decide) (biT r1 (biT r2 (biT r3 (biF r4 rfl))))) (bwT r1 (bwT r2 (bwT r3 (bwF r4 rfl))))
      · exact Pm.find R (-1000001) (cntF (by decide) (biT r1 (biT r2 (biF r3 rfl)))) (bwT r1 (bwT r2 (bwF r3 rfl)))
    · exact Pm.find R (-1000001) (cntF (by decide) (biT r1 (biF r2 rfl))) (bwT r1 (bwF r2 rfl))
  · exact Pm.find R (-1000001) (cntF (by decide) (biF r1 rfl)) (bwF r1 rfl)
