/-! ===== who may lie where ===== -/
def wA (h : Hp) (i b : Nat) (x : Int32) : Int32 := if x < gI h 32 0 b then (if gI h 36 0 i ≤ gI h 30 0 b + x * gI h 31 0 b then (if gI h 37 0 i = 0 then 0 else if x < gI h 33 0 b then 0 else 3) else 2) else 1
def wN2 (h : Hp) (i q : Nat) : Int32 := if gI h 34 0 q = 1 then 4 else if ¬ (und (gI h 34 0 i) 2 = true ∧ und (gI h 34 0 q) 2 = true) ∧ gI h 35 0 q + gI h 8 0 5 < gI h 35 0 i then 5 else if gI h 34 0 i = 3 ∧ ¬ gI h 34 0 q = 3 then 6 else 0
def wR (h : Hp) (i b : Nat) (x : Int32) (o : Option Nat) : Int32 := if wA h i b x = 0 then (match o with | none => 0 | some q => wN2 h i q) else wA h i b x
theorem wA_ge (h : Hp) (i b : Nat) (x : Int32) : 0 ≤ wA h i b x ∧ wA h i b x ≤ 3 := by unfold wA; grind
theorem wN2_ge (h : Hp) (i q : Nat) : 0 ≤ wN2 h i q ∧ wN2 h i q ≤ 6 ∧ wN2 h i q ≠ 1 := by unfold wN2; grind
theorem wR_ge (h : Hp) (i b : Nat) (x : Int32) (o : Option Nat) : 0 ≤ wR h i b x o ∧ wR h i b x o ≤ 6 := by
  have := wA_ge h i b x
  unfold wR
  split
  · split
    · decide
    · rename_i q
      have := wN2_ge h i q
      exact ⟨this.1, this.2.1⟩
  · grind
theorem e_whyAt {h : Hp} (R : Rel h) {i b : Nat} (hi : i < gN h 1) (hb : b < gN h 0) (x : Int32) : f_X5_whyNotAtPlace i b x h = some (wA h i b x) := by
  have h1 := R.boa hi
  have h2 := R.ber hb
  unfold f_X5_whyNotAtPlace wA
  grind
theorem e_whyNext {h : Hp} (R : Rel h) {i q : Nat} (hi : i < gN h 1) (hq : q < gN h 1) : f_X5_whyNotNextTo i q h = some (wN2 h i q) := by
  have h1 := R.boa hi
  have h2 := R.boa hq
  have h3 : gI h 5 0 4 = gI h 8 0 5 := R.2.2.2.2.1.1
  simp only [f_X5_whyNotNextTo, isOfKind_eq, bnd_some, fJ_X5_whyNotNextTo_30, fJ_X5_whyNotNextTo_31, fJ_X5_whyNotNextTo_54, h1.2.1, h2.2.1, h1.2.2.1, h2.2.2.1, h3]
  unfold wN2
  grind
theorem e_whyRight {h : Hp} (R : Rel h) {i b : Nat} (hi : i < gN h 1) (hb : b < gN h 0) (x : Int32) (o : Option Nat) (ho : ∀ q, o = some q → q < gN h 1) : f_X5_whyNotRight i b x o h = some (wR h i b x o) := by
  simp only [f_X5_whyNotRight, e_whyAt R hi hb, bnd_some]
  unfold wR
  cases o with
  | none => grind
  | some q =>
    simp only [e_whyNext R hi (ho q rfl), bnd_some]
    grind
theorem m_why {i b : Nat} (hi : i < 8) (hb : b < 4) (x y : Int32) (hy : x ≠ 0 → 0 ≤ y ∧ y < 8) (h : Hp) : f_X8_whyNot (nI i) (nI b) x y h = some (wR h i b x (if x = 0 then none else some y.toNatClampNeg)) := by
  have hb4 : 0 ≤ nI b ∧ nI b < 4 := by grind [nI_ti]
  have hi8 : 0 ≤ nI i ∧ nI i < 8 := by grind [nI_ti]
  have c1 : (nI b).toNatClampNeg = b := nI_clamp (by omega)
  have c2 : (nI i).toNatClampNeg = i := nI_clamp (by omega)
  simp only [f_X8_whyNot, fJ_X8_whyNot_59, fJ_X8_whyNot_109, fJ_X8_whyNot_110, fJ_X8_whyNot_140, isUnder_eq, bnd_some, hb4, hi8, c1, c2, and_self, if_true]
  by_cases hx : x = 0
  · subst hx
    simp only [if_true]
    unfold wR wA
    grind
  · have hy := hy hx
    simp only [hy, hx, and_self, if_true, if_false]
    unfold wR wA wN2
    grind
theorem wR_F (h : Hp) (i b : Nat) (x : Int32) (o : Option Nat) : wR (hcF h) i b x o = wR h i b x o := by cases o <;> rfl
/-- whether a boat lies -/
theorem e_lying (i : Nat) (h : Hp) : f_X1_isLying i h = some (decide (¬ gI h 1 i 8 = -1)) := by
  unfold f_X1_isLying
  split <;> simp_all
/-- where a boat lies: its berth and place, and what the reference finds -/
theorem Rel.lies? {h : Hp} (R : Rel h) {i : Nat} (hi : i < gN h 1) : (gI h 1 i 8 = -1 ∧ gI h 1 i 9 = -1 ∧ f_X1_isLying i h = some false ∧ ∀ h1, RM (gN h 0) (gN h 1) h1 → (∀ b, gI h1 43 0 b = gI h 43 0 b) → (∀ k, gI h1 44 0 k = gI h 44 0 k) → f_X8_spotOf (nI i) h1 = some (-1)) ∨
    ∃ b k, b < gN h 0 ∧ k < cnA h b ∧ gI h 1 i 8 = nI b ∧ gI h 1 i 9 = nI k ∧ rwA h b k = i ∧ f_X1_isLying i h = some true ∧ ∀ h1, RM (gN h 0) (gN h 1) h1 → (∀ b, gI h1 43 0 b = gI h 43 0 b) → (∀ k, gI h1 44 0 k = gI h 44 0 k) → f_X8_spotOf (nI i) h1 = some (nI (6 * b + k)) := by
  obtain ⟨⟨hB, hT⟩, hc, hr, hp⟩ := R.pos
  rcases hp i hi with q | ⟨b, k, hb, hk, e1, e2, e3⟩
  · refine Or.inl ⟨q.1, q.2, ?_, fun h1 M1 e43 e44 => m_spot0 M1 (by omega) ?_⟩
    · rw [e_lying, decide_eq_false (by simp [q.1])]
    · intro b k hb hk e
      have ec : cnA h1 b = cnA h b := by unfold cnA; rw [e43]
      have er : rwA h1 b k = rwA h b k := by unfold rwA; rw [e44]
      rw [er] at e
      have := hr b k hb (by omega)
      rw [e] at this
      have q2 := q.1.symm.trans this.2.2.1
      grind [nI_ti]
  · refine Or.inr ⟨b, k, hb, hk, e1, e2, e3, ?_, fun h1 M1 e43 e44 => ?_⟩
    · rw [e_lying, decide_eq_true]
      rw [e1]
      grind [nI_ti]
    · have ec : cnA h1 b = cnA h b := by unfold cnA; rw [e43]
      have er : rwA h1 b k = rwA h b k := by unfold rwA; rw [e44]
      have := m_spot1 M1 hb (k0 := k) (by omega)
      rw [er, e3] at this
      exact this
/-- the one outermost at a berth -/
def outm (h : Hp) (b : Nat) : Option Nat := if cnA h b = 0 then none else some (rwA h b (cnA h b - 1))
theorem e_whyOut {h : Hp} (R : Rel h) {i b : Nat} (hi : i < gN h 1) (hb : b < gN h 0) (hl : gI h 1 i 8 = -1) : f_X5_whyNotOutermost (nI i) (nI b) h = some (wR h i b (nI (cnA h b)) (outm h b)) := by
  obtain ⟨⟨hB, hT⟩, hc, hr, hp⟩ := R.pos
  have h6 := (hc b hb).1
  have e1 : f_X5_boatOf (nI i) h = some (some i) := by
    rw [e_boatOf R, if_pos, nI_clamp (by omega)]
    rw [R.nt]
    grind [nI_ti]
  have e2 : f_X5_berthOf (nI b) h = some (some b) := by
    rw [e_berthOf R, if_pos, nI_clamp (by omega)]
    rw [R.nb]
    grind [nI_ti]
  have ho : (if 0 ≤ nI (cnA h b) - 1 ∧ nI (cnA h b) - 1 < nI (cnA h b) then some (rwA h b (nI (cnA h b) - 1).toNatClampNeg) else none) = outm h b := by
    unfold outm
    by_cases h0 : cnA h b = 0
    · rw [if_pos h0, h0, if_neg (by decide)]
    · rw [if_neg h0, nq1, pk_sub (by omega), if_pos (by grind [nI_ti]), nI_clamp (by omega)]
  have hor : ∀ q, outm h b = some q → q < gN h 1 := by
    intro q hq
    unfold outm at hq
    split at hq
    · cases hq
    · cases hq
      exact (hr b _ hb (by omega)).1
  simp only [f_X5_whyNotOutermost, e1, e2, bnd_some, e_lying, hl, e_countAt R hb, e_boatAt R hb, ho, e_whyRight R hi hb _ _ hor]
  simp
theorem m_whyOut {nb nt : Nat} {h : Hp} (M : RM nb nt h) {i b : Nat} (hi : i < 8) (hb : b < nb) : f_X8_whyNotOutside (nI i) (nI b) h = some (wR h i b (nI (cnA h b)) (outm h b)) := by
  obtain ⟨hB, hT, e0, e6, hc, hr, hd⟩ := M
  have hcb := hc b hb
  have hb4 : 0 ≤ nI b ∧ nI b < 4 := by grind [nI_ti]
  have c1 : (nI b).toNatClampNeg = b := nI_clamp (by omega)
  simp only [f_X8_whyNotOutside, f_X8_insideOf, hb4, and_self, if_true, c1, hcb.2]
  by_cases h0 : cnA h b = 0
  · have : nI (cnA h b) = 0 := by rw [h0]; rfl
    simp only [this, if_true, bnd_some, m_why hi (show b < 4 by omega) 0 (-1) (by simp) h]
    unfold outm
    rw [if_pos h0]
  · have h1 : ¬ nI (cnA h b) = 0 := by grind [nI_ti]
    have hrk := hr b (cnA h b - 1) hb (by omega)
    have e : (6 : Int32) * nI b + nI (cnA h b) - 1 = nI (6 * b + (cnA h b - 1)) := by
      rw [i6, nq1, pk_sub (by omega)]
      congr 1
      omega
    have hin : 0 ≤ nI (6 * b + (cnA h b - 1)) ∧ nI (6 * b + (cnA h b - 1)) < 24 := by grind [nI_ti]
    simp only [h1, if_false, e, hin, and_self, if_true, bnd_some]
    rw [nI_clamp (by omega), hrk.2]
    rw [m_why hi (show b < 4 by omega) (nI (cnA h b)) (nI (rwA h b (cnA h b - 1))) (fun _ => by grind [nI_ti]) h, bnd_some]
    unfold outm
    rw [if_neg h1, if_neg h0, nI_clamp (by omega)]
theorem outm_F (h : Hp) (b : Nat) : outm (hcF h) b = outm h b := rfl
theorem cnA_F (h : Hp) (b : Nat) : cnA (hcF h) b = cnA h b := rfl
theorem p_may {h : Hp} (R : Rel h) (x y : Int32) : Pm h (f_X7_may x y) (f_X8_may x y) := by
  rcases R.boat? x with ⟨i, hi, rfl, hb, hm, hc, h8⟩ | ⟨hb, hm, -⟩
  · rcases R.berth? y with ⟨b, hbb, rfl, hb', hm', hc', h4⟩ | ⟨hb', hm', -⟩
    · rcases R.lies? hi with ⟨q1, q2, q3, q4⟩ | ⟨b0, k0, q1, q2, q3, q4, q5, q6, q7⟩
      · have hw := wR_ge h i b (nI (cnA h b)) (outm h b)
        refine Pm.mk (v := wR h i b (nI (cnA h b)) (outm h b)) (h1 := h) (h2 := h) ?_ ?_ R (fun _ => rfl) (fun _ => rfl)
        · simp only [f_X7_may, e_whyOut R hi hbb q1, bnd_some]
          rw [c_same (by grind)]
          rfl
        · simp only [f_X8_may, hm, hm', bnd_some, q4 h R.rm (fun _ => rfl) (fun _ => rfl), m_whyOut R.rm (show i < 8 by have := R.t8; omega) hbb]
          simp
      · refine Pm.find R (-1000005) ?_ ?_
        · simp [f_X7_may, f_X5_whyNotOutermost, hb, hb', q6, c_find]
        · have h0 : ¬ nI (6 * b0 + k0) < 0 := nI_pos (by have := R.b4; have := ((R.pos).2.1 b0 q1).1; omega)
          simp [f_X8_may, isBoat_F, isBerth_F, hm, hm', q7 (hcF h) R.rmF (fun _ => rfl) (fun _ => rfl), h0, f_X8_finding]
    · refine Pm.find R (-1000001) ?_ ?_
      · simp [f_X7_may, f_X5_whyNotOutermost, hb, hb', c_find]
      · simp [f_X8_may, isBoat_F, isBerth_F, hm, hm', f_X8_finding]
  · refine Pm.find R (-1000001) ?_ ?_
    · rcases R.berth? y with ⟨b, hbb, rfl, hb', hm', hc', h4⟩ | ⟨hb', hm', -⟩
      · simp [f_X7_may, f_X5_whyNotOutermost, hb, hb', c_find]
      · simp [f_X7_may, f_X5_whyNotOutermost, hb, hb', c_find]
    · simp [f_X8_may, isBoat_F, hm, f_X8_finding]
