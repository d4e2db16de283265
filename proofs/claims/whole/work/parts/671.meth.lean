theorem Rel.she {h h2 : Hp} (R : Rel h) (hN : ∀ a, gN h2 a = gN h a) (hP : ∀ a b c, gP h2 a b c = gP h a b c) (hI : ∀ t, t ≠ 6 → t ≠ 23 → t ≠ 49 → t ≠ 50 → t ≠ 51 → ∀ b c, gI h2 t b c = gI h t b c)
    (S : SheR (fun s => gI h2 6 s 1) (fun s => gI h2 6 s 2) (fun s j => gI h2 23 s j) (fun s => gI h2 49 0 s) (fun s => gI h2 50 0 s) (fun j => gI h2 51 0 j)) : Rel h2 := by
  obtain ⟨a, b, c, d, e, f, g, k⟩ := R
  unfold Rel
  simp only [hN, hP, hI 0 (by decide) (by decide) (by decide) (by decide) (by decide), hI 1 (by decide) (by decide) (by decide) (by decide) (by decide), hI 2 (by decide) (by decide) (by decide) (by decide) (by decide), hI 3 (by decide) (by decide) (by decide) (by decide) (by decide), hI 5 (by decide) (by decide) (by decide) (by decide) (by decide), hI 7 (by decide) (by decide) (by decide) (by decide) (by decide), hI 8 (by decide) (by decide) (by decide) (by decide) (by decide), hI 18 (by decide) (by decide) (by decide) (by decide) (by decide), hI 19 (by decide) (by decide) (by decide) (by decide) (by decide), hI 20 (by decide) (by decide) (by decide) (by decide) (by decide), hI 21 (by decide) (by decide) (by decide) (by decide) (by decide), hI 30 (by decide) (by decide) (by decide) (by decide) (by decide), hI 31 (by decide) (by decide) (by decide) (by decide) (by decide), hI 32 (by decide) (by decide) (by decide) (by decide) (by decide), hI 33 (by decide) (by decide) (by decide) (by decide) (by decide), hI 34 (by decide) (by decide) (by decide) (by decide) (by decide), hI 35 (by decide) (by decide) (by decide) (by decide) (by decide), hI 36 (by decide) (by decide) (by decide) (by decide) (by decide), hI 37 (by decide) (by decide) (by decide) (by decide) (by decide), hI 38 (by decide) (by decide) (by decide) (by decide) (by decide), hI 39 (by decide) (by decide) (by decide) (by decide) (by decide), hI 40 (by decide) (by decide) (by decide) (by decide) (by decide), hI 41 (by decide) (by decide) (by decide) (by decide) (by decide), hI 42 (by decide) (by decide) (by decide) (by decide) (by decide), hI 43 (by decide) (by decide) (by decide) (by decide) (by decide), hI 44 (by decide) (by decide) (by decide) (by decide) (by decide), hI 45 (by decide) (by decide) (by decide) (by decide) (by decide), hI 46 (by decide) (by decide) (by decide) (by decide) (by decide), hI 47 (by decide) (by decide) (by decide) (by decide) (by decide), hI 48 (by decide) (by decide) (by decide) (by decide) (by decide)]
  exact ⟨a, b, c, d, e, f, g, S⟩
abbrev isW (x : Int32) : Prop := x = 0 ∨ x = 8 ∨ x = 16 ∨ x = 32
theorem c_begin (s : Nat) (x y : Int32) (h : Hp) : f_X6_begin s x y h = if isW x then fJ_X6_begin_25 s x y h else some (-1000001, h) := by
  unfold f_X6_begin isW
  grind
theorem m_sheet0 (a x y : Int32) (h : Hp) : f_X8_sheet a x y h = if 0 ≤ a ∧ a ≤ 3 then (if isW x then fJ_X8_sheet_36 a x y h else f_X8_finding (-1000001) h) else f_X8_finding (-1000001) h := by
  unfold f_X8_sheet f_X8_isSheet isW
  rw [w_within]
  simp only [bnd_some, fnd_eta]
  by_cases ha : 0 ≤ a ∧ a ≤ 3
  · rw [decide_eq_true ha, if_pos ha, if_pos rfl]
    grind
  · rw [decide_eq_false ha, if_neg ha]
    rfl
theorem Rel.sheet? {h : Hp} (R : Rel h) (x : Int32) : (∃ s, s < 4 ∧ x = nI s ∧ f_X7_sheetOf x h = some (some s) ∧ x.toNatClampNeg = s ∧ (0 ≤ x ∧ x < 4) ∧ (0 ≤ x ∧ x ≤ 3)) ∨ (f_X7_sheetOf x h = some none ∧ ¬ (0 ≤ x ∧ x ≤ 3)) := by
  by_cases hx : 0 ≤ x ∧ x ≤ 3
  · obtain ⟨s, hs, rfl⟩ := ofR (x := x) (n := 4) (by decide) hx.1 (by grind [nI_ti])
    have c4 : 0 ≤ nI s ∧ nI s < 4 := by grind [nI_ti]
    refine Or.inl ⟨s, hs, rfl, ?_, nI_clamp (by omega), c4, hx⟩
    unfold f_X7_sheetOf
    rw [if_neg (by grind), if_neg (by grind), if_pos c4, nI_clamp (by omega)]
    exact congrArg some (R.1.2.2.2.2.1 s hs)
  · refine Or.inr ⟨?_, hx⟩
    unfold f_X7_sheetOf
    grind
def hW1 (h : Hp) (s : Nat) (x y : Int32) : Hp := hS (wI (wI h 6 s 1 x) 6 s 2 y) 23 s 0 8
def hW2 (h : Hp) (s : Nat) (x y : Int32) : Hp := hS (wI (wI h 49 0 s x) 50 0 s y) 51 0 (8 * s) 8
theorem c_fill8 (s : Nat) (x y : Int32) (h : Hp) : f_J7_fill_53178 s 0 (wI (wI h 6 s 1 x) 6 s 2 y) = some (hW1 h s x y) := L_fill8 (wI (wI h 6 s 1 x) 6 s 2 y) s 8 FU 0 (by omega) (FUb (by omega))
theorem m_fill8 {s : Nat} (hs : s < 4) (x y : Int32) (h : Hp) : fL_X8_sheet_85 FU (nI s) 0 (wI (wI h 49 0 s x) 50 0 s y) = some (y, hW2 h s x y) := by
  have := L_sheet8 (wI (wI h 49 0 s x) 50 0 s y) hs 8 FU 0 (by omega) (FUb (by omega))
  rw [xI_wI, if_pos ⟨rfl, rfl, rfl⟩] at this
  exact this
theorem r_sheet {h : Hp} (R : Rel h) {s : Nat} (hs : s < 4) {x y : Int32} (hx : isW x) (hy : 0 ≤ y ∧ y ≤ 8) : Rel (hW2 (hW1 h s x y) s x y) := by
  refine R.she ?_ ?_ ?_ ?_
  · intro a; simp only [hW2, hW1, hS_N, xN_wI]
  · intro a b c; simp only [hW2, hW1, hS_P, xP_wI]
  · intro t a1 a2 a3 a4 a5 b c; simp only [hW2, hW1, hS_I, xI_wI, a1, a2, a3, a4, a5, false_and, if_false]
  · intro s' hs'
    obtain ⟨q1, q2, q3, q4, q5⟩ := R.2.2.2.2.2.2.2 s' hs'
    simp only [hW2, hW1, hS_I, xI_wI] at q1 q2 q3 q4 ⊢
    by_cases e : s' = s
    · subst e
      refine ⟨by simp, by simp, by simp; exact hx, by simp; exact hy, fun j hj => ?_⟩
      simp [hj]
    · refine ⟨by simp [e]; exact q1, by simp [e]; exact q2, by simp [e]; exact q3, by simp [e]; exact q4, fun j hj => ?_⟩
      have := q5 j hj
      simp [e]
      rw [if_neg (by omega)]
      exact this
theorem p_sheet {h : Hp} (R : Rel h) (a x y : Int32) : Pm h (f_X7_sheet a x y) (f_X8_sheet a x y) := by
  rcases R.sheet? a with ⟨s, hs, rfl, hb, hc, h4, h3⟩ | ⟨hb, h3⟩
  · by_cases hx : isW x
    · by_cases y0 : 0 ≤ y
      · by_cases y8 : y ≤ 8
        · have key : ∀ z : Int32, 0 ≤ z ∧ z ≤ 8 → (if x = 0 then (0 : Int32) else y) = z → Pm h (f_X7_sheet (nI s) x y) (f_X8_sheet (nI s) x y) := by
            intro z hz ez
            refine Pm.mk (v := z) (h1 := hW1 h s x z) (h2 := hW2 (hW1 h s x z) s x z) ?_ ?_ (r_sheet R hs hx hz) (fun i => ?_) (fun i => ?_)
            · have g6 : gI (hW1 h s x z) 6 s 2 = z := by simp only [hW1, hS_I, xI_wI]; simp
              have : f_X6_begin s x y h = some (z, hW1 h s x z) := by
                rw [c_begin, if_pos hx, fJ_X6_begin_25, if_pos y0, if_pos y8]
                by_cases x0 : x = 0
                · rw [if_pos x0] at ez ⊢
                  subst ez
                  rw [c_fill8, bnd_some, g6]
                · rw [if_neg x0] at ez ⊢
                  subst ez
                  rw [c_fill8, bnd_some, g6]
              simp only [f_X7_sheet, hb, bnd_some, this, c_same (show ¬ z < -1000000 by grind)]
            · rw [m_sheet0, if_pos h3, if_pos hx, fJ_X8_sheet_36, if_pos y0, if_pos y8, if_pos h4, if_pos h4, if_pos h4, hc]
              by_cases x0 : x = 0
              · rw [if_pos x0] at ez ⊢
                subst ez
                exact m_fill8 hs _ _ _
              · rw [if_neg x0] at ez ⊢
                subst ez
                exact m_fill8 hs _ _ _
            · simp only [hW2, hW1, hS_I, xI_wI]; simp
            · simp only [hW2, hW1, hS_I, xI_wI]; simp
          exact key _ (by split <;> grind) rfl
        · refine Pm.find R (-1000001) ?_ ?_
          · simp only [f_X7_sheet, hb, bnd_some, c_begin, if_pos hx, fJ_X6_begin_25, if_pos y0, if_neg y8, c_find (c := -1000001) (by decide)]
          · rw [m_sheet0, if_pos h3, if_pos hx, fJ_X8_sheet_36, if_pos y0, if_neg y8, fnd_eta]
      · refine Pm.find R (-1000007) ?_ ?_
        · simp only [f_X7_sheet, hb, bnd_some, c_begin, if_pos hx, fJ_X6_begin_25, if_neg y0, c_find (c := -1000007) (by decide)]
        · rw [m_sheet0, if_pos h3, if_pos hx, fJ_X8_sheet_36, if_neg y0, fnd_eta]
    · refine Pm.find R (-1000001) ?_ ?_
      · simp only [f_X7_sheet, hb, bnd_some, c_begin, if_neg hx, c_find (c := -1000001) (by decide)]
      · rw [m_sheet0, if_pos h3, if_neg hx]
  · refine Pm.find R (-1000001) ?_ ?_
    · simp only [f_X7_sheet, hb, bnd_some, c_find (c := -1000001) (by decide)]
    · rw [m_sheet0, if_neg h3]
