theorem law_true (L : Nat) (xs : Nat → Int32) (hL : L ≤ 3072) : ∃ h', f_L_law L xs hE = some (true, h') := by
  obtain ⟨r, e, R, B⟩ := law_start L xs
  rw [e]
  exact law_loop hL (L / 6) 513 0 r (by omega) (by omega) R B
