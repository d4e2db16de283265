/-! ===== due ===== -/
theorem fnd_eta (c : Int32) (h : Hp) : ((f_X8_finding c h).bind fun r => some (r.1, r.2)) = f_X8_finding c h := rfl
theorem L_price {h : Hp} (R : Rel h) {i c : Nat} (hi : i < gN h 1) (hc8 : c ≤ 8) (ec : gI h 3 0 5 = nI c) (ec2 : gI h 8 0 21 = nI c)
    (hr : ∀ r, r < c → gI h 19 0 r = gI h 45 0 r ∧ gI h 20 0 r = gI h 46 0 r ∧ gI h 21 0 r = gI h 47 0 r ∧ (0 ≤ gI h 45 0 r ∧ gI h 45 0 r ≤ 3) ∧ (0 ≤ gI h 46 0 r ∧ gI h 46 0 r ≤ 99) ∧ (0 ≤ gI h 47 0 r ∧ gI h 47 0 r ≤ 99)) (y : Int32) :
    ∀ (m n1 n2 r : Nat), r + m = c → m < n1 → m < n2 →
      (∃ v, fL_X3_priceFor_2 h n1 i (nI r) = some v ∧ v ≠ -1000004 ∧ fL_X8_due_27 n2 (nI i) y (nI r) h = some (v * gI h 1 i 2 * y, h)) ∨
      (fL_X3_priceFor_2 h n1 i (nI r) = some (-1000004) ∧ fL_X8_due_27 n2 (nI i) y (nI r) (hcF h) = f_X8_finding (-1000004) (hcF h)) := by
  intro m
  have h8 := R.t8
  have hbo := R.boa hi
  induction m with
  | zero =>
    intro n1 n2 r hrm h1 h2
    obtain ⟨n1, rfl⟩ : ∃ k, n1 = k + 1 := ⟨n1 - 1, by omega⟩
    obtain ⟨n2, rfl⟩ : ∃ k, n2 = k + 1 := ⟨n2 - 1, by omega⟩
    have hle : nI c ≤ nI r := by grind [nI_ti]
    refine Or.inr ⟨?_, ?_⟩
    · rw [fL_X3_priceFor_2, ec, if_pos hle]
    · have : gI (hcF h) 8 0 21 = nI c := ec2
      rw [fL_X8_due_27, this, if_pos hle]
      rfl
  | succ m ih =>
    intro n1 n2 r hrm h1 h2
    obtain ⟨n1, rfl⟩ : ∃ k, n1 = k + 1 := ⟨n1 - 1, by omega⟩
    obtain ⟨n2, rfl⟩ : ∃ k, n2 = k + 1 := ⟨n2 - 1, by omega⟩
    have hlt : ¬ nI c ≤ nI r := by grind [nI_ti]
    have hlt8 : ¬ (8 : Int32) ≤ nI r := by grind [nI_ti]
    have hr8 : 0 ≤ nI r ∧ nI r < 8 := by grind [nI_ti]
    have hi8 : 0 ≤ nI i ∧ nI i < 8 := by grind [nI_ti]
    have cr : (nI r).toNatClampNeg = r := nI_clamp (by omega)
    have ci : (nI i).toNatClampNeg = i := nI_clamp (by omega)
    have hq := hr r (by omega)
    have ihr := ih n1 n2 (r + 1) (by omega) (by omega) (by omega)
    have e21 : gI (hcF h) 8 0 21 = nI c := ec2
    have e34 : ∀ a, gI (hcF h) 34 0 a = gI h 34 0 a := fun _ => rfl
    have e35 : ∀ a, gI (hcF h) 35 0 a = gI h 35 0 a := fun _ => rfl
    have e45 : ∀ a, gI (hcF h) 45 0 a = gI h 45 0 a := fun _ => rfl
    have e46 : ∀ a, gI (hcF h) 46 0 a = gI h 46 0 a := fun _ => rfl
    rw [fL_X3_priceFor_2, fL_X8_due_27, fL_X8_due_27]
    simp only [ec, ec2, e21, hlt, hlt8, hr8, hi8, and_self, if_true, if_false, cr, ci, isOfKind_eq, isUnder_eq, bnd_some, nI_s, hq.1, hq.2.1, hq.2.2.1, hbo.2.1, hbo.2.2.1, e34, e35, e45, e46]
    rw [hbo.2.2.1] at ihr
    by_cases hu : und (gI h 34 0 i) (gI h 45 0 r) = true
    · simp only [hu, if_true]
      by_cases hl : gI h 46 0 r < gI h 35 0 i
      · simp only [hl, if_true]
        exact ihr
      · simp only [hl, if_false]
        exact Or.inl ⟨_, rfl, by grind, rfl⟩
    · simp only [hu, if_false]
      exact ihr
theorem p_due {h : Hp} (R : Rel h) (x y : Int32) : Pm h (f_X7_due x y) (f_X8_due x y) := by
  rcases R.boat? x with ⟨i, hi, rfl, hb, hm, hc, h8⟩ | ⟨hb, hm, -⟩
  · by_cases hy : 0 ≤ y ∧ y ≤ 99
    · obtain ⟨en, c, hc8, ec, hr⟩ := R.2.2.2.2.2.1
      rcases L_price R hi hc8 (en.trans ec) ec hr y c FU FU 0 (by omega) (FUb (by omega)) (FUb (by omega)) with ⟨v, e1, e2, e3⟩ | ⟨e1, e3⟩
      · refine Pm.rd R (v * gI h 1 i 2 * y) ?_ ?_
        · have : f_X3_priceFor i h = some v := e1
          simp only [f_X7_due, hb, bnd_some, w_isWithin, decide_eq_true hy, if_true, this, e2, if_false]
        · simp only [f_X8_due, hm, bnd_some, w_within, decide_eq_true hy, if_true]
          exact e3
      · refine Pm.find R (-1000004) ?_ ?_
        · have : f_X3_priceFor i h = some (-1000004) := e1
          simp only [f_X7_due, hb, bnd_some, w_isWithin, decide_eq_true hy, if_true, this, c_find (c := -1000004) (by decide)]
        · simp only [f_X8_due, isBoat_F, hm, bnd_some, w_within, decide_eq_true hy, if_true]
          exact e3
    · refine Pm.find R (-1000001) ?_ ?_
      · simp [f_X7_due, hb, w_isWithin, hy, c_find]
      · simp [f_X8_due, isBoat_F, hm, w_within, hy, f_X8_finding]
  · refine Pm.find R (-1000001) ?_ ?_
    · simp [f_X7_due, hb, c_find]
    · simp [f_X8_due, isBoat_F, hm, f_X8_finding]
/-! ===== sheet ===== -/
def hS (h : Hp) (t i o : Nat) : Nat → Hp
  | 0 => h
  | m + 1 => wI (hS h t i o m) t i (o + m) 0
theorem hS_I (h : Hp) (t i o : Nat) (a b c : Nat) : ∀ m, gI (hS h t i o m) a b c = if a = t ∧ b = i ∧ o ≤ c ∧ c < o + m then 0 else gI h a b c
  | 0 => by
    rw [if_neg (by omega)]
    rfl
  | m + 1 => by
    rw [hS, xI_wI, hS_I h t i o a b c m]
    grind
theorem hS_N (h : Hp) (t i o : Nat) (a : Nat) : ∀ m, gN (hS h t i o m) a = gN h a
  | 0 => rfl
  | m + 1 => by rw [hS, xN_wI, hS_N h t i o a m]
theorem hS_P (h : Hp) (t i o : Nat) (a b c : Nat) : ∀ m, gP (hS h t i o m) a b c = gP h a b c
  | 0 => rfl
  | m + 1 => by rw [hS, xP_wI, hS_P h t i o a b c m]
theorem L_fill8 (h : Hp) (s : Nat) : ∀ (m n j : Nat), j + m = 8 → m < n → fL_J7_fill_53178_5 n s 0 (nI j) 8 (hS h 23 s 0 j) = some (hS h 23 s 0 8) := by
  intro m
  induction m with
  | zero =>
    intro n j hj hn
    obtain ⟨n, rfl⟩ : ∃ k, n = k + 1 := ⟨n - 1, by omega⟩
    rw [fL_J7_fill_53178_5, if_pos (by grind [nI_ti]), show j = 8 by omega]
  | succ m ih =>
    intro n j hj hn
    obtain ⟨n, rfl⟩ : ∃ k, n = k + 1 := ⟨n - 1, by omega⟩
    rw [fL_J7_fill_53178_5, if_neg (by grind [nI_ti]), if_pos (by grind [nI_ti]), nI_s, nI_clamp (by omega)]
    have := ih n (j + 1) (by omega) (by omega)
    rw [hS, Nat.zero_add] at this
    exact this
theorem L_sheet8 (h : Hp) {s : Nat} (hs : s < 4) : ∀ (m n j : Nat), j + m = 8 → m < n → fL_X8_sheet_85 n (nI s) (nI j) (hS h 51 0 (8 * s) j) = some (gI h 50 0 s, hS h 51 0 (8 * s) 8) := by
  intro m
  have c0 : (0 : Int32) ≤ nI s ∧ nI s < 4 := by grind [nI_ti]
  induction m with
  | zero =>
    intro n j hj hn
    obtain ⟨n, rfl⟩ : ∃ k, n = k + 1 := ⟨n - 1, by omega⟩
    rw [fL_X8_sheet_85, if_pos (by grind [nI_ti]), if_pos c0, nI_clamp (by omega), show j = 8 by omega, hS_I, if_neg (by omega)]
  | succ m ih =>
    intro n j hj hn
    obtain ⟨n, rfl⟩ : ∃ k, n = k + 1 := ⟨n - 1, by omega⟩
    have e8 : (8 : Int32) * nI s + nI j = nI (8 * s + j) := by rw [nq8, pk_mul, nI_add]
    rw [fL_X8_sheet_85, if_neg (by grind [nI_ti]), e8, if_pos (by grind [nI_ti]), nI_s, nI_clamp (by omega)]
    have := ih n (j + 1) (by omega) (by omega)
    rw [hS] at this
    exact this
