/-! ===== fault ===== -/
def ins (h : Hp) (b k : Nat) : Option Nat := if k = 0 then none else some (rwA h b (k - 1))
theorem e_boatAtY {h : Hp} (R : Rel h) {b k : Nat} (hb : b < gN h 0) (hk : k < cnA h b) : f_X5_boatAt (nI b) (nI k) h = some (some (rwA h b k)) := by
  have c6 := (R.pos.2.1 b hb).1
  rw [e_boatAt R hb, if_pos ⟨(nIr (n := k) (k := 8) (by omega) (by omega)).1, (nI_ltI (by omega) (by omega)).mpr hk⟩, nI_clamp (by omega)]
theorem e_boatAtN {h : Hp} (R : Rel h) {b k : Nat} (hb : b < gN h 0) (hk : ¬ k < cnA h b) (h9 : k < 100) : f_X5_boatAt (nI b) (nI k) h = some none := by
  have c6 := (R.pos.2.1 b hb).1
  rw [e_boatAt R hb, if_neg (fun q => hk ((nI_ltI (by omega) (by omega)).mp q.2))]
theorem e_boatIn {h : Hp} (R : Rel h) {b k : Nat} (hb : b < gN h 0) (hk : k ≤ cnA h b) : f_X5_boatAt (nI b) (nI k - 1) h = some (ins h b k) := by
  unfold ins
  by_cases k0 : k = 0
  · subst k0
    rw [if_pos rfl, e_boatAt R hb, if_neg (fun q => absurd q.1 (by decide))]
  · rw [if_neg k0, show (1 : Int32) = nI 1 from rfl, nI_sub (by omega), e_boatAtY R hb (by omega)]
theorem m_inside {h : Hp} (R : Rel h) {b k : Nat} (hb : b < gN h 0) (hk : k ≤ cnA h b) : ∃ y, f_X8_insideOf (nI b) (nI k) h = some y ∧ (nI k ≠ 0 → 0 ≤ y ∧ y < 8) ∧ (if nI k = 0 then none else some y.toNatClampNeg) = ins h b k := by
  obtain ⟨⟨hB, hT⟩, hcn, hr, hp⟩ := R.pos
  have c6 := (hcn b hb).1
  unfold f_X8_insideOf ins
  by_cases k0 : k = 0
  · subst k0
    exact ⟨-1, rfl, fun q => absurd rfl q, rfl⟩
  · have n0 : ¬ nI k = 0 := nI_ne0 (by omega) (by omega)
    have hq := hr b (k - 1) hb (by omega)
    have e : 6 * b + k - 1 = 6 * b + (k - 1) := by omega
    refine ⟨nI (rwA h b (k - 1)), ?_, fun _ => nIr (k := 8) (by omega) (by omega), ?_⟩
    · rw [if_neg n0, i6, show (1 : Int32) = nI 1 from rfl, nI_sub (by omega), e, if_pos (show 0 ≤ nI (6 * b + (k - 1)) ∧ nI (6 * b + (k - 1)) < 24 from nIr (k := 24) (by omega) (by omega)), nI_clamp (by omega), hq.2.1]
    · rw [if_neg n0, if_neg k0, nI_clamp (by omega)]
theorem L_faultN {h : Hp} (R : Rel h) {b : Nat} (hb : b < gN h 0) : ∀ (m n k : Nat), k + m = 6 → m < n → cnA h b ≤ k → fL_X5_firstFault_15 h n (nI b) b (nI k) = some (-1) := by
  intro m
  induction m with
  | zero =>
    intro n k hk hn hc
    obtain ⟨n, rfl⟩ : ∃ k, n = k + 1 := ⟨n - 1, by omega⟩
    rw [fL_X5_firstFault_15, if_pos (show (6 : Int32) ≤ nI k from (nIl (n := 6) (by omega) (by omega)).mpr (by omega))]
  | succ m ih =>
    intro n k hk hn hc
    obtain ⟨n, rfl⟩ : ∃ k, n = k + 1 := ⟨n - 1, by omega⟩
    rw [fL_X5_firstFault_15, if_neg (fun q => by have := (nIl (n := 6) (by omega) (by omega)).mp q; omega), e_boatAtN R hb (by omega) (by omega), bnd_some, nI_s]
    exact ih n (k + 1) (by omega) (by omega) (by omega)
theorem L_fault {h : Hp} (R : Rel h) {b : Nat} (hb : b < gN h 0) : ∀ (m n1 n2 k : Nat), k + m = cnA h b → 7 < n1 + k → m < n2 → ∃ v, fL_X5_firstFault_15 h n1 (nI b) b (nI k) = some v ∧ fL_X8_fault_17 n2 (nI b) (nI k) h = some (v, h) ∧ ¬ v < -1000000 := by
  obtain ⟨⟨hB, hT⟩, hcn, hr, hp⟩ := R.pos
  obtain ⟨c6, e43, -⟩ := hcn b hb
  have h4 : 0 ≤ nI b ∧ nI b < 4 := nIr (k := 4) (by omega) (by omega)
  have cb : (nI b).toNatClampNeg = b := nI_clamp (by omega)
  intro m
  induction m with
  | zero =>
    intro n1 n2 k hk h1 h2
    obtain ⟨n2, rfl⟩ : ∃ k, n2 = k + 1 := ⟨n2 - 1, by omega⟩
    refine ⟨-1, L_faultN R hb (6 - k) n1 k (by omega) (by omega) (by omega), ?_, by decide⟩
    rw [fL_X8_fault_17, if_pos h4, cb, e43, if_pos ((nIl (by omega) (by omega)).mpr (by omega))]
  | succ m ih =>
    intro n1 n2 k hk h1 h2
    obtain ⟨n1, rfl⟩ : ∃ k, n1 = k + 1 := ⟨n1 - 1, by omega⟩
    obtain ⟨n2, rfl⟩ : ∃ k, n2 = k + 1 := ⟨n2 - 1, by omega⟩
    have hq := hr b k hb (by omega)
    obtain ⟨y, y1, y2, y3⟩ := m_inside R hb (k := k) (by omega)
    have ho : ∀ q, ins h b k = some q → q < gN h 1 := by
      intro q hq'
      unfold ins at hq'
      by_cases k0 : k = 0
      · rw [if_pos k0] at hq'; exact absurd hq' (by simp)
      · rw [if_neg k0] at hq'
        obtain rfl := Option.some.inj hq'
        exact (hr b (k - 1) hb (by omega)).1
    rw [fL_X5_firstFault_15, if_neg (fun q => by have := (nIl (n := 6) (by omega) (by omega)).mp q; omega), e_boatAtY R hb (by omega), bnd_some]
    simp only [e_boatIn R hb (show k ≤ cnA h b by omega), bnd_some, e_whyRight R hq.1 hb (nI k) (ins h b k) ho, nI_s]
    rw [fL_X8_fault_17, if_pos h4, cb, e43, if_neg (c := nI (cnA h b) ≤ nI k) (fun q => by have := (nIl (by omega) (by omega)).mp q; omega), i6, if_pos (show 0 ≤ nI (6 * b + k) ∧ nI (6 * b + k) < 24 from nIr (k := 24) (by omega) (by omega)), nI_clamp (n := 6 * b + k) (by omega), y1, bnd_some, hq.2.1, m_why (show rwA h b k < 8 by omega) (show b < 4 by omega) (nI k) y y2 h, y3, bnd_some, nI_s]
    by_cases w0 : wR h (rwA h b k) b (nI k) (ins h b k) = 0
    · rw [if_pos w0, if_pos w0]
      exact ih n1 n2 (k + 1) (by omega) (by omega) (by omega)
    · rw [if_neg w0, if_neg w0]
      exact ⟨nI k, rfl, rfl, fun q => absurd (Int32.lt_of_le_of_lt (nIr (n := k) (k := 100) (by omega) (by omega)).1 q) (by decide)⟩
theorem p_fault {h : Hp} (R : Rel h) (x : Int32) : Pm h (f_X7_fault x) (f_X8_fault x) := by
  rcases R.berth? x with ⟨b, hbb, rfl, hb', hm', hc', h4⟩ | ⟨hb', hm', -⟩
  · have c6 := (R.pos.2.1 b hbb).1
    obtain ⟨v, v1, v2, v3⟩ := L_fault R hbb (cnA h b) FU FU 0 (by omega) (by have := FUb (m := 8) (by omega); omega) (FUb (by omega))
    refine Pm.rd R v ?_ ?_
    · have : f_X5_firstFault (nI b) h = some v := by
        unfold f_X5_firstFault
        rw [hb', bnd_some]
        exact v1
      simp only [f_X7_fault, this, bnd_some, c_same v3]
    · simp only [f_X8_fault, hm', bnd_some, if_true]
      exact v2
  · refine Pm.find R (-1000001) ?_ ?_
    · simp only [f_X7_fault, f_X5_firstFault, hb', bnd_some, c_find (c := -1000001) (by decide)]
    · simp only [f_X8_fault, isBerth_F, hm', bnd_some, fnd_eta]
      rfl
