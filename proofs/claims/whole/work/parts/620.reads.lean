/-! ===== reading the reference's part ===== -/
def RM (nb nt : Nat) (h : Hp) : Prop := nb ≤ 4 ∧ nt ≤ 8 ∧ gI h 8 0 0 = nI nb ∧ gI h 8 0 6 = nI nt ∧ (∀ b, b < nb → cnA h b ≤ 6 ∧ gI h 43 0 b = nI (cnA h b)) ∧
  (∀ b k, b < nb → k < cnA h b → rwA h b k < nt ∧ gI h 44 0 (6 * b + k) = nI (rwA h b k)) ∧ (∀ b k b' k', b < nb → k < cnA h b → b' < nb → k' < cnA h b' → rwA h b k = rwA h b' k' → b = b' ∧ k = k')
theorem Rel.rm {h : Hp} (R : Rel h) : RM (gN h 0) (gN h 1) h := by
  obtain ⟨⟨hB, hT⟩, hc, hr, hp⟩ := R.pos
  obtain ⟨⟨h1, h2, h3, h4, h5, h6, h7, h8, h9⟩, -⟩ := R
  refine ⟨hB, hT, h7, h9, fun b hb => ⟨(hc b hb).1, (hc b hb).2.1⟩, fun b k hb hk => ⟨(hr b k hb hk).1, (hr b k hb hk).2.1⟩, fun b k b' k' hb hk hb' hk' e => ?_⟩
  have r1 := hr b k hb hk
  have r2 := hr b' k' hb' hk'
  rw [e] at r1
  have c1 := (hc b hb).1
  have c2 := (hc b' hb').1
  refine ⟨?_, ?_⟩
  · have := r1.2.2.1.symm.trans r2.2.2.1
    grind [nI_ti]
  · have := r1.2.2.2.symm.trans r2.2.2.2
    grind [nI_ti]
theorem RM.congr {nb nt : Nat} {h h1 : Hp} (M : RM nb nt h) (e0 : gI h1 8 0 0 = gI h 8 0 0) (e6 : gI h1 8 0 6 = gI h 8 0 6) (e43 : ∀ b, gI h1 43 0 b = gI h 43 0 b) (e44 : ∀ k, gI h1 44 0 k = gI h 44 0 k) : RM nb nt h1 := by
  have ec : ∀ b, cnA h1 b = cnA h b := fun b => by unfold cnA; rw [e43]
  have er : ∀ b k, rwA h1 b k = rwA h b k := fun b k => by unfold rwA; rw [e44]
  unfold RM
  simp only [ec, er, e0, e6, e43, e44]
  exact M
theorem i6 (b k : Nat) : (6 : Int32) * nI b + nI k = nI (6 * b + k) := by rw [nq6, pk_mul, nI_add]
theorem L_spot12n {nb nt : Nat} {h : Hp} (M : RM nb nt h) (c2 : Int32 → Int32 → Option Int32) {b : Nat} (hb : b < nb) {i : Nat} (hi : i < 2147483648) (hno : ∀ k, k < cnA h b → rwA h b k ≠ i) : ∀ (m n k : Nat), k + m = cnA h b → m < n → fL_X8_spotOf_12 h c2 n (nI i) (nI b) (nI k) = c2 (nI i) (nI (b + 1)) := by
  obtain ⟨hB, hT, e0, e6, hc, hr, hd⟩ := M
  have hcb := hc b hb
  have hcl : (nI b).toNatClampNeg = b := nI_clamp (by omega)
  have h4 : 0 ≤ nI b ∧ nI b < 4 := by grind [nI_ti]
  intro m
  induction m with
  | zero =>
    intro n k hk hn
    obtain ⟨n, rfl⟩ : ∃ k, n = k + 1 := ⟨n - 1, by omega⟩
    unfold fL_X8_spotOf_12
    rw [if_pos h4, hcl, hcb.2, if_pos (by grind [nI_ti]), nI_s]
  | succ m ih =>
    intro n k hk hn
    obtain ⟨n, rfl⟩ : ∃ k, n = k + 1 := ⟨n - 1, by omega⟩
    unfold fL_X8_spotOf_12
    have hrk := hr b k hb (by omega)
    have hnk := hno k (by omega)
    have hne : ¬ nI (rwA h b k) = nI i := by grind [nI_ti]
    rw [if_pos h4, hcl, hcb.2, if_neg (by grind [nI_ti]), i6, if_pos (by grind [nI_ti]), nI_clamp (by omega), hrk.2, if_neg hne, nI_s]
    exact ih n (k + 1) (by omega) (by omega)
theorem L_spot12y {nb nt : Nat} {h : Hp} (M : RM nb nt h) (c2 : Int32 → Int32 → Option Int32) {b k0 : Nat} (hb : b < nb) (hk0 : k0 < cnA h b) : ∀ (m n k : Nat), k + m = k0 → m < n → fL_X8_spotOf_12 h c2 n (nI (rwA h b k0)) (nI b) (nI k) = some (nI (6 * b + k0)) := by
  obtain ⟨hB, hT, e0, e6, hc, hr, hd⟩ := M
  have hcb := hc b hb
  have hr0 := hr b k0 hb hk0
  have hcl : (nI b).toNatClampNeg = b := nI_clamp (by omega)
  have h4 : 0 ≤ nI b ∧ nI b < 4 := by grind [nI_ti]
  intro m
  induction m with
  | zero =>
    intro n k hk hn
    obtain ⟨n, rfl⟩ : ∃ k, n = k + 1 := ⟨n - 1, by omega⟩
    have : k = k0 := by omega
    subst this
    unfold fL_X8_spotOf_12
    rw [if_pos h4, hcl, hcb.2, if_neg (by grind [nI_ti]), i6, if_pos (by grind [nI_ti]), nI_clamp (by omega), hr0.2, if_pos rfl]
  | succ m ih =>
    intro n k hk hn
    obtain ⟨n, rfl⟩ : ∃ k, n = k + 1 := ⟨n - 1, by omega⟩
    unfold fL_X8_spotOf_12
    have hrk := hr b k hb (by omega)
    have hne : ¬ nI (rwA h b k) = nI (rwA h b k0) := by
      intro q
      have := hd b k b k0 hb (by omega) hb hk0 (by grind [nI_ti])
      omega
    rw [if_pos h4, hcl, hcb.2, if_neg (by grind [nI_ti]), i6, if_pos (by grind [nI_ti]), nI_clamp (by omega), hrk.2, if_neg hne, nI_s]
    exact ih n (k + 1) (by omega) (by omega)
theorem m_spot0 {nb nt : Nat} {h : Hp} (M : RM nb nt h) {i : Nat} (hi : i < 2147483648) (hno : ∀ b k, b < nb → k < cnA h b → rwA h b k ≠ i) : f_X8_spotOf (nI i) h = some (-1) := by
  have key : ∀ (m n b : Nat), b + m = nb → m < n → fL_X8_spotOf_2 h n (nI i) (nI b) = some (-1) := by
    intro m
    induction m with
    | zero =>
      intro n b hb hn
      obtain ⟨n, rfl⟩ : ∃ k, n = k + 1 := ⟨n - 1, by omega⟩
      unfold fL_X8_spotOf_2
      rw [M.2.2.1, if_pos]
      rw [show b = nb by omega]
      exact Int32.le_refl _
    | succ m ih =>
      intro n b hb hn
      obtain ⟨n, rfl⟩ : ∃ k, n = k + 1 := ⟨n - 1, by omega⟩
      have h4 := M.1
      unfold fL_X8_spotOf_2
      rw [M.2.2.1, if_neg (by grind [nI_ti])]
      have := L_spot12n M (fL_X8_spotOf_2 h n) (b := b) (by omega) hi (fun k hk => hno b k (by omega) hk) (cnA h b) FU 0 (by omega) (FUb (by have := (M.2.2.2.2.1 b (by omega)).1; omega))
      rw [show (0 : Int32) = nI 0 from rfl, this]
      exact ih n (b + 1) (by omega) (by omega)
  unfold f_X8_spotOf
  exact key nb FU 0 (by omega) (FUb (by have := M.1; omega))
theorem m_spot1 {nb nt : Nat} {h : Hp} (M : RM nb nt h) {b0 k0 : Nat} (hb0 : b0 < nb) (hk0 : k0 < cnA h b0) : f_X8_spotOf (nI (rwA h b0 k0)) h = some (nI (6 * b0 + k0)) := by
  have hr0 := (M.2.2.2.2.2.1 b0 k0 hb0 hk0).1
  have hT := M.2.1
  have h4 := M.1
  have key : ∀ (m n b : Nat), b + m = b0 → m < n → fL_X8_spotOf_2 h n (nI (rwA h b0 k0)) (nI b) = some (nI (6 * b0 + k0)) := by
    intro m
    induction m with
    | zero =>
      intro n b hb hn
      obtain ⟨n, rfl⟩ : ∃ k, n = k + 1 := ⟨n - 1, by omega⟩
      have : b = b0 := by omega
      subst this
      unfold fL_X8_spotOf_2
      rw [M.2.2.1, if_neg (by grind [nI_ti]), show (0 : Int32) = nI 0 from rfl]
      exact L_spot12y M _ hb0 hk0 k0 FU 0 (by omega) (FUb (by have := (M.2.2.2.2.1 b (by omega)).1; omega))
    | succ m ih =>
      intro n b hb hn
      obtain ⟨n, rfl⟩ : ∃ k, n = k + 1 := ⟨n - 1, by omega⟩
      unfold fL_X8_spotOf_2
      rw [M.2.2.1, if_neg (by grind [nI_ti])]
      have := L_spot12n M (fL_X8_spotOf_2 h n) (b := b) (by omega) (i := rwA h b0 k0) (by omega) (fun k hk e => by have := M.2.2.2.2.2.2 b k b0 k0 (by omega) hk hb0 hk0 e; omega) (cnA h b) FU 0 (by omega) (FUb (by have := (M.2.2.2.2.1 b (by omega)).1; omega))
      rw [show (0 : Int32) = nI 0 from rfl, this]
      exact ih n (b + 1) (by omega) (by omega)
  unfold f_X8_spotOf
  exact key b0 FU 0 (by omega) (FUb (by omega))
theorem m_isBoat {nb nt : Nat} {h : Hp} (M : RM nb nt h) (x : Int32) : f_X8_isBoat x h = some (decide (0 ≤ x ∧ x < nI nt)) := by
  have hT := M.2.1
  simp only [f_X8_isBoat, f_X8_within, M.2.2.2.1]
  by_cases h1 : x < 0
  · rw [if_pos h1]
    simp only [bnd_some, Option.some.injEq]
    exact (decide_eq_false (by grind)).symm
  · rw [if_neg h1]
    by_cases h2 : nI nt - 1 < x
    · rw [if_pos h2]
      simp only [bnd_some, Option.some.injEq]
      exact (decide_eq_false (by grind [nI_ti])).symm
    · rw [if_neg h2]
      simp only [bnd_some, Option.some.injEq]
      exact (decide_eq_true (by grind [nI_ti])).symm
theorem m_isBerth {nb nt : Nat} {h : Hp} (M : RM nb nt h) (x : Int32) : f_X8_isBerth x h = some (decide (0 ≤ x ∧ x < nI nb)) := by
  have hT := M.1
  simp only [f_X8_isBerth, f_X8_within, M.2.2.1]
  by_cases h1 : x < 0
  · rw [if_pos h1]
    simp only [bnd_some, Option.some.injEq]
    exact (decide_eq_false (by grind)).symm
  · rw [if_neg h1]
    by_cases h2 : nI nb - 1 < x
    · rw [if_pos h2]
      simp only [bnd_some, Option.some.injEq]
      exact (decide_eq_false (by grind [nI_ti])).symm
    · rw [if_neg h2]
      simp only [bnd_some, Option.some.injEq]
      exact (decide_eq_true (by grind [nI_ti])).symm
theorem w_within (x a b : Int32) (h : Hp) : f_X8_within x a b h = some (decide (a ≤ x ∧ x ≤ b)) := by
  unfold f_X8_within
  by_cases h1 : x < a
  · rw [if_pos h1, decide_eq_false (by grind)]
  · by_cases h2 : b < x
    · rw [if_neg h1, if_pos h2, decide_eq_false (by grind)]
    · rw [if_neg h1, if_neg h2, decide_eq_true (by grind)]
theorem w_isWithin (x a b : Int32) (h : Hp) : f_X7_isWithin x a b h = some (decide (a ≤ x ∧ x ≤ b)) := w_within x a b h
