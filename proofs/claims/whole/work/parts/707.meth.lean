/-! ===== text ===== -/
theorem Rel.due2 {h h2 : Hp} (R : Rel h) (hN : ∀ a, gN h2 a = gN h a) (hP : ∀ a b c, gP h2 a b c = gP h a b c) (hI : ∀ t, t ≠ 3 → t ≠ 8 → t ≠ 18 → t ≠ 19 → t ≠ 20 → t ≠ 21 → t ≠ 45 → t ≠ 46 → t ≠ 47 → t ≠ 48 → ∀ b c, gI h2 t b c = gI h t b c) (h8 : ∀ c, c ≠ 21 → c ≠ 26 → gI h2 8 0 c = gI h 8 0 c)
    (D : DueR (gI h2 3 0 5) (gI h2 8 0 21) (fun r => gI h2 19 0 r) (fun r => gI h2 20 0 r) (fun r => gI h2 21 0 r) (fun r => gI h2 45 0 r) (fun r => gI h2 46 0 r) (fun r => gI h2 47 0 r))
    (S : TapR (gI h2 3 0 4) (gI h2 8 0 26) (fun j => gI h2 18 0 j) (fun j => gI h2 48 0 j)) : Rel h2 := by
  obtain ⟨a, b, c, d, e, f, g, k⟩ := R
  unfold Rel
  simp only [hN, hP, h8 0 (by decide) (by decide), h8 5 (by decide) (by decide), h8 6 (by decide) (by decide), h8 16 (by decide) (by decide), h8 19 (by decide) (by decide), h8 20 (by decide) (by decide), h8 30 (by decide) (by decide), hI 0 (by decide) (by decide) (by decide) (by decide) (by decide) (by decide) (by decide) (by decide) (by decide) (by decide), hI 1 (by decide) (by decide) (by decide) (by decide) (by decide) (by decide) (by decide) (by decide) (by decide) (by decide), hI 2 (by decide) (by decide) (by decide) (by decide) (by decide) (by decide) (by decide) (by decide) (by decide) (by decide), hI 5 (by decide) (by decide) (by decide) (by decide) (by decide) (by decide) (by decide) (by decide) (by decide) (by decide), hI 6 (by decide) (by decide) (by decide) (by decide) (by decide) (by decide) (by decide) (by decide) (by decide) (by decide), hI 7 (by decide) (by decide) (by decide) (by decide) (by decide) (by decide) (by decide) (by decide) (by decide) (by decide), hI 23 (by decide) (by decide) (by decide) (by decide) (by decide) (by decide) (by decide) (by decide) (by decide) (by decide), hI 30 (by decide) (by decide) (by decide) (by decide) (by decide) (by decide) (by decide) (by decide) (by decide) (by decide), hI 31 (by decide) (by decide) (by decide) (by decide) (by decide) (by decide) (by decide) (by decide) (by decide) (by decide), hI 32 (by decide) (by decide) (by decide) (by decide) (by decide) (by decide) (by decide) (by decide) (by decide) (by decide), hI 33 (by decide) (by decide) (by decide) (by decide) (by decide) (by decide) (by decide) (by decide) (by decide) (by decide), hI 34 (by decide) (by decide) (by decide) (by decide) (by decide) (by decide) (by decide) (by decide) (by decide) (by decide), hI 35 (by decide) (by decide) (by decide) (by decide) (by decide) (by decide) (by decide) (by decide) (by decide) (by decide), hI 36 (by decide) (by decide) (by decide) (by decide) (by decide) (by decide) (by decide) (by decide) (by decide) (by decide), hI 37 (by decide) (by decide) (by decide) (by decide) (by decide) (by decide) (by decide) (by decide) (by decide) (by decide), hI 38 (by decide) (by decide) (by decide) (by decide) (by decide) (by decide) (by decide) (by decide) (by decide) (by decide), hI 39 (by decide) (by decide) (by decide) (by decide) (by decide) (by decide) (by decide) (by decide) (by decide) (by decide), hI 40 (by decide) (by decide) (by decide) (by decide) (by decide) (by decide) (by decide) (by decide) (by decide) (by decide), hI 41 (by decide) (by decide) (by decide) (by decide) (by decide) (by decide) (by decide) (by decide) (by decide) (by decide), hI 42 (by decide) (by decide) (by decide) (by decide) (by decide) (by decide) (by decide) (by decide) (by decide) (by decide), hI 43 (by decide) (by decide) (by decide) (by decide) (by decide) (by decide) (by decide) (by decide) (by decide) (by decide), hI 44 (by decide) (by decide) (by decide) (by decide) (by decide) (by decide) (by decide) (by decide) (by decide) (by decide), hI 49 (by decide) (by decide) (by decide) (by decide) (by decide) (by decide) (by decide) (by decide) (by decide) (by decide), hI 50 (by decide) (by decide) (by decide) (by decide) (by decide) (by decide) (by decide) (by decide) (by decide) (by decide), hI 51 (by decide) (by decide) (by decide) (by decide) (by decide) (by decide) (by decide) (by decide) (by decide) (by decide)]
  exact ⟨a, b, c, d, e, D, S, k⟩
theorem wI_comm (h : Hp) {t i k t' i' k' : Nat} (v v' : Int32) (ne : ¬ (t = t' ∧ i = i' ∧ k = k')) : wI (wI h t i k v) t' i' k' v' = wI (wI h t' i' k' v') t i k v := by
  unfold wI
  simp only [gN, gI, gL, gP, Prod.mk.injEq, true_and, and_true]
  funext a b c
  by_cases e1 : a = t ∧ b = i ∧ c = k
  · rw [if_pos e1, if_pos e1, if_neg]
    rintro ⟨rfl, rfl, rfl⟩
    exact ne ⟨e1.1.symm, e1.2.1.symm, e1.2.2.symm⟩
  · rw [if_neg e1, if_neg e1]
/-- a kind by its letter -/
def kd (x : Int32) : Int32 := if x = 98 then 0 else if x = 99 then 1 else if x = 108 then 2 else if x = 114 then 3 else -1
theorem c_kind (x : Int32) (h : Hp) : f_X3_kindOf x h = some (kd x) := by
  unfold f_X3_kindOf kd
  simp only [lif]
  split
  · rfl
  · split
    · rfl
    · split
      · rfl
      · split
        · rfl
        · rfl
theorem m_kind (x : Int32) (h : Hp) : f_X8_kindBy x h = some (kd x) := by
  unfold f_X8_kindBy kd
  split
  · rfl
  · split
    · rfl
    · split
      · rfl
      · split
        · rfl
        · rfl
theorem kd_b (x : Int32) : kd x = -1 ∨ (0 ≤ kd x ∧ kd x ≤ 3) := by
  unfold kd
  split
  · exact Or.inr (by decide)
  · split
    · exact Or.inr (by decide)
    · split
      · exact Or.inr (by decide)
      · split
        · exact Or.inr (by decide)
        · exact Or.inl rfl
/-- whether a sign can stand at a place -/
def cs (x : Int32) (k : Nat) : Bool := if k % 7 = 0 then decide (0 ≤ kd x ∧ k < 56) else if k % 7 = 3 then decide (x = 58) else if k % 7 = 6 then decide (x = 59) else decide (48 ≤ x ∧ x ≤ 57)
theorem r7 {k : Nat} (hk : k < 2147483648) : nI k - nI k / 7 * 7 = nI (k % 7) := pk_rem (d := 7) (by omega) (by decide) (by decide)
theorem d7 {k : Nat} (hk : k < 2147483648) : nI k / 7 = nI (k / 7) := pk_div (d := 7) (by omega) (by decide) (by decide)
theorem n7 {k : Nat} (c : Nat) (hc : c < 1000) : (nI (k % 7) = nI c) ↔ k % 7 = c := nI_eq (by omega) (by omega)
theorem cs_sw {α : Type} {k : Nat} (hk : k < 1000) (A B C D : Option α) : lif (nI k - nI k / 7 * 7) [((0 : Int32), A), ((3 : Int32), B), ((6 : Int32), C)] D = if k % 7 = 0 then A else if k % 7 = 3 then B else if k % 7 = 6 then C else D := by
  rw [r7 (by omega)]
  simp only [lif, show (0 : Int32) = nI 0 from rfl, show (3 : Int32) = nI 3 from rfl, show (6 : Int32) = nI 6 from rfl, n7 0 (by omega), n7 3 (by omega), n7 6 (by omega)]
theorem cs_k {x : Int32} {k : Nat} (hk : k < 1000) : (if kd x < 0 then (some false) else (if (56 : Int32) ≤ nI k then (some false) else (some true))) = some (decide (0 ≤ kd x ∧ k < 56)) := by
  have e : (56 : Int32) ≤ nI k ↔ 56 ≤ k := nIl (n := 56) (by omega) (by omega)
  by_cases q : kd x < 0
  · rw [if_pos q, decide_eq_false (fun q2 => Int32.not_lt.mpr q2.1 q)]
  · rw [if_neg q]
    by_cases q2 : 56 ≤ k
    · rw [if_pos (e.mpr q2), decide_eq_false (by omega)]
    · rw [if_neg (fun q3 => q2 (e.mp q3)), decide_eq_true ⟨Int32.not_lt.mp q, by omega⟩]
theorem c_stand (x : Int32) {k : Nat} (hk : k < 1000) (h : Hp) : f_X3_canStand x (nI k) h = some (cs x k) := by
  unfold f_X3_canStand
  rw [cs_sw hk, c_kind, bnd_some, cs_k hk, w_isWithin, bnd_some]
  unfold cs
  split
  · rfl
  · split
    · by_cases e : x = 58 <;> simp [e]
    · split
      · by_cases e : x = 59 <;> simp [e]
      · rfl
theorem m_stand {k : Nat} (hk : k < 80) (h : Hp) : f_X8_canStand (nI k) h = some (cs (gI h 48 0 k) k) := by
  unfold f_X8_canStand
  rw [if_pos (show 0 ≤ nI k ∧ nI k < 80 from nIr (k := 80) hk (by omega)), cs_sw (by omega), nI_clamp (by omega), m_kind, bnd_some, cs_k (by omega), w_within, bnd_some]
  unfold cs
  split
  · rfl
  · split
    · by_cases e : gI h 48 0 k = 58 <;> simp [e]
    · split
      · by_cases e : gI h 48 0 k = 59 <;> simp [e]
      · rfl
theorem b8v : ∀ j : Fin 256, (nI j.val).toInt8.toInt32 = if j.val < 128 then nI j.val else -(nI (256 - j.val)) := by decide +kernel
/-- a byte as it is read with its sign is a sign of the text, or neither is one -/
theorem b8 {y : Int32} (hy : 0 ≤ y ∧ y ≤ 255) : y.toInt8.toInt32 = y ∨ (y.toInt8.toInt32 < 0 ∧ 128 ≤ y) := by
  obtain ⟨j, hj, rfl⟩ := ofR (x := y) (n := 256) (by decide) hy.1 (Int32.lt_of_le_of_lt hy.2 (by decide))
  have := b8v ⟨j, hj⟩
  simp only at this
  rw [this]
  by_cases q : j < 128
  · rw [if_pos q]
    exact Or.inl rfl
  · rw [if_neg q]
    refine Or.inr ⟨?_, (nIl (n := 128) (by omega) (by omega)).mpr (by omega)⟩
    have : (-(nI (256 - j)) : Int32) = nI 0 - nI (256 - j) := by rw [show nI 0 = (0 : Int32) from rfl, Int32.zero_sub]
    rw [this]
    exact pk_sneg (by omega) (by omega)
theorem kd_n {x : Int32} (h : x < 0 ∨ 128 ≤ x) : kd x = -1 := by
  unfold kd
  have n1 : ∀ c : Int32, 0 ≤ c ∧ c < 128 → x ≠ c := by
    rintro c ⟨c0, c1⟩ rfl
    rcases h with h | h
    · exact Int32.not_lt.mpr c0 h
    · exact Int32.not_le.mpr c1 h
  rw [if_neg (n1 98 (by decide)), if_neg (n1 99 (by decide)), if_neg (n1 108 (by decide)), if_neg (n1 114 (by decide))]
theorem cs_n {x : Int32} (h : x < 0 ∨ 128 ≤ x) (k : Nat) : cs x k = false := by
  have n1 : ∀ c : Int32, 0 ≤ c ∧ c < 128 → x ≠ c := by
    rintro c ⟨c0, c1⟩ rfl
    rcases h with h | h
    · exact Int32.not_lt.mpr c0 h
    · exact Int32.not_le.mpr c1 h
  unfold cs
  rw [kd_n h, decide_eq_false (n1 58 (by decide)), decide_eq_false (n1 59 (by decide)), decide_eq_false (p := 48 ≤ x ∧ x ≤ 57), decide_eq_false (p := (0 : Int32) ≤ -1 ∧ k < 56) (fun q => absurd q.1 (by decide))]
  · simp
  · rintro ⟨q1, q2⟩
    rcases h with h | h
    · exact absurd (Int32.lt_of_le_of_lt q1 h) (by decide)
    · exact absurd (Int32.le_trans h q2) (by decide)
theorem cs_eq {x y : Int32} (hy : 0 ≤ y ∧ y ≤ 255) (e : x = y.toInt8.toInt32) (k : Nat) : cs x k = cs y k := by
  rcases b8 hy with q | ⟨q1, q2⟩
  · rw [e, q]
  · rw [cs_n (Or.inl (by rw [e]; exact q1)), cs_n (Or.inr q2)]
/-- where a sign of a right text stands, class and reference hold the same number -/
theorem cs_same {x y : Int32} (hy : 0 ≤ y ∧ y ≤ 255) (e : x = y.toInt8.toInt32) {k : Nat} (c : cs y k = true) : x = y := by
  rcases b8 hy with q | ⟨q1, q2⟩
  · rw [e, q]
  · rw [cs_n (Or.inr q2)] at c
    exact absurd c (by decide)
theorem L_text {h : Hp} {c : Nat} (hc : c ≤ 80) (e4 : gI h 3 0 4 = nI c) (ht : ∀ j, j < c → gI h 18 0 j = (gI h 48 0 j).toInt8.toInt32 ∧ 0 ≤ gI h 48 0 j ∧ gI h 48 0 j ≤ 255) : ∀ (m n1 n2 k : Nat), k + m = c → m < n1 → m < n2 →
    (∃ k', k' ≤ 80 ∧ fL_X3_firstWrong_2 h n1 (nI k) = some (nI k') ∧ ∀ h1, (∀ j, gI h1 48 0 j = gI h 48 0 j) → fL_X8_text_12 n2 (nI c) (nI k) h1 = f_X8_finding (-1000100 - nI k') h1) ∨
    (fL_X3_firstWrong_2 h n1 (nI k) = some (-1) ∧ c % 7 = 0 ∧ (∀ j, k ≤ j → j < c → cs (gI h 48 0 j) j = true) ∧ ∀ h1, (∀ j, gI h1 48 0 j = gI h 48 0 j) → fL_X8_text_12 n2 (nI c) (nI k) h1 = fL_X8_text_66 FU 0 (wI h1 8 0 21 (nI (c / 7)))) := by
  intro m
  induction m with
  | zero =>
    intro n1 n2 k hk h1 h2
    obtain ⟨n1, rfl⟩ : ∃ k, n1 = k + 1 := ⟨n1 - 1, by omega⟩
    obtain ⟨n2, rfl⟩ : ∃ k, n2 = k + 1 := ⟨n2 - 1, by omega⟩
    obtain rfl : k = c := by omega
    have e0 : nI (k % 7) = 0 ↔ k % 7 = 0 := n7 0 (by omega)
    by_cases q : k % 7 = 0
    · refine Or.inr ⟨?_, q, fun j q1 q2 => by omega, fun h1 f48 => ?_⟩
      · rw [fL_X3_firstWrong_2, e4, if_pos (Int32.le_refl _), r7 (by omega), if_pos (e0.mpr q)]
      · rw [fL_X8_text_12, if_pos (Int32.le_refl _), r7 (by omega), if_pos (e0.mpr q), d7 (by omega)]
    · refine Or.inl ⟨k, hc, ?_, fun h1 f48 => ?_⟩
      · rw [fL_X3_firstWrong_2, e4, if_pos (Int32.le_refl _), r7 (by omega), if_neg (fun w => q (e0.mp w))]
      · rw [fL_X8_text_12, if_pos (Int32.le_refl _), r7 (by omega), if_neg (fun w => q (e0.mp w)), fnd_eta]
  | succ m ih =>
    intro n1 n2 k hk h1 h2
    obtain ⟨n1, rfl⟩ : ∃ k, n1 = k + 1 := ⟨n1 - 1, by omega⟩
    obtain ⟨n2, rfl⟩ : ∃ k, n2 = k + 1 := ⟨n2 - 1, by omega⟩
    have nle : ¬ nI c ≤ nI k := fun q => by have := (nIl (by omega) (by omega)).mp q; omega
    have h80 : 0 ≤ nI k ∧ nI k < 80 := nIr (k := 80) (by omega) (by omega)
    have tk := ht k (by omega)
    have EC : fL_X3_firstWrong_2 h (n1 + 1) (nI k) = if cs (gI h 48 0 k) k = true then fL_X3_firstWrong_2 h n1 (nI (k + 1)) else some (nI k) := by
      rw [fL_X3_firstWrong_2, e4, if_neg nle, if_pos h80, nI_clamp (by omega), c_stand _ (by omega), bnd_some, cs_eq tk.2 tk.1, nI_s]
    have EM : ∀ h1, (∀ j, gI h1 48 0 j = gI h 48 0 j) → fL_X8_text_12 (n2 + 1) (nI c) (nI k) h1 = if cs (gI h 48 0 k) k = true then fL_X8_text_12 n2 (nI c) (nI (k + 1)) h1 else f_X8_finding (-1000100 - nI k) h1 := by
      intro h1 f48
      rw [fL_X8_text_12, if_neg nle, m_stand (by omega), bnd_some, f48, nI_s, fnd_eta]
    by_cases q : cs (gI h 48 0 k) k = true
    · rw [EC, if_pos q]
      rcases ih n1 n2 (k + 1) (by omega) (by omega) (by omega) with ⟨k', a1, a2, a3⟩ | ⟨a1, a2, a3, a4⟩
      · refine Or.inl ⟨k', a1, a2, fun h1 f48 => ?_⟩
        rw [EM h1 f48, if_pos q]
        exact a3 h1 f48
      · refine Or.inr ⟨a1, a2, fun j q1 q2 => ?_, fun h1 f48 => ?_⟩
        · by_cases e : j = k
          · rw [e]; exact q
          · exact a3 j (by omega) q2
        · rw [EM h1 f48, if_pos q]
          exact a4 h1 f48
    · refine Or.inl ⟨k, by omega, by rw [EC, if_neg q], fun h1 f48 => by rw [EM h1 f48, if_neg q]⟩
/-- the heap after m rows were read off the text -/
def hR (h : Hp) (a b c : Nat) (f g e : Nat → Int32) : Nat → Hp
  | 0 => h
  | m + 1 => wI (wI (wI (hR h a b c f g e m) a 0 m (f m)) b 0 m (g m)) c 0 m (e m)
theorem hR_I (h : Hp) {a b c : Nat} (f g e : Nat → Int32) (t i k : Nat) (n1 : a ≠ b) (n2 : a ≠ c) (n3 : b ≠ c) : ∀ m, gI (hR h a b c f g e m) t i k = if t = a ∧ i = 0 ∧ k < m then f k else if t = b ∧ i = 0 ∧ k < m then g k else if t = c ∧ i = 0 ∧ k < m then e k else gI h t i k
  | 0 => by
    rw [if_neg (by omega), if_neg (by omega), if_neg (by omega)]
    rfl
  | m + 1 => by
    rw [hR, xI_wI, xI_wI, xI_wI, hR_I h f g e t i k n1 n2 n3 m]
    by_cases q1 : t = c ∧ i = 0 ∧ k = m
    · rw [if_pos q1, if_neg (by omega), if_neg (by omega), if_pos (by omega), q1.2.2]
    · rw [if_neg q1]
      by_cases q2 : t = b ∧ i = 0 ∧ k = m
      · rw [if_pos q2, if_neg (by omega), if_pos (by omega), q2.2.2]
      · rw [if_neg q2]
        by_cases q3 : t = a ∧ i = 0 ∧ k = m
        · rw [if_pos q3, if_pos (by omega), q3.2.2]
        · rw [if_neg q3]
          by_cases w1 : t = a ∧ i = 0 ∧ k < m
          · rw [if_pos w1, if_pos (by omega)]
          · rw [if_neg w1, if_neg (c := t = a ∧ i = 0 ∧ k < m + 1) (by omega)]
            by_cases w2 : t = b ∧ i = 0 ∧ k < m
            · rw [if_pos w2, if_pos (by omega)]
            · rw [if_neg w2, if_neg (c := t = b ∧ i = 0 ∧ k < m + 1) (by omega)]
              by_cases w3 : t = c ∧ i = 0 ∧ k < m
              · rw [if_pos w3, if_pos (by omega)]
              · rw [if_neg w3, if_neg (c := t = c ∧ i = 0 ∧ k < m + 1) (by omega)]
theorem hR_N (h : Hp) (a b c : Nat) (f g e : Nat → Int32) (t : Nat) : ∀ m, gN (hR h a b c f g e m) t = gN h t
  | 0 => rfl
  | m + 1 => by rw [hR, xN_wI, xN_wI, xN_wI, hR_N h a b c f g e t m]
theorem hR_P (h : Hp) (a b c : Nat) (f g e : Nat → Int32) (t i k : Nat) : ∀ m, gP (hR h a b c f g e m) t i k = gP h t i k
  | 0 => rfl
  | m + 1 => by rw [hR, xP_wI, xP_wI, xP_wI, hR_P h a b c f g e t i k m]
/-- two digits of a row of numbers -/
def td (f : Nat → Int32) (k : Nat) : Int32 := ((f k - 48) * 10 + f (k + 1)) - 48
theorem c_two {h : Hp} {k : Nat} (hk : k + 1 < 80) : f_X3_twoDigits (nI k) h = some (td (fun j => gI h 18 0 j) k) := by
  unfold f_X3_twoDigits td
  have a1 : 0 ≤ nI k ∧ nI k < 80 := nIr (k := 80) (by omega) (by omega)
  have a2 : 0 ≤ nI (k + 1) ∧ nI (k + 1) < 80 := nIr (k := 80) (by omega) (by omega)
  rw [if_neg (Int32.not_lt.mpr a1.1), nI_s, if_pos a2.2, if_pos a1, if_pos a2, nI_clamp (by omega), nI_clamp (by omega)]
theorem m_two {h : Hp} {k : Nat} (hk : k + 1 < 80) : f_X8_twoDigits (nI k) h = some (td (fun j => gI h 48 0 j) k) := by
  unfold f_X8_twoDigits td
  have a1 : 0 ≤ nI k ∧ nI k < 80 := nIr (k := 80) (by omega) (by omega)
  have a2 : 0 ≤ nI (k + 1) ∧ nI (k + 1) < 80 := nIr (k := 80) (by omega) (by omega)
  rw [nI_s, if_pos a1, if_pos a2, nI_clamp (by omega), nI_clamp (by omega), Int32.mul_comm]
def rK (f : Nat → Int32) (r : Nat) : Int32 := kd (f (7 * r))
def rLn (f : Nat → Int32) (r : Nat) : Int32 := td f (7 * r + 1)
def rPr (f : Nat → Int32) (r : Nat) : Int32 := td f (7 * r + 4)
theorem L_rowsC {h : Hp} {f : Nat → Int32} {n : Nat} (hn : n ≤ 8) (e5 : gI h 3 0 5 = nI n) (e18 : ∀ j, gI h 18 0 j = f j) : ∀ (m N r : Nat), r + m = n → m < N → fL_X3_takeText_34 N (nI r) (hR h 19 20 21 (rK f) (rLn f) (rPr f) r) = some (nI n, hR h 19 20 21 (rK f) (rLn f) (rPr f) n) := by
  have e5' : ∀ r, gI (hR h 19 20 21 (rK f) (rLn f) (rPr f) r) 3 0 5 = nI n := fun r => by rw [hR_I _ _ _ _ _ _ _ (by decide) (by decide) (by decide), if_neg (by omega), if_neg (by omega), if_neg (by omega), e5]
  have e18' : ∀ r j, gI (hR h 19 20 21 (rK f) (rLn f) (rPr f) r) 18 0 j = f j := fun r j => by rw [hR_I _ _ _ _ _ _ _ (by decide) (by decide) (by decide), if_neg (by omega), if_neg (by omega), if_neg (by omega), e18]
  intro m
  induction m with
  | zero =>
    intro N r hr hN
    obtain ⟨N, rfl⟩ : ∃ k, N = k + 1 := ⟨N - 1, by omega⟩
    obtain rfl : r = n := by omega
    rw [fL_X3_takeText_34, e5', if_pos (Int32.le_refl _)]
  | succ m ih =>
    intro N r hr hN
    obtain ⟨N, rfl⟩ : ∃ k, N = k + 1 := ⟨N - 1, by omega⟩
    have a1 : 0 ≤ nI (7 * r) ∧ nI (7 * r) < 80 := nIr (k := 80) (by omega) (by omega)
    have a2 : 0 ≤ nI r ∧ nI r < 8 := nIr (k := 8) (by omega) (by omega)
    have m7 : nI r * 7 = nI (7 * r) := by rw [nq7, pk_mul, Nat.mul_comm]
    have p1 : nI (7 * r) + 1 = nI (7 * r + 1) := nI_s _
    have p4 : nI (7 * r) + 4 = nI (7 * r + 4) := nI_add _ 4
    have w1 : ∀ v, (fun j => gI (wI (hR h 19 20 21 (rK f) (rLn f) (rPr f) r) 19 0 r v) 18 0 j) = f := fun v => by
      funext j
      rw [xI_wI, if_neg (by omega), e18']
    have w2 : ∀ v v2, (fun j => gI (wI (wI (hR h 19 20 21 (rK f) (rLn f) (rPr f) r) 19 0 r v) 20 0 r v2) 18 0 j) = f := fun v v2 => by
      funext j
      rw [xI_wI, if_neg (by omega), xI_wI, if_neg (by omega), e18']
    rw [fL_X3_takeText_34, e5', if_neg (fun q => by have := (nIl (by omega) (by omega)).mp q; omega), if_neg (Int32.not_le.mpr a2.2), m7, if_pos a1, nI_clamp (n := 7 * r) (by omega), c_kind, bnd_some, if_pos a2, nI_clamp (n := r) (by omega), p1, p4, c_two (by omega), bnd_some, if_pos a2, c_two (by omega), bnd_some, if_pos a2, nI_s, w1, w2, e18']
    exact ih N (r + 1) (by omega) (by omega)
theorem L_rowsM {h : Hp} {f : Nat → Int32} {n : Nat} (hn : n ≤ 8) (e5 : gI h 8 0 21 = nI n) (e18 : ∀ j, gI h 48 0 j = f j) : ∀ (m N r : Nat), r + m = n → m < N → fL_X8_text_66 N (nI r) (hR h 45 46 47 (rK f) (rLn f) (rPr f) r) = some (nI n, hR h 45 46 47 (rK f) (rLn f) (rPr f) n) := by
  have e5' : ∀ r, gI (hR h 45 46 47 (rK f) (rLn f) (rPr f) r) 8 0 21 = nI n := fun r => by rw [hR_I _ _ _ _ _ _ _ (by decide) (by decide) (by decide), if_neg (by omega), if_neg (by omega), if_neg (by omega), e5]
  have e18' : ∀ r j, gI (hR h 45 46 47 (rK f) (rLn f) (rPr f) r) 48 0 j = f j := fun r j => by rw [hR_I _ _ _ _ _ _ _ (by decide) (by decide) (by decide), if_neg (by omega), if_neg (by omega), if_neg (by omega), e18]
  intro m
  induction m with
  | zero =>
    intro N r hr hN
    obtain ⟨N, rfl⟩ : ∃ k, N = k + 1 := ⟨N - 1, by omega⟩
    obtain rfl : r = n := by omega
    rw [fL_X8_text_66, e5', if_pos (Int32.le_refl _)]
  | succ m ih =>
    intro N r hr hN
    obtain ⟨N, rfl⟩ : ∃ k, N = k + 1 := ⟨N - 1, by omega⟩
    have a1 : 0 ≤ nI (7 * r) ∧ nI (7 * r) < 80 := nIr (k := 80) (by omega) (by omega)
    have a2 : 0 ≤ nI r ∧ nI r < 8 := nIr (k := 8) (by omega) (by omega)
    have m7 : 7 * nI r = nI (7 * r) := by rw [nq7, pk_mul]
    have p1 : nI (7 * r) + 1 = nI (7 * r + 1) := nI_s _
    have p4 : nI (7 * r) + 4 = nI (7 * r + 4) := nI_add _ 4
    have w1 : ∀ v, (fun j => gI (wI (hR h 45 46 47 (rK f) (rLn f) (rPr f) r) 45 0 r v) 48 0 j) = f := fun v => by
      funext j
      rw [xI_wI, if_neg (by omega), e18']
    have w2 : ∀ v v2, (fun j => gI (wI (wI (hR h 45 46 47 (rK f) (rLn f) (rPr f) r) 45 0 r v) 46 0 r v2) 48 0 j) = f := fun v v2 => by
      funext j
      rw [xI_wI, if_neg (by omega), xI_wI, if_neg (by omega), e18']
    rw [fL_X8_text_66, e5', if_neg (fun q => by have := (nIl (by omega) (by omega)).mp q; omega), m7, if_pos a1, nI_clamp (n := 7 * r) (by omega), m_kind, bnd_some, if_pos a2, nI_clamp (n := r) (by omega), p1, p4, m_two (by omega), bnd_some, if_pos a2, m_two (by omega), bnd_some, if_pos a2, nI_s, w1, w2, e18']
    exact ih N (r + 1) (by omega) (by omega)
theorem td_b {f : Nat → Int32} {k : Nat} (h1 : 48 ≤ f k ∧ f k ≤ 57) (h2 : 48 ≤ f (k + 1) ∧ f (k + 1) ≤ 57) : 0 ≤ td f k ∧ td f k ≤ 99 := by
  unfold td
  generalize f k = a at *
  generalize f (k + 1) = b at *
  obtain ⟨i, hi, rfl⟩ := ofR (x := a) (n := 58) (by decide) (Int32.le_trans (by decide) h1.1) (Int32.lt_of_le_of_lt h1.2 (by decide))
  obtain ⟨j, hj, rfl⟩ := ofR (x := b) (n := 58) (by decide) (Int32.le_trans (by decide) h2.1) (Int32.lt_of_le_of_lt h2.2 (by decide))
  have q1 : 48 ≤ i := (nIl (n := 48) (by omega) (by omega)).mp h1.1
  have q2 : 48 ≤ j := (nIl (n := 48) (by omega) (by omega)).mp h2.1
  have e : (nI i - 48) * 10 + nI j - 48 = nI ((i - 48) * 10 + (j - 48)) := by
    rw [nq48, nq10, nI_sub q1, pk_mul, nI_add, nI_sub (by omega)]
    congr 1
    omega
  rw [e]
  exact ⟨(nIr (n := (i - 48) * 10 + (j - 48)) (k := 1000) (by omega) (by omega)).1, (nIl (k := 99) (by omega) (by omega)).mpr (by omega)⟩
theorem cs_dig {x : Int32} {k : Nat} (c : cs x k = true) (h0 : k % 7 ≠ 0) (h3 : k % 7 ≠ 3) (h6 : k % 7 ≠ 6) : 48 ≤ x ∧ x ≤ 57 := by
  unfold cs at c
  rw [if_neg h0, if_neg h3, if_neg h6] at c
  exact of_decide_eq_true c
theorem cs_knd {x : Int32} {k : Nat} (c : cs x k = true) (h0 : k % 7 = 0) : (0 ≤ kd x ∧ kd x ≤ 3) ∧ k < 56 := by
  unfold cs at c
  rw [if_pos h0] at c
  have := of_decide_eq_true c
  refine ⟨?_, this.2⟩
  rcases kd_b x with q | q
  · rw [q] at this
    exact absurd this.1 (by decide)
  · exact q
theorem hR_eq (h : Hp) (a b c : Nat) {f g e f' g' e' : Nat → Int32} : ∀ m, (∀ r, r < m → f r = f' r ∧ g r = g' r ∧ e r = e' r) → hR h a b c f g e m = hR h a b c f' g' e' m
  | 0, _ => rfl
  | m + 1, hh => by
    rw [hR, hR, hR_eq h a b c m (fun r hr => hh r (by omega)), (hh m (by omega)).1, (hh m (by omega)).2.1, (hh m (by omega)).2.2]
theorem tA_v1 {k' : Nat} (a1 : k' ≤ 80) : (-1000100 - nI k' : Int32) < -1000000 := by
  have : ∀ j : Fin 81, (-1000100 - nI j.val : Int32) < -1000000 := by decide +kernel
  exact this ⟨k', by omega⟩
theorem tA_R1 {h : Hp} (R : Rel h) : Rel (wI (wI h 3 0 4 0) 8 0 26 0) := by
  refine R.tap (fun _ => rfl) (fun _ _ _ => rfl) ?_ ?_ ?_ ?_
  · intro t t1 t2 t3 t4 b c
    rw [xI_wI, if_neg (fun q => t2 q.1), xI_wI, if_neg (fun q => t1 q.1)]
  · rw [xI_wI, if_neg (by omega), xI_wI, if_neg (by omega)]
  · intro c hc2
    rw [xI_wI, if_neg (by omega), xI_wI, if_neg (by omega)]
  · refine ⟨?_, 0, by omega, ?_, fun j hj => by omega⟩
    · rw [xI_wI, if_neg (by omega), xI_wI, if_pos ⟨rfl, rfl, rfl⟩, xI_wI, if_pos ⟨rfl, rfl, rfl⟩]
    · rw [xI_wI, if_pos ⟨rfl, rfl, rfl⟩]
      rfl
theorem tA_g (h : Hp) (v w : Int32) : ∀ t, t ≠ 3 → t ≠ 8 → t ≠ 7 → ∀ i k, gI (wI (wI (wI h 3 0 4 0) 8 0 26 v) 7 0 5 w) t i k = gI h t i k := by
  intro t t1 t2 t3 i k
  rw [xI_wI, if_neg (fun q => t3 q.1), xI_wI, if_neg (fun q => t2 q.1), xI_wI, if_neg (fun q => t1 q.1)]
theorem tA_cm (h : Hp) : wI (hcF (wI h 3 0 4 0)) 8 0 26 0 = hcF (wI (wI h 3 0 4 0) 8 0 26 0) := by
  have e1 : gI (wI h 3 0 4 0) 7 0 5 = gI h 7 0 5 := by rw [xI_wI, if_neg (by omega)]
  have e2 : gI (wI (wI h 3 0 4 0) 8 0 26 0) 7 0 5 = gI h 7 0 5 := by rw [xI_wI, if_neg (by omega), e1]
  unfold hcF
  rw [e1, e2, wI_comm _ _ _ (by omega)]
theorem tA_EC {h : Hp} {k' : Nat} {v : Int32} (v0 : ¬ nI k' < 0) (v1 : v < -1000000) (hv : (-1000100 - nI k' : Int32) = v) (a2 : f_X3_firstWrong h = some (nI k')) : f_X7_text h = some (v, hcF (wI h 3 0 4 0)) := by
  have : f_X3_takeText h = some (v, wI h 3 0 4 0) := by
    unfold f_X3_takeText
    rw [a2, bnd_some, if_neg v0, hv]
  unfold f_X7_text
  rw [this, bnd_some, c_find v1, bnd_some]
theorem tA_EM {h : Hp} {c : Nat} {v : Int32} (ec : gI h 8 0 26 = nI c) (a3 : ∀ h1, (∀ j, gI h1 48 0 j = gI h 48 0 j) → fL_X8_text_12 FU (nI c) 0 h1 = f_X8_finding v h1) : f_X8_text (hcF (wI h 3 0 4 0)) = f_X8_finding v (hcF (wI (wI h 3 0 4 0) 8 0 26 0)) := by
  have e26 : gI (hcF (wI h 3 0 4 0)) 8 0 26 = nI c := by
    unfold hcF
    rw [xI_wI, if_neg (by omega), xI_wI, if_neg (by omega)]
    exact ec
  have g := tA_g h 0 (gI (wI (wI h 3 0 4 0) 8 0 26 0) 7 0 5 + 1)
  unfold f_X8_text
  rw [e26, tA_cm h]
  exact a3 _ (fun j => g 48 (by decide) (by decide) (by decide) 0 j)
theorem text_A {h : Hp} (R : Rel h) {c k' : Nat} (ec : gI h 8 0 26 = nI c) (a1 : k' ≤ 80) (a2 : f_X3_firstWrong h = some (nI k')) (a3 : ∀ h1, (∀ j, gI h1 48 0 j = gI h 48 0 j) → fL_X8_text_12 FU (nI c) 0 h1 = f_X8_finding (-1000100 - nI k') h1) : Pm h f_X7_text f_X8_text := by
  have v0 : ¬ nI k' < 0 := Int32.not_lt.mpr (nIr (n := k') (k := 100) (by omega) (by omega)).1
  have EC := tA_EC v0 (tA_v1 a1) rfl a2
  have EM := tA_EM ec a3
  have R2 := (tA_R1 R).fd
  have g := tA_g h 0 (gI (wI (wI h 3 0 4 0) 8 0 26 0) 7 0 5 + 1)
  generalize (-1000100 - nI k' : Int32) = v at EC EM
  refine ⟨v, _, _, EC, EM, R2, Gr.same ?_ ?_⟩
  · intro i
    rw [xI_wI, if_neg (by omega)]
    exact g 41 (by decide) (by decide) (by decide) 0 i
  · intro i
    rw [xI_wI, if_neg (by omega)]
    exact g 42 (by decide) (by decide) (by decide) 0 i
theorem text_B {h : Hp} (R : Rel h) {c : Nat} (hc : c ≤ 80) (ec : gI h 8 0 26 = nI c) (e4 : gI h 3 0 4 = nI c) (ht : ∀ j, j < c → gI h 18 0 j = (gI h 48 0 j).toInt8.toInt32 ∧ 0 ≤ gI h 48 0 j ∧ gI h 48 0 j ≤ 255) (a1 : f_X3_firstWrong h = some (-1)) (a2 : c % 7 = 0) (a3 : ∀ j, 0 ≤ j → j < c → cs (gI h 48 0 j) j = true) (a4 : ∀ h1, (∀ j, gI h1 48 0 j = gI h 48 0 j) → fL_X8_text_12 FU (nI c) 0 h1 = fL_X8_text_66 FU 0 (wI h1 8 0 21 (nI (c / 7)))) : Pm h f_X7_text f_X8_text := by
  have c56 : c ≤ 56 := by
    apply Classical.byContradiction
    intro q
    have := (cs_knd (a3 56 (by omega) (by omega)) (by omega)).2
    omega
  obtain ⟨n, rfl⟩ : ∃ n, c = 7 * n := ⟨c / 7, by omega⟩
  have n8 : n ≤ 8 := by omega
  have dn : 7 * n / 7 = n := by omega
  rw [dn] at a4
  have hc0 : wI (wI h 3 0 4 0) 3 0 5 (nI (7 * n) / 7) = wI (wI h 3 0 4 0) 3 0 5 (nI n) := by rw [d7 (by omega), dn]
  have LC := L_rowsC (h := wI (wI h 3 0 4 0) 3 0 5 (nI n)) (f := fun j => gI h 18 0 j) (n := n) n8 (by rw [xI_wI, if_pos ⟨rfl, rfl, rfl⟩]) (fun j => by rw [xI_wI, if_neg (by omega), xI_wI, if_neg (by omega)]) n FU 0 (by omega) (FUb (by omega))
  obtain ⟨h1, eh1⟩ : ∃ h1, h1 = hR (wI (wI h 3 0 4 0) 3 0 5 (nI n)) 19 20 21 (rK (fun j => gI h 18 0 j)) (rLn (fun j => gI h 18 0 j)) (rPr (fun j => gI h 18 0 j)) n := ⟨_, rfl⟩
  rw [← eh1] at LC
  have h1I : ∀ t, t ≠ 19 → t ≠ 20 → t ≠ 21 → t ≠ 3 → ∀ b c, gI h1 t b c = gI h t b c := by
    intro t t1 t2 t3 t4 b c
    rw [eh1, hR_I _ _ _ _ _ _ _ (by decide) (by decide) (by decide), if_neg (fun q => t1 q.1), if_neg (fun q => t2 q.1), if_neg (fun q => t3 q.1), xI_wI, if_neg (fun q => t4 q.1), xI_wI, if_neg (fun q => t4 q.1)]
  have LM := L_rowsM (h := wI (wI h1 8 0 26 0) 8 0 21 (nI n)) (f := fun j => gI h 48 0 j) (n := n) n8 (by rw [xI_wI, if_pos ⟨rfl, rfl, rfl⟩]) (fun j => by rw [xI_wI, if_neg (by omega), xI_wI, if_neg (by omega), h1I 48 (by decide) (by decide) (by decide) (by decide)]) n FU 0 (by omega) (FUb (by omega))
  obtain ⟨h2, eh2⟩ : ∃ h2, h2 = hR (wI (wI h1 8 0 26 0) 8 0 21 (nI n)) 45 46 47 (rK (fun j => gI h 48 0 j)) (rLn (fun j => gI h 48 0 j)) (rPr (fun j => gI h 48 0 j)) n := ⟨_, rfl⟩
  rw [← eh2] at LM
  have h2I : ∀ t, t ≠ 45 → t ≠ 46 → t ≠ 47 → t ≠ 8 → ∀ b c, gI h2 t b c = gI h1 t b c := by
    intro t t1 t2 t3 t4 b c
    rw [eh2, hR_I _ _ _ _ _ _ _ (by decide) (by decide) (by decide), if_neg (fun q => t1 q.1), if_neg (fun q => t2 q.1), if_neg (fun q => t3 q.1), xI_wI, if_neg (fun q => t4 q.1), xI_wI, if_neg (fun q => t4 q.1)]
  have h28 : ∀ c, gI h2 8 0 c = if c = 21 then nI n else if c = 26 then 0 else gI h 8 0 c := by
    intro c
    rw [eh2, hR_I _ _ _ _ _ _ _ (by decide) (by decide) (by decide), if_neg (by omega), if_neg (by omega), if_neg (by omega), xI_wI, xI_wI, h1I 8 (by decide) (by decide) (by decide) (by decide)]
    simp
  have g3 : ∀ c, gI h2 3 0 c = if c = 5 then nI n else if c = 4 then 0 else gI h 3 0 c := by
    intro c
    rw [h2I 3 (by decide) (by decide) (by decide) (by decide)]
    rw [eh1, hR_I _ _ _ _ _ _ _ (by decide) (by decide) (by decide), if_neg (by omega), if_neg (by omega), if_neg (by omega), xI_wI, xI_wI]
    simp
  have same : ∀ j, j < 7 * n → gI h 18 0 j = gI h 48 0 j := fun j hj => cs_same (ht j hj).2 (ht j hj).1 (a3 j (by omega) hj)
  have hv : ¬ nI n < -1000000 := fun q => absurd (Int32.lt_of_le_of_lt (nIr (n := n) (k := 100) (by omega) (by omega)).1 q) (by decide)
  refine Pm.mk (v := nI n) (h1 := h1) (h2 := h2) ?_ ?_ ?_ ?_ ?_
  · simp only [f_X7_text, f_X3_takeText, a1, bnd_some, if_pos (show (-1 : Int32) < 0 by decide), e4, hc0]
    have LC' : fL_X3_takeText_34 FU 0 (wI (wI h 3 0 4 0) 3 0 5 (nI n)) = some (nI n, h1) := LC
    rw [LC', bnd_some]
    simp only [c_same hv, bnd_some]
  · have e26 : gI h1 8 0 26 = nI (7 * n) := (h1I 8 (by decide) (by decide) (by decide) (by decide) 0 26).trans ec
    unfold f_X8_text
    rw [e26]
    refine (a4 (wI h1 8 0 26 0) (fun j => ?_)).trans LM
    rw [xI_wI, if_neg (by omega), h1I 48 (by decide) (by decide) (by decide) (by decide)]
  · refine R.due2 ?_ ?_ ?_ ?_ ?_ ?_
    · intro a
      rw [eh2, hR_N, xN_wI, xN_wI, eh1, hR_N, xN_wI, xN_wI]
    · intro a b c
      rw [eh2, hR_P, xP_wI, xP_wI, eh1, hR_P, xP_wI, xP_wI]
    · intro t t3 t8 t18 t19 t20 t21 t45 t46 t47 t48 b c
      rw [h2I t t45 t46 t47 t8, h1I t t19 t20 t21 t3]
    · intro c c1 c2
      rw [h28, if_neg c1, if_neg c2]
    · refine ⟨?_, n, n8, ?_, fun r hr => ?_⟩
      · rw [g3, h28, if_pos rfl, if_pos rfl]
      · rw [h28, if_pos rfl]
      · have x19 : gI h2 19 0 r = rK (fun j => gI h 48 0 j) r := by
          rw [h2I 19 (by decide) (by decide) (by decide) (by decide)]
          rw [eh1, hR_I _ _ _ _ _ _ _ (by decide) (by decide) (by decide), if_pos ⟨rfl, rfl, hr⟩]
          unfold rK
          simp only []
          rw [same _ (by omega)]
        have x20 : gI h2 20 0 r = rLn (fun j => gI h 48 0 j) r := by
          rw [h2I 20 (by decide) (by decide) (by decide) (by decide)]
          rw [eh1, hR_I _ _ _ _ _ _ _ (by decide) (by decide) (by decide), if_neg (by omega), if_pos ⟨rfl, rfl, hr⟩]
          unfold rLn td
          simp only []
          rw [same _ (by omega), same _ (by omega)]
        have x21 : gI h2 21 0 r = rPr (fun j => gI h 48 0 j) r := by
          rw [h2I 21 (by decide) (by decide) (by decide) (by decide)]
          rw [eh1, hR_I _ _ _ _ _ _ _ (by decide) (by decide) (by decide), if_neg (by omega), if_neg (by omega), if_pos ⟨rfl, rfl, hr⟩]
          unfold rPr td
          simp only []
          rw [same _ (by omega), same _ (by omega)]
        have x45 : gI h2 45 0 r = rK (fun j => gI h 48 0 j) r := by
          rw [eh2, hR_I _ _ _ _ _ _ _ (by decide) (by decide) (by decide), if_pos ⟨rfl, rfl, hr⟩]
        have x46 : gI h2 46 0 r = rLn (fun j => gI h 48 0 j) r := by
          rw [eh2, hR_I _ _ _ _ _ _ _ (by decide) (by decide) (by decide), if_neg (by omega), if_pos ⟨rfl, rfl, hr⟩]
        have x47 : gI h2 47 0 r = rPr (fun j => gI h 48 0 j) r := by
          rw [eh2, hR_I _ _ _ _ _ _ _ (by decide) (by decide) (by decide), if_neg (by omega), if_neg (by omega), if_pos ⟨rfl, rfl, hr⟩]
        simp only [x19, x20, x21, x45, x46, x47]
        have D : ∀ k, k < 7 * n → k % 7 ≠ 0 → k % 7 ≠ 3 → k % 7 ≠ 6 → 48 ≤ gI h 48 0 k ∧ gI h 48 0 k ≤ 57 := fun k hk k0 k3 k6 => cs_dig (a3 k (by omega) hk) k0 k3 k6
        exact ⟨trivial, trivial, trivial, (cs_knd (a3 (7 * r) (by omega) (by omega)) (by omega)).1, td_b (D _ (by omega) (by omega) (by omega) (by omega)) (D _ (by omega) (by omega) (by omega) (by omega)), td_b (D _ (by omega) (by omega) (by omega) (by omega)) (D _ (by omega) (by omega) (by omega) (by omega))⟩
    · refine ⟨?_, 0, by omega, ?_, fun j hj => by omega⟩
      · rw [g3, h28]
        rfl
      · rw [h28]
        rfl
  · intro i
    rw [h2I 41 (by decide) (by decide) (by decide) (by decide), h1I 41 (by decide) (by decide) (by decide) (by decide)]
  · intro i
    rw [h2I 42 (by decide) (by decide) (by decide) (by decide), h1I 42 (by decide) (by decide) (by decide) (by decide)]
theorem p_text {h : Hp} (R : Rel h) : Pm h f_X7_text f_X8_text := by
  obtain ⟨en, c, hc, ec, ht⟩ := R.2.2.2.2.2.2.1
  simp only at ht
  have e4 : gI h 3 0 4 = nI c := en.trans ec
  rcases L_text hc e4 ht c FU FU 0 (by omega) (FUb (by omega)) (FUb (by omega)) with ⟨k', a1, a2, a3⟩ | ⟨a1, a2, a3, a4⟩
  · exact text_A R ec a1 a2 a3
  · exact text_B R hc ec e4 ht a1 a2 a3 a4
