/-! ===== offer ===== -/
def myS (h : Hp) (b i : Nat) (j : Nat) : Int32 := atS h (nI b) (fun j => mvv h 0 j i) j
theorem ac1 (a A B : Int32) : a + 1 + (A - (B + 1)) = a + (A - B) := by grind
theorem ac2 (a A B v : Int32) : a + v + (A - (B + v)) = a + (A - B) := by grind
theorem L_my {h : Hp} (R : Rel h) {b i : Nat} (hi : i < gN h 1) : ∀ (m n j : Nat) (acc : Int32), j + m = 8 → m < n → fL_X5_countMaybeAt_16 h n (nI b) i acc 8 (nI j) = some (acc + (sm (myS h b i) 8 - sm (myS h b i) j)) := by
  have hbi := R.boa hi
  intro m
  induction m with
  | zero =>
    intro n j acc hj hn
    obtain ⟨n, rfl⟩ : ∃ k, n = k + 1 := ⟨n - 1, by omega⟩
    obtain rfl : j = 8 := by omega
    rw [fL_X5_countMaybeAt_16, if_pos (by decide), Int32.sub_self, Int32.add_zero]
  | succ m ih =>
    intro n j acc hj hn
    obtain ⟨n, rfl⟩ : ∃ k, n = k + 1 := ⟨n - 1, by omega⟩
    have e1 : sm (myS h b i) (j + 1) = sm (myS h b i) j + myS h b i j := rfl
    have i1 := fun acc => ih n (j + 1) acc (by omega) (by omega)
    have hS := R.boA j (by omega)
    have hc : (nI j).toNatClampNeg = j := nI_clamp (by omega)
    have h8 : ¬ (8 : Int32) ≤ nI j := fun q => by have := (nIl (n := 8) (by omega) (by omega)).mp q; omega
    have h0 : 0 ≤ nI j ∧ nI j < 8 := nIr (k := 8) (by omega) (by omega)
    have g0 : myS h b i j = 0 → fL_X5_countMaybeAt_16 h n (nI b) i acc 8 (nI (j + 1)) = some (acc + (sm (myS h b i) 8 - sm (myS h b i) j)) := by
      intro q
      rw [i1, e1, q, Int32.add_zero]
    have g1 : myS h b i j = 1 → fL_X5_countMaybeAt_16 h n (nI b) i (acc + 1) 8 (nI (j + 1)) = some (acc + (sm (myS h b i) 8 - sm (myS h b i) j)) := by
      intro q
      rw [i1, e1, q, ac1]
    rw [fL_X5_countMaybeAt_16, if_neg h8, if_pos h0, hc, hS, nI_s]
    by_cases hjt : j < gN h 1
    · have hbj := R.boa hjt
      rw [if_pos hjt]
      simp only []
      by_cases q : gI h 1 j 8 = nI b
      · have ev : myS h b i j = mvv h 0 j i := if_pos ⟨hjt, q⟩
        have em : mvv h 0 j i = if gI h 39 0 i ≤ gI h 38 0 j then 0 else 1 := if_pos rfl
        rw [if_pos q, f_X1_movesMaybe, hbi.2.2.2.2.2.2.1, hbj.2.2.2.2.2.1]
        by_cases q2 : gI h 39 0 i ≤ gI h 38 0 j
        · rw [if_pos q2]
          exact g0 (ev.trans (em.trans (if_pos q2)))
        · rw [if_neg q2]
          exact g1 (ev.trans (em.trans (if_neg q2)))
      · rw [if_neg q]
        exact g0 (if_neg (fun q2 => q q2.2))
    · rw [if_neg hjt]
      exact g0 (if_neg (fun q => hjt q.1))
/-- how many boats of a berth a comer would have to move maybe -/
def myP (h : Hp) (b i : Nat) : Nat → Int32 := sm (fun k => mvv h 0 (rwA h b k) i)
theorem e_my {h : Hp} (R : Rel h) {b i : Nat} (hb : b < gN h 0) (hi : i < gN h 1) : f_X5_countMaybeAt (nI b) i h = some (myP h b i (cnA h b)) := by
  unfold f_X5_countMaybeAt
  refine (L_my R hi 8 FU 0 0 (by omega) (FUb (by omega))).trans ?_
  have e0 : sm (myS h b i) 0 = 0 := rfl
  have e1 : sm (myS h b i) 8 = myP h b i (cnA h b) := reidx R hb _
  rw [e0, e1, z_add]
theorem myP_b (h : Hp) (b i k : Nat) (hk : k ≤ 6) : ∃ t, t ≤ 6 ∧ myP h b i k = nI t := by
  obtain ⟨t, ht, e⟩ := sm_b (f := fun k => mvv h 0 (rwA h b k) i) (c := 1) k (fun _ _ => mvv_b h 0 _ _)
  exact ⟨t, by omega, e⟩
theorem L_of52 {h h1 : Hp} (R : Rel h) (H : h1 = h ∨ h1 = hcF h) (c37 : Int32 → Int32 → Int32 → Int32 → Hp → Option (Int32 × Hp)) {b i : Nat} (hb : b < gN h 0) (hi : i < gN h 1) (x2 x3 : Int32) : ∀ (m n k : Nat) (acc : Int32), k + m = cnA h b → m < n →
    fL_X8_offer_52 c37 n (nI i) x2 x3 (nI b) acc (nI k) h1 = fL_X8_offer_52 c37 1 (nI i) x2 x3 (nI b) (acc + (myP h b i (cnA h b) - myP h b i k)) (nI (cnA h b)) h1 := by
  obtain ⟨⟨hB, hT⟩, hcn, hr, hp⟩ := R.pos
  obtain ⟨c6, e43, -⟩ := hcn b hb
  have h4 : 0 ≤ nI b ∧ nI b < 4 := nIr (k := 4) (by omega) (by omega)
  have cb : (nI b).toNatClampNeg = b := nI_clamp (by omega)
  have i8 : 0 ≤ nI i ∧ nI i < 8 := nIr (k := 8) (by omega) (by omega)
  have ci : (nI i).toNatClampNeg = i := nI_clamp (by omega)
  have f43 : gI h1 43 0 b = nI (cnA h b) := by rcases H with rfl | rfl <;> exact e43
  have f44 : ∀ k, gI h1 44 0 k = gI h 44 0 k := fun k => by rcases H with rfl | rfl <;> rfl
  have f38 : ∀ k, gI h1 38 0 k = gI h 38 0 k := fun k => by rcases H with rfl | rfl <;> rfl
  have f39 : ∀ k, gI h1 39 0 k = gI h 39 0 k := fun k => by rcases H with rfl | rfl <;> rfl
  intro m
  induction m with
  | zero =>
    intro n k acc hk hn
    obtain ⟨n, rfl⟩ : ∃ k, n = k + 1 := ⟨n - 1, by omega⟩
    obtain rfl : k = cnA h b := by omega
    rw [Int32.sub_self, Int32.add_zero, fL_X8_offer_52, fL_X8_offer_52]
    simp only [h4, and_self, if_true, cb, f43, if_pos (Int32.le_refl (nI (cnA h b)))]
  | succ m ih =>
    intro n k acc hk hn
    obtain ⟨n, rfl⟩ : ∃ k, n = k + 1 := ⟨n - 1, by omega⟩
    have hq := hr b k hb (by omega)
    have i1 := fun acc => ih n (k + 1) acc (by omega) (by omega)
    have a1 : 0 ≤ nI (6 * b + k) ∧ nI (6 * b + k) < 24 := nIr (k := 24) (by omega) (by omega)
    have a3 : 0 ≤ nI (rwA h b k) ∧ nI (rwA h b k) < 8 := nIr (k := 8) (by omega) (by omega)
    have c1 : (nI (6 * b + k)).toNatClampNeg = 6 * b + k := nI_clamp (by omega)
    have c3 : (nI (rwA h b k)).toNatClampNeg = rwA h b k := nI_clamp (by omega)
    have e1 : myP h b i (k + 1) = myP h b i k + mvv h 0 (rwA h b k) i := rfl
    have em : mvv h 0 (rwA h b k) i = if gI h 39 0 i ≤ gI h 38 0 (rwA h b k) then 0 else 1 := if_pos rfl
    rw [fL_X8_offer_52, if_pos h4, cb, f43, if_neg (fun q => by have := (nIl (by omega) (by omega)).mp q; omega), i6, if_pos a1, c1, f44, hq.2.1, f_X8_movesMaybe, if_pos a3, if_pos i8, c3, ci, f38, f39, nI_s]
    by_cases q : gI h 39 0 i ≤ gI h 38 0 (rwA h b k)
    · rw [if_pos q, bnd_some, if_neg (by decide), i1, e1, em, if_pos q, ac2]
    · rw [if_neg q, bnd_some, if_pos rfl, i1, e1, em, if_neg q, ac2]
theorem L_offer {h : Hp} (R : Rel h) {i : Nat} (hi : i < gN h 1) (hl : gI h 1 i 8 = -1) : ∀ (m n1 n2 b : Nat) (bC fC bM fM : Int32), b + m = gN h 0 → m < n1 → m < n2 →
    ((bC = -1000004 ∧ fC = 8 ∧ bM = -1) ∨ (∃ b0 f0, b0 < 4 ∧ f0 ≤ 6 ∧ bC = nI b0 ∧ bM = nI b0 ∧ fC = nI f0 ∧ fM = nI f0)) →
    ∃ v, fL_X5_bestBerth_33 h n1 (nI i) i bC fC (nI b) = some v ∧ ((v = -1000004 ∧ fL_X8_offer_37 n2 (nI i) bM fM (nI b) (hcF h) = f_X8_finding (-1000004) (hcF h)) ∨ (∃ b0, b0 < 4 ∧ v = nI b0 ∧ fL_X8_offer_37 n2 (nI i) bM fM (nI b) h = some (v, h))) := by
  obtain ⟨⟨hB, hT⟩, hcn, hr, hp⟩ := R.pos
  have e52 : gI h 5 0 2 = nI (gN h 0) := R.1.2.2.2.2.2.1
  have e80 : gI h 8 0 0 = nI (gN h 0) := R.nb
  have e80F : gI (hcF h) 8 0 0 = nI (gN h 0) := R.nb
  intro m
  induction m with
  | zero =>
    intro n1 n2 b bC fC bM fM hb h1 h2 I
    obtain ⟨n1, rfl⟩ : ∃ k, n1 = k + 1 := ⟨n1 - 1, by omega⟩
    obtain ⟨n2, rfl⟩ : ∃ k, n2 = k + 1 := ⟨n2 - 1, by omega⟩
    obtain rfl : b = gN h 0 := by omega
    refine ⟨bC, by rw [fL_X5_bestBerth_33, e52, if_pos (Int32.le_refl _)], ?_⟩
    rcases I with ⟨a1, a2, a3⟩ | ⟨b0, f0, a1, a2, a3, a4, a5, a6⟩
    · refine Or.inl ⟨a1, ?_⟩
      rw [fL_X8_offer_37, e80F, if_pos (Int32.le_refl _), a3, if_neg (by decide), fnd_eta]
    · refine Or.inr ⟨b0, a1, a3, ?_⟩
      rw [fL_X8_offer_37, e80, if_pos (Int32.le_refl _), a4, if_pos (nIr (n := b0) (k := 4) a1 (by omega)).1, a3]
  | succ m ih =>
    intro n1 n2 b bC fC bM fM hb h1 h2 I
    obtain ⟨n1, rfl⟩ : ∃ k, n1 = k + 1 := ⟨n1 - 1, by omega⟩
    obtain ⟨n2, rfl⟩ : ∃ k, n2 = k + 1 := ⟨n2 - 1, by omega⟩
    have hbb : b < gN h 0 := by omega
    have c6 := (hcn b hbb).1
    have nlt : ¬ nI (gN h 0) ≤ nI b := fun q => by have := (nIl (by omega) (by omega)).mp q; omega
    have h4 : 0 ≤ nI b ∧ nI b < 4 := nIr (k := 4) (by omega) (by omega)
    have cb : (nI b).toNatClampNeg = b := nI_clamp (by omega)
    have f43 : gI h 43 0 b = nI (cnA h b) := (hcn b hbb).2.1
    have f43F : gI (hcF h) 43 0 b = nI (cnA h b) := (hcn b hbb).2.1
    obtain ⟨t, ht, et⟩ := myP_b h b i (cnA h b) (by omega)
    have m0 : myP h b i 0 = 0 := rfl
    have A1 := L_of52 R (Or.inl rfl) (fL_X8_offer_37 n2) hbb hi bM fM (cnA h b) FU 0 0 (by omega) (FUb (by omega))
    have A2 := L_of52 R (Or.inr rfl) (fL_X8_offer_37 n2) hbb hi bM fM (cnA h b) FU 0 0 (by omega) (FUb (by omega))
    rw [m0, z_add, et] at A1 A2
    have W1 := m_whyOut R.rm (show i < 8 by omega) hbb
    have W2 := m_whyOut R.rmF (show i < 8 by omega) hbb
    rw [outm_F, cnA_F, wR_F] at W2
    have step : ∀ (bC' fC' bM' fM' : Int32), ((bC' = -1000004 ∧ fC' = 8 ∧ bM' = -1) ∨ (∃ b0 f0, b0 < 4 ∧ f0 ≤ 6 ∧ bC' = nI b0 ∧ bM' = nI b0 ∧ fC' = nI f0 ∧ fM' = nI f0)) →
        fL_X5_bestBerth_33 h (n1 + 1) (nI i) i bC fC (nI b) = fL_X5_bestBerth_33 h n1 (nI i) i bC' fC' (nI (b + 1)) →
        (∀ h1, (h1 = h ∨ h1 = hcF h) → fL_X8_offer_37 (n2 + 1) (nI i) bM fM (nI b) h1 = fL_X8_offer_37 n2 (nI i) bM' fM' (nI (b + 1)) h1) →
        ∃ v, fL_X5_bestBerth_33 h (n1 + 1) (nI i) i bC fC (nI b) = some v ∧ ((v = -1000004 ∧ fL_X8_offer_37 (n2 + 1) (nI i) bM fM (nI b) (hcF h) = f_X8_finding (-1000004) (hcF h)) ∨ (∃ b0, b0 < 4 ∧ v = nI b0 ∧ fL_X8_offer_37 (n2 + 1) (nI i) bM fM (nI b) h = some (v, h))) := by
      intro bC' fC' bM' fM' I' E1 E2
      rw [E1, E2 h (Or.inl rfl), E2 (hcF h) (Or.inr rfl)]
      exact ih n1 n2 (b + 1) bC' fC' bM' fM' (by omega) (by omega) (by omega) I'
    have EC : fL_X5_bestBerth_33 h (n1 + 1) (nI i) i bC fC (nI b) = if fC ≤ nI t then fL_X5_bestBerth_33 h n1 (nI i) i bC fC (nI (b + 1)) else if wR h i b (nI (cnA h b)) (outm h b) = 0 then fL_X5_bestBerth_33 h n1 (nI i) i (nI b) (nI t) (nI (b + 1)) else fL_X5_bestBerth_33 h n1 (nI i) i bC fC (nI (b + 1)) := by
      rw [fL_X5_bestBerth_33, e52, if_neg nlt, e_my R hbb hi, bnd_some, et, e_whyOut R hi hbb hl, bnd_some, nI_s]
    have EM : ∀ h1, (h1 = h ∨ h1 = hcF h) → fL_X8_offer_37 (n2 + 1) (nI i) bM fM (nI b) h1 = if wR h i b (nI (cnA h b)) (outm h b) = 0 then (if bM < 0 then fL_X8_offer_37 n2 (nI i) (nI b) (nI t) (nI (b + 1)) h1 else if fM ≤ nI t then fL_X8_offer_37 n2 (nI i) bM fM (nI (b + 1)) h1 else fL_X8_offer_37 n2 (nI i) (nI b) (nI t) (nI (b + 1)) h1) else fL_X8_offer_37 n2 (nI i) bM fM (nI (b + 1)) h1 := by
      intro h1 H
      rcases H with rfl | rfl
      · rw [fL_X8_offer_37, e80, if_neg nlt]
        refine Eq.trans A1 ?_
        rw [fL_X8_offer_52, if_pos h4, cb, f43, if_pos (Int32.le_refl _), W1, bnd_some, nI_s]
        simp only [fJ_X8_offer_121, nI_s]
      · rw [fL_X8_offer_37, e80F, if_neg nlt]
        refine Eq.trans A2 ?_
        rw [fL_X8_offer_52, if_pos h4, cb, f43F, if_pos (Int32.le_refl _), W2, bnd_some, nI_s]
        simp only [fJ_X8_offer_121, nI_s]
    have nt8 : ¬ (8 : Int32) ≤ nI t := fun q => by have := (nIl (n := 8) (by omega) (by omega)).mp q; omega
    by_cases w0 : wR h i b (nI (cnA h b)) (outm h b) = 0
    · rcases I with ⟨a1, a2, a3⟩ | ⟨b0, f0, a1, a2, a3, a4, a5, a6⟩
      · refine step (nI b) (nI t) (nI b) (nI t) (Or.inr ⟨b, t, by omega, ht, rfl, rfl, rfl, rfl⟩) ?_ ?_
        · rw [EC, a2, if_neg nt8, if_pos w0]
        · intro h1 H
          rw [EM h1 H, if_pos w0, a3, if_pos (by decide)]
      · have nb0 : ¬ bM < 0 := by rw [a4]; exact Int32.not_lt.mpr (nIr (n := b0) (k := 4) a1 (by omega)).1
        by_cases q : nI f0 ≤ nI t
        · refine step bC fC bM fM (Or.inr ⟨b0, f0, a1, a2, a3, a4, a5, a6⟩) ?_ ?_
          · rw [EC, a5, if_pos q]
          · intro h1 H
            rw [EM h1 H, if_pos w0, if_neg nb0, a6, if_pos q]
        · refine step (nI b) (nI t) (nI b) (nI t) (Or.inr ⟨b, t, by omega, ht, rfl, rfl, rfl, rfl⟩) ?_ ?_
          · rw [EC, a5, if_neg q, if_pos w0]
          · intro h1 H
            rw [EM h1 H, if_pos w0, if_neg nb0, a6, if_neg q]
    · refine step bC fC bM fM I ?_ ?_
      · rw [EC, if_neg w0, ite_self]
      · intro h1 H
        rw [EM h1 H, if_neg w0]
theorem p_offer {h : Hp} (R : Rel h) (x : Int32) : Pm h (f_X7_offer x) (f_X8_offer x) := by
  rcases R.boat? x with ⟨i, hi, rfl, hb, hm, hc, h8⟩ | ⟨hb, hm, -⟩
  · have hB := R.b4
    rcases R.lies? hi with ⟨q1, q2, q3, q4⟩ | ⟨b0, k0, q1, q2, q3, q4, q5, q6, q7⟩
    · obtain ⟨v, ev, L⟩ := L_offer R hi q1 (gN h 0) FU FU 0 (-1000004) 8 (-1) 0 (by omega) (FUb (by omega)) (FUb (by omega)) (Or.inl ⟨rfl, rfl, rfl⟩)
      have ec : f_X5_bestBerth (nI i) h = some v := by
        unfold f_X5_bestBerth
        rw [hb, bnd_some]
        simp only [q3, bnd_some]
        rw [if_neg (by decide)]
        exact ev
      rcases L with ⟨rfl, L⟩ | ⟨b0, hb0, rfl, L⟩
      · refine Pm.find R (-1000004) ?_ ?_
        · simp only [f_X7_offer, ec, bnd_some, c_find (show (-1000004 : Int32) < -1000000 by decide)]
        · simp only [f_X8_offer, isBoat_F, hm, bnd_some, q4 (hcF h) R.rmF (fun _ => rfl) (fun _ => rfl), if_true, if_pos (show (-1 : Int32) < 0 by decide)]
          exact L
      · have v3 : ¬ nI b0 < -1000000 := fun q => absurd (Int32.lt_of_le_of_lt (nIr (n := b0) (k := 100) (by omega) (by omega)).1 q) (by decide)
        refine Pm.rd R (nI b0) ?_ ?_
        · simp only [f_X7_offer, ec, bnd_some, c_same v3]
        · simp only [f_X8_offer, hm, bnd_some, q4 h R.rm (fun _ => rfl) (fun _ => rfl), if_true, if_pos (show (-1 : Int32) < 0 by decide)]
          exact L
    · refine Pm.find R (-1000005) ?_ ?_
      · simp only [f_X7_offer, f_X5_bestBerth, hb, bnd_some, q6, if_true, c_find (show (-1000005 : Int32) < -1000000 by decide)]
      · have h0 : ¬ nI (6 * b0 + k0) < 0 := nI_pos (by have := ((R.pos).2.1 b0 q1).1; omega)
        simp only [f_X8_offer, isBoat_F, hm, bnd_some, q7 (hcF h) R.rmF (fun _ => rfl) (fun _ => rfl), if_true, if_neg h0, fnd_eta]
  · refine Pm.find R (-1000001) ?_ ?_
    · simp only [f_X7_offer, f_X5_bestBerth, hb, bnd_some, c_find (show (-1000001 : Int32) < -1000000 by decide)]
    · simp only [f_X8_offer, isBoat_F, hm, bnd_some, fnd_eta]
      rfl
