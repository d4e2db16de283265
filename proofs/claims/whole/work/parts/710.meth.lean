/-! ===== between ===== -/
theorem wR_M {h h1 : Hp} (P : MP h1 h) (i b : Nat) (x : Int32) (o : Option Nat) : wR h1 i b x o = wR h i b x o := by
  cases o with
  | none => unfold wR wA; rw [P 30 rfl, P 31 rfl, P 32 rfl, P 33 rfl, P 36 rfl, P 37 rfl]
  | some q => unfold wR wA wN2; rw [P 30 rfl, P 31 rfl, P 32 rfl, P 33 rfl, P 34 rfl, P 35 rfl, P 36 rfl, P 37 rfl, P 8 rfl]
theorem RM.mp {nb nt : Nat} {h h1 : Hp} (M : RM nb nt h) (P : MP h1 h) : RM nb nt h1 := M.congr (by rw [P 8 rfl]) (by rw [P 8 rfl]) (fun _ => by rw [P 43 rfl]) (fun _ => by rw [P 44 rfl])
theorem cnA_M {h h1 : Hp} (P : MP h1 h) (b : Nat) : cnA h1 b = cnA h b := by unfold cnA; rw [P 43 rfl]
theorem rwA_M {h h1 : Hp} (P : MP h1 h) (b k : Nat) : rwA h1 b k = rwA h b k := by unfold rwA; rw [P 44 rfl]
theorem MP.F (h : Hp) : MP (hcF h) h := MP.w rfl
/-- the boat at this place may lie one further out, outside of the comer or of the one before it -/
def okB (h : Hp) (i b p k : Nat) : Prop := wR h (rwA h b k) b (nI (k + 1)) (some (if k = p then i else rwA h b (k - 1))) = 0
def badB (h : Hp) (i b p j : Nat) : Prop := ∃ k, p ≤ k ∧ k < cnA h b ∧ rwA h b k = j ∧ ¬ okB h i b p k
theorem L_fits {h : Hp} (R : Rel h) {i b p : Nat} (hi : i < gN h 1) (hb : b < gN h 0) (hp : p ≤ cnA h b) : ∀ (m n j : Nat), j + m = 8 → m < n →
    ((∀ j', j ≤ j' → ¬ badB h i b p j') → fL_X5_fitsBetween_36 h n i b (nI b) (nI p) 8 (nI j) = some true) ∧
    ((∃ j', j ≤ j' ∧ badB h i b p j') → fL_X5_fitsBetween_36 h n i b (nI b) (nI p) 8 (nI j) = some false) := by
  obtain ⟨⟨hB, hT⟩, hcn, hr, hps⟩ := R.pos
  have c6 := (hcn b hb).1
  have hd := R.rm.2.2.2.2.2.2
  intro m
  induction m with
  | zero =>
    intro n j hj hn
    obtain ⟨n, rfl⟩ : ∃ k, n = k + 1 := ⟨n - 1, by omega⟩
    obtain rfl : j = 8 := by omega
    refine ⟨fun _ => ?_, fun ⟨j', q1, k, q2, q3, q4, _⟩ => ?_⟩
    · rw [fL_X5_fitsBetween_36, if_pos (by decide)]
    · have := (hr b k hb q3).1
      omega
  | succ m ih =>
    intro n j hj hn
    obtain ⟨n, rfl⟩ : ∃ k, n = k + 1 := ⟨n - 1, by omega⟩
    have i1 := ih n (j + 1) (by omega) (by omega)
    have hS := R.boA j (by omega)
    have hc : (nI j).toNatClampNeg = j := nI_clamp (by omega)
    have h8 : ¬ (8 : Int32) ≤ nI j := fun q => by have := (nIl (n := 8) (by omega) (by omega)).mp q; omega
    have h0 : 0 ≤ nI j ∧ nI j < 8 := nIr (k := 8) (by omega) (by omega)
    have no : ¬ badB h i b p j → ((∀ j', j ≤ j' → ¬ badB h i b p j') → fL_X5_fitsBetween_36 h n i b (nI b) (nI p) 8 (nI (j + 1)) = some true) ∧
        ((∃ j', j ≤ j' ∧ badB h i b p j') → fL_X5_fitsBetween_36 h n i b (nI b) (nI p) 8 (nI (j + 1)) = some false) := by
      intro q
      refine ⟨fun a => i1.1 (fun j' w => a j' (by omega)), fun ⟨j', w1, w2⟩ => i1.2 ⟨j', ?_, w2⟩⟩
      by_cases e : j' = j
      · subst e; exact absurd w2 q
      · omega
    rw [fL_X5_fitsBetween_36, if_neg h8, if_pos h0, hc, hS, nI_s]
    by_cases hjt : j < gN h 1
    · rw [if_pos hjt]
      simp only []
      by_cases q1 : gI h 1 j 8 = nI b
      · rcases hps j hjt with w | ⟨b', k, w1, w2, w3, w4, w5⟩
        · rw [w.1] at q1
          exact absurd q1 (nI_m1 (by omega))
        · rw [w3] at q1
          obtain rfl : b' = b := (nI_eq (by omega) (by omega)).mp q1
          rw [w3, if_pos rfl, w4]
          by_cases q2 : p ≤ k
          · have q2' : nI p ≤ nI k := (nIl (by omega) (by omega)).mpr q2
            have inn : ∀ q, (some (if k = p then i else rwA h b' (k - 1))) = some q → q < gN h 1 := by
              intro q e
              cases e
              by_cases e : k = p
              · rw [if_pos e]; exact hi
              · rw [if_neg e]; exact (hr b' (k - 1) hb (by omega)).1
            have J : ∀ os, os = some (if k = p then i else rwA h b' (k - 1)) → fJ_X5_fitsBetween_103 h (fL_X5_fitsBetween_36 h n) i b' (nI b') (nI p) 8 (nI j) j os = if wR h j b' (nI (k + 1)) (some (if k = p then i else rwA h b' (k - 1))) = 0 then fL_X5_fitsBetween_36 h n i b' (nI b') (nI p) 8 (nI (j + 1)) else some false := by
              rintro os rfl
              unfold fJ_X5_fitsBetween_103
              rw [w4, nI_s, e_whyRight R hjt hb _ _ inn, bnd_some, nI_s]
            have main : (if nI k = nI p then fJ_X5_fitsBetween_103 h (fL_X5_fitsBetween_36 h n) i b' (nI b') (nI p) 8 (nI j) j (some i) else (f_X5_boatAt (nI b') (nI k - 1) h).bind fun r5 => fJ_X5_fitsBetween_103 h (fL_X5_fitsBetween_36 h n) i b' (nI b') (nI p) 8 (nI j) j r5) = if wR h j b' (nI (k + 1)) (some (if k = p then i else rwA h b' (k - 1))) = 0 then fL_X5_fitsBetween_36 h n i b' (nI b') (nI p) 8 (nI (j + 1)) else some false := by
              by_cases e : k = p
              · rw [if_pos (by rw [e])]
                exact J _ (by rw [if_pos e])
              · rw [if_neg (fun w => e ((nI_eq (by omega) (by omega)).mp w)), e_boatIn R hb (by omega), bnd_some]
                refine J _ ?_
                unfold ins
                rw [if_neg (show ¬ k = 0 by omega), if_neg e]
            rw [if_pos q2', main]
            by_cases ok : wR h j b' (nI (k + 1)) (some (if k = p then i else rwA h b' (k - 1))) = 0
            · rw [if_pos ok]
              refine no ?_
              rintro ⟨k2, v1, v2, v3, v4⟩
              obtain ⟨-, rfl⟩ := hd b' k2 b' k hb v2 hb w2 (v3.trans w5.symm)
              unfold okB at v4
              rw [v3] at v4
              exact v4 ok
            · rw [if_neg ok]
              refine ⟨fun a => absurd ⟨k, q2, w2, w5, ?_⟩ (a j (Nat.le_refl j)), fun _ => rfl⟩
              unfold okB
              rw [w5]
              exact ok
          · rw [if_neg (fun w => q2 ((nIl (by omega) (by omega)).mp w))]
            refine no ?_
            rintro ⟨k2, v1, v2, v3, v4⟩
            obtain ⟨-, rfl⟩ := hd b' k2 b' k hb v2 hb w2 (v3.trans w5.symm)
            omega
      · rw [if_neg q1]
        refine no ?_
        rintro ⟨k2, v1, v2, v3, v4⟩
        have := (hr b k2 hb v2).2.2.1
        rw [v3] at this
        exact q1 this
    · rw [if_neg hjt]
      refine no ?_
      rintro ⟨k2, v1, v2, v3, v4⟩
      have := (hr b k2 hb v2).1
      omega
theorem L_b100 {h h1 : Hp} (R : Rel h) (P : MP h1 h) {i b p : Nat} (hi : i < gN h 1) (hb : b < gN h 0) (hp : p ≤ cnA h b) : ∀ (m n k : Nat) (x4 : Int32), (x4 = 0 ∨ x4 = 1) → p ≤ k → k + m = cnA h b → m < n →
    ((x4 = 1 ∧ ∀ k', k ≤ k' → k' < cnA h b → okB h i b p k') → fL_X8_between_100 n (nI i) (nI b) (nI p) x4 (nI k) h1 = fL_X8_between_211 FU (nI i) (nI b) (nI p) (nI (cnA h b - p)) (nI (cnA h b)) h1) ∧
    (¬ (x4 = 1 ∧ ∀ k', k ≤ k' → k' < cnA h b → okB h i b p k') → fL_X8_between_100 n (nI i) (nI b) (nI p) x4 (nI k) h1 = f_X8_finding (-1000003) h1) := by
  obtain ⟨⟨hB, hT⟩, hcn, hr, hps⟩ := R.pos
  obtain ⟨c6, e43, -⟩ := hcn b hb
  have h4 : 0 ≤ nI b ∧ nI b < 4 := nIr (k := 4) (by omega) (by omega)
  have cb : (nI b).toNatClampNeg = b := nI_clamp (by omega)
  have f43 : gI h1 43 0 b = nI (cnA h b) := by rw [P 43 rfl]; exact e43
  intro m
  induction m with
  | zero =>
    intro n k x4 hx hpk hk hn
    obtain ⟨n, rfl⟩ : ∃ k, n = k + 1 := ⟨n - 1, by omega⟩
    obtain rfl : k = cnA h b := by omega
    rw [fL_X8_between_100, if_pos h4, cb, f43, if_pos (Int32.le_refl _)]
    refine ⟨fun w => ?_, fun w => ?_⟩
    · rw [w.1, if_neg (by decide), if_pos h4, if_pos h4, nI_sub hp]
    · rcases hx with rfl | rfl
      · rw [if_pos rfl, fnd_eta]
      · exact absurd ⟨rfl, fun k' w1 w2 => by omega⟩ w
  | succ m ih =>
    intro n k x4 hx hpk hk hn
    obtain ⟨n, rfl⟩ : ∃ k, n = k + 1 := ⟨n - 1, by omega⟩
    have i1 := fun x4 hx => ih n (k + 1) x4 hx (by omega) (by omega) (by omega)
    have q := hr b k hb (by omega)
    have a1 : 0 ≤ nI (6 * b + k) ∧ nI (6 * b + k) < 24 := nIr (k := 24) (by omega) (by omega)
    have ck : (nI (6 * b + k)).toNatClampNeg = 6 * b + k := nI_clamp (by omega)
    have n1 : ¬ nI (k + 1) = 0 := nI_ne0 (by omega) (by omega)
    have J : ∀ y : Nat, y < 8 → y = (if k = p then i else rwA h b (k - 1)) → fJ_X8_between_135 (fL_X8_between_100 n) (nI i) (nI b) (nI p) x4 (nI k) (nI y) h1 = if x4 = 0 then fL_X8_between_100 n (nI i) (nI b) (nI p) 0 (nI (k + 1)) h1 else if wR h (rwA h b k) b (nI (k + 1)) (some (if k = p then i else rwA h b (k - 1))) = 0 then fL_X8_between_100 n (nI i) (nI b) (nI p) 1 (nI (k + 1)) h1 else fL_X8_between_100 n (nI i) (nI b) (nI p) 0 (nI (k + 1)) h1 := by
      intro y hy ey
      unfold fJ_X8_between_135
      rw [i6, if_pos a1, ck, P 44 rfl, q.2.1, nI_s, m_why (show rwA h b k < 8 by omega) (show b < 4 by omega) (nI (k + 1)) (nI y) (fun _ => nIr (k := 8) hy (by omega)) h1, bnd_some, if_neg n1, nI_clamp (by omega), wR_M P, ← ey]
    have key : fL_X8_between_100 (n + 1) (nI i) (nI b) (nI p) x4 (nI k) h1 = if x4 = 0 then fL_X8_between_100 n (nI i) (nI b) (nI p) 0 (nI (k + 1)) h1 else if wR h (rwA h b k) b (nI (k + 1)) (some (if k = p then i else rwA h b (k - 1))) = 0 then fL_X8_between_100 n (nI i) (nI b) (nI p) 1 (nI (k + 1)) h1 else fL_X8_between_100 n (nI i) (nI b) (nI p) 0 (nI (k + 1)) h1 := by
      rw [fL_X8_between_100, if_pos h4, cb, f43, if_neg (fun w => by have := (nIl (by omega) (by omega)).mp w; omega)]
      by_cases e : k = p
      · rw [if_pos (by rw [e])]
        exact J i (by omega) (by rw [if_pos e])
      · have q' := hr b (k - 1) hb (by omega)
        rw [if_neg (fun w => e ((nI_eq (by omega) (by omega)).mp w)), i6, show (1 : Int32) = nI 1 from rfl, nI_sub (by omega), show 6 * b + k - 1 = 6 * b + (k - 1) by omega, if_pos (show 0 ≤ nI (6 * b + (k - 1)) ∧ nI (6 * b + (k - 1)) < 24 from nIr (k := 24) (by omega) (by omega)), nI_clamp (by omega), P 44 rfl, q'.2.1]
        exact J (rwA h b (k - 1)) (by omega) (by rw [if_neg e])
    rw [key]
    have rest : ∀ k', k + 1 ≤ k' → k ≤ k' := fun k' w => by omega
    rcases hx with rfl | rfl
    · rw [if_pos rfl]
      refine ⟨fun w => absurd w.1 (by decide), fun _ => (i1 0 (Or.inl rfl)).2 (fun w => absurd w.1 (by decide))⟩
    · rw [if_neg (by decide)]
      by_cases ok : wR h (rwA h b k) b (nI (k + 1)) (some (if k = p then i else rwA h b (k - 1))) = 0
      · rw [if_pos ok]
        refine ⟨fun w => (i1 1 (Or.inr rfl)).1 ⟨rfl, fun k' w1 w2 => w.2 k' (by omega) w2⟩, fun w => (i1 1 (Or.inr rfl)).2 (fun w2 => w ⟨rfl, fun k' w3 w4 => ?_⟩)⟩
        by_cases e : k' = k
        · rw [e]; exact ok
        · exact w2.2 k' (by omega) w4
      · rw [if_neg ok]
        exact ⟨fun w => absurd (w.2 k (Nat.le_refl k) (by omega)) ok, fun _ => (i1 0 (Or.inl rfl)).2 (fun w => absurd w.1 (by decide))⟩
/-- the reference's rows, each of m boats moved one further out -/
def hBt (g : Hp) (o : Nat) (rw : Nat → Nat) : Nat → Hp
  | 0 => g
  | m + 1 => wI (wI (wI (hBt g o rw m) 44 0 (o - m) (nI (rw m))) 42 0 (rw m) (gI (hBt g o rw m) 42 0 (rw m) + 1)) 8 0 16 (gI (hBt g o rw m) 8 0 16 + 1)
theorem hBt_I (g : Hp) (o : Nat) (rw : Nat → Nat) (t i k : Nat) : ∀ m, m ≤ o → gI (hBt g o rw m) t i k = if t = 44 ∧ i = 0 ∧ o < k + m ∧ k ≤ o then nI (rw (o - k)) else if t = 42 ∧ i = 0 then gI g 42 0 k + nOf rw k m else if t = 8 ∧ i = 0 ∧ k = 16 then gI g 8 0 16 + nI m else gI g t i k
  | 0, _ => by
    rw [if_neg (by omega)]
    show gI g t i k = _
    by_cases q : t = 42 ∧ i = 0
    · rw [if_pos q, q.1, q.2]
      exact (Int32.add_zero _).symm
    · rw [if_neg q]
      by_cases q2 : t = 8 ∧ i = 0 ∧ k = 16
      · rw [if_pos q2, q2.1, q2.2.1, q2.2.2]
        exact (Int32.add_zero _).symm
      · rw [if_neg q2]
  | m + 1, hm => by
    rw [hBt, xI_wI, xI_wI, xI_wI, hBt_I g o rw t i k m (by omega), hBt_I g o rw 42 0 (rw m) m (by omega), hBt_I g o rw 8 0 16 m (by omega), if_neg (show ¬ (8 = 44 ∧ 0 = 0 ∧ _) by omega), if_neg (show ¬ (8 = 42 ∧ 0 = 0) by omega), if_pos (show 8 = 8 ∧ 0 = 0 ∧ 16 = 16 from ⟨rfl, rfl, rfl⟩), if_neg (show ¬ (42 = 44 ∧ 0 = 0 ∧ _) by omega), if_pos (show 42 = 42 ∧ 0 = 0 from ⟨rfl, rfl⟩)]
    by_cases q8 : t = 8 ∧ i = 0 ∧ k = 16
    · rw [if_pos q8, if_neg (by omega), if_neg (by omega), if_pos q8, Int32.add_assoc, nI_s]
    · rw [if_neg q8]
      by_cases q42 : t = 42 ∧ i = 0
      · have en : nOf rw k (m + 1) = nOf rw k m + (if rw m = k then 1 else 0) := rfl
        by_cases e : k = rw m
        · rw [if_pos ⟨q42.1, q42.2, e⟩, if_neg (by omega), if_pos q42, en, if_pos e.symm, ← e, Int32.add_assoc]
        · rw [if_neg (fun q => e q.2.2), if_neg (by omega), if_neg (by omega), if_pos q42, if_neg (by omega), if_pos q42, en, if_neg (fun q => e q.symm), Int32.add_zero]
      · rw [if_neg (fun q => q42 ⟨q.1, q.2.1⟩)]
        by_cases q44 : t = 44 ∧ i = 0 ∧ k = o - m
        · rw [if_pos q44, if_pos (by omega), show o - k = m by omega]
        · rw [if_neg q44]
          by_cases q3 : t = 44 ∧ i = 0 ∧ o < k + m ∧ k ≤ o
          · rw [if_pos q3, if_pos (by omega)]
          · rw [if_neg q3, if_neg q42, if_neg (c := t = 44 ∧ i = 0 ∧ o < k + (m + 1) ∧ k ≤ o) (by omega), if_neg q42, if_neg q8, if_neg q8]
theorem hBt_F (g : Hp) (o : Nat) (rw : Nat → Nat) : ∀ m, Fr g (hBt g o rw m) ∧ CP (hBt g o rw m) g
  | 0 => ⟨Fr.rfl' g, CP.rfl' g⟩
  | m + 1 => by
    have q := hBt_F g o rw m
    rw [hBt]
    exact ⟨q.1.trans (((Fr.w rfl).trans (Fr.w rfl)).trans (Fr.w rfl)), (((CP.w rfl).trans (CP.w rfl)).trans (CP.w rfl)).trans q.2⟩
def btM (g : Hp) (i b p c : Nat) (rw : Nat → Nat) : Hp := wI (wI (hBt g (6 * b + c) rw (c - p)) 44 0 (6 * b + p) (nI i)) 43 0 b (nI (c + 1))
theorem L_b211 {g : Hp} {i b p c : Nat} (hb : b < 4) (hc : c ≤ 5) (hp : p ≤ c) (e43 : gI g 43 0 b = nI c) (rw : Nat → Nat) (x5 : Int32) (hr : ∀ j, p + j < c → rw j < 8 ∧ gI g 44 0 (6 * b + c - j - 1) = nI (rw j)) : ∀ (m n j : Nat), p + j + m = c → m < n → fL_X8_between_211 n (nI i) (nI b) (nI p) x5 (nI (c - j)) (hBt g (6 * b + c) rw j) = some (x5, btM g i b p c rw) := by
  have h4 : 0 ≤ nI b ∧ nI b < 4 := nIr (k := 4) (by omega) (by omega)
  have cb : (nI b).toNatClampNeg = b := nI_clamp (by omega)
  have f43 : ∀ j, j ≤ 6 * b + c → gI (hBt g (6 * b + c) rw j) 43 0 b = nI c := fun j hj => by rw [hBt_I _ _ _ _ _ _ _ hj, if_neg (by omega), if_neg (by omega), if_neg (by omega), e43]
  intro m
  induction m with
  | zero =>
    intro n j hj hn
    obtain ⟨n, rfl⟩ : ∃ k, n = k + 1 := ⟨n - 1, by omega⟩
    rw [fL_X8_between_211, if_pos ((nIl (by omega) (by omega)).mpr (by omega)), i6, if_pos (show 0 ≤ nI (6 * b + p) ∧ nI (6 * b + p) < 24 from nIr (k := 24) (by omega) (by omega)), if_pos h4, if_pos h4, nI_clamp (by omega), cb, xI_wI, if_neg (by omega), f43 _ (by omega), nI_s, show j = c - p by omega]
    rfl
  | succ m ih =>
    intro n j hj hn
    obtain ⟨n, rfl⟩ : ∃ k, n = k + 1 := ⟨n - 1, by omega⟩
    obtain ⟨r8, er⟩ := hr j (by omega)
    have a1 : 0 ≤ nI (6 * b + c - j - 1) ∧ nI (6 * b + c - j - 1) < 24 := nIr (k := 24) (by omega) (by omega)
    have a2 : 0 ≤ nI (6 * b + c - j) ∧ nI (6 * b + c - j) < 24 := nIr (k := 24) (by omega) (by omega)
    have f44 : gI (hBt g (6 * b + c) rw j) 44 0 (6 * b + c - j - 1) = nI (rw j) := by rw [hBt_I _ _ _ _ _ _ _ (by omega), if_neg (by omega), if_neg (by omega), if_neg (by omega), er]
    have ix : (6 : Int32) * nI b + nI (c - j) = nI (6 * b + c - j) := by rw [i6, show 6 * b + (c - j) = 6 * b + c - j by omega]
    have ix1 : nI (6 * b + c - j) - 1 = nI (6 * b + c - j - 1) := nI_sub (b := 1) (by omega)
    have dn : nI (c - j) + (-1) = nI (c - (j + 1)) := by
      have := pk_m1 (c - (j + 1))
      rw [show c - (j + 1) + 1 = c - j by omega] at this
      exact this
    rw [fL_X8_between_211, if_neg (fun q => by have := (nIl (by omega) (by omega)).mp q; omega), ix, ix1, if_pos a1, if_pos a2, if_pos a2, nI_clamp (n := 6 * b + c - j) (by omega), nI_clamp (n := 6 * b + c - j - 1) (by omega), f44, xI_wI, if_pos ⟨rfl, rfl, rfl⟩, m_counts r8, bnd_some, xI_wI, if_neg (by omega), xI_wI, if_neg (by omega), dn]
    have := ih n (j + 1) (by omega) (by omega)
    rw [hBt] at this
    exact this
theorem btM_I (g : Hp) {i b p c : Nat} (rw : Nat → Nat) (hp : p ≤ c) (t a k : Nat) : gI (btM g i b p c rw) t a k = if t = 43 ∧ a = 0 ∧ k = b then nI (c + 1) else if t = 44 ∧ a = 0 ∧ k = 6 * b + p then nI i else if t = 44 ∧ a = 0 ∧ 6 * b + p < k ∧ k ≤ 6 * b + c then nI (rw (6 * b + c - k)) else if t = 42 ∧ a = 0 then gI g 42 0 k + nOf rw k (c - p) else if t = 8 ∧ a = 0 ∧ k = 16 then gI g 8 0 16 + nI (c - p) else gI g t a k := by
  unfold btM
  rw [xI_wI, xI_wI, hBt_I _ _ _ _ _ _ _ (by omega)]
  have : (t = 44 ∧ a = 0 ∧ 6 * b + c < k + (c - p) ∧ k ≤ 6 * b + c) ↔ (t = 44 ∧ a = 0 ∧ 6 * b + p < k ∧ k ≤ 6 * b + c) := by omega
  simp only [this]
theorem btM_F (g : Hp) (i b p c : Nat) (rw : Nat → Nat) : Fr g (btM g i b p c rw) ∧ CP (btM g i b p c rw) g := by
  have q := hBt_F g (6 * b + c) rw (c - p)
  exact ⟨q.1.trans ((Fr.w rfl).trans (Fr.w rfl)), ((CP.w rfl).trans (CP.w rfl)).trans q.2⟩
/-! ===== between: the class's heap ===== -/
def geB (h : Hp) (b p : Nat) (j : Nat) : Bool := decide (j < gN h 1 ∧ gI h 1 j 8 = nI b ∧ ¬ gI h 1 j 9 < nI p)
def btC (h : Hp) (i b p : Nat) : Hp := wI (wI (wI (hMv h (geB h b p) 1 8) 5 0 5 (gI h 5 0 5 + sm (fun j => onB (geB h b p j)) 8)) 1 i 8 (nI b)) 1 i 9 (nI p)
theorem btC_I (h : Hp) (i b p : Nat) (t j c : Nat) : gI (btC h i b p) t j c = if t = 1 ∧ j = i ∧ c = 9 then nI p else if t = 1 ∧ j = i ∧ c = 8 then nI b else if t = 5 ∧ j = 0 ∧ c = 5 then gI h 5 0 5 + sm (fun j => onB (geB h b p j)) 8 else if t = 1 ∧ j < 8 ∧ geB h b p j = true ∧ c = 9 then gI h 1 j 9 + 1 else if t = 1 ∧ j < 8 ∧ geB h b p j = true ∧ c = 11 then gI h 1 j 11 + 1 else gI h t j c := by
  unfold btC
  rw [xI_wI, xI_wI, xI_wI, hMv_I]
theorem btC_F (h : Hp) (i b p : Nat) : Fr h (btC h i b p) ∧ MP (btC h i b p) h := by
  have q := hMv_N h (geB h b p) 1 8
  exact ⟨((q.2.2.2.trans (Fr.w rfl)).trans (Fr.w rfl)).trans (Fr.w rfl), (MP.w rfl).trans ((MP.w rfl).trans ((MP.w rfl).trans q.2.2.1))⟩
theorem sm_ge {p : Nat} : ∀ n, n < 1000 → sm (fun k => if k < p then (0 : Int32) else 1) n = nI (n - p)
  | 0, _ => by
    rw [Nat.zero_sub]
    rfl
  | n + 1, hn => by
    rw [sm, sm_ge n (by omega)]
    by_cases e : n < p
    · rw [if_pos e, Int32.add_zero]
      congr 1
      omega
    · rw [if_neg e, nI_s]
      congr 1
      omega
theorem sm_geB {h : Hp} (R : Rel h) {b p : Nat} (hb : b < gN h 0) (hp : p ≤ cnA h b) : sm (fun i => onB (geB h b p i)) 8 = nI (cnA h b - p) := by
  obtain ⟨⟨hB, hT⟩, hcn, hr, hps⟩ := R.pos
  have c6 := (hcn b hb).1
  have e : sm (fun i => onB (geB h b p i)) 8 = sm (atS h (nI b) (fun i => if gI h 1 i 9 < nI p then 0 else 1)) 8 := by
    apply sm_c
    intro i _
    unfold geB onB atS
    by_cases q : i < gN h 1 ∧ gI h 1 i 8 = nI b
    · rw [if_pos q]
      show _ = (if gI h 1 i 9 < nI p then (0 : Int32) else 1)
      by_cases q2 : gI h 1 i 9 < nI p
      · rw [if_pos q2, if_neg (fun w => (of_decide_eq_true w).2.2 q2)]
      · rw [if_neg q2, if_pos (decide_eq_true ⟨q.1, q.2, q2⟩)]
    · rw [if_neg q, if_neg (fun w => q ⟨(of_decide_eq_true w).1, (of_decide_eq_true w).2.1⟩)]
  rw [e]
  refine (reidx R hb _).trans ?_
  rw [← sm_ge (p := p) (cnA h b) (by omega)]
  apply sm_c
  intro k' hk'
  rw [(hr b k' hb hk').2.2.2]
  simp only [nI_ltI (show k' < 2 ^ 31 by omega) (show p < 2 ^ 31 by omega)]
