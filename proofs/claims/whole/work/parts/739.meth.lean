/-! ===== lay: the reference ===== -/
def os (h : Hp) (i : Nat) : Int32 := if gI h 1 i 8 = -1 then -1 else 6 * gI h 1 i 8 + gI h 1 i 9
theorem Rel.ospot {h : Hp} (R : Rel h) {i : Nat} (hi : i < gN h 1) : ∀ h1, RM (gN h 0) (gN h 1) h1 → (∀ b, gI h1 43 0 b = gI h 43 0 b) → (∀ k, gI h1 44 0 k = gI h 44 0 k) → f_X8_spotOf (nI i) h1 = some (os h i) := by
  intro h1 M e43 e44
  unfold os
  rcases R.lies? hi with ⟨q1, q2, q3, q4⟩ | ⟨b0, k0, q1, q2, q3, q4, q5, q6, q7⟩
  · rw [q4 h1 M e43 e44, if_pos q1]
  · have hB := R.b4
    rw [q7 h1 M e43 e44, if_neg (by rw [q3]; exact fun w => nI_m1 (by omega) w.symm), q3, q4, i6]
/-- the reference's rows alone may differ -/
def Fl (h h' : Hp) : Prop := CP h' h ∧ ∀ t, t ≠ 43 → t ≠ 44 → t ≠ 60 → gI h' t = gI h t
theorem Fl.rfl' (h : Hp) : Fl h h := ⟨CP.rfl' h, fun _ _ _ _ => rfl⟩
theorem Fl.trans {a b c : Hp} (X : Fl a b) (Y : Fl b c) : Fl a c := ⟨Y.1.trans X.1, fun t h1 h2 h3 => (Y.2 t h1 h2 h3).trans (X.2 t h1 h2 h3)⟩
theorem Fl.w {h : Hp} {t i k : Nat} {v : Int32} (ht : t = 43 ∨ t = 44 ∨ t = 60) : Fl h (wI h t i k v) := by
  refine ⟨CP.w ?_, fun a h1 h2 h3 => ?_⟩
  · rcases ht with rfl | rfl | rfl <;> rfl
  · funext b c
    rw [xI_wI, if_neg (by omega)]
theorem hV_Fl {h : Hp} {t i o : Nat} {f : Nat → Int32} (ht : t = 43 ∨ t = 44 ∨ t = 60) : ∀ m, Fl h (hV h t i o f m)
  | 0 => Fl.rfl' h
  | m + 1 => by
    rw [hV]
    exact (hV_Fl ht m).trans (Fl.w ht)
theorem L_l19 {h : Hp} (nt : Nat) (h8 : nt ≤ 8) (e6 : gI h 8 0 6 = nI nt) (f : Nat → Int32) (sp : ∀ i, i < nt → ∀ j, f_X8_spotOf (nI i) (hV h 60 0 0 f j) = some (f i)) : ∀ (k n j : Nat), j + k = nt → k < n → fL_X8_lay_19 n (nI j) (hV h 60 0 0 f j) = fL_X8_lay_46 FU 0 (hV h 60 0 0 f nt) := by
  have g6 : ∀ j, gI (hV h 60 0 0 f j) 8 0 6 = nI nt := fun j => by rw [hV_I, if_neg (by omega), e6]
  intro k
  induction k with
  | zero =>
    intro n j hj hn
    obtain ⟨n, rfl⟩ : ∃ k, n = k + 1 := ⟨n - 1, by omega⟩
    obtain rfl : j = nt := by omega
    rw [fL_X8_lay_19, g6, if_pos (Int32.le_refl _)]
  | succ k ih =>
    intro n j hj hn
    obtain ⟨n, rfl⟩ : ∃ k, n = k + 1 := ⟨n - 1, by omega⟩
    rw [fL_X8_lay_19, g6, if_neg (fun w => by have := (nIl (by omega) (by omega)).mp w; omega), sp j (by omega), bnd_some, if_pos (show 0 ≤ nI j ∧ nI j < 8 from nIr (k := 8) (by omega) (by omega)), nI_clamp (by omega), nI_s]
    have := ih n (j + 1) (by omega) (by omega)
    rw [hV, Nat.zero_add] at this
    exact this
theorem L_l46 {h : Hp} (nb : Nat) (h4 : nb ≤ 4) (e0 : gI h 8 0 0 = nI nb) : ∀ (k n j : Nat), j + k = nb → k < n → fL_X8_lay_46 n (nI j) (hV h 43 0 0 (fun _ => 0) j) = fL_X8_lay_69 FU 0 (hV h 43 0 0 (fun _ => 0) nb) := by
  have g0 : ∀ j, gI (hV h 43 0 0 (fun _ => 0) j) 8 0 0 = nI nb := fun j => by rw [hV_I, if_neg (by omega), e0]
  intro k
  induction k with
  | zero =>
    intro n j hj hn
    obtain ⟨n, rfl⟩ : ∃ k, n = k + 1 := ⟨n - 1, by omega⟩
    obtain rfl : j = nb := by omega
    rw [fL_X8_lay_46, g0, if_pos (Int32.le_refl _)]
  | succ k ih =>
    intro n j hj hn
    obtain ⟨n, rfl⟩ : ∃ k, n = k + 1 := ⟨n - 1, by omega⟩
    rw [fL_X8_lay_46, g0, if_neg (fun w => by have := (nIl (by omega) (by omega)).mp w; omega), if_pos (show 0 ≤ nI j ∧ nI j < 4 from nIr (k := 4) (by omega) (by omega)), nI_clamp (by omega), nI_s]
    have := ih n (j + 1) (by omega) (by omega)
    rw [hV, Nat.zero_add] at this
    exact this
theorem L_l69 {P : List (List Nat)} {s : Nat} (hs : s ≤ 6) (bo : Nat → Nat) (pb : ∀ r, r < s → pB P r < 4 ∧ pK P r < 6) (inj : ∀ r r', r < s → r' < s → pB P r = pB P r' → pK P r = pK P r' → r = r') : ∀ (k n i : Nat) (h : Hp), i + k = s → k < n → gI h 8 0 31 = nI s → (∀ r, r < s → gI h 52 0 r = nI (bo r)) → (∀ r, r < s → gI h 59 0 r = nI (s6 P r)) → (∀ r, r < i → gI h 44 0 (s6 P r) = nI (bo r)) → (∀ b, b < 4 → gI h 43 0 b = nI (cntB (fun r => decide (pB P r = b)) i)) →
    ∃ h', fL_X8_lay_69 n (nI i) h = fL_X8_lay_123 FU 0 0 h' ∧ Fl h h' ∧ (∀ r, gI h' 60 0 r = gI h 60 0 r) ∧ (∀ r, r < s → gI h' 44 0 (s6 P r) = nI (bo r)) ∧ (∀ b, b < 4 → gI h' 43 0 b = nI (cntB (fun r => decide (pB P r = b)) s)) := by
  intro k
  induction k with
  | zero =>
    intro n i h hi hn e31 e52 e59 e44 e43
    obtain ⟨n, rfl⟩ : ∃ k, n = k + 1 := ⟨n - 1, by omega⟩
    obtain rfl : i = s := by omega
    exact ⟨h, by rw [fL_X8_lay_69, e31, if_pos (Int32.le_refl _)], Fl.rfl' h, fun _ => rfl, e44, e43⟩
  | succ k ih =>
    intro n i h hi hn e31 e52 e59 e44 e43
    obtain ⟨n, rfl⟩ : ∃ k, n = k + 1 := ⟨n - 1, by omega⟩
    have his : i < s := by omega
    obtain ⟨p4, k6⟩ := pb i his
    have s24 : s6 P i < 24 := by unfold s6; omega
    have d := (div6 (b := pB P i) (k := pK P i) k6 (by omega)).1
    have d' : nI (s6 P i) / 6 = nI (pB P i) := d
    have cl := cntB_le (fun r => decide (pB P r = pB P i)) i
    have a6 : 0 ≤ nI i ∧ nI i < 6 := nIr (k := 6) (by omega) (by omega)
    have a24 : 0 ≤ nI (s6 P i) ∧ nI (s6 P i) < 24 := nIr (k := 24) (by omega) (by omega)
    have a4 : 0 ≤ nI (pB P i) ∧ nI (pB P i) < 4 := nIr (k := 4) (by omega) (by omega)
    have cs : cntB (fun r => decide (pB P r = pB P i)) (i + 1) = cntB (fun r => decide (pB P r = pB P i)) i + 1 := by
      rw [cntB, if_pos (by simp)]
    obtain ⟨h1, eh1⟩ : ∃ h1, h1 = wI (wI h 44 0 (s6 P i) (nI (bo i))) 43 0 (pB P i) (nI (cntB (fun r => decide (pB P r = pB P i)) (i + 1))) := ⟨_, rfl⟩
    have F1 : Fl h h1 := by rw [eh1]; exact (Fl.w (by omega)).trans (Fl.w (by omega))
    have g44 : ∀ c, gI h1 44 0 c = if c = s6 P i then nI (bo i) else gI h 44 0 c := fun c => by
      rw [eh1, xI_wI, if_neg (by omega), xI_wI]
      by_cases e : c = s6 P i
      · rw [if_pos ⟨rfl, rfl, e⟩, if_pos e]
      · rw [if_neg (fun w => e w.2.2), if_neg e]
    have g43 : ∀ c, gI h1 43 0 c = if c = pB P i then nI (cntB (fun r => decide (pB P r = pB P i)) (i + 1)) else gI h 43 0 c := fun c => by
      rw [eh1, xI_wI]
      by_cases e : c = pB P i
      · rw [if_pos ⟨rfl, rfl, e⟩, if_pos e]
      · rw [if_neg (fun w => e w.2.2), if_neg e, xI_wI, if_neg (by omega)]
    have inj6 : ∀ r, r < i → s6 P r ≠ s6 P i := by
      intro r hr e
      have := (pb r (by omega)).2
      unfold s6 at e
      have := inj r i (by omega) his (by omega) (by omega)
      omega
    obtain ⟨h', a1, a2, a3, a5, a6'⟩ := ih n (i + 1) h1 (by omega) (by omega) (by rw [F1.2 8 (by omega) (by omega) (by omega)]; exact e31) (fun r hr => by rw [F1.2 52 (by omega) (by omega) (by omega)]; exact e52 r hr) (fun r hr => by rw [F1.2 59 (by omega) (by omega) (by omega)]; exact e59 r hr) (fun r hr => by
      rw [g44]
      by_cases e : r = i
      · rw [e, if_pos rfl]
      · rw [if_neg (inj6 r (by omega))]
        exact e44 r (by omega)) (fun b hb => by
      rw [g43]
      by_cases e : b = pB P i
      · rw [if_pos e, e]
      · rw [if_neg e, cntB, if_neg (by simp; exact fun w => e w.symm), Nat.add_zero]
        exact e43 b hb)
    refine ⟨h', ?_, F1.trans a2, fun r => ?_, a5, a6'⟩
    · have w59 : ∀ v, gI (wI h 44 0 (s6 P i) v) 59 0 i = nI (s6 P i) := fun v => by rw [xI_wI, if_neg (by omega), e59 i his]
      have w43 : ∀ v, gI (wI h 44 0 (s6 P i) v) 43 0 (pB P i) = nI (cntB (fun r => decide (pB P r = pB P i)) i) := fun v => by rw [xI_wI, if_neg (by omega), e43 _ p4]
      rw [fL_X8_lay_69, e31, if_neg (fun w => by have := (nIl (by omega) (by omega)).mp w; omega), if_pos a6, if_pos a6, nI_clamp (n := i) (by omega), e59 i his, if_pos a24, if_pos a6, nI_clamp (n := s6 P i) (by omega), e52 i his, w59, d', if_pos a4, if_pos a4, nI_clamp (n := pB P i) (by omega), w43, nI_s, nI_s, ← cs, ← eh1]
      exact a1
    · rw [a3 r, eh1, xI_wI, if_neg (by omega), xI_wI, if_neg (by omega)]
def cgR (h : Hp) (f : Nat → Int32) (i : Nat) : Int32 := if gI h 60 0 i < 0 then 0 else if gI h 60 0 i = f i then 0 else 1
theorem L_l123 {h : Hp} (nt : Nat) (h8 : nt ≤ 8) (e6 : gI h 8 0 6 = nI nt) (f : Nat → Int32) (sp : ∀ i, i < nt → f_X8_spotOf (nI i) h = some (f i)) : ∀ (k n j : Nat) (acc : Int32), j + k = nt → k < n → fL_X8_lay_123 n acc (nI j) h = some (acc + (sm (cgR h f) nt - sm (cgR h f) j), h) := by
  intro k
  induction k with
  | zero =>
    intro n j acc hj hn
    obtain ⟨n, rfl⟩ : ∃ k, n = k + 1 := ⟨n - 1, by omega⟩
    obtain rfl : j = nt := by omega
    rw [fL_X8_lay_123, e6, if_pos (Int32.le_refl _), Int32.sub_self, Int32.add_zero]
  | succ k ih =>
    intro n j acc hj hn
    obtain ⟨n, rfl⟩ : ∃ k, n = k + 1 := ⟨n - 1, by omega⟩
    have e1 : sm (cgR h f) (j + 1) = sm (cgR h f) j + cgR h f j := rfl
    have i1 := fun acc => ih n (j + 1) acc (by omega) (by omega)
    have a8 : 0 ≤ nI j ∧ nI j < 8 := nIr (k := 8) (by omega) (by omega)
    rw [fL_X8_lay_123, e6, if_neg (fun w => by have := (nIl (by omega) (by omega)).mp w; omega), if_pos a8, if_pos a8, nI_clamp (by omega), sp j (by omega), bnd_some, nI_s]
    unfold fJ_X8_lay_163
    rw [nI_s, Int32.add_zero, i1, i1, e1]
    unfold cgR
    by_cases q : gI h 60 0 j < 0
    · rw [if_pos q, if_pos q, Int32.add_zero]
    · rw [if_neg q, if_neg q]
      by_cases q2 : gI h 60 0 j = f j
      · rw [if_pos q2, if_pos q2, Int32.add_zero]
      · rw [if_neg q2, if_neg q2, ac1]
theorem Qs.fr {h h' : Hp} (Q : Qs h h') : Fr h h' := by
  refine ⟨Q.1, Q.2.1, fun t ht => Q.2.2.1 t ?_, fun c _ _ hc => Q.2.2.2 c hc, fun c _ => by rw [Q.2.2.1 5 rfl], by rw [Q.2.2.1 7 rfl], by rw [Q.2.2.1 2 rfl], fun i c _ => by rw [Q.2.2.1 1 rfl]⟩
  unfold mvT at ht
  unfold scr
  simp only [Bool.or_eq_false_iff, beq_eq_false_iff_ne, ne_eq, Bool.and_eq_false_iff] at ht ⊢
  obtain ⟨⟨⟨⟨⟨⟨⟨⟨t1, t2⟩, t5⟩, t7⟩, t8⟩, t4⟩, t12⟩, t41⟩, t52⟩ := ht
  refine ⟨⟨⟨⟨t4, t8⟩, ?_⟩, ?_⟩, t52⟩
  · rintro rfl
    exact absurd t12 (by decide)
  · rintro rfl
    exact absurd t12 (by decide)
theorem Fl.fr {h h' : Hp} (F : Fl h h') : Fr h h' := by
  refine ⟨F.1.1, ⟨by rw [F.1.2.2.1], by rw [F.1.2.2.1], by rw [F.1.2.2.1]⟩, fun t ht => F.2 t ?_ ?_ ?_, fun c _ _ _ => by rw [F.2 8 (by omega) (by omega) (by omega)], fun c _ => by rw [F.2 5 (by omega) (by omega) (by omega)], by rw [F.2 7 (by omega) (by omega) (by omega)], by rw [F.2 2 (by omega) (by omega) (by omega)], fun i c _ => by rw [F.2 1 (by omega) (by omega) (by omega)]⟩
  · rintro rfl; exact absurd ht (by decide)
  · rintro rfl; exact absurd ht (by decide)
  · rintro rfl; exact absurd ht (by decide)
