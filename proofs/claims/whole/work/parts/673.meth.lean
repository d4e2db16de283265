theorem Rel.she9 {h h2 : Hp} (R : Rel h) (hN : ∀ a, gN h2 a = gN h a) (hP : ∀ a b c, gP h2 a b c = gP h a b c) (hI : ∀ t, t ≠ 6 → t ≠ 23 → t ≠ 49 → t ≠ 50 → t ≠ 51 → t ≠ 61 → ∀ b c, gI h2 t b c = gI h t b c)
    (S : SheR (fun s => gI h2 6 s 1) (fun s => gI h2 6 s 2) (fun s j => gI h2 23 s j) (fun s => gI h2 49 0 s) (fun s => gI h2 50 0 s) (fun j => gI h2 51 0 j)) : Rel h2 := by
  obtain ⟨a, b, c, d, e, f, g, k⟩ := R
  unfold Rel
  simp only [hN, hP, hI 0 (by decide) (by decide) (by decide) (by decide) (by decide) (by decide), hI 1 (by decide) (by decide) (by decide) (by decide) (by decide) (by decide), hI 2 (by decide) (by decide) (by decide) (by decide) (by decide) (by decide), hI 3 (by decide) (by decide) (by decide) (by decide) (by decide) (by decide), hI 5 (by decide) (by decide) (by decide) (by decide) (by decide) (by decide), hI 7 (by decide) (by decide) (by decide) (by decide) (by decide) (by decide), hI 8 (by decide) (by decide) (by decide) (by decide) (by decide) (by decide), hI 18 (by decide) (by decide) (by decide) (by decide) (by decide) (by decide), hI 19 (by decide) (by decide) (by decide) (by decide) (by decide) (by decide), hI 20 (by decide) (by decide) (by decide) (by decide) (by decide) (by decide), hI 21 (by decide) (by decide) (by decide) (by decide) (by decide) (by decide), hI 30 (by decide) (by decide) (by decide) (by decide) (by decide) (by decide), hI 31 (by decide) (by decide) (by decide) (by decide) (by decide) (by decide), hI 32 (by decide) (by decide) (by decide) (by decide) (by decide) (by decide), hI 33 (by decide) (by decide) (by decide) (by decide) (by decide) (by decide), hI 34 (by decide) (by decide) (by decide) (by decide) (by decide) (by decide), hI 35 (by decide) (by decide) (by decide) (by decide) (by decide) (by decide), hI 36 (by decide) (by decide) (by decide) (by decide) (by decide) (by decide), hI 37 (by decide) (by decide) (by decide) (by decide) (by decide) (by decide), hI 38 (by decide) (by decide) (by decide) (by decide) (by decide) (by decide), hI 39 (by decide) (by decide) (by decide) (by decide) (by decide) (by decide), hI 40 (by decide) (by decide) (by decide) (by decide) (by decide) (by decide), hI 41 (by decide) (by decide) (by decide) (by decide) (by decide) (by decide), hI 42 (by decide) (by decide) (by decide) (by decide) (by decide) (by decide), hI 43 (by decide) (by decide) (by decide) (by decide) (by decide) (by decide), hI 44 (by decide) (by decide) (by decide) (by decide) (by decide) (by decide), hI 45 (by decide) (by decide) (by decide) (by decide) (by decide) (by decide), hI 46 (by decide) (by decide) (by decide) (by decide) (by decide) (by decide), hI 47 (by decide) (by decide) (by decide) (by decide) (by decide) (by decide), hI 48 (by decide) (by decide) (by decide) (by decide) (by decide) (by decide)]
  exact ⟨a, b, c, d, e, f, g, S⟩
/-! ===== copy ===== -/
def hV (h : Hp) (t i o : Nat) (f : Nat → Int32) : Nat → Hp
  | 0 => h
  | m + 1 => wI (hV h t i o f m) t i (o + m) (f m)
theorem hV_I (h : Hp) (t i o : Nat) (f : Nat → Int32) (a b c : Nat) : ∀ m, gI (hV h t i o f m) a b c = if a = t ∧ b = i ∧ o ≤ c ∧ c < o + m then f (c - o) else gI h a b c
  | 0 => by
    rw [if_neg (by omega)]
    rfl
  | m + 1 => by
    rw [hV, xI_wI, hV_I h t i o f a b c m]
    by_cases e : a = t ∧ b = i ∧ c = o + m
    · rw [if_pos e, if_pos (by omega), show c - o = m by omega]
    · rw [if_neg e]
      by_cases e2 : a = t ∧ b = i ∧ o ≤ c ∧ c < o + m
      · rw [if_pos e2, if_pos (by omega)]
      · rw [if_neg e2, if_neg (by omega)]
theorem hV_N (h : Hp) (t i o : Nat) (f : Nat → Int32) (a : Nat) : ∀ m, gN (hV h t i o f m) a = gN h a
  | 0 => rfl
  | m + 1 => by rw [hV, xN_wI, hV_N h t i o f a m]
theorem hV_P (h : Hp) (t i o : Nat) (f : Nat → Int32) (a b c : Nat) : ∀ m, gP (hV h t i o f m) a b c = gP h a b c
  | 0 => rfl
  | m + 1 => by rw [hV, xP_wI, hV_P h t i o f a b c m]
theorem ar64 {a n z : Nat} (ha : a < 2147483648) (hn : n < 2147483648) (hz : z < 2147483648) : ((nI a).toInt64 + (nI n).toInt64 ≤ (nI z).toInt64) ↔ a + n ≤ z := by
  rw [nI_l (by omega), nI_l (by omega), nI_l (by omega), lN_add, Int64.le_iff_toInt_le, lN_toInt (n := z) (by omega)]
  have : (lN (a + n)).toInt = ((a + n : Nat) : Int) := lg_ofNat_toInt (by omega)
  rw [this]
  omega
theorem arC {a n z : Int32} (a0 : ¬ a < 0) (n0 : ¬ n < 0) (hz : 0 ≤ z ∧ z ≤ 8) : (lg_cmp (a.toInt64 + n.toInt64) z.toInt64 ≤ 0) ↔ (0 ≤ a ∧ 0 ≤ n ∧ a ≤ z ∧ n ≤ z - a) := by
  obtain ⟨c, hc, rfl⟩ := ofR (x := z) (n := 9) (by decide) hz.1 (Int32.lt_of_le_of_lt hz.2 (by decide))
  obtain ⟨j, hj, rfl⟩ := nI_of a0
  obtain ⟨m, hm, rfl⟩ := nI_of n0
  rw [lg_cmp_le, ar64 (by omega) (by omega) (by omega), nIl (by omega) (by omega)]
  constructor
  · intro q
    refine ⟨Int32.not_lt.mp a0, Int32.not_lt.mp n0, by omega, ?_⟩
    rw [nI_sub (by omega), nIl (by omega) (by omega)]
    omega
  · rintro ⟨-, -, q1, q2⟩
    rw [nI_sub (by omega), nIl (by omega) (by omega)] at q2
    omega
theorem cp_cond {α : Type} {a b n z1 z2 : Int32} (hz1 : 0 ≤ z1 ∧ z1 ≤ 8) (hz2 : 0 ≤ z2 ∧ z2 ≤ 8) (F L : Option α) :
    (if a < 0 then F else if b < 0 then F else if n < 0 then F else if 0 < lg_cmp (a.toInt64 + n.toInt64) z1.toInt64 then F else if lg_cmp (b.toInt64 + n.toInt64) z2.toInt64 ≤ 0 then L else F) = if (0 ≤ a ∧ 0 ≤ n ∧ a ≤ z1 ∧ n ≤ z1 - a) ∧ (0 ≤ b ∧ 0 ≤ n ∧ b ≤ z2 ∧ n ≤ z2 - b) then L else F := by
  by_cases a0 : a < 0
  · rw [if_pos a0, if_neg (fun q => Int32.not_lt.mpr q.1.1 a0)]
  by_cases b0 : b < 0
  · rw [if_neg a0, if_pos b0, if_neg (fun q => Int32.not_lt.mpr q.2.1 b0)]
  by_cases n0 : n < 0
  · rw [if_neg a0, if_neg b0, if_pos n0, if_neg (fun q => Int32.not_lt.mpr q.1.2.1 n0)]
  simp only [if_neg a0, if_neg b0, if_neg n0, ← arC a0 n0 hz1, ← arC b0 n0 hz2]
  by_cases q1 : lg_cmp (a.toInt64 + n.toInt64) z1.toInt64 ≤ 0
  · rw [if_neg (Int32.not_lt.mpr q1)]
    by_cases q2 : lg_cmp (b.toInt64 + n.toInt64) z2.toInt64 ≤ 0
    · rw [if_pos q2, if_pos ⟨q1, q2⟩]
    · rw [if_neg q2, if_neg (fun q => q2 q.2)]
  · rw [if_pos (Int32.not_le.mp q1), if_neg (fun q => q1 q.1)]
theorem L_c164 (H : Hp) {d dp n : Nat} (hd : d < 4) (hn : dp + n ≤ 8) : ∀ (m N j : Nat), j + m = n → m < N → fL_X8_copy_164 N (nI d) (nI dp) (nI n) (nI j) (hV H 51 0 (8 * d + dp) (fun j => gI H 61 0 j) j) = some (nI n, hV H 51 0 (8 * d + dp) (fun j => gI H 61 0 j) n) := by
  intro m
  induction m with
  | zero =>
    intro N j hj hN
    obtain ⟨N, rfl⟩ : ∃ k, N = k + 1 := ⟨N - 1, by omega⟩
    rw [fL_X8_copy_164, if_pos ((nIl (by omega) (by omega)).mpr (by omega)), show j = n by omega]
  | succ m ih =>
    intro N j hj hN
    obtain ⟨N, rfl⟩ : ∃ k, N = k + 1 := ⟨N - 1, by omega⟩
    have e8 : (8 : Int32) * nI d + nI dp + nI j = nI (8 * d + dp + j) := by rw [nq8, pk_mul, nI_add, nI_add]
    rw [fL_X8_copy_164, if_neg (fun q => by have := (nIl (by omega) (by omega)).mp q; omega), if_pos (show 0 ≤ nI j ∧ nI j < 8 from nIr (k := 8) (by omega) (by omega)), e8, if_pos (show 0 ≤ nI (8 * d + dp + j) ∧ nI (8 * d + dp + j) < 32 from nIr (k := 32) (by omega) (by omega)), nI_s, nI_clamp (by omega), nI_clamp (by omega)]
    have := ih N (j + 1) (by omega) (by omega)
    rw [hV] at this
    rw [hV_I, if_neg (by omega)]
    exact this
theorem L_c127 (h : Hp) {s sp d dp n : Nat} (hs : s < 4) (hn : sp + n ≤ 8) : ∀ (m N j : Nat), j + m = n → m < N → fL_X8_copy_127 N (nI s) (nI sp) (nI d) (nI dp) (nI n) (nI j) (hV h 61 0 0 (fun j => gI h 51 0 (8 * s + sp + j)) j) = fL_X8_copy_164 FU (nI d) (nI dp) (nI n) 0 (hV h 61 0 0 (fun j => gI h 51 0 (8 * s + sp + j)) n) := by
  intro m
  induction m with
  | zero =>
    intro N j hj hN
    obtain ⟨N, rfl⟩ : ∃ k, N = k + 1 := ⟨N - 1, by omega⟩
    rw [fL_X8_copy_127, if_pos ((nIl (by omega) (by omega)).mpr (by omega)), show j = n by omega]
  | succ m ih =>
    intro N j hj hN
    obtain ⟨N, rfl⟩ : ∃ k, N = k + 1 := ⟨N - 1, by omega⟩
    have e8 : (8 : Int32) * nI s + nI sp + nI j = nI (8 * s + sp + j) := by rw [nq8, pk_mul, nI_add, nI_add]
    rw [fL_X8_copy_127, if_neg (fun q => by have := (nIl (by omega) (by omega)).mp q; omega), e8, if_pos (show 0 ≤ nI (8 * s + sp + j) ∧ nI (8 * s + sp + j) < 32 from nIr (k := 32) (by omega) (by omega)), if_pos (show 0 ≤ nI j ∧ nI j < 8 from nIr (k := 8) (by omega) (by omega)), nI_s, nI_clamp (by omega), nI_clamp (by omega)]
    have := ih N (j + 1) (by omega) (by omega)
    rw [hV, Nat.zero_add] at this
    rw [hV_I, if_neg (by omega)]
    exact this
def hK (h : Hp) (s sp d dp n : Nat) : Hp := hV (hV h 61 0 0 (fun j => gI h 51 0 (8 * s + sp + j)) n) 51 0 (8 * d + dp) (fun j => gI (hV h 61 0 0 (fun j => gI h 51 0 (8 * s + sp + j)) n) 61 0 j) n
theorem m_copyL (h : Hp) {s sp d dp n : Nat} (hs : s < 4) (hd : d < 4) (hn : sp + n ≤ 8) (hn2 : dp + n ≤ 8) : fL_X8_copy_127 FU (nI s) (nI sp) (nI d) (nI dp) (nI n) 0 h = some (nI n, hK h s sp d dp n) :=
  (L_c127 h hs hn n FU 0 (by omega) (FUb (by omega))).trans (L_c164 _ hd hn2 n FU 0 (by omega) (FUb (by omega)))
theorem xI_wC (h : Hp) (t i i' sp dp n a c k : Nat) : gI (wC h t i i' sp dp n) a c k = if a = t ∧ c = i' ∧ dp ≤ k ∧ k < dp + n then gI h t i (sp + (k - dp)) else gI h a c k := (rfl)
theorem xN_wC (h : Hp) (t i i' sp dp n a : Nat) : gN (wC h t i i' sp dp n) a = gN h a := (rfl)
theorem xP_wC (h : Hp) (t i i' sp dp n a b c : Nat) : gP (wC h t i i' sp dp n) a b c = gP h a b c := (rfl)
theorem hK_I (h : Hp) (s sp d dp n : Nat) (t a c : Nat) (ht : t ≠ 61) : gI (hK h s sp d dp n) t a c = if t = 51 ∧ a = 0 ∧ 8 * d + dp ≤ c ∧ c < 8 * d + dp + n then gI h 51 0 (8 * s + sp + (c - (8 * d + dp))) else gI h t a c := by
  unfold hK
  rw [hV_I]
  by_cases e : t = 51 ∧ a = 0 ∧ 8 * d + dp ≤ c ∧ c < 8 * d + dp + n
  · rw [if_pos e, if_pos e, hV_I, if_pos (by omega), Nat.sub_zero]
  · rw [if_neg e, if_neg e, hV_I, if_neg (fun q => ht q.1)]
theorem r_copy {h : Hp} (R : Rel h) {s sp d dp n : Nat} (hs : s < 4) (hd : d < 4) (hn : sp + n ≤ 8) (hn2 : dp + n ≤ 8) : Rel (hK (wC h 23 s d sp dp n) s sp d dp n) := by
  refine R.she9 ?_ ?_ ?_ ?_
  · intro a; simp only [hK, hV_N, xN_wC]
  · intro a b c; simp only [hK, hV_P, xP_wC]
  · intro t a1 a2 a3 a4 a5 a6 b c
    rw [hK_I _ _ _ _ _ _ _ _ _ a6, if_neg (fun q => a5 q.1), xI_wC, if_neg (fun q => a2 q.1)]
  · intro s' hs'
    obtain ⟨w1, w2, w3, w4, w5⟩ := R.2.2.2.2.2.2.2 s' hs'
    have f6 : ∀ c, gI (hK (wC h 23 s d sp dp n) s sp d dp n) 6 s' c = gI h 6 s' c := fun c => by rw [hK_I _ _ _ _ _ _ _ _ _ (by decide), if_neg (by omega), xI_wC, if_neg (by omega)]
    have f49 : gI (hK (wC h 23 s d sp dp n) s sp d dp n) 49 0 s' = gI h 49 0 s' := by rw [hK_I _ _ _ _ _ _ _ _ _ (by decide), if_neg (by omega), xI_wC, if_neg (by omega)]
    have f50 : gI (hK (wC h 23 s d sp dp n) s sp d dp n) 50 0 s' = gI h 50 0 s' := by rw [hK_I _ _ _ _ _ _ _ _ _ (by decide), if_neg (by omega), xI_wC, if_neg (by omega)]
    simp only [f6, f49, f50]
    refine ⟨w1, w2, w3, w4, fun j hj => ?_⟩
    rw [hK_I _ _ _ _ _ _ _ _ _ (by decide), if_neg (by omega), xI_wC, hK_I _ _ _ _ _ _ _ _ _ (by decide)]
    by_cases e : s' = d ∧ dp ≤ j ∧ j < dp + n
    · obtain ⟨e1, e2, e3⟩ := e
      subst e1
      rw [if_pos ⟨rfl, rfl, e2, e3⟩, if_pos (by omega), xI_wC, if_neg (by omega)]
      have := (R.2.2.2.2.2.2.2 s hs).2.2.2.2 (sp + (j - dp)) (by omega)
      refine Eq.trans this ?_
      show gI h 51 0 _ = gI h 51 0 _
      congr 1
      omega
    · rw [if_neg (fun q => e ⟨q.2.1, q.2.2⟩), if_neg (by omega), xI_wC, if_neg (by omega)]
      exact w5 j hj
theorem ar3 {a n z : Int32} (hz : 0 ≤ z ∧ z ≤ 8) (q : 0 ≤ a ∧ 0 ≤ n ∧ a ≤ z ∧ n ≤ z - a) : ∃ i m : Nat, a = nI i ∧ n = nI m ∧ i + m ≤ 8 := by
  obtain ⟨c, hc, rfl⟩ := ofR (x := z) (n := 9) (by decide) hz.1 (Int32.lt_of_le_of_lt hz.2 (by decide))
  obtain ⟨j, hj, rfl⟩ := nI_of (Int32.not_lt.mpr q.1)
  obtain ⟨m, hm, rfl⟩ := nI_of (Int32.not_lt.mpr q.2.1)
  have q1 := (nIl (by omega) (by omega)).mp q.2.2.1
  have q2 := q.2.2.2
  rw [nI_sub (by omega), nIl (by omega) (by omega)] at q2
  exact ⟨j, m, rfl, rfl, by omega⟩
theorem p_copy {h : Hp} (R : Rel h) (a x b y n : Int32) : Pm h (f_X7_copy a x b y n) (f_X8_copy a x b y n) := by
  rcases R.sheet? a with ⟨s, hs, rfl, hsb, hc, h4, h3⟩ | ⟨hsb, h3⟩
  · rcases R.sheet? b with ⟨d, hd, rfl, hdb, hcd, h4d, h3d⟩ | ⟨hdb, h3d⟩
    · obtain ⟨q1, q2, q3, q4, q5⟩ := R.2.2.2.2.2.2.2 s hs
      obtain ⟨w1, w2, w3, w4, w5⟩ := R.2.2.2.2.2.2.2 d hd
      simp only at q1 q2 q3 q4 q5 w1 w2 w3 w4 w5
      have zs : 0 ≤ gI h 6 s 2 ∧ gI h 6 s 2 ≤ 8 := by rw [q2]; exact q4
      have zd : 0 ≤ gI h 6 d 2 ∧ gI h 6 d 2 ≤ 8 := by rw [w2]; exact w4
      have F49 : ∀ c, gI (hcF h) 49 0 c = gI h 49 0 c := fun _ => rfl
      have F50 : ∀ c, gI (hcF h) 50 0 c = gI h 50 0 c := fun _ => rfl
      by_cases m1 : gI h 49 0 s = 0
      · refine Pm.find R (-1000006) ?_ ?_
        · simp only [f_X7_copy, hsb, hdb, bnd_some, e_missing, q1, decide_eq_true m1, if_true, c_find (c := -1000006) (by decide)]
        · simp only [f_X8_copy, m_isSheet, bnd_some, decide_eq_true h3, decide_eq_true h3d, if_true, if_pos h4, hc, F49, if_pos m1, fnd_eta]
      · by_cases m2 : gI h 49 0 d = 0
        · refine Pm.find R (-1000006) ?_ ?_
          · simp only [f_X7_copy, hsb, hdb, bnd_some, e_missing, q1, w1, decide_eq_false m1, decide_eq_true m2, if_true, c_find (c := -1000006) (by decide)]
            rfl
          · simp only [f_X8_copy, m_isSheet, bnd_some, decide_eq_true h3, decide_eq_true h3d, if_true, if_pos h4, if_pos h4d, hc, hcd, F49, if_neg m1, if_pos m2, fnd_eta]
        · by_cases m3 : gI h 49 0 s = gI h 49 0 d
          · by_cases C : (0 ≤ x ∧ 0 ≤ n ∧ x ≤ gI h 50 0 s ∧ n ≤ gI h 50 0 s - x) ∧ (0 ≤ y ∧ 0 ≤ n ∧ y ≤ gI h 50 0 d ∧ n ≤ gI h 50 0 d - y)
            · obtain ⟨sp, k, rfl, rfl, hn⟩ := ar3 q4 C.1
              obtain ⟨dp, k', rfl, ek, hn2⟩ := ar3 w4 C.2
              obtain rfl : k' = k := by
                have kb : k < 2 ^ 31 ∧ k' < 2 ^ 31 := by omega
                exact ((nI_eq kb.1 kb.2).mp ek).symm
              have c1 : (nI sp).toNatClampNeg = sp := nI_clamp (by omega)
              have c2 : (nI dp).toNatClampNeg = dp := nI_clamp (by omega)
              have c3 : (nI k').toNatClampNeg = k' := nI_clamp (by omega)
              have a23 : alen 23 = 8 := by decide
              have G49 : ∀ c, gI (wC h 23 s d sp dp k') 49 0 c = gI h 49 0 c := fun c => by rw [xI_wC, if_neg (by omega)]
              have G50 : ∀ c, gI (wC h 23 s d sp dp k') 50 0 c = gI h 50 0 c := fun c => by rw [xI_wC, if_neg (by omega)]
              refine Pm.mk (v := nI k') (h1 := wC h 23 s d sp dp k') (h2 := hK (wC h 23 s d sp dp k') s sp d dp k') ?_ ?_ (r_copy R hs hd hn hn2) (fun i => ?_) (fun i => ?_)
              · simp only [f_X7_copy, hsb, hdb, bnd_some, e_missing, q1, w1, decide_eq_false m1, decide_eq_false m2, if_pos m3, e_hasNum zs, e_hasNum zd, q2, w2, decide_eq_true C.1, decide_eq_true C.2, if_true, c1, c2, c3, a23, if_pos (show 0 ≤ nI sp ∧ 0 ≤ nI dp ∧ 0 ≤ nI k' ∧ sp + k' ≤ 8 ∧ dp + k' ≤ 8 from ⟨C.1.1, C.2.1, C.1.2.1, hn, hn2⟩)]
                rfl
              · simp only [f_X8_copy, m_isSheet, bnd_some, decide_eq_true h3, decide_eq_true h3d, if_true, if_pos h4, if_pos h4d, hc, hcd, G49, G50, if_neg m1, if_neg m2, if_pos m3, fnd_eta]
                rw [cp_cond q4 w4, if_pos C]
                exact m_copyL _ hs hd hn hn2
              · rw [hK_I _ _ _ _ _ _ _ _ _ (by decide), if_neg (by omega), xI_wC, if_neg (by omega)]
              · rw [hK_I _ _ _ _ _ _ _ _ _ (by decide), if_neg (by omega), xI_wC, if_neg (by omega)]
            · refine Pm.find R (-1000001) ?_ ?_
              · simp only [f_X7_copy, hsb, hdb, bnd_some, e_missing, q1, w1, decide_eq_false m1, decide_eq_false m2, if_pos m3, e_hasNum zs, e_hasNum zd, q2, w2, c_find (c := -1000001) (by decide)]
                by_cases C1 : (0 ≤ x ∧ 0 ≤ n ∧ x ≤ gI h 50 0 s ∧ n ≤ gI h 50 0 s - x)
                · rw [decide_eq_true C1, decide_eq_false (fun q => C ⟨C1, q⟩)]
                  rfl
                · rw [decide_eq_false C1]
                  rfl
              · simp only [f_X8_copy, m_isSheet, bnd_some, decide_eq_true h3, decide_eq_true h3d, if_true, if_pos h4, if_pos h4d, hc, hcd, F49, F50, if_neg m1, if_neg m2, if_pos m3, fnd_eta]
                rw [cp_cond q4 w4, if_neg C]
          · refine Pm.find R (-1000003) ?_ ?_
            · simp only [f_X7_copy, hsb, hdb, bnd_some, e_missing, q1, w1, decide_eq_false m1, decide_eq_false m2, if_neg m3, c_find (c := -1000003) (by decide)]
              rfl
            · simp only [f_X8_copy, m_isSheet, bnd_some, decide_eq_true h3, decide_eq_true h3d, if_true, if_pos h4, if_pos h4d, hc, hcd, F49, if_neg m1, if_neg m2, if_neg m3, fnd_eta]
    · refine Pm.find R (-1000001) ?_ ?_
      · simp only [f_X7_copy, hsb, hdb, bnd_some, c_find (c := -1000001) (by decide)]
      · simp only [f_X8_copy, m_isSheet, bnd_some, decide_eq_true h3, decide_eq_false h3d, if_true, fnd_eta]
        rfl
  · refine Pm.find R (-1000001) ?_ ?_
    · rcases R.sheet? b with ⟨d, hd, rfl, hdb, hcd, h4d, h3d⟩ | ⟨hdb, h3d⟩
      · simp only [f_X7_copy, hsb, hdb, bnd_some, c_find (c := -1000001) (by decide)]
      · simp only [f_X7_copy, hsb, hdb, bnd_some, c_find (c := -1000001) (by decide)]
    · simp only [f_X8_copy, m_isSheet, bnd_some, decide_eq_false h3, fnd_eta]
      rfl
