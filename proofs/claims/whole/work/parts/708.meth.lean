/-! ===== two heaps: the class's part of one, the reference's part of the other ===== -/
def cT (t : Nat) : Bool := !(t == 8) && Nat.blt t 30
def ov (m c : Hp) : Hp := (gN c, (fun t => if cT t = true then gI c t else gI m t), gL c, gP c)
theorem xI_ov (m c : Hp) (t : Nat) : gI (ov m c) t = if cT t = true then gI c t else gI m t := (rfl)
theorem xN_ov (m c : Hp) : gN (ov m c) = gN c := (rfl)
theorem xP_ov (m c : Hp) : gP (ov m c) = gP c := (rfl)
theorem xIc {m c : Hp} {t : Nat} (ht : cT t = true) : gI (ov m c) t = gI c t := by rw [xI_ov, if_pos ht]
theorem xIm {m c : Hp} {t : Nat} (ht : cT t = false) : gI (ov m c) t = gI m t := by rw [xI_ov, if_neg (by rw [ht]; decide)]
def CP (m c : Hp) : Prop := gN m = gN c ∧ gL m = gL c ∧ gP m = gP c ∧ ∀ t, cT t = true → gI m t = gI c t
def MP (m c : Hp) : Prop := ∀ t, cT t = false → gI m t = gI c t
theorem ov_c {m c : Hp} (P : MP m c) : ov m c = c := by
  unfold ov
  have : (fun t => if cT t = true then gI c t else gI m t) = gI c := by
    funext t
    by_cases q : cT t = true
    · rw [if_pos q]
    · rw [if_neg q, P t (by simpa using q)]
  rw [this]
  rfl
theorem ov_m {m c : Hp} (P : CP m c) : ov m c = m := by
  unfold ov
  have : (fun t => if cT t = true then gI c t else gI m t) = gI m := by
    funext t
    by_cases q : cT t = true
    · rw [if_pos q, P.2.2.2 t q]
    · rw [if_neg q]
  rw [this, ← P.1, ← P.2.1, ← P.2.2.1]
  rfl
theorem CP.rfl' (h : Hp) : CP h h := ⟨rfl, rfl, rfl, fun _ _ => rfl⟩
theorem CP.trans {a b c : Hp} (A : CP a b) (B : CP b c) : CP a c := ⟨A.1.trans B.1, A.2.1.trans B.2.1, A.2.2.1.trans B.2.2.1, fun t ht => (A.2.2.2 t ht).trans (B.2.2.2 t ht)⟩
theorem MP.trans {a b c : Hp} (A : MP a b) (B : MP b c) : MP a c := fun t ht => (A t ht).trans (B t ht)
theorem MP.w {h : Hp} {t i k : Nat} {v : Int32} (ht : cT t = true) : MP (wI h t i k v) h := by
  intro a ha
  funext b c
  rw [xI_wI, if_neg]
  rintro ⟨rfl, -⟩
  rw [ht] at ha
  exact absurd ha (by decide)
theorem CP.w {h : Hp} {t i k : Nat} {v : Int32} (ht : cT t = false) : CP (wI h t i k v) h := by
  refine ⟨rfl, rfl, rfl, fun a ha => ?_⟩
  funext b c
  rw [xI_wI, if_neg]
  rintro ⟨rfl, -⟩
  rw [ht] at ha
  exact absurd ha (by decide)
/-- what the class's readers read -/
def CE (h h' : Hp) : Prop := gN h = gN h' ∧ gP h = gP h' ∧ ∀ t, cT t = true → gI h t = gI h' t
theorem CE.ov (m c : Hp) : CE c (ov m c) := ⟨rfl, rfl, fun t ht => (xIc ht).symm⟩
/-- growth of what stands in the hours late and the times moved -/
def Gw (a m : Nat) (h h2 : Hp) : Prop := ∀ i, i < 8 → (∃ x, x ≤ a ∧ gI h2 41 0 i = gI h 41 0 i + nI x) ∧ (∃ y, y ≤ m ∧ gI h2 42 0 i = gI h 42 0 i + nI y)
theorem Gw.rfl' (h : Hp) : Gw 0 0 h h := fun i _ => ⟨⟨0, by omega, (Int32.add_zero _).symm⟩, ⟨0, by omega, (Int32.add_zero _).symm⟩⟩
theorem Gw.trans {a m a' m' : Nat} {h h1 h2 : Hp} (A : Gw a m h h1) (B : Gw a' m' h1 h2) : Gw (a + a') (m + m') h h2 := by
  intro i hi
  obtain ⟨⟨x, hx, ex⟩, ⟨y, hy, ey⟩⟩ := A i hi
  obtain ⟨⟨x', hx', ex'⟩, ⟨y', hy', ey'⟩⟩ := B i hi
  refine ⟨⟨x + x', by omega, ?_⟩, ⟨y + y', by omega, ?_⟩⟩
  · rw [ex', ex, Int32.add_assoc, nI_add]
  · rw [ey', ey, Int32.add_assoc, nI_add]
theorem Gw.le {a m a' m' : Nat} {h h1 : Hp} (A : Gw a m h h1) (h1' : a ≤ a') (h2' : m ≤ m') : Gw a' m' h h1 := by
  intro i hi
  obtain ⟨⟨x, hx, ex⟩, ⟨y, hy, ey⟩⟩ := A i hi
  exact ⟨⟨x, by omega, ex⟩, ⟨y, by omega, ey⟩⟩
theorem Gw.gr {h h2 : Hp} (A : Gw 24 200 h h2) : Gr h h2 := by
  intro n hn B i hi
  obtain ⟨⟨x, hx, ex⟩, ⟨y, hy, ey⟩⟩ := A i hi
  obtain ⟨⟨b1, b2⟩, ⟨b3, b4⟩⟩ := B i hi
  obtain ⟨p, hp, ep⟩ := nI_of (Int32.not_lt.mpr b1)
  obtain ⟨q, hq, eq⟩ := nI_of (Int32.not_lt.mpr b3)
  rw [ep] at b2 ex
  rw [eq] at b4 ey
  have l1 := (nIl (by omega) (by omega)).mp b2
  have l2 := (nIl (by omega) (by omega)).mp b4
  rw [ex, ey, nI_add, nI_add]
  exact ⟨⟨(nIr (n := p + x) (k := 10000000) (by omega) (by omega)).1, (nIl (by omega) (by omega)).mpr (by omega)⟩, ⟨(nIr (n := q + y) (k := 10000000) (by omega) (by omega)).1, (nIl (by omega) (by omega)).mpr (by omega)⟩⟩
/-- class and reference, each on its own heap -/
def Sm (a m : Nat) (f g : Hp → Option (Int32 × Hp)) : Prop := ∀ hc hm, Rel (ov hm hc) → ∃ v hc' hm', f hc = some (v, hc') ∧ g hm = some (v, hm') ∧ Rel (ov hm' hc') ∧ MP hc' hc ∧ CP hm' hm ∧ Gw a m hm hm'
theorem Sm.pm {a m : Nat} {f g : Hp → Option (Int32 × Hp)} (S : Sm a m f g) (ha : a ≤ 24) (hm : m ≤ 200) {h : Hp} (R : Rel h) : Pm h f g := by
  obtain ⟨v, hc, -, e1, -, -, mp, -, -⟩ := S h h (by rw [ov_c (fun _ _ => rfl)]; exact R)
  obtain ⟨v', hc', hm', f1, f2, R2, mp', cp', gw⟩ := S h hc (by rw [ov_c mp]; exact R)
  have := e1.symm.trans f1
  cases this
  have R3 : Rel hm' := by rw [ov_m cp'] at R2; exact R2
  refine ⟨v, hc, hm', e1, f2, R3, ?_⟩
  refine Gw.gr ((Gw.le ?_ ha hm))
  intro i hi
  have := gw i hi
  rw [mp 41 rfl, mp 42 rfl] at this
  exact this
/-! ===== boats of a berth moved by one ===== -/
def hMv (h : Hp) (P : Nat → Bool) (d : Int32) : Nat → Hp
  | 0 => h
  | m + 1 => if P m = true then wI (wI (hMv h P d m) 1 m 9 (gI h 1 m 9 + d)) 1 m 11 (gI h 1 m 11 + 1) else hMv h P d m
theorem hMv_I (h : Hp) (P : Nat → Bool) (d : Int32) (t i k : Nat) : ∀ m, gI (hMv h P d m) t i k = if t = 1 ∧ i < m ∧ P i = true ∧ k = 9 then gI h 1 i 9 + d else if t = 1 ∧ i < m ∧ P i = true ∧ k = 11 then gI h 1 i 11 + 1 else gI h t i k
  | 0 => by
    rw [if_neg (by omega), if_neg (by omega)]
    rfl
  | m + 1 => by
    rw [hMv]
    by_cases p : P m = true
    · rw [if_pos p, xI_wI, xI_wI, hMv_I h P d t i k m]
      by_cases e : t = 1 ∧ i = m
      · obtain ⟨rfl, rfl⟩ := e
        by_cases k9 : k = 9
        · subst k9
          rw [if_neg (by omega), if_pos ⟨rfl, rfl, rfl⟩, if_pos ⟨rfl, by omega, p, rfl⟩]
        · by_cases k11 : k = 11
          · subst k11
            rw [if_pos ⟨rfl, rfl, rfl⟩, if_neg (by omega), if_pos ⟨rfl, by omega, p, rfl⟩]
          · rw [if_neg (by omega), if_neg (by omega), if_neg (by omega), if_neg (by omega), if_neg (by omega), if_neg (by omega)]
      · rw [if_neg (by omega), if_neg (by omega)]
        have : ∀ c, (t = 1 ∧ i < m ∧ P i = true ∧ k = c) ↔ (t = 1 ∧ i < m + 1 ∧ P i = true ∧ k = c) := fun c => by
          constructor
          · rintro ⟨a1, a2, a3⟩; exact ⟨a1, by omega, a3⟩
          · rintro ⟨a1, a2, a3⟩; exact ⟨a1, by omega, a3⟩
        simp only [this]
    · rw [if_neg p, hMv_I h P d t i k m]
      have : ∀ c, (t = 1 ∧ i < m ∧ P i = true ∧ k = c) ↔ (t = 1 ∧ i < m + 1 ∧ P i = true ∧ k = c) := fun c => by
        constructor
        · rintro ⟨a1, a2, a3⟩; exact ⟨a1, by omega, a3⟩
        · rintro ⟨a1, a2, a3, a4⟩
          refine ⟨a1, ?_, a3, a4⟩
          by_cases e : i = m
          · subst e; exact absurd a3 p
          · omega
      simp only [this]
theorem hMv_N (h : Hp) (P : Nat → Bool) (d : Int32) : ∀ m, gN (hMv h P d m) = gN h ∧ gP (hMv h P d m) = gP h ∧ MP (hMv h P d m) h ∧ Fr h (hMv h P d m)
  | 0 => ⟨rfl, rfl, fun _ _ => rfl, Fr.rfl' h⟩
  | m + 1 => by
    have := hMv_N h P d m
    rw [hMv]
    by_cases p : P m = true
    · rw [if_pos p]
      exact ⟨this.1, this.2.1, ((MP.w rfl).trans (MP.w rfl)).trans this.2.2.1, this.2.2.2.trans ((Fr.w rfl).trans (Fr.w rfl))⟩
    · rw [if_neg p]
      exact this
def onB (b : Bool) : Int32 := if b = true then 1 else 0
theorem L_mv {h : Hp} (S : BoA h) (P : Nat → Bool) (x1 x2 d : Int32) (hP : ∀ i, i < 8 → P i = decide (i < gN h 1 ∧ gI h 1 i 8 = x1 ∧ ¬ gI h 1 i 9 < x2)) : ∀ (m n j : Nat) (acc : Int32), j + m = 8 → m < n →
    fL_X5_moveFrom_17 n x1 x2 d acc 8 (nI j) (hMv h P d j) = some (acc + (sm (fun i => onB (P i)) 8 - sm (fun i => onB (P i)) j), wI (hMv h P d 8) 5 0 5 (gI h 5 0 5 + (acc + (sm (fun i => onB (P i)) 8 - sm (fun i => onB (P i)) j)))) := by
  intro m
  induction m with
  | zero =>
    intro n j acc hj hn
    obtain ⟨n, rfl⟩ : ∃ k, n = k + 1 := ⟨n - 1, by omega⟩
    obtain rfl : j = 8 := by omega
    rw [fL_X5_moveFrom_17, if_pos (by decide), Int32.sub_self, Int32.add_zero, hMv_I, if_neg (by omega), if_neg (by omega)]
  | succ m ih =>
    intro n j acc hj hn
    obtain ⟨n, rfl⟩ : ∃ k, n = k + 1 := ⟨n - 1, by omega⟩
    have e1 : sm (fun i => onB (P i)) (j + 1) = sm (fun i => onB (P i)) j + onB (P j) := rfl
    have i1 := fun acc => ih n (j + 1) acc (by omega) (by omega)
    have hS := S j (by omega)
    have hc : (nI j).toNatClampNeg = j := nI_clamp (by omega)
    have h8 : ¬ (8 : Int32) ≤ nI j := fun q => by have := (nIl (n := 8) (by omega) (by omega)).mp q; omega
    have h0 : 0 ≤ nI j ∧ nI j < 8 := nIr (k := 8) (by omega) (by omega)
    have g8 : gI (hMv h P d j) 1 j 8 = gI h 1 j 8 := by rw [hMv_I, if_neg (by omega), if_neg (by omega)]
    have g9 : gI (hMv h P d j) 1 j 9 = gI h 1 j 9 := by rw [hMv_I, if_neg (by omega), if_neg (by omega)]
    have g11 : gI (hMv h P d j) 1 j 11 = gI h 1 j 11 := by rw [hMv_I, if_neg (by omega), if_neg (by omega)]
    have no : P j = false → fL_X5_moveFrom_17 n x1 x2 d acc 8 (nI (j + 1)) (hMv h P d j) = some (acc + (sm (fun i => onB (P i)) 8 - sm (fun i => onB (P i)) j), wI (hMv h P d 8) 5 0 5 (gI h 5 0 5 + (acc + (sm (fun i => onB (P i)) 8 - sm (fun i => onB (P i)) j)))) := by
      intro q
      have hv : hMv h P d (j + 1) = hMv h P d j := by rw [hMv, if_neg (by rw [q]; decide)]
      have := i1 acc
      rw [hv, e1, show onB (P j) = 0 by rw [q]; rfl, Int32.add_zero] at this
      exact this
    rw [fL_X5_moveFrom_17, if_neg h8, if_pos h0, hc, (hMv_N h P d j).2.1, hS, nI_s]
    by_cases hjt : j < gN h 1
    · rw [if_pos hjt]
      simp only []
      by_cases q1 : gI h 1 j 8 = x1
      · rw [g8, if_pos q1, g9]
        by_cases q2 : gI h 1 j 9 < x2
        · rw [if_pos q2]
          exact no (by rw [hP j (by omega)]; exact decide_eq_false (fun q => q.2.2 q2))
        · have pj : P j = true := by rw [hP j (by omega)]; exact decide_eq_true ⟨hjt, q1, q2⟩
          rw [if_neg q2, f_X1_moveBy, bnd_some, g9, xI_wI, if_neg (by omega), g11]
          have hv : hMv h P d (j + 1) = wI (wI (hMv h P d j) 1 j 9 (gI h 1 j 9 + d)) 1 j 11 (gI h 1 j 11 + 1) := by rw [hMv, if_pos pj]
          have := i1 (acc + 1)
          rw [hv, e1, show onB (P j) = 1 by rw [pj]; rfl, ac1] at this
          exact this
      · rw [g8, if_neg q1]
        exact no (by rw [hP j (by omega)]; exact decide_eq_false (fun q => q1 q.2.1))
    · rw [if_neg hjt]
      exact no (by rw [hP j (by omega)]; exact decide_eq_false (fun q => hjt q.1))
theorem c_moveFrom {h : Hp} (S : BoA h) (P : Nat → Bool) (x1 x2 d : Int32) (hP : ∀ i, i < 8 → P i = decide (i < gN h 1 ∧ gI h 1 i 8 = x1 ∧ ¬ gI h 1 i 9 < x2)) : f_X5_moveFrom x1 x2 d h = some (sm (fun i => onB (P i)) 8, wI (hMv h P d 8) 5 0 5 (gI h 5 0 5 + sm (fun i => onB (P i)) 8)) := by
  unfold f_X5_moveFrom
  refine (L_mv S P x1 x2 d hP 8 FU 0 0 (by omega) (FUb (by omega))).trans ?_
  have e0 : sm (fun i => onB (P i)) 0 = 0 := rfl
  rw [e0, z_add]
/-! ===== goes: the class ===== -/
def otB (h : Hp) (b k : Nat) (i : Nat) : Bool := decide (i < gN h 1 ∧ gI h 1 i 8 = nI b ∧ nI k < gI h 1 i 9)
def hA0 (h : Hp) (i : Nat) : Hp := wI (wI h 1 i 8 (-1)) 1 i 9 (-1)
def tkC (h : Hp) (i b k : Nat) : Hp := wI (hMv (hA0 h i) (otB h b k) (-1) 8) 5 0 5 (gI h 5 0 5 + sm (fun i => onB (otB h b k i)) 8)
theorem lt_k1 {y : Int32} {k : Nat} (hk : k < 1000) : (¬ y < nI (k + 1)) ↔ nI k < y := by
  have h1 := nI_toInt (n := k) (by omega)
  have h2 := nI_toInt (n := k + 1) (by omega)
  rw [Int32.lt_iff_toInt_lt, Int32.lt_iff_toInt_lt, h1, h2]
  omega
theorem nI_m1 {b : Nat} (hb : b < 1000) : ¬ (-1 : Int32) = nI b := by
  intro q
  have := (nIr (n := b) (k := 1000) (by omega) (by omega)).1
  rw [← q] at this
  exact absurd this (by decide)
theorem c_take {h : Hp} (S : BoA h) {i b k : Nat} (hb : b < 4) (hk : k < 6) (e8 : gI h 1 i 8 = nI b) (e9 : gI h 1 i 9 = nI k) : f_X5_takeAway i h = some (sm (fun i => onB (otB h b k i)) 8, tkC h i b k) := by
  have S0 : BoA (hA0 h i) := S
  have := c_moveFrom S0 (otB h b k) (nI b) (nI (k + 1)) (-1) (fun j hj => by
    unfold otB
    have a8 : gI (hA0 h i) 1 j 8 = if j = i then -1 else gI h 1 j 8 := by
      unfold hA0
      rw [xI_wI, if_neg (by omega), xI_wI]
      simp
    have a9 : gI (hA0 h i) 1 j 9 = if j = i then -1 else gI h 1 j 9 := by
      unfold hA0
      rw [xI_wI, xI_wI]
      simp
    rw [a8, a9, decide_eq_decide]
    by_cases e : j = i
    · subst e
      rw [if_pos rfl]
      exact ⟨fun q => by rw [e9] at q; exact absurd q.2.2 (by simp), fun q => absurd q.2.1 (nI_m1 (by omega))⟩
    · rw [if_neg e, if_neg e]
      have := lt_k1 (y := gI h 1 j 9) (k := k) (by omega)
      exact ⟨fun q => ⟨q.1, q.2.1, this.mpr q.2.2⟩, fun q => ⟨q.1, q.2.1, this.mp q.2.2⟩⟩)
  unfold f_X5_takeAway f_X1_layAt
  rw [bnd_some, e8, e9, nI_s]
  rw [show wI (wI h 1 i 8 (-1)) 1 i 9 (-1) = hA0 h i from rfl, this, bnd_some]
  have g5 : gI (hA0 h i) 5 0 5 = gI h 5 0 5 := by
    unfold hA0
    rw [xI_wI, if_neg (by omega), xI_wI, if_neg (by omega)]
  unfold tkC
  rw [g5]
theorem tkC_I (h : Hp) (i b k : Nat) (t j c : Nat) : gI (tkC h i b k) t j c = if t = 5 ∧ j = 0 ∧ c = 5 then gI h 5 0 5 + sm (fun i => onB (otB h b k i)) 8 else if t = 1 ∧ j < 8 ∧ otB h b k j = true ∧ c = 9 then gI (hA0 h i) 1 j 9 + (-1) else if t = 1 ∧ j < 8 ∧ otB h b k j = true ∧ c = 11 then gI (hA0 h i) 1 j 11 + 1 else gI (hA0 h i) t j c := by
  unfold tkC
  rw [xI_wI, hMv_I]
theorem hA0_I (h : Hp) (i : Nat) (t j c : Nat) : gI (hA0 h i) t j c = if t = 1 ∧ j = i ∧ (c = 8 ∨ c = 9) then -1 else gI h t j c := by
  unfold hA0
  rw [xI_wI, xI_wI]
  by_cases q1 : t = 1 ∧ j = i ∧ c = 9
  · rw [if_pos q1, if_pos ⟨q1.1, q1.2.1, Or.inr q1.2.2⟩]
  · rw [if_neg q1]
    by_cases q2 : t = 1 ∧ j = i ∧ c = 8
    · rw [if_pos q2, if_pos ⟨q2.1, q2.2.1, Or.inl q2.2.2⟩]
    · rw [if_neg q2, if_neg (by omega)]
theorem tkC_F (h : Hp) (i b k : Nat) : Fr h (tkC h i b k) ∧ MP (tkC h i b k) h := by
  have q := hMv_N (hA0 h i) (otB h b k) (-1) 8
  exact ⟨(((Fr.w rfl).trans (Fr.w rfl)).trans q.2.2.2).trans (Fr.w rfl), (MP.w rfl).trans (q.2.2.1.trans ((MP.w rfl).trans (MP.w rfl)))⟩
/-! ===== goes: the reference ===== -/
def hLv (g : Hp) (b k0 : Nat) (rw : Nat → Nat) : Nat → Hp
  | 0 => g
  | m + 1 => wI (wI (wI (hLv g b k0 rw m) 44 0 (6 * b + k0 + m) (nI (rw m))) 42 0 (rw m) (gI (hLv g b k0 rw m) 42 0 (rw m) + 1)) 8 0 16 (gI (hLv g b k0 rw m) 8 0 16 + 1)
def nOf (rw : Nat → Nat) (i : Nat) (m : Nat) : Int32 := sm (fun j => if rw j = i then 1 else 0) m
theorem hLv_I (g : Hp) (b k0 : Nat) (rw : Nat → Nat) (t i k : Nat) : ∀ m, gI (hLv g b k0 rw m) t i k = if t = 44 ∧ i = 0 ∧ 6 * b + k0 ≤ k ∧ k < 6 * b + k0 + m then nI (rw (k - (6 * b + k0))) else if t = 42 ∧ i = 0 then gI g 42 0 k + nOf rw k m else if t = 8 ∧ i = 0 ∧ k = 16 then gI g 8 0 16 + nI m else gI g t i k
  | 0 => by
    rw [if_neg (by omega)]
    show gI g t i k = _
    by_cases q : t = 42 ∧ i = 0
    · rw [if_pos q, q.1, q.2]
      exact (Int32.add_zero _).symm
    · rw [if_neg q]
      by_cases q2 : t = 8 ∧ i = 0 ∧ k = 16
      · rw [if_pos q2, q2.1, q2.2.1, q2.2.2]
        exact (Int32.add_zero _).symm
      · rw [if_neg q2]
  | m + 1 => by
    rw [hLv, xI_wI, xI_wI, xI_wI, hLv_I g b k0 rw t i k m, hLv_I g b k0 rw 42 0 (rw m) m, hLv_I g b k0 rw 8 0 16 m, if_neg (show ¬ (8 = 44 ∧ 0 = 0 ∧ _) by omega), if_neg (show ¬ (8 = 42 ∧ 0 = 0) by omega), if_pos (show 8 = 8 ∧ 0 = 0 ∧ 16 = 16 from ⟨rfl, rfl, rfl⟩), if_neg (show ¬ (42 = 44 ∧ 0 = 0 ∧ _) by omega), if_pos (show 42 = 42 ∧ 0 = 0 from ⟨rfl, rfl⟩)]
    by_cases q8 : t = 8 ∧ i = 0 ∧ k = 16
    · rw [if_pos q8, if_neg (by omega), if_neg (by omega), if_pos q8, Int32.add_assoc, nI_s]
    · rw [if_neg q8]
      by_cases q42 : t = 42 ∧ i = 0
      · have en : nOf rw k (m + 1) = nOf rw k m + (if rw m = k then 1 else 0) := rfl
        by_cases e : k = rw m
        · rw [if_pos ⟨q42.1, q42.2, e⟩, if_neg (by omega), if_pos q42, en, if_pos e.symm, ← e, Int32.add_assoc]
        · rw [if_neg (fun q => e q.2.2), if_neg (by omega), if_neg (by omega), if_pos q42, if_neg (by omega), if_pos q42, en, if_neg (fun q => e q.symm), Int32.add_zero]
      · rw [if_neg (fun q => q42 ⟨q.1, q.2.1⟩)]
        by_cases q44 : t = 44 ∧ i = 0 ∧ k = 6 * b + k0 + m
        · rw [if_pos q44, if_pos (by omega), show k - (6 * b + k0) = m by omega]
        · rw [if_neg q44]
          by_cases q3 : t = 44 ∧ i = 0 ∧ 6 * b + k0 ≤ k ∧ k < 6 * b + k0 + m
          · rw [if_pos q3, if_pos (by omega)]
          · rw [if_neg q3, if_neg q42, if_neg (c := t = 44 ∧ i = 0 ∧ 6 * b + k0 ≤ k ∧ k < 6 * b + k0 + (m + 1)) (by omega), if_neg q42, if_neg q8, if_neg q8]
theorem hLv_F (g : Hp) (b k0 : Nat) (rw : Nat → Nat) : ∀ m, Fr g (hLv g b k0 rw m) ∧ CP (hLv g b k0 rw m) g
  | 0 => ⟨Fr.rfl' g, CP.rfl' g⟩
  | m + 1 => by
    have q := hLv_F g b k0 rw m
    rw [hLv]
    exact ⟨q.1.trans (((Fr.w rfl).trans (Fr.w rfl)).trans (Fr.w rfl)), (((CP.w rfl).trans (CP.w rfl)).trans (CP.w rfl)).trans q.2⟩
theorem m_counts {h : Hp} {r : Nat} (hr : r < 8) : f_X8_counts (nI r) h = some (wI (wI h 42 0 r (gI h 42 0 r + 1)) 8 0 16 (gI h 8 0 16 + 1)) := by
  have h8 : 0 ≤ nI r ∧ nI r < 8 := nIr (k := 8) hr (by omega)
  unfold f_X8_counts
  rw [if_pos h8, if_pos h8, nI_clamp (by omega), xI_wI, if_neg (by omega)]
theorem L_lv {g : Hp} {b k0 c : Nat} (hb : b < 4) (hc : c ≤ 5) (hk : k0 ≤ c) (e43 : gI g 43 0 b = nI c) (rw : Nat → Nat) (x3 : Int32) (hr : ∀ j, k0 + j < c → rw j < 8 ∧ gI g 44 0 (6 * b + k0 + j + 1) = nI (rw j)) : ∀ (m n j : Nat), k0 + j + m = c → m < n → fL_X8_leavesNow_30 n (nI b) x3 (nI (6 * b + k0 + j)) (hLv g b k0 rw j) = some (x3, hLv g b k0 rw (c - k0)) := by
  have h4 : 0 ≤ nI b ∧ nI b < 4 := nIr (k := 4) (by omega) (by omega)
  have cb : (nI b).toNatClampNeg = b := nI_clamp (by omega)
  have f43 : ∀ j, gI (hLv g b k0 rw j) 43 0 b = nI c := fun j => by rw [hLv_I, if_neg (by omega), if_neg (by omega), if_neg (by omega), e43]
  intro m
  induction m with
  | zero =>
    intro n j hj hn
    obtain ⟨n, rfl⟩ : ∃ k, n = k + 1 := ⟨n - 1, by omega⟩
    rw [fL_X8_leavesNow_30, if_pos h4, cb, f43, i6, if_pos ((nIl (by omega) (by omega)).mpr (by omega)), show j = c - k0 by omega]
  | succ m ih =>
    intro n j hj hn
    obtain ⟨n, rfl⟩ : ∃ k, n = k + 1 := ⟨n - 1, by omega⟩
    obtain ⟨r8, er⟩ := hr j (by omega)
    have a1 : 0 ≤ nI (6 * b + k0 + j + 1) ∧ nI (6 * b + k0 + j + 1) < 24 := nIr (k := 24) (by omega) (by omega)
    have a2 : 0 ≤ nI (6 * b + k0 + j) ∧ nI (6 * b + k0 + j) < 24 := nIr (k := 24) (by omega) (by omega)
    have f44 : gI (hLv g b k0 rw j) 44 0 (6 * b + k0 + j + 1) = nI (rw j) := by rw [hLv_I, if_neg (by omega), if_neg (by omega), if_neg (by omega), er]
    rw [fL_X8_leavesNow_30, if_pos h4, cb, f43, i6, if_neg (fun q => by have := (nIl (by omega) (by omega)).mp q; omega), nI_s, if_pos a1, if_pos a2, if_pos a2, nI_clamp (n := 6 * b + k0 + j) (by omega), nI_clamp (n := 6 * b + k0 + j + 1) (by omega), f44, xI_wI, if_pos ⟨rfl, rfl, rfl⟩, m_counts r8, bnd_some, xI_wI, if_neg (by omega), xI_wI, if_neg (by omega)]
    have := ih n (j + 1) (by omega) (by omega)
    rw [hLv] at this
    exact this
def lvM (h : Hp) (b k : Nat) : Hp := hLv (wI h 43 0 b (nI (cnA h b - 1))) b k (fun j => rwA h b (k + j + 1)) (cnA h b - 1 - k)
theorem m_leave {nb nt : Nat} {h : Hp} (M : RM nb nt h) {b k : Nat} (hb : b < nb) (hk : k < cnA h b) : f_X8_leavesNow (nI (6 * b + k)) h = some (nI (cnA h b - 1 - k), lvM h b k) := by
  obtain ⟨hB, hT, e0, e6, hc, hr, hd⟩ := M
  obtain ⟨c6, e43⟩ := hc b hb
  have h4 : 0 ≤ nI b ∧ nI b < 4 := nIr (k := 4) (by omega) (by omega)
  have cb : (nI b).toNatClampNeg = b := nI_clamp (by omega)
  have d := div6 (b := b) (k := k) (by omega) (by omega)
  unfold f_X8_leavesNow
  rw [d.2, d.1, if_pos h4, if_pos h4, if_pos h4, cb, e43, xI_wI, if_pos ⟨rfl, rfl, rfl⟩, show (1 : Int32) = nI 1 from rfl, nI_sub (by omega), nI_sub (by omega)]
  exact L_lv (g := wI h 43 0 b (nI (cnA h b - 1))) (c := cnA h b - 1) (by omega) (by omega) (by omega) (by rw [xI_wI, if_pos ⟨rfl, rfl, rfl⟩]) (fun j => rwA h b (k + j + 1)) _ (fun j hj => by
    have := hr b (k + j + 1) hb (by omega)
    refine ⟨by omega, ?_⟩
    rw [xI_wI, if_neg (by omega), show 6 * b + k + j + 1 = 6 * b + (k + j + 1) by omega]
    exact this.2) (cnA h b - 1 - k) FU 0 (by omega) (FUb (by omega))
theorem lvM_I (h : Hp) (b k : Nat) (t i c : Nat) : gI (lvM h b k) t i c = if t = 44 ∧ i = 0 ∧ 6 * b + k ≤ c ∧ c < 6 * b + k + (cnA h b - 1 - k) then nI (rwA h b (k + (c - (6 * b + k)) + 1)) else if t = 42 ∧ i = 0 then gI h 42 0 c + nOf (fun j => rwA h b (k + j + 1)) c (cnA h b - 1 - k) else if t = 8 ∧ i = 0 ∧ c = 16 then gI h 8 0 16 + nI (cnA h b - 1 - k) else if t = 43 ∧ i = 0 ∧ c = b then nI (cnA h b - 1) else gI h t i c := by
  unfold lvM
  rw [hLv_I, xI_wI, xI_wI, xI_wI, if_neg (show ¬ (42 = 43 ∧ 0 = 0 ∧ c = b) by omega), if_neg (show ¬ (8 = 43 ∧ 0 = 0 ∧ 16 = b) by omega)]
theorem lvM_F (h : Hp) (b k : Nat) : Fr h (lvM h b k) ∧ CP (lvM h b k) h := by
  have q := hLv_F (wI h 43 0 b (nI (cnA h b - 1))) b k (fun j => rwA h b (k + j + 1)) (cnA h b - 1 - k)
  exact ⟨(Fr.w rfl).trans q.1, q.2.trans (CP.w rfl)⟩
