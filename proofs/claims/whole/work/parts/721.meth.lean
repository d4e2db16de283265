/-! ===== the reference's search: its steps ===== -/
def fsT (t k : Nat) : Bool := (Nat.ble 53 t && Nat.ble t 59) || (t == 8 && Nat.ble 38 k)
def Fs (h h' : Hp) : Prop := CP h' h ∧ (∀ t, (t < 53 ∨ 59 < t) → t ≠ 8 → gI h' t = gI h t) ∧ (∀ c, c < 38 → gI h' 8 0 c = gI h 8 0 c)
theorem Fs.rfl' (h : Hp) : Fs h h := ⟨CP.rfl' h, fun _ _ _ => rfl, fun _ _ => rfl⟩
theorem Fs.trans {a b c : Hp} (X : Fs a b) (Y : Fs b c) : Fs a c := ⟨Y.1.trans X.1, fun t h1 h2 => (Y.2.1 t h1 h2).trans (X.2.1 t h1 h2), fun k hk => (Y.2.2 k hk).trans (X.2.2 k hk)⟩
theorem Fs.w {h : Hp} {t i k : Nat} {v : Int32} (ht : fsT t k = true) : Fs h (wI h t i k v) := by
  unfold fsT at ht
  simp only [Bool.or_eq_true, Bool.and_eq_true, Nat.ble_eq, beq_iff_eq] at ht
  refine ⟨CP.w ?_, fun a h1 h2 => ?_, fun c hc => ?_⟩
  · unfold cT
    rcases ht with ⟨h1, h2⟩ | ⟨h1, h2⟩
    · have : Nat.blt t 30 = false := by
        rw [Bool.eq_false_iff]
        intro w
        have : Nat.ble (t + 1) 30 = true := w
        rw [Nat.ble_eq] at this
        omega
      rw [this, Bool.and_false]
    · subst h1
      rfl
  · funext b c
    rw [xI_wI, if_neg (by omega)]
  · rw [xI_wI, if_neg (by omega)]
def go2 (h : Hp) (T0 T1 : Nat) : Hp := wI (wI h 56 0 T1 (gI h 56 0 T0)) 57 0 T1 (gI (wI h 56 0 T1 (gI h 56 0 T0)) 57 0 T0)
def go4 (h : Hp) (T0 T1 : Nat) : Hp := wI (wI (go2 h T0 T1) 54 0 T1 ((gI (go2 h T0 T1) 54 0 T0) + (1 : Int32))) 55 0 T1 (0 : Int32)
def go5 (h : Hp) (T0 T1 I0 : Nat) : Hp := wI (go2 h T0 T1) 58 0 I0 (((6 : Int32) * (gI (go2 h T0 T1) 54 0 T0)) + (gI (go2 h T0 T1) 55 0 T0))
def go6 (h : Hp) (T0 T1 I0 : Nat) : Hp := wI (go5 h T0 T1 I0) 54 0 T1 (gI (go5 h T0 T1 I0) 54 0 T0)
def go7 (h : Hp) (T0 T1 I0 : Nat) : Hp := wI (go6 h T0 T1 I0) 55 0 T1 ((gI (go6 h T0 T1 I0) 55 0 T0) + (1 : Int32))
def go8 (h : Hp) (T0 T1 I0 : Nat) (r1 : Int32) : Hp := wI (go7 h T0 T1 I0) 56 0 T1 ((gI (go7 h T0 T1 I0) 56 0 T1) + r1)
def go9 (h : Hp) (T0 T1 I0 : Nat) (x r1 : Int32) : Hp := wI (go8 h T0 T1 I0 r1) 57 0 T1 ((gI (go8 h T0 T1 I0 r1) 57 0 T1) ||| ((1 : Int32) <<< (x &&& 31)))
theorem goesOn_eq (x1 : Int32) (h : Hp) : f_X8_goesOn x1 h = (if 0 ≤ x1 ∧ x1 < 10 then (if 0 ≤ x1 ∧ x1 < 11 then (if 0 ≤ (x1 + (1 : Int32)) ∧ (x1 + (1 : Int32)) < 11 then (if 0 ≤ x1 ∧ x1 < 11 then (if 0 ≤ (x1 + (1 : Int32)) ∧ (x1 + (1 : Int32)) < 11 then (if (gI h 53 0 (Int32.toNatClampNeg x1)) = (6 : Int32) then (if 0 ≤ x1 ∧ x1 < 11 then (if 0 ≤ (x1 + (1 : Int32)) ∧ (x1 + (1 : Int32)) < 11 then (if 0 ≤ (x1 + (1 : Int32)) ∧ (x1 + (1 : Int32)) < 11 then (if 0 ≤ x1 ∧ x1 < 11 then (if (gI (go4 h (Int32.toNatClampNeg x1) (Int32.toNatClampNeg (x1 + (1 : Int32)))) 8 0 0) ≤ ((gI (go4 h (Int32.toNatClampNeg x1) (Int32.toNatClampNeg (x1 + (1 : Int32)))) 54 0 (Int32.toNatClampNeg x1)) + (1 : Int32)) then (some (false, (go4 h (Int32.toNatClampNeg x1) (Int32.toNatClampNeg (x1 + (1 : Int32)))))) else (some (true, (go4 h (Int32.toNatClampNeg x1) (Int32.toNatClampNeg (x1 + (1 : Int32))))))) else none) else none) else none) else none) else (if (gI (go2 h (Int32.toNatClampNeg x1) (Int32.toNatClampNeg (x1 + (1 : Int32)))) 8 0 31) ≤ (gI h 53 0 (Int32.toNatClampNeg x1)) then (some (false, (go2 h (Int32.toNatClampNeg x1) (Int32.toNatClampNeg (x1 + (1 : Int32)))))) else (if 0 ≤ x1 ∧ x1 < 11 then (if (((gI (go2 h (Int32.toNatClampNeg x1) (Int32.toNatClampNeg (x1 + (1 : Int32)))) 57 0 (Int32.toNatClampNeg x1)) >>> ((gI h 53 0 (Int32.toNatClampNeg x1)) &&& 31)) &&& (1 : Int32)) = (1 : Int32) then (some (false, (go2 h (Int32.toNatClampNeg x1) (Int32.toNatClampNeg (x1 + (1 : Int32)))))) else (if (gI (go2 h (Int32.toNatClampNeg x1) (Int32.toNatClampNeg (x1 + (1 : Int32)))) 8 0 0) = 0 then (some (false, (go2 h (Int32.toNatClampNeg x1) (Int32.toNatClampNeg (x1 + (1 : Int32)))))) else ((f_X8_pairsWith x1 (gI h 53 0 (Int32.toNatClampNeg x1)) (go2 h (Int32.toNatClampNeg x1) (Int32.toNatClampNeg (x1 + (1 : Int32))))).bind fun r1 => (if 0 ≤ r1 then (if 0 ≤ x1 ∧ x1 < 11 then (if 0 ≤ x1 ∧ x1 < 11 then (if 0 ≤ (gI h 53 0 (Int32.toNatClampNeg x1)) ∧ (gI h 53 0 (Int32.toNatClampNeg x1)) < 6 then (if 0 ≤ x1 ∧ x1 < 11 then (if 0 ≤ (x1 + (1 : Int32)) ∧ (x1 + (1 : Int32)) < 11 then (if 0 ≤ x1 ∧ x1 < 11 then (if 0 ≤ (x1 + (1 : Int32)) ∧ (x1 + (1 : Int32)) < 11 then (if 0 ≤ (x1 + (1 : Int32)) ∧ (x1 + (1 : Int32)) < 11 then (if 0 ≤ (x1 + (1 : Int32)) ∧ (x1 + (1 : Int32)) < 11 then (if 0 ≤ (x1 + (1 : Int32)) ∧ (x1 + (1 : Int32)) < 11 then (if 0 ≤ (x1 + (1 : Int32)) ∧ (x1 + (1 : Int32)) < 11 then (some (true, (go9 h (Int32.toNatClampNeg x1) (Int32.toNatClampNeg (x1 + (1 : Int32))) (Int32.toNatClampNeg (gI h 53 0 (Int32.toNatClampNeg x1))) (gI h 53 0 (Int32.toNatClampNeg x1)) r1))) else none) else none) else none) else none) else none) else none) else none) else none) else none) else none) else none) else (some (false, (go2 h (Int32.toNatClampNeg x1) (Int32.toNatClampNeg (x1 + (1 : Int32)))))))))) else none))) else none) else none) else none) else none) else none) := rfl
theorem go2_I (h : Hp) (t : Nat) (a i k : Nat) : gI (go2 h t (t + 1)) a i k = if a = 57 ∧ i = 0 ∧ k = t + 1 then gI h 57 0 t else if a = 56 ∧ i = 0 ∧ k = t + 1 then gI h 56 0 t else gI h a i k := by
  unfold go2
  rw [xI_wI, xI_wI, xI_wI, if_neg (show ¬ (57 = 56 ∧ 0 = 0 ∧ t = t + 1) by omega)]
theorem go4_I (h : Hp) (t : Nat) (a i k : Nat) : gI (go4 h t (t + 1)) a i k = if a = 55 ∧ i = 0 ∧ k = t + 1 then 0 else if a = 54 ∧ i = 0 ∧ k = t + 1 then gI h 54 0 t + 1 else if a = 57 ∧ i = 0 ∧ k = t + 1 then gI h 57 0 t else if a = 56 ∧ i = 0 ∧ k = t + 1 then gI h 56 0 t else gI h a i k := by
  unfold go4
  rw [xI_wI, xI_wI, go2_I, go2_I, if_neg (show ¬ (54 = 57 ∧ 0 = 0 ∧ t = t + 1) by omega), if_neg (show ¬ (54 = 56 ∧ 0 = 0 ∧ t = t + 1) by omega)]
theorem go9_I (h : Hp) (t r : Nat) (x r1 : Int32) (a i k : Nat) : gI (go9 h t (t + 1) r x r1) a i k = if a = 57 ∧ i = 0 ∧ k = t + 1 then gI h 57 0 t ||| ((1 : Int32) <<< (x &&& 31)) else if a = 56 ∧ i = 0 ∧ k = t + 1 then gI h 56 0 t + r1 else if a = 55 ∧ i = 0 ∧ k = t + 1 then gI h 55 0 t + 1 else if a = 54 ∧ i = 0 ∧ k = t + 1 then gI h 54 0 t else if a = 58 ∧ i = 0 ∧ k = r then 6 * gI h 54 0 t + gI h 55 0 t else gI h a i k := by
  have e5 : ∀ a i k, gI (go5 h t (t + 1) r) a i k = if a = 58 ∧ i = 0 ∧ k = r then 6 * gI h 54 0 t + gI h 55 0 t else gI (go2 h t (t + 1)) a i k := by
    intro a i k
    unfold go5
    have g54 : gI (go2 h t (t + 1)) 54 0 t = gI h 54 0 t := by rw [go2_I, if_neg (by omega), if_neg (by omega)]
    have g55 : gI (go2 h t (t + 1)) 55 0 t = gI h 55 0 t := by rw [go2_I, if_neg (by omega), if_neg (by omega)]
    rw [xI_wI, g54, g55]
  have e6 : ∀ a i k, gI (go6 h t (t + 1) r) a i k = if a = 54 ∧ i = 0 ∧ k = t + 1 then gI h 54 0 t else gI (go5 h t (t + 1) r) a i k := by
    intro a i k
    unfold go6
    rw [xI_wI, e5 54 0 t, go2_I h t 54 0 t, if_neg (show ¬ (54 = 58 ∧ 0 = 0 ∧ t = r) by omega), if_neg (show ¬ (54 = 57 ∧ 0 = 0 ∧ t = t + 1) by omega), if_neg (show ¬ (54 = 56 ∧ 0 = 0 ∧ t = t + 1) by omega)]
  have e7 : ∀ a i k, gI (go7 h t (t + 1) r) a i k = if a = 55 ∧ i = 0 ∧ k = t + 1 then gI h 55 0 t + 1 else gI (go6 h t (t + 1) r) a i k := by
    intro a i k
    unfold go7
    rw [xI_wI, e6 55 0 t, e5 55 0 t, go2_I h t 55 0 t, if_neg (show ¬ (55 = 54 ∧ 0 = 0 ∧ t = t + 1) by omega), if_neg (show ¬ (55 = 58 ∧ 0 = 0 ∧ t = r) by omega), if_neg (show ¬ (55 = 57 ∧ 0 = 0 ∧ t = t + 1) by omega), if_neg (show ¬ (55 = 56 ∧ 0 = 0 ∧ t = t + 1) by omega)]
  have e8 : ∀ a i k, gI (go8 h t (t + 1) r r1) a i k = if a = 56 ∧ i = 0 ∧ k = t + 1 then gI h 56 0 t + r1 else gI (go7 h t (t + 1) r) a i k := by
    intro a i k
    unfold go8
    rw [xI_wI, e7 56 0 (t + 1), e6 56 0 (t + 1), e5 56 0 (t + 1), go2_I h t 56 0 (t + 1), if_neg (show ¬ (56 = 55 ∧ 0 = 0 ∧ t + 1 = t + 1) by omega), if_neg (show ¬ (56 = 54 ∧ 0 = 0 ∧ t + 1 = t + 1) by omega), if_neg (show ¬ (56 = 58 ∧ 0 = 0 ∧ t + 1 = r) by omega), if_neg (show ¬ (56 = 57 ∧ 0 = 0 ∧ t + 1 = t + 1) by omega), if_pos (show 56 = 56 ∧ 0 = 0 ∧ t + 1 = t + 1 from ⟨rfl, rfl, rfl⟩)]
  unfold go9
  rw [xI_wI, e8 57 0 (t + 1), e7 57 0 (t + 1), e6 57 0 (t + 1), e5 57 0 (t + 1), go2_I h t 57 0 (t + 1), if_neg (show ¬ (57 = 56 ∧ 0 = 0 ∧ t + 1 = t + 1) by omega), if_neg (show ¬ (57 = 55 ∧ 0 = 0 ∧ t + 1 = t + 1) by omega), if_neg (show ¬ (57 = 54 ∧ 0 = 0 ∧ t + 1 = t + 1) by omega), if_neg (show ¬ (57 = 58 ∧ 0 = 0 ∧ t + 1 = r) by omega), if_pos (show 57 = 57 ∧ 0 = 0 ∧ t + 1 = t + 1 from ⟨rfl, rfl, rfl⟩), e8, e7, e6, e5, go2_I]
  by_cases q7 : a = 57 ∧ i = 0 ∧ k = t + 1
  · simp only [if_pos q7]
  · rw [if_neg q7]
    by_cases q6 : a = 56 ∧ i = 0 ∧ k = t + 1
    · simp only [if_pos q6, if_neg q7]
    · simp only [if_neg q6, if_neg q7]
theorem go_F (h : Hp) (T0 T1 : Nat) : Fs h (go2 h T0 T1) ∧ Fs h (go4 h T0 T1) ∧ ∀ I0 x r1, Fs h (go9 h T0 T1 I0 x r1) := by
  have f2 : Fs h (go2 h T0 T1) := (Fs.w rfl).trans (Fs.w rfl)
  refine ⟨f2, f2.trans ((Fs.w rfl).trans (Fs.w rfl)), fun I0 x r1 => ?_⟩
  exact ((((f2.trans (Fs.w rfl)).trans (Fs.w rfl)).trans (Fs.w rfl)).trans (Fs.w rfl)).trans (Fs.w rfl)
/-- the search's step, its reads done -/
theorem m_goesOn {h : Hp} {t j nb s m : Nat} (ht : t < 10) (hj : j < 7) (hs : s ≤ 6) (hm : m < 64) (e53 : gI h 53 0 t = nI j) (e0 : gI h 8 0 0 = nI nb) (e31 : gI h 8 0 31 = nI s) (e57 : gI h 57 0 t = nI m) :
    f_X8_goesOn (nI t) h = if j = 6 then (if nI nb ≤ gI h 54 0 t + 1 then some (false, go4 h t (t + 1)) else some (true, go4 h t (t + 1))) else if s ≤ j then some (false, go2 h t (t + 1)) else if m.testBit j = true then some (false, go2 h t (t + 1)) else if nI nb = 0 then some (false, go2 h t (t + 1)) else (f_X8_pairsWith (nI t) (nI j) (go2 h t (t + 1))).bind fun r1 => if 0 ≤ r1 then some (true, go9 h t (t + 1) j (nI j) r1) else some (false, go2 h t (t + 1)) := by
  have a10 : 0 ≤ nI t ∧ nI t < 10 := nIr (k := 10) (by omega) (by omega)
  have a11 : 0 ≤ nI t ∧ nI t < 11 := nIr (k := 11) (by omega) (by omega)
  have b11 : 0 ≤ nI (t + 1) ∧ nI (t + 1) < 11 := nIr (k := 11) (by omega) (by omega)
  have ct : (nI t).toNatClampNeg = t := nI_clamp (by omega)
  have ct1 : (nI (t + 1)).toNatClampNeg = t + 1 := nI_clamp (by omega)
  have cj : (nI j).toNatClampNeg = j := nI_clamp (by omega)
  rw [goesOn_eq, nI_s, ct, ct1, if_pos a10, if_pos a11, if_pos b11, if_pos a11, if_pos b11, e53, cj]
  have r1 : gI (go4 h t (t + 1)) 8 0 0 = nI nb := by rw [go4_I, if_neg (by omega), if_neg (by omega), if_neg (by omega), if_neg (by omega), e0]
  have r2 : gI (go4 h t (t + 1)) 54 0 t = gI h 54 0 t := by rw [go4_I, if_neg (by omega), if_neg (by omega), if_neg (by omega), if_neg (by omega)]
  have r3 : gI (go2 h t (t + 1)) 8 0 31 = nI s := by rw [go2_I, if_neg (by omega), if_neg (by omega), e31]
  have r4 : gI (go2 h t (t + 1)) 57 0 t = nI m := by rw [go2_I, if_neg (by omega), if_neg (by omega), e57]
  have r5 : gI (go2 h t (t + 1)) 8 0 0 = nI nb := by rw [go2_I, if_neg (by omega), if_neg (by omega), e0]
  rw [r1, r2, r3, r4, r5]
  have c6 : nI j = 6 ↔ j = 6 := nI_eq (a := j) (b := 6) (by omega) (by omega)
  by_cases j6 : j = 6
  · rw [if_pos (c6.mpr j6), if_pos a11, if_pos b11, if_pos b11, if_pos a11, if_pos j6]
  · rw [if_neg (fun w => j6 (c6.mp w)), if_neg j6]
    have cs : nI s ≤ nI j ↔ s ≤ j := nIl (by omega) (by omega)
    by_cases sj : s ≤ j
    · rw [if_pos (cs.mpr sj), if_pos sj]
    · rw [if_neg (fun w => sj (cs.mp w)), if_neg sj, if_pos a11]
      have bt : ((nI m >>> (nI j &&& 31)) &&& (1 : Int32)) = 1 ↔ m.testBit j = true := by
        have : ∀ m : Fin 64, ∀ j : Fin 6, ((nI m.val >>> (nI j.val &&& 31)) &&& (1 : Int32)) = 1 ↔ m.val.testBit j.val = true := by decide +kernel
        exact this ⟨m, hm⟩ ⟨j, by omega⟩
      by_cases tb : m.testBit j = true
      · rw [if_pos (bt.mpr tb), if_pos tb]
      · rw [if_neg (fun w => tb (bt.mp w)), if_neg tb]
        by_cases n0 : nI nb = 0
        · rw [if_pos n0, if_pos n0]
        · rw [if_neg n0, if_neg n0]
          have j6' : 0 ≤ nI j ∧ nI j < 6 := nIr (k := 6) (by omega) (by omega)
          simp only [if_pos a11, if_pos b11, if_pos j6']
