/-! ===== goes: the relation after it ===== -/
theorem pos_goes {h H : Hp} (R : Rel h) {i b k : Nat} (hi : i < gN h 1) (hb : b < gN h 0) (hk : k < cnA h b) (er : rwA h b k = i)
    (p8 : ∀ j, j < 8 → gI H 1 j 8 = if j = i then -1 else gI h 1 j 8) (p9 : ∀ j, j < 8 → gI H 1 j 9 = if j = i then -1 else if otB h b k j = true then gI h 1 j 9 + (-1) else gI h 1 j 9)
    (p43 : ∀ b', gI H 43 0 b' = if b' = b then nI (cnA h b - 1) else gI h 43 0 b') (p44 : ∀ c, gI H 44 0 c = if 6 * b + k ≤ c ∧ c < 6 * b + k + (cnA h b - 1 - k) then nI (rwA h b (k + (c - (6 * b + k)) + 1)) else gI h 44 0 c) :
    PosR (gN h 0) (gN h 1) (fun i => gI H 1 i 8) (fun i => gI H 1 i 9) (fun b => gI H 43 0 b) (fun k => gI H 44 0 k) (fun b => gI h 32 0 b) := by
  obtain ⟨⟨h1, h2', -⟩, -, -, ⟨p1, p2, p3, p4⟩, -⟩ := id R
  obtain ⟨⟨hB, hT⟩, hcn, hr, hps⟩ := R.pos
  have cb6 := (hcn b hb).1
  have cl : (nI (cnA h b - 1)).toNatClampNeg = cnA h b - 1 := nI_clamp (by omega)
  have hd := R.rm.2.2.2.2.2.2
  -- at which places otB holds
  have ot : ∀ b' k', b' < gN h 0 → k' < cnA h b' → (otB h b k (rwA h b' k') = true ↔ b' = b ∧ k < k') := by
    intro b' k' hb' hk'
    have q := hr b' k' hb' hk'
    have c6 := (hcn b' hb').1
    unfold otB
    rw [decide_eq_true_iff, q.2.2.1, q.2.2.2, nI_eq (by omega) (by omega), nI_ltI (by omega) (by omega)]
    exact ⟨fun w => w.2, fun w => ⟨q.1, w⟩⟩
  refine ⟨fun b' hb' => ?_, fun b' q1 q2 => ?_, fun b' k' hb' hk' => ?_, fun j hj => ?_⟩
  · simp only [p43]
    by_cases e : b' = b
    · subst e
      refine ⟨cnA h b' - 1, by omega, if_pos rfl, ?_⟩
      rw [if_pos rfl]
      have q := (hcn b' hb')
      refine Int32.le_trans ?_ q.2.2
      rw [q.2.1]
      exact (nIl (by omega) (by omega)).mpr (by omega)
    · simp only [if_neg e]
      exact p1 b' hb'
  · simp only [p43, if_neg (show b' ≠ b by omega)]
    exact p2 b' q1 q2
  · simp only [p43] at hk'
    by_cases e : b' = b
    · subst e
      rw [if_pos rfl, cl] at hk'
      by_cases ek : k' < k
      · have q := hr b' k' hb (by omega)
        have ne : rwA h b' k' ≠ i := fun e => by
          have := hd b' k' b' k hb (by omega) hb hk (e.trans er.symm)
          omega
        have no : ¬ otB h b' k (rwA h b' k') = true := fun w => by have := (ot b' k' hb (by omega)).mp w; omega
        refine ⟨rwA h b' k', q.1, ?_, ?_, ?_⟩
        · simp only [p44]; rw [if_neg (by omega)]; exact q.2.1
        · refine (p8 _ (by omega)).trans ?_; rw [if_neg ne]; exact q.2.2.1
        · refine (p9 _ (by omega)).trans ?_; rw [if_neg ne, if_neg no]; exact q.2.2.2
      · have q := hr b' (k' + 1) hb (by omega)
        have ne : rwA h b' (k' + 1) ≠ i := fun e => by
          have := hd b' (k' + 1) b' k hb (by omega) hb hk (e.trans er.symm)
          omega
        have yes : otB h b' k (rwA h b' (k' + 1)) = true := (ot b' (k' + 1) hb (by omega)).mpr ⟨rfl, by omega⟩
        refine ⟨rwA h b' (k' + 1), q.1, ?_, ?_, ?_⟩
        · simp only [p44]
          rw [if_pos (by omega), show k + (6 * b' + k' - (6 * b' + k)) + 1 = k' + 1 by omega]
        · refine (p8 _ (by omega)).trans ?_; rw [if_neg ne]; exact q.2.2.1
        · refine (p9 _ (by omega)).trans ?_; rw [if_neg ne, if_pos yes, q.2.2.2]; exact pk_m1 k'
    · rw [if_neg e] at hk'
      have hk2 : k' < cnA h b' := hk'
      have q := hr b' k' hb' hk2
      have c6 := (hcn b' hb').1
      have ne : rwA h b' k' ≠ i := fun e2 => by
        have := hd b' k' b k hb' hk2 hb hk (e2.trans er.symm)
        omega
      have no : ¬ otB h b k (rwA h b' k') = true := fun w => by have := (ot b' k' hb' hk2).mp w; omega
      refine ⟨rwA h b' k', q.1, ?_, ?_, ?_⟩
      · simp only [p44]; rw [if_neg (by omega)]; exact q.2.1
      · refine (p8 _ (by omega)).trans ?_; rw [if_neg ne]; exact q.2.2.1
      · refine (p9 _ (by omega)).trans ?_; rw [if_neg ne, if_neg no]; exact q.2.2.2
  · simp only [p43, p44]
    rw [p8 j (by omega), p9 j (by omega)]
    by_cases e : j = i
    · subst e
      rw [if_pos rfl, if_pos rfl]
      exact Or.inl ⟨rfl, rfl⟩
    · rw [if_neg e, if_neg e]
      rcases hps j hj with q | ⟨b', k', q1, q2, q3, q4, q5⟩
      · have no : ¬ otB h b k j = true := by
          unfold otB
          rw [decide_eq_true_iff]
          rintro ⟨-, w, -⟩
          rw [q.1] at w
          exact nI_m1 (by omega) w
        rw [if_neg no]
        exact Or.inl q
      · have c6 := (hcn b' q1).1
        have o := ot b' k' q1 q2
        have q := hr b' k' q1 q2
        rw [q5] at o
        by_cases yes : otB h b k j = true
        · obtain ⟨rfl, lt⟩ := o.mp yes
          refine Or.inr ⟨b', k' - 1, q1, ?_, q3, ?_, ?_⟩
          · rw [if_pos rfl, cl]; omega
          · rw [if_pos yes, q4]
            have := pk_m1 (k' - 1)
            rw [show k' - 1 + 1 = k' by omega] at this
            exact this
          · rw [if_pos (by omega), show k + (6 * b' + (k' - 1) - (6 * b' + k)) + 1 = k' by omega, q5]
        · rw [if_neg yes]
          refine Or.inr ⟨b', k', q1, ?_, q3, q4, ?_⟩
          · by_cases eb : b' = b
            · subst eb
              rw [if_pos rfl, cl]
              have : ¬ k < k' := fun w => yes (o.mpr ⟨rfl, w⟩)
              have : k' ≠ k := by
                rintro rfl
                exact e (q5.symm.trans er)
              omega
            · rw [if_neg eb]; exact q2
          · rw [if_neg, q.2.1, q5]
            intro w
            have : b' = b := by omega
            subst this
            exact yes (o.mpr ⟨rfl, by
              have : k' ≠ k := by
                rintro rfl
                exact e (q5.symm.trans er)
              omega⟩)
theorem sm_inj {rw : Nat → Nat} {i : Nat} : ∀ m, (∀ j j', j < m → j' < m → rw j = rw j' → j = j') → nOf rw i m = if ∃ j, j < m ∧ rw j = i then 1 else 0
  | 0, _ => by
    rw [if_neg (fun ⟨j, hj, _⟩ => by omega)]
    rfl
  | m + 1, inj => by
    have ih := sm_inj (rw := rw) (i := i) m (fun j j' h1 h2 => inj j j' (by omega) (by omega))
    have e : nOf rw i (m + 1) = nOf rw i m + (if rw m = i then 1 else 0) := rfl
    rw [e, ih]
    by_cases q : rw m = i
    · rw [if_pos q, if_neg, if_pos ⟨m, by omega, q⟩]
      · rfl
      · rintro ⟨j, hj, ej⟩
        have := inj j m (by omega) (by omega) (ej.trans q.symm)
        omega
    · rw [if_neg q, Int32.add_zero]
      have : (∃ j, j < m ∧ rw j = i) ↔ (∃ j, j < m + 1 ∧ rw j = i) := by
        constructor
        · rintro ⟨j, hj, ej⟩; exact ⟨j, by omega, ej⟩
        · rintro ⟨j, hj, ej⟩
          refine ⟨j, ?_, ej⟩
          by_cases w : j = m
          · subst w; exact absurd ej q
          · omega
      simp only [this]
theorem sm_ot {h : Hp} (R : Rel h) {b k : Nat} (hb : b < gN h 0) (hk : k < cnA h b) : sm (fun i => onB (otB h b k i)) 8 = nI (cnA h b - 1 - k) := by
  obtain ⟨⟨hB, hT⟩, hcn, hr, hps⟩ := R.pos
  have c6 := (hcn b hb).1
  have e : sm (fun i => onB (otB h b k i)) 8 = sm (atS h (nI b) (fun i => if nI k < gI h 1 i 9 then 1 else 0)) 8 := by
    apply sm_c
    intro i _
    unfold otB onB atS
    by_cases q : i < gN h 1 ∧ gI h 1 i 8 = nI b
    · rw [if_pos q]
      show _ = (if nI k < gI h 1 i 9 then (1 : Int32) else 0)
      by_cases q2 : nI k < gI h 1 i 9
      · rw [if_pos q2, if_pos (decide_eq_true ⟨q.1, q.2, q2⟩)]
      · rw [if_neg q2, if_neg (fun w => q2 (of_decide_eq_true w).2.2)]
    · rw [if_neg q, if_neg (fun w => q ⟨(of_decide_eq_true w).1, (of_decide_eq_true w).2.1⟩)]
  rw [e]
  refine (reidx R hb _).trans ?_
  have e2 := sm_gt (k := k) (cnA h b) (by omega)
  rw [show cnA h b - 1 - k = cnA h b - k - 1 by omega, ← e2]
  apply sm_c
  intro k' hk'
  rw [(hr b k' hb hk').2.2.2]
  simp only [nI_ltI (show k < 2 ^ 31 by omega) (show k' < 2 ^ 31 by omega)]
/-- one boat leaves: the class on its heap, the reference on its own -/
theorem take2 {hc hm : Hp} (R : Rel (ov hm hc)) {i b k : Nat} (hi : i < gN hc 1) (hb : b < gN hc 0) (hk : k < cnA hm b) (e8 : gI hc 1 i 8 = nI b) (e9 : gI hc 1 i 9 = nI k) (er : rwA hm b k = i) :
    f_X5_takeAway i hc = some (nI (cnA hm b - 1 - k), tkC hc i b k) ∧ f_X8_leavesNow (nI (6 * b + k)) hm = some (nI (cnA hm b - 1 - k), lvM hm b k) ∧ Rel (ov (lvM hm b k) (tkC hc i b k)) ∧ MP (tkC hc i b k) hc ∧ CP (lvM hm b k) hm ∧ Gw 0 1 hm (lvM hm b k) := by
  have cA : ∀ b, cnA (ov hm hc) b = cnA hm b := fun b => by unfold cnA; rw [xIm rfl]
  have rA : ∀ b k, rwA (ov hm hc) b k = rwA hm b k := fun b k => by unfold rwA; rw [xIm rfl]
  have I1 : ∀ i c, gI (ov hm hc) 1 i c = gI hc 1 i c := fun i c => by rw [xIc rfl]
  have I44 : ∀ c, gI (ov hm hc) 44 0 c = gI hm 44 0 c := fun c => by rw [xIm rfl]
  have I43 : ∀ c, gI (ov hm hc) 43 0 c = gI hm 43 0 c := fun c => by rw [xIm rfl]
  obtain ⟨⟨hB, hT⟩, hcn, hr, hps⟩ := R.pos
  have hB' : gN hc 0 ≤ 4 := hB
  have hT' : gN hc 1 ≤ 8 := hT
  have hbR : b < gN (ov hm hc) 0 := hb
  have c6 := (hcn b hb).1
  rw [cA] at c6
  have oE : ∀ j, otB (ov hm hc) b k j = otB hc b k j := fun j => by unfold otB; rw [I1, I1]; rfl
  have so := sm_ot R hbR (k := k) (by rw [cA]; exact hk)
  simp only [oE, cA] at so
  have SB : BoA hc := R.boA
  have RMm : RM (gN hc 0) (gN hc 1) hm := by
    have := R.rm
    exact this.congr (by rw [xIm rfl]) (by rw [xIm rfl]) (fun b => (I43 b).symm) (fun k => (I44 k).symm)
  obtain ⟨FC, MC⟩ := tkC_F hc i b k
  obtain ⟨FM, CM⟩ := lvM_F hm b k
  have hd := RMm.2.2.2.2.2.2
  have inj : ∀ j j', j < cnA hm b - 1 - k → j' < cnA hm b - 1 - k → rwA hm b (k + j + 1) = rwA hm b (k + j' + 1) → j = j' := by
    intro j j' q1 q2 e
    have := hd b (k + j + 1) b (k + j' + 1) hb (by omega) hb (by omega) e
    omega
  have nO : ∀ c, nOf (fun j => rwA hm b (k + j + 1)) c (cnA hm b - 1 - k) = onB (otB hc b k c) := by
    intro c
    rw [sm_inj _ inj]
    unfold onB
    have : (∃ j, j < cnA hm b - 1 - k ∧ rwA hm b (k + j + 1) = c) ↔ otB hc b k c = true := by
      rw [← oE]
      unfold otB
      rw [decide_eq_true_iff]
      constructor
      · rintro ⟨j, hj, rfl⟩
        have q := hr b (k + j + 1) hb (by rw [cA]; omega)
        rw [rA] at q
        rw [q.2.2.1, q.2.2.2]
        exact ⟨q.1, rfl, (nI_ltI (by omega) (by omega)).mpr (by omega)⟩
      · rintro ⟨w1, w2, w3⟩
        rcases hps c w1 with q | ⟨b', k', q1, q2, q3, q4, q5⟩
        · rw [q.1] at w2
          exact absurd w2 (nI_m1 (by omega))
        · have c6' := (hcn b' q1).1
          rw [q3] at w2
          obtain rfl : b' = b := (nI_eq (by omega) (by omega)).mp w2
          rw [q4] at w3
          have lt := (nI_ltI (by omega) (by omega)).mp w3
          rw [cA] at q2
          rw [rA] at q5
          exact ⟨k' - k - 1, by omega, by rw [show k + (k' - k - 1) + 1 = k' by omega]; exact q5⟩
    simp only [this]
  refine ⟨?_, m_leave RMm hb hk, ?_, MC, CM, ?_⟩
  · rw [c_take SB (by omega) (by omega) e8 e9, so]
  · have F : Fr (ov hm hc) (ov (lvM hm b k) (tkC hc i b k)) := by
      refine ⟨FC.1, ?_, ?_, ?_, ?_, ?_, ?_, ?_⟩
      · exact FC.2.1
      · intro t ht
        rw [xI_ov, xI_ov, FC.2.2.1 t ht, FM.2.2.1 t ht]
      · intro c c1 c2 c3
        rw [xIm rfl, xIm rfl]
        exact FM.2.2.2.1 c c1 c2 c3
      · intro c c1
        rw [xIc rfl, xIc rfl]
        exact FC.2.2.2.2.1 c c1
      · rw [xIc rfl, xIc rfl]
        exact FC.2.2.2.2.2.1
      · rw [xIc rfl, xIc rfl]
        exact FC.2.2.2.2.2.2.1
      · intro j c c1
        rw [xIc rfl, xIc rfl]
        exact FC.2.2.2.2.2.2.2 j c c1
    obtain ⟨-, -, ⟨c1, c2⟩, -, ⟨e1, e2, e3, e4, e5, e6, e7, e8'⟩, -⟩ := id R
    have i_no : otB hc b k i = false := by
      unfold otB
      rw [e9]
      exact decide_eq_false (fun w => absurd w.2.2 (by simp))
    refine R.fr F (pos_goes R (i := i) (b := b) (k := k) hi hbR (by rw [cA]; exact hk) (by rw [rA]; exact er) ?_ ?_ ?_ ?_) ?_ ?_ ?_ ?_ ?_
    · intro j hj
      rw [xIc rfl, tkC_I, if_neg (by omega), if_neg (by omega), if_neg (by omega), hA0_I, I1]
      simp
    · intro j hj
      rw [xIc rfl, tkC_I, if_neg (by omega), oE, hA0_I, hA0_I, I1]
      by_cases e : j = i
      · subst e
        rw [i_no, if_neg (by simp), if_neg (by omega), if_pos ⟨rfl, rfl, Or.inr rfl⟩, if_pos rfl]
      · rw [if_neg e, if_neg (c := 1 = 1 ∧ j = i ∧ (9 = 8 ∨ 9 = 9)) (fun w => e w.2.1), if_neg (c := 1 = 1 ∧ j < 8 ∧ otB hc b k j = true ∧ 9 = 11) (by omega)]
        by_cases o : otB hc b k j = true
        · rw [if_pos ⟨rfl, hj, o, rfl⟩, if_pos o]
        · rw [if_neg (fun w => o w.2.2.1), if_neg o]
    · intro b'
      rw [xIm rfl, lvM_I, if_neg (by omega), if_neg (by omega), if_neg (by omega), I43, cA]
      simp
    · intro c
      rw [xIm rfl, lvM_I, I44, cA, rA]
      by_cases w : 6 * b + k ≤ c ∧ c < 6 * b + k + (cnA hm b - 1 - k)
      · rw [if_pos ⟨rfl, rfl, w⟩, if_pos w]
      · rw [if_neg (fun q => w q.2.2), if_neg w, if_neg (by omega), if_neg (by omega), if_neg (by omega)]
    · rw [xIc rfl, xIm rfl, tkC_I, if_neg (by omega), if_neg (by omega), if_neg (by omega), hA0_I, if_neg (by omega), lvM_I, if_neg (by omega), if_neg (by omega), if_neg (by omega), if_neg (by omega)]
      rw [xIc rfl, xIm rfl] at e2
      exact e2
    · rw [xIm rfl, lvM_I, if_neg (by omega), if_neg (by omega), if_neg (by omega), if_neg (by omega)]
      rw [xIm rfl] at e7
      exact e7
    · rw [xIc rfl, xIm rfl, tkC_I, if_pos ⟨rfl, rfl, rfl⟩, lvM_I, if_neg (by omega), if_neg (by omega), if_pos ⟨rfl, rfl, rfl⟩, so]
      rw [xIc rfl, xIm rfl] at e4
      rw [e4]
    · intro j hj
      have hj' : j < gN hc 1 := hj
      have q := c1 j hj
      simp only [xIc (m := hm) (c := hc) (t := 1) rfl, xIm (m := hm) (c := hc) (t := 41) rfl, xIm (m := hm) (c := hc) (t := 42) rfl] at q
      have x10 : gI (tkC hc i b k) 1 j 10 = gI hc 1 j 10 := by rw [tkC_I, if_neg (by omega), if_neg (by omega), if_neg (by omega), hA0_I, if_neg (by omega)]
      have x11 : gI (tkC hc i b k) 1 j 11 = gI hc 1 j 11 + onB (otB hc b k j) := by
        have a11 : gI (hA0 hc i) 1 j 11 = gI hc 1 j 11 := by rw [hA0_I, if_neg (by omega)]
        rw [tkC_I, if_neg (by omega), if_neg (by omega), a11]
        unfold onB
        by_cases o : otB hc b k j = true
        · rw [if_pos ⟨rfl, show j < 8 by omega, o, rfl⟩, if_pos o]
        · rw [if_neg (fun w => o w.2.2.1), if_neg o, Int32.add_zero]
      have y41 : gI (lvM hm b k) 41 0 j = gI hm 41 0 j := by rw [lvM_I, if_neg (by omega), if_neg (by omega), if_neg (by omega), if_neg (by omega)]
      have y42 : gI (lvM hm b k) 42 0 j = gI hm 42 0 j + onB (otB hc b k j) := by rw [lvM_I, if_neg (by omega), if_pos ⟨rfl, rfl⟩, nO]
      rw [xIc rfl, xIm rfl, xIm rfl, x10, x11, y41, y42, q.2.2.2.2.2.2.2.2.1, q.2.2.2.2.2.2.2.2.2.1]
      exact ⟨rfl, rfl⟩
    · intro j hj h8
      have hj' : gN hc 1 ≤ j := hj
      have q := c2 j hj h8
      simp only [xIm (m := hm) (c := hc) (t := 41) rfl, xIm (m := hm) (c := hc) (t := 42) rfl] at q
      rw [xIm rfl, xIm rfl, lvM_I, if_neg (by omega), if_neg (by omega), if_neg (by omega), if_neg (by omega), lvM_I, if_neg (by omega), if_pos ⟨rfl, rfl⟩, nO, q.2.1, q.2.2]
      refine ⟨rfl, ?_⟩
      have : otB hc b k j = false := by
        unfold otB
        exact decide_eq_false (fun w => by omega)
      rw [this]
      rfl
  · intro j hj
    refine ⟨⟨0, by omega, ?_⟩, ?_⟩
    · rw [lvM_I, if_neg (by omega), if_neg (by omega), if_neg (by omega), if_neg (by omega)]
      exact (Int32.add_zero _).symm
    · rw [lvM_I, if_neg (by omega), if_pos ⟨rfl, rfl⟩, nO]
      unfold onB
      by_cases o : otB hc b k j = true
      · exact ⟨1, by omega, by rw [if_pos o]; rfl⟩
      · exact ⟨0, by omega, by rw [if_neg o]; rfl⟩
theorem p_goes {h : Hp} (R : Rel h) (x : Int32) : Pm h (f_X7_goes x) (f_X8_goes x) := by
  rcases R.boat? x with ⟨i, hi, rfl, hb, hm, hc, h8⟩ | ⟨hb, hm, -⟩
  · rcases R.lies? hi with ⟨l8, l9, hl, hs⟩ | ⟨b, k, hbb, hk, l8, l9, er, hl, hs⟩
    · have sp : f_X8_spotOf (nI i) (hcF h) = some (-1) := hs (hcF h) R.rmF (fun _ => rfl) (fun _ => rfl)
      refine Pm.find R (-1000005) ?_ ?_
      · unfold f_X7_goes
        rw [hb, bnd_some]
        simp only []
        rw [hl, bnd_some, if_neg (by decide), c_find (by decide)]
        rfl
      · unfold f_X8_goes
        rw [isBoat_F, hm, bnd_some, if_pos rfl, sp, bnd_some, if_neg (by decide), fnd_eta]
    · have MC := (tkC_F h i b k).2
      have eq1 : ov (tkC h i b k) h = h := ov_c MC
      have RR : Rel (ov (tkC h i b k) h) := by rw [eq1]; exact R
      have cA : cnA (tkC h i b k) b = cnA h b := by unfold cnA; rw [MC 43 rfl]
      have rA : rwA (tkC h i b k) b k = rwA h b k := by unfold rwA; rw [MC 44 rfl]
      obtain ⟨t1, t2, t3, t4, t5, t6⟩ := take2 RR hi hbb (by rw [cA]; exact hk) l8 l9 (by rw [rA]; exact er)
      rw [ov_m t5] at t3
      have s0 : (0 : Int32) ≤ nI (6 * b + k) := (nIr (n := 6 * b + k) (k := 100) (by have := R.b4; have := (R.pos.2.1 b hbb).1; omega) (by omega)).1
      have rm1 : RM (gN h 0) (gN h 1) (tkC h i b k) := R.rm.congr (by rw [MC 8 rfl]) (by rw [MC 8 rfl]) (fun _ => by rw [MC 43 rfl]) (fun _ => by rw [MC 44 rfl])
      have sp := hs (tkC h i b k) rm1 (fun _ => by rw [MC 43 rfl]) (fun _ => by rw [MC 44 rfl])
      have hm1 : f_X8_isBoat (nI i) (tkC h i b k) = some true := by
        rw [m_isBoat rm1]
        rw [m_isBoat R.rm] at hm
        exact hm
      refine ⟨nI (cnA (tkC h i b k) b - 1 - k), tkC h i b k, lvM (tkC h i b k) b k, ?_, ?_, t3, ?_⟩
      · unfold f_X7_goes
        rw [hb, bnd_some]
        simp only []
        rw [hl, bnd_some, if_pos rfl, t1, bnd_some]
      · unfold f_X8_goes
        rw [hm1, bnd_some, if_pos rfl, sp, bnd_some, if_pos s0, t2, bnd_some]
      · refine Gw.gr (Gw.le (a := 0) (m := 1) ?_ (by omega) (by omega))
        intro j hj
        have := t6 j hj
        rw [MC 41 rfl, MC 42 rfl] at this
        exact this
  · refine Pm.find R (-1000001) ?_ ?_
    · unfold f_X7_goes
      rw [hb, bnd_some]
      simp only []
      rw [c_find (by decide)]
      rfl
    · unfold f_X8_goes
      rw [isBoat_F, hm, bnd_some, if_neg (by decide), fnd_eta]
