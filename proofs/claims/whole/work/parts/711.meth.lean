theorem pos_betw {h H : Hp} (R : Rel h) {i b p : Nat} (hi : i < gN h 1) (hb : b < gN h 0) (hp : p ≤ cnA h b) (hl : gI h 1 i 8 = -1) (hc5 : cnA h b ≤ 5) (hpl : nI (cnA h b + 1) ≤ gI h 32 0 b)
    (p8 : ∀ j, j < 8 → gI H 1 j 8 = if j = i then nI b else gI h 1 j 8) (p9 : ∀ j, j < 8 → gI H 1 j 9 = if j = i then nI p else if geB h b p j = true then gI h 1 j 9 + 1 else gI h 1 j 9)
    (p43 : ∀ b', gI H 43 0 b' = if b' = b then nI (cnA h b + 1) else gI h 43 0 b') (p44 : ∀ c, gI H 44 0 c = if c = 6 * b + p then nI i else if 6 * b + p < c ∧ c ≤ 6 * b + cnA h b then nI (rwA h b (c - 6 * b - 1)) else gI h 44 0 c) :
    PosR (gN h 0) (gN h 1) (fun i => gI H 1 i 8) (fun i => gI H 1 i 9) (fun b => gI H 43 0 b) (fun k => gI H 44 0 k) (fun b => gI h 32 0 b) := by
  obtain ⟨⟨h1, h2', -⟩, -, -, ⟨p1, p2, p3, p4⟩, -⟩ := id R
  obtain ⟨⟨hB, hT⟩, hcn, hr, hps⟩ := R.pos
  have cl : (nI (cnA h b + 1)).toNatClampNeg = cnA h b + 1 := nI_clamp (by omega)
  have hd := R.rm.2.2.2.2.2.2
  have nl : ∀ b' k', b' < gN h 0 → k' < cnA h b' → rwA h b' k' ≠ i := by
    intro b' k' hb' hk' e
    have q := (hr b' k' hb' hk').2.2.1
    rw [e, hl] at q
    exact nI_m1 (by omega) q
  have ge : ∀ b' k', b' < gN h 0 → k' < cnA h b' → (geB h b p (rwA h b' k') = true ↔ b' = b ∧ p ≤ k') := by
    intro b' k' hb' hk'
    have q := hr b' k' hb' hk'
    have c6 := (hcn b' hb').1
    unfold geB
    rw [decide_eq_true_iff, q.2.2.1, q.2.2.2, nI_eq (by omega) (by omega), nI_ltI (by omega) (by omega)]
    exact ⟨fun w => ⟨w.2.1, by omega⟩, fun w => ⟨q.1, w.1, by omega⟩⟩
  refine ⟨fun b' hb' => ?_, fun b' q1 q2 => ?_, fun b' k' hb' hk' => ?_, fun j hj => ?_⟩
  · simp only [p43]
    by_cases e : b' = b
    · subst e
      exact ⟨cnA h b' + 1, by omega, if_pos rfl, by rw [if_pos rfl]; exact hpl⟩
    · simp only [if_neg e]
      exact p1 b' hb'
  · simp only [p43, if_neg (show b' ≠ b by omega)]
    exact p2 b' q1 q2
  · simp only [p43] at hk'
    by_cases e : b' = b
    · subst e
      rw [if_pos rfl, cl] at hk'
      by_cases e1 : k' = p
      · subst e1
        refine ⟨i, hi, ?_, ?_, ?_⟩
        · simp only [p44]; rw [if_pos trivial]
        · refine (p8 _ (by omega)).trans ?_; rw [if_pos rfl]
        · refine (p9 _ (by omega)).trans ?_; rw [if_pos rfl]
      · by_cases e2 : k' < p
        · have q := hr b' k' hb (by omega)
          have ne := nl b' k' hb (by omega)
          have no : ¬ geB h b' p (rwA h b' k') = true := fun w => by have := (ge b' k' hb (by omega)).mp w; omega
          refine ⟨rwA h b' k', q.1, ?_, ?_, ?_⟩
          · simp only [p44]; rw [if_neg (by omega), if_neg (by omega)]; exact q.2.1
          · refine (p8 _ (by omega)).trans ?_; rw [if_neg ne]; exact q.2.2.1
          · refine (p9 _ (by omega)).trans ?_; rw [if_neg ne, if_neg no]; exact q.2.2.2
        · have q := hr b' (k' - 1) hb (by omega)
          have ne := nl b' (k' - 1) hb (by omega)
          have yes : geB h b' p (rwA h b' (k' - 1)) = true := (ge b' (k' - 1) hb (by omega)).mpr ⟨rfl, by omega⟩
          refine ⟨rwA h b' (k' - 1), q.1, ?_, ?_, ?_⟩
          · simp only [p44]; rw [if_neg (by omega), if_pos (by omega), show 6 * b' + k' - 6 * b' - 1 = k' - 1 by omega]
          · refine (p8 _ (by omega)).trans ?_; rw [if_neg ne]; exact q.2.2.1
          · refine (p9 _ (by omega)).trans ?_; rw [if_neg ne, if_pos yes, q.2.2.2, nI_s, show k' - 1 + 1 = k' by omega]
    · rw [if_neg e] at hk'
      have hk2 : k' < cnA h b' := hk'
      have q := hr b' k' hb' hk2
      have c6 := (hcn b' hb').1
      have ne := nl b' k' hb' hk2
      have no : ¬ geB h b p (rwA h b' k') = true := fun w => by have := (ge b' k' hb' hk2).mp w; omega
      refine ⟨rwA h b' k', q.1, ?_, ?_, ?_⟩
      · simp only [p44]; rw [if_neg (by omega), if_neg (by omega)]; exact q.2.1
      · refine (p8 _ (by omega)).trans ?_; rw [if_neg ne]; exact q.2.2.1
      · refine (p9 _ (by omega)).trans ?_; rw [if_neg ne, if_neg no]; exact q.2.2.2
  · simp only [p43, p44]
    rw [p8 j (by omega), p9 j (by omega)]
    by_cases e : j = i
    · subst e
      rw [if_pos rfl, if_pos rfl]
      refine Or.inr ⟨b, p, hb, ?_, rfl, rfl, if_pos rfl⟩
      rw [if_pos rfl, cl]
      omega
    · rw [if_neg e, if_neg e]
      rcases hps j hj with q | ⟨b', k', q1, q2, q3, q4, q5⟩
      · have no : ¬ geB h b p j = true := by
          unfold geB
          rw [decide_eq_true_iff]
          rintro ⟨-, w, -⟩
          rw [q.1] at w
          exact nI_m1 (by omega) w
        rw [if_neg no]
        exact Or.inl q
      · have c6 := (hcn b' q1).1
        have o := ge b' k' q1 q2
        have q := hr b' k' q1 q2
        rw [q5] at o
        by_cases yes : geB h b p j = true
        · obtain ⟨rfl, lt⟩ := o.mp yes
          refine Or.inr ⟨b', k' + 1, q1, ?_, q3, ?_, ?_⟩
          · rw [if_pos rfl, cl]; omega
          · rw [if_pos yes, q4, nI_s]
          · rw [if_neg (by omega), if_pos (by omega), show 6 * b' + (k' + 1) - 6 * b' - 1 = k' by omega, q5]
        · rw [if_neg yes]
          refine Or.inr ⟨b', k', q1, ?_, q3, q4, ?_⟩
          · by_cases eb : b' = b
            · subst eb
              rw [if_pos rfl, cl]
              omega
            · rw [if_neg eb]; exact q2
          · by_cases eb : b' = b
            · subst eb
              have : ¬ p ≤ k' := fun w => yes (o.mpr ⟨rfl, w⟩)
              rw [if_neg (by omega), if_neg (by omega), q.2.1, q5]
            · rw [if_neg (by omega), if_neg (by omega), q.2.1, q5]
theorem r_betw {h : Hp} (R : Rel h) {i b p : Nat} (hi : i < gN h 1) (hb : b < gN h 0) (hp : p ≤ cnA h b) (hl : gI h 1 i 8 = -1) (hc5 : cnA h b ≤ 5) (hpl : nI (cnA h b + 1) ≤ gI h 32 0 b) :
    Rel (btM (btC h i b p) i b p (cnA h b) (fun j => rwA h b (cnA h b - 1 - j))) ∧ Gr h (btM (btC h i b p) i b p (cnA h b) (fun j => rwA h b (cnA h b - 1 - j))) := by
  obtain ⟨⟨hB, hT⟩, hcn, hr, hps⟩ := R.pos
  obtain ⟨FC, MC⟩ := btC_F h i b p
  obtain ⟨FM, CM⟩ := btM_F (btC h i b p) i b p (cnA h b) (fun j => rwA h b (cnA h b - 1 - j))
  obtain ⟨-, -, ⟨c1, c2⟩, -, ⟨e1, e2, e3, e4, e5, e6, e7, e8'⟩, -⟩ := id R
  have hd := R.rm.2.2.2.2.2.2
  have so := sm_geB R hb hp
  have inj : ∀ j j', j < cnA h b - p → j' < cnA h b - p → rwA h b (cnA h b - 1 - j) = rwA h b (cnA h b - 1 - j') → j = j' := by
    intro j j' q1 q2 e
    have := hd b (cnA h b - 1 - j) b (cnA h b - 1 - j') hb (by omega) hb (by omega) e
    omega
  have nO : ∀ c, nOf (fun j => rwA h b (cnA h b - 1 - j)) c (cnA h b - p) = onB (geB h b p c) := by
    intro c
    rw [sm_inj _ inj]
    unfold onB
    have : (∃ j, j < cnA h b - p ∧ rwA h b (cnA h b - 1 - j) = c) ↔ geB h b p c = true := by
      unfold geB
      rw [decide_eq_true_iff]
      constructor
      · rintro ⟨j, hj, rfl⟩
        have q := hr b (cnA h b - 1 - j) hb (by omega)
        rw [q.2.2.1, q.2.2.2]
        exact ⟨q.1, rfl, fun w => by have := (nI_ltI (by omega) (by omega)).mp w; omega⟩
      · rintro ⟨w1, w2, w3⟩
        rcases hps c w1 with q | ⟨b', k', q1, q2, q3, q4, q5⟩
        · rw [q.1] at w2
          exact absurd w2 (nI_m1 (by omega))
        · have c6' := (hcn b' q1).1
          rw [q3] at w2
          obtain rfl : b' = b := (nI_eq (by omega) (by omega)).mp w2
          rw [q4] at w3
          have lt : ¬ k' < p := fun w => w3 ((nI_ltI (by omega) (by omega)).mpr w)
          exact ⟨cnA h b' - 1 - k', by omega, by rw [show cnA h b' - 1 - (cnA h b' - 1 - k') = k' by omega]; exact q5⟩
    simp only [this]
  obtain ⟨hc, ehc⟩ : ∃ hc, hc = btC h i b p := ⟨_, rfl⟩
  obtain ⟨H, eH⟩ : ∃ H, H = btM hc i b p (cnA h b) (fun j => rwA h b (cnA h b - 1 - j)) := ⟨_, rfl⟩
  rw [← ehc] at FC MC FM CM ⊢
  rw [← eH] at FM CM ⊢
  have Hc : ∀ t, cT t = true → ∀ j c, gI H t j c = gI hc t j c := fun t ht j c => by rw [CM.2.2.2 t ht]
  have Hm : ∀ t j k, cT t = false → gI H t j k = if t = 43 ∧ j = 0 ∧ k = b then nI (cnA h b + 1) else if t = 44 ∧ j = 0 ∧ k = 6 * b + p then nI i else if t = 44 ∧ j = 0 ∧ 6 * b + p < k ∧ k ≤ 6 * b + cnA h b then nI (rwA h b (cnA h b - 1 - (6 * b + cnA h b - k))) else if t = 42 ∧ j = 0 then gI h 42 0 k + onB (geB h b p k) else if t = 8 ∧ j = 0 ∧ k = 16 then gI h 8 0 16 + nI (cnA h b - p) else gI h t j k := by
    intro t j k ht
    rw [eH, btM_I _ _ hp, nO, MC t ht, MC 42 rfl, MC 8 rfl]
  have i_no : geB h b p i = false := by
    unfold geB
    rw [hl]
    exact decide_eq_false (fun w => nI_m1 (by omega) w.2.1)
  have x42 : ∀ j, gI H 42 0 j = gI h 42 0 j + onB (geB h b p j) := fun j => by rw [Hm 42 0 j rfl, if_neg (by omega), if_neg (by omega), if_neg (by omega), if_pos ⟨rfl, rfl⟩]
  have x41 : ∀ j, gI H 41 0 j = gI h 41 0 j := fun j => by rw [Hm 41 0 j rfl, if_neg (by omega), if_neg (by omega), if_neg (by omega), if_neg (by omega), if_neg (by omega)]
  refine ⟨R.fr (FC.trans FM) (pos_betw R hi hb hp hl hc5 hpl ?_ ?_ ?_ ?_) ?_ ?_ ?_ ?_ ?_, ?_⟩
  · intro j hj
    rw [Hc 1 rfl, ehc, btC_I, if_neg (by omega)]
    by_cases e : j = i
    · rw [if_pos ⟨rfl, e, rfl⟩, if_pos e]
    · rw [if_neg (fun w => e w.2.1), if_neg e, if_neg (by omega), if_neg (by omega), if_neg (by omega)]
  · intro j hj
    rw [Hc 1 rfl, ehc, btC_I]
    by_cases e : j = i
    · rw [if_pos ⟨rfl, e, rfl⟩, if_pos e]
    · rw [if_neg (fun w => e w.2.1), if_neg e, if_neg (by omega), if_neg (by omega)]
      by_cases o : geB h b p j = true
      · rw [if_pos ⟨rfl, hj, o, rfl⟩, if_pos o]
      · rw [if_neg (fun w => o w.2.2.1), if_neg o, if_neg (by omega)]
  · intro b'
    rw [Hm 43 0 b' rfl]
    by_cases e : b' = b
    · rw [if_pos ⟨rfl, rfl, e⟩, if_pos e]
    · rw [if_neg (fun w => e w.2.2), if_neg e, if_neg (by omega), if_neg (by omega), if_neg (by omega), if_neg (by omega)]
  · intro c
    rw [Hm 44 0 c rfl, if_neg (by omega)]
    by_cases e : c = 6 * b + p
    · rw [if_pos ⟨rfl, rfl, e⟩, if_pos e]
    · rw [if_neg (fun w => e w.2.2), if_neg e]
      by_cases e2 : 6 * b + p < c ∧ c ≤ 6 * b + cnA h b
      · rw [if_pos ⟨rfl, rfl, e2⟩, if_pos e2, show cnA h b - 1 - (6 * b + cnA h b - c) = c - 6 * b - 1 by omega]
      · rw [if_neg (fun w => e2 w.2.2), if_neg e2, if_neg (by omega), if_neg (by omega)]
  · rw [Hc 2 rfl, ehc, btC_I, if_neg (by omega), if_neg (by omega), if_neg (by omega), if_neg (by omega), if_neg (by omega), Hm 8 0 19 rfl, if_neg (by omega), if_neg (by omega), if_neg (by omega), if_neg (by omega), if_neg (by omega)]
    exact e2
  · rw [Hm 8 0 19 rfl, if_neg (by omega), if_neg (by omega), if_neg (by omega), if_neg (by omega), if_neg (by omega)]
    exact e7
  · rw [Hc 5 rfl, ehc, btC_I, if_neg (by omega), if_neg (by omega), if_pos ⟨rfl, rfl, rfl⟩, Hm 8 0 16 rfl, if_neg (by omega), if_neg (by omega), if_neg (by omega), if_neg (by omega), if_pos ⟨rfl, rfl, rfl⟩, so, e4]
  · intro j hj
    have q := c1 j hj
    have y10 : gI H 1 j 10 = gI h 1 j 10 := by rw [Hc 1 rfl, ehc, btC_I, if_neg (by omega), if_neg (by omega), if_neg (by omega), if_neg (by omega), if_neg (by omega)]
    have y11 : gI H 1 j 11 = gI h 1 j 11 + onB (geB h b p j) := by
      rw [Hc 1 rfl, ehc, btC_I, if_neg (by omega), if_neg (by omega), if_neg (by omega), if_neg (by omega)]
      unfold onB
      by_cases o : geB h b p j = true
      · rw [if_pos ⟨rfl, show j < 8 by omega, o, rfl⟩, if_pos o]
      · rw [if_neg (fun w => o w.2.2.1), if_neg o, Int32.add_zero]
    rw [y10, y11, x41, x42]
    have q10 : gI h 1 j 10 = gI h 41 0 j := q.2.2.2.2.2.2.2.2.1
    have q11 : gI h 1 j 11 = gI h 42 0 j := q.2.2.2.2.2.2.2.2.2.1
    rw [q10, q11]
    exact ⟨rfl, rfl⟩
  · intro j hj h8
    have q := c2 j hj h8
    rw [x41, x42]
    have : geB h b p j = false := by
      unfold geB
      exact decide_eq_false (fun w => by omega)
    rw [this]
    refine ⟨q.2.1, ?_⟩
    have q11 : gI h 42 0 j = 0 := q.2.2
    rw [q11]
    rfl
  · refine Gw.gr (Gw.le (a := 0) (m := 1) ?_ (by omega) (by omega))
    intro j hj
    refine ⟨⟨0, by omega, ?_⟩, ?_⟩
    · rw [x41]
      exact (Int32.add_zero _).symm
    · rw [x42]
      unfold onB
      by_cases o : geB h b p j = true
      · exact ⟨1, by omega, by rw [if_pos o]; rfl⟩
      · exact ⟨0, by omega, by rw [if_neg o]; rfl⟩
theorem c_betw0 {h : Hp} {x y z : Int32} {i b : Nat} {c : Int32} (hb : f_X5_boatOf x h = some (some i)) (hb' : f_X5_berthOf y h = some (some b)) (z0 : ¬ z < 0) (ec : f_X5_countAt y h = some c) (zc : z ≤ c) : f_X5_layBetween x y z h = (f_X1_isLying i h).bind fun r6 => if r6 = true then some ((-1000005 : Int32), h) else if c < gI h 0 b 2 then ((f_X5_fitsBetween i b y z h).bind fun r8 => (if r8 = true then ((f_X5_moveFrom y z (1 : Int32) h).bind fun r9 => ((f_X1_layAt i y z r9.2).bind fun r10 => (some (r9.1, r10)))) else (some ((-1000003 : Int32), h)))) else some ((-1000002 : Int32), h) := by
  unfold f_X5_layBetween
  rw [hb, bnd_some, hb', bnd_some]
  simp only []
  rw [if_neg z0, ec, bnd_some, if_pos zc]
  congr 1
theorem c_cF {f : Hp → Option (Int32 × Hp)} {h : Hp} {c : Int32} (hc : c < -1000000) (e : f h = some (c, h)) : ((f h).bind fun r1 => ((f_X7_counted r1.1 r1.2).bind fun r2 => (some (r2.1, r2.2)))) = some (c, hcF h) := cntF hc e
theorem p_between {h : Hp} (R : Rel h) (x y z : Int32) : Pm h (f_X7_between x y z) (f_X8_between x y z) := by
  rcases R.boat? x with ⟨i, hi, rfl, hb, hm, hci, h8⟩ | ⟨hb, hm, -⟩
  · rcases R.berth? y with ⟨b, hbb, rfl, hb', hm', hcb, h4⟩ | ⟨hb', hm', -⟩
    · obtain ⟨⟨hB, hT⟩, hcn, hr, hps⟩ := R.pos
      obtain ⟨c6, e43, e32⟩ := hcn b hbb
      have ec := e_countAt R hbb
      have e43F : gI (hcF h) 43 0 b = nI (cnA h b) := e43
      have e32F : gI (hcF h) 32 0 b = gI h 32 0 b := rfl
      by_cases hz : 0 ≤ z ∧ z ≤ nI (cnA h b)
      · obtain ⟨p, hp7, rfl⟩ := ofR (x := z) (n := 7) (by decide) hz.1 (Int32.lt_of_le_of_lt hz.2 ((nI_ltI (b := 7) (by omega) (by omega)).mpr (by omega)))
        have hp : p ≤ cnA h b := (nIl (by omega) (by omega)).mp hz.2
        have CB := c_betw0 hb hb' (Int32.not_lt.mpr hz.1) ec hz.2
        have MB : ∀ h1, MP h1 h → f_X8_between (nI i) (nI b) (nI p) h1 = (f_X8_spotOf (nI i) h1).bind fun r6 => if r6 < 0 then (if nI (cnA h b) = gI h 32 0 b then f_X8_finding (-1000002) h1 else ((f_X8_insideOf (nI b) (nI p) h1).bind fun r7 => ((f_X8_whyNot (nI i) (nI b) (nI p) r7 h1).bind fun r8 => (if r8 = 0 then (fL_X8_between_100 FU (nI i) (nI b) (nI p) (1 : Int32) (nI p) h1) else (fL_X8_between_100 FU (nI i) (nI b) (nI p) (0 : Int32) (nI p) h1))))) else f_X8_finding (-1000005) h1 := by
          intro h1 P
          have rm1 := R.rm.mp P
          have k1 : f_X8_isBoat (nI i) h1 = some true := by rw [m_isBoat rm1]; rw [m_isBoat R.rm] at hm; exact hm
          have k2 : f_X8_isBerth (nI b) h1 = some true := by rw [m_isBerth rm1]; rw [m_isBerth R.rm] at hm'; exact hm'
          have f43 : gI h1 43 0 b = nI (cnA h b) := by rw [P 43 rfl]; exact e43
          have f32 : gI h1 32 0 b = gI h 32 0 b := by rw [P 32 rfl]
          unfold f_X8_between
          rw [k1, bnd_some, if_pos rfl, k2, bnd_some, if_pos rfl, if_pos h4, hcb, f43, w_within, bnd_some, decide_eq_true hz, if_pos rfl]
          congr 1
          funext r6
          rw [if_pos h4, if_pos h4, f32, fnd_eta, fnd_eta]
        rcases R.lies? hi with ⟨q1, q2, q3, q4⟩ | ⟨b0, k0, q1, q2, q3, q4, q5, q6, q7⟩
        · have sp : ∀ h1, MP h1 h → f_X8_spotOf (nI i) h1 = some (-1) := fun h1 P => q4 h1 (R.rm.mp P) (fun _ => by rw [P 43 rfl]) (fun _ => by rw [P 44 rfl])
          have eb := R.ber hbb
          have pr := eb.2.2.2.2.2.2.1
          obtain ⟨pl, hpl, epl⟩ := ofR (x := gI h 32 0 b) (n := 7) (by decide) (Int32.le_trans (by decide) pr.1) (Int32.lt_of_le_of_lt pr.2 (by decide))
          have lpl : cnA h b ≤ pl := by
            rw [e43, epl] at e32
            exact (nIl (by omega) (by omega)).mp e32
          by_cases full : cnA h b = pl
          · have w1 : ¬ nI (cnA h b) < gI h 0 b 2 := by
              rw [eb.2.2.1, epl, full]
              exact fun w => Int32.lt_irrefl w
            have w2 : nI (cnA h b) = gI h 32 0 b := by rw [epl, full]
            refine Pm.find R (-1000002) ?_ ?_
            · refine c_cF (by decide) ?_
              rw [CB, q3, bnd_some, if_neg (by decide), if_neg w1]
            · rw [MB _ (MP.F h), sp _ (MP.F h), bnd_some, if_pos (by decide), if_pos w2]
          · have w1 : nI (cnA h b) < gI h 0 b 2 := by
              rw [eb.2.2.1, epl]
              exact (nI_ltI (by omega) (by omega)).mpr (by omega)
            have w2 : ¬ nI (cnA h b) = gI h 32 0 b := by
              rw [epl]
              exact fun w => full ((nI_eq (by omega) (by omega)).mp w)
            have insr : ∀ q, ins h b p = some q → q < gN h 1 := by
              intro q e
              unfold ins at e
              by_cases p0 : p = 0
              · rw [if_pos p0] at e
                exact absurd e (by simp)
              · rw [if_neg p0] at e
                cases e
                exact (hr b (p - 1) hbb (by omega)).1
            have fits : f_X5_fitsBetween i b (nI b) (nI p) h = if wR h i b (nI p) (ins h b p) = 0 then fL_X5_fitsBetween_36 h FU i b (nI b) (nI p) 8 0 else some false := by
              unfold f_X5_fitsBetween
              rw [e_boatIn R hbb hp, bnd_some, e_whyRight R hi hbb _ _ insr, bnd_some]
            have LF := L_fits R hi hbb hp 8 FU 0 (by omega) (FUb (by omega))
            have mid : ∀ h1, MP h1 h → f_X8_between (nI i) (nI b) (nI p) h1 = if wR h i b (nI p) (ins h b p) = 0 then (fL_X8_between_100 FU (nI i) (nI b) (nI p) (1 : Int32) (nI p) h1) else (fL_X8_between_100 FU (nI i) (nI b) (nI p) (0 : Int32) (nI p) h1) := by
              intro h1 P
              obtain ⟨y, y1, y2, y3⟩ := m_inside R hbb hp
              have y1' : f_X8_insideOf (nI b) (nI p) h1 = some y := by
                rw [← y1]
                unfold f_X8_insideOf
                rw [P 44 rfl]
              rw [MB h1 P, sp h1 P, bnd_some, if_pos (by decide), if_neg w2, y1', bnd_some, m_why (show i < 8 by omega) (show b < 4 by omega) (nI p) y y2 h1, bnd_some, y3, wR_M P]
            have L100 := fun h1 (P : MP h1 h) x4 hx => L_b100 R P hi hbb hp (cnA h b - p) FU p x4 hx (Nat.le_refl p) (by omega) (FUb (by omega))
            have bad : ∀ (_ : f_X5_fitsBetween i b (nI b) (nI p) h = some false) (_ : f_X8_between (nI i) (nI b) (nI p) (hcF h) = f_X8_finding (-1000003) (hcF h)), Pm h (f_X7_between (nI i) (nI b) (nI p)) (f_X8_between (nI i) (nI b) (nI p)) := by
              intro a1 a2
              refine Pm.find R (-1000003) ?_ a2
              refine c_cF (by decide) ?_
              rw [CB, q3, bnd_some, if_neg (by decide), if_pos w1, a1, bnd_some, if_neg (by decide)]
            by_cases g0 : wR h i b (nI p) (ins h b p) = 0
            · by_cases A : ∀ k', p ≤ k' → k' < cnA h b → okB h i b p k'
              · have c5 : cnA h b ≤ 5 := by omega
                have hpl2 : nI (cnA h b + 1) ≤ gI h 32 0 b := by
                  rw [epl]
                  exact (nIl (by omega) (by omega)).mpr (by omega)
                obtain ⟨RR, GG⟩ := r_betw R hi hbb hp q1 c5 hpl2
                have PC := (btC_F h i b p).2
                have fT : f_X5_fitsBetween i b (nI b) (nI p) h = some true := by
                  rw [fits, if_pos g0]
                  exact LF.1 (fun j' _ ⟨k, v1, v2, v3, v4⟩ => v4 (A k v1 v2))
                have mv := c_moveFrom R.boA (geB h b p) (nI b) (nI p) 1 (fun j hj => rfl)
                have so := sm_geB R hbb hp
                have vv : ¬ nI (cnA h b - p) < -1000000 := fun q => absurd (Int32.lt_of_le_of_lt (nIr (n := cnA h b - p) (k := 100) (by omega) (by omega)).1 q) (by decide)
                refine ⟨nI (cnA h b - p), btC h i b p, _, ?_, ?_, RR, GG⟩
                · unfold f_X7_between
                  rw [CB, q3, bnd_some, if_neg (by decide), if_pos w1, fT, bnd_some, if_pos rfl, mv, bnd_some, f_X1_layAt, bnd_some, bnd_some, so, c_same vv, bnd_some]
                  unfold btC
                  rw [so]
                · rw [mid _ PC, if_pos g0, (L100 _ PC 1 (Or.inr rfl)).1 ⟨rfl, A⟩]
                  refine L_b211 (g := btC h i b p) (show b < 4 by omega) c5 hp (by rw [PC 43 rfl]; exact e43) (fun j => rwA h b (cnA h b - 1 - j)) _ ?_ (cnA h b - p) FU 0 (by omega) (FUb (by omega))
                  intro j hj
                  have q := hr b (cnA h b - 1 - j) hbb (by omega)
                  refine ⟨by omega, ?_⟩
                  rw [PC 44 rfl, show 6 * b + cnA h b - j - 1 = 6 * b + (cnA h b - 1 - j) by omega]
                  exact q.2.1
              · refine bad ?_ ?_
                · rw [fits, if_pos g0]
                  refine LF.2 ?_
                  apply Classical.byContradiction
                  intro w
                  apply A
                  intro k' v1 v2
                  apply Classical.byContradiction
                  intro v3
                  exact w ⟨rwA h b k', Nat.zero_le _, k', v1, v2, rfl, v3⟩
                · rw [mid _ (MP.F h), if_pos g0, (L100 _ (MP.F h) 1 (Or.inr rfl)).2 (fun w => A w.2)]
            · refine bad ?_ ?_
              · rw [fits, if_neg g0]
              · rw [mid _ (MP.F h), if_neg g0, (L100 _ (MP.F h) 0 (Or.inl rfl)).2 (fun w => absurd w.1 (by decide))]
        · refine Pm.find R (-1000005) ?_ ?_
          · refine c_cF (by decide) ?_
            rw [CB, q6, bnd_some, if_pos rfl]
          · have h0 : ¬ nI (6 * b0 + k0) < 0 := nI_pos (by have := ((R.pos).2.1 b0 q1).1; omega)
            rw [MB _ (MP.F h), q7 (hcF h) R.rmF (fun _ => rfl) (fun _ => rfl), bnd_some, if_neg h0]
      · refine Pm.find R (-1000001) ?_ ?_
        · refine c_cF (by decide) ?_
          unfold f_X5_layBetween
          rw [hb, bnd_some, hb', bnd_some]
          simp only []
          rw [ec, bnd_some]
          by_cases z0 : z < 0
          · rw [if_pos z0]
          · rw [if_neg z0, if_neg (fun w => hz ⟨Int32.not_lt.mp z0, w⟩)]
        · unfold f_X8_between
          rw [isBoat_F, hm, bnd_some, if_pos rfl, isBerth_F, hm', bnd_some, if_pos rfl, if_pos h4, hcb, e43F, w_within, bnd_some, decide_eq_false hz, if_neg (by decide), fnd_eta]
    · refine Pm.find R (-1000001) ?_ ?_
      · refine c_cF (by decide) ?_
        unfold f_X5_layBetween
        rw [hb, bnd_some, hb', bnd_some]
      · unfold f_X8_between
        rw [isBoat_F, hm, bnd_some, if_pos rfl, isBerth_F, hm', bnd_some, if_neg (by decide), fnd_eta]
  · refine Pm.find R (-1000001) ?_ ?_
    · refine c_cF (by decide) ?_
      unfold f_X5_layBetween
      rw [hb, bnd_some]
      rcases R.berth? y with ⟨b, hbb, rfl, hb', hm', hc', h4⟩ | ⟨hb', hm', -⟩
      · rw [hb', bnd_some]
      · rw [hb', bnd_some]
    · unfold f_X8_between
      rw [isBoat_F, hm, bnd_some, if_neg (by decide), fnd_eta]
