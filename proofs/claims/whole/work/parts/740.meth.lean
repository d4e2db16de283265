/-! ===== lay ===== -/
theorem pos_lay {h hm : Hp} (R : Rel h) {m : Nat} (hm2 : m < 2 ^ gN h 1) (h6 : cr m 8 ≤ 6) {P : List (List Nat)} (F : Full (fA h m) (fN h m) (cr m 8) (gN h 0) P)
    (p8 : ∀ i, i < gN h 1 → gI hm 1 i 8 = if m.testBit i = true then nI (pB P (cr m i)) else -1) (p9 : ∀ i, i < gN h 1 → gI hm 1 i 9 = if m.testBit i = true then nI (pK P (cr m i)) else -1)
    (p44 : ∀ r, r < cr m 8 → gI hm 44 0 (s6 P r) = nI (boF m 8 r)) (p43 : ∀ b, b < 4 → gI hm 43 0 b = nI (cntB (fun r => decide (pB P r = b)) (cr m 8))) :
    PosR (gN h 0) (gN h 1) (fun i => gI hm 1 i 8) (fun i => gI hm 1 i 9) (fun b => gI hm 43 0 b) (fun k => gI hm 44 0 k) (fun b => gI h 32 0 b) := by
  have hB := R.b4
  have hT := R.t8
  obtain ⟨r1, r2, r3, r4, r5, r6⟩ := F.rows (fA_k h m) h6
  have c43 : ∀ b, b < gN h 0 → gI hm 43 0 b = nI (rwP P b).length := by
    intro b hb
    rw [p43 b (by omega)]
    rcases r4 b with w | w
    · rw [w]
    · omega
  refine ⟨fun b hb => ?_, fun b q1 q2 => ?_, fun b k hb hk => ?_, fun i hi => ?_⟩
  · have l6 := r5 b
    refine ⟨(rwP P b).length, l6, c43 b hb, ?_⟩
    show gI hm 43 0 b ≤ gI h 32 0 b
    rw [c43 b hb]
    have pr := (R.ber hb).2.2.2.2.2.2.1
    obtain ⟨pl, hpl, epl⟩ := ofR (x := gI h 32 0 b) (n := 7) (by decide) (Int32.le_trans (by decide) pr.1) (Int32.lt_of_le_of_lt pr.2 (by decide))
    rw [epl]
    refine (nIl (by omega) (by omega)).mpr ?_
    by_cases z : 0 < (rwP P b).length
    · obtain ⟨r, hr, ar⟩ := r6 b z
      have wa := (of_decide_eq_true ar).2
      have lt : nI ((rwP P b).length - 1) < gI h 32 0 b := by
        apply Classical.byContradiction
        intro w
        unfold wA at wa
        rw [if_neg w] at wa
        exact absurd wa (by decide)
      rw [epl] at lt
      have := (nI_ltI (by omega) (by omega)).mp lt
      omega
    · omega
  · show gI hm 43 0 b = 0
    rw [p43 b q2]
    have : ∀ n, n ≤ cr m 8 → cntB (fun r => decide (pB P r = b)) n = 0 := by
      intro n
      induction n with
      | zero => intro _; rfl
      | succ n ih =>
        intro hn
        have := (r1 n (by omega)).1
        rw [cntB, ih (by omega), if_neg (by simp; omega)]
    rw [this _ (Nat.le_refl _)]
    rfl
  · have hk' : k < (gI hm 43 0 b).toNatClampNeg := hk
    have l6 := r5 b
    rw [c43 b hb, nI_clamp (by omega)] at hk'
    obtain ⟨r, hr, e1, e2⟩ := r2 b k hk'
    have bs := boF_s m 8 r hr
    have bt := R.setlt hm2 bs.2.1
    refine ⟨boF m 8 r, bt, ?_, ?_, ?_⟩
    · have := p44 r hr
      unfold s6 at this
      rw [e1, e2] at this
      exact this
    · refine (p8 _ bt).trans ?_
      rw [if_pos bs.2.1, bs.2.2, e1]
    · refine (p9 _ bt).trans ?_
      rw [if_pos bs.2.1, bs.2.2, e2]
  · show (gI hm 1 i 8 = -1 ∧ gI hm 1 i 9 = -1) ∨ ∃ b k, b < gN h 0 ∧ k < (gI hm 43 0 b).toNatClampNeg ∧ gI hm 1 i 8 = nI b ∧ gI hm 1 i 9 = nI k ∧ gI hm 44 0 (6 * b + k) = nI i
    rw [p8 i hi, p9 i hi]
    by_cases tb : m.testBit i = true
    · have hr : cr m i < cr m 8 := cr_lt m (by omega) tb
      obtain ⟨b1, b2⟩ := r1 (cr m i) hr
      refine Or.inr ⟨pB P (cr m i), pK P (cr m i), b1, ?_, if_pos tb, if_pos tb, ?_⟩
      · have l6 := r5 (pB P (cr m i))
        rw [c43 _ b1, nI_clamp (by omega)]
        exact b2
      · have := p44 (cr m i) hr
        rw [boF_of (by omega) tb] at this
        exact this
    · exact Or.inl ⟨if_neg tb, if_neg tb⟩
theorem p_lay {h : Hp} (R : Rel h) (x : Int32) : Pm h (f_X7_lay x) (f_X8_lay x) := by
  have hT := R.t8
  have hB := R.b4
  have nv := NEV_e
  rcases e_refuses R x with ⟨e, q⟩ | ⟨m, rfl, hm, ⟨h6, e⟩ | ⟨h6, e⟩⟩
  · refine Pm.find R (-1000001) ?_ ?_
    · unfold f_X7_lay
      rw [e, bnd_some, if_neg (by decide), c_find (by decide), bnd_some]
    · unfold f_X8_lay
      rw [m_refusal0 R (MP.F h) _ q, bnd_some, if_neg (show ¬ (-1000001 : Int32) = 0 by decide), fnd_eta]
  · have m256 := R.m256 hm
    obtain ⟨v, hc, a1, a2, a3, a4, a5⟩ := e_find R hm h6
    by_cases vl : v < NEV
    · rw [if_pos vl] at a1
      have Rc := R.qs a2
      have n1 : gN hc = gN h := a2.1
      have hmc : m < 2 ^ gN hc 1 := by rw [n1]; exact hm
      -- where the class lays them
      obtain ⟨Pc, c1, c2, c3, c4⟩ : ∃ P, P.length = gN h 0 ∧ pOk (fA h m) (fN h m) P ∧ mkP P = 2 ^ (cr m 8) - 1 ∧ pCo (fV h m) P = v := by
        rcases a5.2.2 with w | w
        · omega
        · exact w
      have Fc : Full (fA h m) (fN h m) (cr m 8) (gN h 0) Pc := ⟨c1, c2, c3⟩
      have dc := Full.dec (V := fV h m) (fA_k h m) h6 R.b4 Fc
      rw [c4] at dc
      obtain ⟨f, ef⟩ : ∃ f : Nat → Int32, f = fun i => if m.testBit i = true then nI (pB Pc (cr m i)) else -1 := ⟨_, rfl⟩
      obtain ⟨g, eg⟩ : ∃ g : Nat → Int32, g = fun i => if m.testBit i = true then nI (pK Pc (cr m i)) else -1 := ⟨_, rfl⟩
      have plc : ∀ i, i < 8 → m.testBit i = true → pB Pc (cr m i) < 4 ∧ pK Pc (cr m i) < 6 := by
        intro i hi tb
        have := pB_lt _ _ (fA_k h m) c2 ((Fc.mem (cr m i)).mpr (cr_lt m hi tb))
        rw [c1] at this
        omega
      have LC := L_layC Rc hmc f g (fun i hi tb h' e7 => by
        rw [n1] at hi
        have := plc i (by omega) tb
        rw [ef, eg]
        simp only [if_pos tb]
        exact e_spot m256 (by omega) tb h6 (e7.trans a4) vl this.1 this.2 (dc.2.2.2 _ (cr_lt m (by omega) tb))) (fun i hi tb => by
        rw [ef, eg]
        simp only [if_neg tb]
        exact ⟨trivial, trivial⟩) (gN hc 1) FU 0 0 (by omega) (FUb (by rw [n1]; omega))
      rw [show sm (chg hc f g) 0 = 0 from rfl, z_add] at LC
      obtain ⟨hl, ehl⟩ : ∃ hl, hl = hLy hc f g (gN hc 1) := ⟨_, rfl⟩
      obtain ⟨l1, l2, l3, l4, l5⟩ := hLy_F hc f g (gN hc 1)
      rw [← ehl] at LC l1 l2 l3 l4 l5
      have LC' : f_X7_layAnew (nI m) hc = some (sm (chg hc f g) (gN hc 1), hl) := LC
      have Pl : MP hl h := l4.trans a3
      have g1 : ∀ t, t ≠ 1 → gI hl t = gI hc t := fun t ht => by
        funext i k
        rw [ehl, hLy_I, if_neg (fun w => ht w.1), if_neg (fun w => ht w.1)]
      have g18 : ∀ i, i < gN h 1 → gI hl 1 i 8 = f i := fun i hi => by rw [ehl, hLy_I, if_neg (by omega), if_pos ⟨rfl, by rw [n1]; exact hi, rfl⟩]
      have g19 : ∀ i, i < gN h 1 → gI hl 1 i 9 = g i := fun i hi => by rw [ehl, hLy_I, if_pos ⟨rfl, by rw [n1]; exact hi, rfl⟩]
      have g1c : ∀ i c, c ≠ 8 → c ≠ 9 → gI hl 1 i c = gI hc 1 i c := fun i c h8 h9 => by rw [ehl, hLy_I, if_neg (by omega), if_neg (by omega)]
      -- the reference's search
      obtain ⟨h1, b1, b2, b3, b4, b5⟩ := m_refusal1 R Pl hm (-1)
      obtain ⟨h2, d1, d2, d3⟩ := m_126 R Pl hm h6 b1 b3 b4
      have Q2 : Qs hl h2 := b1.trans d2.qs
      have CP2 : CP h2 hl := d2.1.trans b2
      rcases meet (fA_k h m) h6 R.b4 a5 d3 with ⟨w, -⟩ | ⟨-, e38, P, p1, p2, p3, p4⟩
      · exact absurd vl w
      · have dp := Full.dec (V := fV h m) (fA_k h m) h6 R.b4 p1
        rw [p2] at dp
        have pbk : ∀ r, r < cr m 8 → pB P r < 4 ∧ pK P r < 6 := by
          intro r hr
          have := pB_lt _ _ (fA_k h m) p1.2.1 ((p1.mem r).mpr hr)
          rw [p1.1] at this
          omega
        have same : ∀ r, r < cr m 8 → pB Pc r = pB P r ∧ pK Pc r = pK P r := by
          intro r hr
          have w1 := dc.2.2.2 r hr
          have w2 := dp.2.2.2 r hr
          have w3 := pbk r hr
          have w4 := pB_lt _ _ (fA_k h m) c2 ((Fc.mem r).mpr hr)
          omega
        have f8 : ∀ i, i < gN h 1 → f i = if m.testBit i = true then nI (pB P (cr m i)) else -1 := by
          intro i hi
          rw [ef]
          by_cases tb : m.testBit i = true
          · simp only [if_pos tb]
            rw [(same _ (cr_lt m (by omega) tb)).1]
          · simp only [if_neg tb]
        have g8 : ∀ i, i < gN h 1 → g i = if m.testBit i = true then nI (pK P (cr m i)) else -1 := by
          intro i hi
          rw [eg]
          by_cases tb : m.testBit i = true
          · simp only [if_pos tb]
            rw [(same _ (cr_lt m (by omega) tb)).2]
          · simp only [if_neg tb]
        -- the reference's loops
        have e31 : gI h2 8 0 31 = nI (cr m 8) := by
          rw [d2.2.2 31 (by omega), b3, Nat.min_eq_right h6]
        have e52 : ∀ r, r < cr m 8 → gI h2 52 0 r = nI (boF m 8 r) := fun r hr => by
          rw [d2.2.1 52 (by omega) (by omega)]
          exact b4 r (by omega)
        have m2 : ∀ t, cT t = false → scr t = false → gI h2 t = gI h t := fun t h1 h2 => by rw [Q2.2.2.1 t h2, Pl t h1]
        have q8 : ∀ c, c < 31 → gI h2 8 0 c = gI h 8 0 c := fun c hc => by rw [Q2.2.2.2 c hc, Pl 8 rfl]
        have rm2 : RM (gN h 0) (gN h 1) h2 := R.rm.congr (q8 0 (by omega)) (q8 6 (by omega)) (fun b => by rw [m2 43 rfl rfl]) (fun b => by rw [m2 44 rfl rfl])
        obtain ⟨h3, eh3⟩ : ∃ h3, h3 = hV h2 60 0 0 (os h) (gN h 1) := ⟨_, rfl⟩
        have F3 : Fl h2 h3 := by rw [eh3]; exact hV_Fl (by omega) _
        have L19 := L_l19 (h := h2) (gN h 1) hT (by rw [q8 6 (by omega)]; exact R.nt) (os h) (fun i hi j => by
          have Fj : Fl h2 (hV h2 60 0 0 (os h) j) := hV_Fl (by omega) j
          have k43 : ∀ b, gI (hV h2 60 0 0 (os h) j) 43 0 b = gI h2 43 0 b := fun b => by rw [hV_I, if_neg (by omega)]
          have k44 : ∀ b, gI (hV h2 60 0 0 (os h) j) 44 0 b = gI h2 44 0 b := fun b => by rw [hV_I, if_neg (by omega)]
          refine R.ospot hi _ (rm2.congr (by rw [Fj.2 8 (by omega) (by omega) (by omega)]) (by rw [Fj.2 8 (by omega) (by omega) (by omega)]) k43 k44) (fun b => by rw [k43, m2 43 rfl rfl]) (fun b => by rw [k44, m2 44 rfl rfl])) (gN h 1) FU 0 (by omega) (FUb (by omega))
        have L46 := L_l46 (h := h3) (gN h 0) hB (by rw [F3.2 8 (by omega) (by omega) (by omega), q8 0 (by omega)]; exact R.nb) (gN h 0) FU 0 (by omega) (FUb (by omega))
        obtain ⟨h4, eh4⟩ : ∃ h4, h4 = hV h3 43 0 0 (fun _ => 0) (gN h 0) := ⟨_, rfl⟩
        have F4 : Fl h3 h4 := by rw [eh4]; exact hV_Fl (by omega) _
        have F24 := F3.trans F4
        have k4 : ∀ t, t ≠ 43 → t ≠ 44 → t ≠ 60 → gI h4 t = gI h2 t := F24.2
        have rows := p1.rows (fA_k h m) h6
        obtain ⟨h5, t1, t2, t3, t4, t5⟩ := L_l69 h6 (boF m 8) pbk rows.2.2.1 (cr m 8) FU 0 h4 (by omega) (FUb (by omega)) (by rw [k4 8 (by omega) (by omega) (by omega)]; exact e31) (fun r hr => by rw [k4 52 (by omega) (by omega) (by omega)]; exact e52 r hr) (fun r hr => by rw [k4 59 (by omega) (by omega) (by omega)]; exact p4 r hr) (fun r hr => by omega) (fun b hb => by
          show gI h4 43 0 b = nI 0
          rw [eh4, hV_I]
          by_cases w : b < gN h 0
          · rw [if_pos (by omega)]
            rfl
          · rw [if_neg (by omega), eh3, hV_I, if_neg (by omega), m2 43 rfl rfl]
            exact R.2.2.2.1.2.1 b (by omega) hb)
        have F25 := F24.trans t2
        have CP5 : CP h5 hl := F25.1.trans CP2
        have k5 : ∀ t, t ≠ 43 → t ≠ 44 → t ≠ 60 → gI h5 t = gI h2 t := F25.2
        have Fr5 : Fr h h5 := ((a2.fr.trans l5).trans Q2.fr).trans F25.fr
        have y1 : ∀ i c, gI h5 1 i c = gI hl 1 i c := fun i c => by rw [CP5.2.2.2 1 rfl]
        have cl : ∀ t, t ≠ 1 → t ≠ 43 → t ≠ 44 → scr t = false → gI h5 t = gI h t := fun t w1 w2 w3 w4 => by
          have w5 : t ≠ 60 := by rintro rfl; exact absurd w4 (by decide)
          rw [k5 t w2 w3 w5, Q2.2.2.1 t w4, g1 t w1, a2.2.2.1 t w4]
        have q5 : ∀ c, c < 31 → gI h5 8 0 c = gI h 8 0 c := fun c hc => by rw [k5 8 (by omega) (by omega) (by omega), q8 c hc]
        obtain ⟨-, -, ⟨cc1, cc2⟩, -, ⟨e1', e2', e3', e4', e5', e6', e7', e8'⟩, -⟩ := id R
        have R5 : Rel h5 := by
          refine R.fr Fr5 (pos_lay R hm h6 p1 (fun i hi => ?_) (fun i hi => ?_) t4 t5) ?_ ?_ ?_ ?_ ?_
          · rw [y1, g18 i hi, f8 i hi]
          · rw [y1, g19 i hi, g8 i hi]
          · rw [cl 2 (by omega) (by omega) (by omega) rfl, q5 19 (by omega)]; exact e2'
          · rw [q5 19 (by omega)]; exact e7'
          · rw [cl 5 (by omega) (by omega) (by omega) rfl, q5 16 (by omega)]; exact e4'
          · intro i hi
            have q := cc1 i hi
            have z10 : gI hl 1 i 10 = gI h 1 i 10 := by rw [g1c i 10 (by omega) (by omega), a2.2.2.1 1 rfl]
            have z11 : gI hl 1 i 11 = gI h 1 i 11 := by rw [g1c i 11 (by omega) (by omega), a2.2.2.1 1 rfl]
            rw [y1, y1, z10, z11, cl 41 (by omega) (by omega) (by omega) rfl, cl 42 (by omega) (by omega) (by omega) rfl]
            exact ⟨q.2.2.2.2.2.2.2.2.1, q.2.2.2.2.2.2.2.2.2.1⟩
          · intro i w1 w2
            rw [cl 41 (by omega) (by omega) (by omega) rfl, cl 42 (by omega) (by omega) (by omega) rfl]
            exact (cc2 i w1 w2).2
        have n5 : gN h5 = gN h := Fr5.1
        have L123 := L_l123 (h := h5) (gN h 1) hT (by rw [q5 6 (by omega)]; exact R.nt) (os h5) (fun i hi => R5.ospot (by rw [n5]; exact hi) h5 R5.rm (fun _ => rfl) (fun _ => rfl)) (gN h 1) FU 0 0 (by omega) (FUb (by omega))
        rw [show sm (cgR h5 (os h5)) 0 = 0 from rfl, z_add] at L123
        have cnt : sm (cgR h5 (os h5)) (gN h 1) = sm (chg hc f g) (gN hc 1) := by
          rw [n1]
          apply sm_c
          intro i hi
          have e60 : gI h5 60 0 i = os h i := by
            rw [t3, eh4, hV_I, if_neg (by omega), eh3, hV_I, if_pos (by omega), Nat.sub_zero]
          have o8 : gI hc 1 i 8 = gI h 1 i 8 := by rw [a2.2.2.1 1 rfl]
          have o9 : gI hc 1 i 9 = gI h 1 i 9 := by rw [a2.2.2.1 1 rfl]
          have new : os h5 i = if f i = -1 then -1 else 6 * f i + g i := by
            unfold os
            rw [y1, y1, g18 i hi, g19 i hi]
          unfold cgR chg
          rw [e60, new, o8, o9, f8 i hi, g8 i hi]
          rcases R.lies? hi with ⟨q1, q2, -⟩ | ⟨b0, k0, q1, q2, q3, q4, -⟩
          · have : os h i = -1 := by unfold os; rw [if_pos q1]
            rw [this, if_pos (by decide), if_neg (fun w => w.1 q1)]
          · have k6 : k0 < 6 := by have := (R.pos.2.1 b0 q1).1; omega
            have nb0 : ¬ nI b0 = -1 := fun w => nI_m1 (by omega) w.symm
            have : os h i = nI (6 * b0 + k0) := by unfold os; rw [q3, if_neg nb0, q4, i6]
            rw [this, if_neg (nI_pos (by omega)), q3, q4]
            by_cases tb : m.testBit i = true
            · have pl := pbk (cr m i) (cr_lt m (by omega) tb)
              have np : ¬ nI (pB P (cr m i)) = -1 := fun w => nI_m1 (by omega) w.symm
              simp only [if_pos tb]
              rw [if_neg np, i6]
              by_cases eq : b0 = pB P (cr m i) ∧ k0 = pK P (cr m i)
              · rw [if_pos (by rw [eq.1, eq.2]), if_neg (fun w => w.2 ⟨by rw [eq.1], by rw [eq.2]⟩)]
              · rw [if_neg (fun w => eq (by have := (nI_eq (by omega) (by omega)).mp w; omega)), if_pos ⟨nb0, fun w => eq ⟨(nI_eq (by omega) (by omega)).mp w.1, (nI_eq (by omega) (by omega)).mp w.2⟩⟩]
            · simp only [if_neg tb]
              rw [if_pos trivial, if_neg (fun w => nI_m1 (by omega) w.symm), if_pos ⟨nb0, fun w => nb0 w.1⟩]
        have ne : ¬ nI (v / 1073741824) = -1000004 := fun w => by
          have := (nIr (n := v / 1073741824) (k := 1000) (by omega) (by omega)).1
          rw [w] at this
          exact absurd this (by decide)
        refine Pm.mk (v := sm (chg hc f g) (gN hc 1)) (h1 := hl) (h2 := h5) ?_ ?_ R5 (fun i => by rw [cl 41 (by omega) (by omega) (by omega) rfl]) (fun i => by rw [cl 42 (by omega) (by omega) (by omega) rfl])
        · unfold f_X7_lay
          rw [e, bnd_some, if_pos rfl, a1, bnd_some, if_neg ne, LC', bnd_some]
        · unfold f_X8_lay
          rw [b5, if_pos h6, if_pos rfl, d1, bnd_some, e38, if_neg (show ¬ (1 : Int32) = 0 by decide), if_pos (show (0 : Int32) = 0 from rfl)]
          refine Eq.trans L19 ?_
          rw [← eh3]
          refine Eq.trans L46 ?_
          rw [← eh4]
          refine Eq.trans t1 ?_
          refine Eq.trans L123 ?_
          rw [cnt]
    · rw [if_neg vl] at a1
      have P1 := (MP.F hc).trans a3
      obtain ⟨h1, b1, b2, b3, b4, b5⟩ := m_refusal1 R P1 hm (-1)
      obtain ⟨h2, c1, c2, c3⟩ := m_126 R P1 hm h6 b1 b3 b4
      rcases meet (fA_k h m) h6 R.b4 a5 c3 with ⟨-, e38⟩ | ⟨w, -⟩
      · refine Pm.find2 R (-1000004) a2 (b1.trans c2.qs) ?_ ?_
        · unfold f_X7_lay
          rw [e, bnd_some, if_pos rfl, a1, bnd_some, if_pos (show (-1000004 : Int32) = -1000004 from rfl), c_find (show (-1000004 : Int32) < -1000000 by decide), bnd_some]
        · unfold f_X8_lay
          rw [b5, if_pos h6, if_pos rfl, c1, bnd_some, e38, if_pos rfl, if_neg (show ¬ (-1000004 : Int32) = 0 by decide), fnd_eta]
      · exact absurd w vl
  · obtain ⟨h1, b1, b2, b3, b4, b5⟩ := m_refusal1 R (MP.F h) hm (-1)
    refine Pm.find2 R (-1000007) (Qs.rfl' h) b1 ?_ ?_
    · unfold f_X7_lay
      rw [e, bnd_some, if_neg (by decide), c_find (by decide), bnd_some]
    · unfold f_X8_lay
      rw [b5, if_neg h6, bnd_some, if_neg (show ¬ (-1000007 : Int32) = 0 by decide), fnd_eta]
