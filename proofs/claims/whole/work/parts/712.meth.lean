/-! ===== the class's readers read the class's part alone ===== -/
theorem ov_wc {m c : Hp} {t i k : Nat} {v : Int32} (ht : cT t = true) : ov m (wI c t i k v) = wI (ov m c) t i k v := by
  unfold ov wI
  simp only [gN, gI, gL, gP, Prod.mk.injEq, true_and, and_true]
  funext a b d
  by_cases q : cT a = true
  · rw [if_pos q, if_pos q]
  · rw [if_neg q, if_neg q, if_neg]
    rintro ⟨rfl, -⟩
    exact q ht
theorem ov_wm {m c : Hp} {t i k : Nat} {v : Int32} (ht : cT t = false) : ov (wI m t i k v) c = wI (ov m c) t i k v := by
  unfold ov wI
  simp only [gN, gI, gL, gP, Prod.mk.injEq, true_and, and_true]
  funext a b d
  by_cases q : cT a = true
  · rw [if_pos q, if_pos q, if_neg]
    rintro ⟨rfl, -⟩
    rw [ht] at q
    exact absurd q (by decide)
  · rw [if_neg q, if_neg q]
section
variable {h h' : Hp}
theorem lc_boatOf (E : CE h h') (x : Int32) : f_X5_boatOf x h = f_X5_boatOf x h' := by unfold f_X5_boatOf; rw [E.2.1]
theorem lc_berthOf (E : CE h h') (x : Int32) : f_X5_berthOf x h = f_X5_berthOf x h' := by unfold f_X5_berthOf; rw [E.2.1]
theorem lc_isLying (E : CE h h') (i : Nat) : f_X1_isLying i h = f_X1_isLying i h' := by unfold f_X1_isLying; rw [E.2.2 1 rfl]
theorem lc_isOfKind (E : CE h h') (i : Nat) (x : Int32) : f_X1_isOfKind i x h = f_X1_isOfKind i x h' := by unfold f_X1_isOfKind; rw [E.2.2 1 rfl]
theorem lc_L14 (E : CE h h') : ∀ (n : Nat) (x1 x2 x4 x5 : Int32), fL_X5_countAt_14 h n x1 x2 x4 x5 = fL_X5_countAt_14 h' n x1 x2 x4 x5 := by
  intro n
  induction n with
  | zero => intros; rfl
  | succ n ih => intros; rw [fL_X5_countAt_14, fL_X5_countAt_14, E.2.1, E.2.2 1 rfl]; simp only [ih]
theorem lc_countAt (E : CE h h') (x : Int32) : f_X5_countAt x h = f_X5_countAt x h' := by unfold f_X5_countAt; exact lc_L14 E _ _ _ _ _
theorem lc_L12 (E : CE h h') : ∀ (n : Nat) (x1 x2 x4 x5 : Int32), fL_X5_boatAt_12 h n x1 x2 x4 x5 = fL_X5_boatAt_12 h' n x1 x2 x4 x5 := by
  intro n
  induction n with
  | zero => intros; rfl
  | succ n ih => intros; rw [fL_X5_boatAt_12, fL_X5_boatAt_12, E.2.1, E.2.2 1 rfl]; simp only [ih]
theorem lc_boatAt (E : CE h h') (x y : Int32) : f_X5_boatAt x y h = f_X5_boatAt x y h' := by unfold f_X5_boatAt; exact lc_L12 E _ _ _ _ _
theorem lc_whyAt (E : CE h h') (i b : Nat) (x : Int32) : f_X5_whyNotAtPlace i b x h = f_X5_whyNotAtPlace i b x h' := by unfold f_X5_whyNotAtPlace; rw [E.2.2 1 rfl, E.2.2 0 rfl]
theorem lc_whyNext (E : CE h h') (i q : Nat) : f_X5_whyNotNextTo i q h = f_X5_whyNotNextTo i q h' := by
  simp only [f_X5_whyNotNextTo, fJ_X5_whyNotNextTo_30, fJ_X5_whyNotNextTo_31, fJ_X5_whyNotNextTo_54, lc_isOfKind E, E.2.2 1 rfl, E.2.2 5 rfl]
theorem lc_whyRight (E : CE h h') (i b : Nat) (x : Int32) (o : Option Nat) : f_X5_whyNotRight i b x o h = f_X5_whyNotRight i b x o h' := by
  simp only [f_X5_whyNotRight, lc_whyAt E, lc_whyNext E]
theorem lc_whyOut (E : CE h h') (x y : Int32) : f_X5_whyNotOutermost x y h = f_X5_whyNotOutermost x y h' := by
  simp only [f_X5_whyNotOutermost, lc_boatOf E, lc_berthOf E, lc_isLying E, lc_countAt E, lc_boatAt E, lc_whyRight E]
theorem lc_crew (E : CE h h') (i : Nat) (x : Int32) : f_X1_hasCrewAt i x h = f_X1_hasCrewAt i x h' := by unfold f_X1_hasCrewAt; rw [E.2.2 1 rfl]
theorem lc_outOf (E : CE h h') (i j : Nat) : f_X1_isOutsideOf i j h = f_X1_isOutsideOf i j h' := by unfold f_X1_isOutsideOf; rw [E.2.2 1 rfl]
theorem lc_L26 (E : CE h h') : ∀ (n i : Nat) (x1 x2 x4 x5 : Int32), fL_X5_movedIfLeaving_26 h n i x1 x2 x4 x5 = fL_X5_movedIfLeaving_26 h' n i x1 x2 x4 x5 := by
  intro n
  induction n with
  | zero => intros; rfl
  | succ n ih => intros; rw [fL_X5_movedIfLeaving_26, fL_X5_movedIfLeaving_26, E.2.1]; simp only [ih, lc_crew E, lc_outOf E]
theorem lc_moved (E : CE h h') (i : Nat) (x : Int32) : f_X5_movedIfLeaving i x h = f_X5_movedIfLeaving i x h' := by
  unfold f_X5_movedIfLeaving
  simp only [lc_crew E, lc_L26 E]
theorem lc_wants (E : CE h h') (i : Nat) : f_X2_wantsToLeave i h = f_X2_wantsToLeave i h' := by
  unfold f_X2_wantsToLeave
  rw [lc_isLying E, E.2.2 1 rfl, E.2.2 2 rfl]
theorem lc_L19 (E : CE h h') : ∀ (n : Nat) (o : Option Nat) (x1 x4 x5 : Int32), fL_X2_nextToLeave_19 h n o x1 x4 x5 = fL_X2_nextToLeave_19 h' n o x1 x4 x5 := by
  intro n
  induction n with
  | zero => intros; rfl
  | succ n ih => intros; rw [fL_X2_nextToLeave_19, fL_X2_nextToLeave_19, E.2.1, E.2.2 2 rfl]; simp only [ih, lc_wants E, lc_moved E]
theorem lc_next (E : CE h h') : f_X2_nextToLeave h = f_X2_nextToLeave h' := by unfold f_X2_nextToLeave; exact lc_L19 E _ _ _ _ _
end
/-- the class first, the reference then on the class's heap, from a lemma over two heaps -/
theorem Pm.two {h : Hp} {f g : Hp → Option (Int32 × Hp)} {a m : Nat} (ha : a ≤ 24) (hm : m ≤ 200)
    (S : ∀ hm, MP hm h → ∃ v hc' hm', f h = some (v, hc') ∧ g hm = some (v, hm') ∧ Rel (ov hm' hc') ∧ MP hc' h ∧ CP hm' hm ∧ Gw a m hm hm') : Pm h f g := by
  obtain ⟨v, hc, -, e1, -, -, mp, -, -⟩ := S h (fun _ _ => rfl)
  obtain ⟨v', hc', hm', f1, f2, R2, mp', cp', gw⟩ := S hc mp
  have := e1.symm.trans f1
  cases this
  have R3 : Rel hm' := by rw [ov_m cp'] at R2; exact R2
  refine ⟨v, hc, hm', e1, f2, R3, ?_⟩
  refine Gw.gr ((Gw.le ?_ ha hm))
  intro i hi
  have := gw i hi
  rw [mp 41 rfl, mp 42 rfl] at this
  exact this
theorem Rel.rmM {hm hc : Hp} (R : Rel (ov hm hc)) : RM (gN hc 0) (gN hc 1) hm := R.rm.congr (by rw [xIm rfl]) (by rw [xIm rfl]) (fun b => by rw [xIm rfl]) (fun k => by rw [xIm rfl])
theorem cnA_ov (hm hc : Hp) (b : Nat) : cnA (ov hm hc) b = cnA hm b := by unfold cnA; rw [xIm rfl]
theorem rwA_ov (hm hc : Hp) (b k : Nat) : rwA (ov hm hc) b k = rwA hm b k := by unfold rwA; rw [xIm rfl]
theorem outm_ov (hm hc : Hp) (b : Nat) : outm (ov hm hc) b = outm hm b := by unfold outm; rw [cnA_ov, rwA_ov]
theorem wR_ov (hm hc : Hp) (i b : Nat) (x : Int32) (o : Option Nat) : wR hm i b x o = wR (ov hm hc) i b x o := wR_M (fun t ht => (xIm ht).symm) i b x o
/-! ===== read ===== -/
theorem L_read {s b : Nat} (hs : s < 4) : ∀ (m n1 n2 k : Nat) (hc hm : Hp), Rel (ov hm hc) → b < gN hc 0 → gI hm 50 0 s = nI (k + m) → k + m ≤ 8 → m < n1 → m < n2 →
    ∃ v hc' hm', fL_X7_read_45 n1 (nI b) s (nI k) hc = some (v, hc') ∧ fL_X8_read_57 n2 (nI s) (nI b) (nI k) (if m = 0 then 0 else 1) hm = some (v, hm') ∧ Rel (ov hm' hc') ∧ MP hc' hc ∧ CP hm' hm ∧ Gw 0 0 hm hm' := by
  intro m
  induction m with
  | zero =>
    intro n1 n2 k hc hm R hb e50 hk8 h1 h2
    obtain ⟨n1, rfl⟩ : ∃ k, n1 = k + 1 := ⟨n1 - 1, by omega⟩
    obtain ⟨n2, rfl⟩ : ∃ k, n2 = k + 1 := ⟨n2 - 1, by omega⟩
    obtain ⟨w1, w2, w3, w4, w5⟩ := R.2.2.2.2.2.2.2 s hs
    simp only [xIc (m := hm) (c := hc) (t := 6) rfl, xIm (m := hm) (c := hc) (t := 50) rfl] at w2
    refine ⟨nI k, hc, hm, ?_, ?_, R, fun _ _ => rfl, CP.rfl' hm, Gw.rfl' hm⟩
    · rw [fL_X7_read_45, w2, e50, if_pos (by rw [Nat.add_zero]; exact Int32.le_refl _)]
    · rw [fL_X8_read_57, if_pos rfl, if_pos rfl]
  | succ m ih =>
    intro n1 n2 k hc hm R hb e50 hk8 h1 h2
    obtain ⟨n1, rfl⟩ : ∃ k, n1 = k + 1 := ⟨n1 - 1, by omega⟩
    obtain ⟨n2, rfl⟩ : ∃ k, n2 = k + 1 := ⟨n2 - 1, by omega⟩
    obtain ⟨n3, e3⟩ : ∃ n3, n2 = n3 + 1 := ⟨n2 - 1, by omega⟩
    obtain ⟨w1, w2, w3, w4, w5⟩ := R.2.2.2.2.2.2.2 s hs
    simp only [xIc (m := hm) (c := hc) (t := 6) rfl, xIm (m := hm) (c := hc) (t := 50) rfl, xIc (m := hm) (c := hc) (t := 23) rfl, xIm (m := hm) (c := hc) (t := 51) rfl] at w2 w5
    have w5k := w5 k (by omega)
    have E : CE hc (ov hm hc) := CE.ov hm hc
    have hbR : b < gN (ov hm hc) 0 := hb
    have hB : gN hc 0 ≤ 4 := R.b4
    have hT : gN hc 1 ≤ 8 := R.t8
    have rmM := R.rmM
    have nle : ¬ nI (k + (m + 1)) ≤ nI k := fun q => by have := (nIl (by omega) (by omega)).mp q; omega
    have k8 : 0 ≤ nI k ∧ nI k < 8 := nIr (k := 8) (by omega) (by omega)
    have num : f_X6_numberAt s (nI k) hc = some (gI hm 51 0 (8 * s + k)) := by
      unfold f_X6_numberAt
      rw [if_neg (Int32.not_lt.mpr k8.1), w2, e50, if_neg nle, if_neg (Int32.not_le.mpr k8.2), if_pos k8, nI_clamp (by omega), w5k]
    have e8 : (8 : Int32) * nI s + nI k = nI (8 * s + k) := by rw [nq8, pk_mul, nI_add]
    have c8 : (nI (8 * s + k)).toNatClampNeg = 8 * s + k := nI_clamp (by omega)
    have h32 : 0 ≤ nI (8 * s + k) ∧ nI (8 * s + k) < 32 := nIr (k := 32) (by omega) (by omega)
    have s4 : 0 ≤ nI s ∧ nI s < 4 := nIr (k := 4) (by omega) (by omega)
    have cs4 : (nI s).toNatClampNeg = s := nI_clamp (by omega)
    generalize hv : gI hm 51 0 (8 * s + k) = v at num
    have x1 : ¬ (if m + 1 = 0 then (0 : Int32) else 1) = 0 := by rw [if_neg (by omega)]; decide
    -- the end: nobody comes
    have stop : ∀ (r : Int32), r < 0 → f_X5_layOutermost v (nI b) hc = some (r, hc) → fL_X8_read_57 (n2 + 1) (nI s) (nI b) (nI k) (if m + 1 = 0 then 0 else 1) hm = fL_X8_read_57 n2 (nI s) (nI b) (nI k) 0 hm →
        ∃ v hc' hm', fL_X7_read_45 (n1 + 1) (nI b) s (nI k) hc = some (v, hc') ∧ fL_X8_read_57 (n2 + 1) (nI s) (nI b) (nI k) (if m + 1 = 0 then 0 else 1) hm = some (v, hm') ∧ Rel (ov hm' hc') ∧ MP hc' hc ∧ CP hm' hm ∧ Gw 0 0 hm hm' := by
      intro r hr a1 a2
      refine ⟨nI k, hc, hm, ?_, ?_, R, fun _ _ => rfl, CP.rfl' hm, Gw.rfl' hm⟩
      · rw [fL_X7_read_45, w2, e50, if_neg nle, num, bnd_some, a1, bnd_some, if_pos hr]
      · rw [a2, e3, fL_X8_read_57, if_pos rfl]
    have J7 : fJ_X8_read_107 (fL_X8_read_57 n2) (nI s) (nI b) (nI k) v hm = fL_X8_read_57 n2 (nI s) (nI b) (nI k) 0 hm := by
      unfold fJ_X8_read_107 fJ_X8_read_108
      rw [if_pos rfl]
    rcases R.boat? v with ⟨i, hi, rfl, hbo, hmo, hci, hi8⟩ | ⟨hbo, hmo, -⟩
    · have hmo' : f_X8_isBoat (nI i) hm = some true := by rw [m_isBoat rmM]; rw [m_isBoat R.rm] at hmo; exact hmo
      rcases R.lies? hi with ⟨q1, q2, q3, q4⟩ | ⟨b0, k0, q1, q2, q3, q4, q5, q6, q7⟩
      · have sp : f_X8_spotOf (nI i) hm = some (-1) := q4 hm rmM (fun _ => by rw [xIm rfl]) (fun _ => by rw [xIm rfl])
        have wc : f_X5_whyNotOutermost (nI i) (nI b) hc = some (wR hm i b (nI (cnA hm b)) (outm hm b)) := by
          rw [lc_whyOut E, e_whyOut R hi hbR q1, cnA_ov, outm_ov, ← wR_ov]
        have wm := m_whyOut rmM (show i < 8 by have := R.t8; omega) hb
        have wg := wR_ge hm i b (nI (cnA hm b)) (outm hm b)
        by_cases w0 : wR hm i b (nI (cnA hm b)) (outm hm b) = 0
        · have rmy := R.roomy hbR (i := i) (o := outm hm b) (by rw [cnA_ov, ← wR_ov]; exact w0)
          rw [cnA_ov] at rmy
          have RR := r_comes R hi hbR q1 (by rw [cnA_ov]; exact rmy.1) (by rw [cnA_ov]; exact rmy.2)
          rw [cnA_ov] at RR
          have eq : hL2 (hL1 (ov hm hc) i b (cnA hm b)) i b (cnA hm b) = ov (hL2 hm i b (cnA hm b)) (hL1 hc i b (cnA hm b)) := by
            unfold hL2 hL1
            rw [ov_wm rfl, ov_wm rfl, ov_wc rfl, ov_wc rfl]
          rw [eq] at RR
          have e43 : gI hm 43 0 b = nI (cnA hm b) := (rmM.2.2.2.2.1 b hb).2
          have lo := m_laysOut (h := hm) (i := i) (show b < 4 by omega) rmy.1 e43
          have e50' : gI (hL2 hm i b (cnA hm b)) 50 0 s = nI (k + 1 + m) := by
            unfold hL2
            rw [xI_wI, if_neg (by omega), xI_wI, if_neg (by omega), e50, show k + (m + 1) = k + 1 + m by omega]
          obtain ⟨v, hc', hm', a1, a2, a3, a4, a5, a6⟩ := ih n1 n2 (k + 1) (hL1 hc i b (cnA hm b)) (hL2 hm i b (cnA hm b)) RR hb e50' (by omega) (by omega) (by omega)
          refine ⟨v, hc', hm', ?_, ?_, a3, a4.trans ((MP.w rfl).trans (MP.w rfl)), a5.trans ((CP.w rfl).trans (CP.w rfl)), ?_⟩
          · have lc : f_X5_layOutermost (nI i) (nI b) hc = some (nI (cnA hm b), hL1 hc i b (cnA hm b)) := by
              unfold f_X5_layOutermost
              rw [wc, bnd_some, if_pos w0, lc_boatOf E, hbo, bnd_some]
              simp only []
              rw [lc_countAt E, e_countAt R hbR, bnd_some, cnA_ov, f_X1_layAt, bnd_some]
              rfl
            rw [fL_X7_read_45, w2, e50, if_neg nle, num, bnd_some, lc, bnd_some, if_neg (nI_pos (by omega)), nI_s]
            exact a1
          · rw [fL_X8_read_57, if_neg x1, e8, if_pos h32, c8, hv, hmo', bnd_some, if_pos rfl, sp, bnd_some, if_neg (by decide), wm, bnd_some, if_pos w0]
            unfold fJ_X8_read_108
            rw [if_neg (by decide), lo, bnd_some, if_pos s4, cs4, e50', nI_s]
            by_cases m0 : m = 0
            · rw [if_pos ((nIl (by omega) (by omega)).mpr (by omega))]
              rw [if_pos m0] at a2
              exact a2
            · rw [if_neg (fun q => by have := (nIl (by omega) (by omega)).mp q; omega)]
              rw [if_neg m0] at a2
              exact a2
          · intro j hj
            have := a6 j hj
            have g : ∀ t, t ≠ 43 → t ≠ 44 → ∀ c, gI (hL2 hm i b (cnA hm b)) t 0 c = gI hm t 0 c := fun t t1 t2 c => by
              unfold hL2
              rw [xI_wI, if_neg (fun q => t1 q.1), xI_wI, if_neg (fun q => t2 q.1)]
            rw [g 41 (by decide) (by decide), g 42 (by decide) (by decide)] at this
            exact this
        · have key : ∀ r : Int32, r < 0 → (if wR hm i b (nI (cnA hm b)) (outm hm b) = (1 : Int32) then (-1000002 : Int32) else -1000003) = r → f_X5_layOutermost (nI i) (nI b) hc = some (r, hc) := by
            intro r hr er
            unfold f_X5_layOutermost
            rw [wc, bnd_some, if_neg w0, if_pos wg.1]
            by_cases w1 : wR hm i b (nI (cnA hm b)) (outm hm b) = (1 : Int32)
            · rw [if_pos w1] at er ⊢
              rw [er]
            · rw [if_neg w1] at er ⊢
              rw [er]
          refine stop _ ?_ (key _ ?_ rfl) ?_
          · split <;> decide
          · split <;> decide
          · rw [fL_X8_read_57, if_neg x1, e8, if_pos h32, c8, hv, hmo', bnd_some, if_pos rfl, sp, bnd_some, if_neg (by decide), wm, bnd_some, if_neg w0, J7]
      · have c6 := (R.pos.2.1 b0 q1).1
        have s0 : (0 : Int32) ≤ nI (6 * b0 + k0) := (nIr (n := 6 * b0 + k0) (k := 100) (by have := R.b4; omega) (by omega)).1
        have sp : f_X8_spotOf (nI i) hm = some (nI (6 * b0 + k0)) := q7 hm rmM (fun _ => by rw [xIm rfl]) (fun _ => by rw [xIm rfl])
        obtain ⟨b', hb1, hb2, hb', hm', hcb, h4⟩ | ⟨hb', hm', nn⟩ := R.berth? (nI b)
        · have wc : f_X5_whyNotOutermost (nI i) (nI b) hc = some (-1000005) := by
            rw [lc_whyOut E]
            unfold f_X5_whyNotOutermost
            rw [hbo, bnd_some, hb', bnd_some]
            simp only []
            rw [q6, bnd_some, if_pos rfl]
          refine stop (-1000005) (by decide) ?_ ?_
          · unfold f_X5_layOutermost
            rw [wc, bnd_some, if_neg (by decide), if_neg (by decide)]
          · rw [fL_X8_read_57, if_neg x1, e8, if_pos h32, c8, hv, hmo', bnd_some, if_pos rfl, sp, bnd_some, if_pos s0, J7]
        · have hB2 : gN (ov hm hc) 0 ≤ 4 := R.b4
          exact absurd ⟨(nIr (n := b) (k := 4) (by omega) (by omega)).1, (nI_ltI (by omega) (by omega)).mpr hbR⟩ nn
    · have hmo' : f_X8_isBoat v hm = some false := by rw [m_isBoat rmM]; rw [m_isBoat R.rm] at hmo; exact hmo
      have wc : f_X5_whyNotOutermost v (nI b) hc = some (-1000001) := by
        rw [lc_whyOut E]
        unfold f_X5_whyNotOutermost
        rw [hbo, bnd_some]
        obtain ⟨b', hb1, hb2, hb', hm', hcb, h4⟩ | ⟨hb', hm', nn⟩ := R.berth? (nI b)
        · rw [hb', bnd_some]
        · rw [hb', bnd_some]
      refine stop (-1000001) (by decide) ?_ ?_
      · unfold f_X5_layOutermost
        rw [wc, bnd_some, if_neg (by decide), if_neg (by decide)]
      · rw [fL_X8_read_57, if_neg x1, e8, if_pos h32, c8, hv, hmo', bnd_some, if_neg (by decide), J7]
theorem p_read {h : Hp} (R : Rel h) (x y : Int32) : Pm h (f_X7_read x y) (f_X8_read x y) := by
  rcases R.sheet? x with ⟨s, hs, rfl, hsb, hc, h4, h3⟩ | ⟨hsb, h3⟩
  · rcases R.berth? y with ⟨b, hbb, rfl, hb', hm', hcb, hb4⟩ | ⟨hb', hm', -⟩
    · obtain ⟨q1, q2, q3, q4, q5⟩ := R.2.2.2.2.2.2.2 s hs
      simp only at q1 q2 q3 q4 q5
      by_cases hw : gI h 49 0 s = 0
      · have hw' : gI h 6 s 1 = 0 := q1.trans hw
        have hwF : gI (hcF h) 49 0 s = 0 := hw
        refine Pm.find R (-1000006) ?_ ?_
        · unfold f_X7_read
          rw [hsb, bnd_some]
          simp only []
          rw [hb', bnd_some]
          simp only []
          rw [e_missing, bnd_some, decide_eq_true hw', if_pos rfl, c_find (by decide)]
          rfl
        · unfold f_X8_read
          rw [m_isSheet, bnd_some, decide_eq_true h3, if_pos rfl, isBerth_F, hm', bnd_some, if_pos rfl, if_pos h4, hc, if_pos hwF, fnd_eta]
      · have hw' : ¬ gI h 6 s 1 = 0 := by rw [q1]; exact hw
        obtain ⟨z, hz, ez⟩ := ofR (x := gI h 50 0 s) (n := 9) (by decide) q4.1 (Int32.lt_of_le_of_lt q4.2 (by decide))
        refine Pm.two (a := 0) (m := 0) (by omega) (by omega) (fun hm P => ?_)
        have RR : Rel (ov hm h) := by rw [ov_c P]; exact R
        have e50 : gI hm 50 0 s = nI (0 + z) := by rw [P 50 rfl, ez, Nat.zero_add]
        obtain ⟨v, hc', hmm, a1, a2, a3, a4, a5, a6⟩ := L_read (b := b) hs z FU FU 0 h hm RR hbb e50 (by omega) (FUb (by omega)) (FUb (by omega))
        refine ⟨v, hc', hmm, ?_, ?_, a3, a4, a5, a6⟩
        · unfold f_X7_read
          rw [hsb, bnd_some]
          simp only []
          rw [hb', bnd_some]
          simp only []
          rw [e_missing, bnd_some, decide_eq_false hw', if_neg (by decide)]
          exact a1
        · have hmB : f_X8_isBerth (nI b) hm = some true := by rw [m_isBerth (R.rm.mp P)]; rw [m_isBerth R.rm] at hm'; exact hm'
          have w49 : ¬ gI hm 49 0 s = 0 := by rw [P 49 rfl]; exact hw
          unfold f_X8_read
          rw [m_isSheet, bnd_some, decide_eq_true h3, if_pos rfl, hmB, bnd_some, if_pos rfl, if_pos h4, hc, if_neg w49, if_pos h4, e50]
          by_cases z0 : z = 0
          · rw [if_pos (by rw [z0]; decide)]
            rw [if_pos z0] at a2
            exact a2
          · rw [if_neg (fun q => by have := (nIl (n := 0 + z) (k := 0) (by omega) (by omega)).mp q; omega)]
            rw [if_neg z0] at a2
            exact a2
    · refine Pm.find R (-1000001) ?_ ?_
      · unfold f_X7_read
        rw [hsb, bnd_some]
        simp only []
        rw [hb', bnd_some]
        simp only []
        rw [c_find (by decide)]
        rfl
      · unfold f_X8_read
        rw [m_isSheet, bnd_some, decide_eq_true h3, if_pos rfl, isBerth_F, hm', bnd_some, if_neg (by decide), fnd_eta]
  · refine Pm.find R (-1000001) ?_ ?_
    · unfold f_X7_read
      rw [hsb, bnd_some]
      simp only []
      rw [c_find (by decide)]
      rfl
    · unfold f_X8_read
      rw [m_isSheet, bnd_some, decide_eq_false h3, if_neg (by decide), fnd_eta]
