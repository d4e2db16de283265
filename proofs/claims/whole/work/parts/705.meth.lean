/-! ===== what the calls that move boats leave alone ===== -/
def mvT (t : Nat) : Bool := t == 1 || t == 2 || t == 5 || t == 7 || t == 8 || t == 4 || (Nat.ble 12 t && Nat.ble t 17) || (Nat.ble 41 t && Nat.ble t 44) || (Nat.ble 52 t && Nat.ble t 61)
def Fr (h h2 : Hp) : Prop := gN h2 = gN h ∧ (gP h2 10 = gP h 10 ∧ gP h2 11 = gP h 11 ∧ gP h2 22 = gP h 22) ∧ (∀ t, mvT t = false → gI h2 t = gI h t) ∧ (∀ c, c ≠ 16 → c ≠ 19 → c < 31 → gI h2 8 0 c = gI h 8 0 c) ∧ (∀ c, c ≠ 5 → gI h2 5 0 c = gI h 5 0 c) ∧ (gI h2 7 0 5 = gI h 7 0 5) ∧ (gI h2 2 0 1 = gI h 2 0 1) ∧ (∀ i c, c < 8 → gI h2 1 i c = gI h 1 i c)
theorem Fr.rfl' (h : Hp) : Fr h h := ⟨rfl, ⟨rfl, rfl, rfl⟩, fun _ _ => rfl, fun _ _ _ _ => rfl, fun _ _ => rfl, rfl, rfl, fun _ _ _ => rfl⟩
theorem Fr.trans {h h1 h2 : Hp} (A : Fr h h1) (B : Fr h1 h2) : Fr h h2 :=
  ⟨B.1.trans A.1, ⟨B.2.1.1.trans A.2.1.1, B.2.1.2.1.trans A.2.1.2.1, B.2.1.2.2.trans A.2.1.2.2⟩, fun t ht => (B.2.2.1 t ht).trans (A.2.2.1 t ht), fun c a b d => (B.2.2.2.1 c a b d).trans (A.2.2.2.1 c a b d), fun c a => (B.2.2.2.2.1 c a).trans (A.2.2.2.2.1 c a), B.2.2.2.2.2.1.trans A.2.2.2.2.2.1, B.2.2.2.2.2.2.1.trans A.2.2.2.2.2.2.1, fun i c a => (B.2.2.2.2.2.2.2 i c a).trans (A.2.2.2.2.2.2.2 i c a)⟩
def okW (t k : Nat) : Bool := mvT t && !(t == 7) && (!(t == 8) || k == 16 || k == 19 || Nat.ble 31 k) && (!(t == 5) || k == 5) && (!(t == 2) || k == 0) && (!(t == 1) || Nat.ble 8 k)
theorem Fr.w {h : Hp} {t i k : Nat} {v : Int32} (hk : okW t k = true) : Fr h (wI h t i k v) := by
  unfold okW at hk
  simp only [Bool.and_eq_true, Bool.or_eq_true, Bool.not_eq_true', beq_eq_false_iff_ne, ne_eq, beq_iff_eq, Nat.ble_eq] at hk
  obtain ⟨⟨⟨⟨⟨k1, k2⟩, k3⟩, k4⟩, k5⟩, k6⟩ := hk
  refine ⟨rfl, ⟨rfl, rfl, rfl⟩, fun a ha => ?_, fun c c1 c2 c3 => ?_, fun c c1 => ?_, ?_, ?_, fun a c c1 => ?_⟩
  · funext b c
    rw [xI_wI, if_neg]
    rintro ⟨rfl, -⟩
    rw [k1] at ha
    exact absurd ha (by decide)
  · rw [xI_wI, if_neg (by omega)]
  · rw [xI_wI, if_neg (by omega)]
  · rw [xI_wI, if_neg (by omega)]
  · rw [xI_wI, if_neg (by omega)]
  · rw [xI_wI, if_neg (by omega)]
theorem Fr.g {h h2 : Hp} (F : Fr h h2) (t : Nat) (ht : mvT t = false) (b c : Nat) : gI h2 t b c = gI h t b c := by rw [F.2.2.1 t ht]
theorem Rel.fr {h h2 : Hp} (R : Rel h) (F : Fr h h2) (P : PosR (gN h 0) (gN h 1) (fun i => gI h2 1 i 8) (fun i => gI h2 1 i 9) (fun b => gI h2 43 0 b) (fun k => gI h2 44 0 k) (fun b => gI h 32 0 b))
    (hr : gI h2 2 0 0 = gI h2 8 0 19) (hr2 : 0 ≤ gI h2 8 0 19 ∧ gI h2 8 0 19 ≤ 23) (mv : gI h2 5 0 5 = gI h2 8 0 16) (lt : ∀ i, i < gN h 1 → gI h2 1 i 10 = gI h2 41 0 i ∧ gI h2 1 i 11 = gI h2 42 0 i) (lz : ∀ i, gN h 1 ≤ i → i < 8 → gI h2 41 0 i = 0 ∧ gI h2 42 0 i = 0) : Rel h2 := by
  obtain ⟨fN, ⟨fp1, fp2, fp3⟩, fI, f8, f5, f7, f2, f1⟩ := F
  obtain ⟨a, b, ⟨c1, c2⟩, d, e, f, g, k⟩ := R
  have G : ∀ t, mvT t = false → ∀ b c, gI h2 t b c = gI h t b c := fun t ht b c => by rw [fI t ht]
  unfold Rel
  simp only [fN, fp1, fp2, fp3, f8 0 (by decide) (by decide) (by decide), f8 5 (by decide) (by decide) (by decide), f8 6 (by decide) (by decide) (by decide), f8 20 (by decide) (by decide) (by decide), f8 21 (by decide) (by decide) (by decide), f8 26 (by decide) (by decide) (by decide), f8 30 (by decide) (by decide) (by decide), f5 2 (by decide), f5 3 (by decide), f5 4 (by decide), f7, f2, fun i => f1 i 0 (by decide), fun i => f1 i 1 (by decide), fun i => f1 i 2 (by decide), fun i => f1 i 3 (by decide), fun i => f1 i 4 (by decide), fun i => f1 i 5 (by decide), fun i => f1 i 6 (by decide), fun i => f1 i 7 (by decide),
    G 0 rfl, G 3 rfl, G 6 rfl, G 18 rfl, G 19 rfl, G 20 rfl, G 21 rfl, G 23 rfl, G 30 rfl, G 31 rfl, G 32 rfl, G 33 rfl, G 34 rfl, G 35 rfl, G 36 rfl, G 37 rfl, G 38 rfl, G 39 rfl, G 40 rfl, G 45 rfl, G 46 rfl, G 47 rfl, G 48 rfl, G 49 rfl, G 50 rfl, G 51 rfl]
  refine ⟨a, b, ⟨fun i hi => ?_, fun i h1 h3 => ?_⟩, P, ?_, f, g, k⟩
  · obtain ⟨q0, q1, q2, q3, q4, q5, q6, q7, q10, q11, q⟩ := c1 i hi
    exact ⟨q0, q1, q2, q3, q4, q5, q6, q7, (lt i hi).1, (lt i hi).2, q⟩
  · exact ⟨(c2 i h1 h3).1, (lz i h1 h3).1, (lz i h1 h3).2⟩
  · obtain ⟨e1, e2, e3, e4, e5, e6, e7, e8⟩ := e
    exact ⟨e1, hr, e3, mv, e5, e6, hr2, e8⟩
/-! ===== comes ===== -/
theorem pos_comes {h h2 : Hp} (R : Rel h) {i b : Nat} (hi : i < gN h 1) (hb : b < gN h 0) (hl : gI h 1 i 8 = -1) (hc : cnA h b < 6) (hp : nI (cnA h b + 1) ≤ gI h 32 0 b)
    (p8 : ∀ j, gI h2 1 j 8 = if j = i then nI b else gI h 1 j 8) (p9 : ∀ j, gI h2 1 j 9 = if j = i then nI (cnA h b) else gI h 1 j 9)
    (p43 : ∀ b', gI h2 43 0 b' = if b' = b then nI (cnA h b + 1) else gI h 43 0 b') (p44 : ∀ k, gI h2 44 0 k = if k = 6 * b + cnA h b then nI i else gI h 44 0 k) :
    PosR (gN h 0) (gN h 1) (fun i => gI h2 1 i 8) (fun i => gI h2 1 i 9) (fun b => gI h2 43 0 b) (fun k => gI h2 44 0 k) (fun b => gI h 32 0 b) := by
  obtain ⟨⟨h1, h2', -⟩, -, -, ⟨p1, p2, p3, p4⟩, -⟩ := id R
  obtain ⟨⟨hB, hT⟩, hcn, hr, hps⟩ := R.pos
  have cl : (nI (cnA h b + 1)).toNatClampNeg = cnA h b + 1 := nI_clamp (by omega)
  refine ⟨fun b' hb' => ?_, fun b' q1 q2 => ?_, fun b' k' hb' hk' => ?_, fun j hj => ?_⟩
  · simp only [p43]
    by_cases e : b' = b
    · subst e
      exact ⟨cnA h b' + 1, by omega, if_pos rfl, by rw [if_pos rfl]; exact hp⟩
    · simp only [if_neg e]
      exact p1 b' hb'
  · simp only [p43, if_neg (show b' ≠ b by omega)]
    exact p2 b' q1 q2
  · simp only [p43] at hk'
    by_cases e : b' = b
    · subst e
      rw [if_pos rfl, cl] at hk'
      by_cases ek : k' = cnA h b'
      · subst ek
        exact ⟨i, hi, by simp only [p44, if_true], by simp only [p8, if_true], by simp only [p9, if_true]⟩
      · have q := hr b' k' hb (by omega)
        have ne : rwA h b' k' ≠ i := by
          intro e
          rw [e, hl] at q
          exact absurd q.2.2.1 (fun q => by have := (nIr (n := b') (k := 4) (by omega) (by omega)).1; rw [← q] at this; exact absurd this (by decide))
        exact ⟨rwA h b' k', q.1, by simp only [p44]; rw [if_neg (by omega)]; exact q.2.1, by simp only [p8]; rw [if_neg ne]; exact q.2.2.1, by simp only [p9]; rw [if_neg ne]; exact q.2.2.2⟩
    · rw [if_neg e] at hk'
      have hk2 : k' < cnA h b' := hk'
      have q := hr b' k' hb' hk2
      have c6 := (hcn b' hb').1
      have ne : rwA h b' k' ≠ i := by
        intro e
        rw [e, hl] at q
        exact absurd q.2.2.1 (fun q => by have := (nIr (n := b') (k := 4) (by omega) (by omega)).1; rw [← q] at this; exact absurd this (by decide))
      exact ⟨rwA h b' k', q.1, by simp only [p44]; rw [if_neg (by omega)]; exact q.2.1, by simp only [p8]; rw [if_neg ne]; exact q.2.2.1, by simp only [p9]; rw [if_neg ne]; exact q.2.2.2⟩
  · simp only [p8, p9, p43, p44]
    by_cases e : j = i
    · subst e
      refine Or.inr ⟨b, cnA h b, hb, ?_, if_pos rfl, if_pos rfl, if_pos rfl⟩
      rw [if_pos rfl, cl]
      omega
    · rw [if_neg e, if_neg e]
      rcases hps j hj with q | ⟨b', k', q1, q2, q3, q4, q5⟩
      · exact Or.inl q
      · have c6 := (hcn b' q1).1
        refine Or.inr ⟨b', k', q1, ?_, q3, q4, ?_⟩
        · by_cases eb : b' = b
          · subst eb; rw [if_pos rfl, cl]; omega
          · rw [if_neg eb]; exact q2
        · rw [if_neg (by intro q; have : b' = b ∧ k' = cnA h b := by omega
                         obtain ⟨rfl, rfl⟩ := this; omega)]
          have := hr b' k' q1 q2
          rw [this.2.1, q5]
def hL1 (h : Hp) (i b c : Nat) : Hp := wI (wI h 1 i 8 (nI b)) 1 i 9 (nI c)
def hL2 (h : Hp) (i b c : Nat) : Hp := wI (wI h 44 0 (6 * b + c) (nI i)) 43 0 b (nI (c + 1))
theorem m_laysOut {h : Hp} {i b c : Nat} (hb : b < 4) (hc : c < 6) (e43 : gI h 43 0 b = nI c) : f_X8_laysOut (nI i) (nI b) h = some (hL2 h i b c) := by
  have h4 : 0 ≤ nI b ∧ nI b < 4 := nIr (k := 4) (by omega) (by omega)
  have cb : (nI b).toNatClampNeg = b := nI_clamp (by omega)
  have h24 : 0 ≤ nI (6 * b + c) ∧ nI (6 * b + c) < 24 := nIr (k := 24) (by omega) (by omega)
  have c24 : (nI (6 * b + c)).toNatClampNeg = 6 * b + c := nI_clamp (by omega)
  unfold f_X8_laysOut hL2
  rw [if_pos h4, cb, e43, i6, if_pos h24, if_pos h4, if_pos h4, c24, xI_wI, if_neg (by omega), e43, nI_s]
theorem wR_place {h : Hp} {i b : Nat} {x : Int32} {o : Option Nat} (e : wR h i b x o = 0) : x < gI h 32 0 b := by
  unfold wR at e
  by_cases a : wA h i b x = 0
  · unfold wA at a
    by_cases q : x < gI h 32 0 b
    · exact q
    · rw [if_neg q] at a
      exact absurd a (by decide)
  · rw [if_neg a] at e
    exact absurd e a
theorem Rel.roomy {h : Hp} (R : Rel h) {i b : Nat} {o : Option Nat} (hb : b < gN h 0) (e : wR h i b (nI (cnA h b)) o = 0) : cnA h b < 6 ∧ nI (cnA h b + 1) ≤ gI h 32 0 b := by
  have q := wR_place e
  have hbb := (R.ber hb).2.2.2.2.2.2.1
  have c6 := (R.pos.2.1 b hb).1
  obtain ⟨p, hp, ep⟩ := ofR (x := gI h 32 0 b) (n := 7) (by decide) (Int32.le_trans (by decide) hbb.1) (Int32.lt_of_le_of_lt hbb.2 (by decide))
  rw [ep] at q ⊢
  have := (nI_ltI (by omega) (by omega)).mp q
  exact ⟨by omega, (nIl (by omega) (by omega)).mpr (by omega)⟩
theorem fr_comes (h : Hp) (i b c : Nat) : Fr h (hL2 (hL1 h i b c) i b c) := ((Fr.w rfl).trans (Fr.w rfl)).trans ((Fr.w rfl).trans (Fr.w rfl))
theorem r_comes {h : Hp} (R : Rel h) {i b : Nat} (hi : i < gN h 1) (hb : b < gN h 0) (hl : gI h 1 i 8 = -1) (hc : cnA h b < 6) (hp : nI (cnA h b + 1) ≤ gI h 32 0 b) : Rel (hL2 (hL1 h i b (cnA h b)) i b (cnA h b)) := by
  obtain ⟨-, -, ⟨c1, c2⟩, -, ⟨e1, e2, e3, e4, e5, e6, e7, e8⟩, -⟩ := id R
  refine R.fr (fr_comes h i b _) (pos_comes R hi hb hl hc hp ?_ ?_ ?_ ?_) ?_ ?_ ?_ ?_ ?_
  · intro j
    simp only [hL2, hL1, xI_wI]
    simp
  · intro j
    simp only [hL2, hL1, xI_wI]
    simp
  · intro j
    simp only [hL2, hL1, xI_wI]
    simp
  · intro j
    simp only [hL2, hL1, xI_wI]
    simp
  · simp only [hL2, hL1, xI_wI]
    simpa using e2
  · simp only [hL2, hL1, xI_wI]
    simpa using e7
  · simp only [hL2, hL1, xI_wI]
    simpa using e4
  · intro j hj
    have := c1 j hj
    simp only [hL2, hL1, xI_wI]
    simp
    exact ⟨this.2.2.2.2.2.2.2.2.1, this.2.2.2.2.2.2.2.2.2.1⟩
  · intro j hj h8
    have := c2 j hj h8
    simp only [hL2, hL1, xI_wI]
    simp
    exact this.2
theorem wR_sp {h : Hp} {i b : Nat} {x : Int32} {o : Option Nat} : wR h i b x o = 1 ↔ ¬ x < gI h 32 0 b := by
  unfold wR wA
  by_cases q : x < gI h 32 0 b
  · simp only [if_pos q]
    refine ⟨fun e => ?_, fun e => absurd q e⟩
    exfalso
    revert e
    cases o with
    | none => grind
    | some j =>
      have := (wN2_ge h i j).2.2
      grind
  · simp only [if_neg q]
    grind
theorem p_comes {h : Hp} (R : Rel h) (x y : Int32) : Pm h (f_X7_comes x y) (f_X8_comes x y) := by
  rcases R.boat? x with ⟨i, hi, rfl, hb, hm, hc, h8⟩ | ⟨hb, hm, -⟩
  · rcases R.berth? y with ⟨b, hbb, rfl, hb', hm', hc', h4⟩ | ⟨hb', hm', -⟩
    · have hB := R.b4
      have hT := R.t8
      rcases R.lies? hi with ⟨q1, q2, q3, q4⟩ | ⟨b0, k0, q1, q2, q3, q4, q5, q6, q7⟩
      · have hw := wR_ge h i b (nI (cnA h b)) (outm h b)
        by_cases w0 : wR h i b (nI (cnA h b)) (outm h b) = 0
        · obtain ⟨c6, pl⟩ := R.roomy hbb w0
          have hv : ¬ nI (cnA h b) < -1000000 := fun q => absurd (Int32.lt_of_le_of_lt (nIr (n := cnA h b) (k := 100) (by omega) (by omega)).1 q) (by decide)
          have e43 : gI (hL1 h i b (cnA h b)) 43 0 b = nI (cnA h b) := (R.pos.2.1 b hbb).2.1
          have rm1 : RM (gN h 0) (gN h 1) (hL1 h i b (cnA h b)) := R.rm.congr rfl rfl (fun _ => rfl) (fun _ => rfl)
          have wE : wR (hL1 h i b (cnA h b)) i b (nI (cnA h b)) (outm h b) = wR h i b (nI (cnA h b)) (outm h b) := by cases outm h b <;> rfl
          have oE : outm (hL1 h i b (cnA h b)) b = outm h b := rfl
          have cE : cnA (hL1 h i b (cnA h b)) b = cnA h b := rfl
          have g43 : gI (hL2 (hL1 h i b (cnA h b)) i b (cnA h b)) 43 0 b = nI (cnA h b + 1) := by simp only [hL2, xI_wI]; simp
          refine Pm.mk (v := nI (cnA h b)) (h1 := hL1 h i b (cnA h b)) (h2 := hL2 (hL1 h i b (cnA h b)) i b (cnA h b)) ?_ ?_ (r_comes R hi hbb q1 c6 pl) ?_ ?_
          · simp only [f_X7_comes, f_X5_layOutermost, e_whyOut R hi hbb q1, bnd_some, if_pos w0, hb, e_countAt R hbb, f_X1_layAt]
            rw [show wI (wI h 1 i 8 (nI b)) 1 i 9 (nI (cnA h b)) = hL1 h i b (cnA h b) from rfl, c_same hv]
            rfl
          · have hm2 : f_X8_isBoat (nI i) (hL1 h i b (cnA h b)) = some true := hm
            have hm3 : f_X8_isBerth (nI b) (hL1 h i b (cnA h b)) = some true := hm'
            simp only [f_X8_comes, hm2, hm3, bnd_some, q4 (hL1 h i b (cnA h b)) rm1 (fun _ => rfl) (fun _ => rfl), m_whyOut rm1 (show i < 8 by omega) hbb, oE, cE, wE, if_true, if_pos w0, if_pos (show (-1 : Int32) < 0 by decide), m_laysOut (show b < 4 by omega) c6 e43, if_pos h4, hc', g43]
            rw [show (1 : Int32) = nI 1 from rfl, nI_sub (by omega), Nat.add_sub_cancel]
          · intro j; simp only [hL2, hL1, xI_wI]; simp
          · intro j; simp only [hL2, hL1, xI_wI]; simp
        · have key : ∀ c : Int32, c < -1000000 → (if wR h i b (nI (cnA h b)) (outm h b) = (1 : Int32) then (-1000002 : Int32) else -1000003) = c → Pm h (f_X7_comes (nI i) (nI b)) (f_X8_comes (nI i) (nI b)) := by
            intro c hc2 ec
            refine Pm.find R c ?_ ?_
            · simp only [f_X7_comes, f_X5_layOutermost, e_whyOut R hi hbb q1, bnd_some, if_neg w0, if_pos hw.1]
              by_cases w1 : wR h i b (nI (cnA h b)) (outm h b) = (1 : Int32)
              · rw [if_pos w1] at ec ⊢
                subst ec
                simp only [bnd_some, c_find hc2]
              · rw [if_neg w1] at ec ⊢
                subst ec
                simp only [bnd_some, c_find hc2]
            · simp only [f_X8_comes, isBoat_F, isBerth_F, hm, hm', bnd_some, q4 (hcF h) R.rmF (fun _ => rfl) (fun _ => rfl), m_whyOut R.rmF (show i < 8 by omega) hbb, outm_F, cnA_F, wR_F, if_true, if_neg w0, if_pos (show (-1 : Int32) < 0 by decide), fnd_eta]
              by_cases w1 : wR h i b (nI (cnA h b)) (outm h b) = (1 : Int32)
              · rw [if_pos w1] at ec ⊢
                subst ec
                rfl
              · rw [if_neg w1] at ec ⊢
                subst ec
                rfl
          exact key _ (by split <;> decide) rfl
      · refine Pm.find R (-1000005) ?_ ?_
        · have : f_X5_whyNotOutermost (nI i) (nI b) h = some (-1000005) := by simp [f_X5_whyNotOutermost, hb, hb', q6]
          simp only [f_X7_comes, f_X5_layOutermost, this, bnd_some, if_neg (show ¬ (-1000005 : Int32) = 0 by decide), if_neg (show ¬ (0 : Int32) ≤ -1000005 by decide), c_find (show (-1000005 : Int32) < -1000000 by decide)]
        · have h0 : ¬ nI (6 * b0 + k0) < 0 := nI_pos (by have := R.b4; have := ((R.pos).2.1 b0 q1).1; omega)
          simp only [f_X8_comes, isBoat_F, isBerth_F, hm, hm', bnd_some, q7 (hcF h) R.rmF (fun _ => rfl) (fun _ => rfl), if_true, if_neg h0, fnd_eta]
    · refine Pm.find R (-1000001) ?_ ?_
      · have : f_X5_whyNotOutermost (nI i) y h = some (-1000001) := by simp [f_X5_whyNotOutermost, hb, hb']
        simp only [f_X7_comes, f_X5_layOutermost, this, bnd_some, if_neg (show ¬ (-1000001 : Int32) = 0 by decide), if_neg (show ¬ (0 : Int32) ≤ -1000001 by decide), c_find (show (-1000001 : Int32) < -1000000 by decide)]
      · simp only [f_X8_comes, isBoat_F, isBerth_F, hm, hm', bnd_some, fnd_eta]
        rfl
  · refine Pm.find R (-1000001) ?_ ?_
    · have : f_X5_whyNotOutermost x y h = some (-1000001) := by
        rcases R.berth? y with ⟨b, hbb, rfl, hb', hm', hc', h4⟩ | ⟨hb', hm', -⟩
        · simp [f_X5_whyNotOutermost, hb, hb']
        · simp [f_X5_whyNotOutermost, hb, hb']
      simp only [f_X7_comes, f_X5_layOutermost, this, bnd_some, if_neg (show ¬ (-1000001 : Int32) = 0 by decide), if_neg (show ¬ (0 : Int32) ≤ -1000001 by decide), c_find (show (-1000001 : Int32) < -1000000 by decide)]
    · simp only [f_X8_comes, isBoat_F, hm, bnd_some, fnd_eta]
      rfl
