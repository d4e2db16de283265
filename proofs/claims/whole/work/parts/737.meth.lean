/-! ===== lies ===== -/
theorem lowI {m b : Nat} (hm : m < 256) (hb : b < 8) : nI m &&& (((1 : Int32) <<< (nI b &&& 31)) - 1) = nI (m % 2 ^ b) := by
  have : ∀ m : Fin 256, ∀ b : Fin 8, nI m.val &&& (((1 : Int32) <<< (nI b.val &&& 31)) - 1) = nI (m.val % 2 ^ b.val) := by decide +kernel
  exact this ⟨m, hm⟩ ⟨b, hb⟩
theorem popLow {m b : Nat} (hb : b ≤ 8) : popc (m % 2 ^ b) = cr m b := by
  have key : ∀ n, cntB (fun r => (m % 2 ^ b).testBit r) n = cr m (min n b) := by
    intro n
    induction n with
    | zero => rw [Nat.zero_min]; rfl
    | succ n ih =>
      rw [cntB, ih]
      rw [Nat.testBit_mod_two_pow]
      by_cases q : n < b
      · rw [show min (n + 1) b = n + 1 by omega, show min n b = n by omega, cr_s]
        simp [q]
      · rw [show min (n + 1) b = b by omega, show min n b = b by omega]
        simp [q]
  have := key 8
  rw [Nat.min_eq_right hb] at this
  exact this
theorem e_spot {h : Hp} {m b v : Nat} (hm : m < 256) (hb : b < 8) (tb : m.testBit b = true) (h6 : cr m 8 ≤ 6) (e7 : gL h 4 0 7 = lN v) (hv : v < NEV) {pb pk : Nat} (hpb : pb < 4) (hpk : pk < 6) (dg : v / 32 ^ (5 - cr m b) % 32 = 8 * pb + pk) :
    f_X4_berthFor (nI m) (nI b) h = some (nI pb) ∧ f_X4_placeFor (nI m) (nI b) h = some (nI pk) := by
  have nv := NEV_e
  have r6 : cr m b < 6 := by have := cr_lt m hb tb; omega
  have ml : m % 2 ^ b < 256 := Nat.lt_of_le_of_lt (Nat.mod_le _ _) hm
  have sp : f_X4_spotFor (nI m) (nI b) h = some (nI (8 * pb + pk)) := by
    unfold f_X4_spotFor
    rw [lowI hm hb, bc ml, bnd_some, popLow (by omega)]
    unfold f_X4_spotShift
    rw [bnd_some, (pow32 r6).1, e7, lshr (by omega) (by omega), (pow32 r6).2, lN_i]
    rw [pk_and _ (m := 31) 5 (by decide)]
    have : (nI (v / 32 ^ (5 - cr m b))).toBitVec.toNat = v / 32 ^ (5 - cr m b) % 2 ^ 32 := by
      show (BitVec.ofNat 32 _).toNat = _
      rw [BitVec.toNat_ofNat]
    rw [this]
    congr 2
    rw [← dg]
    omega
  have fin : ∀ b : Fin 4, ∀ k : Fin 6, (nI (8 * b.val + k.val) >>> ((3 : Int32) &&& 31)) = nI b.val ∧ (nI (8 * b.val + k.val) &&& (7 : Int32)) = nI k.val := by decide +kernel
  have := fin ⟨pb, hpb⟩ ⟨pk, hpk⟩
  refine ⟨?_, ?_⟩
  · unfold f_X4_berthFor
    rw [sp, bnd_some, this.1]
  · unfold f_X4_placeFor
    rw [sp, bnd_some, this.2]
theorem L_lies {h : Hp} {m b : Nat} (hb : b < 8) (tb : m.testBit b = true) (h6 : cr m 8 ≤ 6) (x3 : Int32) (e52 : ∀ r, r < cr m 8 → gI h 52 0 r = nI (boF m 8 r)) {pb pk : Nat} (hpb : pb < 4) (hpk : pk < 6) (e59 : gI h 59 0 (cr m b) = nI (6 * pb + pk)) : ∀ (k n i : Nat), i + k = cr m b → k < n →
    fL_X8_lies_33 n (nI b) x3 (nI i) h = some (if x3 = 0 then nI pb else nI pk, h) := by
  have r8 : cr m b < cr m 8 := cr_lt m hb tb
  have d := div6 (b := pb) (k := pk) hpk (by omega)
  intro k
  induction k with
  | zero =>
    intro n i hi hn
    obtain ⟨n, rfl⟩ : ∃ k, n = k + 1 := ⟨n - 1, by omega⟩
    obtain rfl : i = cr m b := by omega
    have a6 : 0 ≤ nI (cr m b) ∧ nI (cr m b) < 6 := nIr (k := 6) (by omega) (by omega)
    rw [fL_X8_lies_33, if_pos a6, nI_clamp (by omega), e52 _ r8, boF_of hb tb, if_pos rfl, if_pos a6, if_pos a6, e59, d.2, d.1]
    by_cases q : x3 = 0
    · rw [if_pos q, if_pos q]
    · rw [if_neg q, if_neg q]
  | succ k ih =>
    intro n i hi hn
    obtain ⟨n, rfl⟩ : ∃ k, n = k + 1 := ⟨n - 1, by omega⟩
    have a6 : 0 ≤ nI i ∧ nI i < 6 := nIr (k := 6) (by omega) (by omega)
    have bs := boF_s m 8 i (by omega)
    have ne : ¬ nI (boF m 8 i) = nI b := by
      intro w
      have := (nI_eq (by omega) (by omega)).mp w
      rw [this] at bs
      omega
    rw [fL_X8_lies_33, if_pos a6, nI_clamp (by omega), e52 i (by omega), if_neg ne, nI_s]
    exact ih n (i + 1) (by omega) (by omega)
theorem Qs.rm {nb nt : Nat} {h h1 : Hp} (M : RM nb nt h) (Q : Qs h h1) : RM nb nt h1 := M.congr (Q.2.2.2 0 (by omega)) (Q.2.2.2 6 (by omega)) (fun b => by rw [Q.2.2.1 43 rfl]) (fun k => by rw [Q.2.2.1 44 rfl])
theorem inSetN {m : Nat} {x : Int32} (h : Hp) (hx : ¬ (0 ≤ x ∧ x ≤ 7)) : f_X7_isInSet (nI m) x h = some false := by
  unfold f_X7_isInSet
  rw [w_isWithin, bnd_some, decide_eq_false hx, if_neg (by decide)]
theorem p_lies {h : Hp} (R : Rel h) (x y z : Int32) : Pm h (f_X7_lies x y z) (f_X8_lies x y z) := by
  have hT := R.t8
  have hB := R.b4
  have nv := NEV_e
  have U : ∀ hx, f_X8_lies x y z hx = fJ_X8_lies_13 y z x (if y = -1 then -2 else y) hx := by
    intro hx
    unfold f_X8_lies
    by_cases q : y = -1
    · rw [if_pos q, if_pos q]
    · rw [if_neg q, if_neg q]
  have n1 : ¬ (if y = -1 then (-2 : Int32) else y) = -1 := by
    by_cases q : y = -1
    · rw [if_pos q]; decide
    · rw [if_neg q]; exact q
  rcases e_refuses R x with ⟨e, q⟩ | ⟨m, rfl, hm, ⟨h6, e⟩ | ⟨h6, e⟩⟩
  · refine Pm.find R (-1000001) ?_ ?_
    · unfold f_X7_lies
      rw [e, bnd_some, if_neg (by decide), c_find (by decide), bnd_some]
    · rw [U]
      unfold fJ_X8_lies_13
      rw [m_refusal0 R (MP.F h) _ q, bnd_some, if_neg (show ¬ (-1000001 : Int32) = 0 by decide), fnd_eta]
  · have m256 := R.m256 hm
    by_cases inS : ∃ b, b < 8 ∧ y = nI b ∧ m.testBit b = true
    · obtain ⟨b, hb, rfl, tb⟩ := inS
      have bt : b < gN h 1 := R.setlt hm tb
      have y1 : ¬ nI b = -1 := fun w => nI_m1 (by omega) w.symm
      rw [if_neg y1] at U
      have t0 := tst0 m256 hb
      have isB : ∀ hx h1, MP hx h → Qs hx h1 → f_X8_isBoat (nI b) h1 = some true := by
        intro hx h1 P Q
        rw [m_isBoat (Qs.rm (R.rm.mp P) Q), decide_eq_true ⟨(nIr (n := b) (k := 8) hb (by omega)).1, (nI_ltI (by omega) (by omega)).mpr bt⟩]
      obtain ⟨v, hc, a1, a2, a3, a4, a5⟩ := e_find R hm h6
      by_cases vl : v < NEV
      · rw [if_pos vl] at a1
        obtain ⟨h1, b1, b2, b3, b4, b5⟩ := m_refusal1 R a3 hm (nI b)
        obtain ⟨h2, c1, c2, c3⟩ := m_126 R a3 hm h6 b1 b3 b4
        rcases meet (fA_k h m) h6 R.b4 a5 c3 with ⟨w, -⟩ | ⟨-, e38, P, p1, p2, p3, p4⟩
        · exact absurd vl w
        · have d := Full.dec (V := fV h m) (fA_k h m) h6 R.b4 p1
          rw [p2] at d
          have r8 : cr m b < cr m 8 := cr_lt m hb tb
          have pl := pB_lt _ _ (fA_k h m) p1.2.1 ((p1.mem (cr m b)).mpr r8)
          rw [p1.1] at pl
          have sp := e_spot m256 hb tb h6 a4 vl (show pB P (cr m b) < 4 by omega) pl.2 (d.2.2.2 (cr m b) r8)
          have e52 : ∀ r, r < cr m 8 → gI h2 52 0 r = nI (boF m 8 r) := fun r hr => by
            rw [c2.2.1 52 (by omega) (by omega)]
            exact b4 r (by omega)
          have LL := L_lies hb tb h6 z e52 (show pB P (cr m b) < 4 by omega) pl.2 (p4 (cr m b) r8) (cr m b) FU 0 (by omega) (FUb (by omega))
          have ne : ¬ nI (v / 1073741824) = -1000004 := fun w => by
            have := (nIr (n := v / 1073741824) (k := 1000) (by omega) (by omega)).1
            rw [w] at this
            exact absurd this (by decide)
          refine Pm.rd2 R (if z = 0 then nI (pB P (cr m b)) else nI (pK P (cr m b))) a2 (b1.trans c2.qs) ?_ ?_
          · unfold f_X7_lies
            rw [e, bnd_some, if_pos rfl, inSet m256 hb, bnd_some, if_pos tb, a1, bnd_some, if_neg ne]
            by_cases q : z = 0
            · rw [if_pos q, if_pos q, sp.1, bnd_some]
            · rw [if_neg q, if_neg q, sp.2, bnd_some]
          · rw [U]
            unfold fJ_X8_lies_13
            rw [b5, if_pos h6, if_neg y1, isB hc h1 a3 b1, bnd_some, if_pos rfl, if_neg (fun w => t0.mp w tb), c1, bnd_some, e38, if_neg (show ¬ (1 : Int32) = 0 by decide), if_pos (show (0 : Int32) = 0 from rfl)]
            exact LL
      · rw [if_neg vl] at a1
        have P1 := (MP.F hc).trans a3
        obtain ⟨h1, b1, b2, b3, b4, b5⟩ := m_refusal1 R P1 hm (nI b)
        obtain ⟨h2, c1, c2, c3⟩ := m_126 R P1 hm h6 b1 b3 b4
        rcases meet (fA_k h m) h6 R.b4 a5 c3 with ⟨-, e38⟩ | ⟨w, -⟩
        · refine Pm.find2 R (-1000004) a2 (b1.trans c2.qs) ?_ ?_
          · unfold f_X7_lies
            rw [e, bnd_some, if_pos rfl, inSet m256 hb, bnd_some, if_pos tb, a1, bnd_some, if_pos (show (-1000004 : Int32) = -1000004 from rfl), c_find (show (-1000004 : Int32) < -1000000 by decide), bnd_some]
          · rw [U]
            unfold fJ_X8_lies_13
            rw [b5, if_pos h6, if_neg y1, isB _ h1 P1 b1, bnd_some, if_pos rfl, if_neg (fun w => t0.mp w tb), c1, bnd_some, e38, if_pos rfl, if_neg (show ¬ (-1000004 : Int32) = 0 by decide), fnd_eta]
        · exact absurd w vl
    · have cIn : f_X7_isInSet (nI m) y h = some false := by
        by_cases r : 0 ≤ y ∧ y ≤ 7
        · obtain ⟨b, hb, rfl⟩ := ofR (x := y) (n := 8) (by decide) r.1 (Int32.lt_of_le_of_lt r.2 (by decide))
          rw [inSet m256 hb]
          cases tb : m.testBit b
          · rfl
          · exact absurd ⟨b, hb, rfl, tb⟩ inS
        · exact inSetN h r
      obtain ⟨h1, b1, b2, b3, b4, b5⟩ := m_refusal1 R (MP.F h) hm (if y = -1 then -2 else y)
      have kd : f_X8_refusal (nI m) (if y = -1 then -2 else y) (hcF h) = some (-1000003, h1) := by
        rw [b5, if_pos h6, if_neg n1, m_isBoat (Qs.rm R.rmF b1), bnd_some]
        by_cases r : 0 ≤ (if y = -1 then (-2 : Int32) else y) ∧ (if y = -1 then (-2 : Int32) else y) < nI (gN h 1)
        · rw [decide_eq_true r, if_pos rfl]
          by_cases y1 : y = -1
          · rw [if_pos y1] at r
            exact absurd r.1 (by decide)
          · rw [if_neg y1] at r ⊢
            obtain ⟨b, hb, rfl⟩ := ofR (x := y) (n := gN h 1) (by omega) r.1 r.2
            have t0 := tst0 m256 (show b < 8 by omega)
            rw [if_pos (t0.mpr (fun tb => inS ⟨b, by omega, rfl, tb⟩))]
        · rw [decide_eq_false r, if_neg (by decide)]
      refine Pm.find2 R (-1000003) (Qs.rfl' h) b1 ?_ ?_
      · unfold f_X7_lies
        rw [e, bnd_some, if_pos rfl, cIn, bnd_some, if_neg (by decide), c_find (by decide), bnd_some]
      · rw [U]
        unfold fJ_X8_lies_13
        rw [kd, bnd_some, if_neg (show ¬ (-1000003 : Int32) = 0 by decide), fnd_eta]
  · obtain ⟨h1, b1, b2, b3, b4, b5⟩ := m_refusal1 R (MP.F h) hm (if y = -1 then -2 else y)
    refine Pm.find2 R (-1000007) (Qs.rfl' h) b1 ?_ ?_
    · unfold f_X7_lies
      rw [e, bnd_some, if_neg (by decide), c_find (by decide), bnd_some]
    · rw [U]
      unfold fJ_X8_lies_13
      rw [b5, if_neg h6, bnd_some, if_neg (show ¬ (-1000007 : Int32) = 0 by decide), fnd_eta]
