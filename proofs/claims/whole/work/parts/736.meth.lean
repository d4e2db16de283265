/-! ===== which sets are refused ===== -/
theorem set_iff {n : Nat} (hn : n ≤ 8) (x : Int32) : (x &&& (-((1 : Int32) <<< (nI n &&& 31)))) = 0 ↔ (0 ≤ x ∧ x ≤ nI (2 ^ n - 1)) := by
  have e : ∀ n : Fin 9, (-((1 : Int32) <<< (nI n.val &&& 31))).toBitVec = ~~~ (nI (2 ^ n.val - 1)).toBitVec := by decide +kernel
  have p256 : 2 ^ n ≤ 256 := by
    have : 2 ^ n ≤ 2 ^ 8 := Nat.pow_le_pow_right (by omega) hn
    exact this
  have pos : 0 < 2 ^ n := Nat.pow_pos (by omega)
  have h1 : (x &&& (-((1 : Int32) <<< (nI n &&& 31)))) = 0 ↔ x.toBitVec &&& ~~~ (nI (2 ^ n - 1)).toBitVec = 0#32 := by
    rw [← Int32.toBitVec_inj, Int32.toBitVec_and, e ⟨n, by omega⟩]
    exact Iff.rfl
  rw [h1, bv_hi]
  have h2 : x.toBitVec &&& (nI (2 ^ n - 1)).toBitVec = x.toBitVec ↔ x &&& nI (2 ^ n - 1) = x := by
    rw [← Int32.toBitVec_inj]
    exact Iff.rfl
  rw [h2, pk_and x n (by rw [pk_tn (by omega)])]
  constructor
  · intro h
    have hlt : x.toBitVec.toNat % 2 ^ n < 2 ^ n := Nat.mod_lt _ pos
    rw [← h]
    generalize x.toBitVec.toNat % 2 ^ n = j at hlt
    exact ⟨(nIr (n := j) (k := 256) (by omega) (by omega)).1, (nIl (by omega) (by omega)).mpr (by omega)⟩
  · rintro ⟨h0, h3⟩
    obtain ⟨j, hj, rfl⟩ := nI_of (Int32.not_lt.mpr h0)
    have : j ≤ 2 ^ n - 1 := (nIl (by omega) (by omega)).mp h3
    rw [pk_tn (by omega), Nat.mod_eq_of_lt (by omega)]
theorem e_refuses {h : Hp} (R : Rel h) (x : Int32) : (f_X4_refuses x h = some (-1000001) ∧ ¬ (0 ≤ x ∧ x ≤ nI (2 ^ gN h 1 - 1))) ∨ ∃ m, x = nI m ∧ m < 2 ^ gN h 1 ∧ ((cr m 8 ≤ 6 ∧ f_X4_refuses x h = some 0) ∨ (¬ cr m 8 ≤ 6 ∧ f_X4_refuses x h = some (-1000007))) := by
  have hT := R.t8
  have e53 : gI h 5 0 3 = nI (gN h 1) := R.1.2.2.2.2.2.2.2.1
  have it := set_iff hT x
  have pos : 0 < 2 ^ gN h 1 := Nat.pow_pos (by omega)
  by_cases q : 0 ≤ x ∧ x ≤ nI (2 ^ gN h 1 - 1)
  · right
    obtain ⟨m, hm, rfl⟩ := nI_of (Int32.not_lt.mpr q.1)
    have p256 : 2 ^ gN h 1 ≤ 256 := by
      have : 2 ^ gN h 1 ≤ 2 ^ 8 := Nat.pow_le_pow_right (by omega) hT
      exact this
    have lt : m ≤ 2 ^ gN h 1 - 1 := (nIl (by omega) (by omega)).mp q.2
    refine ⟨m, rfl, by omega, ?_⟩
    have c8 := cr_le m 8
    have U : f_X4_refuses (nI m) h = if nI (cr m 8) ≤ 6 then some 0 else some (-1000007) := by
      unfold f_X4_refuses
      rw [e53, if_pos (it.mpr q), bc (by omega), bnd_some]
      rfl
    have le : nI (cr m 8) ≤ 6 ↔ cr m 8 ≤ 6 := nIl (k := 6) (by omega) (by omega)
    by_cases q6 : cr m 8 ≤ 6
    · exact Or.inl ⟨q6, by rw [U, if_pos (le.mpr q6)]⟩
    · exact Or.inr ⟨q6, by rw [U, if_neg (fun w => q6 (le.mp w))]⟩
  · left
    refine ⟨?_, q⟩
    unfold f_X4_refuses
    rw [e53, if_neg (fun w => q (it.mp w))]
theorem L_ref29 {m nt : Nat} (hm : m < 256) (x2 : Int32) : ∀ (k n j : Nat) (h : Hp), j + k = nt → nt ≤ 8 → k < n → gI h 8 0 6 = nI nt → gI h 8 0 31 = nI (min 6 (cr m j)) → (∀ r, r < min 6 (cr m j) → gI h 52 0 r = nI (boF m 8 r)) →
    ∃ h', fL_X8_refusal_29 n (nI m) x2 (nI (cr m j)) (nI j) h = fL_X8_refusal_29 1 (nI m) x2 (nI (cr m nt)) (nI nt) h' ∧ Qs h h' ∧ CP h' h ∧ gI h' 8 0 31 = nI (min 6 (cr m nt)) ∧ (∀ r, r < min 6 (cr m nt) → gI h' 52 0 r = nI (boF m 8 r)) := by
  intro k
  induction k with
  | zero =>
    intro n j h hj h8 hn e6 e31 e52
    obtain ⟨n, rfl⟩ : ∃ k, n = k + 1 := ⟨n - 1, by omega⟩
    obtain rfl : j = nt := by omega
    refine ⟨h, ?_, Qs.rfl' h, CP.rfl' h, e31, e52⟩
    rw [fL_X8_refusal_29, fL_X8_refusal_29, e6, if_pos (Int32.le_refl _), if_pos (Int32.le_refl _)]
  | succ k ih =>
    intro n j h hj h8 hn e6 e31 e52
    obtain ⟨n, rfl⟩ : ∃ k, n = k + 1 := ⟨n - 1, by omega⟩
    have cs := cr_s m j
    have cl := cr_le m j
    have nle : ¬ nI nt ≤ nI j := fun q => by have := (nIl (by omega) (by omega)).mp q; omega
    by_cases tb : m.testBit j = true
    · have bit : ((nI m >>> (nI j &&& 31)) &&& (1 : Int32)) = 1 := by rw [tstI hm (by omega), if_pos tb]
      rw [if_pos tb] at cs
      by_cases q6 : 6 ≤ cr m j
      · have e : min 6 (cr m (j + 1)) = min 6 (cr m j) := by omega
        obtain ⟨h', a1, a2⟩ := ih n (j + 1) h (by omega) h8 (by omega) e6 (by rw [e]; exact e31) (by rw [e]; exact e52)
        refine ⟨h', ?_, a2⟩
        rw [fL_X8_refusal_29, e6, if_neg nle, bit, if_pos rfl, e31, if_pos (show (6 : Int32) ≤ nI (min 6 (cr m j)) from (nIl (n := 6) (by omega) (by omega)).mpr (by omega)), nI_s, nI_s, ← cs]
        exact a1
      · have mn : min 6 (cr m j) = cr m j := by omega
        rw [mn] at e31 e52
        have a6 : 0 ≤ nI (cr m j) ∧ nI (cr m j) < 6 := nIr (k := 6) (by omega) (by omega)
        have Q1 : Qs h (wI (wI h 52 0 (cr m j) (nI j)) 8 0 31 (nI (cr m j + 1))) := (Qs.w rfl).trans (Qs.w (t := 8) (k := 31) rfl)
        have C1 : CP (wI (wI h 52 0 (cr m j) (nI j)) 8 0 31 (nI (cr m j + 1))) h := (CP.w rfl).trans (CP.w rfl)
        obtain ⟨h', a1, a2, a3, a4⟩ := ih n (j + 1) (wI (wI h 52 0 (cr m j) (nI j)) 8 0 31 (nI (cr m j + 1))) (by omega) h8 (by omega) (by rw [xI_wI, if_neg (by omega), xI_wI, if_neg (by omega), e6]) (by rw [xI_wI, if_pos ⟨rfl, rfl, rfl⟩, show min 6 (cr m (j + 1)) = cr m j + 1 by omega]) (fun r hr => by
          rw [xI_wI, if_neg (by omega), xI_wI]
          by_cases e : r = cr m j
          · rw [if_pos ⟨rfl, rfl, e⟩, e, boF_of (by omega) tb]
          · rw [if_neg (fun w => e w.2.2)]
            exact e52 r (by omega))
        refine ⟨h', ?_, Q1.trans a2, a3.trans C1, a4⟩
        rw [fL_X8_refusal_29, e6, if_neg nle, bit, if_pos rfl, e31, if_neg (Int32.not_le.mpr a6.2), if_pos a6, nI_clamp (by omega), xI_wI, if_neg (by omega), e31, nI_s, nI_s, ← cs]
        rw [cs]
        rw [cs] at a1
        exact a1
    · have bit : ((nI m >>> (nI j &&& 31)) &&& (1 : Int32)) = 0 := by rw [tstI hm (by omega), if_neg tb]
      rw [if_neg tb, Nat.add_zero] at cs
      obtain ⟨h', a1, a2⟩ := ih n (j + 1) h (by omega) h8 (by omega) e6 (by rw [cs]; exact e31) (by rw [cs]; exact e52)
      refine ⟨h', ?_, a2⟩
      rw [fL_X8_refusal_29, e6, if_neg nle, bit, if_neg (by decide), Int32.add_zero, nI_s]
      rw [cs] at a1
      exact a1
theorem cr_nt {h : Hp} (R : Rel h) {m : Nat} (hm : m < 2 ^ gN h 1) : cr m (gN h 1) = cr m 8 := by
  have : ∀ k, gN h 1 + k ≤ 8 → cr m (gN h 1 + k) = cr m (gN h 1) := by
    intro k
    induction k with
    | zero => intro _; rfl
    | succ k ih =>
      intro hk
      have nb' : ¬ m.testBit (gN h 1 + k) = true := fun w => by
        have := R.setlt hm w
        omega
      rw [← Nat.add_assoc, cr_s, ih (by omega), if_neg nb', Nat.add_zero]
  have hT := R.t8
  have := this (8 - gN h 1) (by omega)
  rw [show gN h 1 + (8 - gN h 1) = 8 by omega] at this
  exact this.symm
theorem m_refusal0 {h hx : Hp} (R : Rel h) (P : MP hx h) {x : Int32} (x2 : Int32) (q : ¬ (0 ≤ x ∧ x ≤ nI (2 ^ gN h 1 - 1))) : f_X8_refusal x x2 hx = some (-1000001, hx) := by
  have hT := R.t8
  have g : gI hx 8 0 6 = nI (gN h 1) := by rw [P 8 rfl]; exact R.nt
  unfold f_X8_refusal
  rw [g, full_i (by omega), w_within, bnd_some, decide_eq_false q, if_neg (by decide)]
/-- a set that isn't refused, or is too large -/
theorem m_refusal1 {h hx : Hp} (R : Rel h) (P : MP hx h) {m : Nat} (hm : m < 2 ^ gN h 1) (x2 : Int32) :
    ∃ h1, Qs hx h1 ∧ CP h1 hx ∧ gI h1 8 0 31 = nI (min 6 (cr m 8)) ∧ (∀ r, r < min 6 (cr m 8) → gI h1 52 0 r = nI (boF m 8 r)) ∧
      f_X8_refusal (nI m) x2 hx = if cr m 8 ≤ 6 then (if x2 = (-1 : Int32) then (fJ_X8_refusal_126 h1) else ((f_X8_isBoat x2 h1).bind fun r3 => (if r3 = true then (if ((nI m >>> (x2 &&& 31)) &&& (1 : Int32)) = 0 then (some ((-1000003 : Int32), h1)) else (fJ_X8_refusal_126 h1)) else (some ((-1000003 : Int32), h1))))) else some (-1000007, h1) := by
  have hT := R.t8
  have m256 := R.m256 hm
  have pos : 0 < 2 ^ gN h 1 := Nat.pow_pos (by omega)
  have p256 : 2 ^ gN h 1 ≤ 256 := by
    have : 2 ^ gN h 1 ≤ 2 ^ 8 := Nat.pow_le_pow_right (by omega) hT
    exact this
  have Q1 : Qs hx (wI hx 8 0 31 0) := Qs.w (t := 8) (k := 31) rfl
  have g : gI hx 8 0 6 = nI (gN h 1) := by rw [P 8 rfl]; exact R.nt
  have g6 : gI (wI hx 8 0 31 0) 8 0 6 = nI (gN h 1) := by rw [xI_wI, if_neg (by omega)]; exact g
  obtain ⟨h1, a1, a2, a3, a4, a5⟩ := L_ref29 (nt := gN h 1) m256 x2 (gN h 1) FU 0 (wI hx 8 0 31 0) (by omega) hT (FUb (by omega)) g6 (by rw [xI_wI, if_pos ⟨rfl, rfl, rfl⟩]; rfl) (fun r hr => by
    have : cr m 0 = 0 := rfl
    omega)
  have c8 := cr_le m 8
  rw [cr_nt R hm] at a1 a4 a5
  refine ⟨h1, Q1.trans a2, a3.trans (CP.w rfl), a4, a5, ?_⟩
  have in' : 0 ≤ nI m ∧ nI m ≤ nI (2 ^ gN h 1 - 1) := ⟨(nIr (n := m) (k := 256) (by omega) (by omega)).1, (nIl (by omega) (by omega)).mpr (by omega)⟩
  have g6' : gI h1 8 0 6 = nI (gN h 1) := by rw [a2.2.2.2 6 (by omega)]; exact g6
  have le : nI (cr m 8) ≤ 6 ↔ cr m 8 ≤ 6 := nIl (k := 6) (by omega) (by omega)
  unfold f_X8_refusal
  rw [g, full_i (by omega), w_within, bnd_some, decide_eq_true in', if_pos rfl]
  refine Eq.trans a1 ?_
  rw [fL_X8_refusal_29, g6', if_pos (Int32.le_refl _)]
  by_cases q : cr m 8 ≤ 6
  · rw [if_pos (le.mpr q), if_pos q]
  · rw [if_neg (fun w => q (le.mp w)), if_neg q]
theorem wA_M {h h1 : Hp} (P : MP h1 h) (i b : Nat) (x : Int32) : wA h1 i b x = wA h i b x := by
  unfold wA
  rw [P 30 rfl, P 31 rfl, P 32 rfl, P 33 rfl, P 36 rfl, P 37 rfl]
theorem wN2_M {h h1 : Hp} (P : MP h1 h) (i q : Nat) : wN2 h1 i q = wN2 h i q := by
  unfold wN2
  rw [P 34 rfl, P 35 rfl, P 8 rfl]
theorem m_126 {h hx h1 : Hp} (R : Rel h) (P : MP hx h) {m : Nat} (hm : m < 2 ^ gN h 1) (h6 : cr m 8 ≤ 6) (Q : Qs hx h1) (e31 : gI h1 8 0 31 = nI (min 6 (cr m 8))) (e52 : ∀ r, r < min 6 (cr m 8) → gI h1 52 0 r = nI (boF m 8 r)) :
    ∃ h2, fJ_X8_refusal_126 h1 = some (if gI h2 8 0 38 = 0 then -1000004 else 0, h2) ∧ Fs h1 h2 ∧ Bst (fA h m) (fN h m) (fV h m) (cr m 8) (gN h 0) (fun P => Full (fA h m) (fN h m) (cr m 8) (gN h 0) P) h2 := by
  have hT := R.t8
  rw [Nat.min_eq_right h6] at e31 e52
  have L : Lk (fA h m) (fN h m) (fV h m) (cr m 8) (gN h 0) (boF m 8) h1 := by
    refine ⟨by rw [Q.2.2.2 0 (by omega), P 8 rfl]; exact R.nb, e31, fun r hr => ⟨e52 r hr, by have := (boF_s m 8 r hr).1; omega⟩, fun r b k _ hb hk => ?_, fun r q _ _ => ?_, fun q r _ _ => ?_⟩
    · rw [Q.eA, wA_M P]
      exact fA_w R m hb hk
    · rw [Q.eN, wN2_M P]
      unfold fN
      rw [decide_eq_true_iff]
    · rw [Q.2.2.1 39 rfl, Q.2.2.1 38 rfl, P 39 rfl, P 38 rfl]
      unfold fV
      rw [decide_eq_false_iff_not, Classical.not_not]
  obtain ⟨h2, a1, a2, a3⟩ := m_find (fA_k h m) h6 R.b4 L
  refine ⟨h2, ?_, a2, a3⟩
  unfold fJ_X8_refusal_126
  rw [a1, bnd_some]
  by_cases q : gI h2 8 0 38 = 0
  · rw [if_pos q, if_pos q]
  · rw [if_neg q, if_neg q]
/-- a finding after scratch was written on both sides -/
theorem Pm.find2 {h hc hm : Hp} (R : Rel h) {fC fM : Hp → Option (Int32 × Hp)} (c : Int32) (Qc : Qs h hc) (Qm : Qs (hcF hc) hm) (e1 : fC h = some (c, hcF hc)) (e2 : fM (hcF hc) = f_X8_finding c hm) : Pm h fC fM := by
  have Rf := R.fd
  have g7 : gI hc 7 0 5 = gI h 7 0 5 := by rw [Qc.2.2.1 7 rfl]
  have g8 : gI (hcF hc) 8 0 30 = gI (hcF h) 8 0 30 := by
    unfold hcF
    rw [xI_wI, if_neg (by omega), xI_wI, if_neg (by omega), Qc.2.2.2 30 (by omega)]
  have Q : Qs (wI (hcF h) 8 0 30 (gI (hcF h) 8 0 30 + 1)) (wI hm 8 0 30 (gI hm 8 0 30 + 1)) := by
    refine ⟨Qm.1.trans Qc.1, ⟨Qm.2.1.1.trans Qc.2.1.1, Qm.2.1.2.1.trans Qc.2.1.2.1, Qm.2.1.2.2.trans Qc.2.1.2.2⟩, fun t ht => ?_, fun k hk => ?_⟩
    · have t8 : t ≠ 8 := by rintro rfl; exact absurd ht (by decide)
      funext a b
      rw [xI_wI, if_neg (fun w => t8 w.1), xI_wI, if_neg (fun w => t8 w.1), Qm.2.2.1 t ht]
      unfold hcF
      rw [xI_wI, xI_wI, g7, Qc.2.2.1 t ht]
    · rw [xI_wI, xI_wI, Qm.2.2.2 30 (by omega), g8, Qm.2.2.2 k (by omega)]
      have : gI (hcF hc) 8 0 k = gI (hcF h) 8 0 k := by
        unfold hcF
        rw [xI_wI, if_neg (by omega), xI_wI, if_neg (by omega), Qc.2.2.2 k (by omega)]
      rw [this]
  refine Pm.mk e1 (e2.trans rfl) (Rf.qs Q) (fun i => ?_) (fun i => ?_)
  · rw [xI_wI, if_neg (by omega), Qm.2.2.1 41 rfl]
    unfold hcF
    rw [xI_wI, if_neg (by omega), Qc.2.2.1 41 rfl]
  · rw [xI_wI, if_neg (by omega), Qm.2.2.1 42 rfl]
    unfold hcF
    rw [xI_wI, if_neg (by omega), Qc.2.2.1 42 rfl]
theorem Pm.rd2 {h hc hm : Hp} (R : Rel h) {fC fM : Hp → Option (Int32 × Hp)} (v : Int32) (Qc : Qs h hc) (Qm : Qs hc hm) (e1 : fC h = some (v, hc)) (e2 : fM hc = some (v, hm)) : Pm h fC fM :=
  Pm.mk e1 e2 (R.qs (Qc.trans Qm)) (fun i => by rw [(Qc.trans Qm).2.2.1 41 rfl]) (fun i => by rw [(Qc.trans Qm).2.2.1 42 rfl])
theorem p_plan {h : Hp} (R : Rel h) (x : Int32) : Pm h (f_X7_plan x) (f_X8_plan x) := by
  have hT := R.t8
  have nv := NEV_e
  rcases e_refuses R x with ⟨e, q⟩ | ⟨m, rfl, hm, ⟨h6, e⟩ | ⟨h6, e⟩⟩
  · refine Pm.find R (-1000001) ?_ ?_
    · unfold f_X7_plan
      rw [e, bnd_some, if_neg (by decide), c_find (by decide), bnd_some]
    · unfold f_X8_plan
      rw [m_refusal0 R (MP.F h) (-1) q, bnd_some, if_neg (show ¬ (-1000001 : Int32) = 0 by decide), fnd_eta]
  · obtain ⟨v, hc, a1, a2, a3, a4, a5⟩ := e_find R hm h6
    by_cases vl : v < NEV
    · rw [if_pos vl] at a1
      obtain ⟨h1, b1, b2, b3, b4, b5⟩ := m_refusal1 R a3 hm (-1)
      obtain ⟨h2, c1, c2, c3⟩ := m_126 R a3 hm h6 b1 b3 b4
      rcases meet (fA_k h m) h6 R.b4 a5 c3 with ⟨w, -⟩ | ⟨-, e38, P, p1, p2, p3, p4⟩
      · exact absurd vl w
      · have d := Full.dec (V := fV h m) (fA_k h m) h6 R.b4 p1
        rw [p2] at d
        have lt : ¬ nI (v / 1073741824) < -1000000 := fun q => absurd (Int32.lt_of_le_of_lt (nIr (n := v / 1073741824) (k := 1000) (by omega) (by omega)).1 q) (by decide)
        refine Pm.rd2 R (nI (v / 1073741824)) a2 (b1.trans c2.qs) ?_ ?_
        · unfold f_X7_plan
          rw [e, bnd_some, if_pos rfl, a1, bnd_some, c_same lt, bnd_some]
        · unfold f_X8_plan
          rw [b5, if_pos h6, if_pos rfl, c1, bnd_some, e38, if_neg (show ¬ (1 : Int32) = 0 by decide), if_pos (show (0 : Int32) = 0 from rfl)]
          show some (gI h2 8 0 39, h2) = _
          rw [p3, d.1]
    · rw [if_neg vl] at a1
      obtain ⟨h1, b1, b2, b3, b4, b5⟩ := m_refusal1 R ((MP.F hc).trans a3) hm (-1)
      obtain ⟨h2, c1, c2, c3⟩ := m_126 R ((MP.F hc).trans a3) hm h6 b1 b3 b4
      rcases meet (fA_k h m) h6 R.b4 a5 c3 with ⟨-, e38⟩ | ⟨w, -⟩
      · refine Pm.find2 R (-1000004) a2 (b1.trans c2.qs) ?_ ?_
        · unfold f_X7_plan
          rw [e, bnd_some, if_pos rfl, a1, bnd_some, c_find (show (-1000004 : Int32) < -1000000 by decide), bnd_some]
        · unfold f_X8_plan
          rw [b5, if_pos h6, if_pos rfl, c1, bnd_some, e38, if_pos rfl, if_neg (show ¬ (-1000004 : Int32) = 0 by decide), fnd_eta]
      · exact absurd w vl
  · obtain ⟨h1, b1, b2, b3, b4, b5⟩ := m_refusal1 R (MP.F h) hm (-1)
    refine Pm.find2 R (-1000007) (Qs.rfl' h) b1 ?_ ?_
    · unfold f_X7_plan
      rw [e, bnd_some, if_neg (by decide), c_find (by decide), bnd_some]
    · unfold f_X8_plan
      rw [b5, if_neg h6, bnd_some, if_neg (show ¬ (-1000007 : Int32) = 0 by decide), fnd_eta]
