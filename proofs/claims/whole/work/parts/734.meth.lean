/-! ===== ranks of a set ===== -/
def cr (m b : Nat) : Nat := cntB (fun r => m.testBit r) b
theorem cr_s (m b : Nat) : cr m (b + 1) = cr m b + (if m.testBit b = true then 1 else 0) := rfl
theorem cr_mono (m : Nat) {a b : Nat} (h : a ≤ b) : cr m a ≤ cr m b := by
  induction b with
  | zero => rw [show a = 0 by omega]; exact Nat.le_refl _
  | succ b ih =>
    by_cases e : a = b + 1
    · rw [e]; exact Nat.le_refl _
    · have := ih (by omega)
      rw [cr_s]
      omega
theorem cr_lt (m : Nat) {a b : Nat} (h : a < b) (ha : m.testBit a = true) : cr m a < cr m b := by
  have h1 := cr_s m a
  rw [if_pos ha] at h1
  have h2 := cr_mono m (show a + 1 ≤ b by omega)
  omega
theorem cr_le (m b : Nat) : cr m b ≤ b := cntB_le _ b
def boF (m : Nat) : Nat → Nat → Nat
  | 0, _ => 0
  | n + 1, r => if m.testBit n = true ∧ cr m n = r then n else boF m n r
theorem boF_s (m : Nat) : ∀ n r, r < cr m n → boF m n r < n ∧ m.testBit (boF m n r) = true ∧ cr m (boF m n r) = r
  | 0, r, h => absurd h (by simp [cr, cntB])
  | n + 1, r, h => by
    rw [boF]
    by_cases e : m.testBit n = true ∧ cr m n = r
    · rw [if_pos e]
      exact ⟨by omega, e⟩
    · rw [if_neg e]
      rw [cr_s] at h
      have : r < cr m n := by
        by_cases q : m.testBit n = true
        · rw [if_pos q] at h
          have : cr m n ≠ r := fun w => e ⟨q, w⟩
          omega
        · rw [if_neg q] at h
          exact h
      have := boF_s m n r this
      exact ⟨by omega, this.2⟩
theorem cr_inj {m a b : Nat} (ha : m.testBit a = true) (hb : m.testBit b = true) (e : cr m a = cr m b) : a = b := by
  rcases Nat.lt_trichotomy a b with q | q | q
  · have := cr_lt m q ha
    omega
  · exact q
  · have := cr_lt m q hb
    omega
theorem boF_of {m b n : Nat} (hb : b < n) (tb : m.testBit b = true) : boF m n (cr m b) = b := by
  have := boF_s m n (cr m b) (cr_lt m hb tb)
  exact cr_inj this.2.1 tb this.2.2
/-- what the scratch of the placings may change -/
def scr (t : Nat) : Bool := t == 4 || t == 8 || t == 13 || t == 14 || (Nat.ble 52 t && Nat.ble t 61)
def Qs (h h' : Hp) : Prop := gN h' = gN h ∧ (gP h' 10 = gP h 10 ∧ gP h' 11 = gP h 11 ∧ gP h' 22 = gP h 22) ∧ (∀ t, scr t = false → gI h' t = gI h t) ∧ (∀ c, c < 31 → gI h' 8 0 c = gI h 8 0 c)
theorem Qs.rfl' (h : Hp) : Qs h h := ⟨rfl, ⟨rfl, rfl, rfl⟩, fun _ _ => rfl, fun _ _ => rfl⟩
theorem Qs.trans {a b c : Hp} (X : Qs a b) (Y : Qs b c) : Qs a c := ⟨Y.1.trans X.1, ⟨Y.2.1.1.trans X.2.1.1, Y.2.1.2.1.trans X.2.1.2.1, Y.2.1.2.2.trans X.2.1.2.2⟩, fun t ht => (Y.2.2.1 t ht).trans (X.2.2.1 t ht), fun k hk => (Y.2.2.2 k hk).trans (X.2.2.2 k hk)⟩
theorem Qs.w {h : Hp} {t i k : Nat} {v : Int32} (ht : (scr t && (!(t == 8) || Nat.ble 31 k)) = true) : Qs h (wI h t i k v) := by
  simp only [Bool.and_eq_true, Bool.or_eq_true, Bool.not_eq_true', beq_eq_false_iff_ne, ne_eq, Nat.ble_eq] at ht
  refine ⟨rfl, ⟨rfl, rfl, rfl⟩, fun a ha => ?_, fun c hc => ?_⟩
  · funext b c
    rw [xI_wI, if_neg]
    rintro ⟨rfl, -⟩
    rw [ht.1] at ha
    exact absurd ha (by decide)
  · rw [xI_wI, if_neg (by omega)]
theorem Qs.p {h : Hp} {i k : Nat} {v : Option Nat} : Qs h (wP h 12 i k v) := by
  refine ⟨rfl, ⟨?_, ?_, ?_⟩, fun a _ => rfl, fun c _ => rfl⟩
  · funext b c; rw [xP_wP, if_neg (by omega)]
  · funext b c; rw [xP_wP, if_neg (by omega)]
  · funext b c; rw [xP_wP, if_neg (by omega)]
theorem LE.qs {h h' : Hp} (E : LE h h') : Qs h h' := ⟨E.1, ⟨by rw [E.2.2], by rw [E.2.2], by rw [E.2.2]⟩, fun t _ => by rw [E.2.1], fun c _ => by rw [E.2.1]⟩
theorem Fs.qs {h h' : Hp} (E : Fs h h') : Qs h h' := by
  refine ⟨E.1.1, ⟨by rw [E.1.2.2.1], by rw [E.1.2.2.1], by rw [E.1.2.2.1]⟩, fun t ht => ?_, fun c hc => E.2.2 c (by omega)⟩
  unfold scr at ht
  simp only [Bool.or_eq_false_iff, beq_eq_false_iff_ne, ne_eq, Bool.and_eq_false_iff] at ht
  refine E.2.1 t ?_ ht.1.1.1.2
  rcases ht.2 with w | w
  · have : ¬ 52 ≤ t := fun q => by rw [← Nat.ble_eq, w] at q; exact absurd q (by decide)
    omega
  · have : ¬ t ≤ 61 := fun q => by rw [← Nat.ble_eq, w] at q; exact absurd q (by decide)
    omega
theorem Rel.qs {h h' : Hp} (R : Rel h) (Q : Qs h h') : Rel h' := by
  obtain ⟨qN, ⟨p1, p2, p3⟩, qI, q8⟩ := Q
  unfold Rel at *
  rw [qN, p1, p2, p3, q8 0 (by omega), q8 5 (by omega), q8 6 (by omega), q8 16 (by omega), q8 19 (by omega), q8 20 (by omega), q8 21 (by omega), q8 26 (by omega), q8 30 (by omega), qI 0 rfl, qI 1 rfl, qI 2 rfl, qI 3 rfl, qI 5 rfl, qI 6 rfl, qI 7 rfl, qI 18 rfl, qI 19 rfl, qI 20 rfl, qI 21 rfl, qI 23 rfl, qI 30 rfl, qI 31 rfl, qI 32 rfl, qI 33 rfl, qI 34 rfl, qI 35 rfl, qI 36 rfl, qI 37 rfl, qI 38 rfl, qI 39 rfl, qI 40 rfl, qI 41 rfl, qI 42 rfl, qI 43 rfl, qI 44 rfl, qI 45 rfl, qI 46 rfl, qI 47 rfl, qI 48 rfl, qI 49 rfl, qI 50 rfl, qI 51 rfl]
  exact R
theorem Qs.eA {h h' : Hp} (Q : Qs h h') (i b : Nat) (x : Int32) : wA h' i b x = wA h i b x := by
  unfold wA
  rw [Q.2.2.1 30 rfl, Q.2.2.1 31 rfl, Q.2.2.1 32 rfl, Q.2.2.1 33 rfl, Q.2.2.1 36 rfl, Q.2.2.1 37 rfl]
theorem Qs.eN {h h' : Hp} (Q : Qs h h') (i q : Nat) : wN2 h' i q = wN2 h i q := by
  unfold wN2
  rw [Q.2.2.1 34 rfl, Q.2.2.1 35 rfl, Q.2.2.2 5 (by omega)]
/-! ===== the set's boats, may they lie, do they move ===== -/
def fA (h : Hp) (m r b k : Nat) : Bool := decide (k < 6 ∧ wA h (boF m 8 r) b (nI k) = 0)
def fN (h : Hp) (m r q : Nat) : Bool := decide (wN2 h (boF m 8 r) (boF m 8 q) = 0)
def fV (h : Hp) (m q r : Nat) : Bool := decide (¬ gI h 39 0 (boF m 8 r) ≤ gI h 38 0 (boF m 8 q))
theorem fA_k (h : Hp) (m : Nat) : ∀ r b k, fA h m r b k = true → k < 6 := fun r b k e => (of_decide_eq_true e).1
theorem fA_w {h : Hp} (R : Rel h) (m : Nat) {r b k : Nat} (hb : b < gN h 0) (hk : k < 7) : wA h (boF m 8 r) b (nI k) = 0 ↔ fA h m r b k = true := by
  unfold fA
  rw [decide_eq_true_iff]
  constructor
  · intro w
    refine ⟨?_, w⟩
    apply Classical.byContradiction
    intro q
    obtain rfl : k = 6 := by omega
    have p := (R.ber hb).2.2.2.2.2.2.1.2
    unfold wA at w
    rw [if_neg (show ¬ nI 6 < gI h 32 0 b from fun w2 => Int32.not_lt.mpr p w2)] at w
    exact absurd w (by decide)
  · exact fun w => w.2
theorem Rel.setlt {h : Hp} (R : Rel h) {m : Nat} (hm : m < 2 ^ gN h 1) {r : Nat} (tb : m.testBit r = true) : r < gN h 1 := by
  apply Classical.byContradiction
  intro w
  have : m.testBit r = false := Nat.testBit_lt_two_pow (Nat.lt_of_lt_of_le hm (Nat.pow_le_pow_right (by omega) (by omega)))
  rw [tb] at this
  exact absurd this (by decide)
theorem Rel.m256 {h : Hp} (R : Rel h) {m : Nat} (hm : m < 2 ^ gN h 1) : m < 256 := by
  have : 2 ^ gN h 1 ≤ 2 ^ 8 := Nat.pow_le_pow_right (by omega) R.t8
  omega
theorem inSet {m x : Nat} (hm : m < 256) (hx : x < 8) (h : Hp) : f_X7_isInSet (nI m) (nI x) h = some (m.testBit x) := by
  unfold f_X7_isInSet
  rw [w_isWithin, bnd_some, decide_eq_true ⟨(nIr (n := x) (k := 8) hx (by omega)).1, (nIl (n := x) (k := 7) (by omega) (by omega)).mpr (by omega)⟩, if_pos rfl]
  have t0 := tst0 hm hx
  cases e : m.testBit x
  · rw [if_pos (t0.mpr (by rw [e]; decide))]
  · rw [if_neg (fun w => t0.mp w e)]
theorem L_rank {m : Nat} (hm : m < 256) (h6 : cr m 8 ≤ 6) : ∀ (k n j : Nat) (h : Hp), j + k = 8 → k < n → Rel h → m < 2 ^ gN h 1 → gI h 4 0 6 = nI (cr m j) → (∀ r, r < cr m j → gP h 12 0 r = some (boF m 8 r)) →
    ∃ h', fL_X4_rankBoats_17 n (nI m) 8 (nI j) h = some h' ∧ Qs h h' ∧ MP h' h ∧ gI h' 4 0 6 = nI (cr m 8) ∧ (∀ r, r < cr m 8 → gP h' 12 0 r = some (boF m 8 r)) := by
  intro k
  induction k with
  | zero =>
    intro n j h hj hn R hm2 e46 e12
    obtain ⟨n, rfl⟩ : ∃ k, n = k + 1 := ⟨n - 1, by omega⟩
    obtain rfl : j = 8 := by omega
    exact ⟨h, by rw [fL_X4_rankBoats_17, if_pos (by decide)], Qs.rfl' h, fun _ _ => rfl, e46, e12⟩
  | succ k ih =>
    intro n j h hj hn R hm2 e46 e12
    obtain ⟨n, rfl⟩ : ∃ k, n = k + 1 := ⟨n - 1, by omega⟩
    have hS := R.boA j (by omega)
    have hc : (nI j).toNatClampNeg = j := nI_clamp (by omega)
    have h8 : ¬ (8 : Int32) ≤ nI j := fun q => by have := (nIl (n := 8) (by omega) (by omega)).mp q; omega
    have h0 : 0 ≤ nI j ∧ nI j < 8 := nIr (k := 8) (by omega) (by omega)
    have cs := cr_s m j
    have cm := cr_mono m (show j ≤ 8 by omega)
    have cm1 := cr_mono m (show j + 1 ≤ 8 by omega)
    have skip : ¬ m.testBit j = true → ∃ h', fL_X4_rankBoats_17 n (nI m) 8 (nI (j + 1)) h = some h' ∧ Qs h h' ∧ MP h' h ∧ gI h' 4 0 6 = nI (cr m 8) ∧ (∀ r, r < cr m 8 → gP h' 12 0 r = some (boF m 8 r)) := by
      intro q
      rw [if_neg q, Nat.add_zero] at cs
      exact ih n (j + 1) h (by omega) (by omega) R hm2 (by rw [cs]; exact e46) (fun r hr => e12 r (by omega))
    rw [fL_X4_rankBoats_17, if_neg h8, if_pos h0, hc, hS, nI_s]
    by_cases hjt : j < gN h 1
    · rw [if_pos hjt]
      simp only []
      rw [e46]
      by_cases tb : m.testBit j = true
      · rw [if_pos tb] at cs
        have lt6 : cr m j < 6 := by omega
        have a6 : 0 ≤ nI (cr m j) ∧ nI (cr m j) < 6 := nIr (k := 6) lt6 (by omega)
        rw [if_neg (Int32.not_le.mpr a6.2), (R.boa hjt).1, inSet hm (by omega), bnd_some, if_pos tb, if_pos a6, nI_clamp (by omega), xI_wP, e46, nI_s]
        have Q1 : Qs h (wI (wP h 12 0 (cr m j) (some j)) 4 0 6 (nI (cr m j + 1))) := Qs.p.trans (Qs.w rfl)
        obtain ⟨h', a1, a2, a3, a4, a5⟩ := ih n (j + 1) (wI (wP h 12 0 (cr m j) (some j)) 4 0 6 (nI (cr m j + 1))) (by omega) (by omega) (R.qs Q1) hm2 (by rw [xI_wI, if_pos ⟨rfl, rfl, rfl⟩, cs]) (fun r hr => by
          rw [xP_wI, xP_wP]
          by_cases e : r = cr m j
          · rw [if_pos ⟨rfl, rfl, e⟩, e, boF_of (by omega) tb]
          · rw [if_neg (fun w => e w.2.2)]
            exact e12 r (by omega))
        exact ⟨h', a1, Q1.trans a2, a3.trans (MP.w rfl), a4, a5⟩
      · by_cases q6 : (6 : Int32) ≤ nI (cr m j)
        · rw [if_pos q6]
          exact skip tb
        · rw [if_neg q6, (R.boa hjt).1, inSet hm (by omega), bnd_some, if_neg tb]
          exact skip tb
    · rw [if_neg hjt]
      exact skip (fun w => hjt (R.setlt hm2 w))
theorem e_rank {h : Hp} (R : Rel h) {m : Nat} (hm2 : m < 2 ^ gN h 1) (h6 : cr m 8 ≤ 6) : ∃ h', f_X4_rankBoats (nI m) h = some h' ∧ Qs h h' ∧ MP h' h ∧ gI h' 4 0 6 = nI (cr m 8) ∧ (∀ r, r < cr m 8 → gP h' 12 0 r = some (boF m 8 r)) := by
  have Q1 : Qs h (wI h 4 0 6 0) := Qs.w rfl
  obtain ⟨h', a1, a2, a3, a4⟩ := L_rank (R.m256 hm2) h6 8 FU 0 (wI h 4 0 6 0) (by omega) (FUb (by omega)) (R.qs Q1) hm2 (by rw [xI_wI, if_pos ⟨rfl, rfl, rfl⟩]; rfl) (fun r hr => absurd hr (by simp [cr, cntB]))
  exact ⟨h', a1, Q1.trans a2, a3.trans (MP.w rfl), a4⟩
/-! ===== who may lie next to whom, who moves whom ===== -/
def mkM (p : Nat → Bool) : Nat → Nat
  | 0 => 0
  | n + 1 => mkM p n ||| (if p n = true then 2 ^ n else 0)
theorem mkM_bit (p : Nat → Bool) (r : Nat) : ∀ n, (mkM p n).testBit r = true ↔ (r < n ∧ p r = true)
  | 0 => by simp [mkM]
  | n + 1 => by
    rw [mkM, Nat.testBit_or, Bool.or_eq_true, mkM_bit p r n]
    by_cases q : p n = true
    · rw [if_pos q, Nat.testBit_two_pow, decide_eq_true_iff]
      constructor
      · rintro (w | w)
        · exact ⟨by omega, w.2⟩
        · exact ⟨by omega, by rw [← w]; exact q⟩
      · rintro ⟨w1, w2⟩
        by_cases e : r = n
        · exact Or.inr e.symm
        · exact Or.inl ⟨by omega, w2⟩
    · rw [if_neg q, Nat.zero_testBit]
      constructor
      · rintro (w | w)
        · exact ⟨by omega, w.2⟩
        · exact absurd w (by decide)
      · rintro ⟨w1, w2⟩
        refine Or.inl ⟨?_, w2⟩
        by_cases e : r = n
        · rw [e] at w2; exact absurd w2 q
        · omega
theorem mkM_lt (p : Nat → Bool) {n : Nat} (hn : n ≤ 6) : mkM p n < 64 := by
  refine Nat.lt_pow_two_of_testBit (n := 6) _ (fun r h6 => ?_)
  cases q : (mkM p n).testBit r
  · rfl
  · have := (mkM_bit p r n).mp q
    omega
theorem mk_or {p : Nat → Bool} {n : Nat} (hn : n < 6) (q : p n = true) : nI (mkM p n) ||| ((1 : Int32) <<< (nI n &&& 31)) = nI (mkM p (n + 1)) := by
  rw [orb (mkM_lt p (by omega)) hn, mkM, if_pos q]
theorem mk_no {p : Nat → Bool} {n : Nat} (q : ¬ p n = true) : mkM p (n + 1) = mkM p n := by rw [mkM, if_neg q, Nat.or_zero]
/-- both masks of one rank, as far as they are made -/
def hM2 (h : Hp) (j a b : Nat) : Hp := wI (wI h 13 0 j (nI a)) 14 0 j (nI b)
theorem wI_wI (h : Hp) (t i k : Nat) (v w : Int32) : wI (wI h t i k v) t i k w = wI h t i k w := by
  unfold wI
  simp only [gN, gI, gL, gP, Prod.mk.injEq, true_and, and_true]
  funext a b c
  by_cases e : a = t ∧ b = i ∧ c = k
  · rw [if_pos e, if_pos e]
  · rw [if_neg e, if_neg e, if_neg e]
theorem e_two {h : Hp} (R : Rel h) {s j i bj bi : Nat} (hs : s ≤ 6) (hj : j < s) (hi : i < s) (pj : gP h 12 0 j = some bj) (pi : gP h 12 0 i = some bi) (lj : bj < gN h 1) (li : bi < gN h 1) {N V : Nat → Bool} (hN : N i = decide (wN2 h bj bi = 0)) (hV : V i = decide (¬ gI h 39 0 bj ≤ gI h 38 0 bi)) :
    f_X4_compareTwo (nI j) (nI i) (hM2 h j (mkM N i) (mkM V i)) = some (hM2 h j (mkM N (i + 1)) (mkM V (i + 1))) := by
  have j6 : 0 ≤ nI j ∧ nI j < 6 := nIr (k := 6) (by omega) (by omega)
  have i6' : 0 ≤ nI i ∧ nI i < 6 := nIr (k := 6) (by omega) (by omega)
  have cj : (nI j).toNatClampNeg = j := nI_clamp (by omega)
  have ci : (nI i).toNatClampNeg = i := nI_clamp (by omega)
  have Q : ∀ a b, Qs h (hM2 h j a b) := fun a b => (Qs.w rfl).trans (Qs.w rfl)
  have g13 : ∀ a b, gI (hM2 h j a b) 13 0 j = nI a := fun a b => by unfold hM2; rw [xI_wI, if_neg (by omega), xI_wI, if_pos ⟨rfl, rfl, rfl⟩]
  have g14 : ∀ a b, gI (hM2 h j a b) 14 0 j = nI b := fun a b => by unfold hM2; rw [xI_wI, if_pos ⟨rfl, rfl, rfl⟩]
  have w13 : ∀ a b c, wI (hM2 h j a b) 13 0 j (nI c) = hM2 h j c b := fun a b c => by
    unfold hM2
    rw [wI_comm _ _ _ (by omega), wI_wI]
  have w14 : ∀ a b c, wI (hM2 h j a b) 14 0 j (nI c) = hM2 h j a c := fun a b c => by
    unfold hM2
    rw [wI_wI]
  have why : ∀ a b, f_X5_whyNotNextTo bj bi (hM2 h j a b) = some (wN2 h bj bi) := fun a b => by
    rw [e_whyNext (R.qs (Q a b)) lj li, (Q a b).eN]
  have last : ∀ a, fJ_X4_compareTwo_50 (nI j) (nI i) bj bi (hM2 h j a (mkM V i)) = some (hM2 h j a (mkM V (i + 1))) := by
    intro a
    have I1 : ∀ x c, gI (hM2 h j a (mkM V i)) 1 x c = gI h 1 x c := fun x c => by rw [(Q a (mkM V i)).2.2.1 1 rfl]
    unfold fJ_X4_compareTwo_50 f_X1_movesMaybe
    rw [I1, I1, (R.boa lj).2.2.2.2.2.2.1, (R.boa li).2.2.2.2.2.1]
    by_cases q : gI h 39 0 bj ≤ gI h 38 0 bi
    · rw [if_pos q, bnd_some, if_neg (by decide), mk_no (by rw [hV]; simp [q])]
    · rw [if_neg q, bnd_some, if_pos rfl, if_pos j6, if_pos j6, cj, g14, mk_or (by omega) (by rw [hV]; simp [q]), w14]
  have pp : ∀ a b, gP (hM2 h j a b) = gP h := fun a b => rfl
  unfold f_X4_compareTwo
  rw [if_pos j6, if_pos i6', cj, ci, pp, pi, pj]
  simp only []
  rw [why, bnd_some]
  by_cases q : wN2 h bj bi = 0
  · rw [if_pos q, if_pos j6, if_pos j6, g13, mk_or (by omega) (by rw [hN]; simp [q]), w13]
    exact last _
  · rw [if_neg q, mk_no (p := N) (by rw [hN]; simp [q])]
    exact last _
theorem L_cmp26 {h : Hp} (R : Rel h) (c2 : Int32 → Hp → Option Hp) {s j : Nat} (hs : s ≤ 6) (hj : j < s) (bo : Nat → Nat) (e46 : gI h 4 0 6 = nI s) (e12 : ∀ r, r < s → gP h 12 0 r = some (bo r) ∧ bo r < gN h 1) {N V : Nat → Bool} (hN : ∀ i, i < s → N i = decide (wN2 h (bo j) (bo i) = 0)) (hV : ∀ i, i < s → V i = decide (¬ gI h 39 0 (bo j) ≤ gI h 38 0 (bo i))) : ∀ (m n i : Nat), i + m = s → m < n →
    fL_X4_compareRanks_26 c2 n (nI j) (nI i) (hM2 h j (mkM N i) (mkM V i)) = c2 (nI (j + 1)) (hM2 h j (mkM N s) (mkM V s)) := by
  have g46 : ∀ a b, gI (hM2 h j a b) 4 0 6 = nI s := fun a b => by unfold hM2; rw [xI_wI, if_neg (by omega), xI_wI, if_neg (by omega), e46]
  intro m
  induction m with
  | zero =>
    intro n i hi hn
    obtain ⟨n, rfl⟩ : ∃ k, n = k + 1 := ⟨n - 1, by omega⟩
    obtain rfl : i = s := by omega
    rw [fL_X4_compareRanks_26, g46, if_pos (Int32.le_refl _), nI_s]
  | succ m ih =>
    intro n i hi hn
    obtain ⟨n, rfl⟩ : ∃ k, n = k + 1 := ⟨n - 1, by omega⟩
    rw [fL_X4_compareRanks_26, g46, if_neg (fun q => by have := (nIl (by omega) (by omega)).mp q; omega), e_two R hs hj (show i < s by omega) (e12 j hj).1 (e12 i (by omega)).1 (e12 j hj).2 (e12 i (by omega)).2 (hN i (by omega)) (hV i (by omega)), bnd_some, nI_s]
    exact ih n (i + 1) (by omega) (by omega)
theorem L_cmp2 {s : Nat} (hs : s ≤ 6) (bo : Nat → Nat) {N V : Nat → Nat → Bool} : ∀ (m n j : Nat) (h : Hp), j + m = s → m < n → Rel h → gI h 4 0 6 = nI s → (∀ r, r < s → gP h 12 0 r = some (bo r) ∧ bo r < gN h 1) → (∀ r q, r < s → q < s → N r q = decide (wN2 h (bo r) (bo q) = 0)) → (∀ r q, r < s → q < s → V q r = decide (¬ gI h 39 0 (bo r) ≤ gI h 38 0 (bo q))) →
    (∀ r, r < j → ∃ m, m < 64 ∧ gI h 13 0 r = nI m ∧ ∀ q, q < s → (m.testBit q = true ↔ N r q = true)) → (∀ r, r < j → ∃ m, m < 64 ∧ gI h 14 0 r = nI m ∧ ∀ q, q < s → (m.testBit q = true ↔ V q r = true)) →
    ∃ h', fL_X4_compareRanks_2 n (nI j) h = some h' ∧ Qs h h' ∧ MP h' h ∧ gP h' = gP h ∧ gI h' 4 = gI h 4 ∧ (∀ r, r < s → ∃ m, m < 64 ∧ gI h' 13 0 r = nI m ∧ ∀ q, q < s → (m.testBit q = true ↔ N r q = true)) ∧ (∀ r, r < s → ∃ m, m < 64 ∧ gI h' 14 0 r = nI m ∧ ∀ q, q < s → (m.testBit q = true ↔ V q r = true)) := by
  intro m
  induction m with
  | zero =>
    intro n j h hj hn R e46 e12 hN hV h13 h14
    obtain ⟨n, rfl⟩ : ∃ k, n = k + 1 := ⟨n - 1, by omega⟩
    obtain rfl : j = s := by omega
    exact ⟨h, by rw [fL_X4_compareRanks_2, e46, if_pos (Int32.le_refl _)], Qs.rfl' h, fun _ _ => rfl, rfl, rfl, h13, h14⟩
  | succ m ih =>
    intro n j h hj hn R e46 e12 hN hV h13 h14
    obtain ⟨n, rfl⟩ : ∃ k, n = k + 1 := ⟨n - 1, by omega⟩
    have j6 : 0 ≤ nI j ∧ nI j < 6 := nIr (k := 6) (by omega) (by omega)
    have L := L_cmp26 R (fL_X4_compareRanks_2 n) hs (show j < s by omega) bo e46 e12 (N := N j) (V := fun q => V q j) (fun i hi => hN j i (by omega) hi) (fun i hi => hV j i (by omega) hi) s FU 0 (by omega) (FUb (by omega))
    have Q1 : Qs h (hM2 h j (mkM (N j) s) (mkM (fun q => V q j) s)) := (Qs.w rfl).trans (Qs.w rfl)
    have g : ∀ t r, (r ≠ j ∨ (t ≠ 13 ∧ t ≠ 14)) → gI (hM2 h j (mkM (N j) s) (mkM (fun q => V q j) s)) t 0 r = gI h t 0 r := fun t r w => by
      unfold hM2
      rw [xI_wI, if_neg (by omega), xI_wI, if_neg (by omega)]
    obtain ⟨h', a1, a2, a3, a4, a5, a6, a7⟩ := ih n (j + 1) (hM2 h j (mkM (N j) s) (mkM (fun q => V q j) s)) (by omega) (by omega) (R.qs Q1) (by rw [g 4 6 (by omega)]; exact e46) e12 (fun r q hr hq => by rw [Q1.eN]; exact hN r q hr hq) (fun r q hr hq => by rw [Q1.2.2.1 39 rfl, Q1.2.2.1 38 rfl]; exact hV r q hr hq) (fun r hr => by
      by_cases e : r = j
      · subst e
        refine ⟨mkM (N r) s, mkM_lt _ hs, ?_, fun q hq => ?_⟩
        · unfold hM2
          rw [xI_wI, if_neg (by omega), xI_wI, if_pos ⟨rfl, rfl, rfl⟩]
        · rw [mkM_bit]
          exact ⟨fun w => w.2, fun w => ⟨hq, w⟩⟩
      · rw [g 13 r (by omega)]
        exact h13 r (by omega)) (fun r hr => by
      by_cases e : r = j
      · subst e
        refine ⟨mkM (fun q => V q r) s, mkM_lt _ hs, ?_, fun q hq => ?_⟩
        · unfold hM2
          rw [xI_wI, if_pos ⟨rfl, rfl, rfl⟩]
        · rw [mkM_bit]
          exact ⟨fun w => w.2, fun w => ⟨hq, w⟩⟩
      · rw [g 14 r (by omega)]
        exact h14 r (by omega))
    refine ⟨h', ?_, Q1.trans a2, a3.trans ((MP.w rfl).trans (MP.w rfl)), a4, ?_, a6, a7⟩
    · rw [fL_X4_compareRanks_2, e46, if_neg (fun q => by have := (nIl (by omega) (by omega)).mp q; omega), if_pos j6, if_pos j6, nI_clamp (by omega)]
      exact L.trans a1
    · rw [a5]
      funext i k
      unfold hM2
      rw [xI_wI, if_neg (by omega), xI_wI, if_neg (by omega)]
