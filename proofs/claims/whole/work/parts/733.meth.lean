/-! ===== the class's table: rows of a berth, berths joined ===== -/
theorem and_dif_lt {p o : Nat} (hp : p < 64) (tb : p.testBit o = true) : dif p (2 ^ o) < p := by
  have le : dif p (2 ^ o) ≤ p := Nat.and_le_left
  have ne : dif p (2 ^ o) ≠ p := by
    intro e
    have := dif_bit (q := 2 ^ o) hp o
    rw [e, tb, Nat.testBit_two_pow] at this
    simp at this
  omega
section
variable (A : Nat → Nat → Nat → Bool) (N V : Nat → Nat → Bool) (s : Nat)
def RW (b p : Nat) (h : Hp) : Prop := ∀ part, 0 < part → part < p → (∀ o, o < s → part.testBit o = true → ∃ v, gL h 15 0 (part * 6 + o) = lN v ∧ RcS A N V b part o v) ∧ ∃ v, gL h 16 0 part = lN v ∧ BcS A N V b part v
end
section
variable {A : Nat → Nat → Nat → Bool} {N V : Nat → Nat → Bool} {s nb : Nat} {bo : Nat → Nat}
theorem two6 (hs : s ≤ 6) : 2 ^ s ≤ 64 := by
  have : 2 ^ s ≤ 2 ^ 6 := Nat.pow_le_pow_right (by omega) hs
  exact this
theorem L_cr25 (hA : ∀ r b k, A r b k = true → k < 6) (hs : s ≤ 6) (c3 : Nat → Int32 → Int32 → Hp → Option Hp) {b p : Nat} (hb : b < nb) (p0 : 0 < p) (hp : p < 2 ^ s) : ∀ (m n j : Nat) (h : Hp), j + m = s → m < n → Tk A N V s nb bo h → RW A N V s b p h →
    (∀ o, o < j → p.testBit o = true → ∃ v, gL h 15 0 (p * 6 + o) = lN v ∧ RcS A N V b p o v) → (∃ v, gL h 16 0 p = lN v ∧ v ≤ NEV ∧ (∀ o, o < j → p.testBit o = true → ∀ l, rOk A N b (o :: l) → mkL (o :: l) = p → v ≤ rCo V b (o :: l)) ∧ (v = NEV ∨ ∃ l, rOk A N b l ∧ mkL l = p ∧ rCo V b l = v)) →
    ∃ h', fL_X4_costRows_25 c3 n b (nI b) (nI p) (nI j) h = c3 b (nI b) (nI (p + 1)) h' ∧ LE h h' ∧ RW A N V s b (p + 1) h' ∧ gL h' 17 = gL h 17 := by
  have nv := NEV_e
  have p64 := two6 hs
  intro m
  induction m with
  | zero =>
    intro n j h hj hn T rw' hr hv
    obtain ⟨n, rfl⟩ : ∃ k, n = k + 1 := ⟨n - 1, by omega⟩
    obtain rfl : j = s := by omega
    refine ⟨h, ?_, LE.rfl' h, ?_, rfl⟩
    · rw [fL_X4_costRows_25, T.2.2.1, if_pos (Int32.le_refl _), nI_s]
    · intro part q0 q1
      by_cases e : part = p
      · subst e
        refine ⟨hr, ?_⟩
        obtain ⟨v, v1, v2, v3, v4⟩ := hv
        refine ⟨v, v1, v2, fun l l1 l2 => ?_, v4⟩
        cases l with
        | nil => rw [mkL] at l2; omega
        | cons o l =>
          have ho : o < j := inS (s := j) hp l2 o (by simp)
          exact v3 o ho (by rw [← l2]; exact (mkL_bit o _).mpr (by simp)) l l1 l2
      · exact rw' part q0 (by omega)
  | succ m ih =>
    intro n j h hj hn T rw' hr hv
    obtain ⟨n, rfl⟩ : ∃ k, n = k + 1 := ⟨n - 1, by omega⟩
    have nle : ¬ nI s ≤ nI j := fun q => by have := (nIl (by omega) (by omega)).mp q; omega
    have t0 := tst0 (m := p) (j := j) (by omega) (by omega)
    by_cases tb : p.testBit j = true
    · have hd := and_dif_lt (show p < 64 by omega) tb
      have : ∀ q, ∃ v, q < s → (dif p (2 ^ j)).testBit q = true → gL h 15 0 (dif p (2 ^ j) * 6 + q) = lN v ∧ RcS A N V b (dif p (2 ^ j)) q v := by
        intro q
        by_cases w : q < s ∧ (dif p (2 ^ j)).testBit q = true
        · have d0 : 0 < dif p (2 ^ j) := by
            apply Nat.pos_of_ne_zero
            intro e
            rw [e, Nat.zero_testBit] at w
            exact absurd w.2 (by decide)
          obtain ⟨v, v1, v2⟩ := (rw' (dif p (2 ^ j)) d0 hd).1 q w.1 w.2
          exact ⟨v, fun _ _ => ⟨v1, v2⟩⟩
        · exact ⟨0, fun w1 w2 => absurd ⟨w1, w2⟩ w⟩
      obtain ⟨rc, hrc⟩ := Classical.skolem.mp this
      obtain ⟨v, v1, v2⟩ := e_out hA hs T hb hp (show j < s by omega) tb rc hrc
      obtain ⟨u, u1, u2, u3, u4⟩ := hv
      have ix : nI p * 6 + nI j = nI (p * 6 + j) := by rw [nq6, pk_mul, nI_add]
      obtain ⟨h1, eh1⟩ : ∃ h1, h1 = wL (wL h 15 0 (p * 6 + j) (lN v)) 16 0 p (lN (min u v)) := ⟨_, rfl⟩
      have E1 : LE h h1 := by rw [eh1]; exact (LE.w h _ _ _ _).trans (LE.w _ _ _ _ _)
      have g15 : ∀ k, gL h1 15 0 k = if k = p * 6 + j then lN v else gL h 15 0 k := by
        intro k
        rw [eh1, xL_wL, if_neg (by omega), xL_wL]
        by_cases e : k = p * 6 + j
        · rw [if_pos ⟨rfl, rfl, e⟩, if_pos e]
        · rw [if_neg (fun w => e w.2.2), if_neg e]
      have g16 : ∀ k, gL h1 16 0 k = if k = p then lN (min u v) else gL h 16 0 k := by
        intro k
        rw [eh1, xL_wL]
        by_cases e : k = p
        · rw [if_pos ⟨rfl, rfl, e⟩, if_pos e]
        · rw [if_neg (fun w => e w.2.2), if_neg e, xL_wL, if_neg (by omega)]
      have g17 : gL h1 17 = gL h 17 := by
        funext i k
        rw [eh1, xL_wL, if_neg (by omega), xL_wL, if_neg (by omega)]
      obtain ⟨h', a1, a2, a3, a4⟩ := ih n (j + 1) h1 (by omega) (by omega) (T.le E1) (fun part q0 q1 => by
        refine ⟨fun o ho tbo => ?_, ?_⟩
        · rw [g15, if_neg (by omega)]
          exact (rw' part q0 q1).1 o ho tbo
        · rw [g16, if_neg (by omega)]
          exact (rw' part q0 q1).2) (fun o ho tbo => by
        rw [g15]
        by_cases e : o = j
        · rw [if_pos (by omega), e]
          exact ⟨v, rfl, v2⟩
        · rw [if_neg (by omega)]
          exact hr o (by omega) tbo) (by
        rw [g16, if_pos rfl]
        refine ⟨min u v, rfl, by omega, fun o ho tbo l l1 l2 => ?_, ?_⟩
        · by_cases e : o = j
          · subst e
            have := v2.2.1 l l1 l2
            omega
          · have := u3 o (by omega) tbo l l1 l2
            omega
        · by_cases q : v < u
          · rw [Nat.min_eq_right (by omega)]
            rcases v2.2.2 with w | ⟨l, w⟩
            · exact Or.inl w
            · exact Or.inr ⟨j :: l, w⟩
          · rw [Nat.min_eq_left (by omega)]
            exact u4)
      refine ⟨h', ?_, E1.trans a2, a3, a4.trans g17⟩
      have p64' : 0 ≤ nI p ∧ nI p < 64 := nIr (k := 64) (by omega) (by omega)
      have vle := v2.1
      rw [fL_X4_costRows_25, T.2.2.1, if_neg nle, if_neg (fun q => (t0.mp q) tb), v1, bnd_some, ix, if_pos (show 0 ≤ nI (p * 6 + j) ∧ nI (p * 6 + j) < 384 from nIr (k := 384) (by omega) (by omega)), if_pos p64', if_pos p64', nI_clamp (n := p * 6 + j) (by omega), nI_clamp (n := p) (by omega), xL_wL, if_neg (by omega), u1, lminI (by omega) (by omega), nI_s, ← eh1]
      exact a1
    · obtain ⟨h', a1, a2, a3, a4⟩ := ih n (j + 1) h (by omega) (by omega) T rw' (fun o ho tbo => by
        by_cases e : o = j
        · rw [e] at tbo; exact absurd tbo tb
        · exact hr o (by omega) tbo) (by
        obtain ⟨u, u1, u2, u3, u4⟩ := hv
        refine ⟨u, u1, u2, fun o ho tbo => ?_, u4⟩
        by_cases e : o = j
        · rw [e] at tbo; exact absurd tbo tb
        · exact u3 o (by omega) tbo)
      refine ⟨h', ?_, a2, a3, a4⟩
      rw [fL_X4_costRows_25, T.2.2.1, if_neg nle, if_pos (t0.mpr tb), nI_s]
      exact a1
theorem e_all {h : Hp} (hs : s ≤ 6) (e46 : gI h 4 0 6 = nI s) : f_X4_allRanks h = some (nI (2 ^ s - 1)) := by
  unfold f_X4_allRanks
  rw [e46, full_i (by omega)]
theorem L_cr3 (hA : ∀ r b k, A r b k = true → k < 6) (hs : s ≤ 6) {b : Nat} (hb : b < nb) : ∀ (m n p : Nat) (h : Hp), p + m = 2 ^ s → 0 < p → m < n → Tk A N V s nb bo h → RW A N V s b p h →
    ∃ h', fL_X4_costRows_3 n b (nI b) (nI p) h = some h' ∧ LE h h' ∧ RW A N V s b (2 ^ s) h' ∧ gL h' 17 = gL h 17 := by
  have nv := NEV_e
  have p64 := two6 hs
  intro m
  induction m with
  | zero =>
    intro n p h hp p0 hn T rw'
    obtain ⟨n, rfl⟩ : ∃ k, n = k + 1 := ⟨n - 1, by omega⟩
    refine ⟨h, ?_, LE.rfl' h, by rw [← hp]; exact rw', rfl⟩
    rw [fL_X4_costRows_3, e_all hs T.2.2.1, bnd_some, if_pos ((nI_ltI (by omega) (by omega)).mpr (by omega))]
  | succ m ih =>
    intro n p h hp p0 hn T rw'
    obtain ⟨n, rfl⟩ : ∃ k, n = k + 1 := ⟨n - 1, by omega⟩
    have E1 := LE.w h 16 0 p (lN NEV)
    obtain ⟨h1, a1, a2, a3, a4⟩ := L_cr25 hA hs (fL_X4_costRows_3 n) hb p0 (show p < 2 ^ s by omega) s FU 0 (wL h 16 0 p (lN NEV)) (by omega) (FUb (by omega)) (T.le E1) (fun part q0 q1 => by
      refine ⟨fun o ho tbo => ?_, ?_⟩
      · rw [xL_wL, if_neg (by omega)]
        exact (rw' part q0 q1).1 o ho tbo
      · rw [xL_wL, if_neg (by omega)]
        exact (rw' part q0 q1).2) (fun o ho => by omega) ⟨NEV, by rw [xL_wL, if_pos ⟨rfl, rfl, rfl⟩], Nat.le_refl _, fun o ho => by omega, Or.inl rfl⟩
    obtain ⟨h', b1, b2, b3, b4⟩ := ih n (p + 1) h1 (by omega) (by omega) (by omega) ((T.le E1).le a2) a3
    refine ⟨h', ?_, (E1.trans a2).trans b2, b3, ?_⟩
    · rw [fL_X4_costRows_3, e_all hs T.2.2.1, bnd_some, if_neg (fun w => by have := (nI_ltI (by omega) (by omega)).mp w; omega), if_pos (show 0 ≤ nI p ∧ nI p < 64 from nIr (k := 64) (by omega) (by omega)), nI_clamp (by omega)]
      exact a1.trans b1
    · rw [b4, a4]
      funext i k
      rw [xL_wL, if_neg (by omega)]
/-! ===== berths joined ===== -/
theorem L_j19 {h : Hp} (c5 : Int32 → Hp → Option Hp) {p : Nat} (p0 : 0 < p) (hp : p < 64) (bcf cf : Nat → Nat) (hb : ∀ y, 0 < y → y ≤ p → gL h 16 0 y = lN (bcf y) ∧ bcf y ≤ NEV) (hc : ∀ y, y ≤ p → gL h 17 0 y = lN (cf y) ∧ cf y ≤ NEV) : ∀ (x n w : Nat), x ≤ p → x &&& p = x → x < n → w ≤ NEV →
    ∃ v, fL_X4_joinBerth_19 c5 n (nI p) (lN w) (nI x) h = c5 (nI p + (-1)) (wL h 17 0 p (lN v)) ∧ v ≤ w ∧ (∀ y, 0 < y → y ≤ x → y &&& p = y → v ≤ bcf y + cf (dif p y)) ∧ (v = w ∨ ∃ y, 0 < y ∧ y ≤ p ∧ y &&& p = y ∧ v = bcf y + cf (dif p y)) := by
  have nv := NEV_e
  intro x
  induction x using Nat.strongRecOn with
  | ind x ih =>
    intro n w hx sx hn hw
    obtain ⟨n, rfl⟩ : ∃ k, n = k + 1 := ⟨n - 1, by omega⟩
    have p64 : 0 ≤ nI p ∧ nI p < 64 := nIr (k := 64) (by omega) (by omega)
    by_cases x0 : x = 0
    · subst x0
      refine ⟨w, ?_, Nat.le_refl _, fun y y0 y1 => by omega, Or.inl rfl⟩
      rw [fL_X4_joinBerth_19, if_pos (by decide), if_pos p64, nI_clamp (by omega)]
    · have dlt := dif_lt (q := x) hp
      have dle : dif p x ≤ p := Nat.and_le_left
      obtain ⟨b1, b2⟩ := hb x (by omega) hx
      obtain ⟨c1, c2⟩ := hc (dif p x) dle
      have nx : (nI x - 1) &&& nI p = nI ((x - 1) &&& p) := by
        rw [show (1 : Int32) = nI 1 from rfl, nI_sub (by omega), andI (by omega) hp]
      have nlt : (x - 1) &&& p ≤ x - 1 := Nat.and_le_left
      have nsub : ((x - 1) &&& p) &&& p = (x - 1) &&& p := by rw [Nat.and_assoc, Nat.and_self]
      obtain ⟨v, v1, v2, v3, v4⟩ := ih ((x - 1) &&& p) (by omega) n (min w (bcf x + cf (dif p x))) (by omega) nsub (by omega) (by omega)
      refine ⟨v, ?_, by omega, fun y y0 y1 y2 => ?_, ?_⟩
      · rw [fL_X4_joinBerth_19, if_neg (nI_nle (by omega) (by omega)), if_pos (show 0 ≤ nI x ∧ nI x < 64 from nIr (k := 64) (by omega) (by omega)), difI hp (by omega), if_pos (show 0 ≤ nI (dif p x) ∧ nI (dif p x) < 64 from nIr (k := 64) (by omega) (by omega)), nI_clamp (n := x) (by omega), nI_clamp (n := dif p x) (by omega), b1, c1, lN_add, lminI (by omega) (by omega), nx]
        exact v1
      · by_cases e : y = x
        · rw [e]; omega
        · exact v3 y y0 (sub_le x y p y2 sx (by omega)) y2
      · rcases v4 with v4 | v4
        · by_cases q : bcf x + cf (dif p x) < w
          · exact Or.inr ⟨x, by omega, hx, sx, by omega⟩
          · exact Or.inl (by omega)
        · exact Or.inr v4
theorem pCo_lt (hA : ∀ r b k, A r b k = true → k < 6) : ∀ {P : List (List Nat)}, P.length ≤ 4 → pOk A N P → (∀ r, inP P r → r < 6) → pCo V P ≤ 40000000000 * P.length
  | [], _, _, _ => by simp [pCo]
  | l :: P, h4, ok, h6 => by
    have := pCo_lt hA (P := P) (by simp at h4; omega) ok.2.2 (fun r hr => h6 r (inP_cons.mpr (Or.inr hr)))
    have := rCo_lt (V := V) hA (show P.length < 4 by simp at h4; omega) ok.1 (fun r hr => h6 r (inP_cons.mpr (Or.inl hr)))
    rw [pCo, List.length_cons]
    omega
/-- one berth more -/
theorem CsS.join {b p v : Nat} (hp : p < 64) {w : Nat} (cw : CsS A N V b p w) (bcf cf : Nat → Nat) (hb : ∀ y, 0 < y → y ≤ p → BcS A N V b y (bcf y)) (hc : ∀ y, y ≤ p → CsS A N V b y (cf y)) (v2 : v ≤ w) (v3 : ∀ y, 0 < y → y ≤ p → y &&& p = y → v ≤ bcf y + cf (dif p y)) (v4 : v = w ∨ ∃ y, 0 < y ∧ y ≤ p ∧ y &&& p = y ∧ v = bcf y + cf (dif p y)) : CsS A N V (b + 1) p v := by
  have nv := NEV_e
  refine ⟨by have := cw.1; omega, fun P hl ok hm => ?_, ?_⟩
  · cases P with
    | nil => simp at hl
    | cons l P =>
      have hl' : P.length = b := by simpa using hl
      obtain ⟨o1, o2, o3⟩ := ok
      rw [hl'] at o1
      rw [mkP] at hm
      rw [pCo, hl']
      by_cases l0 : l = []
      · subst l0
        rw [mkL, Nat.zero_or] at hm
        have := cw.2.1 P hl' o3 hm
        rw [rCo]
        omega
      · have y0 : 0 < mkL l := Nat.pos_of_ne_zero (fun e => l0 (mkL_nil e))
        have sub : mkL l &&& p = mkL l := by
          apply bit_ext
          intro r
          rw [Nat.testBit_and, ← hm, Nat.testBit_or]
          cases (mkL l).testBit r <;> simp
        have yle : mkL l ≤ p := by rw [← sub]; exact Nat.and_le_right
        have rest : mkP P = dif p (mkL l) := by
          apply bit_ext
          intro r
          rw [dif_bit hp, ← hm, Nat.testBit_or, Bool.or_eq_true, mkL_bit, mkP_bit]
          constructor
          · intro w
            exact ⟨Or.inr w, fun w2 => o2 r w2 w⟩
          · rintro ⟨w1 | w1, w2⟩
            · exact absurd w1 w2
            · exact w1
        have h1 := (hb (mkL l) y0 yle).2.1 l o1 rfl
        have h2 := (hc (dif p (mkL l)) Nat.and_le_left).2.1 P hl' o3 rest
        have h3 := v3 (mkL l) y0 yle sub
        omega
  · by_cases q : v = NEV
    · exact Or.inl q
    · right
      rcases v4 with v4 | ⟨y, y0, y1, y2, y3⟩
      · rcases cw.2.2 with e | ⟨P, p1, p2, p3, p4⟩
        · omega
        · exact ⟨[] :: P, by simp [p1], ⟨trivial, fun r hr => absurd hr (by simp), p2⟩, by rw [mkP_nil]; exact p3, by rw [pCo, rCo]; omega⟩
      · have vle := cw.1
        rcases (hb y y0 y1).2.2 with e | ⟨l, l1, l2, l3⟩
        · omega
        · rcases (hc (dif p y) Nat.and_le_left).2.2 with e | ⟨P, p1, p2, p3, p4⟩
          · omega
          · have dis : ∀ r, r ∈ l → ¬ inP P r := by
              intro r hr w
              have h1 := (mkL_bit r l).mpr hr
              have h2 := (mkP_bit r P).mpr w
              rw [l2] at h1
              rw [p3, dif_bit hp] at h2
              exact h2.2 h1
            refine ⟨l :: P, by simp [p1], ⟨by rw [p1]; exact l1, dis, p2⟩, ?_, by rw [pCo, p1]; omega⟩
            apply bit_ext
            intro r
            rw [mkP, l2, p3, Nat.testBit_or, Bool.or_eq_true, dif_bit hp]
            constructor
            · rintro (w | w)
              · have : (y &&& p).testBit r = true := by rw [y2]; exact w
                rw [Nat.testBit_and, Bool.and_eq_true] at this
                exact this.2
              · exact w.1
            · intro w
              by_cases q2 : y.testBit r = true
              · exact Or.inl q2
              · exact Or.inr ⟨w, q2⟩
theorem CsS.zero {b v : Nat} (c : CsS A N V b 0 v) : CsS A N V (b + 1) 0 v := by
  refine ⟨c.1, fun P hl ok hm => ?_, ?_⟩
  · cases P with
    | nil => simp at hl
    | cons l P =>
      rw [mkP, Nat.or_eq_zero_iff] at hm
      have l0 := mkL_nil hm.1
      subst l0
      have := c.2.1 P (by simpa using hl) ok.2.2 hm.2
      rw [pCo, rCo]
      omega
  · rcases c.2.2 with e | ⟨P, p1, p2, p3, p4⟩
    · exact Or.inl e
    · exact Or.inr ⟨[] :: P, by simp [p1], ⟨trivial, fun r hr => absurd hr (by simp), p2⟩, by rw [mkP_nil]; exact p3, by rw [pCo, rCo]; omega⟩
theorem L_j5 (hs : s ≤ 6) {b : Nat} : ∀ (p n : Nat) (h : Hp), p < 2 ^ s → p < n → (∀ y, 0 < y → y < 2 ^ s → ∃ v, gL h 16 0 y = lN v ∧ BcS A N V b y v) → (∀ y, y ≤ p → ∃ v, gL h 17 0 y = lN v ∧ CsS A N V b y v) → (∀ y, p < y → y < 2 ^ s → ∃ v, gL h 17 0 y = lN v ∧ CsS A N V (b + 1) y v) →
    ∃ h', fL_X4_joinBerth_5 n (nI p) h = some h' ∧ LE h h' ∧ (∀ y, y < 2 ^ s → ∃ v, gL h' 17 0 y = lN v ∧ CsS A N V (b + 1) y v) := by
  have nv := NEV_e
  have p64 := two6 hs
  intro p
  induction p with
  | zero =>
    intro n h hp hn hB hC hD
    obtain ⟨n, rfl⟩ : ∃ k, n = k + 1 := ⟨n - 1, by omega⟩
    refine ⟨h, by rw [fL_X4_joinBerth_5, if_pos (by decide)], LE.rfl' h, fun y hy => ?_⟩
    by_cases e : y = 0
    · subst e
      obtain ⟨v, v1, v2⟩ := hC 0 (Nat.le_refl _)
      exact ⟨v, v1, v2.zero⟩
    · exact hD y (by omega) hy
  | succ p ih =>
    intro n h hp hn hB hC hD
    obtain ⟨n, rfl⟩ : ∃ k, n = k + 1 := ⟨n - 1, by omega⟩
    have s1 : ∀ y, ∃ v, 0 < y → y ≤ p + 1 → gL h 16 0 y = lN v ∧ BcS A N V b y v := by
      intro y
      by_cases w : 0 < y ∧ y ≤ p + 1
      · obtain ⟨v, v1⟩ := hB y w.1 (by omega)
        exact ⟨v, fun _ _ => v1⟩
      · exact ⟨0, fun w1 w2 => absurd ⟨w1, w2⟩ w⟩
    have s2 : ∀ y, ∃ v, y ≤ p + 1 → gL h 17 0 y = lN v ∧ CsS A N V b y v := by
      intro y
      by_cases w : y ≤ p + 1
      · obtain ⟨v, v1⟩ := hC y w
        exact ⟨v, fun _ => v1⟩
      · exact ⟨0, fun w1 => absurd w1 w⟩
    obtain ⟨bcf, hb⟩ := Classical.skolem.mp s1
    obtain ⟨cf, hc⟩ := Classical.skolem.mp s2
    have cw := hc (p + 1) (Nat.le_refl _)
    obtain ⟨v, v1, v2, v3, v4⟩ := L_j19 (h := h) (fL_X4_joinBerth_5 n) (p := p + 1) (by omega) (by omega) bcf cf (fun y y0 y1 => ⟨(hb y y0 y1).1, (hb y y0 y1).2.1⟩) (fun y y1 => ⟨(hc y y1).1, (hc y y1).2.1⟩) (p + 1) FU (cf (p + 1)) (Nat.le_refl _) (Nat.and_self _) (FUb (by omega)) cw.2.1
    have new := CsS.join (show p + 1 < 64 by omega) cw.2 bcf cf (fun y y0 y1 => (hb y y0 y1).2) (fun y y1 => (hc y y1).2) v2 v3 v4
    have E1 := LE.w h 17 0 (p + 1) (lN v)
    obtain ⟨h', a1, a2, a3⟩ := ih n (wL h 17 0 (p + 1) (lN v)) (by omega) (by omega) (fun y y0 y1 => by rw [xL_wL, if_neg (by omega)]; exact hB y y0 y1) (fun y y1 => by rw [xL_wL, if_neg (by omega)]; exact hC y (by omega)) (fun y y0 y1 => by
      rw [xL_wL]
      by_cases e : y = p + 1
      · rw [if_pos ⟨rfl, rfl, e⟩, e]
        exact ⟨v, rfl, new⟩
      · rw [if_neg (fun w => e w.2.2)]
        exact hD y (by omega) y1)
    refine ⟨h', ?_, E1.trans a2, a3⟩
    rw [fL_X4_joinBerth_5, if_neg (nI_nle (by omega) (by omega)), if_pos (show 0 ≤ nI (p + 1) ∧ nI (p + 1) < 64 from nIr (k := 64) (by omega) (by omega)), nI_clamp (by omega), cw.1, v1, pk_m1]
    exact a1
theorem L_f30 (hA : ∀ r b k, A r b k = true → k < 6) (hs : s ≤ 6) : ∀ (m n b : Nat) (h : Hp), b + m = nb → m < n → Tk A N V s nb bo h → (∀ y, y < 2 ^ s → ∃ v, gL h 17 0 y = lN v ∧ CsS A N V b y v) →
    ∃ v h', fL_X4_find_30 n (nI b) h = some (if v < NEV then nI (v / 1073741824) else -1000004, h') ∧ LE h h' ∧ gL h' 4 0 7 = lN v ∧ CsS A N V nb (2 ^ s - 1) v := by
  have nv := NEV_e
  have p64 := two6 hs
  have pos : 0 < 2 ^ s := Nat.pow_pos (by omega)
  intro m
  induction m with
  | zero =>
    intro n b h hb hn T hC
    obtain ⟨n, rfl⟩ : ∃ k, n = k + 1 := ⟨n - 1, by omega⟩
    obtain rfl : b = nb := by omega
    obtain ⟨v, v1, v2⟩ := hC (2 ^ s - 1) (by omega)
    have hB : gN h 0 ≤ 4 := T.1.b4
    have e52 : gI h 5 0 2 = nI b := by rw [← T.2.1]; exact T.1.1.2.2.2.2.2.1
    have g : gL (wL h 4 0 7 (lN v)) 4 0 7 = lN v := by rw [xL_wL, if_pos ⟨rfl, rfl, rfl⟩]
    have vle := v2.1
    have c : (lg_cmp (lN v) (1099511627776 : Int64) < 0) ↔ v < NEV := by
      rw [lg_cmp_lt]
      exact pk_lLT (b := NEV) (by omega) (by decide)
    refine ⟨v, wL h 4 0 7 (lN v), ?_, LE.w _ _ _ _ _, g, v2⟩
    rw [fL_X4_find_30, e52, if_pos (Int32.le_refl _), e_all hs T.2.2.1, bnd_some, if_pos (show 0 ≤ nI (2 ^ s - 1) ∧ nI (2 ^ s - 1) < 64 from nIr (k := 64) (by omega) (by omega)), nI_clamp (by omega), v1, g]
    by_cases q : v < NEV
    · rw [if_pos (c.mpr q), if_pos q, show (30 : Int32) = nI 30 from rfl, lshr (by omega) (by omega), lN_i]
    · rw [if_neg (fun w => q (c.mp w)), if_neg q]
  | succ m ih =>
    intro n b h hb hn T hC
    obtain ⟨n, rfl⟩ : ∃ k, n = k + 1 := ⟨n - 1, by omega⟩
    have hB : gN h 0 ≤ 4 := T.1.b4
    have tnb := T.2.1
    have e52 : gI h 5 0 2 = nI nb := by rw [← T.2.1]; exact T.1.1.2.2.2.2.2.1
    have bo' : f_X5_berthOf (nI b) h = some (some b) := by
      rw [e_berthOf T.1, T.1.nb, if_pos ⟨(nIr (n := b) (k := 4) (by omega) (by omega)).1, (nI_ltI (by omega) (by omega)).mpr (by omega)⟩, nI_clamp (by omega)]
    obtain ⟨h1, a1, a2, a3, a4⟩ := L_cr3 hA hs (show b < nb by omega) (2 ^ s - 1) FU 1 h (by omega) (by omega) (FUb (by omega)) T (fun part q0 q1 => by omega)
    have T1 := T.le a2
    obtain ⟨h2, b1, b2, b3⟩ := L_j5 (A := A) (N := N) (V := V) hs (b := b) (2 ^ s - 1) FU h1 (by omega) (FUb (by omega)) (fun y y0 y1 => (a3 y y0 y1).2) (fun y y1 => by rw [a4]; exact hC y (by omega)) (fun y y0 y1 => by omega)
    obtain ⟨v, h', c1, c2, c3, c4⟩ := ih n (b + 1) h2 (by omega) (by omega) (T1.le b2) b3
    refine ⟨v, h', ?_, (a2.trans b2).trans c2, c3, c4⟩
    have cr : f_X4_costRows b (nI b) h = some h1 := a1
    have jb : f_X4_joinBerth h1 = some h2 := by
      unfold f_X4_joinBerth
      rw [e_all hs T1.2.2.1, bnd_some]
      exact b1
    rw [fL_X4_find_30, e52, if_neg (fun q => by have := (nIl (by omega) (by omega)).mp q; omega), bo', bnd_some]
    simp only []
    rw [cr, bnd_some, jb, bnd_some, nI_s]
    exact c1
end
