/-! ===== the class's find ===== -/
theorem LE.mp {h h' : Hp} (E : LE h h') : MP h' h := fun t _ => by rw [E.2.1]
theorem L_fill64 (w : Int64) : ∀ (m n j : Nat) (h : Hp), j + m = 64 → m < n → (∀ k, k < j → gL h 17 0 k = w) → ∃ h', fL_J7_fill_d0a16_6 n w (nI j) 64 h = some h' ∧ LE h h' ∧ ∀ k, k < 64 → gL h' 17 0 k = w := by
  intro m
  induction m with
  | zero =>
    intro n j h hj hn hk
    obtain ⟨n, rfl⟩ : ∃ k, n = k + 1 := ⟨n - 1, by omega⟩
    obtain rfl : j = 64 := by omega
    exact ⟨h, by rw [fL_J7_fill_d0a16_6, if_pos (by decide)], LE.rfl' h, hk⟩
  | succ m ih =>
    intro n j h hj hn hk
    obtain ⟨n, rfl⟩ : ∃ k, n = k + 1 := ⟨n - 1, by omega⟩
    obtain ⟨h', a1, a2, a3⟩ := ih n (j + 1) (wL h 17 0 j w) (by omega) (by omega) (fun k hk2 => by
      rw [xL_wL]
      by_cases e : k = j
      · rw [if_pos ⟨rfl, rfl, e⟩]
      · rw [if_neg (fun q => e q.2.2)]
        exact hk k (by omega))
    refine ⟨h', ?_, (LE.w h 17 0 j w).trans a2, a3⟩
    have j64 : 0 ≤ nI j ∧ nI j < 64 := nIr (k := 64) (by omega) (by omega)
    rw [fL_J7_fill_d0a16_6, if_neg (Int32.not_le.mpr j64.2), if_pos j64, nI_clamp (by omega), nI_s]
    exact a1
theorem e_find {h : Hp} (R : Rel h) {m : Nat} (hm2 : m < 2 ^ gN h 1) (h6 : cr m 8 ≤ 6) :
    ∃ v h', f_X4_find (nI m) h = some (if v < NEV then nI (v / 1073741824) else -1000004, h') ∧ Qs h h' ∧ MP h' h ∧ gL h' 4 0 7 = lN v ∧ CsS (fA h m) (fN h m) (fV h m) (gN h 0) (2 ^ (cr m 8) - 1) v := by
  obtain ⟨h1, a1, a2, a3, a4, a5⟩ := e_rank R hm2 h6
  have R1 := R.qs a2
  have n1 : gN h1 = gN h := a2.1
  have e12 : ∀ r, r < cr m 8 → gP h1 12 0 r = some (boF m 8 r) ∧ boF m 8 r < gN h1 1 := fun r hr => ⟨a5 r hr, by rw [n1]; exact R.setlt hm2 (boF_s m 8 r hr).2.1⟩
  obtain ⟨h2, b1, b2, b3, b4, b5, b6, b7⟩ := L_cmp2 h6 (boF m 8) (N := fN h m) (V := fV h m) (cr m 8) FU 0 h1 (by omega) (FUb (by omega)) R1 a4 e12 (fun r q _ _ => by unfold fN; rw [a2.eN]) (fun r q _ _ => by unfold fV; rw [a2.2.2.1 39 rfl, a2.2.2.1 38 rfl]) (fun r hr => by omega) (fun r hr => by omega)
  obtain ⟨h3, c1, c2, c3⟩ := L_fill64 (lN NEV) 64 FU 0 h2 (by omega) (FUb (by omega)) (fun k hk => by omega)
  have E4 := LE.w h3 17 0 0 (lN 0)
  have Q2 := a2.trans b2
  have R2 := R.qs Q2
  have T2 : Tk (fA h m) (fN h m) (fV h m) (cr m 8) (gN h 0) (boF m 8) h2 := by
    refine ⟨R2, by rw [Q2.1], by rw [b5]; exact a4, fun r hr => ⟨by rw [b4]; exact a5 r hr, by rw [Q2.1]; exact R.setlt hm2 (boF_s m 8 r hr).2.1⟩, b6, b7, fun r b k hr hb hk => ?_⟩
    rw [Q2.eA]
    exact fA_w R m hb hk
  obtain ⟨v, h', d1, d2, d3, d4⟩ := L_f30 (fA_k h m) h6 (gN h 0) FU 0 (wL h3 17 0 0 (lN 0)) (by omega) (FUb (by have := R.b4; omega)) (T2.le (c2.trans E4)) (fun y hy => by
    have := two6 h6
    rw [xL_wL]
    by_cases e : y = 0
    · rw [if_pos ⟨rfl, rfl, e⟩, e]
      refine ⟨0, rfl, by omega, fun P _ _ _ => Nat.zero_le _, Or.inr ⟨[], rfl, trivial, rfl, rfl⟩⟩
    · rw [if_neg (fun q => e q.2.2), c3 y (by omega)]
      refine ⟨NEV, rfl, Nat.le_refl _, fun P hl _ hm => ?_, Or.inl rfl⟩
      have : P = [] := List.eq_nil_of_length_eq_zero hl
      rw [this] at hm
      exact absurd hm.symm e)
  refine ⟨v, h', ?_, (Q2.trans c2.qs).trans (E4.trans d2).qs, (d2.mp.trans (E4.mp.trans (c2.mp.trans (b3.trans a3)))), d3, d4⟩
  unfold f_X4_find
  have b1' : f_X4_compareRanks h1 = some h2 := b1
  have c1' : f_J7_fill_d0a16 (1099511627776 : Int64) h2 = some h3 := c1
  rw [a1, bnd_some, b1', bnd_some, c1', bnd_some]
  exact d1
/-! ===== the reference's find ===== -/
theorem L_nb0 {s n : Nat} (hs : s ≤ 6) : ∀ (m j n2 : Nat) (h : Hp), j + m = 7 → m < n2 → gI h 53 0 0 = nI j → gI h 8 0 0 = nI 0 → gI h 8 0 31 = nI s → gI h 57 0 0 = nI 0 → gI h 54 0 0 = nI 0 →
    ∃ h', fL_X8_findPlacing_69 (fL_X8_findPlacing_55 n) n2 (nI 0) h = fL_X8_findPlacing_55 n (nI 0 + (-1)) h' ∧ Fs h h' ∧ gI h' 8 0 38 = gI h 8 0 38 := by
  have b10 : 0 ≤ nI 0 ∧ nI 0 < 10 := by decide
  have ct : (nI 0).toNatClampNeg = 0 := by decide
  intro m
  induction m with
  | zero =>
    intro j n2 h hj h2 e53 e0 e31 e57 e54
    obtain ⟨n2, rfl⟩ : ∃ k, n2 = k + 1 := ⟨n2 - 1, by omega⟩
    obtain rfl : j = 7 := by omega
    refine ⟨h, ?_, Fs.rfl' h, rfl⟩
    rw [fL_X8_findPlacing_69, if_pos b10, ct, e53, if_pos (by decide)]
    unfold fJ_X8_findPlacing_101
    rw [if_pos b10, ct, e53, if_neg (by decide)]
  | succ m ih =>
    intro j n2 h hj h2 e53 e0 e31 e57 e54
    obtain ⟨n2, rfl⟩ : ∃ k, n2 = k + 1 := ⟨n2 - 1, by omega⟩
    have GO := m_goesOn (t := 0) (j := j) (m := 0) (by omega) (by omega) hs (by omega) e53 e0 e31 e57
    have U : fL_X8_findPlacing_69 (fL_X8_findPlacing_55 n) (n2 + 1) (nI 0) h = (f_X8_goesOn (nI 0) h).bind fun r2 => (if r2.1 = true then (fJ_X8_findPlacing_101 (fL_X8_findPlacing_55 n) (nI 0) r2.2) else fL_X8_findPlacing_69 (fL_X8_findPlacing_55 n) n2 (nI 0) (wI r2.2 53 0 0 (gI r2.2 53 0 0 + 1))) := by
      rw [fL_X8_findPlacing_69, if_pos b10, ct, e53, if_neg (fun w => by have := (nI_ltI (a := 6) (by omega) (by omega)).mp w; omega)]
      simp only [if_pos b10]
    have go : ∀ hg, f_X8_goesOn (nI 0) h = some (false, hg) → Fs h hg → (∀ a k, (a < 54 ∨ 57 < a ∨ k ≤ 0) → gI hg a 0 k = gI h a 0 k) → ∃ h', fL_X8_findPlacing_69 (fL_X8_findPlacing_55 n) (n2 + 1) (nI 0) h = fL_X8_findPlacing_55 n (nI 0 + (-1)) h' ∧ Fs h h' ∧ gI h' 8 0 38 = gI h 8 0 38 := by
      intro hg eg Fg ag
      have w : ∀ a k, a ≠ 53 → (a < 54 ∨ 57 < a ∨ k ≤ 0) → gI (wI hg 53 0 0 (nI (j + 1))) a 0 k = gI h a 0 k := fun a k h1 h2 => by rw [xI_wI, if_neg (fun q => h1 q.1), ag a k h2]
      obtain ⟨h', a1, a2, a3⟩ := ih (j + 1) n2 (wI hg 53 0 0 (nI (j + 1))) (by omega) (by omega) (by rw [xI_wI, if_pos ⟨rfl, rfl, rfl⟩]) (by rw [w 8 0 (by omega) (by omega)]; exact e0) (by rw [w 8 31 (by omega) (by omega)]; exact e31) (by rw [w 57 0 (by omega) (by omega)]; exact e57) (by rw [w 54 0 (by omega) (by omega)]; exact e54)
      refine ⟨h', ?_, (Fg.trans (Fs.w rfl)).trans a2, by rw [a3, w 8 38 (by omega) (by omega)]⟩
      rw [U, eg, bnd_some, if_neg (by simp), ag 53 0 (by omega), e53, nI_s]
      exact a1
    have ag2 : ∀ a k, (a < 54 ∨ 57 < a ∨ k ≤ 0) → gI (go2 h 0 (0 + 1)) a 0 k = gI h a 0 k := fun a k w => by rw [go2_I, if_neg (by omega), if_neg (by omega)]
    by_cases j6 : j = 6
    · rw [if_pos j6, e54, if_pos (by decide)] at GO
      exact go _ GO (go_F h 0 (0 + 1)).2.1 (fun a k w => by rw [go4_I, if_neg (by omega), if_neg (by omega), if_neg (by omega), if_neg (by omega)])
    · rw [if_neg j6] at GO
      by_cases sj : s ≤ j
      · rw [if_pos sj] at GO
        exact go _ GO (go_F h 0 (0 + 1)).1 ag2
      · rw [if_neg sj, Nat.zero_testBit, if_neg (by decide), if_pos (by decide)] at GO
        exact go _ GO (go_F h 0 (0 + 1)).1 ag2
theorem m_find {A : Nat → Nat → Nat → Bool} {N V : Nat → Nat → Bool} {s nb : Nat} {bo : Nat → Nat} (hA : ∀ r b k, A r b k = true → k < 6) (hs : s ≤ 6) (hb : nb ≤ 4) {h : Hp} (L : Lk A N V s nb bo h) :
    ∃ h', f_X8_findPlacing h = some h' ∧ Fs h h' ∧ Bst A N V s nb (fun P => Full A N s nb P) h' := by
  have c0 : (0 : Int32).toNatClampNeg = 0 := by decide
  obtain ⟨h1, eh1⟩ : ∃ h1, h1 = wI (wI (wI (wI (wI h 8 0 38 0) 54 0 0 0) 55 0 0 0) 56 0 0 0) 57 0 0 0 := ⟨_, rfl⟩
  have F1 : Fs h h1 := by rw [eh1]; exact ((((Fs.w (t := 8) (k := 38) rfl).trans (Fs.w rfl)).trans (Fs.w rfl)).trans (Fs.w rfl)).trans (Fs.w rfl)
  have L1 := L.fs F1
  have g38 : gI h1 8 0 38 = 0 := by rw [eh1, xI_wI, if_neg (by omega), xI_wI, if_neg (by omega), xI_wI, if_neg (by omega), xI_wI, if_neg (by omega), xI_wI, if_pos ⟨rfl, rfl, rfl⟩]
  have g54 : gI h1 54 0 0 = 0 := by rw [eh1, xI_wI, if_neg (by omega), xI_wI, if_neg (by omega), xI_wI, if_neg (by omega), xI_wI, if_pos ⟨rfl, rfl, rfl⟩]
  have g55 : gI h1 55 0 0 = 0 := by rw [eh1, xI_wI, if_neg (by omega), xI_wI, if_neg (by omega), xI_wI, if_pos ⟨rfl, rfl, rfl⟩]
  have g56 : gI h1 56 0 0 = 0 := by rw [eh1, xI_wI, if_neg (by omega), xI_wI, if_pos ⟨rfl, rfl, rfl⟩]
  have g57 : gI h1 57 0 0 = 0 := by rw [eh1, xI_wI, if_pos ⟨rfl, rfl, rfl⟩]
  have U : f_X8_findPlacing h = if gI h1 8 0 31 = 0 then (f_X8_ends 0 h1).bind fun r3 => some r3 else fL_X8_findPlacing_55 FU 0 (wI h1 53 0 0 (-1)) := by
    unfold f_X8_findPlacing
    rw [c0, ← eh1]
  have B0 : Bst A N V s nb (fun _ => False) h1 := Or.inl ⟨g38, fun _ w => w⟩
  have e31 := L1.2.1
  rw [e31] at U
  by_cases s0 : s = 0
  · subst s0
    rw [if_pos (show nI 0 = 0 from rfl)] at U
    obtain ⟨p1, p2, p3, p4⟩ := pad_ok (A := A) (N := N) (V := V) (Q := []) trivial nb
    rw [List.append_nil] at p1 p2 p3
    have FP : Full A N 0 nb (List.replicate nb []) := ⟨by simp, p1, p2⟩
    obtain ⟨h', a1, a2, a3, a4⟩ := ends_B (V := V) hA hs hb e31 B0 FP (fun r hr => by omega)
    rw [p3] at a1
    have a1' : f_X8_ends 0 h1 = some h' := a1
    refine ⟨h', by rw [U, a1', bnd_some], F1.trans a3, a2.congr (fun P => ?_) (fun _ _ => rfl) (fun _ => rfl)⟩
    constructor
    · rintro (w | rfl)
      · exact w.elim
      · exact FP
    · intro w
      right
      rw [List.eq_replicate_iff]
      refine ⟨w.1, fun y hy => ?_⟩
      cases y with
      | nil => rfl
      | cons r y =>
        have := (w.mem r).mp ⟨r :: y, hy, by simp⟩
        omega
  · rw [if_neg (nI_ne0 (by omega) (by omega))] at U
    have F2 : Fs h1 (wI h1 53 0 0 (-1)) := Fs.w rfl
    have k2 : ∀ a k, a ≠ 53 → gI (wI h1 53 0 0 (-1)) a 0 k = gI h1 a 0 k := fun a k ha => by rw [xI_wI, if_neg (fun q => ha q.1)]
    have fin : ∀ n h', 0 < n → fL_X8_findPlacing_55 n (nI 0 + (-1)) h' = some h' := by
      intro n h' hn
      obtain ⟨n, rfl⟩ : ∃ k, n = k + 1 := ⟨n - 1, by omega⟩
      rw [fL_X8_findPlacing_55, if_pos (by decide)]
    have p2s : 2 ≤ 2 ^ s := by
      have : 2 ^ 1 ≤ 2 ^ s := Nat.pow_le_pow_right (by omega) (by omega)
      exact this
    by_cases n0 : nb = 0
    · subst n0
      have hd : fL_X8_findPlacing_55 FU 0 (wI h1 53 0 0 (-1)) = fL_X8_findPlacing_69 (fL_X8_findPlacing_55 (FU - 1)) FU 0 (wI (wI h1 53 0 0 (-1)) 53 0 0 (nI 0)) := by
        have : ∀ n, fL_X8_findPlacing_55 (n + 1) 0 (wI h1 53 0 0 (-1)) = fL_X8_findPlacing_69 (fL_X8_findPlacing_55 n) FU 0 (wI (wI h1 53 0 0 (-1)) 53 0 0 (nI 0)) := by
          intro n
          rw [fL_X8_findPlacing_55, if_neg (by decide), if_pos (by decide), if_pos (by decide), c0, xI_wI, if_pos ⟨rfl, rfl, rfl⟩]
          rfl
        have := this (FU - 1)
        rw [FU_s] at this
        exact this
      have k3 : ∀ a k, a ≠ 53 → gI (wI (wI h1 53 0 0 (-1)) 53 0 0 (nI 0)) a 0 k = gI h1 a 0 k := fun a k ha => by rw [xI_wI, if_neg (fun q => ha q.1), k2 a k ha]
      obtain ⟨h', a1, a2, a3⟩ := L_nb0 (n := FU - 1) hs 7 0 FU (wI (wI h1 53 0 0 (-1)) 53 0 0 (nI 0)) (by omega) (FUb (by omega)) (by rw [xI_wI, if_pos ⟨rfl, rfl, rfl⟩]) (by rw [k3 8 0 (by omega)]; exact L1.1) (by rw [k3 8 31 (by omega)]; exact e31) (by rw [k3 57 0 (by omega)]; exact g57) (by rw [k3 54 0 (by omega)]; exact g54)
      have fu : 0 < FU - 1 := by have := FUb (m := 1) (by omega); omega
      refine ⟨h', ?_, F1.trans ((F2.trans (Fs.w rfl)).trans a2), Or.inl ⟨by rw [a3, k3 8 38 (by omega)]; exact g38, fun P w => ?_⟩⟩
      · rw [U, hd]
        exact a1.trans (fin _ _ fu)
      · have : P = [] := List.eq_nil_of_length_eq_zero w.1
        have h2 := w.2.2
        rw [this, mkP] at h2
        omega
    · have un0 : un s [[]] = s := by
        unfold un
        have : ∀ n, cntB (fun r => !(mkP [[]]).testBit r) n = n := by
          intro n
          induction n with
          | zero => rfl
          | succ n ih =>
            rw [cntB, ih, if_pos]
            show (!(mkP [[]]).testBit n) = true
            rw [show mkP [[]] = 0 from rfl, Nat.zero_testBit]
            rfl
        exact this s
      have St : Stk A N V s nb 0 [] [] (wI h1 53 0 0 (-1)) := by
        refine ⟨by rw [un0]; simp, by simp; omega, by simp, ⟨trivial, fun r hr => absurd hr (by simp), trivial⟩, fun r hr => ?_, ?_, ?_, ?_, ?_, fun j q hq => absurd hq (by simp), fun r hr => ?_⟩
        · exact absurd hr (fun w => (inP_cons.mp w).elim (by simp) (inP_nil r))
        · rw [k2 54 0 (by omega), g54]; rfl
        · rw [k2 55 0 (by omega), g55]; rfl
        · rw [k2 56 0 (by omega), g56]; rfl
        · rw [k2 57 0 (by omega), g57]; rfl
        · exact absurd hr (fun w => (inP_cons.mp w).elim (by simp) (inP_nil r))
      have fzl : fz (s + nb) ≤ 100000000000 := by
        unfold fz
        have : 10 ^ (s + nb + 1) ≤ 10 ^ 11 := Nat.pow_le_pow_right (by omega) (by omega)
        exact this
      have ful : 100000000001 ≤ FU := by unfold FU; decide
      obtain ⟨n', h', a1, a2, a3, a4⟩ := dfs (bo := bo) (V := V) hA hs hb (s + nb) 0 [] [] (wI h1 53 0 0 (-1)) (fun _ => False) FU (L1.fs F2) St (by show 0 ≠ 2 ^ s - 1; omega) (by rw [un0]; simp) (by rw [xI_wI, if_pos ⟨rfl, rfl, rfl⟩]) (B0.congr (fun _ => Iff.rfl) (fun c _ => k2 8 c (by omega)) (fun r => k2 59 r (by omega))) (by omega)
      refine ⟨h', ?_, (F1.trans F2).trans a3.1, a4.congr (fun P => ?_) (fun _ _ => rfl) (fun _ => rfl)⟩
      · rw [U]
        exact a2.trans (fin _ _ (by omega))
      · constructor
        · rintro (w | w)
          · exact w.elim
          · exact w.1
        · intro w
          refine Or.inr ⟨w, ?_⟩
          rcases List.eq_nil_or_concat P with e | ⟨X, x, e⟩
          · have := w.1
            rw [e] at this
            simp at this
            omega
          · exact ⟨X, x, by rw [e]; simp⟩
/-! ===== both find the same ===== -/
theorem meet {A : Nat → Nat → Nat → Bool} {N V : Nat → Nat → Bool} {s nb v : Nat} (hA : ∀ r b k, A r b k = true → k < 6) (hs : s ≤ 6) (hb : nb ≤ 4) {h : Hp} (C : CsS A N V nb (2 ^ s - 1) v) (B : Bst A N V s nb (fun P => Full A N s nb P) h) :
    (¬ v < NEV ∧ gI h 8 0 38 = 0) ∨ (v < NEV ∧ gI h 8 0 38 = 1 ∧ ∃ P, Full A N s nb P ∧ pCo V P = v ∧ gI h 8 0 39 = nI (pPr V P) ∧ ∀ r, r < s → gI h 59 0 r = nI (s6 P r)) := by
  have nv := NEV_e
  rcases B with ⟨b1, b2⟩ | ⟨b1, P, b2, -, b4, b5, b6, b7⟩
  · rcases C.2.2 with e | ⟨P, p1, p2, p3, p4⟩
    · exact Or.inl ⟨by omega, b1⟩
    · exact absurd ⟨p1, p2, p3⟩ (b2 P)
  · have lt := (Full.dec (V := V) hA hs hb b2).2.2.1
    have le := C.2.1 P b2.1 b2.2.1 b2.2.2
    rcases C.2.2 with e | ⟨P2, p1, p2, p3, p4⟩
    · omega
    · have := b7 P2 ⟨p1, p2, p3⟩
      exact Or.inr ⟨by omega, b1, P, b2, by omega, b4, b6⟩
