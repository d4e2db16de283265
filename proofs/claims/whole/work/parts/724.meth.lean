/-! ===== the search finds the best placing ===== -/
def Stk (A : Nat → Nat → Nat → Bool) (N V : Nat → Nat → Bool) (s nb t : Nat) (l : List Nat) (Pd : List (List Nat)) (h : Hp) : Prop :=
  t + un s (l :: Pd) + (nb - Pd.length) = s + nb ∧ Pd.length < nb ∧ l.length ≤ t ∧ pOk A N (l :: Pd) ∧ (∀ r, inP (l :: Pd) r → r < s) ∧
  gI h 54 0 t = nI Pd.length ∧ gI h 55 0 t = nI l.length ∧ gI h 56 0 t = nI (pPr V (l :: Pd)) ∧ gI h 57 0 t = nI (mkP (l :: Pd)) ∧
  (∀ j q, l[j]? = some q → gI h 53 0 (t - 1 - j) = nI q) ∧ (∀ r, inP (l :: Pd) r → gI h 58 0 r = nI (s6 (l :: Pd) r))
def Kp (t : Nat) (P : List (List Nat)) (h h' : Hp) : Prop := Fs h h' ∧ (∀ a, 54 ≤ a → a ≤ 57 → ∀ k, k ≤ t → gI h' a 0 k = gI h a 0 k) ∧ (∀ k, k < t → gI h' 53 0 k = gI h 53 0 k) ∧ (∀ r, inP P r → gI h' 58 0 r = gI h 58 0 r)
theorem Kp.trans {t : Nat} {P : List (List Nat)} {a b c : Hp} (X : Kp t P a b) (Y : Kp t P b c) : Kp t P a c :=
  ⟨X.1.trans Y.1, fun i h1 h2 k hk => (Y.2.1 i h1 h2 k hk).trans (X.2.1 i h1 h2 k hk), fun k hk => (Y.2.2.1 k hk).trans (X.2.2.1 k hk), fun r hr => (Y.2.2.2 r hr).trans (X.2.2.2 r hr)⟩
theorem Kp.up {t : Nat} {P Q : List (List Nat)} {a b : Hp} (X : Kp (t + 1) Q a b) (hPQ : ∀ r, inP P r → inP Q r) : Kp t P a b :=
  ⟨X.1, fun i h1 h2 k hk => X.2.1 i h1 h2 k (by omega), fun k hk => X.2.2.1 k (by omega), fun r hr => X.2.2.2 r (hPQ r hr)⟩
theorem Stk.kp {A N V s nb t l Pd} {h h' : Hp} (S : Stk A N V s nb t l Pd h) (K : Kp t (l :: Pd) h h') : Stk A N V s nb t l Pd h' := by
  obtain ⟨s1, s2, s3, s4, s5, s6', s7, s8, s9, s10, s11⟩ := S
  obtain ⟨k1, k2, k3, k4⟩ := K
  refine ⟨s1, s2, s3, s4, s5, ?_, ?_, ?_, ?_, fun j q hq => ?_, fun r hr => ?_⟩
  · rw [k2 54 (by omega) (by omega) t (by omega)]; exact s6'
  · rw [k2 55 (by omega) (by omega) t (by omega)]; exact s7
  · rw [k2 56 (by omega) (by omega) t (by omega)]; exact s8
  · rw [k2 57 (by omega) (by omega) t (by omega)]; exact s9
  · have hj : j < l.length := by
      apply Classical.byContradiction
      intro w
      rw [List.getElem?_eq_none (by omega)] at hq
      exact absurd hq (by simp)
    rw [k3 _ (by omega)]
    exact s10 j q hq
  · rw [k4 r hr]
    exact s11 r hr
theorem orb {m j : Nat} (hm : m < 64) (hj : j < 6) : nI m ||| ((1 : Int32) <<< (nI j &&& 31)) = nI (m ||| 2 ^ j) := by
  have : ∀ m : Fin 64, ∀ j : Fin 6, nI m.val ||| ((1 : Int32) <<< (nI j.val &&& 31)) = nI (m.val ||| 2 ^ j.val) := by decide +kernel
  exact this ⟨m, hm⟩ ⟨j, hj⟩
theorem full_i {s : Nat} (hs : s ≤ 8) : ((1 : Int32) <<< (nI s &&& 31)) - 1 = nI (2 ^ s - 1) := by
  have : ∀ s : Fin 9, ((1 : Int32) <<< (nI s.val &&& 31)) - 1 = nI (2 ^ s.val - 1) := by decide +kernel
  exact this ⟨s, by omega⟩
theorem s6_cons {i r : Nat} {l : List Nat} {Pd : List (List Nat)} (h : r ≠ i) : s6 ((i :: l) :: Pd) r = s6 (l :: Pd) r := by
  unfold s6
  rw [pB, pK, pB, pK, rPl, if_neg h]
  have : (r ∈ i :: l) ↔ r ∈ l := by simp [h]
  simp only [this]
theorem s6_new {i : Nat} {l : List Nat} {Pd : List (List Nat)} : s6 ((i :: l) :: Pd) i = 6 * Pd.length + l.length := by
  unfold s6
  rw [pB, pK, rPl, if_pos rfl, if_pos (by simp), if_pos (by simp)]
theorem s6_nil {Q : List (List Nat)} (r : Nat) : s6 ([] :: Q) r = s6 Q r := by
  unfold s6
  rw [pB, pK, if_neg (by simp), if_neg (by simp)]
def fz (d : Nat) : Nat := 10 ^ (d + 1)
theorem fz_s (d : Nat) : 7 * (fz d + 2) + 1 ≤ fz (d + 1) := by
  have pw : 10 ^ (d + 1 + 1) = 10 ^ (d + 1) * 10 := Nat.pow_succ ..
  have pos : 10 ^ 1 ≤ 10 ^ (d + 1) := Nat.pow_le_pow_right (by omega) (by omega)
  unfold fz
  omega
section
variable {A : Nat → Nat → Nat → Bool} {N V : Nat → Nat → Bool} {s nb : Nat} {bo : Nat → Nat}
/-- the placings that go on through step i -/
def Chd (A : Nat → Nat → Nat → Bool) (N : Nat → Nat → Bool) (s nb : Nat) (l : List Nat) (Pd : List (List Nat)) (i : Nat) (P : List (List Nat)) : Prop := (okR A N s i l Pd ∧ ExtP A N s nb (i :: l) Pd P) ∨ (i = 6 ∧ Pd.length + 1 < nb ∧ ExtP A N s nb [] (l :: Pd) P)
theorem stk_lay (hs : s ≤ 6) {t j : Nat} {l : List Nat} {Pd : List (List Nat)} {h : Hp} (S : Stk A N V s nb t l Pd h) (ok : okR A N s j l Pd) (e53 : gI h 53 0 t = nI j) (h' : Hp)
    (g : ∀ a k, a ≠ 53 → gI h' a 0 k = gI (go9 h t (t + 1) j (nI j) (nI (cV V j l))) a 0 k) (g53 : ∀ k, k ≤ t → gI h' 53 0 k = gI h 53 0 k) : Stk A N V s nb (t + 1) (j :: l) Pd h' := by
  obtain ⟨s1, s2, s3, s4, s5, s6', s7, s8, s9, s10, s11⟩ := S
  obtain ⟨js, jok, jn⟩ := ok
  have u := un_cons (s := s) js jn
  rw [inP_cons] at jn
  refine ⟨by omega, s2, by simp; omega, ⟨⟨jok.1, jok.2, fun w => jn (Or.inl w), s4.1⟩, fun r hr => ?_, s4.2.2⟩, fun r hr => ?_, ?_, ?_, ?_, ?_, fun j' q hq => ?_, fun r hr => ?_⟩
  · rcases List.mem_cons.mp hr with e | e
    · rw [e]; exact fun w => jn (Or.inr w)
    · exact s4.2.1 r e
  · rw [inP_cons, List.mem_cons] at hr
    rcases hr with (e | e) | e
    · omega
    · exact s5 r (inP_cons.mpr (Or.inl e))
    · exact s5 r (inP_cons.mpr (Or.inr e))
  · rw [g 54 _ (by omega), go9_I, if_neg (by omega), if_neg (by omega), if_neg (by omega), if_pos ⟨rfl, rfl, rfl⟩, s6']
  · rw [g 55 _ (by omega), go9_I, if_neg (by omega), if_neg (by omega), if_pos ⟨rfl, rfl, rfl⟩, s7, nI_s]
    rfl
  · rw [g 56 _ (by omega), go9_I, if_neg (by omega), if_pos ⟨rfl, rfl, rfl⟩, s8, nI_add]
    congr 1
    simp only [pPr, rwPr]
    omega
  · rw [g 57 _ (by omega), go9_I, if_pos ⟨rfl, rfl, rfl⟩, s9, orb (mkP_lt hs s5) (by omega), mkP_in]
  · cases j' with
    | zero =>
      simp at hq
      rw [← hq, Nat.sub_zero, Nat.add_sub_cancel, g53 t (by omega), e53]
    | succ j' =>
      have hq' : l[j']? = some q := by simpa using hq
      have hj : j' < l.length := by
        apply Classical.byContradiction
        intro w
        rw [List.getElem?_eq_none (by omega)] at hq'
        exact absurd hq' (by simp)
      rw [show t + 1 - 1 - (j' + 1) = t - 1 - j' by omega, g53 _ (by omega)]
      exact s10 j' q hq'
  · rw [g 58 _ (by omega), go9_I, if_neg (by omega), if_neg (by omega), if_neg (by omega), if_neg (by omega)]
    by_cases e : r = j
    · rw [if_pos ⟨rfl, rfl, e⟩, e, s6_new, s6', s7, i6]
    · rw [if_neg (fun w => e w.2.2), s6_cons e]
      refine s11 r ?_
      rw [inP_cons, List.mem_cons] at hr
      rw [inP_cons]
      rcases hr with (w | w) | w
      · exact absurd w e
      · exact Or.inl w
      · exact Or.inr w
theorem stk_next {t : Nat} {l : List Nat} {Pd : List (List Nat)} {h : Hp} (S : Stk A N V s nb t l Pd h) (hb : Pd.length + 1 < nb) (h' : Hp)
    (g : ∀ a k, a ≠ 53 → gI h' a 0 k = gI (go4 h t (t + 1)) a 0 k) : Stk A N V s nb (t + 1) [] (l :: Pd) h' := by
  obtain ⟨s1, s2, s3, s4, s5, s6', s7, s8, s9, s10, s11⟩ := S
  have mem : ∀ r, inP ([] :: l :: Pd) r → inP (l :: Pd) r := fun r hr => (inP_cons.mp hr).resolve_left (by simp)
  refine ⟨?_, by simp; omega, by simp, ⟨trivial, fun r hr => absurd hr (by simp), s4⟩, fun r hr => s5 r (mem r hr), ?_, ?_, ?_, ?_, fun j q hq => absurd hq (by simp), fun r hr => ?_⟩
  · have : un s ([] :: l :: Pd) = un s (l :: Pd) := by unfold un; rw [mkP_nil]
    rw [this]
    simp only [List.length_cons]
    omega
  · rw [g 54 _ (by omega), go4_I, if_neg (by omega), if_pos ⟨rfl, rfl, rfl⟩, s6', nI_s]
    rfl
  · rw [g 55 _ (by omega), go4_I, if_pos ⟨rfl, rfl, rfl⟩]
    rfl
  · rw [g 56 _ (by omega), go4_I, if_neg (by omega), if_neg (by omega), if_neg (by omega), if_pos ⟨rfl, rfl, rfl⟩, s8]
    rfl
  · rw [g 57 _ (by omega), go4_I, if_neg (by omega), if_neg (by omega), if_pos ⟨rfl, rfl, rfl⟩, s9, mkP_nil]
  · rw [g 58 _ (by omega), go4_I, if_neg (by omega), if_neg (by omega), if_neg (by omega), if_neg (by omega), s6_nil]
    exact s11 r (mem r hr)
theorem dfs (hA : ∀ r b k, A r b k = true → k < 6) (hs : s ≤ 6) (hb : nb ≤ 4) : ∀ (d t : Nat) (l : List Nat) (Pd : List (List Nat)) (h : Hp) (S : List (List Nat) → Prop) (n : Nat), Lk A N V s nb bo h → Stk A N V s nb t l Pd h → mkP (l :: Pd) ≠ 2 ^ s - 1 → un s (l :: Pd) + (nb - Pd.length) ≤ d → gI h 53 0 t = -1 → Bst A N V s nb S h → fz d ≤ n →
    ∃ n' h', n ≤ n' + fz d ∧ fL_X8_findPlacing_55 n (nI t) h = fL_X8_findPlacing_55 n' (nI t + (-1)) h' ∧ Kp t (l :: Pd) h h' ∧ Bst A N V s nb (fun P => S P ∨ ExtP A N s nb l Pd P) h' := by
  intro d
  induction d with
  | zero =>
    intro t l Pd h S n L St nf hd
    have := St.2.1
    omega
  | succ d ihd =>
    intro t l Pd h0 S0 n0 L0 St0 nf hd e53' B0 hn0
    have u1 := un_pos nf St0.2.2.2.2.1
    have t8 : t ≤ 8 := by
      have := St0.1
      have := St0.2.1
      omega
    have b10 : 0 ≤ nI t ∧ nI t < 10 := nIr (k := 10) (by omega) (by omega)
    have b11 : 0 ≤ nI (t + 1) ∧ nI (t + 1) < 11 := nIr (k := 11) (by omega) (by omega)
    have b10' : 0 ≤ nI (t + 1) ∧ nI (t + 1) < 10 := nIr (k := 10) (by omega) (by omega)
    have ct : (nI t).toNatClampNeg = t := nI_clamp (by omega)
    have ct1 : (nI (t + 1)).toNatClampNeg = t + 1 := nI_clamp (by omega)
    -- the outer loop's head
    have head : ∀ n h, fL_X8_findPlacing_55 (n + 1) (nI t) h = fL_X8_findPlacing_69 (fL_X8_findPlacing_55 n) FU (nI t) (wI h 53 0 t (gI h 53 0 t + 1)) := by
      intro n h
      rw [fL_X8_findPlacing_55, if_neg (nI_pos (by omega)), if_pos b10, if_pos b10, ct]
    have inner : ∀ (m j n2 n : Nat) (h : Hp) (S : List (List Nat) → Prop), j + m = 7 → Lk A N V s nb bo h → Stk A N V s nb t l Pd h → gI h 53 0 t = nI j → Bst A N V s nb S h → m < n2 → m * (fz d + 2) ≤ n →
        ∃ n' h', n ≤ n' + m * (fz d + 2) ∧ fL_X8_findPlacing_69 (fL_X8_findPlacing_55 n) n2 (nI t) h = fL_X8_findPlacing_55 n' (nI t + (-1)) h' ∧ Kp t (l :: Pd) h h' ∧ Bst A N V s nb (fun P => S P ∨ ∃ i, j ≤ i ∧ i < 7 ∧ Chd A N s nb l Pd i P) h' := by
      intro m
      induction m with
      | zero =>
        intro j n2 n h S hj L St e53 B h2 hn
        obtain ⟨n2, rfl⟩ : ∃ k, n2 = k + 1 := ⟨n2 - 1, by omega⟩
        obtain rfl : j = 7 := by omega
        refine ⟨n, h, by omega, ?_, ⟨Fs.rfl' h, fun _ _ _ _ _ => rfl, fun _ _ => rfl, fun _ _ => rfl⟩, B.congr (fun P => ⟨Or.inl, fun w => ?_⟩) (fun _ _ => rfl) (fun _ => rfl)⟩
        · rw [fL_X8_findPlacing_69, if_pos b10, ct, e53, if_pos (by decide)]
          unfold fJ_X8_findPlacing_101
          rw [if_pos b10, ct, e53, if_neg (by decide)]
        · rcases w with w | ⟨i, w1, w2, -⟩
          · exact w
          · omega
      | succ m ihm =>
        intro j n2 n h S hj L St e53 B h2 hn
        obtain ⟨n2, rfl⟩ : ∃ k, n2 = k + 1 := ⟨n2 - 1, by omega⟩
        have mul : (m + 1) * (fz d + 2) = m * (fz d + 2) + (fz d + 2) := Nat.succ_mul _ _
        obtain ⟨s1, s2, s3, s4, s5, s54, s55, s56, s57, s10, s11⟩ := id St
        have l7 : l.length < 7 := by have := rOk_len A N hA s4.1; omega
        have GO := m_goesOn (t := t) (j := j) (by omega) (by omega) hs (mkP_lt hs s5) e53 L.1 L.2.1 s57
        have U : fL_X8_findPlacing_69 (fL_X8_findPlacing_55 n) (n2 + 1) (nI t) h = (f_X8_goesOn (nI t) h).bind fun r2 => (if r2.1 = true then (fJ_X8_findPlacing_101 (fL_X8_findPlacing_55 n) (nI t) r2.2) else fL_X8_findPlacing_69 (fL_X8_findPlacing_55 n) n2 (nI t) (wI r2.2 53 0 t (gI r2.2 53 0 t + 1))) := by
          rw [fL_X8_findPlacing_69, if_pos b10, ct, e53, if_neg (fun w => by have := (nI_ltI (a := 6) (by omega) (by omega)).mp w; omega)]
          simp only [if_pos b10]
        have nx : ∀ {P : List (List Nat)}, (∃ i, j ≤ i ∧ i < 7 ∧ Chd A N s nb l Pd i P) ↔ (Chd A N s nb l Pd j P ∨ ∃ i, j + 1 ≤ i ∧ i < 7 ∧ Chd A N s nb l Pd i P) := by
          intro P
          constructor
          · rintro ⟨i, w1, w2, w3⟩
            by_cases e : i = j
            · rw [e] at w3; exact Or.inl w3
            · exact Or.inr ⟨i, by omega, w2, w3⟩
          · rintro (w | ⟨i, w1, w2, w3⟩)
            · exact ⟨j, by omega, by omega, w⟩
            · exact ⟨i, by omega, w2, w3⟩
        -- a step that can't be taken
        have skip : ∀ hg, f_X8_goesOn (nI t) h = some (false, hg) → Fs h hg → (∀ a k, (a < 54 ∨ 57 < a ∨ k ≤ t) → gI hg a 0 k = gI h a 0 k) → (∀ P, ¬ Chd A N s nb l Pd j P) → ∃ n' h', n ≤ n' + (m + 1) * (fz d + 2) ∧ fL_X8_findPlacing_69 (fL_X8_findPlacing_55 n) (n2 + 1) (nI t) h = fL_X8_findPlacing_55 n' (nI t + (-1)) h' ∧ Kp t (l :: Pd) h h' ∧ Bst A N V s nb (fun P => S P ∨ ∃ i, j ≤ i ∧ i < 7 ∧ Chd A N s nb l Pd i P) h' := by
          intro hg eg Fg ag no
          have K1 : Kp t (l :: Pd) h (wI hg 53 0 t (nI (j + 1))) := by
            refine ⟨Fg.trans (Fs.w rfl), fun a a1 a2 k hk => ?_, fun k hk => ?_, fun r _ => ?_⟩
            · rw [xI_wI, if_neg (by omega), ag a k (by omega)]
            · rw [xI_wI, if_neg (by omega), ag 53 k (by omega)]
            · rw [xI_wI, if_neg (by omega), ag 58 r (by omega)]
          obtain ⟨n', h', a1, a2, a3, a4⟩ := ihm (j + 1) n2 n (wI hg 53 0 t (nI (j + 1))) S (by omega) (L.fs K1.1) (St.kp K1) (by rw [xI_wI, if_pos ⟨rfl, rfl, rfl⟩]) (B.congr (fun _ => Iff.rfl) (fun c _ => by rw [xI_wI, if_neg (by omega), ag 8 c (by omega)]) (fun r => by rw [xI_wI, if_neg (by omega), ag 59 r (by omega)])) (by omega) (by omega)
          refine ⟨n', h', by omega, ?_, K1.trans a3, a4.congr (fun P => ?_) (fun _ _ => rfl) (fun _ => rfl)⟩
          · rw [U, eg, bnd_some, if_neg (by simp), ag 53 t (by omega), e53, nI_s]
            exact a2
          · rw [nx]
            exact ⟨fun w => w.elim Or.inl (fun w => Or.inr (Or.inr w)), fun w => w.elim Or.inl (fun w => w.elim (fun w => absurd w (no P)) Or.inr)⟩
        -- on from a heap at which step j is through
        have on : ∀ (n1 : Nat) (h1 : Hp) (S1 : List (List Nat) → Prop), n ≤ n1 + fz d + 1 → fL_X8_findPlacing_69 (fL_X8_findPlacing_55 n) (n2 + 1) (nI t) h = fL_X8_findPlacing_55 (n1 + 1) (nI t) h1 → Kp t (l :: Pd) h h1 → gI h1 53 0 t = nI j → Bst A N V s nb S1 h1 → (∀ P, S1 P ↔ S P ∨ Chd A N s nb l Pd j P) → ∃ n' h', n ≤ n' + (m + 1) * (fz d + 2) ∧ fL_X8_findPlacing_69 (fL_X8_findPlacing_55 n) (n2 + 1) (nI t) h = fL_X8_findPlacing_55 n' (nI t + (-1)) h' ∧ Kp t (l :: Pd) h h' ∧ Bst A N V s nb (fun P => S P ∨ ∃ i, j ≤ i ∧ i < 7 ∧ Chd A N s nb l Pd i P) h' := by
          intro n1 h1 S1 hn1 e1 K1 e531 B1 hS1
          have K2 : Kp t (l :: Pd) h (wI h1 53 0 t (nI (j + 1))) := by
            refine ⟨K1.1.trans (Fs.w rfl), fun a a1 a2 k hk => ?_, fun k hk => ?_, fun r hr => ?_⟩
            · rw [xI_wI, if_neg (by omega), K1.2.1 a a1 a2 k hk]
            · rw [xI_wI, if_neg (by omega), K1.2.2.1 k hk]
            · rw [xI_wI, if_neg (by omega), K1.2.2.2 r hr]
          obtain ⟨n', h', a1, a2, a3, a4⟩ := ihm (j + 1) FU n1 (wI h1 53 0 t (nI (j + 1))) S1 (by omega) (L.fs K2.1) (St.kp K2) (by rw [xI_wI, if_pos ⟨rfl, rfl, rfl⟩]) (B1.congr (fun _ => Iff.rfl) (fun c _ => by rw [xI_wI, if_neg (by omega)]) (fun r => by rw [xI_wI, if_neg (by omega)])) (FUb (by omega)) (by omega)
          refine ⟨n', h', by omega, ?_, K2.trans a3, a4.congr (fun P => ?_) (fun _ _ => rfl) (fun _ => rfl)⟩
          · rw [e1, head, e531, nI_s]
            exact a2
          · rw [nx, hS1, or_assoc]
        have J101 : ∀ hg m', gI hg 53 0 t = nI j → gI hg 8 0 31 = nI s → m' < 64 → gI hg 57 0 (t + 1) = nI m' → fJ_X8_findPlacing_101 (fL_X8_findPlacing_55 n) (nI t) hg = if m' = 2 ^ s - 1 then (f_X8_ends (gI hg 56 0 (t + 1)) hg).bind fun r1 => fL_X8_findPlacing_55 n (nI t) r1 else fL_X8_findPlacing_55 n (nI (t + 1)) (wI hg 53 0 (t + 1) (-1)) := by
          intro hg m' g53 g31 hm' g57
          have p64 : 2 ^ s - 1 < 64 := by
            have : 2 ^ s ≤ 2 ^ 6 := Nat.pow_le_pow_right (by omega) hs
            omega
          unfold fJ_X8_findPlacing_101
          rw [if_pos b10, ct, g53, if_pos (show nI j ≤ 6 from (nIl (k := 6) (by omega) (by omega)).mpr (by omega)), nI_s, ct1, if_pos b11, if_pos b11, if_pos b10', g57, g31, full_i (by omega)]
          by_cases e : m' = 2 ^ s - 1
          · rw [if_pos e, if_pos (by rw [e])]
          · rw [if_neg e, if_neg (fun w => e ((nI_eq (by omega) (by omega)).mp w))]
        have nt1 : nI (t + 1) + (-1) = nI t := pk_m1 t
        have pd : fz d ≤ n := by omega
        by_cases j6 : j = 6
        · subst j6
          rw [if_pos rfl, s54, nI_s] at GO
          by_cases last : Pd.length + 1 < nb
          · rw [if_neg (fun w => by have := (nIl (by omega) (by omega)).mp w; omega)] at GO
            have F4 := (go_F h t (t + 1)).2.1
            have ag : ∀ a k, (a < 54 ∨ 57 < a ∨ k ≤ t) → gI (go4 h t (t + 1)) a 0 k = gI h a 0 k := fun a k w => by rw [go4_I, if_neg (by omega), if_neg (by omega), if_neg (by omega), if_neg (by omega)]
            have g57 : gI (go4 h t (t + 1)) 57 0 (t + 1) = nI (mkP (l :: Pd)) := by rw [go4_I, if_neg (by omega), if_neg (by omega), if_pos ⟨rfl, rfl, rfl⟩, s57]
            have E := U
            rw [GO, bnd_some, if_pos rfl, J101 (go4 h t (t + 1)) (mkP (l :: Pd)) (by rw [ag 53 t (by omega)]; exact e53) (by rw [ag 8 31 (by omega)]; exact L.2.1) (mkP_lt hs s5) g57, if_neg nf] at E
            have Kc : Kp t (l :: Pd) h (wI (go4 h t (t + 1)) 53 0 (t + 1) (-1)) := by
              refine ⟨F4.trans (Fs.w rfl), fun a a1 a2 k hk => ?_, fun k hk => ?_, fun r _ => ?_⟩
              · rw [xI_wI, if_neg (by omega), ag a k (by omega)]
              · rw [xI_wI, if_neg (by omega), ag 53 k (by omega)]
              · rw [xI_wI, if_neg (by omega), ag 58 r (by omega)]
            have Sc : Stk A N V s nb (t + 1) [] (l :: Pd) (wI (go4 h t (t + 1)) 53 0 (t + 1) (-1)) := stk_next St last _ (fun a k ha => by rw [xI_wI, if_neg (fun w => ha w.1)])
            obtain ⟨n', h', a1, a2, a3, a4⟩ := ihd (t + 1) [] (l :: Pd) (wI (go4 h t (t + 1)) 53 0 (t + 1) (-1)) S n (L.fs Kc.1) Sc (by rw [mkP_nil]; exact nf) (by
              have : un s ([] :: l :: Pd) = un s (l :: Pd) := by unfold un; rw [mkP_nil]
              rw [this]
              simp only [List.length_cons]
              omega) (by rw [xI_wI, if_pos ⟨rfl, rfl, rfl⟩]) (B.congr (fun _ => Iff.rfl) (fun c _ => by rw [xI_wI, if_neg (by omega), ag 8 c (by omega)]) (fun r => by rw [xI_wI, if_neg (by omega), ag 59 r (by omega)])) pd
            rw [nt1] at a2
            obtain ⟨n1, e1⟩ : ∃ k, n' = k + 1 := ⟨n' - 1, by omega⟩
            refine on n1 h' _ (by omega) (by rw [E, a2, e1]) (Kc.trans (a3.up (fun r hr => inP_cons.mpr (Or.inr hr)))) ?_ a4 (fun P => ?_)
            · rw [a3.2.2.1 t (by omega), xI_wI, if_neg (by omega), ag 53 t (by omega), e53]
            · constructor
              · rintro (w | w)
                · exact Or.inl w
                · exact Or.inr (Or.inr ⟨rfl, last, w⟩)
              · rintro (w | (w | w))
                · exact Or.inl w
                · have := w.1.1
                  omega
                · exact Or.inr w.2.2
          · rw [if_pos ((nIl (by omega) (by omega)).mpr (by omega))] at GO
            refine skip _ GO (go_F h t (t + 1)).2.1 (fun a k w => by rw [go4_I, if_neg (by omega), if_neg (by omega), if_neg (by omega), if_neg (by omega)]) (fun P w => ?_)
            rcases w with w | w
            · have := w.1.1
              omega
            · exact last w.2.1
        · rw [if_neg j6] at GO
          have ag2 : ∀ a k, (a < 54 ∨ 57 < a ∨ k ≤ t) → gI (go2 h t (t + 1)) a 0 k = gI h a 0 k := fun a k w => by rw [go2_I, if_neg (by omega), if_neg (by omega)]
          have F2 := (go_F h t (t + 1)).1
          have no6 : ∀ P, ¬ okR A N s j l Pd → ¬ Chd A N s nb l Pd j P := fun P w1 w2 => w2.elim (fun w => w1 w.1) (fun w => j6 w.1)
          by_cases js : s ≤ j
          · rw [if_pos js] at GO
            exact skip _ GO F2 ag2 (fun P => no6 P (fun w => by have := w.1; omega))
          · rw [if_neg js] at GO
            by_cases tb : (mkP (l :: Pd)).testBit j = true
            · rw [if_pos tb] at GO
              exact skip _ GO F2 ag2 (fun P => no6 P (fun w => w.2.2 ((mkP_bit j _).mp tb)))
            · rw [if_neg tb, if_neg (nI_ne0 (by omega) (by omega))] at GO
              have L2 := L.fs F2
              have PW := m_pairsWith L2 hs hb (t := t) (i := j) (b := Pd.length) (l := l) (by omega) (by omega) s2 s3 l7 (by rw [ag2 54 t (by omega)]; exact s54) (by rw [ag2 55 t (by omega)]; exact s55) (fun j' q hq => by
                have hj' : j' < l.length := by
                  apply Classical.byContradiction
                  intro w
                  rw [List.getElem?_eq_none (by omega)] at hq
                  exact absurd hq (by simp)
                rw [ag2 53 _ (by omega)]
                refine ⟨s10 j' q hq, s5 q (inP_cons.mpr (Or.inl ?_))⟩
                exact List.mem_of_getElem? hq)
              by_cases ok : A j Pd.length l.length = true ∧ ∀ q, l.head? = some q → N j q = true
              · have okj : okR A N s j l Pd := ⟨by omega, ok, fun w => tb ((mkP_bit j _).mpr w)⟩
                have cvl := cV_le V j l
                rw [PW.1 ok, bnd_some, if_pos (nI_pos' (by omega))] at GO
                obtain ⟨hg, ehg⟩ : ∃ hg, hg = go9 h t (t + 1) j (nI j) (nI (cV V j l)) := ⟨_, rfl⟩
                have F9 : Fs h hg := by rw [ehg]; exact (go_F h t (t + 1)).2.2 _ _ _
                have ag : ∀ a k, (a < 54 ∨ 58 < a ∨ k ≤ t ∧ a ≠ 58 ∨ a = 58 ∧ k ≠ j) → gI hg a 0 k = gI h a 0 k := fun a k w => by rw [ehg, go9_I, if_neg (by omega), if_neg (by omega), if_neg (by omega), if_neg (by omega), if_neg (by omega)]
                have S9 : ∀ h', (∀ a k, a ≠ 53 → gI h' a 0 k = gI hg a 0 k) → (∀ k, k ≤ t → gI h' 53 0 k = gI h 53 0 k) → Stk A N V s nb (t + 1) (j :: l) Pd h' := fun h' w1 w2 => stk_lay hs St okj e53 h' (fun a k ha => by rw [w1 a k ha, ehg]) w2
                have Sg := S9 hg (fun _ _ _ => rfl) (fun k hk => ag 53 k (by omega))
                obtain ⟨c1, c2, c3, c4, c5, c54, c55, c56, c57, c10, c11⟩ := id Sg
                have E := U
                rw [GO, bnd_some, if_pos rfl, ← ehg, J101 hg (mkP ((j :: l) :: Pd)) (by rw [ag 53 t (by omega)]; exact e53) (by rw [ag 8 31 (by omega)]; exact L.2.1) (mkP_lt hs c5) c57] at E
                have nin : ∀ r, inP (l :: Pd) r → r ≠ j := fun r hr e => okj.2.2 (by rw [← e]; exact hr)
                by_cases fl : mkP ((j :: l) :: Pd) = 2 ^ s - 1
                · rw [if_pos fl] at E
                  obtain ⟨FP, -⟩ := ExtP.full (P := []) fl c4 s2
                  obtain ⟨-, -, pp, ps⟩ := pad_ok (V := V) c4 (nb - 1 - Pd.length)
                  have Bg : Bst A N V s nb S hg := B.congr (fun _ => Iff.rfl) (fun c _ => ag 8 c (by omega)) (fun r => ag 59 r (by omega))
                  obtain ⟨h', a1, a2, a3, a4⟩ := ends_B (V := V) hA hs hb (by rw [ag 8 31 (by omega)]; exact L.2.1) Bg FP (fun r hr => by
                    rw [ps r]
                    refine c11 r ?_
                    rw [← mkP_bit, fl, Nat.testBit_two_pow_sub_one, decide_eq_true_iff]
                    exact hr)
                  rw [pp] at a1
                  rw [c56, a1, bnd_some] at E
                  obtain ⟨n1, e1⟩ : ∃ k, n = k + 1 := ⟨n - 1, by omega⟩
                  refine on n1 h' _ (by omega) (by rw [E, e1]) ⟨F9.trans a3, fun a w1 w2 k hk => ?_, fun k hk => ?_, fun r hr => ?_⟩ ?_ a2 (fun P => ?_)
                  · rw [a4 a (by omega) (by omega), ag a k (by omega)]
                  · rw [a4 53 (by omega) (by omega), ag 53 k (by omega)]
                  · rw [a4 58 (by omega) (by omega), ag 58 r (by have := nin r hr; omega)]
                  · rw [a4 53 (by omega) (by omega), ag 53 t (by omega), e53]
                  · have X := (ExtP.full (A := A) (N := N) (nb := nb) (P := P) fl c4 s2).2
                    rw [← X]
                    constructor
                    · rintro (w | w)
                      · exact Or.inl w
                      · exact Or.inr (Or.inl ⟨okj, w⟩)
                    · rintro (w | (w | w))
                      · exact Or.inl w
                      · exact Or.inr w.2
                      · exact absurd w.1 j6
                · rw [if_neg fl] at E
                  have Kc : Kp t (l :: Pd) h (wI hg 53 0 (t + 1) (-1)) := by
                    refine ⟨F9.trans (Fs.w rfl), fun a a1 a2 k hk => ?_, fun k hk => ?_, fun r hr => ?_⟩
                    · rw [xI_wI, if_neg (by omega), ag a k (by omega)]
                    · rw [xI_wI, if_neg (by omega), ag 53 k (by omega)]
                    · rw [xI_wI, if_neg (by omega), ag 58 r (by have := nin r hr; omega)]
                  have Sc := S9 (wI hg 53 0 (t + 1) (-1)) (fun a k ha => by rw [xI_wI, if_neg (fun w => ha w.1)]) (fun k hk => by rw [xI_wI, if_neg (by omega), ag 53 k (by omega)])
                  have uc := un_cons (s := s) okj.1 okj.2.2
                  obtain ⟨n', h', a1, a2, a3, a4⟩ := ihd (t + 1) (j :: l) Pd (wI hg 53 0 (t + 1) (-1)) S n (L.fs Kc.1) Sc fl (by omega) (by rw [xI_wI, if_pos ⟨rfl, rfl, rfl⟩]) (B.congr (fun _ => Iff.rfl) (fun c _ => by rw [xI_wI, if_neg (by omega), ag 8 c (by omega)]) (fun r => by rw [xI_wI, if_neg (by omega), ag 59 r (by omega)])) pd
                  rw [nt1] at a2
                  obtain ⟨n1, e1⟩ : ∃ k, n' = k + 1 := ⟨n' - 1, by omega⟩
                  refine on n1 h' _ (by omega) (by rw [E, a2, e1]) (Kc.trans (a3.up (fun r hr => ?_))) ?_ a4 (fun P => ?_)
                  · rw [inP_cons] at hr ⊢
                    rcases hr with w | w
                    · exact Or.inl (by simp [w])
                    · exact Or.inr w
                  · rw [a3.2.2.1 t (by omega), xI_wI, if_neg (by omega), ag 53 t (by omega), e53]
                  · constructor
                    · rintro (w | w)
                      · exact Or.inl w
                      · exact Or.inr (Or.inl ⟨okj, w⟩)
                    · rintro (w | (w | w))
                      · exact Or.inl w
                      · exact Or.inr w.2
                      · exact absurd w.1 j6
              · rw [PW.2 ok, bnd_some, if_neg (by decide)] at GO
                exact skip _ GO F2 ag2 (fun P => no6 P (fun w => ok w.2.1))
    have pw := fz_s d
    obtain ⟨n1, rfl⟩ : ∃ k, n0 = k + 1 := ⟨n0 - 1, by omega⟩
    have K0 : Kp t (l :: Pd) h0 (wI h0 53 0 t (nI 0)) := by
      refine ⟨Fs.w rfl, fun a a1 a2 k hk => ?_, fun k hk => ?_, fun r _ => ?_⟩
      · rw [xI_wI, if_neg (by omega)]
      · rw [xI_wI, if_neg (by omega)]
      · rw [xI_wI, if_neg (by omega)]
    obtain ⟨n', h', a1, a2, a3, a4⟩ := inner 7 0 FU n1 (wI h0 53 0 t (nI 0)) S0 (by omega) (L0.fs K0.1) (St0.kp K0) (by rw [xI_wI, if_pos ⟨rfl, rfl, rfl⟩]) (B0.congr (fun _ => Iff.rfl) (fun c _ => by rw [xI_wI, if_neg (by omega)]) (fun r => by rw [xI_wI, if_neg (by omega)])) (FUb (by omega)) (by omega)
    refine ⟨n', h', by omega, ?_, K0.trans a3, a4.congr (fun P => ?_) (fun _ _ => rfl) (fun _ => rfl)⟩
    · rw [head, e53', show (-1 : Int32) + 1 = nI 0 by decide]
      exact a2
    · rw [ExtP.split nf]
      constructor
      · rintro (w | ⟨i, -, -, w | w⟩)
        · exact Or.inl w
        · exact Or.inr (Or.inl ⟨i, w⟩)
        · exact Or.inr (Or.inr w.2)
      · rintro (w | (⟨i, w⟩ | w))
        · exact Or.inl w
        · exact Or.inr ⟨i, by omega, by have := w.1.1; omega, Or.inl w⟩
        · exact Or.inr ⟨6, by omega, by omega, Or.inr ⟨rfl, w⟩⟩
end
