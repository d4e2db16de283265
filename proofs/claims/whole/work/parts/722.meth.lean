/-! ===== the search: pairs with one more, and the end of a placing ===== -/
section
variable (A : Nat → Nat → Nat → Bool) (N V : Nat → Nat → Bool) (s nb : Nat) (bo : Nat → Nat)
/-- what the search reads of the quay -/
def Lk (h : Hp) : Prop := gI h 8 0 0 = nI nb ∧ gI h 8 0 31 = nI s ∧ (∀ r, r < s → gI h 52 0 r = nI (bo r) ∧ bo r < 8) ∧ (∀ r b k, r < s → b < nb → k < 7 → (wA h (bo r) b (nI k) = 0 ↔ A r b k = true)) ∧ (∀ r q, r < s → q < s → (wN2 h (bo r) (bo q) = 0 ↔ N r q = true)) ∧ (∀ q r, q < s → r < s → (gI h 39 0 (bo r) ≤ gI h 38 0 (bo q) ↔ V q r = false))
theorem Lk.fs {A N V s nb bo} {h h' : Hp} (L : Lk A N V s nb bo h) (F : Fs h h') : Lk A N V s nb bo h' := by
  obtain ⟨f0, f1, f2⟩ := F
  unfold Lk wA wN2 at *
  rw [f2 0 (by omega), f2 31 (by omega), f2 5 (by omega), f1 52 (by omega) (by omega), f1 30 (by omega) (by omega), f1 31 (by omega) (by omega), f1 32 (by omega) (by omega), f1 33 (by omega) (by omega), f1 34 (by omega) (by omega), f1 35 (by omega) (by omega), f1 36 (by omega) (by omega), f1 37 (by omega) (by omega), f1 38 (by omega) (by omega), f1 39 (by omega) (by omega)]
  exact L
end
theorem wR_0 (h : Hp) (i b : Nat) (x : Int32) (o : Option Nat) : wR h i b x o = 0 ↔ wA h i b x = 0 ∧ ∀ q, o = some q → wN2 h i q = 0 := by
  unfold wR
  by_cases a : wA h i b x = 0
  · rw [if_pos a]
    cases o with
    | none => simp [a]
    | some q => simp [a]
  · rw [if_neg a]
    exact ⟨fun e => absurd e a, fun e => absurd e.1 a⟩
section
variable {A : Nat → Nat → Nat → Bool} {N V : Nat → Nat → Bool} {s nb : Nat} {bo : Nat → Nat} {h : Hp}
theorem L_pw (L : Lk A N V s nb bo h) (hs : s ≤ 6) {t i : Nat} (ht : t < 10) (hi : i < s) : ∀ (l : List Nat) (j acc n : Nat), (∀ j' q, l[j']? = some q → gI h 53 0 (t - 1 - (j + j')) = nI q ∧ q < s) → j + l.length ≤ t → l.length < n →
    fL_X8_pairsWith_65 h n (nI t) (nI i) (nI (j + l.length)) (nI acc) (nI (j + 1)) = some (nI (acc + cV V i l)) := by
  intro l
  induction l with
  | nil =>
    intro j acc n _ hj hn
    obtain ⟨n, rfl⟩ : ∃ k, n = k + 1 := ⟨n - 1, by omega⟩
    rw [fL_X8_pairsWith_65, if_pos ((nI_ltI (by simp; omega) (by omega)).mpr (by simp)), cV]
    rfl
  | cons q l ih =>
    intro j acc n st hj hn
    simp only [List.length_cons] at hj hn
    obtain ⟨n, rfl⟩ : ∃ k, n = k + 1 := ⟨n - 1, by omega⟩
    obtain ⟨e53, hq⟩ := st 0 q (by simp)
    rw [Nat.add_zero] at e53
    have a1 : 0 ≤ nI (t - (j + 1)) ∧ nI (t - (j + 1)) < 10 := nIr (k := 10) (by omega) (by omega)
    have a2 : 0 ≤ nI q ∧ nI q < 6 := nIr (k := 6) (by omega) (by omega)
    have a3 : 0 ≤ nI i ∧ nI i < 6 := nIr (k := 6) (by omega) (by omega)
    obtain ⟨bq, bq8⟩ := L.2.2.1 q hq
    obtain ⟨bi, bi8⟩ := L.2.2.1 i hi
    have a4 : 0 ≤ nI (bo q) ∧ nI (bo q) < 8 := nIr (k := 8) (by omega) (by omega)
    have a5 : 0 ≤ nI (bo i) ∧ nI (bo i) < 8 := nIr (k := 8) (by omega) (by omega)
    have lv := L.2.2.2.2.2 q i hq hi
    have nx : ∀ acc', fL_X8_pairsWith_65 h n (nI t) (nI i) (nI (j + (l.length + 1))) (nI acc') (nI (j + 1 + 1)) = some (nI (acc' + cV V i l)) := by
      intro acc'
      have := ih (j + 1) acc' n (fun j' q' hq' => by
        have := st (j' + 1) q' (by simpa using hq')
        rw [show j + 1 + j' = j + (j' + 1) by omega]
        exact this) (by omega) (by omega)
      rw [show j + (l.length + 1) = j + 1 + l.length by omega]
      exact this
    rw [List.length_cons, fL_X8_pairsWith_65, if_neg (fun w => by have := (nI_ltI (by omega) (by omega)).mp w; omega), nI_sub (by omega), if_pos a1, nI_clamp (n := t - (j + 1)) (by omega), show t - (j + 1) = t - 1 - j by omega, e53, if_pos a2, if_pos a3, nI_clamp (n := q) (by omega), nI_clamp (n := i) (by omega), bq, bi]
    unfold f_X8_movesMaybe
    rw [if_pos a4, if_pos a5, nI_clamp (n := bo q) (by omega), nI_clamp (n := bo i) (by omega), nI_s acc, nI_s (j + 1)]
    by_cases v : V q i = true
    · rw [if_neg (fun w => by rw [lv.mp w] at v; exact absurd v (by decide)), bnd_some, if_pos rfl, nx, cV, if_pos v]
      congr 2
      omega
    · rw [if_pos (lv.mpr (by simpa using v)), bnd_some, if_neg (by decide), Int32.add_zero, nx, cV, if_neg v]
      rfl
theorem m_pairsWith (L : Lk A N V s nb bo h) (hs : s ≤ 6) (hb4 : nb ≤ 4) {t i b : Nat} {l : List Nat} (ht : t < 10) (hi : i < s) (hb : b < nb) (hl : l.length ≤ t) (hl7 : l.length < 7) (e54 : gI h 54 0 t = nI b) (e55 : gI h 55 0 t = nI l.length)
    (st : ∀ j q, l[j]? = some q → gI h 53 0 (t - 1 - j) = nI q ∧ q < s) :
    ((A i b l.length = true ∧ ∀ q, l.head? = some q → N i q = true) → f_X8_pairsWith (nI t) (nI i) h = some (nI (cV V i l))) ∧
    (¬ (A i b l.length = true ∧ ∀ q, l.head? = some q → N i q = true) → f_X8_pairsWith (nI t) (nI i) h = some (-1)) := by
  have a11 : 0 ≤ nI t ∧ nI t < 11 := nIr (k := 11) (by omega) (by omega)
  have ct : (nI t).toNatClampNeg = t := nI_clamp (by omega)
  have a3 : 0 ≤ nI i ∧ nI i < 6 := nIr (k := 6) (by omega) (by omega)
  obtain ⟨bi, bi8⟩ := L.2.2.1 i hi
  have lA := L.2.2.2.1 i b l.length hi hb hl7
  have lp := L_pw L hs ht hi l 0 0 FU (fun j' q hq => by rw [Nat.zero_add]; exact st j' q hq) (by omega) (FUb (by omega))
  rw [Nat.zero_add, Nat.zero_add, Nat.zero_add] at lp
  have J : ∀ y : Int32, (nI l.length ≠ 0 → 0 ≤ y ∧ y < 8) → (∀ q, (if nI l.length = 0 then none else some y.toNatClampNeg) = some q → ∃ q', l.head? = some q' ∧ q = bo q' ∧ q' < s) → (∀ q', l.head? = some q' → (if nI l.length = 0 then none else some y.toNatClampNeg) = some (bo q') ∧ q' < s) →
      ((A i b l.length = true ∧ ∀ q, l.head? = some q → N i q = true) → fJ_X8_pairsWith_37 h (nI t) (nI i) (nI b) (nI l.length) y = some (nI (cV V i l))) ∧ (¬ (A i b l.length = true ∧ ∀ q, l.head? = some q → N i q = true) → fJ_X8_pairsWith_37 h (nI t) (nI i) (nI b) (nI l.length) y = some (-1)) := by
    intro y hy h1 h2
    unfold fJ_X8_pairsWith_37
    rw [if_pos a3, nI_clamp (n := i) (by omega), bi, m_why bi8 (show b < 4 by omega) (nI l.length) y hy h, bnd_some]
    have key : wR h (bo i) b (nI l.length) (if nI l.length = 0 then none else some y.toNatClampNeg) = 0 ↔ (A i b l.length = true ∧ ∀ q, l.head? = some q → N i q = true) := by
      rw [wR_0, lA]
      constructor
      · rintro ⟨k1, k2⟩
        refine ⟨k1, fun q' e => ?_⟩
        have := h2 q' e
        exact (L.2.2.2.2.1 i q' hi this.2).mp (k2 _ this.1)
      · rintro ⟨k1, k2⟩
        refine ⟨k1, fun q e => ?_⟩
        obtain ⟨q', e1, e2, e3⟩ := h1 q e
        rw [e2]
        exact (L.2.2.2.2.1 i q' hi e3).mpr (k2 q' e1)
    refine ⟨fun k => ?_, fun k => ?_⟩
    · rw [if_pos (key.mpr k)]
      exact lp
    · rw [if_neg (fun w => k (key.mp w))]
  unfold f_X8_pairsWith
  rw [if_pos a11, if_pos a11, ct, e54, e55]
  cases l with
  | nil =>
    have z : nI ([] : List Nat).length = 0 := rfl
    rw [if_pos z]
    refine J (-1) (fun w => absurd z w) (fun q e => ?_) (fun q' e => ?_)
    · rw [if_pos z] at e
      exact absurd e (by simp)
    · exact absurd e (by simp)
  | cons q l =>
    have z : ¬ nI (q :: l).length = 0 := nI_ne0 (by simp) (by omega)
    obtain ⟨e53, hq⟩ := st 0 q (by simp)
    rw [Nat.sub_zero] at e53
    obtain ⟨bq, bq8⟩ := L.2.2.1 q hq
    simp only [List.length_cons] at hl
    rw [if_neg z, show (1 : Int32) = nI 1 from rfl, nI_sub (by omega), if_pos (show 0 ≤ nI (t - 1) ∧ nI (t - 1) < 10 from nIr (k := 10) (by omega) (by omega)), nI_clamp (n := t - 1) (by omega), e53, if_pos (show 0 ≤ nI q ∧ nI q < 6 from nIr (k := 6) (by omega) (by omega)), nI_clamp (n := q) (by omega), bq]
    refine J (nI (bo q)) (fun _ => nIr (k := 8) (by omega) (by omega)) (fun q2 e => ?_) (fun q' e => ?_)
    · rw [if_neg z, nI_clamp (by omega)] at e
      cases e
      exact ⟨q, rfl, rfl, hq⟩
    · cases e
      rw [if_neg z, nI_clamp (by omega)]
      exact ⟨rfl, hq⟩
end
/-! ===== the end of a placing ===== -/
theorem L_e4 {h : Hp} {s : Nat} (hs : s ≤ 6) (e31 : gI h 8 0 31 = nI s) {f : Nat → Nat} (ef : ∀ r, r < s → gI h 58 0 r = nI (f r)) (x1 : Int32) : ∀ (m n j : Nat), j + m = s → m < n → fL_X8_ends_4 n x1 (nI (ky f j)) (nI j) h = fL_X8_ends_4 1 x1 (nI (ky f s)) (nI s) h := by
  intro m
  induction m with
  | zero =>
    intro n j hj hn
    obtain ⟨n, rfl⟩ : ∃ k, n = k + 1 := ⟨n - 1, by omega⟩
    obtain rfl : j = s := by omega
    rw [fL_X8_ends_4, fL_X8_ends_4, e31, if_pos (Int32.le_refl _), if_pos (Int32.le_refl _)]
  | succ m ih =>
    intro n j hj hn
    obtain ⟨n, rfl⟩ : ∃ k, n = k + 1 := ⟨n - 1, by omega⟩
    rw [fL_X8_ends_4, e31, if_neg (fun w => by have := (nIl (by omega) (by omega)).mp w; omega), if_pos (show 0 ≤ nI j ∧ nI j < 6 from nIr (k := 6) (by omega) (by omega)), nI_clamp (by omega), ef j (by omega), nI_s, nq24, pk_mul, nI_add]
    exact ih n (j + 1) (by omega) (by omega)
theorem L_e78 {g : Hp} {s : Nat} (hs : s ≤ 6) (e31 : gI g 8 0 31 = nI s) : ∀ (m n j : Nat), j + m = s → m < n → fL_X8_ends_78 n (nI j) (hV g 59 0 0 (fun r => gI g 58 0 r) j) = some (hV g 59 0 0 (fun r => gI g 58 0 r) s) := by
  have f31 : ∀ j, gI (hV g 59 0 0 (fun r => gI g 58 0 r) j) 8 0 31 = nI s := fun j => by rw [hV_I, if_neg (by omega), e31]
  have f58 : ∀ j c, gI (hV g 59 0 0 (fun r => gI g 58 0 r) j) 58 0 c = gI g 58 0 c := fun j c => by rw [hV_I, if_neg (by omega)]
  intro m
  induction m with
  | zero =>
    intro n j hj hn
    obtain ⟨n, rfl⟩ : ∃ k, n = k + 1 := ⟨n - 1, by omega⟩
    obtain rfl : j = s := by omega
    rw [fL_X8_ends_78, f31, if_pos (Int32.le_refl _)]
  | succ m ih =>
    intro n j hj hn
    obtain ⟨n, rfl⟩ : ∃ k, n = k + 1 := ⟨n - 1, by omega⟩
    have a6 : 0 ≤ nI j ∧ nI j < 6 := nIr (k := 6) (by omega) (by omega)
    rw [fL_X8_ends_78, f31, if_neg (fun w => by have := (nIl (by omega) (by omega)).mp w; omega), if_pos a6, if_pos a6, nI_clamp (by omega), f58, nI_s]
    have := ih n (j + 1) (by omega) (by omega)
    rw [hV, Nat.zero_add] at this
    exact this
def enH (h : Hp) (p k s : Nat) : Hp := hV (wI (wI (wI h 8 0 38 1) 8 0 39 (nI p)) 8 0 40 (nI k)) 59 0 0 (fun r => gI (wI (wI (wI h 8 0 38 1) 8 0 39 (nI p)) 8 0 40 (nI k)) 58 0 r) s
theorem enH_I (h : Hp) (p k s : Nat) (t i c : Nat) : gI (enH h p k s) t i c = if t = 59 ∧ i = 0 ∧ c < s then gI h 58 0 c else if t = 8 ∧ i = 0 ∧ c = 40 then nI k else if t = 8 ∧ i = 0 ∧ c = 39 then nI p else if t = 8 ∧ i = 0 ∧ c = 38 then 1 else gI h t i c := by
  unfold enH
  have g58 : ∀ r, gI (wI (wI (wI h 8 0 38 1) 8 0 39 (nI p)) 8 0 40 (nI k)) 58 0 r = gI h 58 0 r := fun r => by rw [xI_wI, if_neg (by omega), xI_wI, if_neg (by omega), xI_wI, if_neg (by omega)]
  rw [hV_I, g58, xI_wI, xI_wI, xI_wI]
  by_cases q : t = 59 ∧ i = 0 ∧ c < s
  · rw [if_pos (by omega), if_pos q, Nat.sub_zero]
  · rw [if_neg (by omega), if_neg q]
theorem hV_Fs (h : Hp) (i o : Nat) (f : Nat → Int32) : ∀ m, Fs h (hV h 59 i o f m)
  | 0 => Fs.rfl' h
  | m + 1 => by
    rw [hV]
    exact (hV_Fs h i o f m).trans (Fs.w rfl)
theorem enH_F (h : Hp) (p k s : Nat) : Fs h (enH h p k s) := ((Fs.w (t := 8) (k := 38) rfl).trans ((Fs.w (t := 8) (k := 39) rfl).trans (Fs.w (t := 8) (k := 40) rfl))).trans (hV_Fs _ 0 0 _ s)
theorem m_ends {h : Hp} {s p : Nat} (hs : s ≤ 6) (e31 : gI h 8 0 31 = nI s) {f : Nat → Nat} (ef : ∀ r, r < s → gI h 58 0 r = nI (f r)) :
    f_X8_ends (nI p) h = if gI h 8 0 38 = 0 then some (enH h p (ky f s) s) else if nI p < gI h 8 0 39 then some (enH h p (ky f s) s) else if nI p = gI h 8 0 39 then (if gI h 8 0 40 ≤ nI (ky f s) then some h else some (enH h p (ky f s) s)) else some h := by
  have J : fJ_X8_ends_61 (nI p) (nI (ky f s)) h = some (enH h p (ky f s) s) := by
    unfold fJ_X8_ends_61
    exact L_e78 (g := wI (wI (wI h 8 0 38 1) 8 0 39 (nI p)) 8 0 40 (nI (ky f s))) hs (by rw [xI_wI, if_neg (by omega), xI_wI, if_neg (by omega), xI_wI, if_neg (by omega), e31]) s FU 0 (by omega) (FUb (by omega))
  have E := L_e4 hs e31 ef (nI p) s FU 0 (by omega) (FUb (by omega))
  have E2 : f_X8_ends (nI p) h = fL_X8_ends_4 1 (nI p) (nI (ky f s)) (nI s) h := E
  rw [E2, fL_X8_ends_4, e31, if_pos (Int32.le_refl _), J]
/-- the best of the placings seen so far -/
def Bst (A : Nat → Nat → Nat → Bool) (N V : Nat → Nat → Bool) (s nb : Nat) (S : List (List Nat) → Prop) (h : Hp) : Prop :=
  (gI h 8 0 38 = 0 ∧ ∀ P, ¬ S P) ∨ (gI h 8 0 38 = 1 ∧ ∃ P, S P ∧ Full A N s nb P ∧ gI h 8 0 39 = nI (pPr V P) ∧ gI h 8 0 40 = nI (ky (s6 P) s) ∧ (∀ r, r < s → gI h 59 0 r = nI (s6 P r)) ∧ ∀ P', S P' → pCo V P ≤ pCo V P')
theorem Bst.congr {A N V s nb} {S S' : List (List Nat) → Prop} {h h' : Hp} (B : Bst A N V s nb S h) (hS : ∀ P, S P ↔ S' P) (e8 : ∀ c, 38 ≤ c → gI h' 8 0 c = gI h 8 0 c) (e59 : ∀ r, gI h' 59 0 r = gI h 59 0 r) : Bst A N V s nb S' h' := by
  rcases B with ⟨b1, b2⟩ | ⟨b1, P, b2, b3, b4, b5, b6, b7⟩
  · exact Or.inl ⟨by rw [e8 38 (by omega)]; exact b1, fun P q => b2 P ((hS P).mpr q)⟩
  · exact Or.inr ⟨by rw [e8 38 (by omega)]; exact b1, P, (hS P).mp b2, b3, by rw [e8 39 (by omega)]; exact b4, by rw [e8 40 (by omega)]; exact b5, fun r hr => by rw [e59]; exact b6 r hr, fun P' q => b7 P' ((hS P').mpr q)⟩
theorem Full.s6lt {A : Nat → Nat → Nat → Bool} {N : Nat → Nat → Bool} (hA : ∀ r b k, A r b k = true → k < 6) {s nb : Nat} (hb : nb ≤ 4) {P : List (List Nat)} (hP : Full A N s nb P) {r : Nat} (hr : r < s) : s6 P r < 24 := by
  have := pB_lt A N hA hP.2.1 ((hP.mem r).mpr hr)
  rw [hP.1] at this
  unfold s6
  omega
theorem ends_B {A : Nat → Nat → Nat → Bool} {N V : Nat → Nat → Bool} (hA : ∀ r b k, A r b k = true → k < 6) {s nb : Nat} (hs : s ≤ 6) (hb : nb ≤ 4) {S : List (List Nat) → Prop} {h : Hp} (e31 : gI h 8 0 31 = nI s) (B : Bst A N V s nb S h) {P0 : List (List Nat)} (hP : Full A N s nb P0) (e58 : ∀ r, r < s → gI h 58 0 r = nI (s6 P0 r)) :
    ∃ h', f_X8_ends (nI (pPr V P0)) h = some h' ∧ Bst A N V s nb (fun P => S P ∨ P = P0) h' ∧ Fs h h' ∧ ∀ t, t ≠ 8 → t ≠ 59 → gI h' t = gI h t := by
  have E := m_ends (p := pPr V P0) hs e31 e58
  have new : (∀ P', S P' → pCo V P0 ≤ pCo V P') → Bst A N V s nb (fun P => S P ∨ P = P0) (enH h (pPr V P0) (ky (s6 P0) s) s) := by
    intro mn
    refine Or.inr ⟨?_, P0, Or.inr rfl, hP, ?_, ?_, fun r hr => ?_, fun P' q => ?_⟩
    · rw [enH_I, if_neg (by omega), if_neg (by omega), if_neg (by omega), if_pos ⟨rfl, rfl, rfl⟩]
    · rw [enH_I, if_neg (by omega), if_neg (by omega), if_pos ⟨rfl, rfl, rfl⟩]
    · rw [enH_I, if_neg (by omega), if_pos ⟨rfl, rfl, rfl⟩]
    · rw [enH_I, if_pos ⟨rfl, rfl, hr⟩, e58 r hr]
    · rcases q with q | q
      · exact mn P' q
      · rw [q]; exact Nat.le_refl _
  have fr : ∀ t, t ≠ 8 → t ≠ 59 → gI (enH h (pPr V P0) (ky (s6 P0) s) s) t = gI h t := fun t h1 h2 => by
    funext i c
    rw [enH_I, if_neg (fun w => h2 w.1), if_neg (fun w => h1 w.1), if_neg (fun w => h1 w.1), if_neg (fun w => h1 w.1)]
  rcases B with ⟨b1, b2⟩ | ⟨b1, P, b2, b3, b4, b5, b6, b7⟩
  · rw [if_pos b1] at E
    exact ⟨_, E, new (fun P' q => absurd q (b2 P')), enH_F h _ _ _, fr⟩
  · rw [if_neg (by rw [b1]; decide), b4, b5] at E
    have cmp := Full.cmp (V := V) hA hs hb hP b3
    have p1 := (Full.dec (V := V) hA hs hb hP).2.1
    have p2 := (Full.dec (V := V) hA hs hb b3).2.1
    have k1 := ky_lt (f := s6 P0) s (fun r hr => hP.s6lt hA hb hr)
    have k2 := ky_lt (f := s6 P) s (fun r hr => b3.s6lt hA hb hr)
    have kb : 24 ^ s ≤ 191102976 := by
      have : 24 ^ s ≤ 24 ^ 6 := Nat.pow_le_pow_right (by omega) hs
      exact this
    have old : pCo V P ≤ pCo V P0 → Bst A N V s nb (fun P => S P ∨ P = P0) h := by
      intro le
      refine Or.inr ⟨b1, P, Or.inl b2, b3, b4, b5, b6, fun P' q => ?_⟩
      rcases q with q | q
      · exact b7 P' q
      · rw [q]; exact le
    by_cases c : pCo V P0 < pCo V P
    · have E' : f_X8_ends (nI (pPr V P0)) h = some (enH h (pPr V P0) (ky (s6 P0) s) s) := by
        rw [E]
        rcases cmp.mpr c with w | ⟨w1, w2⟩
        · rw [if_pos ((nI_ltI (by omega) (by omega)).mpr w)]
        · rw [if_neg (fun w => by have := (nI_ltI (by omega) (by omega)).mp w; omega), if_pos (by rw [w1]), if_neg (fun w => by have := (nIl (by omega) (by omega)).mp w; omega)]
      exact ⟨_, E', new (fun P' q => by have := b7 P' q; omega), enH_F h _ _ _, fr⟩
    · have E' : f_X8_ends (nI (pPr V P0)) h = some h := by
        rw [E]
        have n1 : ¬ pPr V P0 < pPr V P := fun w => c (cmp.mp (Or.inl w))
        rw [if_neg (fun w => n1 ((nI_ltI (by omega) (by omega)).mp w))]
        by_cases e : pPr V P0 = pPr V P
        · have n2 : ¬ ky (s6 P0) s < ky (s6 P) s := fun w => c (cmp.mp (Or.inr ⟨e, w⟩))
          rw [if_pos (by rw [e]), if_pos ((nIl (by omega) (by omega)).mpr (by omega))]
        · rw [if_neg (fun w => e ((nI_eq (by omega) (by omega)).mp w))]
      exact ⟨h, E', old (by omega), Fs.rfl' h, fun _ _ _ => rfl⟩
