/-! ===== lay: the rows of a placing ===== -/
def rwP : List (List Nat) → Nat → List Nat
  | [], _ => []
  | l :: P, b => if b = P.length then l else rwP P b
section
variable {A : Nat → Nat → Nat → Bool} {N : Nat → Nat → Bool}
theorem rwP_in {b r : Nat} : ∀ {P : List (List Nat)}, r ∈ rwP P b → inP P r
  | [], h => absurd h (by simp [rwP])
  | l :: P, h => by
    rw [rwP] at h
    by_cases e : b = P.length
    · rw [if_pos e] at h
      exact inP_cons.mpr (Or.inl h)
    · rw [if_neg e] at h
      exact inP_cons.mpr (Or.inr (rwP_in h))
theorem rwP_hi {b : Nat} : ∀ {P : List (List Nat)}, P.length ≤ b → rwP P b = []
  | [], _ => rfl
  | l :: P, h => by
    simp only [List.length_cons] at h
    rw [rwP, if_neg (by omega)]
    exact rwP_hi (by omega)
theorem rwP_mem {r : Nat} : ∀ {P : List (List Nat)}, pOk A N P → inP P r → r ∈ rwP P (pB P r) ∧ pK P r = rPl (rwP P (pB P r)) r
  | [], _, h => absurd h (inP_nil r)
  | l :: P, ok, h => by
    rw [pB, pK]
    by_cases e : r ∈ l
    · rw [if_pos e, if_pos e, rwP, if_pos rfl]
      exact ⟨e, rfl⟩
    · have hi := (inP_cons.mp h).resolve_left e
      have ih := rwP_mem ok.2.2 hi
      rw [if_neg e, if_neg e, rwP]
      have : pB P r ≠ P.length := by
        intro w
        rw [w, rwP_hi (Nat.le_refl _)] at ih
        exact absurd ih.1 (by simp)
      rw [if_neg this]
      exact ih
theorem rwP_b {r b : Nat} : ∀ {P : List (List Nat)}, pOk A N P → r ∈ rwP P b → pB P r = b
  | [], _, h => absurd h (by simp [rwP])
  | l :: P, ok, h => by
    rw [rwP] at h
    rw [pB]
    by_cases e : b = P.length
    · rw [if_pos e] at h
      rw [if_pos h, e]
    · rw [if_neg e] at h
      rw [if_neg (fun w => ok.2.1 r w (rwP_in h))]
      exact rwP_b ok.2.2 h
theorem rwP_ok {b : Nat} : ∀ {P : List (List Nat)}, pOk A N P → rOk A N b (rwP P b)
  | [], _ => trivial
  | l :: P, ok => by
    rw [rwP]
    by_cases e : b = P.length
    · rw [if_pos e, e]; exact ok.1
    · rw [if_neg e]; exact rwP_ok ok.2.2
theorem rPl_sur {b k : Nat} : ∀ {l : List Nat}, rOk A N b l → k < l.length → ∃ r, r ∈ l ∧ rPl l r = k
  | [], _, h => absurd h (by simp)
  | q :: l, ok, h => by
    by_cases e : k = l.length
    · exact ⟨q, by simp, by rw [rPl, if_pos rfl, e]⟩
    · simp only [List.length_cons] at h
      obtain ⟨r, r1, r2⟩ := rPl_sur ok.2.2.2 (show k < l.length by omega)
      refine ⟨r, by simp [r1], ?_⟩
      rw [rPl, if_neg (by rintro rfl; exact ok.2.2.1 r1), r2]
theorem rPl_inj {b r r' : Nat} : ∀ {l : List Nat}, rOk A N b l → r ∈ l → r' ∈ l → rPl l r = rPl l r' → r = r'
  | [], _, h, _, _ => absurd h (by simp)
  | q :: l, ok, h, h', e => by
    rw [rPl, rPl] at e
    by_cases e1 : r = q
    · by_cases e2 : r' = q
      · rw [e1, e2]
      · rw [if_pos e1, if_neg e2] at e
        have := rPl_lt ((List.mem_cons.mp h').resolve_left e2)
        omega
    · by_cases e2 : r' = q
      · rw [if_neg e1, if_pos e2] at e
        have := rPl_lt ((List.mem_cons.mp h).resolve_left e1)
        omega
      · rw [if_neg e1, if_neg e2] at e
        exact rPl_inj ok.2.2.2 ((List.mem_cons.mp h).resolve_left e1) ((List.mem_cons.mp h').resolve_left e2) e
/-- what the placing tells of its rows -/
theorem Full.rows (hA : ∀ r b k, A r b k = true → k < 6) {s nb : Nat} (hs : s ≤ 6) {P : List (List Nat)} (F : Full A N s nb P) :
    (∀ r, r < s → pB P r < nb ∧ pK P r < (rwP P (pB P r)).length) ∧ (∀ b k, k < (rwP P b).length → ∃ r, r < s ∧ pB P r = b ∧ pK P r = k) ∧ (∀ r r', r < s → r' < s → pB P r = pB P r' → pK P r = pK P r' → r = r') ∧ (∀ b, cntB (fun r => decide (pB P r = b)) s = (rwP P b).length ∨ nb ≤ b) ∧ (∀ b, (rwP P b).length ≤ 6) ∧ (∀ b, 0 < (rwP P b).length → ∃ r, r < s ∧ A r b ((rwP P b).length - 1) = true) := by
  have ok := F.2.1
  have mem : ∀ r, r < s → r ∈ rwP P (pB P r) ∧ pK P r = rPl (rwP P (pB P r)) r := fun r hr => rwP_mem ok ((F.mem r).mpr hr)
  refine ⟨fun r hr => ?_, fun b k hk => ?_, fun r r' hr hr' e1 e2 => ?_, fun b => ?_, fun b => rOk_len A N hA (rwP_ok ok), fun b hl => ?_⟩
  · have := pB_lt A N hA ok ((F.mem r).mpr hr)
    rw [F.1] at this
    refine ⟨this.1, ?_⟩
    rw [(mem r hr).2]
    exact rPl_lt (mem r hr).1
  · obtain ⟨r, r1, r2⟩ := rPl_sur (rwP_ok ok) hk
    have rs := (F.mem r).mp (rwP_in r1)
    have rb := rwP_b ok r1
    refine ⟨r, rs, rb, ?_⟩
    rw [(mem r rs).2, rb, r2]
  · have m1 := mem r hr
    have m2 := mem r' hr'
    rw [e1] at m1
    exact rPl_inj (rwP_ok ok) m1.1 m2.1 (by rw [← m1.2, ← m2.2, e2])
  · by_cases hb : nb ≤ b
    · exact Or.inr hb
    · left
      have e : ∀ r, r < s → decide (pB P r = b) = (mkL (rwP P b)).testBit r := by
        intro r hr
        have : (mkL (rwP P b)).testBit r = true ↔ pB P r = b := by
          rw [mkL_bit]
          exact ⟨fun w => rwP_b ok w, fun w => by rw [← w]; exact (mem r hr).1⟩
        cases q : (mkL (rwP P b)).testBit r
        · exact decide_eq_false (fun w => by rw [this.mpr w] at q; exact absurd q (by decide))
        · exact decide_eq_true (this.mp q)
      have lt : ∀ r, r ∈ rwP P b → r < s := fun r hr => (F.mem r).mp (rwP_in hr)
      rw [← popc_len (rwP_ok (b := b) ok) (fun r hr => by have := lt r hr; omega), cntB_c (q := fun r => decide (pB P r = b)) (p := fun r => (mkL (rwP P b)).testBit r) s e]
      unfold popc
      have ext : ∀ k, s + k ≤ 8 → cntB (fun r => (mkL (rwP P b)).testBit r) (s + k) = cntB (fun r => (mkL (rwP P b)).testBit r) s := by
        intro k
        induction k with
        | zero => intro _; rfl
        | succ k ih =>
          intro hk
          have z : ¬ (mkL (rwP P b)).testBit (s + k) = true := fun w => by
            have := lt (s + k) ((mkL_bit _ _).mp w)
            omega
          rw [← Nat.add_assoc, cntB, ih (by omega), if_neg z, Nat.add_zero]
      have := ext (8 - s) (by omega)
      rw [show s + (8 - s) = 8 by omega] at this
      exact this.symm
  · cases q : rwP P b with
    | nil => rw [q] at hl; simp at hl
    | cons r l =>
      have ro := rwP_ok (b := b) ok
      rw [q] at ro
      refine ⟨r, (F.mem r).mp (rwP_in (by rw [q]; simp)), ?_⟩
      rw [List.length_cons, Nat.add_sub_cancel]
      exact ro.1
end
/-! ===== lay: the class ===== -/
def hLy (h : Hp) (f g : Nat → Int32) : Nat → Hp
  | 0 => h
  | j + 1 => wI (wI (hLy h f g j) 1 j 8 (f j)) 1 j 9 (g j)
theorem hLy_I (h : Hp) (f g : Nat → Int32) (t i k : Nat) : ∀ j, gI (hLy h f g j) t i k = if t = 1 ∧ i < j ∧ k = 9 then g i else if t = 1 ∧ i < j ∧ k = 8 then f i else gI h t i k
  | 0 => by
    rw [if_neg (by omega), if_neg (by omega)]
    rfl
  | j + 1 => by
    rw [hLy, xI_wI, xI_wI, hLy_I h f g t i k j]
    by_cases e1 : t = 1 ∧ i = j ∧ k = 9
    · rw [if_pos e1, if_pos (by omega), e1.2.1]
    · rw [if_neg e1]
      by_cases e2 : t = 1 ∧ i = j ∧ k = 8
      · rw [if_pos e2, if_neg (by omega), if_pos (by omega), e2.2.1]
      · rw [if_neg e2]
        by_cases e3 : t = 1 ∧ i < j ∧ k = 9
        · rw [if_pos e3, if_pos (by omega)]
        · rw [if_neg e3, if_neg (c := t = 1 ∧ i < j + 1 ∧ k = 9) (by omega)]
          by_cases e4 : t = 1 ∧ i < j ∧ k = 8
          · rw [if_pos e4, if_pos (by omega)]
          · rw [if_neg e4, if_neg (by omega)]
theorem hLy_F (h : Hp) (f g : Nat → Int32) : ∀ j, gN (hLy h f g j) = gN h ∧ gP (hLy h f g j) = gP h ∧ gL (hLy h f g j) = gL h ∧ MP (hLy h f g j) h ∧ Fr h (hLy h f g j)
  | 0 => ⟨rfl, rfl, rfl, fun _ _ => rfl, Fr.rfl' h⟩
  | j + 1 => by
    have q := hLy_F h f g j
    rw [hLy]
    exact ⟨q.1, q.2.1, q.2.2.1, (MP.w rfl).trans ((MP.w rfl).trans q.2.2.2.1), q.2.2.2.2.trans ((Fr.w rfl).trans (Fr.w rfl))⟩
def chg (h : Hp) (f g : Nat → Int32) (i : Nat) : Int32 := if ¬ gI h 1 i 8 = -1 ∧ ¬ (gI h 1 i 8 = f i ∧ gI h 1 i 9 = g i) then 1 else 0
theorem L_layC {h : Hp} (R : Rel h) {m : Nat} (hm : m < 2 ^ gN h 1) (f g : Nat → Int32) (yes : ∀ i, i < gN h 1 → m.testBit i = true → ∀ h', gL h' 4 0 7 = gL h 4 0 7 → f_X4_berthFor (nI m) (nI i) h' = some (f i) ∧ f_X4_placeFor (nI m) (nI i) h' = some (g i)) (no : ∀ i, i < gN h 1 → ¬ m.testBit i = true → f i = -1 ∧ g i = -1) : ∀ (k n j : Nat) (acc : Int32), j + k = gN h 1 → k < n →
    fL_X7_layAnew_4 n (nI m) acc (nI j) (hLy h f g j) = some (acc + (sm (chg h f g) (gN h 1) - sm (chg h f g) j), hLy h f g (gN h 1)) := by
  have hT := R.t8
  have m256 := R.m256 hm
  have bo : ∀ x j, f_X5_boatOf x (hLy h f g j) = f_X5_boatOf x h := fun x j => by
    unfold f_X5_boatOf
    rw [(hLy_F h f g j).2.1]
  intro k
  induction k with
  | zero =>
    intro n j acc hj hn
    obtain ⟨n, rfl⟩ : ∃ k, n = k + 1 := ⟨n - 1, by omega⟩
    obtain rfl : j = gN h 1 := by omega
    rw [Int32.sub_self, Int32.add_zero, fL_X7_layAnew_4]
    by_cases q : gN h 1 = 8
    · rw [if_pos (by rw [q]; decide)]
    · rw [if_neg (fun w => by have := (nIl (n := 8) (by omega) (by omega)).mp w; omega), bo, e_boatOf R, R.nt, if_neg (fun w => Int32.lt_irrefl w.2), bnd_some]
  | succ k ih =>
    intro n j acc hj hn
    obtain ⟨n, rfl⟩ : ∃ k, n = k + 1 := ⟨n - 1, by omega⟩
    have hjt : j < gN h 1 := by omega
    have i1 := fun acc => ih n (j + 1) acc (by omega) (by omega)
    have e1 : sm (chg h f g) (j + 1) = sm (chg h f g) j + chg h f g j := rfl
    have b1 : f_X5_boatOf (nI j) h = some (some j) := by
      rw [e_boatOf R, R.nt, if_pos ⟨(nIr (n := j) (k := 8) (by omega) (by omega)).1, (nI_ltI (by omega) (by omega)).mpr hjt⟩, nI_clamp (by omega)]
    have g8 : gI (hLy h f g j) 1 j 8 = gI h 1 j 8 := by rw [hLy_I, if_neg (by omega), if_neg (by omega)]
    have g9 : gI (hLy h f g j) 1 j 9 = gI h 1 j 9 := by rw [hLy_I, if_neg (by omega), if_neg (by omega)]
    have J106 : ∀ acc, fJ_X7_layAnew_106 (fL_X7_layAnew_4 n) (nI m) acc (nI j) j (f j) (g j) (hLy h f g j) = some (acc + (sm (chg h f g) (gN h 1) - sm (chg h f g) (j + 1)), hLy h f g (gN h 1)) := by
      intro acc
      unfold fJ_X7_layAnew_106 f_X1_layAt
      rw [bnd_some, nI_s]
      have := i1 acc
      rw [hLy] at this
      exact this
    have J73 : fJ_X7_layAnew_73 (fL_X7_layAnew_4 n) (nI m) acc (nI j) j (f j) (g j) (hLy h f g j) = some (acc + (sm (chg h f g) (gN h 1) - sm (chg h f g) j), hLy h f g (gN h 1)) := by
      unfold fJ_X7_layAnew_73 fJ_X7_layAnew_103
      rw [e_lying, bnd_some, g8, g9, J106, J106, e1]
      unfold chg
      by_cases l : gI h 1 j 8 = -1
      · rw [decide_eq_false (fun w => w l), if_neg (by decide), if_neg (fun w => w.1 l), Int32.add_zero]
      · rw [decide_eq_true l, if_pos rfl]
        by_cases q1 : gI h 1 j 8 = f j
        · rw [if_pos q1]
          by_cases q2 : gI h 1 j 9 = g j
          · rw [if_pos q2, if_neg (fun w => w.2 ⟨q1, q2⟩), Int32.add_zero]
          · rw [if_neg q2, if_pos ⟨l, fun w => q2 w.2⟩, ac1]
        · rw [if_neg q1, if_pos ⟨l, fun w => q1 w.1⟩, ac1]
    rw [fL_X7_layAnew_4, if_neg (fun w => by have := (nIl (n := 8) (by omega) (by omega)).mp w; omega), bo, b1, bnd_some]
    simp only []
    rw [inSet m256 (by omega), bnd_some]
    by_cases tb : m.testBit j = true
    · obtain ⟨y1, y2⟩ := yes j hjt tb (hLy h f g j) (by rw [(hLy_F h f g j).2.2.1])
      rw [tb, if_neg (show ¬ bi true = 0 by decide), y1, bnd_some]
      unfold fJ_X7_layAnew_53
      rw [if_neg (show ¬ bi true = 0 by decide), y2, bnd_some]
      exact J73
    · obtain ⟨n1, n2⟩ := no j hjt tb
      have tf : m.testBit j = false := by simpa using tb
      rw [tf, if_pos (show bi false = 0 by decide)]
      unfold fJ_X7_layAnew_53
      rw [if_pos (show bi false = 0 by decide)]
      rw [n1, n2] at J73
      exact J73
