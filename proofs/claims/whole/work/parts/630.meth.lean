/-! ===== the calls, one by one: the class and the reference answer alike, and the relation holds on ===== -/
/-- hours late and times moved stay small, by the number of calls -/
def Bd (n : Nat) (h : Hp) : Prop := ∀ i, i < 8 → (0 ≤ gI h 41 0 i ∧ gI h 41 0 i ≤ nI (24 * n)) ∧ (0 ≤ gI h 42 0 i ∧ gI h 42 0 i ≤ nI (200 * n))
def Gr (h h2 : Hp) : Prop := ∀ n, n < 1000 → Bd n h → Bd (n + 1) h2
theorem Gr.same {h h2 : Hp} (e41 : ∀ i, gI h2 41 0 i = gI h 41 0 i) (e42 : ∀ i, gI h2 42 0 i = gI h 42 0 i) : Gr h h2 := by
  intro n hn B i hi
  have := B i hi
  rw [e41, e42]
  grind [nI_ti]
def Pm (h : Hp) (fC fM : Hp → Option (Int32 × Hp)) : Prop := ∃ v h1 h2, fC h = some (v, h1) ∧ fM h1 = some (v, h2) ∧ Rel h2 ∧ Gr h h2
theorem Pm.mk {h : Hp} {fC fM : Hp → Option (Int32 × Hp)} {v : Int32} {h1 h2 : Hp} (e1 : fC h = some (v, h1)) (e2 : fM h1 = some (v, h2)) (R2 : Rel h2) (e41 : ∀ i, gI h2 41 0 i = gI h 41 0 i) (e42 : ∀ i, gI h2 42 0 i = gI h 42 0 i) : Pm h fC fM := ⟨v, h1, h2, e1, e2, R2, Gr.same e41 e42⟩
abbrev hcF (h : Hp) : Hp := wI h 7 0 5 (gI h 7 0 5 + 1)
theorem c_find {c : Int32} (hc : c < -1000000) (h : Hp) : f_X7_counted c h = some (c, hcF h) := by
  unfold f_X7_counted
  rw [if_neg (by grind)]
theorem c_same {c : Int32} (hc : ¬ c < -1000000) (h : Hp) : f_X7_counted c h = some (c, h) := by
  unfold f_X7_counted
  rw [if_pos (by grind)]
theorem Rel.fd {h : Hp} (R : Rel h) : Rel (wI (hcF h) 8 0 30 (gI (hcF h) 8 0 30 + 1)) := by
  obtain ⟨a, b, c, d, ⟨e1, e2, e3, e4, e5, e6⟩, f, g, i⟩ := R
  exact ⟨a, b, c, d, ⟨e1, e2, e3, e4, congrArg (· + 1) e5, e6⟩, f, g, i⟩
theorem Pm.find {h : Hp} (R : Rel h) {fC fM : Hp → Option (Int32 × Hp)} (c : Int32) (e1 : fC h = some (c, hcF h)) (e2 : fM (hcF h) = f_X8_finding c (hcF h)) : Pm h fC fM := Pm.mk e1 (e2.trans rfl) R.fd (fun _ => rfl) (fun _ => rfl)
theorem Rel.rmF {h : Hp} (R : Rel h) : RM (gN h 0) (gN h 1) (hcF h) := R.rm.congr rfl rfl (fun _ => rfl) (fun _ => rfl)
theorem Rel.nb {h : Hp} (R : Rel h) : gI h 8 0 0 = nI (gN h 0) := R.1.2.2.2.2.2.2.1
theorem Rel.nt {h : Hp} (R : Rel h) : gI h 8 0 6 = nI (gN h 1) := R.1.2.2.2.2.2.2.2.2
theorem Rel.b4 {h : Hp} (R : Rel h) : gN h 0 ≤ 4 := R.1.1
theorem Rel.t8 {h : Hp} (R : Rel h) : gN h 1 ≤ 8 := R.1.2.1
theorem Rel.boa {h : Hp} (R : Rel h) {i : Nat} (hi : i < gN h 1) : gI h 1 i 0 = nI i ∧ gI h 1 i 1 = gI h 34 0 i ∧ gI h 1 i 2 = gI h 35 0 i ∧ gI h 1 i 3 = gI h 36 0 i ∧ gI h 1 i 4 = gI h 37 0 i ∧ gI h 1 i 5 = gI h 38 0 i ∧ gI h 1 i 6 = gI h 39 0 i ∧ gI h 1 i 7 = gI h 40 0 i ∧ gI h 1 i 10 = gI h 41 0 i ∧ gI h 1 i 11 = gI h 42 0 i ∧ (0 ≤ gI h 34 0 i ∧ gI h 34 0 i ≤ 3) ∧ (1 ≤ gI h 35 0 i ∧ gI h 35 0 i ≤ 40) ∧ (0 ≤ gI h 36 0 i ∧ gI h 36 0 i ≤ 99) ∧ (gI h 37 0 i = 0 ∨ gI h 37 0 i = 1) ∧ (0 ≤ gI h 38 0 i ∧ gI h 38 0 i ≤ gI h 39 0 i ∧ gI h 39 0 i ≤ 23) ∧ (0 ≤ gI h 40 0 i ∧ gI h 40 0 i ≤ 16777215) := R.2.2.1.1 i hi
theorem Rel.ber {h : Hp} (R : Rel h) {b : Nat} (hb : b < gN h 0) : gI h 0 b 0 = gI h 30 0 b ∧ gI h 0 b 1 = gI h 31 0 b ∧ gI h 0 b 2 = gI h 32 0 b ∧ gI h 0 b 3 = gI h 33 0 b ∧ (0 ≤ gI h 30 0 b ∧ gI h 30 0 b ≤ 90) ∧ (0 ≤ gI h 31 0 b ∧ gI h 31 0 b ≤ 9) ∧ (1 ≤ gI h 32 0 b ∧ gI h 32 0 b ≤ 6) ∧ (0 ≤ gI h 33 0 b ∧ gI h 33 0 b ≤ 6) := R.2.1 b hb
/-- a number is a boat's, or none -/
theorem Rel.boat? {h : Hp} (R : Rel h) (x : Int32) : (∃ i, i < gN h 1 ∧ x = nI i ∧ f_X5_boatOf x h = some (some i) ∧ f_X8_isBoat x h = some true ∧ x.toNatClampNeg = i ∧ (0 ≤ x ∧ x < 8)) ∨ (f_X5_boatOf x h = some none ∧ f_X8_isBoat x h = some false ∧ ¬ (0 ≤ x ∧ x < nI (gN h 1))) := by
  rw [e_boatOf R x, m_isBoat R.rm x, R.nt]
  have ht := R.t8
  by_cases hx : 0 ≤ x ∧ x < nI (gN h 1)
  · obtain ⟨i, hi, rfl⟩ := ofR (by omega) hx.1 hx.2
    refine Or.inl ⟨i, hi, rfl, ?_, ?_, nI_clamp (by omega), by grind [nI_ti]⟩
    · rw [if_pos hx, nI_clamp (by omega)]
    · rw [decide_eq_true hx]
  · refine Or.inr ⟨?_, ?_, hx⟩
    · rw [if_neg hx]
    · rw [decide_eq_false hx]
theorem Rel.berth? {h : Hp} (R : Rel h) (x : Int32) : (∃ b, b < gN h 0 ∧ x = nI b ∧ f_X5_berthOf x h = some (some b) ∧ f_X8_isBerth x h = some true ∧ x.toNatClampNeg = b ∧ (0 ≤ x ∧ x < 4)) ∨ (f_X5_berthOf x h = some none ∧ f_X8_isBerth x h = some false ∧ ¬ (0 ≤ x ∧ x < nI (gN h 0))) := by
  rw [e_berthOf R x, m_isBerth R.rm x, R.nb]
  have ht := R.b4
  by_cases hx : 0 ≤ x ∧ x < nI (gN h 0)
  · obtain ⟨i, hi, rfl⟩ := ofR (by omega) hx.1 hx.2
    refine Or.inl ⟨i, hi, rfl, ?_, ?_, nI_clamp (by omega), by grind [nI_ti]⟩
    · rw [if_pos hx, nI_clamp (by omega)]
    · rw [decide_eq_true hx]
  · refine Or.inr ⟨?_, ?_, hx⟩
    · rw [if_neg hx]
    · rw [decide_eq_false hx]
theorem isBoat_F (h : Hp) (x : Int32) : f_X8_isBoat x (hcF h) = f_X8_isBoat x h := rfl
theorem isBerth_F (h : Hp) (x : Int32) : f_X8_isBerth x (hcF h) = f_X8_isBerth x h := rfl
theorem p_over {h : Hp} (R : Rel h) (x : Int32) : Pm h (f_X7_over x) (f_X8_over x) := by
  by_cases hx : 0 ≤ x ∧ x ≤ 20
  · refine Pm.mk (v := gI h 5 0 4) (h1 := wI h 5 0 4 x) (h2 := wI (wI h 5 0 4 x) 8 0 5 x) ?_ ?_ ?_ (fun _ => rfl) (fun _ => rfl)
    · simp [f_X7_over, w_isWithin, hx]
    · simp [f_X8_over, w_within, hx, gI_wI, R.2.2.2.2.1.1]
    · obtain ⟨a, b, c, d, ⟨e1, e2, e3, e4, e5, e6, e7, e8⟩, f, g, i⟩ := R
      exact ⟨a, b, c, d, ⟨rfl, e2, e3, e4, e5, hx, e7, e8⟩, f, g, i⟩
  · refine Pm.find R (-1000001) ?_ ?_
    · simp [f_X7_over, w_isWithin, hx, c_find]
    · simp [f_X8_over, w_within, hx, f_X8_finding]
theorem bv_hi (a m : BitVec 32) : a &&& ~~~m = 0#32 ↔ a &&& m = a := by
  constructor
  · intro h
    ext i hi
    have := congrArg (fun z => z.getLsbD i) h
    simp [BitVec.getLsbD_eq_getElem hi] at this
    simp
    exact this
  · intro h
    ext i hi
    have := congrArg (fun z => z.getLsbD i) h
    simp [BitVec.getLsbD_eq_getElem hi] at this
    simp
    exact this
theorem hours_iff (x : Int32) : (x &&& (-16777216 : Int32)) = 0 ↔ (0 ≤ x ∧ x ≤ 16777215) := by
  have h1 : (x &&& (-16777216 : Int32)) = 0 ↔ x.toBitVec &&& ~~~ (16777215#32) = 0#32 := by
    rw [← Int32.toBitVec_inj]
    exact Iff.rfl
  rw [h1, bv_hi]
  have h2 : x.toBitVec &&& 16777215#32 = x.toBitVec ↔ x &&& 16777215 = x := by
    rw [← Int32.toBitVec_inj]
    exact Iff.rfl
  rw [h2, pk_and x 24 (by decide)]
  constructor
  · intro h
    have hlt : x.toBitVec.toNat % 2 ^ 24 < 2 ^ 24 := Nat.mod_lt _ (by decide)
    rw [← h]
    generalize x.toBitVec.toNat % 2 ^ 24 = j at hlt
    grind [nI_ti]
  · rintro ⟨h0, h3⟩
    obtain ⟨j, hj, rfl⟩ := nI_of (Int32.not_lt.mpr h0)
    have : j < 2 ^ 24 := by grind [nI_ti]
    rw [pk_tn (by omega), Nat.mod_eq_of_lt this]
theorem areHours_eq (x : Int32) (h : Hp) : f_X7_areHours x h = some (decide (0 ≤ x ∧ x ≤ 16777215)) := by
  unfold f_X7_areHours
  by_cases hx : 0 ≤ x ∧ x ≤ 16777215
  · rw [if_pos ((hours_iff x).mpr hx), decide_eq_true hx]
  · rw [if_neg (fun q => hx ((hours_iff x).mp q)), decide_eq_false hx]
theorem p_tide {h : Hp} (R : Rel h) (x : Int32) : Pm h (f_X7_tide x) (f_X8_tide x) := by
  by_cases hx : 0 ≤ x ∧ x ≤ 16777215
  · refine Pm.mk (v := gI h 2 0 1) (h1 := wI h 2 0 1 x) (h2 := wI (wI h 2 0 1 x) 8 0 20 x) ?_ ?_ ?_ (fun _ => rfl) (fun _ => rfl)
    · simp [f_X7_tide, areHours_eq, hx]
    · simp [f_X8_tide, w_within, hx, gI_wI, R.2.2.2.2.1.2.2.1]
    · obtain ⟨a, b, c, d, ⟨e1, e2, e3, e4, e5, e6, e7, e8⟩, f, g, i⟩ := R
      exact ⟨a, b, c, d, ⟨e1, e2, rfl, e4, e5, e6, e7, hx⟩, f, g, i⟩
  · refine Pm.find R (-1000001) ?_ ?_
    · simp [f_X7_tide, areHours_eq, hx, c_find]
    · simp [f_X8_tide, w_within, hx, f_X8_finding]
theorem p_leaves {h : Hp} (R : Rel h) (x y z : Int32) : Pm h (f_X7_leaves x y z) (f_X8_leaves x y z) := by
  rcases R.boat? x with ⟨i, hi, rfl, hb, hm, hc, h8⟩ | ⟨hb, hm, -⟩
  · by_cases hx : 0 ≤ y ∧ z ≤ 23 ∧ y ≤ z
    · refine Pm.mk (v := 1) (h1 := wI (wI h 1 i 5 y) 1 i 6 z) (h2 := wI (wI (wI (wI h 1 i 5 y) 1 i 6 z) 38 0 i y) 39 0 i z) ?_ ?_ ?_ (fun _ => rfl) (fun _ => rfl)
      · simp only [f_X7_leaves, hb, bnd_some]
        rw [if_neg (by grind), if_neg (by grind), if_pos hx.2.2]
      · have hm' : f_X8_isBoat (nI i) (wI (wI h 1 i 5 y) 1 i 6 z) = some true := hm
        have a1 : 0 ≤ y ∧ y ≤ 23 := by grind
        have a2 : 0 ≤ z ∧ z ≤ 23 := by grind
        simp [f_X8_leaves, f_X8_isHour, w_within, hm', a1, a2, hx.2.2, h8, hc]
      · obtain ⟨a, b, ⟨c1, c2⟩, d, e, f, g, k⟩ := R
        refine ⟨a, b, ⟨fun j hj => ?_, fun j hj hj8 => ?_⟩, by simpa [gI_wI, gN_wI] using d, e, f, g, k⟩
        · have := c1 j hj
          simp only [gI_wI] at this ⊢
          grind
        · have := c2 j hj hj8
          have hj' : j ≠ i := by have : gN h 1 ≤ j := hj; omega
          simp only [gI_wI] at this ⊢
          grind
    · refine Pm.find R (-1000001) ?_ ?_
      · simp only [f_X7_leaves, hb, bnd_some, c_find (c := -1000001) (by decide)]
        grind
      · simp only [f_X8_leaves, f_X8_isHour, w_within, isBoat_F, hm, bnd_some, f_X8_finding]
        grind
  · refine Pm.find R (-1000001) ?_ ?_
    · simp [f_X7_leaves, hb, c_find]
    · simp [f_X8_leaves, isBoat_F, hm, f_X8_finding]
theorem p_aboard {h : Hp} (R : Rel h) (x y : Int32) : Pm h (f_X7_aboard x y) (f_X8_aboard x y) := by
  rcases R.boat? x with ⟨i, hi, rfl, hb, hm, hc, h8⟩ | ⟨hb, hm, -⟩
  · by_cases hx : 0 ≤ y ∧ y ≤ 16777215
    · refine Pm.mk (v := gI h 1 i 7) (h1 := wI h 1 i 7 y) (h2 := wI (wI h 1 i 7 y) 40 0 i y) ?_ ?_ ?_ (fun _ => rfl) (fun _ => rfl)
      · simp [f_X7_aboard, hb, areHours_eq, hx]
      · have hm' : f_X8_isBoat (nI i) (wI h 1 i 7 y) = some true := hm
        simp [f_X8_aboard, hm', w_within, hx, h8, hc, gI_wI, (R.boa hi).2.2.2.2.2.2.2.1]
      · obtain ⟨a, b, ⟨c1, c2⟩, d, e, f, g, k⟩ := R
        refine ⟨a, b, ⟨fun j hj => ?_, fun j hj hj8 => ?_⟩, by simpa [gI_wI, gN_wI] using d, e, f, g, k⟩
        · have := c1 j hj
          simp only [gI_wI] at this ⊢
          grind
        · exact c2 j hj hj8
    · refine Pm.find R (-1000001) ?_ ?_
      · simp [f_X7_aboard, hb, areHours_eq, hx, c_find]
      · simp [f_X8_aboard, isBoat_F, hm, w_within, hx, f_X8_finding]
  · refine Pm.find R (-1000001) ?_ ?_
    · simp [f_X7_aboard, hb, c_find]
    · simp [f_X8_aboard, isBoat_F, hm, f_X8_finding]
/-- of a kind, or under it -/
def und (own k : Int32) : Bool := decide (k = 0 ∨ own = k ∨ (k = 2 ∧ own = 3))
theorem isUnder_eq (a k : Int32) (h : Hp) : f_X8_isUnder a k h = some (und a k) := by
  unfold f_X8_isUnder und
  grind
theorem isOfKind_eq (i : Nat) (k : Int32) (h : Hp) : f_X1_isOfKind i k h = some (und (gI h 1 i 1) k) := by
  unfold f_X1_isOfKind und
  grind
theorem p_as {h : Hp} (R : Rel h) (x y : Int32) : Pm h (f_X7_as x y) (f_X8_as x y) := by
  rcases R.boat? x with ⟨i, hi, rfl, hb, hm, hc, h8⟩ | ⟨hb, hm, -⟩
  · have hB := R.boa hi
    by_cases hx : 0 ≤ y ∧ y ≤ 3
    · by_cases hu : und (gI h 34 0 i) y = true
      · refine Pm.mk (v := nI i) (h1 := h) (h2 := h) ?_ ?_ R (fun _ => rfl) (fun _ => rfl)
        · simp [f_X7_as, hb, w_isWithin, hx, isOfKind_eq, hB.2.1, hu, hB.1]
        · simp [f_X8_as, hm, w_within, hx, isUnder_eq, h8, hc, hu]
      · refine Pm.find R (-1000003) ?_ ?_
        · simp [f_X7_as, hb, w_isWithin, hx, isOfKind_eq, hB.2.1, hu, c_find]
        · have e : gI (hcF h) 34 0 i = gI h 34 0 i := rfl
          simp [f_X8_as, isBoat_F, hm, w_within, hx, isUnder_eq, h8, hc, e, hu, f_X8_finding]
    · refine Pm.find R (-1000001) ?_ ?_
      · simp [f_X7_as, hb, w_isWithin, hx, c_find]
      · simp [f_X8_as, isBoat_F, hm, w_within, hx, f_X8_finding]
  · refine Pm.find R (-1000001) ?_ ?_
    · simp [f_X7_as, hb, c_find]
    · simp [f_X8_as, isBoat_F, hm, f_X8_finding]
