/-! ===== reading the class's part ===== -/
theorem nI_s (j : Nat) : nI j + 1 = nI (j + 1) := nI_1 j
theorem FUb {m : Nat} (h : m < 1000000) : m < FU := by unfold FU; omega
/-- 'boats' holds boat i at i, as long as there is one -/
def BoA (h : Hp) : Prop := ∀ i, i < 8 → gP h 11 0 i = if i < gN h 1 then some i else none
theorem Rel.boA {h : Hp} (R : Rel h) : BoA h := R.1.2.2.2.1
theorem e_berthOf {h : Hp} (R : Rel h) (x : Int32) : f_X5_berthOf x h = some (if 0 ≤ x ∧ x < gI h 8 0 0 then some x.toNatClampNeg else none) := by
  obtain ⟨⟨h1, h2, h3, h4, h5, h6, h7, h8, h9⟩, -⟩ := R
  unfold f_X5_berthOf
  grind [ix_ti, nI_ti]
theorem e_boatOf {h : Hp} (R : Rel h) (x : Int32) : f_X5_boatOf x h = some (if 0 ≤ x ∧ x < gI h 8 0 6 then some x.toNatClampNeg else none) := by
  obtain ⟨⟨h1, h2, h3, h4, h5, h6, h7, h8, h9⟩, -⟩ := R
  unfold f_X5_boatOf
  grind [ix_ti, nI_ti]
theorem sm_0 {f : Nat → Int32} : ∀ n, (∀ i, i < n → f i = 0) → sm f n = 0
  | 0, _ => rfl
  | n + 1, h => by rw [sm, sm_0 n (fun i hi => h i (by omega)), h n (by omega)]; rfl
theorem sm_c {f g : Nat → Int32} : ∀ n, (∀ i, i < n → f i = g i) → sm f n = sm g n
  | 0, _ => rfl
  | n + 1, h => by rw [sm, sm, sm_c n (fun i hi => h i (by omega)), h n (by omega)]
theorem sm_add {f g : Nat → Int32} : ∀ n, sm (fun i => f i + g i) n = sm f n + sm g n
  | 0 => rfl
  | n + 1 => by rw [sm, sm, sm, sm_add n]; grind
theorem sm_one {v : Int32} {i0 : Nat} : ∀ n, sm (fun i => if i = i0 then v else 0) n = if i0 < n then v else 0
  | 0 => by simp [sm]
  | n + 1 => by rw [sm, sm_one n]; grind
/-- a scan over the eight boats that adds up -/
def atS (h : Hp) (b : Int32) (F : Nat → Int32) (i : Nat) : Int32 := if i < gN h 1 ∧ gI h 1 i 8 = b then F i else 0
theorem L_countAt {h : Hp} (S : BoA h) (b : Int32) : ∀ (m n j : Nat) (acc : Int32), j + m = 8 → m < n → fL_X5_countAt_14 h n b acc 8 (nI j) = some (acc + (sm (atS h b (fun _ => 1)) 8 - sm (atS h b (fun _ => 1)) j)) := by
  intro m
  induction m with
  | zero =>
    intro n j acc hj hn
    obtain ⟨n, rfl⟩ : ∃ k, n = k + 1 := ⟨n - 1, by omega⟩
    have : j = 8 := by omega
    subst this
    unfold fL_X5_countAt_14
    rw [if_pos (by decide), Int32.sub_self, Int32.add_zero]
  | succ m ih =>
    intro n j acc hj hn
    obtain ⟨n, rfl⟩ : ∃ k, n = k + 1 := ⟨n - 1, by omega⟩
    unfold fL_X5_countAt_14
    have e1 : sm (atS h b (fun _ => 1)) (j + 1) = sm (atS h b (fun _ => 1)) j + atS h b (fun _ => 1) j := rfl
    have i1 := fun acc => ih n (j + 1) acc (by omega) (by omega)
    have hS := S j (by omega)
    have hc : (nI j).toNatClampNeg = j := nI_clamp (by omega)
    have h8 : ¬ (8 : Int32) ≤ nI j := by grind [nI_ti]
    have h0 : 0 ≤ nI j ∧ nI j < 8 := by grind [nI_ti]
    rw [if_neg h8, if_pos h0, hc, hS, nI_s]
    unfold atS at *
    grind
theorem c_countAt {h : Hp} (S : BoA h) (b : Int32) : f_X5_countAt b h = some (sm (atS h b (fun _ => 1)) 8) := by
  have := L_countAt S b 8 FU 0 0 rfl (FUb (by decide))
  unfold f_X5_countAt
  rw [show (0 : Int32) = nI 0 from rfl] at *
  rw [this]
  simp [sm]
  rfl
theorem L_boatAt0 {h : Hp} (S : BoA h) (b k : Int32) : ∀ (m n j : Nat), j + m = 8 → m < n → (∀ i, j ≤ i → i < 8 → ¬ (i < gN h 1 ∧ gI h 1 i 8 = b ∧ gI h 1 i 9 = k)) → fL_X5_boatAt_12 h n b k 8 (nI j) = some none := by
  intro m
  induction m with
  | zero =>
    intro n j hj hn _
    obtain ⟨n, rfl⟩ : ∃ k, n = k + 1 := ⟨n - 1, by omega⟩
    have : j = 8 := by omega
    subst this
    unfold fL_X5_boatAt_12
    rw [if_pos (by decide)]
  | succ m ih =>
    intro n j hj hn hno
    obtain ⟨n, rfl⟩ : ∃ k, n = k + 1 := ⟨n - 1, by omega⟩
    unfold fL_X5_boatAt_12
    have i1 := ih n (j + 1) (by omega) (by omega) (fun i h1 h2 => hno i (by omega) h2)
    have hS := S j (by omega)
    have hn0 := hno j (Nat.le_refl _) (by omega)
    have hc : (nI j).toNatClampNeg = j := nI_clamp (by omega)
    have h8 : ¬ (8 : Int32) ≤ nI j := by grind [nI_ti]
    have h0 : 0 ≤ nI j ∧ nI j < 8 := by grind [nI_ti]
    rw [if_neg h8, if_pos h0, hc, hS, nI_s]
    grind
theorem L_boatAt1 {h : Hp} (S : BoA h) (b k : Int32) (i0 : Nat) (hi0 : i0 < 8) (h1 : i0 < gN h 1 ∧ gI h 1 i0 8 = b ∧ gI h 1 i0 9 = k) : ∀ (m n j : Nat), j + m = i0 → m < n → (∀ i, j ≤ i → i < i0 → ¬ (i < gN h 1 ∧ gI h 1 i 8 = b ∧ gI h 1 i 9 = k)) → fL_X5_boatAt_12 h n b k 8 (nI j) = some (some i0) := by
  intro m
  induction m with
  | zero =>
    intro n j hj hn _
    obtain ⟨n, rfl⟩ : ∃ k, n = k + 1 := ⟨n - 1, by omega⟩
    have : j = i0 := by omega
    subst this
    unfold fL_X5_boatAt_12
    have hS := S j (by omega)
    have hc : (nI j).toNatClampNeg = j := nI_clamp (by omega)
    have h8 : ¬ (8 : Int32) ≤ nI j := by grind [nI_ti]
    have h0 : 0 ≤ nI j ∧ nI j < 8 := by grind [nI_ti]
    rw [if_neg h8, if_pos h0, hc, hS]
    grind
  | succ m ih =>
    intro n j hj hn hno
    obtain ⟨n, rfl⟩ : ∃ k, n = k + 1 := ⟨n - 1, by omega⟩
    unfold fL_X5_boatAt_12
    have i1 := ih n (j + 1) (by omega) (by omega) (fun i h1 h2 => hno i (by omega) h2)
    have hS := S j (by omega)
    have hn0 := hno j (Nat.le_refl _) (by omega)
    have hc : (nI j).toNatClampNeg = j := nI_clamp (by omega)
    have h8 : ¬ (8 : Int32) ≤ nI j := by grind [nI_ti]
    have h0 : 0 ≤ nI j ∧ nI j < 8 := by grind [nI_ti]
    rw [if_neg h8, if_pos h0, hc, hS, nI_s]
    grind
/-- the boat at a place of a berth, as the reference's rows have it -/
def rwA (h : Hp) (b k : Nat) : Nat := (gI h 44 0 (6 * b + k)).toNatClampNeg
def cnA (h : Hp) (b : Nat) : Nat := (gI h 43 0 b).toNatClampNeg
/-- what PosR says, in these words -/
theorem Rel.pos {h : Hp} (R : Rel h) : (gN h 0 ≤ 4 ∧ gN h 1 ≤ 8) ∧ (∀ b, b < gN h 0 → cnA h b ≤ 6 ∧ gI h 43 0 b = nI (cnA h b) ∧ gI h 43 0 b ≤ gI h 32 0 b) ∧ (∀ b k, b < gN h 0 → k < cnA h b → rwA h b k < gN h 1 ∧ gI h 44 0 (6 * b + k) = nI (rwA h b k) ∧ gI h 1 (rwA h b k) 8 = nI b ∧ gI h 1 (rwA h b k) 9 = nI k) ∧
    (∀ i, i < gN h 1 → (gI h 1 i 8 = -1 ∧ gI h 1 i 9 = -1) ∨ ∃ b k, b < gN h 0 ∧ k < cnA h b ∧ gI h 1 i 8 = nI b ∧ gI h 1 i 9 = nI k ∧ rwA h b k = i) := by
  obtain ⟨⟨h1, h2, -⟩, -, -, ⟨p1, p2, p3, p4⟩, -⟩ := R
  refine ⟨⟨h1, h2⟩, fun b hb => ?_, fun b k hb hk => ?_, fun i hi => ?_⟩
  · obtain ⟨c, hc, e, hl⟩ := p1 b hb
    have e' : gI h 43 0 b = nI c := e
    have : cnA h b = c := by unfold cnA; rw [e', nI_clamp (by omega)]
    rw [this]
    exact ⟨hc, e, hl⟩
  · obtain ⟨i, hi, e, e1, e2⟩ := p3 b k hb hk
    have e' : gI h 44 0 (6 * b + k) = nI i := e
    have : rwA h b k = i := by unfold rwA; rw [e', nI_clamp (by omega)]
    rw [this]
    exact ⟨hi, e, e1, e2⟩
  · rcases p4 i hi with q | ⟨b, k, hb, hk, e1, e2, e3⟩
    · exact Or.inl q
    · have e' : gI h 44 0 (6 * b + k) = nI i := e3
      exact Or.inr ⟨b, k, hb, hk, e1, e2, by unfold rwA; rw [e', nI_clamp (by omega)]⟩
/-- a sum over the boats at a berth is one over its places -/
theorem reidx {h : Hp} (R : Rel h) {b : Nat} (hb : b < gN h 0) (F : Nat → Int32) : sm (atS h (nI b) F) 8 = sm (fun k => F (rwA h b k)) (cnA h b) := by
  obtain ⟨⟨hB, hT⟩, hc, hr, hp⟩ := R.pos
  have key : ∀ m, m ≤ cnA h b → sm (fun i => if i < gN h 1 ∧ gI h 1 i 8 = nI b ∧ gI h 1 i 9 < nI m then F i else 0) 8 = sm (fun k => F (rwA h b k)) m := by
    intro m
    induction m with
    | zero =>
      intro _
      refine sm_0 8 fun i _ => ?_
      rw [if_neg]
      rintro ⟨h1, h2, h3⟩
      have := hp i h1
      grind [nI_ti]
    | succ m ih =>
      intro hm
      have h6 := (hc b hb).1
      have hrm := hr b m hb (by omega)
      rw [show sm (fun k => F (rwA h b k)) (m + 1) = sm (fun k => F (rwA h b k)) m + F (rwA h b m) from rfl, ← ih (by omega)]
      have : sm (fun i => if i = rwA h b m then F (rwA h b m) else 0) 8 = F (rwA h b m) := by rw [sm_one, if_pos (by omega)]
      rw [← this, ← sm_add]
      refine sm_c 8 fun i hi => ?_
      by_cases e : i = rwA h b m
      · subst e
        rw [if_pos rfl, if_pos, if_neg]
        · grind
        · grind [nI_ti]
        · grind [nI_ti]
      · rw [if_neg e]
        by_cases hi1 : i < gN h 1 ∧ gI h 1 i 8 = nI b
        · have := hp i hi1.1
          have hne : gI h 1 i 9 ≠ nI m := by
            intro q
            rcases this with q1 | ⟨b', k', q1, q2, q3, q4, q5⟩
            · grind [nI_ti]
            · have hb' : b' = b := by grind [nI_ti]
              subst hb'
              have : k' = m := by
                have := (hc b' hb).1
                grind [nI_ti]
              grind
          have h8 : 0 ≤ gI h 1 i 9 := by
            have := hc
            rcases ‹_ ∨ _› with q1 | ⟨b', k', q1, q2, q3, q4, q5⟩
            · grind [nI_ti]
            · have := (hc b' q1).1
              grind [nI_ti]
          grind [nI_ti]
        · grind
  rw [← key (cnA h b) (Nat.le_refl _)]
  refine sm_c 8 fun i _ => ?_
  unfold atS
  by_cases hi1 : i < gN h 1 ∧ gI h 1 i 8 = nI b
  · rw [if_pos hi1, if_pos]
    refine ⟨hi1.1, hi1.2, ?_⟩
    rcases hp i hi1.1 with q1 | ⟨b', k', q1, q2, q3, q4, q5⟩
    · grind [nI_ti]
    · have h6 := (hc b' q1).1
      have hb' : b' = b := by grind [nI_ti]
      subst hb'
      grind [nI_ti]
  · grind
theorem sm_k (v : Int32) : ∀ n, sm (fun _ => v) n = nI n * v
  | 0 => by simp [sm, nI]
  | n + 1 => by rw [sm, sm_k v n, ← nI_s]; grind
theorem e_countAt {h : Hp} (R : Rel h) {b : Nat} (hb : b < gN h 0) : f_X5_countAt (nI b) h = some (nI (cnA h b)) := by
  rw [c_countAt R.boA, reidx R hb, sm_k, Int32.mul_one]
theorem e_boatAt {h : Hp} (R : Rel h) {b : Nat} (hb : b < gN h 0) (k : Int32) : f_X5_boatAt (nI b) k h = some (if 0 ≤ k ∧ k < nI (cnA h b) then some (rwA h b k.toNatClampNeg) else none) := by
  obtain ⟨⟨hB, hT⟩, hc, hr, hp⟩ := R.pos
  have h6 := (hc b hb).1
  unfold f_X5_boatAt
  rw [show (0 : Int32) = nI 0 from rfl]
  split
  case isTrue hk =>
    obtain ⟨j, hj, rfl⟩ := ofR (by omega) hk.1 hk.2
    rw [nI_clamp (by omega)]
    have hrj := hr b j hb hj
    refine L_boatAt1 R.boA (nI b) (nI j) (rwA h b j) (by omega) ⟨hrj.1, hrj.2.2⟩ (rwA h b j) FU 0 (by omega) (FUb (by omega)) ?_
    rintro i - hi ⟨e1, e2, e3⟩
    rcases hp i e1 with q1 | ⟨b', k', q1, q2, q3, q4, q5⟩
    · grind [nI_ti]
    · have := (hc b' q1).1
      have hb' : b' = b := by grind [nI_ti]
      subst hb'
      have : k' = j := by grind [nI_ti]
      grind
  case isFalse hk =>
    refine L_boatAt0 R.boA (nI b) k 8 FU 0 rfl (FUb (by decide)) ?_
    rintro i - hi ⟨e1, e2, e3⟩
    rcases hp i e1 with q1 | ⟨b', k', q1, q2, q3, q4, q5⟩
    · grind [nI_ti]
    · have := (hc b' q1).1
      have hb' : b' = b := by grind [nI_ti]
      subst hb'
      apply hk
      grind [nI_ti]
