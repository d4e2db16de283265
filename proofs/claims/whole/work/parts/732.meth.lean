/-! ===== the class's table: one row's cost ===== -/
theorem xI_wL (h : Hp) (t i k : Nat) (v : Int64) : gI (wL h t i k v) = gI h := (rfl)
theorem xN_wL (h : Hp) (t i k : Nat) (v : Int64) : gN (wL h t i k v) = gN h := (rfl)
theorem xP_wL (h : Hp) (t i k : Nat) (v : Int64) : gP (wL h t i k v) = gP h := (rfl)
theorem xL_wL (h : Hp) (t i k : Nat) (v : Int64) (a b c : Nat) : gL (wL h t i k v) a b c = if a = t ∧ b = i ∧ c = k then v else gL h a b c := (rfl)
/-- heaps alike but for their longs -/
def LE (h h' : Hp) : Prop := gN h' = gN h ∧ gI h' = gI h ∧ gP h' = gP h
theorem LE.rfl' (h : Hp) : LE h h := ⟨rfl, rfl, rfl⟩
theorem LE.trans {a b c : Hp} (X : LE a b) (Y : LE b c) : LE a c := ⟨Y.1.trans X.1, Y.2.1.trans X.2.1, Y.2.2.trans X.2.2⟩
theorem LE.w (h : Hp) (t i k : Nat) (v : Int64) : LE h (wL h t i k v) := ⟨rfl, rfl, rfl⟩
theorem Rel.le {h h' : Hp} (R : Rel h) (E : LE h h') : Rel h' := by
  unfold Rel at *
  rw [E.1, E.2.1, E.2.2]
  exact R
def Tk (A : Nat → Nat → Nat → Bool) (N V : Nat → Nat → Bool) (s nb : Nat) (bo : Nat → Nat) (h : Hp) : Prop :=
  Rel h ∧ gN h 0 = nb ∧ gI h 4 0 6 = nI s ∧ (∀ r, r < s → gP h 12 0 r = some (bo r) ∧ bo r < gN h 1) ∧ (∀ r, r < s → ∃ m, m < 64 ∧ gI h 13 0 r = nI m ∧ ∀ q, q < s → (m.testBit q = true ↔ N r q = true)) ∧ (∀ r, r < s → ∃ m, m < 64 ∧ gI h 14 0 r = nI m ∧ ∀ q, q < s → (m.testBit q = true ↔ V q r = true)) ∧ (∀ r b k, r < s → b < nb → k < 7 → (wA h (bo r) b (nI k) = 0 ↔ A r b k = true))
theorem Tk.le {A N V s nb bo} {h h' : Hp} (T : Tk A N V s nb bo h) (E : LE h h') : Tk A N V s nb bo h' := by
  obtain ⟨R, t⟩ := T
  refine ⟨R.le E, ?_⟩
  unfold wA at *
  rw [E.1, E.2.1, E.2.2]
  exact t
theorem NEV_e : NEV = 1099511627776 := rfl
theorem L_ci {h : Hp} {s : Nat} (e46 : gI h 4 0 6 = nI s) (hs : s ≤ 6) {ins nx : Nat} (hi : ins < 64) (hnx : nx < 64) (rc : Nat → Nat) (hrc : ∀ o, o < s → nx.testBit o = true → gL h 15 0 (ins * 6 + o) = lN (rc o) ∧ rc o ≤ NEV) : ∀ (m n j w : Nat), j + m = s → m < n → w ≤ NEV →
    ∃ v, fL_X4_costInside_7 h n (nI ins) (nI nx) (lN w) (nI j) = some (lN v) ∧ v ≤ w ∧ (∀ o, j ≤ o → o < s → nx.testBit o = true → v ≤ rc o) ∧ (v = w ∨ ∃ o, j ≤ o ∧ o < s ∧ nx.testBit o = true ∧ v = rc o) := by
  have nv := NEV_e
  intro m
  induction m with
  | zero =>
    intro n j w hj hn hw
    obtain ⟨n, rfl⟩ : ∃ k, n = k + 1 := ⟨n - 1, by omega⟩
    obtain rfl : j = s := by omega
    refine ⟨w, by rw [fL_X4_costInside_7, e46, if_pos (Int32.le_refl _)], Nat.le_refl w, fun o h1 h2 => by omega, Or.inl rfl⟩
  | succ m ih =>
    intro n j w hj hn hw
    obtain ⟨n, rfl⟩ : ∃ k, n = k + 1 := ⟨n - 1, by omega⟩
    have nle : ¬ nI s ≤ nI j := fun q => by have := (nIl (by omega) (by omega)).mp q; omega
    have t0 := tst0 (m := nx) (j := j) (by omega) (by omega)
    by_cases tb : nx.testBit j = true
    · have ix : nI ins * 6 + nI j = nI (ins * 6 + j) := by rw [nq6, pk_mul, nI_add]
      obtain ⟨el, le⟩ := hrc j (by omega) tb
      obtain ⟨v, v1, v2, v3, v4⟩ := ih n (j + 1) (min w (rc j)) (by omega) (by omega) (by omega)
      have a384 : 0 ≤ nI (ins * 6 + j) ∧ nI (ins * 6 + j) < 384 := nIr (k := 384) (by omega) (by omega)
      refine ⟨v, ?_, by omega, fun o h1 h2 h3 => ?_, ?_⟩
      · rw [fL_X4_costInside_7, e46, if_neg nle, if_neg (fun q => (t0.mp q) tb), ix, if_pos a384, nI_clamp (by omega), el, lminI (by omega) (by omega), nI_s]
        exact v1
      · by_cases e : o = j
        · rw [e]; omega
        · exact v3 o (by omega) h2 h3
      · rcases v4 with v4 | ⟨o, o1, o2, o3, o4⟩
        · by_cases q : rc j < w
          · exact Or.inr ⟨j, by omega, by omega, tb, by omega⟩
          · exact Or.inl (by omega)
        · exact Or.inr ⟨o, by omega, o2, o3, o4⟩
    · obtain ⟨v, v1, v2, v3, v4⟩ := ih n (j + 1) w (by omega) (by omega) hw
      refine ⟨v, ?_, v2, fun o h1 h2 h3 => ?_, ?_⟩
      · rw [fL_X4_costInside_7, e46, if_neg nle, if_pos (t0.mpr tb), nI_s]
        exact v1
      · by_cases e : o = j
        · rw [e] at h3; exact absurd h3 tb
        · exact v3 o (by omega) h2 h3
      · rcases v4 with v4 | ⟨o, o1, o2⟩
        · exact Or.inl v4
        · exact Or.inr ⟨o, by omega, o2⟩
theorem pow32 {o : Nat} (ho : o < 6) : (5 : Int32) * (5 - nI o) = nI (5 * (5 - o)) ∧ 2 ^ (5 * (5 - o)) = 32 ^ (5 - o) := by
  have : ∀ o : Fin 6, (5 : Int32) * (5 - nI o.val) = nI (5 * (5 - o.val)) ∧ 2 ^ (5 * (5 - o.val)) = 32 ^ (5 - o.val) := by decide +kernel
  exact this ⟨o, ho⟩
theorem p32 {o : Nat} : 32 ^ (5 - o) ≤ 33554432 := by
  have : 32 ^ (5 - o) ≤ 32 ^ 5 := Nat.pow_le_pow_right (by omega) (by omega)
  exact this
theorem J73 {h : Hp} {b o ins pl w m : Nat} (ho : o < 6) (hb : b < 4) (hi : ins < 64) (hp : pl < 8) (e14 : gI h 14 0 o = nI m) (hm : m < 64) (hw : w ≤ NEV) : fJ_X4_costOutermost_73 h (nI b) (nI o) (nI ins) (nI pl) (lN w) = some (lN (if w < NEV then w + popc (ins &&& m) * 1073741824 + (8 * b + pl) * 32 ^ (5 - o) else NEV)) := by
  unfold fJ_X4_costOutermost_73
  have nv := NEV_e
  have am : ins &&& m < 64 := Nat.lt_of_le_of_lt Nat.and_le_left hi
  have pc : popc (ins &&& m) ≤ 8 := cntB_le _ 8
  have c : (lg_cmp (lN w) (1099511627776 : Int64) < 0) ↔ w < NEV := by
    rw [lg_cmp_lt]
    exact pk_lLT (b := NEV) (by omega) (by decide)
  by_cases q : w < NEV
  · rw [if_pos (c.mpr q), if_pos (show 0 ≤ nI o ∧ nI o < 6 from nIr (k := 6) ho (by omega)), nI_clamp (by omega), e14, andI hi hm, bc (by omega), bnd_some, if_pos q]
    unfold f_X4_spotShift
    rw [bnd_some, (pow32 ho).1, nI_l (by omega), show (30 : Int32) = nI 30 from rfl, lshl _ (by omega), spI hb (by omega), nI_l (by omega), lshl _ (by omega), (pow32 ho).2, lN_add, lN_add]
  · rw [if_neg (fun w => q (c.mp w)), if_neg q]
    rfl
section
variable {A : Nat → Nat → Nat → Bool} {N V : Nat → Nat → Bool} {s nb : Nat} {bo : Nat → Nat}
theorem e_out (hA : ∀ r b k, A r b k = true → k < 6) (hs : s ≤ 6) {h : Hp} (T : Tk A N V s nb bo h) {b part o : Nat} (hb : b < nb) (hp : part < 2 ^ s) (ho : o < s) (tb : part.testBit o = true) (rc : Nat → Nat) (hrc : ∀ q, q < s → (dif part (2 ^ o)).testBit q = true → gL h 15 0 (dif part (2 ^ o) * 6 + q) = lN (rc q) ∧ RcS A N V b (dif part (2 ^ o)) q (rc q)) :
    ∃ v, f_X4_costOutermost b (nI b) (nI part) (nI o) h = some (lN v) ∧ RcS A N V b part o v := by
  have nv := NEV_e
  obtain ⟨R, enb, e46, e12, e13, e14, eA⟩ := T
  have hB : gN h 0 ≤ 4 := R.b4
  have hT := R.t8
  have p64 : part < 64 := by
    have : 2 ^ s ≤ 2 ^ 6 := Nat.pow_le_pow_right (by omega) hs
    omega
  have d64 := dif_lt (q := 2 ^ o) p64
  obtain ⟨p12, b8⟩ := e12 o ho
  obtain ⟨m13, m13l, e13', m13b⟩ := e13 o ho
  obtain ⟨m14, m14l, e14', m14b⟩ := e14 o ho
  have pl8 : popc (dif part (2 ^ o)) ≤ 6 := by
    have : popc (dif part (2 ^ o)) = cntB (fun r => (dif part (2 ^ o)).testBit r) 6 := by
      have z : ∀ r, 6 ≤ r → (dif part (2 ^ o)).testBit r = false := fun r hr => Nat.testBit_lt_two_pow (Nat.lt_of_lt_of_le d64 (by
        have : 2 ^ 6 ≤ 2 ^ r := Nat.pow_le_pow_right (by omega) hr
        exact this))
      unfold popc
      rw [cntB, cntB, z 6 (by omega), z 7 (by omega)]
      rfl
    rw [this]
    exact cntB_le _ 6
  have lA := eA o b (popc (dif part (2 ^ o))) ho hb (by omega)
  -- rows whose outermost is o are o outside of a row of the rest
  have rows : ∀ l, rOk A N b (o :: l) → mkL (o :: l) = part → mkL l = dif part (2 ^ o) ∧ l.length = popc (dif part (2 ^ o)) ∧ cV V o l = popc (dif part (2 ^ o) &&& m14) := by
    intro l h1 h2
    have e := mkL_dif p64 h1.2.2.1 h2
    have i6 := in6 d64 e
    have iS := inS (s := s) hp h2
    refine ⟨e, ?_, ?_⟩
    · rw [← e]; exact (popc_len h1.2.2.2 i6).symm
    · rw [← e]; exact (popc_cV m14b h1.2.2.2 (fun q hq => ⟨iS q (by simp [hq]), i6 q hq⟩)).symm
  have U : f_X4_costOutermost b (nI b) (nI part) (nI o) h = if wA h (bo o) b (nI (popc (dif part (2 ^ o)))) = 0 then (if nI (dif part (2 ^ o)) = 0 then fJ_X4_costOutermost_73 h (nI b) (nI o) (nI (dif part (2 ^ o))) (nI (popc (dif part (2 ^ o)))) (lN 0) else (f_X4_costInside (nI (dif part (2 ^ o))) (nI (dif part (2 ^ o) &&& m13)) h).bind fun r5 => fJ_X4_costOutermost_73 h (nI b) (nI o) (nI (dif part (2 ^ o))) (nI (popc (dif part (2 ^ o)))) r5) else some (lN NEV) := by
    unfold f_X4_costOutermost
    have o6 : 0 ≤ nI o ∧ nI o < 6 := nIr (k := 6) (by omega) (by omega)
    rw [rmI p64 (by omega), bc (by omega), bnd_some, if_pos o6, nI_clamp (by omega), p12]
    simp only []
    rw [e_whyAt R b8 (by omega), bnd_some, if_pos o6, e13', andI d64 m13l]
    rfl
  by_cases ok : A o b (popc (dif part (2 ^ o))) = true
  · rw [if_pos (lA.mpr ok)] at U
    -- with the least of the rest's rows known
    have fin : ∀ w, w ≤ NEV → (∀ l, rOk A N b (o :: l) → mkL (o :: l) = part → w ≤ rCo V b l) → (w = NEV ∨ ∃ l, rOk A N b (o :: l) ∧ mkL (o :: l) = part ∧ rCo V b l = w) → f_X4_costOutermost b (nI b) (nI part) (nI o) h = fJ_X4_costOutermost_73 h (nI b) (nI o) (nI (dif part (2 ^ o))) (nI (popc (dif part (2 ^ o)))) (lN w) → ∃ v, f_X4_costOutermost b (nI b) (nI part) (nI o) h = some (lN v) ∧ RcS A N V b part o v := by
      intro w hw low att e
      rw [J73 (by omega) (by omega) d64 (by omega) e14' m14l hw] at e
      refine ⟨_, e, ?_⟩
      by_cases q : w < NEV
      · rw [if_pos q]
        rcases att with att | ⟨l, l1, l2, l3⟩
        · omega
        · obtain ⟨r1, r2, r3⟩ := rows l l1 l2
          have val : w + popc (dif part (2 ^ o) &&& m14) * 1073741824 + (8 * b + popc (dif part (2 ^ o))) * 32 ^ (5 - o) = rCo V b (o :: l) := by rw [rCo, r2, r3, l3]
          have lt := rCo_lt (V := V) hA (show b < 4 by omega) l1 (in6 p64 l2)
          refine ⟨by rw [val]; omega, fun l' k1 k2 => ?_, Or.inr ⟨l, l1, l2, val.symm⟩⟩
          obtain ⟨r1', r2', r3'⟩ := rows l' k1 k2
          have := low l' k1 k2
          rw [rCo, r2', r3']
          omega
      · rw [if_neg q]
        refine ⟨Nat.le_refl _, fun l k1 k2 => ?_, Or.inl rfl⟩
        have := low l k1 k2
        have lt := rCo_lt (V := V) hA (show b < 4 by omega) k1.2.2.2 (fun r hr => in6 p64 k2 r (by simp [hr]))
        omega
    by_cases z : dif part (2 ^ o) = 0
    · rw [if_pos (by rw [z]; rfl)] at U
      refine fin 0 (by omega) (fun l _ _ => Nat.zero_le _) (Or.inr ⟨[], ?_, ?_, rfl⟩) U
      · rw [z] at ok
        exact ⟨ok, fun q hq => absurd hq (by simp), by simp, trivial⟩
      · exact (mkL_dif' p64 tb (l := []) (by rw [z]; rfl)).2
    · have z' : ¬ nI (dif part (2 ^ o)) = 0 := nI_ne0 (by omega) (by omega)
      rw [if_neg z'] at U
      have am : dif part (2 ^ o) &&& m13 < 64 := Nat.lt_of_le_of_lt Nat.and_le_left d64
      obtain ⟨w, w1, w2, w3, w4⟩ := L_ci e46 hs d64 am rc (fun q hq tq => by
        rw [Nat.testBit_and, Bool.and_eq_true] at tq
        have := hrc q hq tq.1
        exact ⟨this.1, this.2.1⟩) s FU 0 NEV (by omega) (FUb (by omega)) (Nat.le_refl _)
      have ci : f_X4_costInside (nI (dif part (2 ^ o))) (nI (dif part (2 ^ o) &&& m13)) h = some (lN w) := w1
      rw [ci, bnd_some] at U
      refine fin w w2 (fun l k1 k2 => ?_) ?_ U
      · obtain ⟨r1, r2, r3⟩ := rows l k1 k2
        cases l with
        | nil => exact absurd r1.symm z
        | cons q l =>
          have iS := inS (s := s) hp k2
          have hq : q < s := iS q (by simp)
          have tq : (dif part (2 ^ o)).testBit q = true := by rw [← r1]; exact (mkL_bit q _).mpr (by simp)
          have nq := k1.2.1 q rfl
          have := w3 q (by omega) hq (by rw [Nat.testBit_and, tq, (m13b q hq).mpr nq]; rfl)
          have := (hrc q hq tq).2.2.1 l k1.2.2.2 r1
          omega
      · rcases w4 with w4 | ⟨q, -, q2, q3, q4⟩
        · exact Or.inl w4
        · rw [Nat.testBit_and, Bool.and_eq_true] at q3
          rcases (hrc q q2 q3.1).2.2.2 with e | ⟨l, l1, l2, l3⟩
          · exact Or.inl (by omega)
          · refine Or.inr ⟨q :: l, ⟨?_, fun q' hq' => ?_, (mkL_dif' p64 tb l2).1, l1⟩, (mkL_dif' p64 tb l2).2, by omega⟩
            · have := popc_len l1 (in6 d64 l2)
              rw [← this, l2]
              exact ok
            · cases hq'
              exact (m13b q q2).mp q3.2
  · rw [if_neg (fun w => ok (lA.mp w))] at U
    refine ⟨NEV, U, Nat.le_refl _, fun l k1 k2 => ?_, Or.inl rfl⟩
    obtain ⟨r1, r2, r3⟩ := rows l k1 k2
    have := k1.1
    rw [r2] at this
    exact absurd this ok
end
