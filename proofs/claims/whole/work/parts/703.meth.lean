theorem L_p20 {h : Hp} (R : Rel h) {b : Nat} (hb : b < gN h 0) (x : Int32) : ∀ (m n k : Nat) (acc : Int32), k + m = cnA h b → m < n → fL_X8_pairs_20 n (nI b) x acc (nI k) h = some (acc + (sm (cmP h x b) (cnA h b) - sm (cmP h x b) k), h) := by
  obtain ⟨⟨hB, hT⟩, hcn, hr, hp⟩ := R.pos
  obtain ⟨c6, e43, -⟩ := hcn b hb
  have h4 : 0 ≤ nI b ∧ nI b < 4 := nIr (k := 4) (by omega) (by omega)
  have cb : (nI b).toNatClampNeg = b := nI_clamp (by omega)
  intro m
  induction m with
  | zero =>
    intro n k acc hk hn
    obtain ⟨n, rfl⟩ : ∃ k, n = k + 1 := ⟨n - 1, by omega⟩
    obtain rfl : k = cnA h b := by omega
    rw [fL_X8_pairs_20, if_pos h4, cb, e43, if_pos (Int32.le_refl _), Int32.sub_self, Int32.add_zero]
  | succ m ih =>
    intro n k acc hk hn
    obtain ⟨n, rfl⟩ : ∃ k, n = k + 1 := ⟨n - 1, by omega⟩
    have e1 : sm (cmP h x b) (k + 1) = sm (cmP h x b) k + cmP h x b k := rfl
    rw [fL_X8_pairs_20, if_pos h4, cb, e43, if_neg (fun q => by have := (nIl (by omega) (by omega)).mp q; omega)]
    refine (L_p34 R hb (by omega) x _ k FU 0 acc (by omega) (FUb (by omega))).trans ?_
    rw [ih n (k + 1) _ (by omega) (by omega), e1]
    have e0 : sm (fun k' => mvv h x (rwA h b k') (rwA h b k)) 0 = 0 := rfl
    rw [e0]
    generalize sm (cmP h x b) (cnA h b) = A
    generalize sm (cmP h x b) k = B
    generalize cmP h x b k = C
    clear e1 e0 ih hcn hr hp R
    congr 2
    grind
theorem sm_b {f : Nat → Int32} {c : Nat} : ∀ n, (∀ i, i < n → ∃ t, t ≤ c ∧ f i = nI t) → ∃ t, t ≤ n * c ∧ sm f n = nI t
  | 0, _ => ⟨0, by omega, rfl⟩
  | n + 1, hf => by
    obtain ⟨t, ht, e⟩ := sm_b n (fun i hi => hf i (by omega))
    obtain ⟨u, hu, e2⟩ := hf n (by omega)
    refine ⟨t + u, by rw [Nat.succ_mul]; omega, ?_⟩
    rw [sm, e, e2, nI_add]
