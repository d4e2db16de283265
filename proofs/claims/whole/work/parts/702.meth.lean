theorem L_p34 {h : Hp} (R : Rel h) {b k : Nat} (hb : b < gN h 0) (hk : k < cnA h b) (x : Int32) (c20 : Int32 → Int32 → Int32 → Int32 → Hp → Option (Int32 × Hp)) : ∀ (m n l : Nat) (acc : Int32), l + m = k → m < n →
    fL_X8_pairs_34 c20 n (nI b) x acc (nI k) (nI l) h = c20 (nI b) x (acc + (cmP h x b k - sm (fun k' => mvv h x (rwA h b k') (rwA h b k)) l)) (nI (k + 1)) h := by
  obtain ⟨⟨hB, hT⟩, hcn, hr, hp⟩ := R.pos
  have c6 := (hcn b hb).1
  have hq := hr b k hb hk
  intro m
  induction m with
  | zero =>
    intro n l acc hl hn
    obtain ⟨n, rfl⟩ : ∃ k, n = k + 1 := ⟨n - 1, by omega⟩
    obtain rfl : l = k := by omega
    rw [fL_X8_pairs_34, if_pos (Int32.le_refl _), nI_s]
    unfold cmP
    rw [Int32.sub_self, Int32.add_zero]
  | succ m ih =>
    intro n l acc hl hn
    obtain ⟨n, rfl⟩ : ∃ k, n = k + 1 := ⟨n - 1, by omega⟩
    have hq' := hr b l hb (by omega)
    have i1 := fun acc => ih n (l + 1) acc (by omega) (by omega)
    have a1 : 0 ≤ nI (6 * b + l) ∧ nI (6 * b + l) < 24 := nIr (k := 24) (by omega) (by omega)
    have a2 : 0 ≤ nI (6 * b + k) ∧ nI (6 * b + k) < 24 := nIr (k := 24) (by omega) (by omega)
    have a3 : 0 ≤ nI (rwA h b l) ∧ nI (rwA h b l) < 8 := nIr (k := 8) (by omega) (by omega)
    have a4 : 0 ≤ nI (rwA h b k) ∧ nI (rwA h b k) < 8 := nIr (k := 8) (by omega) (by omega)
    have c1 : (nI (6 * b + l)).toNatClampNeg = 6 * b + l := nI_clamp (by omega)
    have c2 : (nI (6 * b + k)).toNatClampNeg = 6 * b + k := nI_clamp (by omega)
    have c3 : (nI (rwA h b l)).toNatClampNeg = rwA h b l := nI_clamp (by omega)
    have c4 : (nI (rwA h b k)).toNatClampNeg = rwA h b k := nI_clamp (by omega)
    have e1 : sm (fun k' => mvv h x (rwA h b k') (rwA h b k)) (l + 1) = sm (fun k' => mvv h x (rwA h b k') (rwA h b k)) l + mvv h x (rwA h b l) (rwA h b k) := rfl
    have g : ∀ v : Int32, mvv h x (rwA h b l) (rwA h b k) = v → fL_X8_pairs_34 c20 n (nI b) x (acc + v) (nI k) (nI (l + 1)) h = c20 (nI b) x (acc + (cmP h x b k - sm (fun k' => mvv h x (rwA h b k') (rwA h b k)) l)) (nI (k + 1)) h := by
      intro v hv
      rw [i1, e1, hv]
      congr 1
      generalize cmP h x b k = A
      generalize sm (fun k' => mvv h x (rwA h b k') (rwA h b k)) l = B
      clear i1 e1 ih hcn hr hp R
      grind
    rw [fL_X8_pairs_34, if_neg (fun q => by have := (nIl (by omega) (by omega)).mp q; omega), i6, i6, if_pos a1, if_pos a2, c1, c2, hq.2.1, hq'.2.1, c3, c4]
    by_cases x0 : x = 0
    · rw [if_pos x0, f_X8_movesMaybe, if_pos a3, if_pos a4, c3, c4]
      by_cases q : gI h 39 0 (rwA h b k) ≤ gI h 38 0 (rwA h b l)
      · rw [if_pos q, bnd_some, fJ_X8_pairs_106, if_pos (show bi false = 0 by decide), nI_s]
        exact g 0 ((if_pos x0).trans (if_pos q))
      · rw [if_neg q, bnd_some, fJ_X8_pairs_106, if_neg (by decide), nI_s]
        exact g 1 ((if_pos x0).trans (if_neg q))
    · rw [if_neg x0, if_pos a3, if_pos a4]
      by_cases q : gI h 38 0 (rwA h b k) ≤ gI h 39 0 (rwA h b l)
      · rw [if_pos q, fJ_X8_pairs_106, if_pos rfl, nI_s]
        exact g 0 ((if_neg x0).trans (if_pos q))
      · rw [if_neg q, fJ_X8_pairs_106, if_neg (by decide), nI_s]
        exact g 1 ((if_neg x0).trans (if_neg q))
