/-! ===== feed ===== -/
theorem by255 (W : Int64) : ∃ k, k < 256 ∧ W &&& 255 = lN k := by
  refine ⟨W.toBitVec.toNat % 256, Nat.mod_lt _ (by decide), ?_⟩
  apply Int64.toBitVec_inj.mp
  apply BitVec.eq_of_toNat_eq
  have e1 : (W &&& 255).toBitVec = W.toBitVec &&& 255#64 := rfl
  have e2 : (lN (W.toBitVec.toNat % 256)).toBitVec = BitVec.ofNat 64 (W.toBitVec.toNat % 256) := rfl
  rw [e1, e2, BitVec.toNat_and, BitVec.toNat_ofNat, BitVec.toNat_ofNat, show 255 % 2 ^ 64 = 2 ^ 8 - 1 by decide, Nat.and_two_pow_sub_one_eq_mod]
  omega
theorem byB (v : BitVec 64) : ((v &&& 255#64).signExtend 32).signExtend 8 = (v.signExtend 32).signExtend 8 := by
  apply BitVec.eq_of_getLsbD_eq
  intro i hi
  simp only [BitVec.getLsbD_signExtend, BitVec.getLsbD_and]
  have : (255#64).getLsbD i = true := by
    have : ∀ i, i < 8 → (255#64).getLsbD i = true := by decide
    exact this i hi
  rw [this]
  simp [show i < 32 by omega, show i < 64 by omega]
theorem by8 (W : Int64) : (Int64.toInt32 (W &&& 255)).toInt8 = (Int64.toInt32 W).toInt8 := by
  apply Int8.toBitVec_inj.mp
  exact byB W.toBitVec
theorem byN (y : Int8) : vp_nar .byte (Int8.toInt32 y) = Int8.toInt32 y := by
  show Int8.toInt32 (Int32.toInt8 (Int8.toInt32 y)) = Int8.toInt32 y
  congr 1
  simp
def fdM (w : Int64) (j : Nat) : Int32 := Int64.toInt32 ((w >>> (Int32.toInt64 ((8 : Int32) * nI j) &&& 63)) &&& (255 : Int64))
def fdC (w : Int64) (j : Nat) : Int32 := vp_nar .byte (Int8.toInt32 (Int32.toInt8 (Int64.toInt32 (w >>> (Int32.toInt64 ((8 : Int32) * nI j) &&& 63)))))
theorem fd_eq (w : Int64) (j : Nat) : fdC w j = (fdM w j).toInt8.toInt32 ∧ 0 ≤ fdM w j ∧ fdM w j ≤ 255 := by
  refine ⟨?_, ?_⟩
  · unfold fdC fdM
    rw [byN, by8]
  · unfold fdM
    obtain ⟨k, hk, e⟩ := by255 (w >>> (Int32.toInt64 ((8 : Int32) * nI j) &&& 63))
    rw [e, lN_i]
    exact ⟨(nIr (n := k) (k := 256) hk (by omega)).1, (nIl (n := k) (k := 255) (by omega) (by omega)).mpr (by omega)⟩
theorem L_feedC (h : Hp) (w : Int64) {c n : Nat} (e4 : gI h 3 0 4 = nI c) (hn : c + n ≤ 80) : ∀ (m N j : Nat), j + m = n → m < N → fL_X3_takeBytes_33 N w (nI n) (nI j) (hV h 18 0 c (fdC w) j) = some (nI (c + n), wI (hV h 18 0 c (fdC w) n) 3 0 4 (nI (c + n))) := by
  intro m
  have e4' : ∀ j, gI (hV h 18 0 c (fdC w) j) 3 0 4 = nI c := fun j => by rw [hV_I, if_neg (by omega), e4]
  induction m with
  | zero =>
    intro N j hj hN
    obtain ⟨N, rfl⟩ : ∃ k, N = k + 1 := ⟨N - 1, by omega⟩
    rw [fL_X3_takeBytes_33, if_pos ((nIl (by omega) (by omega)).mpr (by omega)), e4', nI_add, xI_wI, if_pos ⟨rfl, rfl, rfl⟩, show j = n by omega]
  | succ m ih =>
    intro N j hj hN
    obtain ⟨N, rfl⟩ : ∃ k, N = k + 1 := ⟨N - 1, by omega⟩
    rw [fL_X3_takeBytes_33, if_neg (fun q => by have := (nIl (by omega) (by omega)).mp q; omega), e4', nI_add, if_pos (show 0 ≤ nI (c + j) ∧ nI (c + j) < 80 from nIr (k := 80) (by omega) (by omega)), nI_s, nI_clamp (by omega)]
    have := ih N (j + 1) (by omega) (by omega)
    rw [hV] at this
    exact this
def hF (h : Hp) (c : Nat) (f : Nat → Int32) : Nat → Hp
  | 0 => h
  | m + 1 => wI (wI (hF h c f m) 48 0 (c + m) (f m)) 8 0 26 (nI (c + m + 1))
theorem hF_I (h : Hp) (c : Nat) (f : Nat → Int32) (t a k : Nat) : ∀ m, gI (hF h c f m) t a k = if t = 48 ∧ a = 0 ∧ c ≤ k ∧ k < c + m then f (k - c) else if t = 8 ∧ a = 0 ∧ k = 26 ∧ 0 < m then nI (c + m) else gI h t a k
  | 0 => by
    rw [if_neg (by omega), if_neg (by omega)]
    rfl
  | m + 1 => by
    rw [hF, xI_wI, xI_wI, hF_I h c f t a k m]
    by_cases e1 : t = 8 ∧ a = 0 ∧ k = 26
    · rw [if_pos e1, if_neg (by omega), if_pos ⟨e1.1, e1.2.1, e1.2.2, by omega⟩]
      rfl
    · rw [if_neg e1, if_neg (c := t = 8 ∧ a = 0 ∧ k = 26 ∧ 0 < m) (fun q => e1 ⟨q.1, q.2.1, q.2.2.1⟩), if_neg (c := t = 8 ∧ a = 0 ∧ k = 26 ∧ 0 < m + 1) (fun q => e1 ⟨q.1, q.2.1, q.2.2.1⟩)]
      by_cases e2 : t = 48 ∧ a = 0 ∧ k = c + m
      · rw [if_pos e2, if_pos (by omega), show k - c = m by omega]
      · rw [if_neg e2]
        by_cases e3 : t = 48 ∧ a = 0 ∧ c ≤ k ∧ k < c + m
        · rw [if_pos e3, if_pos (by omega)]
        · rw [if_neg e3, if_neg (by omega)]
theorem hF_N (h : Hp) (c : Nat) (f : Nat → Int32) (a : Nat) : ∀ m, gN (hF h c f m) a = gN h a
  | 0 => rfl
  | m + 1 => by rw [hF, xN_wI, xN_wI, hF_N h c f a m]
theorem hF_P (h : Hp) (c : Nat) (f : Nat → Int32) (a b k : Nat) : ∀ m, gP (hF h c f m) a b k = gP h a b k
  | 0 => rfl
  | m + 1 => by rw [hF, xP_wI, xP_wI, hF_P h c f a b k m]
theorem L_feedM (h : Hp) (w : Int64) {c n : Nat} (e26 : gI h 8 0 26 = nI c) (hn : c + n ≤ 80) : ∀ (m N j : Nat), j + m = n → m < N → fL_X8_feed_38 N w (nI n) (nI j) (hF h c (fdM w) j) = some (nI (c + n), hF h c (fdM w) n) := by
  intro m
  have e26' : ∀ j, gI (hF h c (fdM w) j) 8 0 26 = nI (c + j) := fun j => by
    rw [hF_I, if_neg (by omega)]
    by_cases j0 : 0 < j
    · rw [if_pos ⟨rfl, rfl, rfl, j0⟩]
    · rw [if_neg (by omega), e26, show j = 0 by omega]
      rfl
  have e26w : ∀ j k v, gI (wI (hF h c (fdM w) j) 48 0 k v) 8 0 26 = nI (c + j) := fun j k v => by rw [xI_wI, if_neg (by omega), e26']
  induction m with
  | zero =>
    intro N j hj hN
    obtain ⟨N, rfl⟩ : ∃ k, N = k + 1 := ⟨N - 1, by omega⟩
    rw [fL_X8_feed_38, if_pos ((nIl (by omega) (by omega)).mpr (by omega)), e26', show j = n by omega]
  | succ m ih =>
    intro N j hj hN
    obtain ⟨N, rfl⟩ : ∃ k, N = k + 1 := ⟨N - 1, by omega⟩
    rw [fL_X8_feed_38, if_neg (fun q => by have := (nIl (by omega) (by omega)).mp q; omega), e26w, e26', if_pos (show 0 ≤ nI (c + j) ∧ nI (c + j) < 80 from nIr (k := 80) (by omega) (by omega)), nI_s, nI_clamp (by omega), nI_s]
    have := ih N (j + 1) (by omega) (by omega)
    rw [hF] at this
    exact this
theorem Rel.tap {h h2 : Hp} (R : Rel h) (hN : ∀ a, gN h2 a = gN h a) (hP : ∀ a b c, gP h2 a b c = gP h a b c) (hI : ∀ t, t ≠ 3 → t ≠ 8 → t ≠ 18 → t ≠ 48 → ∀ b c, gI h2 t b c = gI h t b c) (h3 : gI h2 3 0 5 = gI h 3 0 5) (h8 : ∀ c, c ≠ 26 → gI h2 8 0 c = gI h 8 0 c)
    (S : TapR (gI h2 3 0 4) (gI h2 8 0 26) (fun j => gI h2 18 0 j) (fun j => gI h2 48 0 j)) : Rel h2 := by
  obtain ⟨a, b, c, d, e, f, g, k⟩ := R
  unfold Rel
  simp only [hN, hP, h3, h8 0 (by decide), h8 5 (by decide), h8 6 (by decide), h8 16 (by decide), h8 19 (by decide), h8 20 (by decide), h8 21 (by decide), h8 30 (by decide), hI 0 (by decide) (by decide) (by decide) (by decide), hI 1 (by decide) (by decide) (by decide) (by decide), hI 2 (by decide) (by decide) (by decide) (by decide), hI 5 (by decide) (by decide) (by decide) (by decide), hI 6 (by decide) (by decide) (by decide) (by decide), hI 7 (by decide) (by decide) (by decide) (by decide), hI 19 (by decide) (by decide) (by decide) (by decide), hI 20 (by decide) (by decide) (by decide) (by decide), hI 21 (by decide) (by decide) (by decide) (by decide), hI 23 (by decide) (by decide) (by decide) (by decide), hI 30 (by decide) (by decide) (by decide) (by decide), hI 31 (by decide) (by decide) (by decide) (by decide), hI 32 (by decide) (by decide) (by decide) (by decide), hI 33 (by decide) (by decide) (by decide) (by decide), hI 34 (by decide) (by decide) (by decide) (by decide), hI 35 (by decide) (by decide) (by decide) (by decide), hI 36 (by decide) (by decide) (by decide) (by decide), hI 37 (by decide) (by decide) (by decide) (by decide), hI 38 (by decide) (by decide) (by decide) (by decide), hI 39 (by decide) (by decide) (by decide) (by decide), hI 40 (by decide) (by decide) (by decide) (by decide), hI 41 (by decide) (by decide) (by decide) (by decide), hI 42 (by decide) (by decide) (by decide) (by decide), hI 43 (by decide) (by decide) (by decide) (by decide), hI 44 (by decide) (by decide) (by decide) (by decide), hI 45 (by decide) (by decide) (by decide) (by decide), hI 46 (by decide) (by decide) (by decide) (by decide), hI 47 (by decide) (by decide) (by decide) (by decide), hI 49 (by decide) (by decide) (by decide) (by decide), hI 50 (by decide) (by decide) (by decide) (by decide), hI 51 (by decide) (by decide) (by decide) (by decide)]
  exact ⟨a, b, c, d, e, f, S, k⟩
theorem Gr.sameT {h h2 : Hp} (hI : ∀ t, t ≠ 3 → t ≠ 8 → t ≠ 18 → t ≠ 48 → ∀ b c, gI h2 t b c = gI h t b c) : Gr h h2 := Gr.same (fun i => hI 41 (by decide) (by decide) (by decide) (by decide) 0 i) (fun i => hI 42 (by decide) (by decide) (by decide) (by decide) 0 i)
def hFd (h : Hp) (c n : Nat) (w : Int64) : Hp := wI (hV h 18 0 c (fdC w) n) 3 0 4 (nI (c + n))
theorem hFd_I (h : Hp) (c n : Nat) (w : Int64) (t a k : Nat) : gI (hFd h c n w) t a k = if t = 3 ∧ a = 0 ∧ k = 4 then nI (c + n) else if t = 18 ∧ a = 0 ∧ c ≤ k ∧ k < c + n then fdC w (k - c) else gI h t a k := by
  unfold hFd
  rw [xI_wI, hV_I]
theorem r_feed {h : Hp} (R : Rel h) {c n : Nat} (w : Int64) (n0 : 0 < n) (e26 : gI h 8 0 26 = nI c) (e4 : gI h 3 0 4 = nI c) (hn : c + n ≤ 80) (ht : ∀ j, j < c → gI h 18 0 j = (gI h 48 0 j).toInt8.toInt32 ∧ 0 ≤ gI h 48 0 j ∧ gI h 48 0 j ≤ 255) :
    Rel (hF (hFd h c n w) c (fdM w) n) ∧ Gr h (hF (hFd h c n w) c (fdM w) n) := by
  have key : ∀ t, t ≠ 3 → t ≠ 8 → t ≠ 18 → t ≠ 48 → ∀ b k, gI (hF (hFd h c n w) c (fdM w) n) t b k = gI h t b k := by
    intro t a1 a2 a3 a4 b k
    rw [hF_I, if_neg (fun q => a4 q.1), if_neg (fun q => a2 q.1), hFd_I, if_neg (fun q => a1 q.1), if_neg (fun q => a3 q.1)]
  refine ⟨R.tap ?_ ?_ key ?_ ?_ ?_, Gr.sameT key⟩
  · intro a; rw [hF_N, hFd, xN_wI, hV_N]
  · intro a b k; rw [hF_P, hFd, xP_wI, hV_P]
  · rw [hF_I, if_neg (by omega), if_neg (by omega), hFd_I, if_neg (by omega), if_neg (by omega)]
  · intro k hk
    rw [hF_I, if_neg (by omega), if_neg (by omega), hFd_I, if_neg (by omega), if_neg (by omega)]
  · refine ⟨?_, c + n, hn, ?_, fun j hj => ?_⟩
    · rw [hF_I, if_neg (by omega), if_neg (by omega), hFd_I, if_pos ⟨rfl, rfl, rfl⟩, hF_I, if_neg (by omega), if_pos ⟨rfl, rfl, rfl, n0⟩]
    · rw [hF_I, if_neg (by omega), if_pos ⟨rfl, rfl, rfl, n0⟩]
    · show gI (hF (hFd h c n w) c (fdM w) n) 18 0 j = (gI (hF (hFd h c n w) c (fdM w) n) 48 0 j).toInt8.toInt32 ∧ 0 ≤ gI (hF (hFd h c n w) c (fdM w) n) 48 0 j ∧ gI (hF (hFd h c n w) c (fdM w) n) 48 0 j ≤ 255
      rw [hF_I (t := 18), if_neg (by omega), if_neg (by omega), hFd_I, if_neg (by omega), hF_I (t := 48)]
      by_cases e : c ≤ j
      · rw [if_pos ⟨rfl, rfl, e, hj⟩, if_pos ⟨rfl, rfl, e, hj⟩]
        exact fd_eq w (j - c)
      · rw [if_neg (by omega), if_neg (by omega), if_neg (by omega), hFd_I, if_neg (by omega), if_neg (by omega)]
        exact ht j (by omega)
theorem p_feed {h : Hp} (R : Rel h) (w : Int64) (x : Int32) : Pm h (f_X7_feed w x) (f_X8_feed w x) := by
  obtain ⟨en, c, hc, ec, ht⟩ := R.2.2.2.2.2.2.1
  simp only at ht
  have e4 : gI h 3 0 4 = nI c := en.trans ec
  by_cases r1 : 1 ≤ x ∧ x ≤ 8
  · obtain ⟨n, hn, rfl⟩ := ofR (x := x) (n := 9) (by decide) (Int32.le_trans (by decide) r1.1) (Int32.lt_of_le_of_lt r1.2 (by decide))
    have n0 : 1 ≤ n := (nIl (n := 1) (by omega) (by omega)).mp r1.1
    by_cases r2 : c + n ≤ 80
    · have r2' : nI (c + n) ≤ 80 := (nIl (k := 80) (by omega) (by omega)).mpr r2
      have hv : ¬ nI (c + n) < -1000000 := fun q => absurd (Int32.lt_of_le_of_lt (nIr (n := c + n) (k := 100) (by omega) (by omega)).1 q) (by decide)
      have LC : fL_X3_takeBytes_33 FU w (nI n) 0 h = some (nI (c + n), hFd h c n w) := L_feedC h w e4 r2 n FU 0 (by omega) (FUb (by omega))
      have e26 : gI (hFd h c n w) 8 0 26 = nI c := by rw [hFd_I, if_neg (by omega), if_neg (by omega), ec]
      have LM : fL_X8_feed_38 FU w (nI n) 0 (hFd h c n w) = some (nI (c + n), hF (hFd h c n w) c (fdM w) n) := L_feedM (hFd h c n w) w e26 r2 n FU 0 (by omega) (FUb (by omega))
      obtain ⟨R2, G2⟩ := r_feed R w n0 ec e4 r2 ht
      refine ⟨nI (c + n), hFd h c n w, _, ?_, ?_, R2, G2⟩
      · simp only [f_X7_feed, f_X3_takeBytes, w_isWithin, decide_eq_true r1, bnd_some, if_true, e4, nI_add, if_pos r2', LC, c_same hv]
      · simp only [f_X8_feed, w_within, decide_eq_true r1, bnd_some, if_true, e26, nI_add, if_pos r2', LM]
    · have r2' : ¬ nI (c + n) ≤ 80 := fun q => r2 ((nIl (k := 80) (by omega) (by omega)).mp q)
      have e26 : gI (hcF h) 8 0 26 = nI c := ec
      refine Pm.find R (-1000002) ?_ ?_
      · simp only [f_X7_feed, f_X3_takeBytes, w_isWithin, decide_eq_true r1, bnd_some, if_true, e4, nI_add, if_neg r2', c_find (c := -1000002) (by decide)]
      · simp only [f_X8_feed, w_within, decide_eq_true r1, bnd_some, if_true, e26, nI_add, if_neg r2', fnd_eta]
  · refine Pm.find R (-1000001) ?_ ?_
    · simp only [f_X7_feed, f_X3_takeBytes, w_isWithin, decide_eq_false r1, bnd_some, c_find (c := -1000001) (by decide)]
      rfl
    · simp only [f_X8_feed, w_within, decide_eq_false r1, bnd_some, fnd_eta]
      rfl
