theorem uS_f {U : US} {t i j a c k : Nat} (h : U a c k = false) : uS U t i j a c k = false := by
  unfold uS
  split
  · rfl
  · exact h
theorem uN_f {U : US} {t i a c k : Nat} (h : U a c k = false) (hn : ¬ (a = t ∧ c = i ∧ fty a k = 2)) : uN U t i a c k = false := by
  unfold uN
  rw [if_neg hn]
  exact h
def lawU : US := (uS (uS (uS (uS (uS (uS (uS (uS (uS (uS (uS (uS (uS (uS (uS (uS (uS (uS (uS (uS (uS (uS (uS (uS (uS (uS (uS (uS (uS (uS (uS (uS (uN (uS (uN (uS (uN (uS (uN (uS (uN (uS (uS (uS (uS (uS (uS (uN (uS (uS (uS (uS (uS (uS (uS (uN (uS (uN (uS (uS (uS (uN (uN U0 7 0) 5 0) 5 0 0) 5 0 1) 7 0 0) 2 0) 7 0 1) 4 0) 4 0 0) 4 0 1) 4 0 2) 4 0 3) 4 0 4) 4 0 5) 7 0 2) 3 0) 3 0 0) 3 0 1) 3 0 2) 3 0 3) 7 0 3) 7 0 4) 6 0) 6 0 0) 6 1) 6 1 0) 6 2) 6 2 0) 6 3) 6 3 0) 8 0) 8 0 1) 8 0 2) 8 0 3) 8 0 4) 8 0 7) 8 0 8) 8 0 9) 8 0 10) 8 0 11) 8 0 12) 8 0 13) 8 0 14) 8 0 15) 8 0 17) 8 0 18) 8 0 22) 8 0 23) 8 0 24) 8 0 25) 8 0 27) 8 0 28) 8 0 29) 8 0 32) 8 0 33) 8 0 34) 8 0 35) 8 0 36) 8 0 37) 8 0 41) 8 0 42) 8 0 43) 8 0 44)
theorem lawU_in : ∀ a, a < 9 → ∀ c, c < 4 → ∀ k, k < 45 → lawU a c k = false := by decide +kernel
theorem gd_out {α : Type} (l : List α) (k : Nat) (d : α) (h : l.length ≤ k) : l.getD k d = d := by
  rw [List.getD_eq_getElem?_getD, List.getElem?_eq_none h]
  rfl
theorem fty_out : ∀ a k, (9 ≤ a ∨ 45 ≤ k) → ¬ fty a k = 2 := by
  intro a k hak
  unfold fty
  rcases hak with h | h
  · match a, h with
    | a + 9, _ => exact fun e => absurd ((gd_out [] k 9 (Nat.zero_le _)).symm.trans e) (by decide)
  · match a with
    | 0 => exact fun e => absurd ((gd_out _ k 9 (Nat.le_trans (by decide) h)).symm.trans e) (by decide)
    | 1 => exact fun e => absurd ((gd_out _ k 9 (Nat.le_trans (by decide) h)).symm.trans e) (by decide)
    | 2 => exact fun e => absurd ((gd_out _ k 9 (Nat.le_trans (by decide) h)).symm.trans e) (by decide)
    | 3 => exact fun e => absurd ((gd_out _ k 9 (Nat.le_trans (by decide) h)).symm.trans e) (by decide)
    | 4 => exact fun e => absurd ((gd_out _ k 9 (Nat.le_trans (by decide) h)).symm.trans e) (by decide)
    | 5 => exact fun e => absurd ((gd_out _ k 9 (Nat.le_trans (by decide) h)).symm.trans e) (by decide)
    | 6 => exact fun e => absurd ((gd_out _ k 9 (Nat.le_trans (by decide) h)).symm.trans e) (by decide)
    | 7 => exact fun e => absurd ((gd_out _ k 9 (Nat.le_trans (by decide) h)).symm.trans e) (by decide)
    | 8 => exact fun e => absurd ((gd_out _ k 9 (Nat.le_trans (by decide) h)).symm.trans e) (by decide)
    | a + 9 => exact fun e => absurd ((gd_out [] k 9 (Nat.zero_le _)).symm.trans e) (by decide)
theorem law_U : ∀ t i k, ¬ fty t k = 0 → ¬ fty t k = 1 → U0 t i k = (uS (uS (uS (uS (uS (uS (uS (uS (uS (uS (uS (uS (uS (uS (uS (uS (uS (uS (uS (uS (uS (uS (uS (uS (uS (uS (uS (uS (uS (uS (uS (uS (uN (uS (uN (uS (uN (uS (uN (uS (uN (uS (uS (uS (uS (uS (uS (uN (uS (uS (uS (uS (uS (uS (uS (uN (uS (uN (uS (uS (uS (uN (uN U0 7 0) 5 0) 5 0 0) 5 0 1) 7 0 0) 2 0) 7 0 1) 4 0) 4 0 0) 4 0 1) 4 0 2) 4 0 3) 4 0 4) 4 0 5) 7 0 2) 3 0) 3 0 0) 3 0 1) 3 0 2) 3 0 3) 7 0 3) 7 0 4) 6 0) 6 0 0) 6 1) 6 1 0) 6 2) 6 2 0) 6 3) 6 3 0) 8 0) 8 0 1) 8 0 2) 8 0 3) 8 0 4) 8 0 7) 8 0 8) 8 0 9) 8 0 10) 8 0 11) 8 0 12) 8 0 13) 8 0 14) 8 0 15) 8 0 17) 8 0 18) 8 0 22) 8 0 23) 8 0 24) 8 0 25) 8 0 27) 8 0 28) 8 0 29) 8 0 32) 8 0 33) 8 0 34) 8 0 35) 8 0 36) 8 0 37) 8 0 41) 8 0 42) 8 0 43) 8 0 44) t i k := by
  intro a c k _ _
  show false = lawU a c k
  symm
  by_cases h : a < 9 ∧ c < 4 ∧ k < 45
  · exact lawU_in a h.1 c h.2.1 k h.2.2
  · have hn : ∀ t i, i < 4 → ¬ (a = t ∧ c = i ∧ fty a k = 2) := by
      rintro t i hi ⟨-, rfl, e⟩
      exact fty_out a k (by omega) e
    unfold lawU
    repeat first | exact uN_f rfl (hn _ _ (by decide)) | refine uS_f ?_ | refine uN_f ?_ (hn _ _ (by decide))
abbrev mL_law (L : Nat) (xs : Nat → Int32) : MD := (yL_law, cL_law, 4, (some .boolean), room_1, some (L, xs))
def fJ_L_law_278 (L : Nat) (xs : Nat → Int32) (c18 : Int32 → Hp → Option (Bool × Hp)) (x3 : Int32) (xs0 : Int32) (xs2 : Int32) (xs3 : Int32) (xs4 : Int32) (xs5 : Int32) (h : Hp) : Option (Bool × Hp) := ((f_X8_boat xs2 xs3 xs4 xs5 h).bind fun r23 => (if xs0 = r23.1 then (c18 (x3 + 6) r23.2) else (some (false, r23.2))))
set_option maxRecDepth 100000 in
set_option maxHeartbeats 4000000 in
theorem aJ_L_law_278 (L : Nat) (xs : Nat → Int32) (hL : (Int32.ofNat L).toInt = (L : Int)) (n : Nat) (c18 : Int32 → Hp → Option (Bool × Hp)) (hc18 : ∀ (x3 : Int32) (h : Hp), Aw eB U0 (mL_law L xs) (n, 12 * n) U0 18 [some (vr 99 (some 0)), some (vr 7 (some 0)), some (vr 8 (some 0)), some (vi x3)] [] h (c18 x3 h)) (x3 : Int32) (xs0 : Int32) (xs2 : Int32) (xs3 : Int32) (xs4 : Int32) (xs5 : Int32) (h : Hp) : Aw eB U0 (mL_law L xs) (n, 12 * n) U0 278 [some (vr 99 (some 0)), some (vr 7 (some 0)), some (vr 8 (some 0)), some (vi x3)] [vi xs5, vi xs4, vi xs3, vi xs2, vr 8 (some 0), vi xs0] h (fJ_L_law_278 L xs c18 x3 xs0 xs2 xs3 xs4 xs5 h) := by
  unfold fJ_L_law_278
  refine A_callV (pc := 278) (M' := mX8_boat) (As := [vi xs2, vi xs3, vi xs4, vi xs5]) (st := [vi xs0]) (n, 12 * n) (fun r23 => [vi r23.1, vi xs0]) (fun r23 => r23.2) (a_X8_boat xs2 xs3 xs4 xs5 h) kD_X8_boat kM_L_22 kI_X8_boat kS_X8_boat kN_X8 ⟨(Nat.le_of_ble_eq_true rfl), (Nat.le_of_ble_eq_true rfl)⟩ dL_law_278 rfl rfl rfl (by decide) rfl (Nat.le_of_ble_eq_true rfl) (show n + 0 ≤ n by omega) (show 12 * n + 0 ≤ 12 * n by omega) (fun _ => rfl) (fun _ => rfl) (fun r23 => ?_)
  refine A_icmp_eq (pc := 281) (tgt := 1199) dL_law_281 (by decide) ?_ ?_
  · refine A_iinc (pc := 1199) (i := 3) (v := (x3 + 6)) (ls2 := [some (vr 99 (some 0)), some (vr 7 (some 0)), some (vr 8 (some 0)), some (vi (x3 + 6))]) dL_law_1199 rfl rfl (Nat.le_of_ble_eq_true rfl) rfl ?_
    refine A_goto (pc := 1202) (tgt := 18) dL_law_1202 (by decide) ?_
    exact Aw.weak (ls' := [some (vr 99 (some 0)), some (vr 7 (some 0)), some (vr 8 (some 0)), some (vi (x3 + 6))]) ⟨rfl, ⟨rfl, ⟨rfl, ⟨rfl, trivial⟩⟩⟩⟩ (hc18 (x3 + 6) r23.2)
  · refine A_iconst (pc := 284) (v := (0 : Int32)) dL_law_284 (by decide) ?_
    exact A_retB rfl rfl dL_law_285
def fJ_L_law_246 (L : Nat) (xs : Nat → Int32) (c18 : Int32 → Hp → Option (Bool × Hp)) (x3 : Int32) (xs1 : Int32) (xs2 : Int32) (xs3 : Int32) (xs4 : Int32) (h : Hp) : Option (Bool × Hp) := ((f_X7_boat xs1 xs2 xs3 xs4 h).bind fun r18 => (if 0 ≤ (x3 + (1 : Int32)) ∧ (x3 + (1 : Int32)) < Int32.ofNat L then (if 0 ≤ (x3 + (2 : Int32)) ∧ (x3 + (2 : Int32)) < Int32.ofNat L then (if 0 ≤ (x3 + (3 : Int32)) ∧ (x3 + (3 : Int32)) < Int32.ofNat L then (if 0 ≤ (x3 + (4 : Int32)) ∧ (x3 + (4 : Int32)) < Int32.ofNat L then (if (xs (Int32.toNatClampNeg (x3 + (4 : Int32)))) = 0 then (fJ_L_law_278 L xs c18 x3 r18.1 (xs (Int32.toNatClampNeg (x3 + (1 : Int32)))) (xs (Int32.toNatClampNeg (x3 + (2 : Int32)))) (xs (Int32.toNatClampNeg (x3 + (3 : Int32)))) (0 : Int32) r18.2) else (fJ_L_law_278 L xs c18 x3 r18.1 (xs (Int32.toNatClampNeg (x3 + (1 : Int32)))) (xs (Int32.toNatClampNeg (x3 + (2 : Int32)))) (xs (Int32.toNatClampNeg (x3 + (3 : Int32)))) (1 : Int32) r18.2)) else none) else none) else none) else none))
set_option maxRecDepth 100000 in
set_option maxHeartbeats 4000000 in
theorem aJ_L_law_246 (L : Nat) (xs : Nat → Int32) (hL : (Int32.ofNat L).toInt = (L : Int)) (n : Nat) (c18 : Int32 → Hp → Option (Bool × Hp)) (hc18 : ∀ (x3 : Int32) (h : Hp), Aw eB U0 (mL_law L xs) (n, 12 * n) U0 18 [some (vr 99 (some 0)), some (vr 7 (some 0)), some (vr 8 (some 0)), some (vi x3)] [] h (c18 x3 h)) (x3 : Int32) (xs1 : Int32) (xs2 : Int32) (xs3 : Int32) (xs4 : Int32) (h : Hp) : Aw eB U0 (mL_law L xs) (n + 1, 12 * n + 12) U0 246 [some (vr 99 (some 0)), some (vr 7 (some 0)), some (vr 8 (some 0)), some (vi x3)] [vi xs4, vi xs3, vi xs2, vi xs1, vr 7 (some 0)] h (fJ_L_law_246 L xs c18 x3 xs1 xs2 xs3 xs4 h) := by
  unfold fJ_L_law_246
  refine A_callV (pc := 246) (M' := mX7_boat) (As := [vi xs1, vi xs2, vi xs3, vi xs4]) (st := []) (n, 12 * n) (fun r18 => [vi r18.1]) (fun r18 => r18.2) (a_X7_boat xs1 xs2 xs3 xs4 h) kD_X7_boat kM_L_18 kI_X7_boat kS_X7_boat kN_X7 ⟨(Nat.le_of_ble_eq_true rfl), (Nat.le_of_ble_eq_true rfl)⟩ dL_law_246 rfl rfl rfl (by decide) rfl (Nat.le_of_ble_eq_true rfl) (show n + 1 ≤ n + 1 by omega) (show 12 * n + 12 ≤ 12 * n + 12 by omega) (fun _ => rfl) (fun _ => rfl) (fun r18 => ?_)
  refine A_aload_n (pc := 249) (i := 2) dL_law_249 rfl rfl ?_
  refine A_aload_n (pc := 250) (i := 0) dL_law_250 rfl rfl ?_
  refine A_iload_n (pc := 251) (i := 3) dL_law_251 rfl rfl ?_
  refine A_iconst (pc := 252) (v := (1 : Int32)) dL_law_252 (by decide) ?_
  refine A_iadd (pc := 253) dL_law_253 ?_
  refine A_ite (fun hg19 => ?_) (fun _ => Aw.none)
  refine A_sld (pc := 254) (L := L) (xs := xs) rfl dL_law_254 (in_of hL hg19) ?_
  refine A_aload_n (pc := 255) (i := 0) dL_law_255 rfl rfl ?_
  refine A_iload_n (pc := 256) (i := 3) dL_law_256 rfl rfl ?_
  refine A_iconst (pc := 257) (v := (2 : Int32)) dL_law_257 (by decide) ?_
  refine A_iadd (pc := 258) dL_law_258 ?_
  refine A_ite (fun hg20 => ?_) (fun _ => Aw.none)
  refine A_sld (pc := 259) (L := L) (xs := xs) rfl dL_law_259 (in_of hL hg20) ?_
  refine A_aload_n (pc := 260) (i := 0) dL_law_260 rfl rfl ?_
  refine A_iload_n (pc := 261) (i := 3) dL_law_261 rfl rfl ?_
  refine A_iconst (pc := 262) (v := (3 : Int32)) dL_law_262 (by decide) ?_
  refine A_iadd (pc := 263) dL_law_263 ?_
  refine A_ite (fun hg21 => ?_) (fun _ => Aw.none)
  refine A_sld (pc := 264) (L := L) (xs := xs) rfl dL_law_264 (in_of hL hg21) ?_
  refine A_aload_n (pc := 265) (i := 0) dL_law_265 rfl rfl ?_
  refine A_iload_n (pc := 266) (i := 3) dL_law_266 rfl rfl ?_
  refine A_iconst (pc := 267) (v := (4 : Int32)) dL_law_267 (by decide) ?_
  refine A_iadd (pc := 268) dL_law_268 ?_
  refine A_ite (fun hg22 => ?_) (fun _ => Aw.none)
  refine A_sld (pc := 269) (L := L) (xs := xs) rfl dL_law_269 (in_of hL hg22) ?_
  refine A_if_eq (pc := 270) (tgt := 277) dL_law_270 (by decide) ?_ ?_
  · refine A_iconst (pc := 277) (v := (0 : Int32)) dL_law_277 (by decide) ?_
    exact Aw.weak (ls' := [some (vr 99 (some 0)), some (vr 7 (some 0)), some (vr 8 (some 0)), some (vi x3)]) ⟨rfl, ⟨rfl, ⟨rfl, ⟨rfl, trivial⟩⟩⟩⟩ (aJ_L_law_278 L xs hL n c18 hc18 x3 r18.1 (xs (Int32.toNatClampNeg (x3 + (1 : Int32)))) (xs (Int32.toNatClampNeg (x3 + (2 : Int32)))) (xs (Int32.toNatClampNeg (x3 + (3 : Int32)))) (0 : Int32) r18.2)
  · refine A_iconst (pc := 273) (v := (1 : Int32)) dL_law_273 (by decide) ?_
    refine A_goto (pc := 274) (tgt := 278) dL_law_274 (by decide) ?_
    exact Aw.weak (ls' := [some (vr 99 (some 0)), some (vr 7 (some 0)), some (vr 8 (some 0)), some (vi x3)]) ⟨rfl, ⟨rfl, ⟨rfl, ⟨rfl, trivial⟩⟩⟩⟩ (aJ_L_law_278 L xs hL n c18 hc18 x3 r18.1 (xs (Int32.toNatClampNeg (x3 + (1 : Int32)))) (xs (Int32.toNatClampNeg (x3 + (2 : Int32)))) (xs (Int32.toNatClampNeg (x3 + (3 : Int32)))) (1 : Int32) r18.2)
def fJ_L_law_680 (L : Nat) (xs : Nat → Int32) (c18 : Int32 → Hp → Option (Bool × Hp)) (x3 : Int32) (xs0 : Int32) (xs2 : Int32) (xs3 : Int32) (h : Hp) : Option (Bool × Hp) := ((f_X8_pairs xs2 xs3 h).bind fun r93 => (if xs0 = r93.1 then (c18 (x3 + 6) r93.2) else (some (false, r93.2))))
set_option maxRecDepth 100000 in
set_option maxHeartbeats 4000000 in
theorem aJ_L_law_680 (L : Nat) (xs : Nat → Int32) (hL : (Int32.ofNat L).toInt = (L : Int)) (n : Nat) (c18 : Int32 → Hp → Option (Bool × Hp)) (hc18 : ∀ (x3 : Int32) (h : Hp), Aw eB U0 (mL_law L xs) (n, 12 * n) U0 18 [some (vr 99 (some 0)), some (vr 7 (some 0)), some (vr 8 (some 0)), some (vi x3)] [] h (c18 x3 h)) (x3 : Int32) (xs0 : Int32) (xs2 : Int32) (xs3 : Int32) (h : Hp) : Aw eB U0 (mL_law L xs) (n, 12 * n) U0 680 [some (vr 99 (some 0)), some (vr 7 (some 0)), some (vr 8 (some 0)), some (vi x3)] [vi xs3, vi xs2, vr 8 (some 0), vi xs0] h (fJ_L_law_680 L xs c18 x3 xs0 xs2 xs3 h) := by
  unfold fJ_L_law_680
  refine A_callV (pc := 680) (M' := mX8_pairs) (As := [vi xs2, vi xs3]) (st := [vi xs0]) (n, 12 * n) (fun r93 => [vi r93.1, vi xs0]) (fun r93 => r93.2) (a_X8_pairs xs2 xs3 h) kD_X8_pairs kM_L_74 kI_X8_pairs kS_X8_pairs kN_X8 ⟨(Nat.le_of_ble_eq_true rfl), (Nat.le_of_ble_eq_true rfl)⟩ dL_law_680 rfl rfl rfl (by decide) rfl (Nat.le_of_ble_eq_true rfl) (show n + 0 ≤ n by omega) (show 12 * n + 0 ≤ 12 * n by omega) (fun _ => rfl) (fun _ => rfl) (fun r93 => ?_)
  refine A_icmp_eq (pc := 683) (tgt := 1199) dL_law_683 (by decide) ?_ ?_
  · refine A_iinc (pc := 1199) (i := 3) (v := (x3 + 6)) (ls2 := [some (vr 99 (some 0)), some (vr 7 (some 0)), some (vr 8 (some 0)), some (vi (x3 + 6))]) dL_law_1199 rfl rfl (Nat.le_of_ble_eq_true rfl) rfl ?_
    refine A_goto (pc := 1202) (tgt := 18) dL_law_1202 (by decide) ?_
    exact Aw.weak (ls' := [some (vr 99 (some 0)), some (vr 7 (some 0)), some (vr 8 (some 0)), some (vi (x3 + 6))]) ⟨rfl, ⟨rfl, ⟨rfl, ⟨rfl, trivial⟩⟩⟩⟩ (hc18 (x3 + 6) r93.2)
  · refine A_iconst (pc := 686) (v := (0 : Int32)) dL_law_686 (by decide) ?_
    exact A_retB rfl rfl dL_law_687
def fJ_L_law_658 (L : Nat) (xs : Nat → Int32) (c18 : Int32 → Hp → Option (Bool × Hp)) (x3 : Int32) (xs1 : Int32) (xs2 : Int32) (h : Hp) : Option (Bool × Hp) := ((f_X7_pairs xs1 xs2 h).bind fun r90 => (if 0 ≤ (x3 + (1 : Int32)) ∧ (x3 + (1 : Int32)) < Int32.ofNat L then (if 0 ≤ (x3 + (2 : Int32)) ∧ (x3 + (2 : Int32)) < Int32.ofNat L then (if (xs (Int32.toNatClampNeg (x3 + (2 : Int32)))) = 0 then (fJ_L_law_680 L xs c18 x3 r90.1 (xs (Int32.toNatClampNeg (x3 + (1 : Int32)))) (0 : Int32) r90.2) else (fJ_L_law_680 L xs c18 x3 r90.1 (xs (Int32.toNatClampNeg (x3 + (1 : Int32)))) (1 : Int32) r90.2)) else none) else none))
set_option maxRecDepth 100000 in
set_option maxHeartbeats 4000000 in
theorem aJ_L_law_658 (L : Nat) (xs : Nat → Int32) (hL : (Int32.ofNat L).toInt = (L : Int)) (n : Nat) (c18 : Int32 → Hp → Option (Bool × Hp)) (hc18 : ∀ (x3 : Int32) (h : Hp), Aw eB U0 (mL_law L xs) (n, 12 * n) U0 18 [some (vr 99 (some 0)), some (vr 7 (some 0)), some (vr 8 (some 0)), some (vi x3)] [] h (c18 x3 h)) (x3 : Int32) (xs1 : Int32) (xs2 : Int32) (h : Hp) : Aw eB U0 (mL_law L xs) (n + 1, 12 * n + 12) U0 658 [some (vr 99 (some 0)), some (vr 7 (some 0)), some (vr 8 (some 0)), some (vi x3)] [vi xs2, vi xs1, vr 7 (some 0)] h (fJ_L_law_658 L xs c18 x3 xs1 xs2 h) := by
  unfold fJ_L_law_658
  refine A_callV (pc := 658) (M' := mX7_pairs) (As := [vi xs1, vi xs2]) (st := []) (n, 12 * n) (fun r90 => [vi r90.1]) (fun r90 => r90.2) (a_X7_pairs xs1 xs2 h) kD_X7_pairs kM_L_70 kI_X7_pairs kS_X7_pairs kN_X7 ⟨(Nat.le_of_ble_eq_true rfl), (Nat.le_of_ble_eq_true rfl)⟩ dL_law_658 rfl rfl rfl (by decide) rfl (Nat.le_of_ble_eq_true rfl) (show n + 0 ≤ n + 1 by omega) (show 12 * n + 0 ≤ 12 * n + 12 by omega) (fun _ => rfl) (fun _ => rfl) (fun r90 => ?_)
  refine A_aload_n (pc := 661) (i := 2) dL_law_661 rfl rfl ?_
  refine A_aload_n (pc := 662) (i := 0) dL_law_662 rfl rfl ?_
  refine A_iload_n (pc := 663) (i := 3) dL_law_663 rfl rfl ?_
  refine A_iconst (pc := 664) (v := (1 : Int32)) dL_law_664 (by decide) ?_
  refine A_iadd (pc := 665) dL_law_665 ?_
  refine A_ite (fun hg91 => ?_) (fun _ => Aw.none)
  refine A_sld (pc := 666) (L := L) (xs := xs) rfl dL_law_666 (in_of hL hg91) ?_
  refine A_aload_n (pc := 667) (i := 0) dL_law_667 rfl rfl ?_
  refine A_iload_n (pc := 668) (i := 3) dL_law_668 rfl rfl ?_
  refine A_iconst (pc := 669) (v := (2 : Int32)) dL_law_669 (by decide) ?_
  refine A_iadd (pc := 670) dL_law_670 ?_
  refine A_ite (fun hg92 => ?_) (fun _ => Aw.none)
  refine A_sld (pc := 671) (L := L) (xs := xs) rfl dL_law_671 (in_of hL hg92) ?_
  refine A_if_eq (pc := 672) (tgt := 679) dL_law_672 (by decide) ?_ ?_
  · refine A_iconst (pc := 679) (v := (0 : Int32)) dL_law_679 (by decide) ?_
    exact Aw.weak (ls' := [some (vr 99 (some 0)), some (vr 7 (some 0)), some (vr 8 (some 0)), some (vi x3)]) ⟨rfl, ⟨rfl, ⟨rfl, ⟨rfl, trivial⟩⟩⟩⟩ (aJ_L_law_680 L xs hL n c18 hc18 x3 r90.1 (xs (Int32.toNatClampNeg (x3 + (1 : Int32)))) (0 : Int32) r90.2)
  · refine A_iconst (pc := 675) (v := (1 : Int32)) dL_law_675 (by decide) ?_
    refine A_goto (pc := 676) (tgt := 680) dL_law_676 (by decide) ?_
    exact Aw.weak (ls' := [some (vr 99 (some 0)), some (vr 7 (some 0)), some (vr 8 (some 0)), some (vi x3)]) ⟨rfl, ⟨rfl, ⟨rfl, ⟨rfl, trivial⟩⟩⟩⟩ (aJ_L_law_680 L xs hL n c18 hc18 x3 r90.1 (xs (Int32.toNatClampNeg (x3 + (1 : Int32)))) (1 : Int32) r90.2)
def fJ_L_law_785 (L : Nat) (xs : Nat → Int32) (c18 : Int32 → Hp → Option (Bool × Hp)) (x3 : Int32) (xs0 : Int32) (xs2 : Int32) (xs3 : Int32) (xs4 : Int32) (h : Hp) : Option (Bool × Hp) := ((f_X8_lies xs2 xs3 xs4 h).bind fun r109 => (if xs0 = r109.1 then (c18 (x3 + 6) r109.2) else (some (false, r109.2))))
set_option maxRecDepth 100000 in
set_option maxHeartbeats 4000000 in
theorem aJ_L_law_785 (L : Nat) (xs : Nat → Int32) (hL : (Int32.ofNat L).toInt = (L : Int)) (n : Nat) (c18 : Int32 → Hp → Option (Bool × Hp)) (hc18 : ∀ (x3 : Int32) (h : Hp), Aw eB U0 (mL_law L xs) (n, 12 * n) U0 18 [some (vr 99 (some 0)), some (vr 7 (some 0)), some (vr 8 (some 0)), some (vi x3)] [] h (c18 x3 h)) (x3 : Int32) (xs0 : Int32) (xs2 : Int32) (xs3 : Int32) (xs4 : Int32) (h : Hp) : Aw eB U0 (mL_law L xs) (n, 12 * n) U0 785 [some (vr 99 (some 0)), some (vr 7 (some 0)), some (vr 8 (some 0)), some (vi x3)] [vi xs4, vi xs3, vi xs2, vr 8 (some 0), vi xs0] h (fJ_L_law_785 L xs c18 x3 xs0 xs2 xs3 xs4 h) := by
  unfold fJ_L_law_785
  refine A_callV (pc := 785) (M' := mX8_lies) (As := [vi xs2, vi xs3, vi xs4]) (st := [vi xs0]) (n, 12 * n) (fun r109 => [vi r109.1, vi xs0]) (fun r109 => r109.2) (a_X8_lies xs2 xs3 xs4 h) kD_X8_lies kM_L_87 kI_X8_lies kS_X8_lies kN_X8 ⟨(Nat.le_of_ble_eq_true rfl), (Nat.le_of_ble_eq_true rfl)⟩ dL_law_785 rfl rfl rfl (by decide) rfl (Nat.le_of_ble_eq_true rfl) (show n + 0 ≤ n by omega) (show 12 * n + 0 ≤ 12 * n by omega) (fun _ => rfl) (fun _ => rfl) (fun r109 => ?_)
  refine A_icmp_eq (pc := 788) (tgt := 1199) dL_law_788 (by decide) ?_ ?_
  · refine A_iinc (pc := 1199) (i := 3) (v := (x3 + 6)) (ls2 := [some (vr 99 (some 0)), some (vr 7 (some 0)), some (vr 8 (some 0)), some (vi (x3 + 6))]) dL_law_1199 rfl rfl (Nat.le_of_ble_eq_true rfl) rfl ?_
    refine A_goto (pc := 1202) (tgt := 18) dL_law_1202 (by decide) ?_
    exact Aw.weak (ls' := [some (vr 99 (some 0)), some (vr 7 (some 0)), some (vr 8 (some 0)), some (vi (x3 + 6))]) ⟨rfl, ⟨rfl, ⟨rfl, ⟨rfl, trivial⟩⟩⟩⟩ (hc18 (x3 + 6) r109.2)
  · refine A_iconst (pc := 791) (v := (0 : Int32)) dL_law_791 (by decide) ?_
    exact A_retB rfl rfl dL_law_792
def fJ_L_law_758 (L : Nat) (xs : Nat → Int32) (c18 : Int32 → Hp → Option (Bool × Hp)) (x3 : Int32) (xs1 : Int32) (xs2 : Int32) (xs3 : Int32) (h : Hp) : Option (Bool × Hp) := ((f_X7_lies xs1 xs2 xs3 h).bind fun r105 => (if 0 ≤ (x3 + (1 : Int32)) ∧ (x3 + (1 : Int32)) < Int32.ofNat L then (if 0 ≤ (x3 + (2 : Int32)) ∧ (x3 + (2 : Int32)) < Int32.ofNat L then (if 0 ≤ (x3 + (3 : Int32)) ∧ (x3 + (3 : Int32)) < Int32.ofNat L then (if (xs (Int32.toNatClampNeg (x3 + (3 : Int32)))) = 0 then (fJ_L_law_785 L xs c18 x3 r105.1 (xs (Int32.toNatClampNeg (x3 + (1 : Int32)))) (xs (Int32.toNatClampNeg (x3 + (2 : Int32)))) (0 : Int32) r105.2) else (fJ_L_law_785 L xs c18 x3 r105.1 (xs (Int32.toNatClampNeg (x3 + (1 : Int32)))) (xs (Int32.toNatClampNeg (x3 + (2 : Int32)))) (1 : Int32) r105.2)) else none) else none) else none))
set_option maxRecDepth 100000 in
set_option maxHeartbeats 4000000 in
theorem aJ_L_law_758 (L : Nat) (xs : Nat → Int32) (hL : (Int32.ofNat L).toInt = (L : Int)) (n : Nat) (c18 : Int32 → Hp → Option (Bool × Hp)) (hc18 : ∀ (x3 : Int32) (h : Hp), Aw eB U0 (mL_law L xs) (n, 12 * n) U0 18 [some (vr 99 (some 0)), some (vr 7 (some 0)), some (vr 8 (some 0)), some (vi x3)] [] h (c18 x3 h)) (x3 : Int32) (xs1 : Int32) (xs2 : Int32) (xs3 : Int32) (h : Hp) : Aw eB U0 (mL_law L xs) (n + 1, 12 * n + 12) U0 758 [some (vr 99 (some 0)), some (vr 7 (some 0)), some (vr 8 (some 0)), some (vi x3)] [vi xs3, vi xs2, vi xs1, vr 7 (some 0)] h (fJ_L_law_758 L xs c18 x3 xs1 xs2 xs3 h) := by
  unfold fJ_L_law_758
  refine A_callV (pc := 758) (M' := mX7_lies) (As := [vi xs1, vi xs2, vi xs3]) (st := []) (n, 12 * n) (fun r105 => [vi r105.1]) (fun r105 => r105.2) (a_X7_lies xs1 xs2 xs3 h) kD_X7_lies kM_L_83 kI_X7_lies kS_X7_lies kN_X7 ⟨(Nat.le_of_ble_eq_true rfl), (Nat.le_of_ble_eq_true rfl)⟩ dL_law_758 rfl rfl rfl (by decide) rfl (Nat.le_of_ble_eq_true rfl) (show n + 0 ≤ n + 1 by omega) (show 12 * n + 0 ≤ 12 * n + 12 by omega) (fun _ => rfl) (fun _ => rfl) (fun r105 => ?_)
  refine A_aload_n (pc := 761) (i := 2) dL_law_761 rfl rfl ?_
  refine A_aload_n (pc := 762) (i := 0) dL_law_762 rfl rfl ?_
  refine A_iload_n (pc := 763) (i := 3) dL_law_763 rfl rfl ?_
  refine A_iconst (pc := 764) (v := (1 : Int32)) dL_law_764 (by decide) ?_
  refine A_iadd (pc := 765) dL_law_765 ?_
  refine A_ite (fun hg106 => ?_) (fun _ => Aw.none)
  refine A_sld (pc := 766) (L := L) (xs := xs) rfl dL_law_766 (in_of hL hg106) ?_
  refine A_aload_n (pc := 767) (i := 0) dL_law_767 rfl rfl ?_
  refine A_iload_n (pc := 768) (i := 3) dL_law_768 rfl rfl ?_
  refine A_iconst (pc := 769) (v := (2 : Int32)) dL_law_769 (by decide) ?_
  refine A_iadd (pc := 770) dL_law_770 ?_
  refine A_ite (fun hg107 => ?_) (fun _ => Aw.none)
  refine A_sld (pc := 771) (L := L) (xs := xs) rfl dL_law_771 (in_of hL hg107) ?_
  refine A_aload_n (pc := 772) (i := 0) dL_law_772 rfl rfl ?_
  refine A_iload_n (pc := 773) (i := 3) dL_law_773 rfl rfl ?_
  refine A_iconst (pc := 774) (v := (3 : Int32)) dL_law_774 (by decide) ?_
  refine A_iadd (pc := 775) dL_law_775 ?_
  refine A_ite (fun hg108 => ?_) (fun _ => Aw.none)
  refine A_sld (pc := 776) (L := L) (xs := xs) rfl dL_law_776 (in_of hL hg108) ?_
  refine A_if_eq (pc := 777) (tgt := 784) dL_law_777 (by decide) ?_ ?_
  · refine A_iconst (pc := 784) (v := (0 : Int32)) dL_law_784 (by decide) ?_
    exact Aw.weak (ls' := [some (vr 99 (some 0)), some (vr 7 (some 0)), some (vr 8 (some 0)), some (vi x3)]) ⟨rfl, ⟨rfl, ⟨rfl, ⟨rfl, trivial⟩⟩⟩⟩ (aJ_L_law_785 L xs hL n c18 hc18 x3 r105.1 (xs (Int32.toNatClampNeg (x3 + (1 : Int32)))) (xs (Int32.toNatClampNeg (x3 + (2 : Int32)))) (0 : Int32) r105.2)
  · refine A_iconst (pc := 780) (v := (1 : Int32)) dL_law_780 (by decide) ?_
    refine A_goto (pc := 781) (tgt := 785) dL_law_781 (by decide) ?_
    exact Aw.weak (ls' := [some (vr 99 (some 0)), some (vr 7 (some 0)), some (vr 8 (some 0)), some (vi x3)]) ⟨rfl, ⟨rfl, ⟨rfl, ⟨rfl, trivial⟩⟩⟩⟩ (aJ_L_law_785 L xs hL n c18 hc18 x3 r105.1 (xs (Int32.toNatClampNeg (x3 + (1 : Int32)))) (xs (Int32.toNatClampNeg (x3 + (2 : Int32)))) (1 : Int32) r105.2)
def fL_L_law_18 (L : Nat) (xs : Nat → Int32) : Nat → Int32 → Hp → Option (Bool × Hp)
  | 0, _, _ => none
  | n + 1, x3, h => (if ((Int32.ofNat L) - (6 : Int32)) < x3 then (some (true, h)) else (if 0 ≤ x3 ∧ x3 < Int32.ofNat L then (nif ((xs (Int32.toNatClampNeg x3)) &&& (31 : Int32)) 0 [(if 0 ≤ (x3 + (1 : Int32)) ∧ (x3 + (1 : Int32)) < Int32.ofNat L then (if 0 ≤ (x3 + (2 : Int32)) ∧ (x3 + (2 : Int32)) < Int32.ofNat L then (if 0 ≤ (x3 + (3 : Int32)) ∧ (x3 + (3 : Int32)) < Int32.ofNat L then (if 0 ≤ (x3 + (4 : Int32)) ∧ (x3 + (4 : Int32)) < Int32.ofNat L then ((f_X7_berth (xs (Int32.toNatClampNeg (x3 + (1 : Int32)))) (xs (Int32.toNatClampNeg (x3 + (2 : Int32)))) (xs (Int32.toNatClampNeg (x3 + (3 : Int32)))) (xs (Int32.toNatClampNeg (x3 + (4 : Int32)))) h).bind fun r8 => (if 0 ≤ (x3 + (1 : Int32)) ∧ (x3 + (1 : Int32)) < Int32.ofNat L then (if 0 ≤ (x3 + (2 : Int32)) ∧ (x3 + (2 : Int32)) < Int32.ofNat L then (if 0 ≤ (x3 + (3 : Int32)) ∧ (x3 + (3 : Int32)) < Int32.ofNat L then (if 0 ≤ (x3 + (4 : Int32)) ∧ (x3 + (4 : Int32)) < Int32.ofNat L then ((f_X8_berth (xs (Int32.toNatClampNeg (x3 + (1 : Int32)))) (xs (Int32.toNatClampNeg (x3 + (2 : Int32)))) (xs (Int32.toNatClampNeg (x3 + (3 : Int32)))) (xs (Int32.toNatClampNeg (x3 + (4 : Int32)))) r8.2).bind fun r13 => (if r8.1 = r13.1 then ((fL_L_law_18 L xs n) (x3 + 6) r13.2) else (some (false, r13.2)))) else none) else none) else none) else none)) else none) else none) else none) else none), (if 0 ≤ (x3 + (1 : Int32)) ∧ (x3 + (1 : Int32)) < Int32.ofNat L then (if 0 ≤ (x3 + (2 : Int32)) ∧ (x3 + (2 : Int32)) < Int32.ofNat L then (if 0 ≤ (x3 + (3 : Int32)) ∧ (x3 + (3 : Int32)) < Int32.ofNat L then (if 0 ≤ (x3 + (4 : Int32)) ∧ (x3 + (4 : Int32)) < Int32.ofNat L then (if (xs (Int32.toNatClampNeg (x3 + (4 : Int32)))) = 0 then (fJ_L_law_246 L xs (fL_L_law_18 L xs n) x3 (xs (Int32.toNatClampNeg (x3 + (1 : Int32)))) (xs (Int32.toNatClampNeg (x3 + (2 : Int32)))) (xs (Int32.toNatClampNeg (x3 + (3 : Int32)))) (0 : Int32) h) else (fJ_L_law_246 L xs (fL_L_law_18 L xs n) x3 (xs (Int32.toNatClampNeg (x3 + (1 : Int32)))) (xs (Int32.toNatClampNeg (x3 + (2 : Int32)))) (xs (Int32.toNatClampNeg (x3 + (3 : Int32)))) (1 : Int32) h)) else none) else none) else none) else none), (if 0 ≤ (x3 + (1 : Int32)) ∧ (x3 + (1 : Int32)) < Int32.ofNat L then (if 0 ≤ (x3 + (2 : Int32)) ∧ (x3 + (2 : Int32)) < Int32.ofNat L then (if 0 ≤ (x3 + (3 : Int32)) ∧ (x3 + (3 : Int32)) < Int32.ofNat L then ((f_X7_leaves (xs (Int32.toNatClampNeg (x3 + (1 : Int32)))) (xs (Int32.toNatClampNeg (x3 + (2 : Int32)))) (xs (Int32.toNatClampNeg (x3 + (3 : Int32)))) h).bind fun r27 => (if 0 ≤ (x3 + (1 : Int32)) ∧ (x3 + (1 : Int32)) < Int32.ofNat L then (if 0 ≤ (x3 + (2 : Int32)) ∧ (x3 + (2 : Int32)) < Int32.ofNat L then (if 0 ≤ (x3 + (3 : Int32)) ∧ (x3 + (3 : Int32)) < Int32.ofNat L then ((f_X8_leaves (xs (Int32.toNatClampNeg (x3 + (1 : Int32)))) (xs (Int32.toNatClampNeg (x3 + (2 : Int32)))) (xs (Int32.toNatClampNeg (x3 + (3 : Int32)))) r27.2).bind fun r31 => (if r27.1 = r31.1 then ((fL_L_law_18 L xs n) (x3 + 6) r31.2) else (some (false, r31.2)))) else none) else none) else none)) else none) else none) else none), (if 0 ≤ (x3 + (1 : Int32)) ∧ (x3 + (1 : Int32)) < Int32.ofNat L then (if 0 ≤ (x3 + (2 : Int32)) ∧ (x3 + (2 : Int32)) < Int32.ofNat L then ((f_X7_aboard (xs (Int32.toNatClampNeg (x3 + (1 : Int32)))) (xs (Int32.toNatClampNeg (x3 + (2 : Int32)))) h).bind fun r34 => (if 0 ≤ (x3 + (1 : Int32)) ∧ (x3 + (1 : Int32)) < Int32.ofNat L then (if 0 ≤ (x3 + (2 : Int32)) ∧ (x3 + (2 : Int32)) < Int32.ofNat L then ((f_X8_aboard (xs (Int32.toNatClampNeg (x3 + (1 : Int32)))) (xs (Int32.toNatClampNeg (x3 + (2 : Int32)))) r34.2).bind fun r37 => (if r34.1 = r37.1 then ((fL_L_law_18 L xs n) (x3 + 6) r37.2) else (some (false, r37.2)))) else none) else none)) else none) else none), (if 0 ≤ (x3 + (1 : Int32)) ∧ (x3 + (1 : Int32)) < Int32.ofNat L then ((f_X7_over (xs (Int32.toNatClampNeg (x3 + (1 : Int32)))) h).bind fun r39 => (if 0 ≤ (x3 + (1 : Int32)) ∧ (x3 + (1 : Int32)) < Int32.ofNat L then ((f_X8_over (xs (Int32.toNatClampNeg (x3 + (1 : Int32)))) r39.2).bind fun r41 => (if r39.1 = r41.1 then ((fL_L_law_18 L xs n) (x3 + 6) r41.2) else (some (false, r41.2)))) else none)) else none), (if 0 ≤ (x3 + (1 : Int32)) ∧ (x3 + (1 : Int32)) < Int32.ofNat L then (if 0 ≤ (x3 + (2 : Int32)) ∧ (x3 + (2 : Int32)) < Int32.ofNat L then ((f_X7_as (xs (Int32.toNatClampNeg (x3 + (1 : Int32)))) (xs (Int32.toNatClampNeg (x3 + (2 : Int32)))) h).bind fun r44 => (if 0 ≤ (x3 + (1 : Int32)) ∧ (x3 + (1 : Int32)) < Int32.ofNat L then (if 0 ≤ (x3 + (2 : Int32)) ∧ (x3 + (2 : Int32)) < Int32.ofNat L then ((f_X8_as (xs (Int32.toNatClampNeg (x3 + (1 : Int32)))) (xs (Int32.toNatClampNeg (x3 + (2 : Int32)))) r44.2).bind fun r47 => (if r44.1 = r47.1 then ((fL_L_law_18 L xs n) (x3 + 6) r47.2) else (some (false, r47.2)))) else none) else none)) else none) else none), (if 0 ≤ (x3 + (1 : Int32)) ∧ (x3 + (1 : Int32)) < Int32.ofNat L then (if 0 ≤ (x3 + (2 : Int32)) ∧ (x3 + (2 : Int32)) < Int32.ofNat L then ((f_X7_of (xs (Int32.toNatClampNeg (x3 + (1 : Int32)))) (xs (Int32.toNatClampNeg (x3 + (2 : Int32)))) h).bind fun r50 => (if 0 ≤ (x3 + (1 : Int32)) ∧ (x3 + (1 : Int32)) < Int32.ofNat L then (if 0 ≤ (x3 + (2 : Int32)) ∧ (x3 + (2 : Int32)) < Int32.ofNat L then ((f_X8_of (xs (Int32.toNatClampNeg (x3 + (1 : Int32)))) (xs (Int32.toNatClampNeg (x3 + (2 : Int32)))) r50.2).bind fun r53 => (if r50.1 = r53.1 then ((fL_L_law_18 L xs n) (x3 + 6) r53.2) else (some (false, r53.2)))) else none) else none)) else none) else none), (if 0 ≤ (x3 + (1 : Int32)) ∧ (x3 + (1 : Int32)) < Int32.ofNat L then (if 0 ≤ (x3 + (2 : Int32)) ∧ (x3 + (2 : Int32)) < Int32.ofNat L then ((f_X7_at (xs (Int32.toNatClampNeg (x3 + (1 : Int32)))) (xs (Int32.toNatClampNeg (x3 + (2 : Int32)))) h).bind fun r56 => (if 0 ≤ (x3 + (1 : Int32)) ∧ (x3 + (1 : Int32)) < Int32.ofNat L then (if 0 ≤ (x3 + (2 : Int32)) ∧ (x3 + (2 : Int32)) < Int32.ofNat L then ((f_X8_at (xs (Int32.toNatClampNeg (x3 + (1 : Int32)))) (xs (Int32.toNatClampNeg (x3 + (2 : Int32)))) r56.2).bind fun r59 => (if r56.1 = r59.1 then ((fL_L_law_18 L xs n) (x3 + 6) r59.2) else (some (false, r59.2)))) else none) else none)) else none) else none), (if 0 ≤ (x3 + (1 : Int32)) ∧ (x3 + (1 : Int32)) < Int32.ofNat L then (if 0 ≤ (x3 + (2 : Int32)) ∧ (x3 + (2 : Int32)) < Int32.ofNat L then ((f_X7_may (xs (Int32.toNatClampNeg (x3 + (1 : Int32)))) (xs (Int32.toNatClampNeg (x3 + (2 : Int32)))) h).bind fun r62 => (if 0 ≤ (x3 + (1 : Int32)) ∧ (x3 + (1 : Int32)) < Int32.ofNat L then (if 0 ≤ (x3 + (2 : Int32)) ∧ (x3 + (2 : Int32)) < Int32.ofNat L then ((f_X8_may (xs (Int32.toNatClampNeg (x3 + (1 : Int32)))) (xs (Int32.toNatClampNeg (x3 + (2 : Int32)))) r62.2).bind fun r65 => (if r62.1 = r65.1 then ((fL_L_law_18 L xs n) (x3 + 6) r65.2) else (some (false, r65.2)))) else none) else none)) else none) else none), (if 0 ≤ (x3 + (1 : Int32)) ∧ (x3 + (1 : Int32)) < Int32.ofNat L then (if 0 ≤ (x3 + (2 : Int32)) ∧ (x3 + (2 : Int32)) < Int32.ofNat L then ((f_X7_comes (xs (Int32.toNatClampNeg (x3 + (1 : Int32)))) (xs (Int32.toNatClampNeg (x3 + (2 : Int32)))) h).bind fun r68 => (if 0 ≤ (x3 + (1 : Int32)) ∧ (x3 + (1 : Int32)) < Int32.ofNat L then (if 0 ≤ (x3 + (2 : Int32)) ∧ (x3 + (2 : Int32)) < Int32.ofNat L then ((f_X8_comes (xs (Int32.toNatClampNeg (x3 + (1 : Int32)))) (xs (Int32.toNatClampNeg (x3 + (2 : Int32)))) r68.2).bind fun r71 => (if r68.1 = r71.1 then ((fL_L_law_18 L xs n) (x3 + 6) r71.2) else (some (false, r71.2)))) else none) else none)) else none) else none), (if 0 ≤ (x3 + (1 : Int32)) ∧ (x3 + (1 : Int32)) < Int32.ofNat L then (if 0 ≤ (x3 + (2 : Int32)) ∧ (x3 + (2 : Int32)) < Int32.ofNat L then (if 0 ≤ (x3 + (3 : Int32)) ∧ (x3 + (3 : Int32)) < Int32.ofNat L then ((f_X7_between (xs (Int32.toNatClampNeg (x3 + (1 : Int32)))) (xs (Int32.toNatClampNeg (x3 + (2 : Int32)))) (xs (Int32.toNatClampNeg (x3 + (3 : Int32)))) h).bind fun r75 => (if 0 ≤ (x3 + (1 : Int32)) ∧ (x3 + (1 : Int32)) < Int32.ofNat L then (if 0 ≤ (x3 + (2 : Int32)) ∧ (x3 + (2 : Int32)) < Int32.ofNat L then (if 0 ≤ (x3 + (3 : Int32)) ∧ (x3 + (3 : Int32)) < Int32.ofNat L then ((f_X8_between (xs (Int32.toNatClampNeg (x3 + (1 : Int32)))) (xs (Int32.toNatClampNeg (x3 + (2 : Int32)))) (xs (Int32.toNatClampNeg (x3 + (3 : Int32)))) r75.2).bind fun r79 => (if r75.1 = r79.1 then ((fL_L_law_18 L xs n) (x3 + 6) r79.2) else (some (false, r79.2)))) else none) else none) else none)) else none) else none) else none), (if 0 ≤ (x3 + (1 : Int32)) ∧ (x3 + (1 : Int32)) < Int32.ofNat L then ((f_X7_goes (xs (Int32.toNatClampNeg (x3 + (1 : Int32)))) h).bind fun r81 => (if 0 ≤ (x3 + (1 : Int32)) ∧ (x3 + (1 : Int32)) < Int32.ofNat L then ((f_X8_goes (xs (Int32.toNatClampNeg (x3 + (1 : Int32)))) r81.2).bind fun r83 => (if r81.1 = r83.1 then ((fL_L_law_18 L xs n) (x3 + 6) r83.2) else (some (false, r83.2)))) else none)) else none), (if 0 ≤ (x3 + (1 : Int32)) ∧ (x3 + (1 : Int32)) < Int32.ofNat L then ((f_X7_fault (xs (Int32.toNatClampNeg (x3 + (1 : Int32)))) h).bind fun r85 => (if 0 ≤ (x3 + (1 : Int32)) ∧ (x3 + (1 : Int32)) < Int32.ofNat L then ((f_X8_fault (xs (Int32.toNatClampNeg (x3 + (1 : Int32)))) r85.2).bind fun r87 => (if r85.1 = r87.1 then ((fL_L_law_18 L xs n) (x3 + 6) r87.2) else (some (false, r87.2)))) else none)) else none), (if 0 ≤ (x3 + (1 : Int32)) ∧ (x3 + (1 : Int32)) < Int32.ofNat L then (if 0 ≤ (x3 + (2 : Int32)) ∧ (x3 + (2 : Int32)) < Int32.ofNat L then (if (xs (Int32.toNatClampNeg (x3 + (2 : Int32)))) = 0 then (fJ_L_law_658 L xs (fL_L_law_18 L xs n) x3 (xs (Int32.toNatClampNeg (x3 + (1 : Int32)))) (0 : Int32) h) else (fJ_L_law_658 L xs (fL_L_law_18 L xs n) x3 (xs (Int32.toNatClampNeg (x3 + (1 : Int32)))) (1 : Int32) h)) else none) else none), (if 0 ≤ (x3 + (1 : Int32)) ∧ (x3 + (1 : Int32)) < Int32.ofNat L then ((f_X7_offer (xs (Int32.toNatClampNeg (x3 + (1 : Int32)))) h).bind fun r95 => (if 0 ≤ (x3 + (1 : Int32)) ∧ (x3 + (1 : Int32)) < Int32.ofNat L then ((f_X8_offer (xs (Int32.toNatClampNeg (x3 + (1 : Int32)))) r95.2).bind fun r97 => (if r95.1 = r97.1 then ((fL_L_law_18 L xs n) (x3 + 6) r97.2) else (some (false, r97.2)))) else none)) else none), (if 0 ≤ (x3 + (1 : Int32)) ∧ (x3 + (1 : Int32)) < Int32.ofNat L then ((f_X7_plan (xs (Int32.toNatClampNeg (x3 + (1 : Int32)))) h).bind fun r99 => (if 0 ≤ (x3 + (1 : Int32)) ∧ (x3 + (1 : Int32)) < Int32.ofNat L then ((f_X8_plan (xs (Int32.toNatClampNeg (x3 + (1 : Int32)))) r99.2).bind fun r101 => (if r99.1 = r101.1 then ((fL_L_law_18 L xs n) (x3 + 6) r101.2) else (some (false, r101.2)))) else none)) else none), (if 0 ≤ (x3 + (1 : Int32)) ∧ (x3 + (1 : Int32)) < Int32.ofNat L then (if 0 ≤ (x3 + (2 : Int32)) ∧ (x3 + (2 : Int32)) < Int32.ofNat L then (if 0 ≤ (x3 + (3 : Int32)) ∧ (x3 + (3 : Int32)) < Int32.ofNat L then (if (xs (Int32.toNatClampNeg (x3 + (3 : Int32)))) = 0 then (fJ_L_law_758 L xs (fL_L_law_18 L xs n) x3 (xs (Int32.toNatClampNeg (x3 + (1 : Int32)))) (xs (Int32.toNatClampNeg (x3 + (2 : Int32)))) (0 : Int32) h) else (fJ_L_law_758 L xs (fL_L_law_18 L xs n) x3 (xs (Int32.toNatClampNeg (x3 + (1 : Int32)))) (xs (Int32.toNatClampNeg (x3 + (2 : Int32)))) (1 : Int32) h)) else none) else none) else none), (if 0 ≤ (x3 + (1 : Int32)) ∧ (x3 + (1 : Int32)) < Int32.ofNat L then ((f_X7_lay (xs (Int32.toNatClampNeg (x3 + (1 : Int32)))) h).bind fun r111 => (if 0 ≤ (x3 + (1 : Int32)) ∧ (x3 + (1 : Int32)) < Int32.ofNat L then ((f_X8_lay (xs (Int32.toNatClampNeg (x3 + (1 : Int32)))) r111.2).bind fun r113 => (if r111.1 = r113.1 then ((fL_L_law_18 L xs n) (x3 + 6) r113.2) else (some (false, r113.2)))) else none)) else none), (if 0 ≤ (x3 + (1 : Int32)) ∧ (x3 + (1 : Int32)) < Int32.ofNat L then ((f_X7_tide (xs (Int32.toNatClampNeg (x3 + (1 : Int32)))) h).bind fun r115 => (if 0 ≤ (x3 + (1 : Int32)) ∧ (x3 + (1 : Int32)) < Int32.ofNat L then ((f_X8_tide (xs (Int32.toNatClampNeg (x3 + (1 : Int32)))) r115.2).bind fun r117 => (if r115.1 = r117.1 then ((fL_L_law_18 L xs n) (x3 + 6) r117.2) else (some (false, r117.2)))) else none)) else none), (if 0 ≤ (x3 + (1 : Int32)) ∧ (x3 + (1 : Int32)) < Int32.ofNat L then ((f_X7_run (xs (Int32.toNatClampNeg (x3 + (1 : Int32)))) h).bind fun r119 => (if 0 ≤ (x3 + (1 : Int32)) ∧ (x3 + (1 : Int32)) < Int32.ofNat L then ((f_X8_run (xs (Int32.toNatClampNeg (x3 + (1 : Int32)))) r119.2).bind fun r121 => (if r119.1 = r121.1 then ((fL_L_law_18 L xs n) (x3 + 6) r121.2) else (some (false, r121.2)))) else none)) else none), (if 0 ≤ (x3 + (1 : Int32)) ∧ (x3 + (1 : Int32)) < Int32.ofNat L then ((f_X7_could (xs (Int32.toNatClampNeg (x3 + (1 : Int32)))) h).bind fun r123 => (if 0 ≤ (x3 + (1 : Int32)) ∧ (x3 + (1 : Int32)) < Int32.ofNat L then ((f_X8_could (xs (Int32.toNatClampNeg (x3 + (1 : Int32)))) r123.2).bind fun r125 => (if r123.1 = r125.1 then ((fL_L_law_18 L xs n) (x3 + 6) r125.2) else (some (false, r125.2)))) else none)) else none), (if 0 ≤ (x3 + (1 : Int32)) ∧ (x3 + (1 : Int32)) < Int32.ofNat L then (if 0 ≤ (x3 + (2 : Int32)) ∧ (x3 + (2 : Int32)) < Int32.ofNat L then (if 0 ≤ (x3 + (3 : Int32)) ∧ (x3 + (3 : Int32)) < Int32.ofNat L then ((f_X7_feed (((Int32.toInt64 (xs (Int32.toNatClampNeg (x3 + (1 : Int32))))) <<< (Int32.toInt64 (32 : Int32) &&& 63)) ||| ((Int32.toInt64 (xs (Int32.toNatClampNeg (x3 + (2 : Int32))))) &&& (4294967295 : Int64))) (xs (Int32.toNatClampNeg (x3 + (3 : Int32)))) h).bind fun r129 => (if 0 ≤ (x3 + (1 : Int32)) ∧ (x3 + (1 : Int32)) < Int32.ofNat L then (if 0 ≤ (x3 + (2 : Int32)) ∧ (x3 + (2 : Int32)) < Int32.ofNat L then (if 0 ≤ (x3 + (3 : Int32)) ∧ (x3 + (3 : Int32)) < Int32.ofNat L then ((f_X8_feed (((Int32.toInt64 (xs (Int32.toNatClampNeg (x3 + (1 : Int32))))) <<< (Int32.toInt64 (32 : Int32) &&& 63)) ||| ((Int32.toInt64 (xs (Int32.toNatClampNeg (x3 + (2 : Int32))))) &&& (4294967295 : Int64))) (xs (Int32.toNatClampNeg (x3 + (3 : Int32)))) r129.2).bind fun r133 => (if r129.1 = r133.1 then ((fL_L_law_18 L xs n) (x3 + 6) r133.2) else (some (false, r133.2)))) else none) else none) else none)) else none) else none) else none), ((f_X7_text h).bind fun r134 => ((f_X8_text r134.2).bind fun r135 => (if r134.1 = r135.1 then ((fL_L_law_18 L xs n) (x3 + 6) r135.2) else (some (false, r135.2))))), (if 0 ≤ (x3 + (1 : Int32)) ∧ (x3 + (1 : Int32)) < Int32.ofNat L then (if 0 ≤ (x3 + (2 : Int32)) ∧ (x3 + (2 : Int32)) < Int32.ofNat L then ((f_X7_due (xs (Int32.toNatClampNeg (x3 + (1 : Int32)))) (xs (Int32.toNatClampNeg (x3 + (2 : Int32)))) h).bind fun r138 => (if 0 ≤ (x3 + (1 : Int32)) ∧ (x3 + (1 : Int32)) < Int32.ofNat L then (if 0 ≤ (x3 + (2 : Int32)) ∧ (x3 + (2 : Int32)) < Int32.ofNat L then ((f_X8_due (xs (Int32.toNatClampNeg (x3 + (1 : Int32)))) (xs (Int32.toNatClampNeg (x3 + (2 : Int32)))) r138.2).bind fun r141 => (if r138.1 = r141.1 then ((fL_L_law_18 L xs n) (x3 + 6) r141.2) else (some (false, r141.2)))) else none) else none)) else none) else none), (if 0 ≤ (x3 + (1 : Int32)) ∧ (x3 + (1 : Int32)) < Int32.ofNat L then (if 0 ≤ (x3 + (2 : Int32)) ∧ (x3 + (2 : Int32)) < Int32.ofNat L then (if 0 ≤ (x3 + (3 : Int32)) ∧ (x3 + (3 : Int32)) < Int32.ofNat L then ((f_X7_sheet (xs (Int32.toNatClampNeg (x3 + (1 : Int32)))) (xs (Int32.toNatClampNeg (x3 + (2 : Int32)))) (xs (Int32.toNatClampNeg (x3 + (3 : Int32)))) h).bind fun r145 => (if 0 ≤ (x3 + (1 : Int32)) ∧ (x3 + (1 : Int32)) < Int32.ofNat L then (if 0 ≤ (x3 + (2 : Int32)) ∧ (x3 + (2 : Int32)) < Int32.ofNat L then (if 0 ≤ (x3 + (3 : Int32)) ∧ (x3 + (3 : Int32)) < Int32.ofNat L then ((f_X8_sheet (xs (Int32.toNatClampNeg (x3 + (1 : Int32)))) (xs (Int32.toNatClampNeg (x3 + (2 : Int32)))) (xs (Int32.toNatClampNeg (x3 + (3 : Int32)))) r145.2).bind fun r149 => (if r145.1 = r149.1 then ((fL_L_law_18 L xs n) (x3 + 6) r149.2) else (some (false, r149.2)))) else none) else none) else none)) else none) else none) else none), (if 0 ≤ (x3 + (1 : Int32)) ∧ (x3 + (1 : Int32)) < Int32.ofNat L then (if 0 ≤ (x3 + (2 : Int32)) ∧ (x3 + (2 : Int32)) < Int32.ofNat L then (if 0 ≤ (x3 + (3 : Int32)) ∧ (x3 + (3 : Int32)) < Int32.ofNat L then ((f_X7_write (xs (Int32.toNatClampNeg (x3 + (1 : Int32)))) (xs (Int32.toNatClampNeg (x3 + (2 : Int32)))) (xs (Int32.toNatClampNeg (x3 + (3 : Int32)))) h).bind fun r153 => (if 0 ≤ (x3 + (1 : Int32)) ∧ (x3 + (1 : Int32)) < Int32.ofNat L then (if 0 ≤ (x3 + (2 : Int32)) ∧ (x3 + (2 : Int32)) < Int32.ofNat L then (if 0 ≤ (x3 + (3 : Int32)) ∧ (x3 + (3 : Int32)) < Int32.ofNat L then ((f_X8_write (xs (Int32.toNatClampNeg (x3 + (1 : Int32)))) (xs (Int32.toNatClampNeg (x3 + (2 : Int32)))) (xs (Int32.toNatClampNeg (x3 + (3 : Int32)))) r153.2).bind fun r157 => (if r153.1 = r157.1 then ((fL_L_law_18 L xs n) (x3 + 6) r157.2) else (some (false, r157.2)))) else none) else none) else none)) else none) else none) else none), (if 0 ≤ (x3 + (1 : Int32)) ∧ (x3 + (1 : Int32)) < Int32.ofNat L then (if 0 ≤ (x3 + (2 : Int32)) ∧ (x3 + (2 : Int32)) < Int32.ofNat L then (if 0 ≤ (x3 + (3 : Int32)) ∧ (x3 + (3 : Int32)) < Int32.ofNat L then (if 0 ≤ (x3 + (4 : Int32)) ∧ (x3 + (4 : Int32)) < Int32.ofNat L then (if 0 ≤ (x3 + (5 : Int32)) ∧ (x3 + (5 : Int32)) < Int32.ofNat L then ((f_X7_copy (xs (Int32.toNatClampNeg (x3 + (1 : Int32)))) (xs (Int32.toNatClampNeg (x3 + (2 : Int32)))) (xs (Int32.toNatClampNeg (x3 + (3 : Int32)))) (xs (Int32.toNatClampNeg (x3 + (4 : Int32)))) (xs (Int32.toNatClampNeg (x3 + (5 : Int32)))) h).bind fun r163 => (if 0 ≤ (x3 + (1 : Int32)) ∧ (x3 + (1 : Int32)) < Int32.ofNat L then (if 0 ≤ (x3 + (2 : Int32)) ∧ (x3 + (2 : Int32)) < Int32.ofNat L then (if 0 ≤ (x3 + (3 : Int32)) ∧ (x3 + (3 : Int32)) < Int32.ofNat L then (if 0 ≤ (x3 + (4 : Int32)) ∧ (x3 + (4 : Int32)) < Int32.ofNat L then (if 0 ≤ (x3 + (5 : Int32)) ∧ (x3 + (5 : Int32)) < Int32.ofNat L then ((f_X8_copy (xs (Int32.toNatClampNeg (x3 + (1 : Int32)))) (xs (Int32.toNatClampNeg (x3 + (2 : Int32)))) (xs (Int32.toNatClampNeg (x3 + (3 : Int32)))) (xs (Int32.toNatClampNeg (x3 + (4 : Int32)))) (xs (Int32.toNatClampNeg (x3 + (5 : Int32)))) r163.2).bind fun r169 => (if r163.1 = r169.1 then ((fL_L_law_18 L xs n) (x3 + 6) r169.2) else (some (false, r169.2)))) else none) else none) else none) else none) else none)) else none) else none) else none) else none) else none), (if 0 ≤ (x3 + (1 : Int32)) ∧ (x3 + (1 : Int32)) < Int32.ofNat L then (if 0 ≤ (x3 + (2 : Int32)) ∧ (x3 + (2 : Int32)) < Int32.ofNat L then ((f_X7_read (xs (Int32.toNatClampNeg (x3 + (1 : Int32)))) (xs (Int32.toNatClampNeg (x3 + (2 : Int32)))) h).bind fun r172 => (if 0 ≤ (x3 + (1 : Int32)) ∧ (x3 + (1 : Int32)) < Int32.ofNat L then (if 0 ≤ (x3 + (2 : Int32)) ∧ (x3 + (2 : Int32)) < Int32.ofNat L then ((f_X8_read (xs (Int32.toNatClampNeg (x3 + (1 : Int32)))) (xs (Int32.toNatClampNeg (x3 + (2 : Int32)))) r172.2).bind fun r175 => (if r172.1 = r175.1 then ((fL_L_law_18 L xs n) (x3 + 6) r175.2) else (some (false, r175.2)))) else none) else none)) else none) else none), (if 0 ≤ (x3 + (1 : Int32)) ∧ (x3 + (1 : Int32)) < Int32.ofNat L then ((f_X7_told (xs (Int32.toNatClampNeg (x3 + (1 : Int32)))) h).bind fun r177 => (if 0 ≤ (x3 + (1 : Int32)) ∧ (x3 + (1 : Int32)) < Int32.ofNat L then ((f_X8_told (xs (Int32.toNatClampNeg (x3 + (1 : Int32)))) r177.2).bind fun r179 => (if r177.1 = r179.1 then ((fL_L_law_18 L xs n) (x3 + 6) r179.2) else (some (false, r179.2)))) else none)) else none)] ((fL_L_law_18 L xs n) (x3 + 6) h)) else none))
set_option maxRecDepth 100000 in
set_option maxHeartbeats 20000000 in
theorem aL_L_law_18 (L : Nat) (xs : Nat → Int32) (hL : (Int32.ofNat L).toInt = (L : Int)) : ∀ (n : Nat) (x3 : Int32) (h : Hp), Aw eB U0 (mL_law L xs) (n, 12 * n) U0 18 [some (vr 99 (some 0)), some (vr 7 (some 0)), some (vr 8 (some 0)), some (vi x3)] [] h (fL_L_law_18 L xs n x3 h) := by
  intro n
  induction n with
  | zero =>
    intro x3 h
    exact Aw.none
  | succ n ih =>
    intro x3 h
    show Aw _ _ _ _ _ _ _ _ _ (fL_L_law_18 L xs (n + 1) x3 h)
    unfold fL_L_law_18
    refine Aw.bud (b' := (n + 1, 12 * n + 12)) (Nat.le_refl _) (show 12 * n + 12 ≤ 12 * (n + 1) by omega) ?_
    refine A_iload_n (pc := 18) (i := 3) dL_law_18 rfl rfl ?_
    refine A_aload_n (pc := 19) (i := 0) dL_law_19 rfl rfl ?_
    refine A_slen (pc := 20) (L := L) (xs := xs) rfl dL_law_20 ?_
    refine A_bipush (pc := 21) (v := (6 : Int32)) dL_law_21 (by decide) ?_
    refine A_isub (pc := 23) dL_law_23 ?_
    refine A_icmp_gt (pc := 24) (tgt := 1205) dL_law_24 (by decide) ?_ ?_
    · refine A_iconst (pc := 1205) (v := (1 : Int32)) dL_law_1205 (by decide) ?_
      exact A_retB rfl rfl dL_law_1206
    · refine A_aload_n (pc := 27) (i := 0) dL_law_27 rfl rfl ?_
      refine A_iload_n (pc := 28) (i := 3) dL_law_28 rfl rfl ?_
      refine A_ite (fun hg3 => ?_) (fun _ => Aw.none)
      refine A_sld (pc := 29) (L := L) (xs := xs) rfl dL_law_29 (in_of hL hg3) ?_
      refine A_bipush (pc := 30) (v := (31 : Int32)) dL_law_30 (by decide) ?_
      refine A_iand (pc := 32) dL_law_32 ?_
      refine A_table (pc := 33) (tgt := 1199) dL_law_33 (by simp) (by simp) (by decide) ?_ (AwL_c 164 (by decide) ?_ (AwL_c 217 (by decide) ?_ (AwL_c 286 (by decide) ?_ (AwL_c 329 (by decide) ?_ (AwL_c 362 (by decide) ?_ (AwL_c 385 (by decide) ?_ (AwL_c 418 (by decide) ?_ (AwL_c 451 (by decide) ?_ (AwL_c 484 (by decide) ?_ (AwL_c 517 (by decide) ?_ (AwL_c 550 (by decide) ?_ (AwL_c 593 (by decide) ?_ (AwL_c 616 (by decide) ?_ (AwL_c 639 (by decide) ?_ (AwL_c 688 (by decide) ?_ (AwL_c 711 (by decide) ?_ (AwL_c 734 (by decide) ?_ (AwL_c 793 (by decide) ?_ (AwL_c 816 (by decide) ?_ (AwL_c 839 (by decide) ?_ (AwL_c 862 (by decide) ?_ (AwL_c 885 (by decide) ?_ (AwL_c 948 (by decide) ?_ (AwL_c 961 (by decide) ?_ (AwL_c 994 (by decide) ?_ (AwL_c 1037 (by decide) ?_ (AwL_c 1080 (by decide) ?_ (AwL_c 1143 (by decide) ?_ (AwL_c 1176 (by decide) ?_ AwL_n)))))))))))))))))))))))))))))
      · refine A_iinc (pc := 1199) (i := 3) (v := (x3 + 6)) (ls2 := [some (vr 99 (some 0)), some (vr 7 (some 0)), some (vr 8 (some 0)), some (vi (x3 + 6))]) dL_law_1199 rfl rfl (Nat.le_of_ble_eq_true rfl) rfl ?_
        refine A_goto (pc := 1202) (tgt := 18) dL_law_1202 (by decide) ?_
        refine Aw.bud (b' := (n, 12 * n)) (show n ≤ n + 1 by omega) (show 12 * n ≤ 12 * n + 12 by omega) ?_
        exact Aw.weak (ls' := [some (vr 99 (some 0)), some (vr 7 (some 0)), some (vr 8 (some 0)), some (vi (x3 + 6))]) ⟨rfl, ⟨rfl, ⟨rfl, ⟨rfl, trivial⟩⟩⟩⟩ (ih (x3 + 6) h)
      · refine A_aload_n (pc := 164) (i := 1) dL_law_164 rfl rfl ?_
        refine A_aload_n (pc := 165) (i := 0) dL_law_165 rfl rfl ?_
        refine A_iload_n (pc := 166) (i := 3) dL_law_166 rfl rfl ?_
        refine A_iconst (pc := 167) (v := (1 : Int32)) dL_law_167 (by decide) ?_
        refine A_iadd (pc := 168) dL_law_168 ?_
        refine A_ite (fun hg4 => ?_) (fun _ => Aw.none)
        refine A_sld (pc := 169) (L := L) (xs := xs) rfl dL_law_169 (in_of hL hg4) ?_
        refine A_aload_n (pc := 170) (i := 0) dL_law_170 rfl rfl ?_
        refine A_iload_n (pc := 171) (i := 3) dL_law_171 rfl rfl ?_
        refine A_iconst (pc := 172) (v := (2 : Int32)) dL_law_172 (by decide) ?_
        refine A_iadd (pc := 173) dL_law_173 ?_
        refine A_ite (fun hg5 => ?_) (fun _ => Aw.none)
        refine A_sld (pc := 174) (L := L) (xs := xs) rfl dL_law_174 (in_of hL hg5) ?_
        refine A_aload_n (pc := 175) (i := 0) dL_law_175 rfl rfl ?_
        refine A_iload_n (pc := 176) (i := 3) dL_law_176 rfl rfl ?_
        refine A_iconst (pc := 177) (v := (3 : Int32)) dL_law_177 (by decide) ?_
        refine A_iadd (pc := 178) dL_law_178 ?_
        refine A_ite (fun hg6 => ?_) (fun _ => Aw.none)
        refine A_sld (pc := 179) (L := L) (xs := xs) rfl dL_law_179 (in_of hL hg6) ?_
        refine A_aload_n (pc := 180) (i := 0) dL_law_180 rfl rfl ?_
        refine A_iload_n (pc := 181) (i := 3) dL_law_181 rfl rfl ?_
        refine A_iconst (pc := 182) (v := (4 : Int32)) dL_law_182 (by decide) ?_
        refine A_iadd (pc := 183) dL_law_183 ?_
        refine A_ite (fun hg7 => ?_) (fun _ => Aw.none)
        refine A_sld (pc := 184) (L := L) (xs := xs) rfl dL_law_184 (in_of hL hg7) ?_
        refine A_callV (pc := 185) (M' := mX7_berth) (As := [vi (xs (Int32.toNatClampNeg (x3 + (1 : Int32)))), vi (xs (Int32.toNatClampNeg (x3 + (2 : Int32)))), vi (xs (Int32.toNatClampNeg (x3 + (3 : Int32)))), vi (xs (Int32.toNatClampNeg (x3 + (4 : Int32))))]) (st := []) (n, 12 * n) (fun r8 => [vi r8.1]) (fun r8 => r8.2) (a_X7_berth (xs (Int32.toNatClampNeg (x3 + (1 : Int32)))) (xs (Int32.toNatClampNeg (x3 + (2 : Int32)))) (xs (Int32.toNatClampNeg (x3 + (3 : Int32)))) (xs (Int32.toNatClampNeg (x3 + (4 : Int32)))) h) kD_X7_berth kM_L_13 kI_X7_berth kS_X7_berth kN_X7 ⟨(Nat.le_of_ble_eq_true rfl), (Nat.le_of_ble_eq_true rfl)⟩ dL_law_185 rfl rfl rfl (by decide) rfl (Nat.le_of_ble_eq_true rfl) (show n + 1 ≤ n + 1 by omega) (show 12 * n + 4 ≤ 12 * n + 12 by omega) (fun _ => rfl) (fun _ => rfl) (fun r8 => ?_)
        refine A_aload_n (pc := 188) (i := 2) dL_law_188 rfl rfl ?_
        refine A_aload_n (pc := 189) (i := 0) dL_law_189 rfl rfl ?_
        refine A_iload_n (pc := 190) (i := 3) dL_law_190 rfl rfl ?_
        refine A_iconst (pc := 191) (v := (1 : Int32)) dL_law_191 (by decide) ?_
        refine A_iadd (pc := 192) dL_law_192 ?_
        refine A_ite (fun hg9 => ?_) (fun _ => Aw.none)
        refine A_sld (pc := 193) (L := L) (xs := xs) rfl dL_law_193 (in_of hL hg9) ?_
        refine A_aload_n (pc := 194) (i := 0) dL_law_194 rfl rfl ?_
        refine A_iload_n (pc := 195) (i := 3) dL_law_195 rfl rfl ?_
        refine A_iconst (pc := 196) (v := (2 : Int32)) dL_law_196 (by decide) ?_
        refine A_iadd (pc := 197) dL_law_197 ?_
        refine A_ite (fun hg10 => ?_) (fun _ => Aw.none)
        refine A_sld (pc := 198) (L := L) (xs := xs) rfl dL_law_198 (in_of hL hg10) ?_
        refine A_aload_n (pc := 199) (i := 0) dL_law_199 rfl rfl ?_
        refine A_iload_n (pc := 200) (i := 3) dL_law_200 rfl rfl ?_
        refine A_iconst (pc := 201) (v := (3 : Int32)) dL_law_201 (by decide) ?_
        refine A_iadd (pc := 202) dL_law_202 ?_
        refine A_ite (fun hg11 => ?_) (fun _ => Aw.none)
        refine A_sld (pc := 203) (L := L) (xs := xs) rfl dL_law_203 (in_of hL hg11) ?_
        refine A_aload_n (pc := 204) (i := 0) dL_law_204 rfl rfl ?_
        refine A_iload_n (pc := 205) (i := 3) dL_law_205 rfl rfl ?_
        refine A_iconst (pc := 206) (v := (4 : Int32)) dL_law_206 (by decide) ?_
        refine A_iadd (pc := 207) dL_law_207 ?_
        refine A_ite (fun hg12 => ?_) (fun _ => Aw.none)
        refine A_sld (pc := 208) (L := L) (xs := xs) rfl dL_law_208 (in_of hL hg12) ?_
        refine A_callV (pc := 209) (M' := mX8_berth) (As := [vi (xs (Int32.toNatClampNeg (x3 + (1 : Int32)))), vi (xs (Int32.toNatClampNeg (x3 + (2 : Int32)))), vi (xs (Int32.toNatClampNeg (x3 + (3 : Int32)))), vi (xs (Int32.toNatClampNeg (x3 + (4 : Int32))))]) (st := [vi r8.1]) (n, 12 * n) (fun r13 => [vi r13.1, vi r8.1]) (fun r13 => r13.2) (a_X8_berth (xs (Int32.toNatClampNeg (x3 + (1 : Int32)))) (xs (Int32.toNatClampNeg (x3 + (2 : Int32)))) (xs (Int32.toNatClampNeg (x3 + (3 : Int32)))) (xs (Int32.toNatClampNeg (x3 + (4 : Int32)))) r8.2) kD_X8_berth kM_L_17 kI_X8_berth kS_X8_berth kN_X8 ⟨(Nat.le_of_ble_eq_true rfl), (Nat.le_of_ble_eq_true rfl)⟩ dL_law_209 rfl rfl rfl (by decide) rfl (Nat.le_of_ble_eq_true rfl) (show n + 0 ≤ n by omega) (show 12 * n + 0 ≤ 12 * n by omega) (fun _ => rfl) (fun _ => rfl) (fun r13 => ?_)
        refine A_icmp_eq (pc := 212) (tgt := 1199) dL_law_212 (by decide) ?_ ?_
        · refine A_iinc (pc := 1199) (i := 3) (v := (x3 + 6)) (ls2 := [some (vr 99 (some 0)), some (vr 7 (some 0)), some (vr 8 (some 0)), some (vi (x3 + 6))]) dL_law_1199 rfl rfl (Nat.le_of_ble_eq_true rfl) rfl ?_
          refine A_goto (pc := 1202) (tgt := 18) dL_law_1202 (by decide) ?_
          exact Aw.weak (ls' := [some (vr 99 (some 0)), some (vr 7 (some 0)), some (vr 8 (some 0)), some (vi (x3 + 6))]) ⟨rfl, ⟨rfl, ⟨rfl, ⟨rfl, trivial⟩⟩⟩⟩ (ih (x3 + 6) r13.2)
        · refine A_iconst (pc := 215) (v := (0 : Int32)) dL_law_215 (by decide) ?_
          exact A_retB rfl rfl dL_law_216
      · refine A_aload_n (pc := 217) (i := 1) dL_law_217 rfl rfl ?_
        refine A_aload_n (pc := 218) (i := 0) dL_law_218 rfl rfl ?_
        refine A_iload_n (pc := 219) (i := 3) dL_law_219 rfl rfl ?_
        refine A_iconst (pc := 220) (v := (1 : Int32)) dL_law_220 (by decide) ?_
        refine A_iadd (pc := 221) dL_law_221 ?_
        refine A_ite (fun hg14 => ?_) (fun _ => Aw.none)
        refine A_sld (pc := 222) (L := L) (xs := xs) rfl dL_law_222 (in_of hL hg14) ?_
        refine A_aload_n (pc := 223) (i := 0) dL_law_223 rfl rfl ?_
        refine A_iload_n (pc := 224) (i := 3) dL_law_224 rfl rfl ?_
        refine A_iconst (pc := 225) (v := (2 : Int32)) dL_law_225 (by decide) ?_
        refine A_iadd (pc := 226) dL_law_226 ?_
        refine A_ite (fun hg15 => ?_) (fun _ => Aw.none)
        refine A_sld (pc := 227) (L := L) (xs := xs) rfl dL_law_227 (in_of hL hg15) ?_
        refine A_aload_n (pc := 228) (i := 0) dL_law_228 rfl rfl ?_
        refine A_iload_n (pc := 229) (i := 3) dL_law_229 rfl rfl ?_
        refine A_iconst (pc := 230) (v := (3 : Int32)) dL_law_230 (by decide) ?_
        refine A_iadd (pc := 231) dL_law_231 ?_
        refine A_ite (fun hg16 => ?_) (fun _ => Aw.none)
        refine A_sld (pc := 232) (L := L) (xs := xs) rfl dL_law_232 (in_of hL hg16) ?_
        refine A_aload_n (pc := 233) (i := 0) dL_law_233 rfl rfl ?_
        refine A_iload_n (pc := 234) (i := 3) dL_law_234 rfl rfl ?_
        refine A_iconst (pc := 235) (v := (4 : Int32)) dL_law_235 (by decide) ?_
        refine A_iadd (pc := 236) dL_law_236 ?_
        refine A_ite (fun hg17 => ?_) (fun _ => Aw.none)
        refine A_sld (pc := 237) (L := L) (xs := xs) rfl dL_law_237 (in_of hL hg17) ?_
        refine A_if_eq (pc := 238) (tgt := 245) dL_law_238 (by decide) ?_ ?_
        · refine A_iconst (pc := 245) (v := (0 : Int32)) dL_law_245 (by decide) ?_
          exact Aw.weak (ls' := [some (vr 99 (some 0)), some (vr 7 (some 0)), some (vr 8 (some 0)), some (vi x3)]) ⟨rfl, ⟨rfl, ⟨rfl, ⟨rfl, trivial⟩⟩⟩⟩ (aJ_L_law_246 L xs hL n (fL_L_law_18 L xs n) ih x3 (xs (Int32.toNatClampNeg (x3 + (1 : Int32)))) (xs (Int32.toNatClampNeg (x3 + (2 : Int32)))) (xs (Int32.toNatClampNeg (x3 + (3 : Int32)))) (0 : Int32) h)
        · refine A_iconst (pc := 241) (v := (1 : Int32)) dL_law_241 (by decide) ?_
          refine A_goto (pc := 242) (tgt := 246) dL_law_242 (by decide) ?_
          exact Aw.weak (ls' := [some (vr 99 (some 0)), some (vr 7 (some 0)), some (vr 8 (some 0)), some (vi x3)]) ⟨rfl, ⟨rfl, ⟨rfl, ⟨rfl, trivial⟩⟩⟩⟩ (aJ_L_law_246 L xs hL n (fL_L_law_18 L xs n) ih x3 (xs (Int32.toNatClampNeg (x3 + (1 : Int32)))) (xs (Int32.toNatClampNeg (x3 + (2 : Int32)))) (xs (Int32.toNatClampNeg (x3 + (3 : Int32)))) (1 : Int32) h)
      · refine A_aload_n (pc := 286) (i := 1) dL_law_286 rfl rfl ?_
        refine A_aload_n (pc := 287) (i := 0) dL_law_287 rfl rfl ?_
        refine A_iload_n (pc := 288) (i := 3) dL_law_288 rfl rfl ?_
        refine A_iconst (pc := 289) (v := (1 : Int32)) dL_law_289 (by decide) ?_
        refine A_iadd (pc := 290) dL_law_290 ?_
        refine A_ite (fun hg24 => ?_) (fun _ => Aw.none)
        refine A_sld (pc := 291) (L := L) (xs := xs) rfl dL_law_291 (in_of hL hg24) ?_
        refine A_aload_n (pc := 292) (i := 0) dL_law_292 rfl rfl ?_
        refine A_iload_n (pc := 293) (i := 3) dL_law_293 rfl rfl ?_
        refine A_iconst (pc := 294) (v := (2 : Int32)) dL_law_294 (by decide) ?_
        refine A_iadd (pc := 295) dL_law_295 ?_
        refine A_ite (fun hg25 => ?_) (fun _ => Aw.none)
        refine A_sld (pc := 296) (L := L) (xs := xs) rfl dL_law_296 (in_of hL hg25) ?_
        refine A_aload_n (pc := 297) (i := 0) dL_law_297 rfl rfl ?_
        refine A_iload_n (pc := 298) (i := 3) dL_law_298 rfl rfl ?_
        refine A_iconst (pc := 299) (v := (3 : Int32)) dL_law_299 (by decide) ?_
        refine A_iadd (pc := 300) dL_law_300 ?_
        refine A_ite (fun hg26 => ?_) (fun _ => Aw.none)
        refine A_sld (pc := 301) (L := L) (xs := xs) rfl dL_law_301 (in_of hL hg26) ?_
        refine A_callV (pc := 302) (M' := mX7_leaves) (As := [vi (xs (Int32.toNatClampNeg (x3 + (1 : Int32)))), vi (xs (Int32.toNatClampNeg (x3 + (2 : Int32)))), vi (xs (Int32.toNatClampNeg (x3 + (3 : Int32))))]) (st := []) (n, 12 * n) (fun r27 => [vi r27.1]) (fun r27 => r27.2) (a_X7_leaves (xs (Int32.toNatClampNeg (x3 + (1 : Int32)))) (xs (Int32.toNatClampNeg (x3 + (2 : Int32)))) (xs (Int32.toNatClampNeg (x3 + (3 : Int32)))) h) kD_X7_leaves kM_L_23 kI_X7_leaves kS_X7_leaves kN_X7 ⟨(Nat.le_of_ble_eq_true rfl), (Nat.le_of_ble_eq_true rfl)⟩ dL_law_302 rfl rfl rfl (by decide) rfl (Nat.le_of_ble_eq_true rfl) (show n + 0 ≤ n + 1 by omega) (show 12 * n + 0 ≤ 12 * n + 12 by omega) (fun _ => rfl) (fun _ => rfl) (fun r27 => ?_)
        refine A_aload_n (pc := 305) (i := 2) dL_law_305 rfl rfl ?_
        refine A_aload_n (pc := 306) (i := 0) dL_law_306 rfl rfl ?_
        refine A_iload_n (pc := 307) (i := 3) dL_law_307 rfl rfl ?_
        refine A_iconst (pc := 308) (v := (1 : Int32)) dL_law_308 (by decide) ?_
        refine A_iadd (pc := 309) dL_law_309 ?_
        refine A_ite (fun hg28 => ?_) (fun _ => Aw.none)
        refine A_sld (pc := 310) (L := L) (xs := xs) rfl dL_law_310 (in_of hL hg28) ?_
        refine A_aload_n (pc := 311) (i := 0) dL_law_311 rfl rfl ?_
        refine A_iload_n (pc := 312) (i := 3) dL_law_312 rfl rfl ?_
        refine A_iconst (pc := 313) (v := (2 : Int32)) dL_law_313 (by decide) ?_
        refine A_iadd (pc := 314) dL_law_314 ?_
        refine A_ite (fun hg29 => ?_) (fun _ => Aw.none)
        refine A_sld (pc := 315) (L := L) (xs := xs) rfl dL_law_315 (in_of hL hg29) ?_
        refine A_aload_n (pc := 316) (i := 0) dL_law_316 rfl rfl ?_
        refine A_iload_n (pc := 317) (i := 3) dL_law_317 rfl rfl ?_
        refine A_iconst (pc := 318) (v := (3 : Int32)) dL_law_318 (by decide) ?_
        refine A_iadd (pc := 319) dL_law_319 ?_
        refine A_ite (fun hg30 => ?_) (fun _ => Aw.none)
        refine A_sld (pc := 320) (L := L) (xs := xs) rfl dL_law_320 (in_of hL hg30) ?_
        refine A_callV (pc := 321) (M' := mX8_leaves) (As := [vi (xs (Int32.toNatClampNeg (x3 + (1 : Int32)))), vi (xs (Int32.toNatClampNeg (x3 + (2 : Int32)))), vi (xs (Int32.toNatClampNeg (x3 + (3 : Int32))))]) (st := [vi r27.1]) (n, 12 * n) (fun r31 => [vi r31.1, vi r27.1]) (fun r31 => r31.2) (a_X8_leaves (xs (Int32.toNatClampNeg (x3 + (1 : Int32)))) (xs (Int32.toNatClampNeg (x3 + (2 : Int32)))) (xs (Int32.toNatClampNeg (x3 + (3 : Int32)))) r27.2) kD_X8_leaves kM_L_27 kI_X8_leaves kS_X8_leaves kN_X8 ⟨(Nat.le_of_ble_eq_true rfl), (Nat.le_of_ble_eq_true rfl)⟩ dL_law_321 rfl rfl rfl (by decide) rfl (Nat.le_of_ble_eq_true rfl) (show n + 0 ≤ n by omega) (show 12 * n + 0 ≤ 12 * n by omega) (fun _ => rfl) (fun _ => rfl) (fun r31 => ?_)
        refine A_icmp_eq (pc := 324) (tgt := 1199) dL_law_324 (by decide) ?_ ?_
        · refine A_iinc (pc := 1199) (i := 3) (v := (x3 + 6)) (ls2 := [some (vr 99 (some 0)), some (vr 7 (some 0)), some (vr 8 (some 0)), some (vi (x3 + 6))]) dL_law_1199 rfl rfl (Nat.le_of_ble_eq_true rfl) rfl ?_
          refine A_goto (pc := 1202) (tgt := 18) dL_law_1202 (by decide) ?_
          exact Aw.weak (ls' := [some (vr 99 (some 0)), some (vr 7 (some 0)), some (vr 8 (some 0)), some (vi (x3 + 6))]) ⟨rfl, ⟨rfl, ⟨rfl, ⟨rfl, trivial⟩⟩⟩⟩ (ih (x3 + 6) r31.2)
        · refine A_iconst (pc := 327) (v := (0 : Int32)) dL_law_327 (by decide) ?_
          exact A_retB rfl rfl dL_law_328
      · refine A_aload_n (pc := 329) (i := 1) dL_law_329 rfl rfl ?_
        refine A_aload_n (pc := 330) (i := 0) dL_law_330 rfl rfl ?_
        refine A_iload_n (pc := 331) (i := 3) dL_law_331 rfl rfl ?_
        refine A_iconst (pc := 332) (v := (1 : Int32)) dL_law_332 (by decide) ?_
        refine A_iadd (pc := 333) dL_law_333 ?_
        refine A_ite (fun hg32 => ?_) (fun _ => Aw.none)
        refine A_sld (pc := 334) (L := L) (xs := xs) rfl dL_law_334 (in_of hL hg32) ?_
        refine A_aload_n (pc := 335) (i := 0) dL_law_335 rfl rfl ?_
        refine A_iload_n (pc := 336) (i := 3) dL_law_336 rfl rfl ?_
        refine A_iconst (pc := 337) (v := (2 : Int32)) dL_law_337 (by decide) ?_
        refine A_iadd (pc := 338) dL_law_338 ?_
        refine A_ite (fun hg33 => ?_) (fun _ => Aw.none)
        refine A_sld (pc := 339) (L := L) (xs := xs) rfl dL_law_339 (in_of hL hg33) ?_
        refine A_callV (pc := 340) (M' := mX7_aboard) (As := [vi (xs (Int32.toNatClampNeg (x3 + (1 : Int32)))), vi (xs (Int32.toNatClampNeg (x3 + (2 : Int32))))]) (st := []) (n, 12 * n) (fun r34 => [vi r34.1]) (fun r34 => r34.2) (a_X7_aboard (xs (Int32.toNatClampNeg (x3 + (1 : Int32)))) (xs (Int32.toNatClampNeg (x3 + (2 : Int32)))) h) kD_X7_aboard kM_L_28 kI_X7_aboard kS_X7_aboard kN_X7 ⟨(Nat.le_of_ble_eq_true rfl), (Nat.le_of_ble_eq_true rfl)⟩ dL_law_340 rfl rfl rfl (by decide) rfl (Nat.le_of_ble_eq_true rfl) (show n + 0 ≤ n + 1 by omega) (show 12 * n + 0 ≤ 12 * n + 12 by omega) (fun _ => rfl) (fun _ => rfl) (fun r34 => ?_)
        refine A_aload_n (pc := 343) (i := 2) dL_law_343 rfl rfl ?_
        refine A_aload_n (pc := 344) (i := 0) dL_law_344 rfl rfl ?_
        refine A_iload_n (pc := 345) (i := 3) dL_law_345 rfl rfl ?_
        refine A_iconst (pc := 346) (v := (1 : Int32)) dL_law_346 (by decide) ?_
        refine A_iadd (pc := 347) dL_law_347 ?_
        refine A_ite (fun hg35 => ?_) (fun _ => Aw.none)
        refine A_sld (pc := 348) (L := L) (xs := xs) rfl dL_law_348 (in_of hL hg35) ?_
        refine A_aload_n (pc := 349) (i := 0) dL_law_349 rfl rfl ?_
        refine A_iload_n (pc := 350) (i := 3) dL_law_350 rfl rfl ?_
        refine A_iconst (pc := 351) (v := (2 : Int32)) dL_law_351 (by decide) ?_
        refine A_iadd (pc := 352) dL_law_352 ?_
        refine A_ite (fun hg36 => ?_) (fun _ => Aw.none)
        refine A_sld (pc := 353) (L := L) (xs := xs) rfl dL_law_353 (in_of hL hg36) ?_
        refine A_callV (pc := 354) (M' := mX8_aboard) (As := [vi (xs (Int32.toNatClampNeg (x3 + (1 : Int32)))), vi (xs (Int32.toNatClampNeg (x3 + (2 : Int32))))]) (st := [vi r34.1]) (n, 12 * n) (fun r37 => [vi r37.1, vi r34.1]) (fun r37 => r37.2) (a_X8_aboard (xs (Int32.toNatClampNeg (x3 + (1 : Int32)))) (xs (Int32.toNatClampNeg (x3 + (2 : Int32)))) r34.2) kD_X8_aboard kM_L_32 kI_X8_aboard kS_X8_aboard kN_X8 ⟨(Nat.le_of_ble_eq_true rfl), (Nat.le_of_ble_eq_true rfl)⟩ dL_law_354 rfl rfl rfl (by decide) rfl (Nat.le_of_ble_eq_true rfl) (show n + 0 ≤ n by omega) (show 12 * n + 0 ≤ 12 * n by omega) (fun _ => rfl) (fun _ => rfl) (fun r37 => ?_)
        refine A_icmp_eq (pc := 357) (tgt := 1199) dL_law_357 (by decide) ?_ ?_
        · refine A_iinc (pc := 1199) (i := 3) (v := (x3 + 6)) (ls2 := [some (vr 99 (some 0)), some (vr 7 (some 0)), some (vr 8 (some 0)), some (vi (x3 + 6))]) dL_law_1199 rfl rfl (Nat.le_of_ble_eq_true rfl) rfl ?_
          refine A_goto (pc := 1202) (tgt := 18) dL_law_1202 (by decide) ?_
          exact Aw.weak (ls' := [some (vr 99 (some 0)), some (vr 7 (some 0)), some (vr 8 (some 0)), some (vi (x3 + 6))]) ⟨rfl, ⟨rfl, ⟨rfl, ⟨rfl, trivial⟩⟩⟩⟩ (ih (x3 + 6) r37.2)
        · refine A_iconst (pc := 360) (v := (0 : Int32)) dL_law_360 (by decide) ?_
          exact A_retB rfl rfl dL_law_361
      · refine A_aload_n (pc := 362) (i := 1) dL_law_362 rfl rfl ?_
        refine A_aload_n (pc := 363) (i := 0) dL_law_363 rfl rfl ?_
        refine A_iload_n (pc := 364) (i := 3) dL_law_364 rfl rfl ?_
        refine A_iconst (pc := 365) (v := (1 : Int32)) dL_law_365 (by decide) ?_
        refine A_iadd (pc := 366) dL_law_366 ?_
        refine A_ite (fun hg38 => ?_) (fun _ => Aw.none)
        refine A_sld (pc := 367) (L := L) (xs := xs) rfl dL_law_367 (in_of hL hg38) ?_
        refine A_callV (pc := 368) (M' := mX7_over) (As := [vi (xs (Int32.toNatClampNeg (x3 + (1 : Int32))))]) (st := []) (n, 12 * n) (fun r39 => [vi r39.1]) (fun r39 => r39.2) (a_X7_over (xs (Int32.toNatClampNeg (x3 + (1 : Int32)))) h) kD_X7_over kM_L_33 kI_X7_over kS_X7_over kN_X7 ⟨(Nat.le_of_ble_eq_true rfl), (Nat.le_of_ble_eq_true rfl)⟩ dL_law_368 rfl rfl rfl (by decide) rfl (Nat.le_of_ble_eq_true rfl) (show n + 0 ≤ n + 1 by omega) (show 12 * n + 0 ≤ 12 * n + 12 by omega) (fun _ => rfl) (fun _ => rfl) (fun r39 => ?_)
        refine A_aload_n (pc := 371) (i := 2) dL_law_371 rfl rfl ?_
        refine A_aload_n (pc := 372) (i := 0) dL_law_372 rfl rfl ?_
        refine A_iload_n (pc := 373) (i := 3) dL_law_373 rfl rfl ?_
        refine A_iconst (pc := 374) (v := (1 : Int32)) dL_law_374 (by decide) ?_
        refine A_iadd (pc := 375) dL_law_375 ?_
        refine A_ite (fun hg40 => ?_) (fun _ => Aw.none)
        refine A_sld (pc := 376) (L := L) (xs := xs) rfl dL_law_376 (in_of hL hg40) ?_
        refine A_callV (pc := 377) (M' := mX8_over) (As := [vi (xs (Int32.toNatClampNeg (x3 + (1 : Int32))))]) (st := [vi r39.1]) (n, 12 * n) (fun r41 => [vi r41.1, vi r39.1]) (fun r41 => r41.2) (a_X8_over (xs (Int32.toNatClampNeg (x3 + (1 : Int32)))) r39.2) kD_X8_over kM_L_37 kI_X8_over kS_X8_over kN_X8 ⟨(Nat.le_of_ble_eq_true rfl), (Nat.le_of_ble_eq_true rfl)⟩ dL_law_377 rfl rfl rfl (by decide) rfl (Nat.le_of_ble_eq_true rfl) (show n + 0 ≤ n by omega) (show 12 * n + 0 ≤ 12 * n by omega) (fun _ => rfl) (fun _ => rfl) (fun r41 => ?_)
        refine A_icmp_eq (pc := 380) (tgt := 1199) dL_law_380 (by decide) ?_ ?_
        · refine A_iinc (pc := 1199) (i := 3) (v := (x3 + 6)) (ls2 := [some (vr 99 (some 0)), some (vr 7 (some 0)), some (vr 8 (some 0)), some (vi (x3 + 6))]) dL_law_1199 rfl rfl (Nat.le_of_ble_eq_true rfl) rfl ?_
          refine A_goto (pc := 1202) (tgt := 18) dL_law_1202 (by decide) ?_
          exact Aw.weak (ls' := [some (vr 99 (some 0)), some (vr 7 (some 0)), some (vr 8 (some 0)), some (vi (x3 + 6))]) ⟨rfl, ⟨rfl, ⟨rfl, ⟨rfl, trivial⟩⟩⟩⟩ (ih (x3 + 6) r41.2)
        · refine A_iconst (pc := 383) (v := (0 : Int32)) dL_law_383 (by decide) ?_
          exact A_retB rfl rfl dL_law_384
      · refine A_aload_n (pc := 385) (i := 1) dL_law_385 rfl rfl ?_
        refine A_aload_n (pc := 386) (i := 0) dL_law_386 rfl rfl ?_
        refine A_iload_n (pc := 387) (i := 3) dL_law_387 rfl rfl ?_
        refine A_iconst (pc := 388) (v := (1 : Int32)) dL_law_388 (by decide) ?_
        refine A_iadd (pc := 389) dL_law_389 ?_
        refine A_ite (fun hg42 => ?_) (fun _ => Aw.none)
        refine A_sld (pc := 390) (L := L) (xs := xs) rfl dL_law_390 (in_of hL hg42) ?_
        refine A_aload_n (pc := 391) (i := 0) dL_law_391 rfl rfl ?_
        refine A_iload_n (pc := 392) (i := 3) dL_law_392 rfl rfl ?_
        refine A_iconst (pc := 393) (v := (2 : Int32)) dL_law_393 (by decide) ?_
        refine A_iadd (pc := 394) dL_law_394 ?_
        refine A_ite (fun hg43 => ?_) (fun _ => Aw.none)
        refine A_sld (pc := 395) (L := L) (xs := xs) rfl dL_law_395 (in_of hL hg43) ?_
        refine A_callV (pc := 396) (M' := mX7_as) (As := [vi (xs (Int32.toNatClampNeg (x3 + (1 : Int32)))), vi (xs (Int32.toNatClampNeg (x3 + (2 : Int32))))]) (st := []) (n, 12 * n) (fun r44 => [vi r44.1]) (fun r44 => r44.2) (a_X7_as (xs (Int32.toNatClampNeg (x3 + (1 : Int32)))) (xs (Int32.toNatClampNeg (x3 + (2 : Int32)))) h) kD_X7_as kM_L_38 kI_X7_as kS_X7_as kN_X7 ⟨(Nat.le_of_ble_eq_true rfl), (Nat.le_of_ble_eq_true rfl)⟩ dL_law_396 rfl rfl rfl (by decide) rfl (Nat.le_of_ble_eq_true rfl) (show n + 0 ≤ n + 1 by omega) (show 12 * n + 0 ≤ 12 * n + 12 by omega) (fun _ => rfl) (fun _ => rfl) (fun r44 => ?_)
        refine A_aload_n (pc := 399) (i := 2) dL_law_399 rfl rfl ?_
        refine A_aload_n (pc := 400) (i := 0) dL_law_400 rfl rfl ?_
        refine A_iload_n (pc := 401) (i := 3) dL_law_401 rfl rfl ?_
        refine A_iconst (pc := 402) (v := (1 : Int32)) dL_law_402 (by decide) ?_
        refine A_iadd (pc := 403) dL_law_403 ?_
        refine A_ite (fun hg45 => ?_) (fun _ => Aw.none)
        refine A_sld (pc := 404) (L := L) (xs := xs) rfl dL_law_404 (in_of hL hg45) ?_
        refine A_aload_n (pc := 405) (i := 0) dL_law_405 rfl rfl ?_
        refine A_iload_n (pc := 406) (i := 3) dL_law_406 rfl rfl ?_
        refine A_iconst (pc := 407) (v := (2 : Int32)) dL_law_407 (by decide) ?_
        refine A_iadd (pc := 408) dL_law_408 ?_
        refine A_ite (fun hg46 => ?_) (fun _ => Aw.none)
        refine A_sld (pc := 409) (L := L) (xs := xs) rfl dL_law_409 (in_of hL hg46) ?_
        refine A_callV (pc := 410) (M' := mX8_as) (As := [vi (xs (Int32.toNatClampNeg (x3 + (1 : Int32)))), vi (xs (Int32.toNatClampNeg (x3 + (2 : Int32))))]) (st := [vi r44.1]) (n, 12 * n) (fun r47 => [vi r47.1, vi r44.1]) (fun r47 => r47.2) (a_X8_as (xs (Int32.toNatClampNeg (x3 + (1 : Int32)))) (xs (Int32.toNatClampNeg (x3 + (2 : Int32)))) r44.2) kD_X8_as kM_L_41 kI_X8_as kS_X8_as kN_X8 ⟨(Nat.le_of_ble_eq_true rfl), (Nat.le_of_ble_eq_true rfl)⟩ dL_law_410 rfl rfl rfl (by decide) rfl (Nat.le_of_ble_eq_true rfl) (show n + 0 ≤ n by omega) (show 12 * n + 0 ≤ 12 * n by omega) (fun _ => rfl) (fun _ => rfl) (fun r47 => ?_)
        refine A_icmp_eq (pc := 413) (tgt := 1199) dL_law_413 (by decide) ?_ ?_
        · refine A_iinc (pc := 1199) (i := 3) (v := (x3 + 6)) (ls2 := [some (vr 99 (some 0)), some (vr 7 (some 0)), some (vr 8 (some 0)), some (vi (x3 + 6))]) dL_law_1199 rfl rfl (Nat.le_of_ble_eq_true rfl) rfl ?_
          refine A_goto (pc := 1202) (tgt := 18) dL_law_1202 (by decide) ?_
          exact Aw.weak (ls' := [some (vr 99 (some 0)), some (vr 7 (some 0)), some (vr 8 (some 0)), some (vi (x3 + 6))]) ⟨rfl, ⟨rfl, ⟨rfl, ⟨rfl, trivial⟩⟩⟩⟩ (ih (x3 + 6) r47.2)
        · refine A_iconst (pc := 416) (v := (0 : Int32)) dL_law_416 (by decide) ?_
          exact A_retB rfl rfl dL_law_417
      · refine A_aload_n (pc := 418) (i := 1) dL_law_418 rfl rfl ?_
        refine A_aload_n (pc := 419) (i := 0) dL_law_419 rfl rfl ?_
        refine A_iload_n (pc := 420) (i := 3) dL_law_420 rfl rfl ?_
        refine A_iconst (pc := 421) (v := (1 : Int32)) dL_law_421 (by decide) ?_
        refine A_iadd (pc := 422) dL_law_422 ?_
        refine A_ite (fun hg48 => ?_) (fun _ => Aw.none)
        refine A_sld (pc := 423) (L := L) (xs := xs) rfl dL_law_423 (in_of hL hg48) ?_
        refine A_aload_n (pc := 424) (i := 0) dL_law_424 rfl rfl ?_
        refine A_iload_n (pc := 425) (i := 3) dL_law_425 rfl rfl ?_
        refine A_iconst (pc := 426) (v := (2 : Int32)) dL_law_426 (by decide) ?_
        refine A_iadd (pc := 427) dL_law_427 ?_
        refine A_ite (fun hg49 => ?_) (fun _ => Aw.none)
        refine A_sld (pc := 428) (L := L) (xs := xs) rfl dL_law_428 (in_of hL hg49) ?_
        refine A_callV (pc := 429) (M' := mX7_of) (As := [vi (xs (Int32.toNatClampNeg (x3 + (1 : Int32)))), vi (xs (Int32.toNatClampNeg (x3 + (2 : Int32))))]) (st := []) (n, 12 * n) (fun r50 => [vi r50.1]) (fun r50 => r50.2) (a_X7_of (xs (Int32.toNatClampNeg (x3 + (1 : Int32)))) (xs (Int32.toNatClampNeg (x3 + (2 : Int32)))) h) kD_X7_of kM_L_42 kI_X7_of kS_X7_of kN_X7 ⟨(Nat.le_of_ble_eq_true rfl), (Nat.le_of_ble_eq_true rfl)⟩ dL_law_429 rfl rfl rfl (by decide) rfl (Nat.le_of_ble_eq_true rfl) (show n + 0 ≤ n + 1 by omega) (show 12 * n + 0 ≤ 12 * n + 12 by omega) (fun _ => rfl) (fun _ => rfl) (fun r50 => ?_)
        refine A_aload_n (pc := 432) (i := 2) dL_law_432 rfl rfl ?_
        refine A_aload_n (pc := 433) (i := 0) dL_law_433 rfl rfl ?_
        refine A_iload_n (pc := 434) (i := 3) dL_law_434 rfl rfl ?_
        refine A_iconst (pc := 435) (v := (1 : Int32)) dL_law_435 (by decide) ?_
        refine A_iadd (pc := 436) dL_law_436 ?_
        refine A_ite (fun hg51 => ?_) (fun _ => Aw.none)
        refine A_sld (pc := 437) (L := L) (xs := xs) rfl dL_law_437 (in_of hL hg51) ?_
        refine A_aload_n (pc := 438) (i := 0) dL_law_438 rfl rfl ?_
        refine A_iload_n (pc := 439) (i := 3) dL_law_439 rfl rfl ?_
        refine A_iconst (pc := 440) (v := (2 : Int32)) dL_law_440 (by decide) ?_
        refine A_iadd (pc := 441) dL_law_441 ?_
        refine A_ite (fun hg52 => ?_) (fun _ => Aw.none)
        refine A_sld (pc := 442) (L := L) (xs := xs) rfl dL_law_442 (in_of hL hg52) ?_
        refine A_callV (pc := 443) (M' := mX8_of) (As := [vi (xs (Int32.toNatClampNeg (x3 + (1 : Int32)))), vi (xs (Int32.toNatClampNeg (x3 + (2 : Int32))))]) (st := [vi r50.1]) (n, 12 * n) (fun r53 => [vi r53.1, vi r50.1]) (fun r53 => r53.2) (a_X8_of (xs (Int32.toNatClampNeg (x3 + (1 : Int32)))) (xs (Int32.toNatClampNeg (x3 + (2 : Int32)))) r50.2) kD_X8_of kM_L_45 kI_X8_of kS_X8_of kN_X8 ⟨(Nat.le_of_ble_eq_true rfl), (Nat.le_of_ble_eq_true rfl)⟩ dL_law_443 rfl rfl rfl (by decide) rfl (Nat.le_of_ble_eq_true rfl) (show n + 0 ≤ n by omega) (show 12 * n + 0 ≤ 12 * n by omega) (fun _ => rfl) (fun _ => rfl) (fun r53 => ?_)
        refine A_icmp_eq (pc := 446) (tgt := 1199) dL_law_446 (by decide) ?_ ?_
        · refine A_iinc (pc := 1199) (i := 3) (v := (x3 + 6)) (ls2 := [some (vr 99 (some 0)), some (vr 7 (some 0)), some (vr 8 (some 0)), some (vi (x3 + 6))]) dL_law_1199 rfl rfl (Nat.le_of_ble_eq_true rfl) rfl ?_
          refine A_goto (pc := 1202) (tgt := 18) dL_law_1202 (by decide) ?_
          exact Aw.weak (ls' := [some (vr 99 (some 0)), some (vr 7 (some 0)), some (vr 8 (some 0)), some (vi (x3 + 6))]) ⟨rfl, ⟨rfl, ⟨rfl, ⟨rfl, trivial⟩⟩⟩⟩ (ih (x3 + 6) r53.2)
        · refine A_iconst (pc := 449) (v := (0 : Int32)) dL_law_449 (by decide) ?_
          exact A_retB rfl rfl dL_law_450
      · refine A_aload_n (pc := 451) (i := 1) dL_law_451 rfl rfl ?_
        refine A_aload_n (pc := 452) (i := 0) dL_law_452 rfl rfl ?_
        refine A_iload_n (pc := 453) (i := 3) dL_law_453 rfl rfl ?_
        refine A_iconst (pc := 454) (v := (1 : Int32)) dL_law_454 (by decide) ?_
        refine A_iadd (pc := 455) dL_law_455 ?_
        refine A_ite (fun hg54 => ?_) (fun _ => Aw.none)
        refine A_sld (pc := 456) (L := L) (xs := xs) rfl dL_law_456 (in_of hL hg54) ?_
        refine A_aload_n (pc := 457) (i := 0) dL_law_457 rfl rfl ?_
        refine A_iload_n (pc := 458) (i := 3) dL_law_458 rfl rfl ?_
        refine A_iconst (pc := 459) (v := (2 : Int32)) dL_law_459 (by decide) ?_
        refine A_iadd (pc := 460) dL_law_460 ?_
        refine A_ite (fun hg55 => ?_) (fun _ => Aw.none)
        refine A_sld (pc := 461) (L := L) (xs := xs) rfl dL_law_461 (in_of hL hg55) ?_
        refine A_callV (pc := 462) (M' := mX7_at) (As := [vi (xs (Int32.toNatClampNeg (x3 + (1 : Int32)))), vi (xs (Int32.toNatClampNeg (x3 + (2 : Int32))))]) (st := []) (n, 12 * n) (fun r56 => [vi r56.1]) (fun r56 => r56.2) (a_X7_at (xs (Int32.toNatClampNeg (x3 + (1 : Int32)))) (xs (Int32.toNatClampNeg (x3 + (2 : Int32)))) h) kD_X7_at kM_L_46 kI_X7_at kS_X7_at kN_X7 ⟨(Nat.le_of_ble_eq_true rfl), (Nat.le_of_ble_eq_true rfl)⟩ dL_law_462 rfl rfl rfl (by decide) rfl (Nat.le_of_ble_eq_true rfl) (show n + 0 ≤ n + 1 by omega) (show 12 * n + 0 ≤ 12 * n + 12 by omega) (fun _ => rfl) (fun _ => rfl) (fun r56 => ?_)
        refine A_aload_n (pc := 465) (i := 2) dL_law_465 rfl rfl ?_
        refine A_aload_n (pc := 466) (i := 0) dL_law_466 rfl rfl ?_
        refine A_iload_n (pc := 467) (i := 3) dL_law_467 rfl rfl ?_
        refine A_iconst (pc := 468) (v := (1 : Int32)) dL_law_468 (by decide) ?_
        refine A_iadd (pc := 469) dL_law_469 ?_
        refine A_ite (fun hg57 => ?_) (fun _ => Aw.none)
        refine A_sld (pc := 470) (L := L) (xs := xs) rfl dL_law_470 (in_of hL hg57) ?_
        refine A_aload_n (pc := 471) (i := 0) dL_law_471 rfl rfl ?_
        refine A_iload_n (pc := 472) (i := 3) dL_law_472 rfl rfl ?_
        refine A_iconst (pc := 473) (v := (2 : Int32)) dL_law_473 (by decide) ?_
        refine A_iadd (pc := 474) dL_law_474 ?_
        refine A_ite (fun hg58 => ?_) (fun _ => Aw.none)
        refine A_sld (pc := 475) (L := L) (xs := xs) rfl dL_law_475 (in_of hL hg58) ?_
        refine A_callV (pc := 476) (M' := mX8_at) (As := [vi (xs (Int32.toNatClampNeg (x3 + (1 : Int32)))), vi (xs (Int32.toNatClampNeg (x3 + (2 : Int32))))]) (st := [vi r56.1]) (n, 12 * n) (fun r59 => [vi r59.1, vi r56.1]) (fun r59 => r59.2) (a_X8_at (xs (Int32.toNatClampNeg (x3 + (1 : Int32)))) (xs (Int32.toNatClampNeg (x3 + (2 : Int32)))) r56.2) kD_X8_at kM_L_49 kI_X8_at kS_X8_at kN_X8 ⟨(Nat.le_of_ble_eq_true rfl), (Nat.le_of_ble_eq_true rfl)⟩ dL_law_476 rfl rfl rfl (by decide) rfl (Nat.le_of_ble_eq_true rfl) (show n + 0 ≤ n by omega) (show 12 * n + 0 ≤ 12 * n by omega) (fun _ => rfl) (fun _ => rfl) (fun r59 => ?_)
        refine A_icmp_eq (pc := 479) (tgt := 1199) dL_law_479 (by decide) ?_ ?_
        · refine A_iinc (pc := 1199) (i := 3) (v := (x3 + 6)) (ls2 := [some (vr 99 (some 0)), some (vr 7 (some 0)), some (vr 8 (some 0)), some (vi (x3 + 6))]) dL_law_1199 rfl rfl (Nat.le_of_ble_eq_true rfl) rfl ?_
          refine A_goto (pc := 1202) (tgt := 18) dL_law_1202 (by decide) ?_
          exact Aw.weak (ls' := [some (vr 99 (some 0)), some (vr 7 (some 0)), some (vr 8 (some 0)), some (vi (x3 + 6))]) ⟨rfl, ⟨rfl, ⟨rfl, ⟨rfl, trivial⟩⟩⟩⟩ (ih (x3 + 6) r59.2)
        · refine A_iconst (pc := 482) (v := (0 : Int32)) dL_law_482 (by decide) ?_
          exact A_retB rfl rfl dL_law_483
      · refine A_aload_n (pc := 484) (i := 1) dL_law_484 rfl rfl ?_
        refine A_aload_n (pc := 485) (i := 0) dL_law_485 rfl rfl ?_
        refine A_iload_n (pc := 486) (i := 3) dL_law_486 rfl rfl ?_
        refine A_iconst (pc := 487) (v := (1 : Int32)) dL_law_487 (by decide) ?_
        refine A_iadd (pc := 488) dL_law_488 ?_
        refine A_ite (fun hg60 => ?_) (fun _ => Aw.none)
        refine A_sld (pc := 489) (L := L) (xs := xs) rfl dL_law_489 (in_of hL hg60) ?_
        refine A_aload_n (pc := 490) (i := 0) dL_law_490 rfl rfl ?_
        refine A_iload_n (pc := 491) (i := 3) dL_law_491 rfl rfl ?_
        refine A_iconst (pc := 492) (v := (2 : Int32)) dL_law_492 (by decide) ?_
        refine A_iadd (pc := 493) dL_law_493 ?_
        refine A_ite (fun hg61 => ?_) (fun _ => Aw.none)
        refine A_sld (pc := 494) (L := L) (xs := xs) rfl dL_law_494 (in_of hL hg61) ?_
        refine A_callV (pc := 495) (M' := mX7_may) (As := [vi (xs (Int32.toNatClampNeg (x3 + (1 : Int32)))), vi (xs (Int32.toNatClampNeg (x3 + (2 : Int32))))]) (st := []) (n, 12 * n) (fun r62 => [vi r62.1]) (fun r62 => r62.2) (a_X7_may (xs (Int32.toNatClampNeg (x3 + (1 : Int32)))) (xs (Int32.toNatClampNeg (x3 + (2 : Int32)))) h) kD_X7_may kM_L_50 kI_X7_may kS_X7_may kN_X7 ⟨(Nat.le_of_ble_eq_true rfl), (Nat.le_of_ble_eq_true rfl)⟩ dL_law_495 rfl rfl rfl (by decide) rfl (Nat.le_of_ble_eq_true rfl) (show n + 0 ≤ n + 1 by omega) (show 12 * n + 0 ≤ 12 * n + 12 by omega) (fun _ => rfl) (fun _ => rfl) (fun r62 => ?_)
        refine A_aload_n (pc := 498) (i := 2) dL_law_498 rfl rfl ?_
        refine A_aload_n (pc := 499) (i := 0) dL_law_499 rfl rfl ?_
        refine A_iload_n (pc := 500) (i := 3) dL_law_500 rfl rfl ?_
        refine A_iconst (pc := 501) (v := (1 : Int32)) dL_law_501 (by decide) ?_
        refine A_iadd (pc := 502) dL_law_502 ?_
        refine A_ite (fun hg63 => ?_) (fun _ => Aw.none)
        refine A_sld (pc := 503) (L := L) (xs := xs) rfl dL_law_503 (in_of hL hg63) ?_
        refine A_aload_n (pc := 504) (i := 0) dL_law_504 rfl rfl ?_
        refine A_iload_n (pc := 505) (i := 3) dL_law_505 rfl rfl ?_
        refine A_iconst (pc := 506) (v := (2 : Int32)) dL_law_506 (by decide) ?_
        refine A_iadd (pc := 507) dL_law_507 ?_
        refine A_ite (fun hg64 => ?_) (fun _ => Aw.none)
        refine A_sld (pc := 508) (L := L) (xs := xs) rfl dL_law_508 (in_of hL hg64) ?_
        refine A_callV (pc := 509) (M' := mX8_may) (As := [vi (xs (Int32.toNatClampNeg (x3 + (1 : Int32)))), vi (xs (Int32.toNatClampNeg (x3 + (2 : Int32))))]) (st := [vi r62.1]) (n, 12 * n) (fun r65 => [vi r65.1, vi r62.1]) (fun r65 => r65.2) (a_X8_may (xs (Int32.toNatClampNeg (x3 + (1 : Int32)))) (xs (Int32.toNatClampNeg (x3 + (2 : Int32)))) r62.2) kD_X8_may kM_L_53 kI_X8_may kS_X8_may kN_X8 ⟨(Nat.le_of_ble_eq_true rfl), (Nat.le_of_ble_eq_true rfl)⟩ dL_law_509 rfl rfl rfl (by decide) rfl (Nat.le_of_ble_eq_true rfl) (show n + 0 ≤ n by omega) (show 12 * n + 0 ≤ 12 * n by omega) (fun _ => rfl) (fun _ => rfl) (fun r65 => ?_)
        refine A_icmp_eq (pc := 512) (tgt := 1199) dL_law_512 (by decide) ?_ ?_
        · refine A_iinc (pc := 1199) (i := 3) (v := (x3 + 6)) (ls2 := [some (vr 99 (some 0)), some (vr 7 (some 0)), some (vr 8 (some 0)), some (vi (x3 + 6))]) dL_law_1199 rfl rfl (Nat.le_of_ble_eq_true rfl) rfl ?_
          refine A_goto (pc := 1202) (tgt := 18) dL_law_1202 (by decide) ?_
          exact Aw.weak (ls' := [some (vr 99 (some 0)), some (vr 7 (some 0)), some (vr 8 (some 0)), some (vi (x3 + 6))]) ⟨rfl, ⟨rfl, ⟨rfl, ⟨rfl, trivial⟩⟩⟩⟩ (ih (x3 + 6) r65.2)
        · refine A_iconst (pc := 515) (v := (0 : Int32)) dL_law_515 (by decide) ?_
          exact A_retB rfl rfl dL_law_516
      · refine A_aload_n (pc := 517) (i := 1) dL_law_517 rfl rfl ?_
        refine A_aload_n (pc := 518) (i := 0) dL_law_518 rfl rfl ?_
        refine A_iload_n (pc := 519) (i := 3) dL_law_519 rfl rfl ?_
        refine A_iconst (pc := 520) (v := (1 : Int32)) dL_law_520 (by decide) ?_
        refine A_iadd (pc := 521) dL_law_521 ?_
        refine A_ite (fun hg66 => ?_) (fun _ => Aw.none)
        refine A_sld (pc := 522) (L := L) (xs := xs) rfl dL_law_522 (in_of hL hg66) ?_
        refine A_aload_n (pc := 523) (i := 0) dL_law_523 rfl rfl ?_
        refine A_iload_n (pc := 524) (i := 3) dL_law_524 rfl rfl ?_
        refine A_iconst (pc := 525) (v := (2 : Int32)) dL_law_525 (by decide) ?_
        refine A_iadd (pc := 526) dL_law_526 ?_
        refine A_ite (fun hg67 => ?_) (fun _ => Aw.none)
        refine A_sld (pc := 527) (L := L) (xs := xs) rfl dL_law_527 (in_of hL hg67) ?_
        refine A_callV (pc := 528) (M' := mX7_comes) (As := [vi (xs (Int32.toNatClampNeg (x3 + (1 : Int32)))), vi (xs (Int32.toNatClampNeg (x3 + (2 : Int32))))]) (st := []) (n, 12 * n) (fun r68 => [vi r68.1]) (fun r68 => r68.2) (a_X7_comes (xs (Int32.toNatClampNeg (x3 + (1 : Int32)))) (xs (Int32.toNatClampNeg (x3 + (2 : Int32)))) h) kD_X7_comes kM_L_54 kI_X7_comes kS_X7_comes kN_X7 ⟨(Nat.le_of_ble_eq_true rfl), (Nat.le_of_ble_eq_true rfl)⟩ dL_law_528 rfl rfl rfl (by decide) rfl (Nat.le_of_ble_eq_true rfl) (show n + 0 ≤ n + 1 by omega) (show 12 * n + 0 ≤ 12 * n + 12 by omega) (fun _ => rfl) (fun _ => rfl) (fun r68 => ?_)
        refine A_aload_n (pc := 531) (i := 2) dL_law_531 rfl rfl ?_
        refine A_aload_n (pc := 532) (i := 0) dL_law_532 rfl rfl ?_
        refine A_iload_n (pc := 533) (i := 3) dL_law_533 rfl rfl ?_
        refine A_iconst (pc := 534) (v := (1 : Int32)) dL_law_534 (by decide) ?_
        refine A_iadd (pc := 535) dL_law_535 ?_
        refine A_ite (fun hg69 => ?_) (fun _ => Aw.none)
        refine A_sld (pc := 536) (L := L) (xs := xs) rfl dL_law_536 (in_of hL hg69) ?_
        refine A_aload_n (pc := 537) (i := 0) dL_law_537 rfl rfl ?_
        refine A_iload_n (pc := 538) (i := 3) dL_law_538 rfl rfl ?_
        refine A_iconst (pc := 539) (v := (2 : Int32)) dL_law_539 (by decide) ?_
        refine A_iadd (pc := 540) dL_law_540 ?_
        refine A_ite (fun hg70 => ?_) (fun _ => Aw.none)
        refine A_sld (pc := 541) (L := L) (xs := xs) rfl dL_law_541 (in_of hL hg70) ?_
        refine A_callV (pc := 542) (M' := mX8_comes) (As := [vi (xs (Int32.toNatClampNeg (x3 + (1 : Int32)))), vi (xs (Int32.toNatClampNeg (x3 + (2 : Int32))))]) (st := [vi r68.1]) (n, 12 * n) (fun r71 => [vi r71.1, vi r68.1]) (fun r71 => r71.2) (a_X8_comes (xs (Int32.toNatClampNeg (x3 + (1 : Int32)))) (xs (Int32.toNatClampNeg (x3 + (2 : Int32)))) r68.2) kD_X8_comes kM_L_57 kI_X8_comes kS_X8_comes kN_X8 ⟨(Nat.le_of_ble_eq_true rfl), (Nat.le_of_ble_eq_true rfl)⟩ dL_law_542 rfl rfl rfl (by decide) rfl (Nat.le_of_ble_eq_true rfl) (show n + 0 ≤ n by omega) (show 12 * n + 0 ≤ 12 * n by omega) (fun _ => rfl) (fun _ => rfl) (fun r71 => ?_)
        refine A_icmp_eq (pc := 545) (tgt := 1199) dL_law_545 (by decide) ?_ ?_
        · refine A_iinc (pc := 1199) (i := 3) (v := (x3 + 6)) (ls2 := [some (vr 99 (some 0)), some (vr 7 (some 0)), some (vr 8 (some 0)), some (vi (x3 + 6))]) dL_law_1199 rfl rfl (Nat.le_of_ble_eq_true rfl) rfl ?_
          refine A_goto (pc := 1202) (tgt := 18) dL_law_1202 (by decide) ?_
          exact Aw.weak (ls' := [some (vr 99 (some 0)), some (vr 7 (some 0)), some (vr 8 (some 0)), some (vi (x3 + 6))]) ⟨rfl, ⟨rfl, ⟨rfl, ⟨rfl, trivial⟩⟩⟩⟩ (ih (x3 + 6) r71.2)
        · refine A_iconst (pc := 548) (v := (0 : Int32)) dL_law_548 (by decide) ?_
          exact A_retB rfl rfl dL_law_549
      · refine A_aload_n (pc := 550) (i := 1) dL_law_550 rfl rfl ?_
        refine A_aload_n (pc := 551) (i := 0) dL_law_551 rfl rfl ?_
        refine A_iload_n (pc := 552) (i := 3) dL_law_552 rfl rfl ?_
        refine A_iconst (pc := 553) (v := (1 : Int32)) dL_law_553 (by decide) ?_
        refine A_iadd (pc := 554) dL_law_554 ?_
        refine A_ite (fun hg72 => ?_) (fun _ => Aw.none)
        refine A_sld (pc := 555) (L := L) (xs := xs) rfl dL_law_555 (in_of hL hg72) ?_
        refine A_aload_n (pc := 556) (i := 0) dL_law_556 rfl rfl ?_
        refine A_iload_n (pc := 557) (i := 3) dL_law_557 rfl rfl ?_
        refine A_iconst (pc := 558) (v := (2 : Int32)) dL_law_558 (by decide) ?_
        refine A_iadd (pc := 559) dL_law_559 ?_
        refine A_ite (fun hg73 => ?_) (fun _ => Aw.none)
        refine A_sld (pc := 560) (L := L) (xs := xs) rfl dL_law_560 (in_of hL hg73) ?_
        refine A_aload_n (pc := 561) (i := 0) dL_law_561 rfl rfl ?_
        refine A_iload_n (pc := 562) (i := 3) dL_law_562 rfl rfl ?_
        refine A_iconst (pc := 563) (v := (3 : Int32)) dL_law_563 (by decide) ?_
        refine A_iadd (pc := 564) dL_law_564 ?_
        refine A_ite (fun hg74 => ?_) (fun _ => Aw.none)
        refine A_sld (pc := 565) (L := L) (xs := xs) rfl dL_law_565 (in_of hL hg74) ?_
        refine A_callV (pc := 566) (M' := mX7_between) (As := [vi (xs (Int32.toNatClampNeg (x3 + (1 : Int32)))), vi (xs (Int32.toNatClampNeg (x3 + (2 : Int32)))), vi (xs (Int32.toNatClampNeg (x3 + (3 : Int32))))]) (st := []) (n, 12 * n) (fun r75 => [vi r75.1]) (fun r75 => r75.2) (a_X7_between (xs (Int32.toNatClampNeg (x3 + (1 : Int32)))) (xs (Int32.toNatClampNeg (x3 + (2 : Int32)))) (xs (Int32.toNatClampNeg (x3 + (3 : Int32)))) h) kD_X7_between kM_L_58 kI_X7_between kS_X7_between kN_X7 ⟨(Nat.le_of_ble_eq_true rfl), (Nat.le_of_ble_eq_true rfl)⟩ dL_law_566 rfl rfl rfl (by decide) rfl (Nat.le_of_ble_eq_true rfl) (show n + 0 ≤ n + 1 by omega) (show 12 * n + 0 ≤ 12 * n + 12 by omega) (fun _ => rfl) (fun _ => rfl) (fun r75 => ?_)
        refine A_aload_n (pc := 569) (i := 2) dL_law_569 rfl rfl ?_
        refine A_aload_n (pc := 570) (i := 0) dL_law_570 rfl rfl ?_
        refine A_iload_n (pc := 571) (i := 3) dL_law_571 rfl rfl ?_
        refine A_iconst (pc := 572) (v := (1 : Int32)) dL_law_572 (by decide) ?_
        refine A_iadd (pc := 573) dL_law_573 ?_
        refine A_ite (fun hg76 => ?_) (fun _ => Aw.none)
        refine A_sld (pc := 574) (L := L) (xs := xs) rfl dL_law_574 (in_of hL hg76) ?_
        refine A_aload_n (pc := 575) (i := 0) dL_law_575 rfl rfl ?_
        refine A_iload_n (pc := 576) (i := 3) dL_law_576 rfl rfl ?_
        refine A_iconst (pc := 577) (v := (2 : Int32)) dL_law_577 (by decide) ?_
        refine A_iadd (pc := 578) dL_law_578 ?_
        refine A_ite (fun hg77 => ?_) (fun _ => Aw.none)
        refine A_sld (pc := 579) (L := L) (xs := xs) rfl dL_law_579 (in_of hL hg77) ?_
        refine A_aload_n (pc := 580) (i := 0) dL_law_580 rfl rfl ?_
        refine A_iload_n (pc := 581) (i := 3) dL_law_581 rfl rfl ?_
        refine A_iconst (pc := 582) (v := (3 : Int32)) dL_law_582 (by decide) ?_
        refine A_iadd (pc := 583) dL_law_583 ?_
        refine A_ite (fun hg78 => ?_) (fun _ => Aw.none)
        refine A_sld (pc := 584) (L := L) (xs := xs) rfl dL_law_584 (in_of hL hg78) ?_
        refine A_callV (pc := 585) (M' := mX8_between) (As := [vi (xs (Int32.toNatClampNeg (x3 + (1 : Int32)))), vi (xs (Int32.toNatClampNeg (x3 + (2 : Int32)))), vi (xs (Int32.toNatClampNeg (x3 + (3 : Int32))))]) (st := [vi r75.1]) (n, 12 * n) (fun r79 => [vi r79.1, vi r75.1]) (fun r79 => r79.2) (a_X8_between (xs (Int32.toNatClampNeg (x3 + (1 : Int32)))) (xs (Int32.toNatClampNeg (x3 + (2 : Int32)))) (xs (Int32.toNatClampNeg (x3 + (3 : Int32)))) r75.2) kD_X8_between kM_L_61 kI_X8_between kS_X8_between kN_X8 ⟨(Nat.le_of_ble_eq_true rfl), (Nat.le_of_ble_eq_true rfl)⟩ dL_law_585 rfl rfl rfl (by decide) rfl (Nat.le_of_ble_eq_true rfl) (show n + 0 ≤ n by omega) (show 12 * n + 0 ≤ 12 * n by omega) (fun _ => rfl) (fun _ => rfl) (fun r79 => ?_)
        refine A_icmp_eq (pc := 588) (tgt := 1199) dL_law_588 (by decide) ?_ ?_
        · refine A_iinc (pc := 1199) (i := 3) (v := (x3 + 6)) (ls2 := [some (vr 99 (some 0)), some (vr 7 (some 0)), some (vr 8 (some 0)), some (vi (x3 + 6))]) dL_law_1199 rfl rfl (Nat.le_of_ble_eq_true rfl) rfl ?_
          refine A_goto (pc := 1202) (tgt := 18) dL_law_1202 (by decide) ?_
          exact Aw.weak (ls' := [some (vr 99 (some 0)), some (vr 7 (some 0)), some (vr 8 (some 0)), some (vi (x3 + 6))]) ⟨rfl, ⟨rfl, ⟨rfl, ⟨rfl, trivial⟩⟩⟩⟩ (ih (x3 + 6) r79.2)
        · refine A_iconst (pc := 591) (v := (0 : Int32)) dL_law_591 (by decide) ?_
          exact A_retB rfl rfl dL_law_592
      · refine A_aload_n (pc := 593) (i := 1) dL_law_593 rfl rfl ?_
        refine A_aload_n (pc := 594) (i := 0) dL_law_594 rfl rfl ?_
        refine A_iload_n (pc := 595) (i := 3) dL_law_595 rfl rfl ?_
        refine A_iconst (pc := 596) (v := (1 : Int32)) dL_law_596 (by decide) ?_
        refine A_iadd (pc := 597) dL_law_597 ?_
        refine A_ite (fun hg80 => ?_) (fun _ => Aw.none)
        refine A_sld (pc := 598) (L := L) (xs := xs) rfl dL_law_598 (in_of hL hg80) ?_
        refine A_callV (pc := 599) (M' := mX7_goes) (As := [vi (xs (Int32.toNatClampNeg (x3 + (1 : Int32))))]) (st := []) (n, 12 * n) (fun r81 => [vi r81.1]) (fun r81 => r81.2) (a_X7_goes (xs (Int32.toNatClampNeg (x3 + (1 : Int32)))) h) kD_X7_goes kM_L_62 kI_X7_goes kS_X7_goes kN_X7 ⟨(Nat.le_of_ble_eq_true rfl), (Nat.le_of_ble_eq_true rfl)⟩ dL_law_599 rfl rfl rfl (by decide) rfl (Nat.le_of_ble_eq_true rfl) (show n + 0 ≤ n + 1 by omega) (show 12 * n + 0 ≤ 12 * n + 12 by omega) (fun _ => rfl) (fun _ => rfl) (fun r81 => ?_)
        refine A_aload_n (pc := 602) (i := 2) dL_law_602 rfl rfl ?_
        refine A_aload_n (pc := 603) (i := 0) dL_law_603 rfl rfl ?_
        refine A_iload_n (pc := 604) (i := 3) dL_law_604 rfl rfl ?_
        refine A_iconst (pc := 605) (v := (1 : Int32)) dL_law_605 (by decide) ?_
        refine A_iadd (pc := 606) dL_law_606 ?_
        refine A_ite (fun hg82 => ?_) (fun _ => Aw.none)
        refine A_sld (pc := 607) (L := L) (xs := xs) rfl dL_law_607 (in_of hL hg82) ?_
        refine A_callV (pc := 608) (M' := mX8_goes) (As := [vi (xs (Int32.toNatClampNeg (x3 + (1 : Int32))))]) (st := [vi r81.1]) (n, 12 * n) (fun r83 => [vi r83.1, vi r81.1]) (fun r83 => r83.2) (a_X8_goes (xs (Int32.toNatClampNeg (x3 + (1 : Int32)))) r81.2) kD_X8_goes kM_L_65 kI_X8_goes kS_X8_goes kN_X8 ⟨(Nat.le_of_ble_eq_true rfl), (Nat.le_of_ble_eq_true rfl)⟩ dL_law_608 rfl rfl rfl (by decide) rfl (Nat.le_of_ble_eq_true rfl) (show n + 0 ≤ n by omega) (show 12 * n + 0 ≤ 12 * n by omega) (fun _ => rfl) (fun _ => rfl) (fun r83 => ?_)
        refine A_icmp_eq (pc := 611) (tgt := 1199) dL_law_611 (by decide) ?_ ?_
        · refine A_iinc (pc := 1199) (i := 3) (v := (x3 + 6)) (ls2 := [some (vr 99 (some 0)), some (vr 7 (some 0)), some (vr 8 (some 0)), some (vi (x3 + 6))]) dL_law_1199 rfl rfl (Nat.le_of_ble_eq_true rfl) rfl ?_
          refine A_goto (pc := 1202) (tgt := 18) dL_law_1202 (by decide) ?_
          exact Aw.weak (ls' := [some (vr 99 (some 0)), some (vr 7 (some 0)), some (vr 8 (some 0)), some (vi (x3 + 6))]) ⟨rfl, ⟨rfl, ⟨rfl, ⟨rfl, trivial⟩⟩⟩⟩ (ih (x3 + 6) r83.2)
        · refine A_iconst (pc := 614) (v := (0 : Int32)) dL_law_614 (by decide) ?_
          exact A_retB rfl rfl dL_law_615
      · refine A_aload_n (pc := 616) (i := 1) dL_law_616 rfl rfl ?_
        refine A_aload_n (pc := 617) (i := 0) dL_law_617 rfl rfl ?_
        refine A_iload_n (pc := 618) (i := 3) dL_law_618 rfl rfl ?_
        refine A_iconst (pc := 619) (v := (1 : Int32)) dL_law_619 (by decide) ?_
        refine A_iadd (pc := 620) dL_law_620 ?_
        refine A_ite (fun hg84 => ?_) (fun _ => Aw.none)
        refine A_sld (pc := 621) (L := L) (xs := xs) rfl dL_law_621 (in_of hL hg84) ?_
        refine A_callV (pc := 622) (M' := mX7_fault) (As := [vi (xs (Int32.toNatClampNeg (x3 + (1 : Int32))))]) (st := []) (n, 12 * n) (fun r85 => [vi r85.1]) (fun r85 => r85.2) (a_X7_fault (xs (Int32.toNatClampNeg (x3 + (1 : Int32)))) h) kD_X7_fault kM_L_66 kI_X7_fault kS_X7_fault kN_X7 ⟨(Nat.le_of_ble_eq_true rfl), (Nat.le_of_ble_eq_true rfl)⟩ dL_law_622 rfl rfl rfl (by decide) rfl (Nat.le_of_ble_eq_true rfl) (show n + 0 ≤ n + 1 by omega) (show 12 * n + 0 ≤ 12 * n + 12 by omega) (fun _ => rfl) (fun _ => rfl) (fun r85 => ?_)
        refine A_aload_n (pc := 625) (i := 2) dL_law_625 rfl rfl ?_
        refine A_aload_n (pc := 626) (i := 0) dL_law_626 rfl rfl ?_
        refine A_iload_n (pc := 627) (i := 3) dL_law_627 rfl rfl ?_
        refine A_iconst (pc := 628) (v := (1 : Int32)) dL_law_628 (by decide) ?_
        refine A_iadd (pc := 629) dL_law_629 ?_
        refine A_ite (fun hg86 => ?_) (fun _ => Aw.none)
        refine A_sld (pc := 630) (L := L) (xs := xs) rfl dL_law_630 (in_of hL hg86) ?_
        refine A_callV (pc := 631) (M' := mX8_fault) (As := [vi (xs (Int32.toNatClampNeg (x3 + (1 : Int32))))]) (st := [vi r85.1]) (n, 12 * n) (fun r87 => [vi r87.1, vi r85.1]) (fun r87 => r87.2) (a_X8_fault (xs (Int32.toNatClampNeg (x3 + (1 : Int32)))) r85.2) kD_X8_fault kM_L_69 kI_X8_fault kS_X8_fault kN_X8 ⟨(Nat.le_of_ble_eq_true rfl), (Nat.le_of_ble_eq_true rfl)⟩ dL_law_631 rfl rfl rfl (by decide) rfl (Nat.le_of_ble_eq_true rfl) (show n + 0 ≤ n by omega) (show 12 * n + 0 ≤ 12 * n by omega) (fun _ => rfl) (fun _ => rfl) (fun r87 => ?_)
        refine A_icmp_eq (pc := 634) (tgt := 1199) dL_law_634 (by decide) ?_ ?_
        · refine A_iinc (pc := 1199) (i := 3) (v := (x3 + 6)) (ls2 := [some (vr 99 (some 0)), some (vr 7 (some 0)), some (vr 8 (some 0)), some (vi (x3 + 6))]) dL_law_1199 rfl rfl (Nat.le_of_ble_eq_true rfl) rfl ?_
          refine A_goto (pc := 1202) (tgt := 18) dL_law_1202 (by decide) ?_
          exact Aw.weak (ls' := [some (vr 99 (some 0)), some (vr 7 (some 0)), some (vr 8 (some 0)), some (vi (x3 + 6))]) ⟨rfl, ⟨rfl, ⟨rfl, ⟨rfl, trivial⟩⟩⟩⟩ (ih (x3 + 6) r87.2)
        · refine A_iconst (pc := 637) (v := (0 : Int32)) dL_law_637 (by decide) ?_
          exact A_retB rfl rfl dL_law_638
      · refine A_aload_n (pc := 639) (i := 1) dL_law_639 rfl rfl ?_
        refine A_aload_n (pc := 640) (i := 0) dL_law_640 rfl rfl ?_
        refine A_iload_n (pc := 641) (i := 3) dL_law_641 rfl rfl ?_
        refine A_iconst (pc := 642) (v := (1 : Int32)) dL_law_642 (by decide) ?_
        refine A_iadd (pc := 643) dL_law_643 ?_
        refine A_ite (fun hg88 => ?_) (fun _ => Aw.none)
        refine A_sld (pc := 644) (L := L) (xs := xs) rfl dL_law_644 (in_of hL hg88) ?_
        refine A_aload_n (pc := 645) (i := 0) dL_law_645 rfl rfl ?_
        refine A_iload_n (pc := 646) (i := 3) dL_law_646 rfl rfl ?_
        refine A_iconst (pc := 647) (v := (2 : Int32)) dL_law_647 (by decide) ?_
        refine A_iadd (pc := 648) dL_law_648 ?_
        refine A_ite (fun hg89 => ?_) (fun _ => Aw.none)
        refine A_sld (pc := 649) (L := L) (xs := xs) rfl dL_law_649 (in_of hL hg89) ?_
        refine A_if_eq (pc := 650) (tgt := 657) dL_law_650 (by decide) ?_ ?_
        · refine A_iconst (pc := 657) (v := (0 : Int32)) dL_law_657 (by decide) ?_
          exact Aw.weak (ls' := [some (vr 99 (some 0)), some (vr 7 (some 0)), some (vr 8 (some 0)), some (vi x3)]) ⟨rfl, ⟨rfl, ⟨rfl, ⟨rfl, trivial⟩⟩⟩⟩ (aJ_L_law_658 L xs hL n (fL_L_law_18 L xs n) ih x3 (xs (Int32.toNatClampNeg (x3 + (1 : Int32)))) (0 : Int32) h)
        · refine A_iconst (pc := 653) (v := (1 : Int32)) dL_law_653 (by decide) ?_
          refine A_goto (pc := 654) (tgt := 658) dL_law_654 (by decide) ?_
          exact Aw.weak (ls' := [some (vr 99 (some 0)), some (vr 7 (some 0)), some (vr 8 (some 0)), some (vi x3)]) ⟨rfl, ⟨rfl, ⟨rfl, ⟨rfl, trivial⟩⟩⟩⟩ (aJ_L_law_658 L xs hL n (fL_L_law_18 L xs n) ih x3 (xs (Int32.toNatClampNeg (x3 + (1 : Int32)))) (1 : Int32) h)
      · refine A_aload_n (pc := 688) (i := 1) dL_law_688 rfl rfl ?_
        refine A_aload_n (pc := 689) (i := 0) dL_law_689 rfl rfl ?_
        refine A_iload_n (pc := 690) (i := 3) dL_law_690 rfl rfl ?_
        refine A_iconst (pc := 691) (v := (1 : Int32)) dL_law_691 (by decide) ?_
        refine A_iadd (pc := 692) dL_law_692 ?_
        refine A_ite (fun hg94 => ?_) (fun _ => Aw.none)
        refine A_sld (pc := 693) (L := L) (xs := xs) rfl dL_law_693 (in_of hL hg94) ?_
        refine A_callV (pc := 694) (M' := mX7_offer) (As := [vi (xs (Int32.toNatClampNeg (x3 + (1 : Int32))))]) (st := []) (n, 12 * n) (fun r95 => [vi r95.1]) (fun r95 => r95.2) (a_X7_offer (xs (Int32.toNatClampNeg (x3 + (1 : Int32)))) h) kD_X7_offer kM_L_75 kI_X7_offer kS_X7_offer kN_X7 ⟨(Nat.le_of_ble_eq_true rfl), (Nat.le_of_ble_eq_true rfl)⟩ dL_law_694 rfl rfl rfl (by decide) rfl (Nat.le_of_ble_eq_true rfl) (show n + 0 ≤ n + 1 by omega) (show 12 * n + 0 ≤ 12 * n + 12 by omega) (fun _ => rfl) (fun _ => rfl) (fun r95 => ?_)
        refine A_aload_n (pc := 697) (i := 2) dL_law_697 rfl rfl ?_
        refine A_aload_n (pc := 698) (i := 0) dL_law_698 rfl rfl ?_
        refine A_iload_n (pc := 699) (i := 3) dL_law_699 rfl rfl ?_
        refine A_iconst (pc := 700) (v := (1 : Int32)) dL_law_700 (by decide) ?_
        refine A_iadd (pc := 701) dL_law_701 ?_
        refine A_ite (fun hg96 => ?_) (fun _ => Aw.none)
        refine A_sld (pc := 702) (L := L) (xs := xs) rfl dL_law_702 (in_of hL hg96) ?_
        refine A_callV (pc := 703) (M' := mX8_offer) (As := [vi (xs (Int32.toNatClampNeg (x3 + (1 : Int32))))]) (st := [vi r95.1]) (n, 12 * n) (fun r97 => [vi r97.1, vi r95.1]) (fun r97 => r97.2) (a_X8_offer (xs (Int32.toNatClampNeg (x3 + (1 : Int32)))) r95.2) kD_X8_offer kM_L_78 kI_X8_offer kS_X8_offer kN_X8 ⟨(Nat.le_of_ble_eq_true rfl), (Nat.le_of_ble_eq_true rfl)⟩ dL_law_703 rfl rfl rfl (by decide) rfl (Nat.le_of_ble_eq_true rfl) (show n + 0 ≤ n by omega) (show 12 * n + 0 ≤ 12 * n by omega) (fun _ => rfl) (fun _ => rfl) (fun r97 => ?_)
        refine A_icmp_eq (pc := 706) (tgt := 1199) dL_law_706 (by decide) ?_ ?_
        · refine A_iinc (pc := 1199) (i := 3) (v := (x3 + 6)) (ls2 := [some (vr 99 (some 0)), some (vr 7 (some 0)), some (vr 8 (some 0)), some (vi (x3 + 6))]) dL_law_1199 rfl rfl (Nat.le_of_ble_eq_true rfl) rfl ?_
          refine A_goto (pc := 1202) (tgt := 18) dL_law_1202 (by decide) ?_
          exact Aw.weak (ls' := [some (vr 99 (some 0)), some (vr 7 (some 0)), some (vr 8 (some 0)), some (vi (x3 + 6))]) ⟨rfl, ⟨rfl, ⟨rfl, ⟨rfl, trivial⟩⟩⟩⟩ (ih (x3 + 6) r97.2)
        · refine A_iconst (pc := 709) (v := (0 : Int32)) dL_law_709 (by decide) ?_
          exact A_retB rfl rfl dL_law_710
      · refine A_aload_n (pc := 711) (i := 1) dL_law_711 rfl rfl ?_
        refine A_aload_n (pc := 712) (i := 0) dL_law_712 rfl rfl ?_
        refine A_iload_n (pc := 713) (i := 3) dL_law_713 rfl rfl ?_
        refine A_iconst (pc := 714) (v := (1 : Int32)) dL_law_714 (by decide) ?_
        refine A_iadd (pc := 715) dL_law_715 ?_
        refine A_ite (fun hg98 => ?_) (fun _ => Aw.none)
        refine A_sld (pc := 716) (L := L) (xs := xs) rfl dL_law_716 (in_of hL hg98) ?_
        refine A_callV (pc := 717) (M' := mX7_plan) (As := [vi (xs (Int32.toNatClampNeg (x3 + (1 : Int32))))]) (st := []) (n, 12 * n) (fun r99 => [vi r99.1]) (fun r99 => r99.2) (a_X7_plan (xs (Int32.toNatClampNeg (x3 + (1 : Int32)))) h) kD_X7_plan kM_L_79 kI_X7_plan kS_X7_plan kN_X7 ⟨(Nat.le_of_ble_eq_true rfl), (Nat.le_of_ble_eq_true rfl)⟩ dL_law_717 rfl rfl rfl (by decide) rfl (Nat.le_of_ble_eq_true rfl) (show n + 0 ≤ n + 1 by omega) (show 12 * n + 0 ≤ 12 * n + 12 by omega) (fun _ => rfl) (fun _ => rfl) (fun r99 => ?_)
        refine A_aload_n (pc := 720) (i := 2) dL_law_720 rfl rfl ?_
        refine A_aload_n (pc := 721) (i := 0) dL_law_721 rfl rfl ?_
        refine A_iload_n (pc := 722) (i := 3) dL_law_722 rfl rfl ?_
        refine A_iconst (pc := 723) (v := (1 : Int32)) dL_law_723 (by decide) ?_
        refine A_iadd (pc := 724) dL_law_724 ?_
        refine A_ite (fun hg100 => ?_) (fun _ => Aw.none)
        refine A_sld (pc := 725) (L := L) (xs := xs) rfl dL_law_725 (in_of hL hg100) ?_
        refine A_callV (pc := 726) (M' := mX8_plan) (As := [vi (xs (Int32.toNatClampNeg (x3 + (1 : Int32))))]) (st := [vi r99.1]) (n, 12 * n) (fun r101 => [vi r101.1, vi r99.1]) (fun r101 => r101.2) (a_X8_plan (xs (Int32.toNatClampNeg (x3 + (1 : Int32)))) r99.2) kD_X8_plan kM_L_82 kI_X8_plan kS_X8_plan kN_X8 ⟨(Nat.le_of_ble_eq_true rfl), (Nat.le_of_ble_eq_true rfl)⟩ dL_law_726 rfl rfl rfl (by decide) rfl (Nat.le_of_ble_eq_true rfl) (show n + 0 ≤ n by omega) (show 12 * n + 0 ≤ 12 * n by omega) (fun _ => rfl) (fun _ => rfl) (fun r101 => ?_)
        refine A_icmp_eq (pc := 729) (tgt := 1199) dL_law_729 (by decide) ?_ ?_
        · refine A_iinc (pc := 1199) (i := 3) (v := (x3 + 6)) (ls2 := [some (vr 99 (some 0)), some (vr 7 (some 0)), some (vr 8 (some 0)), some (vi (x3 + 6))]) dL_law_1199 rfl rfl (Nat.le_of_ble_eq_true rfl) rfl ?_
          refine A_goto (pc := 1202) (tgt := 18) dL_law_1202 (by decide) ?_
          exact Aw.weak (ls' := [some (vr 99 (some 0)), some (vr 7 (some 0)), some (vr 8 (some 0)), some (vi (x3 + 6))]) ⟨rfl, ⟨rfl, ⟨rfl, ⟨rfl, trivial⟩⟩⟩⟩ (ih (x3 + 6) r101.2)
        · refine A_iconst (pc := 732) (v := (0 : Int32)) dL_law_732 (by decide) ?_
          exact A_retB rfl rfl dL_law_733
      · refine A_aload_n (pc := 734) (i := 1) dL_law_734 rfl rfl ?_
        refine A_aload_n (pc := 735) (i := 0) dL_law_735 rfl rfl ?_
        refine A_iload_n (pc := 736) (i := 3) dL_law_736 rfl rfl ?_
        refine A_iconst (pc := 737) (v := (1 : Int32)) dL_law_737 (by decide) ?_
        refine A_iadd (pc := 738) dL_law_738 ?_
        refine A_ite (fun hg102 => ?_) (fun _ => Aw.none)
        refine A_sld (pc := 739) (L := L) (xs := xs) rfl dL_law_739 (in_of hL hg102) ?_
        refine A_aload_n (pc := 740) (i := 0) dL_law_740 rfl rfl ?_
        refine A_iload_n (pc := 741) (i := 3) dL_law_741 rfl rfl ?_
        refine A_iconst (pc := 742) (v := (2 : Int32)) dL_law_742 (by decide) ?_
        refine A_iadd (pc := 743) dL_law_743 ?_
        refine A_ite (fun hg103 => ?_) (fun _ => Aw.none)
        refine A_sld (pc := 744) (L := L) (xs := xs) rfl dL_law_744 (in_of hL hg103) ?_
        refine A_aload_n (pc := 745) (i := 0) dL_law_745 rfl rfl ?_
        refine A_iload_n (pc := 746) (i := 3) dL_law_746 rfl rfl ?_
        refine A_iconst (pc := 747) (v := (3 : Int32)) dL_law_747 (by decide) ?_
        refine A_iadd (pc := 748) dL_law_748 ?_
        refine A_ite (fun hg104 => ?_) (fun _ => Aw.none)
        refine A_sld (pc := 749) (L := L) (xs := xs) rfl dL_law_749 (in_of hL hg104) ?_
        refine A_if_eq (pc := 750) (tgt := 757) dL_law_750 (by decide) ?_ ?_
        · refine A_iconst (pc := 757) (v := (0 : Int32)) dL_law_757 (by decide) ?_
          exact Aw.weak (ls' := [some (vr 99 (some 0)), some (vr 7 (some 0)), some (vr 8 (some 0)), some (vi x3)]) ⟨rfl, ⟨rfl, ⟨rfl, ⟨rfl, trivial⟩⟩⟩⟩ (aJ_L_law_758 L xs hL n (fL_L_law_18 L xs n) ih x3 (xs (Int32.toNatClampNeg (x3 + (1 : Int32)))) (xs (Int32.toNatClampNeg (x3 + (2 : Int32)))) (0 : Int32) h)
        · refine A_iconst (pc := 753) (v := (1 : Int32)) dL_law_753 (by decide) ?_
          refine A_goto (pc := 754) (tgt := 758) dL_law_754 (by decide) ?_
          exact Aw.weak (ls' := [some (vr 99 (some 0)), some (vr 7 (some 0)), some (vr 8 (some 0)), some (vi x3)]) ⟨rfl, ⟨rfl, ⟨rfl, ⟨rfl, trivial⟩⟩⟩⟩ (aJ_L_law_758 L xs hL n (fL_L_law_18 L xs n) ih x3 (xs (Int32.toNatClampNeg (x3 + (1 : Int32)))) (xs (Int32.toNatClampNeg (x3 + (2 : Int32)))) (1 : Int32) h)
      · refine A_aload_n (pc := 793) (i := 1) dL_law_793 rfl rfl ?_
        refine A_aload_n (pc := 794) (i := 0) dL_law_794 rfl rfl ?_
        refine A_iload_n (pc := 795) (i := 3) dL_law_795 rfl rfl ?_
        refine A_iconst (pc := 796) (v := (1 : Int32)) dL_law_796 (by decide) ?_
        refine A_iadd (pc := 797) dL_law_797 ?_
        refine A_ite (fun hg110 => ?_) (fun _ => Aw.none)
        refine A_sld (pc := 798) (L := L) (xs := xs) rfl dL_law_798 (in_of hL hg110) ?_
        refine A_callV (pc := 799) (M' := mX7_lay) (As := [vi (xs (Int32.toNatClampNeg (x3 + (1 : Int32))))]) (st := []) (n, 12 * n) (fun r111 => [vi r111.1]) (fun r111 => r111.2) (a_X7_lay (xs (Int32.toNatClampNeg (x3 + (1 : Int32)))) h) kD_X7_lay kM_L_88 kI_X7_lay kS_X7_lay kN_X7 ⟨(Nat.le_of_ble_eq_true rfl), (Nat.le_of_ble_eq_true rfl)⟩ dL_law_799 rfl rfl rfl (by decide) rfl (Nat.le_of_ble_eq_true rfl) (show n + 0 ≤ n + 1 by omega) (show 12 * n + 0 ≤ 12 * n + 12 by omega) (fun _ => rfl) (fun _ => rfl) (fun r111 => ?_)
        refine A_aload_n (pc := 802) (i := 2) dL_law_802 rfl rfl ?_
        refine A_aload_n (pc := 803) (i := 0) dL_law_803 rfl rfl ?_
        refine A_iload_n (pc := 804) (i := 3) dL_law_804 rfl rfl ?_
        refine A_iconst (pc := 805) (v := (1 : Int32)) dL_law_805 (by decide) ?_
        refine A_iadd (pc := 806) dL_law_806 ?_
        refine A_ite (fun hg112 => ?_) (fun _ => Aw.none)
        refine A_sld (pc := 807) (L := L) (xs := xs) rfl dL_law_807 (in_of hL hg112) ?_
        refine A_callV (pc := 808) (M' := mX8_lay) (As := [vi (xs (Int32.toNatClampNeg (x3 + (1 : Int32))))]) (st := [vi r111.1]) (n, 12 * n) (fun r113 => [vi r113.1, vi r111.1]) (fun r113 => r113.2) (a_X8_lay (xs (Int32.toNatClampNeg (x3 + (1 : Int32)))) r111.2) kD_X8_lay kM_L_91 kI_X8_lay kS_X8_lay kN_X8 ⟨(Nat.le_of_ble_eq_true rfl), (Nat.le_of_ble_eq_true rfl)⟩ dL_law_808 rfl rfl rfl (by decide) rfl (Nat.le_of_ble_eq_true rfl) (show n + 0 ≤ n by omega) (show 12 * n + 0 ≤ 12 * n by omega) (fun _ => rfl) (fun _ => rfl) (fun r113 => ?_)
        refine A_icmp_eq (pc := 811) (tgt := 1199) dL_law_811 (by decide) ?_ ?_
        · refine A_iinc (pc := 1199) (i := 3) (v := (x3 + 6)) (ls2 := [some (vr 99 (some 0)), some (vr 7 (some 0)), some (vr 8 (some 0)), some (vi (x3 + 6))]) dL_law_1199 rfl rfl (Nat.le_of_ble_eq_true rfl) rfl ?_
          refine A_goto (pc := 1202) (tgt := 18) dL_law_1202 (by decide) ?_
          exact Aw.weak (ls' := [some (vr 99 (some 0)), some (vr 7 (some 0)), some (vr 8 (some 0)), some (vi (x3 + 6))]) ⟨rfl, ⟨rfl, ⟨rfl, ⟨rfl, trivial⟩⟩⟩⟩ (ih (x3 + 6) r113.2)
        · refine A_iconst (pc := 814) (v := (0 : Int32)) dL_law_814 (by decide) ?_
          exact A_retB rfl rfl dL_law_815
      · refine A_aload_n (pc := 816) (i := 1) dL_law_816 rfl rfl ?_
        refine A_aload_n (pc := 817) (i := 0) dL_law_817 rfl rfl ?_
        refine A_iload_n (pc := 818) (i := 3) dL_law_818 rfl rfl ?_
        refine A_iconst (pc := 819) (v := (1 : Int32)) dL_law_819 (by decide) ?_
        refine A_iadd (pc := 820) dL_law_820 ?_
        refine A_ite (fun hg114 => ?_) (fun _ => Aw.none)
        refine A_sld (pc := 821) (L := L) (xs := xs) rfl dL_law_821 (in_of hL hg114) ?_
        refine A_callV (pc := 822) (M' := mX7_tide) (As := [vi (xs (Int32.toNatClampNeg (x3 + (1 : Int32))))]) (st := []) (n, 12 * n) (fun r115 => [vi r115.1]) (fun r115 => r115.2) (a_X7_tide (xs (Int32.toNatClampNeg (x3 + (1 : Int32)))) h) kD_X7_tide kM_L_92 kI_X7_tide kS_X7_tide kN_X7 ⟨(Nat.le_of_ble_eq_true rfl), (Nat.le_of_ble_eq_true rfl)⟩ dL_law_822 rfl rfl rfl (by decide) rfl (Nat.le_of_ble_eq_true rfl) (show n + 0 ≤ n + 1 by omega) (show 12 * n + 0 ≤ 12 * n + 12 by omega) (fun _ => rfl) (fun _ => rfl) (fun r115 => ?_)
        refine A_aload_n (pc := 825) (i := 2) dL_law_825 rfl rfl ?_
        refine A_aload_n (pc := 826) (i := 0) dL_law_826 rfl rfl ?_
        refine A_iload_n (pc := 827) (i := 3) dL_law_827 rfl rfl ?_
        refine A_iconst (pc := 828) (v := (1 : Int32)) dL_law_828 (by decide) ?_
        refine A_iadd (pc := 829) dL_law_829 ?_
        refine A_ite (fun hg116 => ?_) (fun _ => Aw.none)
        refine A_sld (pc := 830) (L := L) (xs := xs) rfl dL_law_830 (in_of hL hg116) ?_
        refine A_callV (pc := 831) (M' := mX8_tide) (As := [vi (xs (Int32.toNatClampNeg (x3 + (1 : Int32))))]) (st := [vi r115.1]) (n, 12 * n) (fun r117 => [vi r117.1, vi r115.1]) (fun r117 => r117.2) (a_X8_tide (xs (Int32.toNatClampNeg (x3 + (1 : Int32)))) r115.2) kD_X8_tide kM_L_95 kI_X8_tide kS_X8_tide kN_X8 ⟨(Nat.le_of_ble_eq_true rfl), (Nat.le_of_ble_eq_true rfl)⟩ dL_law_831 rfl rfl rfl (by decide) rfl (Nat.le_of_ble_eq_true rfl) (show n + 0 ≤ n by omega) (show 12 * n + 0 ≤ 12 * n by omega) (fun _ => rfl) (fun _ => rfl) (fun r117 => ?_)
        refine A_icmp_eq (pc := 834) (tgt := 1199) dL_law_834 (by decide) ?_ ?_
        · refine A_iinc (pc := 1199) (i := 3) (v := (x3 + 6)) (ls2 := [some (vr 99 (some 0)), some (vr 7 (some 0)), some (vr 8 (some 0)), some (vi (x3 + 6))]) dL_law_1199 rfl rfl (Nat.le_of_ble_eq_true rfl) rfl ?_
          refine A_goto (pc := 1202) (tgt := 18) dL_law_1202 (by decide) ?_
          exact Aw.weak (ls' := [some (vr 99 (some 0)), some (vr 7 (some 0)), some (vr 8 (some 0)), some (vi (x3 + 6))]) ⟨rfl, ⟨rfl, ⟨rfl, ⟨rfl, trivial⟩⟩⟩⟩ (ih (x3 + 6) r117.2)
        · refine A_iconst (pc := 837) (v := (0 : Int32)) dL_law_837 (by decide) ?_
          exact A_retB rfl rfl dL_law_838
      · refine A_aload_n (pc := 839) (i := 1) dL_law_839 rfl rfl ?_
        refine A_aload_n (pc := 840) (i := 0) dL_law_840 rfl rfl ?_
        refine A_iload_n (pc := 841) (i := 3) dL_law_841 rfl rfl ?_
        refine A_iconst (pc := 842) (v := (1 : Int32)) dL_law_842 (by decide) ?_
        refine A_iadd (pc := 843) dL_law_843 ?_
        refine A_ite (fun hg118 => ?_) (fun _ => Aw.none)
        refine A_sld (pc := 844) (L := L) (xs := xs) rfl dL_law_844 (in_of hL hg118) ?_
        refine A_callV (pc := 845) (M' := mX7_run) (As := [vi (xs (Int32.toNatClampNeg (x3 + (1 : Int32))))]) (st := []) (n, 12 * n) (fun r119 => [vi r119.1]) (fun r119 => r119.2) (a_X7_run (xs (Int32.toNatClampNeg (x3 + (1 : Int32)))) h) kD_X7_run kM_L_96 kI_X7_run kS_X7_run kN_X7 ⟨(Nat.le_of_ble_eq_true rfl), (Nat.le_of_ble_eq_true rfl)⟩ dL_law_845 rfl rfl rfl (by decide) rfl (Nat.le_of_ble_eq_true rfl) (show n + 0 ≤ n + 1 by omega) (show 12 * n + 0 ≤ 12 * n + 12 by omega) (fun _ => rfl) (fun _ => rfl) (fun r119 => ?_)
        refine A_aload_n (pc := 848) (i := 2) dL_law_848 rfl rfl ?_
        refine A_aload_n (pc := 849) (i := 0) dL_law_849 rfl rfl ?_
        refine A_iload_n (pc := 850) (i := 3) dL_law_850 rfl rfl ?_
        refine A_iconst (pc := 851) (v := (1 : Int32)) dL_law_851 (by decide) ?_
        refine A_iadd (pc := 852) dL_law_852 ?_
        refine A_ite (fun hg120 => ?_) (fun _ => Aw.none)
        refine A_sld (pc := 853) (L := L) (xs := xs) rfl dL_law_853 (in_of hL hg120) ?_
        refine A_callV (pc := 854) (M' := mX8_run) (As := [vi (xs (Int32.toNatClampNeg (x3 + (1 : Int32))))]) (st := [vi r119.1]) (n, 12 * n) (fun r121 => [vi r121.1, vi r119.1]) (fun r121 => r121.2) (a_X8_run (xs (Int32.toNatClampNeg (x3 + (1 : Int32)))) r119.2) kD_X8_run kM_L_99 kI_X8_run kS_X8_run kN_X8 ⟨(Nat.le_of_ble_eq_true rfl), (Nat.le_of_ble_eq_true rfl)⟩ dL_law_854 rfl rfl rfl (by decide) rfl (Nat.le_of_ble_eq_true rfl) (show n + 0 ≤ n by omega) (show 12 * n + 0 ≤ 12 * n by omega) (fun _ => rfl) (fun _ => rfl) (fun r121 => ?_)
        refine A_icmp_eq (pc := 857) (tgt := 1199) dL_law_857 (by decide) ?_ ?_
        · refine A_iinc (pc := 1199) (i := 3) (v := (x3 + 6)) (ls2 := [some (vr 99 (some 0)), some (vr 7 (some 0)), some (vr 8 (some 0)), some (vi (x3 + 6))]) dL_law_1199 rfl rfl (Nat.le_of_ble_eq_true rfl) rfl ?_
          refine A_goto (pc := 1202) (tgt := 18) dL_law_1202 (by decide) ?_
          exact Aw.weak (ls' := [some (vr 99 (some 0)), some (vr 7 (some 0)), some (vr 8 (some 0)), some (vi (x3 + 6))]) ⟨rfl, ⟨rfl, ⟨rfl, ⟨rfl, trivial⟩⟩⟩⟩ (ih (x3 + 6) r121.2)
        · refine A_iconst (pc := 860) (v := (0 : Int32)) dL_law_860 (by decide) ?_
          exact A_retB rfl rfl dL_law_861
      · refine A_aload_n (pc := 862) (i := 1) dL_law_862 rfl rfl ?_
        refine A_aload_n (pc := 863) (i := 0) dL_law_863 rfl rfl ?_
        refine A_iload_n (pc := 864) (i := 3) dL_law_864 rfl rfl ?_
        refine A_iconst (pc := 865) (v := (1 : Int32)) dL_law_865 (by decide) ?_
        refine A_iadd (pc := 866) dL_law_866 ?_
        refine A_ite (fun hg122 => ?_) (fun _ => Aw.none)
        refine A_sld (pc := 867) (L := L) (xs := xs) rfl dL_law_867 (in_of hL hg122) ?_
        refine A_callV (pc := 868) (M' := mX7_could) (As := [vi (xs (Int32.toNatClampNeg (x3 + (1 : Int32))))]) (st := []) (n, 12 * n) (fun r123 => [vi r123.1]) (fun r123 => r123.2) (a_X7_could (xs (Int32.toNatClampNeg (x3 + (1 : Int32)))) h) kD_X7_could kM_L_100 kI_X7_could kS_X7_could kN_X7 ⟨(Nat.le_of_ble_eq_true rfl), (Nat.le_of_ble_eq_true rfl)⟩ dL_law_868 rfl rfl rfl (by decide) rfl (Nat.le_of_ble_eq_true rfl) (show n + 0 ≤ n + 1 by omega) (show 12 * n + 0 ≤ 12 * n + 12 by omega) (fun _ => rfl) (fun _ => rfl) (fun r123 => ?_)
        refine A_aload_n (pc := 871) (i := 2) dL_law_871 rfl rfl ?_
        refine A_aload_n (pc := 872) (i := 0) dL_law_872 rfl rfl ?_
        refine A_iload_n (pc := 873) (i := 3) dL_law_873 rfl rfl ?_
        refine A_iconst (pc := 874) (v := (1 : Int32)) dL_law_874 (by decide) ?_
        refine A_iadd (pc := 875) dL_law_875 ?_
        refine A_ite (fun hg124 => ?_) (fun _ => Aw.none)
        refine A_sld (pc := 876) (L := L) (xs := xs) rfl dL_law_876 (in_of hL hg124) ?_
        refine A_callV (pc := 877) (M' := mX8_could) (As := [vi (xs (Int32.toNatClampNeg (x3 + (1 : Int32))))]) (st := [vi r123.1]) (n, 12 * n) (fun r125 => [vi r125.1, vi r123.1]) (fun r125 => r125.2) (a_X8_could (xs (Int32.toNatClampNeg (x3 + (1 : Int32)))) r123.2) kD_X8_could kM_L_103 kI_X8_could kS_X8_could kN_X8 ⟨(Nat.le_of_ble_eq_true rfl), (Nat.le_of_ble_eq_true rfl)⟩ dL_law_877 rfl rfl rfl (by decide) rfl (Nat.le_of_ble_eq_true rfl) (show n + 0 ≤ n by omega) (show 12 * n + 0 ≤ 12 * n by omega) (fun _ => rfl) (fun _ => rfl) (fun r125 => ?_)
        refine A_icmp_eq (pc := 880) (tgt := 1199) dL_law_880 (by decide) ?_ ?_
        · refine A_iinc (pc := 1199) (i := 3) (v := (x3 + 6)) (ls2 := [some (vr 99 (some 0)), some (vr 7 (some 0)), some (vr 8 (some 0)), some (vi (x3 + 6))]) dL_law_1199 rfl rfl (Nat.le_of_ble_eq_true rfl) rfl ?_
          refine A_goto (pc := 1202) (tgt := 18) dL_law_1202 (by decide) ?_
          exact Aw.weak (ls' := [some (vr 99 (some 0)), some (vr 7 (some 0)), some (vr 8 (some 0)), some (vi (x3 + 6))]) ⟨rfl, ⟨rfl, ⟨rfl, ⟨rfl, trivial⟩⟩⟩⟩ (ih (x3 + 6) r125.2)
        · refine A_iconst (pc := 883) (v := (0 : Int32)) dL_law_883 (by decide) ?_
          exact A_retB rfl rfl dL_law_884
      · refine A_aload_n (pc := 885) (i := 1) dL_law_885 rfl rfl ?_
        refine A_aload_n (pc := 886) (i := 0) dL_law_886 rfl rfl ?_
        refine A_iload_n (pc := 887) (i := 3) dL_law_887 rfl rfl ?_
        refine A_iconst (pc := 888) (v := (1 : Int32)) dL_law_888 (by decide) ?_
        refine A_iadd (pc := 889) dL_law_889 ?_
        refine A_ite (fun hg126 => ?_) (fun _ => Aw.none)
        refine A_sld (pc := 890) (L := L) (xs := xs) rfl dL_law_890 (in_of hL hg126) ?_
        refine A_i2l (pc := 891) dL_law_891 ?_
        refine A_bipush (pc := 892) (v := (32 : Int32)) dL_law_892 (by decide) ?_
        refine A_lshl (pc := 894) dL_law_894 ?_
        refine A_aload_n (pc := 895) (i := 0) dL_law_895 rfl rfl ?_
        refine A_iload_n (pc := 896) (i := 3) dL_law_896 rfl rfl ?_
        refine A_iconst (pc := 897) (v := (2 : Int32)) dL_law_897 (by decide) ?_
        refine A_iadd (pc := 898) dL_law_898 ?_
        refine A_ite (fun hg127 => ?_) (fun _ => Aw.none)
        refine A_sld (pc := 899) (L := L) (xs := xs) rfl dL_law_899 (in_of hL hg127) ?_
        refine A_i2l (pc := 900) dL_law_900 ?_
        refine A_ldc2 (pc := 901) (v := (4294967295 : Int64)) dL_law_901 kJ_L_104 ?_
        refine A_land (pc := 904) dL_law_904 ?_
        refine A_lor (pc := 905) dL_law_905 ?_
        refine A_aload_n (pc := 906) (i := 0) dL_law_906 rfl rfl ?_
        refine A_iload_n (pc := 907) (i := 3) dL_law_907 rfl rfl ?_
        refine A_iconst (pc := 908) (v := (3 : Int32)) dL_law_908 (by decide) ?_
        refine A_iadd (pc := 909) dL_law_909 ?_
        refine A_ite (fun hg128 => ?_) (fun _ => Aw.none)
        refine A_sld (pc := 910) (L := L) (xs := xs) rfl dL_law_910 (in_of hL hg128) ?_
        refine A_callV (pc := 911) (M' := mX7_feed) (As := [vl (((Int32.toInt64 (xs (Int32.toNatClampNeg (x3 + (1 : Int32))))) <<< (Int32.toInt64 (32 : Int32) &&& 63)) ||| ((Int32.toInt64 (xs (Int32.toNatClampNeg (x3 + (2 : Int32))))) &&& (4294967295 : Int64))), vi (xs (Int32.toNatClampNeg (x3 + (3 : Int32))))]) (st := []) (n, 12 * n) (fun r129 => [vi r129.1]) (fun r129 => r129.2) (a_X7_feed (((Int32.toInt64 (xs (Int32.toNatClampNeg (x3 + (1 : Int32))))) <<< (Int32.toInt64 (32 : Int32) &&& 63)) ||| ((Int32.toInt64 (xs (Int32.toNatClampNeg (x3 + (2 : Int32))))) &&& (4294967295 : Int64))) (xs (Int32.toNatClampNeg (x3 + (3 : Int32)))) h) kD_X7_feed kM_L_106 kI_X7_feed kS_X7_feed kN_X7 ⟨(Nat.le_of_ble_eq_true rfl), (Nat.le_of_ble_eq_true rfl)⟩ dL_law_911 rfl rfl rfl (by decide) rfl (Nat.le_of_ble_eq_true rfl) (show n + 0 ≤ n + 1 by omega) (show 12 * n + 0 ≤ 12 * n + 12 by omega) (fun _ => rfl) (fun _ => rfl) (fun r129 => ?_)
        refine A_aload_n (pc := 914) (i := 2) dL_law_914 rfl rfl ?_
        refine A_aload_n (pc := 915) (i := 0) dL_law_915 rfl rfl ?_
        refine A_iload_n (pc := 916) (i := 3) dL_law_916 rfl rfl ?_
        refine A_iconst (pc := 917) (v := (1 : Int32)) dL_law_917 (by decide) ?_
        refine A_iadd (pc := 918) dL_law_918 ?_
        refine A_ite (fun hg130 => ?_) (fun _ => Aw.none)
        refine A_sld (pc := 919) (L := L) (xs := xs) rfl dL_law_919 (in_of hL hg130) ?_
        refine A_i2l (pc := 920) dL_law_920 ?_
        refine A_bipush (pc := 921) (v := (32 : Int32)) dL_law_921 (by decide) ?_
        refine A_lshl (pc := 923) dL_law_923 ?_
        refine A_aload_n (pc := 924) (i := 0) dL_law_924 rfl rfl ?_
        refine A_iload_n (pc := 925) (i := 3) dL_law_925 rfl rfl ?_
        refine A_iconst (pc := 926) (v := (2 : Int32)) dL_law_926 (by decide) ?_
        refine A_iadd (pc := 927) dL_law_927 ?_
        refine A_ite (fun hg131 => ?_) (fun _ => Aw.none)
        refine A_sld (pc := 928) (L := L) (xs := xs) rfl dL_law_928 (in_of hL hg131) ?_
        refine A_i2l (pc := 929) dL_law_929 ?_
        refine A_ldc2 (pc := 930) (v := (4294967295 : Int64)) dL_law_930 kJ_L_104 ?_
        refine A_land (pc := 933) dL_law_933 ?_
        refine A_lor (pc := 934) dL_law_934 ?_
        refine A_aload_n (pc := 935) (i := 0) dL_law_935 rfl rfl ?_
        refine A_iload_n (pc := 936) (i := 3) dL_law_936 rfl rfl ?_
        refine A_iconst (pc := 937) (v := (3 : Int32)) dL_law_937 (by decide) ?_
        refine A_iadd (pc := 938) dL_law_938 ?_
        refine A_ite (fun hg132 => ?_) (fun _ => Aw.none)
        refine A_sld (pc := 939) (L := L) (xs := xs) rfl dL_law_939 (in_of hL hg132) ?_
        refine A_callV (pc := 940) (M' := mX8_feed) (As := [vl (((Int32.toInt64 (xs (Int32.toNatClampNeg (x3 + (1 : Int32))))) <<< (Int32.toInt64 (32 : Int32) &&& 63)) ||| ((Int32.toInt64 (xs (Int32.toNatClampNeg (x3 + (2 : Int32))))) &&& (4294967295 : Int64))), vi (xs (Int32.toNatClampNeg (x3 + (3 : Int32))))]) (st := [vi r129.1]) (n, 12 * n) (fun r133 => [vi r133.1, vi r129.1]) (fun r133 => r133.2) (a_X8_feed (((Int32.toInt64 (xs (Int32.toNatClampNeg (x3 + (1 : Int32))))) <<< (Int32.toInt64 (32 : Int32) &&& 63)) ||| ((Int32.toInt64 (xs (Int32.toNatClampNeg (x3 + (2 : Int32))))) &&& (4294967295 : Int64))) (xs (Int32.toNatClampNeg (x3 + (3 : Int32)))) r129.2) kD_X8_feed kM_L_110 kI_X8_feed kS_X8_feed kN_X8 ⟨(Nat.le_of_ble_eq_true rfl), (Nat.le_of_ble_eq_true rfl)⟩ dL_law_940 rfl rfl rfl (by decide) rfl (Nat.le_of_ble_eq_true rfl) (show n + 0 ≤ n by omega) (show 12 * n + 0 ≤ 12 * n by omega) (fun _ => rfl) (fun _ => rfl) (fun r133 => ?_)
        refine A_icmp_eq (pc := 943) (tgt := 1199) dL_law_943 (by decide) ?_ ?_
        · refine A_iinc (pc := 1199) (i := 3) (v := (x3 + 6)) (ls2 := [some (vr 99 (some 0)), some (vr 7 (some 0)), some (vr 8 (some 0)), some (vi (x3 + 6))]) dL_law_1199 rfl rfl (Nat.le_of_ble_eq_true rfl) rfl ?_
          refine A_goto (pc := 1202) (tgt := 18) dL_law_1202 (by decide) ?_
          exact Aw.weak (ls' := [some (vr 99 (some 0)), some (vr 7 (some 0)), some (vr 8 (some 0)), some (vi (x3 + 6))]) ⟨rfl, ⟨rfl, ⟨rfl, ⟨rfl, trivial⟩⟩⟩⟩ (ih (x3 + 6) r133.2)
        · refine A_iconst (pc := 946) (v := (0 : Int32)) dL_law_946 (by decide) ?_
          exact A_retB rfl rfl dL_law_947
      · refine A_aload_n (pc := 948) (i := 1) dL_law_948 rfl rfl ?_
        refine A_callV (pc := 949) (M' := mX7_text) (As := []) (st := []) (n, 12 * n) (fun r134 => [vi r134.1]) (fun r134 => r134.2) (a_X7_text h) kD_X7_text kM_L_111 kI_X7_text kS_X7_text kN_X7 ⟨(Nat.le_of_ble_eq_true rfl), (Nat.le_of_ble_eq_true rfl)⟩ dL_law_949 rfl rfl rfl (by decide) rfl (Nat.le_of_ble_eq_true rfl) (show n + 0 ≤ n + 1 by omega) (show 12 * n + 0 ≤ 12 * n + 12 by omega) (fun _ => rfl) (fun _ => rfl) (fun r134 => ?_)
        refine A_aload_n (pc := 952) (i := 2) dL_law_952 rfl rfl ?_
        refine A_callV (pc := 953) (M' := mX8_text) (As := []) (st := [vi r134.1]) (n, 12 * n) (fun r135 => [vi r135.1, vi r134.1]) (fun r135 => r135.2) (a_X8_text r134.2) kD_X8_text kM_L_115 kI_X8_text kS_X8_text kN_X8 ⟨(Nat.le_of_ble_eq_true rfl), (Nat.le_of_ble_eq_true rfl)⟩ dL_law_953 rfl rfl rfl (by decide) rfl (Nat.le_of_ble_eq_true rfl) (show n + 0 ≤ n by omega) (show 12 * n + 0 ≤ 12 * n by omega) (fun _ => rfl) (fun _ => rfl) (fun r135 => ?_)
        refine A_icmp_eq (pc := 956) (tgt := 1199) dL_law_956 (by decide) ?_ ?_
        · refine A_iinc (pc := 1199) (i := 3) (v := (x3 + 6)) (ls2 := [some (vr 99 (some 0)), some (vr 7 (some 0)), some (vr 8 (some 0)), some (vi (x3 + 6))]) dL_law_1199 rfl rfl (Nat.le_of_ble_eq_true rfl) rfl ?_
          refine A_goto (pc := 1202) (tgt := 18) dL_law_1202 (by decide) ?_
          exact Aw.weak (ls' := [some (vr 99 (some 0)), some (vr 7 (some 0)), some (vr 8 (some 0)), some (vi (x3 + 6))]) ⟨rfl, ⟨rfl, ⟨rfl, ⟨rfl, trivial⟩⟩⟩⟩ (ih (x3 + 6) r135.2)
        · refine A_iconst (pc := 959) (v := (0 : Int32)) dL_law_959 (by decide) ?_
          exact A_retB rfl rfl dL_law_960
      · refine A_aload_n (pc := 961) (i := 1) dL_law_961 rfl rfl ?_
        refine A_aload_n (pc := 962) (i := 0) dL_law_962 rfl rfl ?_
        refine A_iload_n (pc := 963) (i := 3) dL_law_963 rfl rfl ?_
        refine A_iconst (pc := 964) (v := (1 : Int32)) dL_law_964 (by decide) ?_
        refine A_iadd (pc := 965) dL_law_965 ?_
        refine A_ite (fun hg136 => ?_) (fun _ => Aw.none)
        refine A_sld (pc := 966) (L := L) (xs := xs) rfl dL_law_966 (in_of hL hg136) ?_
        refine A_aload_n (pc := 967) (i := 0) dL_law_967 rfl rfl ?_
        refine A_iload_n (pc := 968) (i := 3) dL_law_968 rfl rfl ?_
        refine A_iconst (pc := 969) (v := (2 : Int32)) dL_law_969 (by decide) ?_
        refine A_iadd (pc := 970) dL_law_970 ?_
        refine A_ite (fun hg137 => ?_) (fun _ => Aw.none)
        refine A_sld (pc := 971) (L := L) (xs := xs) rfl dL_law_971 (in_of hL hg137) ?_
        refine A_callV (pc := 972) (M' := mX7_due) (As := [vi (xs (Int32.toNatClampNeg (x3 + (1 : Int32)))), vi (xs (Int32.toNatClampNeg (x3 + (2 : Int32))))]) (st := []) (n, 12 * n) (fun r138 => [vi r138.1]) (fun r138 => r138.2) (a_X7_due (xs (Int32.toNatClampNeg (x3 + (1 : Int32)))) (xs (Int32.toNatClampNeg (x3 + (2 : Int32)))) h) kD_X7_due kM_L_116 kI_X7_due kS_X7_due kN_X7 ⟨(Nat.le_of_ble_eq_true rfl), (Nat.le_of_ble_eq_true rfl)⟩ dL_law_972 rfl rfl rfl (by decide) rfl (Nat.le_of_ble_eq_true rfl) (show n + 0 ≤ n + 1 by omega) (show 12 * n + 0 ≤ 12 * n + 12 by omega) (fun _ => rfl) (fun _ => rfl) (fun r138 => ?_)
        refine A_aload_n (pc := 975) (i := 2) dL_law_975 rfl rfl ?_
        refine A_aload_n (pc := 976) (i := 0) dL_law_976 rfl rfl ?_
        refine A_iload_n (pc := 977) (i := 3) dL_law_977 rfl rfl ?_
        refine A_iconst (pc := 978) (v := (1 : Int32)) dL_law_978 (by decide) ?_
        refine A_iadd (pc := 979) dL_law_979 ?_
        refine A_ite (fun hg139 => ?_) (fun _ => Aw.none)
        refine A_sld (pc := 980) (L := L) (xs := xs) rfl dL_law_980 (in_of hL hg139) ?_
        refine A_aload_n (pc := 981) (i := 0) dL_law_981 rfl rfl ?_
        refine A_iload_n (pc := 982) (i := 3) dL_law_982 rfl rfl ?_
        refine A_iconst (pc := 983) (v := (2 : Int32)) dL_law_983 (by decide) ?_
        refine A_iadd (pc := 984) dL_law_984 ?_
        refine A_ite (fun hg140 => ?_) (fun _ => Aw.none)
        refine A_sld (pc := 985) (L := L) (xs := xs) rfl dL_law_985 (in_of hL hg140) ?_
        refine A_callV (pc := 986) (M' := mX8_due) (As := [vi (xs (Int32.toNatClampNeg (x3 + (1 : Int32)))), vi (xs (Int32.toNatClampNeg (x3 + (2 : Int32))))]) (st := [vi r138.1]) (n, 12 * n) (fun r141 => [vi r141.1, vi r138.1]) (fun r141 => r141.2) (a_X8_due (xs (Int32.toNatClampNeg (x3 + (1 : Int32)))) (xs (Int32.toNatClampNeg (x3 + (2 : Int32)))) r138.2) kD_X8_due kM_L_119 kI_X8_due kS_X8_due kN_X8 ⟨(Nat.le_of_ble_eq_true rfl), (Nat.le_of_ble_eq_true rfl)⟩ dL_law_986 rfl rfl rfl (by decide) rfl (Nat.le_of_ble_eq_true rfl) (show n + 0 ≤ n by omega) (show 12 * n + 0 ≤ 12 * n by omega) (fun _ => rfl) (fun _ => rfl) (fun r141 => ?_)
        refine A_icmp_eq (pc := 989) (tgt := 1199) dL_law_989 (by decide) ?_ ?_
        · refine A_iinc (pc := 1199) (i := 3) (v := (x3 + 6)) (ls2 := [some (vr 99 (some 0)), some (vr 7 (some 0)), some (vr 8 (some 0)), some (vi (x3 + 6))]) dL_law_1199 rfl rfl (Nat.le_of_ble_eq_true rfl) rfl ?_
          refine A_goto (pc := 1202) (tgt := 18) dL_law_1202 (by decide) ?_
          exact Aw.weak (ls' := [some (vr 99 (some 0)), some (vr 7 (some 0)), some (vr 8 (some 0)), some (vi (x3 + 6))]) ⟨rfl, ⟨rfl, ⟨rfl, ⟨rfl, trivial⟩⟩⟩⟩ (ih (x3 + 6) r141.2)
        · refine A_iconst (pc := 992) (v := (0 : Int32)) dL_law_992 (by decide) ?_
          exact A_retB rfl rfl dL_law_993
      · refine A_aload_n (pc := 994) (i := 1) dL_law_994 rfl rfl ?_
        refine A_aload_n (pc := 995) (i := 0) dL_law_995 rfl rfl ?_
        refine A_iload_n (pc := 996) (i := 3) dL_law_996 rfl rfl ?_
        refine A_iconst (pc := 997) (v := (1 : Int32)) dL_law_997 (by decide) ?_
        refine A_iadd (pc := 998) dL_law_998 ?_
        refine A_ite (fun hg142 => ?_) (fun _ => Aw.none)
        refine A_sld (pc := 999) (L := L) (xs := xs) rfl dL_law_999 (in_of hL hg142) ?_
        refine A_aload_n (pc := 1000) (i := 0) dL_law_1000 rfl rfl ?_
        refine A_iload_n (pc := 1001) (i := 3) dL_law_1001 rfl rfl ?_
        refine A_iconst (pc := 1002) (v := (2 : Int32)) dL_law_1002 (by decide) ?_
        refine A_iadd (pc := 1003) dL_law_1003 ?_
        refine A_ite (fun hg143 => ?_) (fun _ => Aw.none)
        refine A_sld (pc := 1004) (L := L) (xs := xs) rfl dL_law_1004 (in_of hL hg143) ?_
        refine A_aload_n (pc := 1005) (i := 0) dL_law_1005 rfl rfl ?_
        refine A_iload_n (pc := 1006) (i := 3) dL_law_1006 rfl rfl ?_
        refine A_iconst (pc := 1007) (v := (3 : Int32)) dL_law_1007 (by decide) ?_
        refine A_iadd (pc := 1008) dL_law_1008 ?_
        refine A_ite (fun hg144 => ?_) (fun _ => Aw.none)
        refine A_sld (pc := 1009) (L := L) (xs := xs) rfl dL_law_1009 (in_of hL hg144) ?_
        refine A_callV (pc := 1010) (M' := mX7_sheet) (As := [vi (xs (Int32.toNatClampNeg (x3 + (1 : Int32)))), vi (xs (Int32.toNatClampNeg (x3 + (2 : Int32)))), vi (xs (Int32.toNatClampNeg (x3 + (3 : Int32))))]) (st := []) (n, 12 * n) (fun r145 => [vi r145.1]) (fun r145 => r145.2) (a_X7_sheet (xs (Int32.toNatClampNeg (x3 + (1 : Int32)))) (xs (Int32.toNatClampNeg (x3 + (2 : Int32)))) (xs (Int32.toNatClampNeg (x3 + (3 : Int32)))) h) kD_X7_sheet kM_L_120 kI_X7_sheet kS_X7_sheet kN_X7 ⟨(Nat.le_of_ble_eq_true rfl), (Nat.le_of_ble_eq_true rfl)⟩ dL_law_1010 rfl rfl rfl (by decide) rfl (Nat.le_of_ble_eq_true rfl) (show n + 0 ≤ n + 1 by omega) (show 12 * n + 0 ≤ 12 * n + 12 by omega) (fun _ => rfl) (fun _ => rfl) (fun r145 => ?_)
        refine A_aload_n (pc := 1013) (i := 2) dL_law_1013 rfl rfl ?_
        refine A_aload_n (pc := 1014) (i := 0) dL_law_1014 rfl rfl ?_
        refine A_iload_n (pc := 1015) (i := 3) dL_law_1015 rfl rfl ?_
        refine A_iconst (pc := 1016) (v := (1 : Int32)) dL_law_1016 (by decide) ?_
        refine A_iadd (pc := 1017) dL_law_1017 ?_
        refine A_ite (fun hg146 => ?_) (fun _ => Aw.none)
        refine A_sld (pc := 1018) (L := L) (xs := xs) rfl dL_law_1018 (in_of hL hg146) ?_
        refine A_aload_n (pc := 1019) (i := 0) dL_law_1019 rfl rfl ?_
        refine A_iload_n (pc := 1020) (i := 3) dL_law_1020 rfl rfl ?_
        refine A_iconst (pc := 1021) (v := (2 : Int32)) dL_law_1021 (by decide) ?_
        refine A_iadd (pc := 1022) dL_law_1022 ?_
        refine A_ite (fun hg147 => ?_) (fun _ => Aw.none)
        refine A_sld (pc := 1023) (L := L) (xs := xs) rfl dL_law_1023 (in_of hL hg147) ?_
        refine A_aload_n (pc := 1024) (i := 0) dL_law_1024 rfl rfl ?_
        refine A_iload_n (pc := 1025) (i := 3) dL_law_1025 rfl rfl ?_
        refine A_iconst (pc := 1026) (v := (3 : Int32)) dL_law_1026 (by decide) ?_
        refine A_iadd (pc := 1027) dL_law_1027 ?_
        refine A_ite (fun hg148 => ?_) (fun _ => Aw.none)
        refine A_sld (pc := 1028) (L := L) (xs := xs) rfl dL_law_1028 (in_of hL hg148) ?_
        refine A_callV (pc := 1029) (M' := mX8_sheet) (As := [vi (xs (Int32.toNatClampNeg (x3 + (1 : Int32)))), vi (xs (Int32.toNatClampNeg (x3 + (2 : Int32)))), vi (xs (Int32.toNatClampNeg (x3 + (3 : Int32))))]) (st := [vi r145.1]) (n, 12 * n) (fun r149 => [vi r149.1, vi r145.1]) (fun r149 => r149.2) (a_X8_sheet (xs (Int32.toNatClampNeg (x3 + (1 : Int32)))) (xs (Int32.toNatClampNeg (x3 + (2 : Int32)))) (xs (Int32.toNatClampNeg (x3 + (3 : Int32)))) r145.2) kD_X8_sheet kM_L_123 kI_X8_sheet kS_X8_sheet kN_X8 ⟨(Nat.le_of_ble_eq_true rfl), (Nat.le_of_ble_eq_true rfl)⟩ dL_law_1029 rfl rfl rfl (by decide) rfl (Nat.le_of_ble_eq_true rfl) (show n + 0 ≤ n by omega) (show 12 * n + 0 ≤ 12 * n by omega) (fun _ => rfl) (fun _ => rfl) (fun r149 => ?_)
        refine A_icmp_eq (pc := 1032) (tgt := 1199) dL_law_1032 (by decide) ?_ ?_
        · refine A_iinc (pc := 1199) (i := 3) (v := (x3 + 6)) (ls2 := [some (vr 99 (some 0)), some (vr 7 (some 0)), some (vr 8 (some 0)), some (vi (x3 + 6))]) dL_law_1199 rfl rfl (Nat.le_of_ble_eq_true rfl) rfl ?_
          refine A_goto (pc := 1202) (tgt := 18) dL_law_1202 (by decide) ?_
          exact Aw.weak (ls' := [some (vr 99 (some 0)), some (vr 7 (some 0)), some (vr 8 (some 0)), some (vi (x3 + 6))]) ⟨rfl, ⟨rfl, ⟨rfl, ⟨rfl, trivial⟩⟩⟩⟩ (ih (x3 + 6) r149.2)
        · refine A_iconst (pc := 1035) (v := (0 : Int32)) dL_law_1035 (by decide) ?_
          exact A_retB rfl rfl dL_law_1036
      · refine A_aload_n (pc := 1037) (i := 1) dL_law_1037 rfl rfl ?_
        refine A_aload_n (pc := 1038) (i := 0) dL_law_1038 rfl rfl ?_
        refine A_iload_n (pc := 1039) (i := 3) dL_law_1039 rfl rfl ?_
        refine A_iconst (pc := 1040) (v := (1 : Int32)) dL_law_1040 (by decide) ?_
        refine A_iadd (pc := 1041) dL_law_1041 ?_
        refine A_ite (fun hg150 => ?_) (fun _ => Aw.none)
        refine A_sld (pc := 1042) (L := L) (xs := xs) rfl dL_law_1042 (in_of hL hg150) ?_
        refine A_aload_n (pc := 1043) (i := 0) dL_law_1043 rfl rfl ?_
        refine A_iload_n (pc := 1044) (i := 3) dL_law_1044 rfl rfl ?_
        refine A_iconst (pc := 1045) (v := (2 : Int32)) dL_law_1045 (by decide) ?_
        refine A_iadd (pc := 1046) dL_law_1046 ?_
        refine A_ite (fun hg151 => ?_) (fun _ => Aw.none)
        refine A_sld (pc := 1047) (L := L) (xs := xs) rfl dL_law_1047 (in_of hL hg151) ?_
        refine A_aload_n (pc := 1048) (i := 0) dL_law_1048 rfl rfl ?_
        refine A_iload_n (pc := 1049) (i := 3) dL_law_1049 rfl rfl ?_
        refine A_iconst (pc := 1050) (v := (3 : Int32)) dL_law_1050 (by decide) ?_
        refine A_iadd (pc := 1051) dL_law_1051 ?_
        refine A_ite (fun hg152 => ?_) (fun _ => Aw.none)
        refine A_sld (pc := 1052) (L := L) (xs := xs) rfl dL_law_1052 (in_of hL hg152) ?_
        refine A_callV (pc := 1053) (M' := mX7_write) (As := [vi (xs (Int32.toNatClampNeg (x3 + (1 : Int32)))), vi (xs (Int32.toNatClampNeg (x3 + (2 : Int32)))), vi (xs (Int32.toNatClampNeg (x3 + (3 : Int32))))]) (st := []) (n, 12 * n) (fun r153 => [vi r153.1]) (fun r153 => r153.2) (a_X7_write (xs (Int32.toNatClampNeg (x3 + (1 : Int32)))) (xs (Int32.toNatClampNeg (x3 + (2 : Int32)))) (xs (Int32.toNatClampNeg (x3 + (3 : Int32)))) h) kD_X7_write kM_L_124 kI_X7_write kS_X7_write kN_X7 ⟨(Nat.le_of_ble_eq_true rfl), (Nat.le_of_ble_eq_true rfl)⟩ dL_law_1053 rfl rfl rfl (by decide) rfl (Nat.le_of_ble_eq_true rfl) (show n + 0 ≤ n + 1 by omega) (show 12 * n + 0 ≤ 12 * n + 12 by omega) (fun _ => rfl) (fun _ => rfl) (fun r153 => ?_)
        refine A_aload_n (pc := 1056) (i := 2) dL_law_1056 rfl rfl ?_
        refine A_aload_n (pc := 1057) (i := 0) dL_law_1057 rfl rfl ?_
        refine A_iload_n (pc := 1058) (i := 3) dL_law_1058 rfl rfl ?_
        refine A_iconst (pc := 1059) (v := (1 : Int32)) dL_law_1059 (by decide) ?_
        refine A_iadd (pc := 1060) dL_law_1060 ?_
        refine A_ite (fun hg154 => ?_) (fun _ => Aw.none)
        refine A_sld (pc := 1061) (L := L) (xs := xs) rfl dL_law_1061 (in_of hL hg154) ?_
        refine A_aload_n (pc := 1062) (i := 0) dL_law_1062 rfl rfl ?_
        refine A_iload_n (pc := 1063) (i := 3) dL_law_1063 rfl rfl ?_
        refine A_iconst (pc := 1064) (v := (2 : Int32)) dL_law_1064 (by decide) ?_
        refine A_iadd (pc := 1065) dL_law_1065 ?_
        refine A_ite (fun hg155 => ?_) (fun _ => Aw.none)
        refine A_sld (pc := 1066) (L := L) (xs := xs) rfl dL_law_1066 (in_of hL hg155) ?_
        refine A_aload_n (pc := 1067) (i := 0) dL_law_1067 rfl rfl ?_
        refine A_iload_n (pc := 1068) (i := 3) dL_law_1068 rfl rfl ?_
        refine A_iconst (pc := 1069) (v := (3 : Int32)) dL_law_1069 (by decide) ?_
        refine A_iadd (pc := 1070) dL_law_1070 ?_
        refine A_ite (fun hg156 => ?_) (fun _ => Aw.none)
        refine A_sld (pc := 1071) (L := L) (xs := xs) rfl dL_law_1071 (in_of hL hg156) ?_
        refine A_callV (pc := 1072) (M' := mX8_write) (As := [vi (xs (Int32.toNatClampNeg (x3 + (1 : Int32)))), vi (xs (Int32.toNatClampNeg (x3 + (2 : Int32)))), vi (xs (Int32.toNatClampNeg (x3 + (3 : Int32))))]) (st := [vi r153.1]) (n, 12 * n) (fun r157 => [vi r157.1, vi r153.1]) (fun r157 => r157.2) (a_X8_write (xs (Int32.toNatClampNeg (x3 + (1 : Int32)))) (xs (Int32.toNatClampNeg (x3 + (2 : Int32)))) (xs (Int32.toNatClampNeg (x3 + (3 : Int32)))) r153.2) kD_X8_write kM_L_127 kI_X8_write kS_X8_write kN_X8 ⟨(Nat.le_of_ble_eq_true rfl), (Nat.le_of_ble_eq_true rfl)⟩ dL_law_1072 rfl rfl rfl (by decide) rfl (Nat.le_of_ble_eq_true rfl) (show n + 0 ≤ n by omega) (show 12 * n + 0 ≤ 12 * n by omega) (fun _ => rfl) (fun _ => rfl) (fun r157 => ?_)
        refine A_icmp_eq (pc := 1075) (tgt := 1199) dL_law_1075 (by decide) ?_ ?_
        · refine A_iinc (pc := 1199) (i := 3) (v := (x3 + 6)) (ls2 := [some (vr 99 (some 0)), some (vr 7 (some 0)), some (vr 8 (some 0)), some (vi (x3 + 6))]) dL_law_1199 rfl rfl (Nat.le_of_ble_eq_true rfl) rfl ?_
          refine A_goto (pc := 1202) (tgt := 18) dL_law_1202 (by decide) ?_
          exact Aw.weak (ls' := [some (vr 99 (some 0)), some (vr 7 (some 0)), some (vr 8 (some 0)), some (vi (x3 + 6))]) ⟨rfl, ⟨rfl, ⟨rfl, ⟨rfl, trivial⟩⟩⟩⟩ (ih (x3 + 6) r157.2)
        · refine A_iconst (pc := 1078) (v := (0 : Int32)) dL_law_1078 (by decide) ?_
          exact A_retB rfl rfl dL_law_1079
      · refine A_aload_n (pc := 1080) (i := 1) dL_law_1080 rfl rfl ?_
        refine A_aload_n (pc := 1081) (i := 0) dL_law_1081 rfl rfl ?_
        refine A_iload_n (pc := 1082) (i := 3) dL_law_1082 rfl rfl ?_
        refine A_iconst (pc := 1083) (v := (1 : Int32)) dL_law_1083 (by decide) ?_
        refine A_iadd (pc := 1084) dL_law_1084 ?_
        refine A_ite (fun hg158 => ?_) (fun _ => Aw.none)
        refine A_sld (pc := 1085) (L := L) (xs := xs) rfl dL_law_1085 (in_of hL hg158) ?_
        refine A_aload_n (pc := 1086) (i := 0) dL_law_1086 rfl rfl ?_
        refine A_iload_n (pc := 1087) (i := 3) dL_law_1087 rfl rfl ?_
        refine A_iconst (pc := 1088) (v := (2 : Int32)) dL_law_1088 (by decide) ?_
        refine A_iadd (pc := 1089) dL_law_1089 ?_
        refine A_ite (fun hg159 => ?_) (fun _ => Aw.none)
        refine A_sld (pc := 1090) (L := L) (xs := xs) rfl dL_law_1090 (in_of hL hg159) ?_
        refine A_aload_n (pc := 1091) (i := 0) dL_law_1091 rfl rfl ?_
        refine A_iload_n (pc := 1092) (i := 3) dL_law_1092 rfl rfl ?_
        refine A_iconst (pc := 1093) (v := (3 : Int32)) dL_law_1093 (by decide) ?_
        refine A_iadd (pc := 1094) dL_law_1094 ?_
        refine A_ite (fun hg160 => ?_) (fun _ => Aw.none)
        refine A_sld (pc := 1095) (L := L) (xs := xs) rfl dL_law_1095 (in_of hL hg160) ?_
        refine A_aload_n (pc := 1096) (i := 0) dL_law_1096 rfl rfl ?_
        refine A_iload_n (pc := 1097) (i := 3) dL_law_1097 rfl rfl ?_
        refine A_iconst (pc := 1098) (v := (4 : Int32)) dL_law_1098 (by decide) ?_
        refine A_iadd (pc := 1099) dL_law_1099 ?_
        refine A_ite (fun hg161 => ?_) (fun _ => Aw.none)
        refine A_sld (pc := 1100) (L := L) (xs := xs) rfl dL_law_1100 (in_of hL hg161) ?_
        refine A_aload_n (pc := 1101) (i := 0) dL_law_1101 rfl rfl ?_
        refine A_iload_n (pc := 1102) (i := 3) dL_law_1102 rfl rfl ?_
        refine A_iconst (pc := 1103) (v := (5 : Int32)) dL_law_1103 (by decide) ?_
        refine A_iadd (pc := 1104) dL_law_1104 ?_
        refine A_ite (fun hg162 => ?_) (fun _ => Aw.none)
        refine A_sld (pc := 1105) (L := L) (xs := xs) rfl dL_law_1105 (in_of hL hg162) ?_
        refine A_callV (pc := 1106) (M' := mX7_copy) (As := [vi (xs (Int32.toNatClampNeg (x3 + (1 : Int32)))), vi (xs (Int32.toNatClampNeg (x3 + (2 : Int32)))), vi (xs (Int32.toNatClampNeg (x3 + (3 : Int32)))), vi (xs (Int32.toNatClampNeg (x3 + (4 : Int32)))), vi (xs (Int32.toNatClampNeg (x3 + (5 : Int32))))]) (st := []) (n, 12 * n) (fun r163 => [vi r163.1]) (fun r163 => r163.2) (a_X7_copy (xs (Int32.toNatClampNeg (x3 + (1 : Int32)))) (xs (Int32.toNatClampNeg (x3 + (2 : Int32)))) (xs (Int32.toNatClampNeg (x3 + (3 : Int32)))) (xs (Int32.toNatClampNeg (x3 + (4 : Int32)))) (xs (Int32.toNatClampNeg (x3 + (5 : Int32)))) h) kD_X7_copy kM_L_128 kI_X7_copy kS_X7_copy kN_X7 ⟨(Nat.le_of_ble_eq_true rfl), (Nat.le_of_ble_eq_true rfl)⟩ dL_law_1106 rfl rfl rfl (by decide) rfl (Nat.le_of_ble_eq_true rfl) (show n + 0 ≤ n + 1 by omega) (show 12 * n + 0 ≤ 12 * n + 12 by omega) (fun _ => rfl) (fun _ => rfl) (fun r163 => ?_)
        refine A_aload_n (pc := 1109) (i := 2) dL_law_1109 rfl rfl ?_
        refine A_aload_n (pc := 1110) (i := 0) dL_law_1110 rfl rfl ?_
        refine A_iload_n (pc := 1111) (i := 3) dL_law_1111 rfl rfl ?_
        refine A_iconst (pc := 1112) (v := (1 : Int32)) dL_law_1112 (by decide) ?_
        refine A_iadd (pc := 1113) dL_law_1113 ?_
        refine A_ite (fun hg164 => ?_) (fun _ => Aw.none)
        refine A_sld (pc := 1114) (L := L) (xs := xs) rfl dL_law_1114 (in_of hL hg164) ?_
        refine A_aload_n (pc := 1115) (i := 0) dL_law_1115 rfl rfl ?_
        refine A_iload_n (pc := 1116) (i := 3) dL_law_1116 rfl rfl ?_
        refine A_iconst (pc := 1117) (v := (2 : Int32)) dL_law_1117 (by decide) ?_
        refine A_iadd (pc := 1118) dL_law_1118 ?_
        refine A_ite (fun hg165 => ?_) (fun _ => Aw.none)
        refine A_sld (pc := 1119) (L := L) (xs := xs) rfl dL_law_1119 (in_of hL hg165) ?_
        refine A_aload_n (pc := 1120) (i := 0) dL_law_1120 rfl rfl ?_
        refine A_iload_n (pc := 1121) (i := 3) dL_law_1121 rfl rfl ?_
        refine A_iconst (pc := 1122) (v := (3 : Int32)) dL_law_1122 (by decide) ?_
        refine A_iadd (pc := 1123) dL_law_1123 ?_
        refine A_ite (fun hg166 => ?_) (fun _ => Aw.none)
        refine A_sld (pc := 1124) (L := L) (xs := xs) rfl dL_law_1124 (in_of hL hg166) ?_
        refine A_aload_n (pc := 1125) (i := 0) dL_law_1125 rfl rfl ?_
        refine A_iload_n (pc := 1126) (i := 3) dL_law_1126 rfl rfl ?_
        refine A_iconst (pc := 1127) (v := (4 : Int32)) dL_law_1127 (by decide) ?_
        refine A_iadd (pc := 1128) dL_law_1128 ?_
        refine A_ite (fun hg167 => ?_) (fun _ => Aw.none)
        refine A_sld (pc := 1129) (L := L) (xs := xs) rfl dL_law_1129 (in_of hL hg167) ?_
        refine A_aload_n (pc := 1130) (i := 0) dL_law_1130 rfl rfl ?_
        refine A_iload_n (pc := 1131) (i := 3) dL_law_1131 rfl rfl ?_
        refine A_iconst (pc := 1132) (v := (5 : Int32)) dL_law_1132 (by decide) ?_
        refine A_iadd (pc := 1133) dL_law_1133 ?_
        refine A_ite (fun hg168 => ?_) (fun _ => Aw.none)
        refine A_sld (pc := 1134) (L := L) (xs := xs) rfl dL_law_1134 (in_of hL hg168) ?_
        refine A_callV (pc := 1135) (M' := mX8_copy) (As := [vi (xs (Int32.toNatClampNeg (x3 + (1 : Int32)))), vi (xs (Int32.toNatClampNeg (x3 + (2 : Int32)))), vi (xs (Int32.toNatClampNeg (x3 + (3 : Int32)))), vi (xs (Int32.toNatClampNeg (x3 + (4 : Int32)))), vi (xs (Int32.toNatClampNeg (x3 + (5 : Int32))))]) (st := [vi r163.1]) (n, 12 * n) (fun r169 => [vi r169.1, vi r163.1]) (fun r169 => r169.2) (a_X8_copy (xs (Int32.toNatClampNeg (x3 + (1 : Int32)))) (xs (Int32.toNatClampNeg (x3 + (2 : Int32)))) (xs (Int32.toNatClampNeg (x3 + (3 : Int32)))) (xs (Int32.toNatClampNeg (x3 + (4 : Int32)))) (xs (Int32.toNatClampNeg (x3 + (5 : Int32)))) r163.2) kD_X8_copy kM_L_132 kI_X8_copy kS_X8_copy kN_X8 ⟨(Nat.le_of_ble_eq_true rfl), (Nat.le_of_ble_eq_true rfl)⟩ dL_law_1135 rfl rfl rfl (by decide) rfl (Nat.le_of_ble_eq_true rfl) (show n + 0 ≤ n by omega) (show 12 * n + 0 ≤ 12 * n by omega) (fun _ => rfl) (fun _ => rfl) (fun r169 => ?_)
        refine A_icmp_eq (pc := 1138) (tgt := 1199) dL_law_1138 (by decide) ?_ ?_
        · refine A_iinc (pc := 1199) (i := 3) (v := (x3 + 6)) (ls2 := [some (vr 99 (some 0)), some (vr 7 (some 0)), some (vr 8 (some 0)), some (vi (x3 + 6))]) dL_law_1199 rfl rfl (Nat.le_of_ble_eq_true rfl) rfl ?_
          refine A_goto (pc := 1202) (tgt := 18) dL_law_1202 (by decide) ?_
          exact Aw.weak (ls' := [some (vr 99 (some 0)), some (vr 7 (some 0)), some (vr 8 (some 0)), some (vi (x3 + 6))]) ⟨rfl, ⟨rfl, ⟨rfl, ⟨rfl, trivial⟩⟩⟩⟩ (ih (x3 + 6) r169.2)
        · refine A_iconst (pc := 1141) (v := (0 : Int32)) dL_law_1141 (by decide) ?_
          exact A_retB rfl rfl dL_law_1142
      · refine A_aload_n (pc := 1143) (i := 1) dL_law_1143 rfl rfl ?_
        refine A_aload_n (pc := 1144) (i := 0) dL_law_1144 rfl rfl ?_
        refine A_iload_n (pc := 1145) (i := 3) dL_law_1145 rfl rfl ?_
        refine A_iconst (pc := 1146) (v := (1 : Int32)) dL_law_1146 (by decide) ?_
        refine A_iadd (pc := 1147) dL_law_1147 ?_
        refine A_ite (fun hg170 => ?_) (fun _ => Aw.none)
        refine A_sld (pc := 1148) (L := L) (xs := xs) rfl dL_law_1148 (in_of hL hg170) ?_
        refine A_aload_n (pc := 1149) (i := 0) dL_law_1149 rfl rfl ?_
        refine A_iload_n (pc := 1150) (i := 3) dL_law_1150 rfl rfl ?_
        refine A_iconst (pc := 1151) (v := (2 : Int32)) dL_law_1151 (by decide) ?_
        refine A_iadd (pc := 1152) dL_law_1152 ?_
        refine A_ite (fun hg171 => ?_) (fun _ => Aw.none)
        refine A_sld (pc := 1153) (L := L) (xs := xs) rfl dL_law_1153 (in_of hL hg171) ?_
        refine A_callV (pc := 1154) (M' := mX7_read) (As := [vi (xs (Int32.toNatClampNeg (x3 + (1 : Int32)))), vi (xs (Int32.toNatClampNeg (x3 + (2 : Int32))))]) (st := []) (n, 12 * n) (fun r172 => [vi r172.1]) (fun r172 => r172.2) (a_X7_read (xs (Int32.toNatClampNeg (x3 + (1 : Int32)))) (xs (Int32.toNatClampNeg (x3 + (2 : Int32)))) h) kD_X7_read kM_L_133 kI_X7_read kS_X7_read kN_X7 ⟨(Nat.le_of_ble_eq_true rfl), (Nat.le_of_ble_eq_true rfl)⟩ dL_law_1154 rfl rfl rfl (by decide) rfl (Nat.le_of_ble_eq_true rfl) (show n + 0 ≤ n + 1 by omega) (show 12 * n + 0 ≤ 12 * n + 12 by omega) (fun _ => rfl) (fun _ => rfl) (fun r172 => ?_)
        refine A_aload_n (pc := 1157) (i := 2) dL_law_1157 rfl rfl ?_
        refine A_aload_n (pc := 1158) (i := 0) dL_law_1158 rfl rfl ?_
        refine A_iload_n (pc := 1159) (i := 3) dL_law_1159 rfl rfl ?_
        refine A_iconst (pc := 1160) (v := (1 : Int32)) dL_law_1160 (by decide) ?_
        refine A_iadd (pc := 1161) dL_law_1161 ?_
        refine A_ite (fun hg173 => ?_) (fun _ => Aw.none)
        refine A_sld (pc := 1162) (L := L) (xs := xs) rfl dL_law_1162 (in_of hL hg173) ?_
        refine A_aload_n (pc := 1163) (i := 0) dL_law_1163 rfl rfl ?_
        refine A_iload_n (pc := 1164) (i := 3) dL_law_1164 rfl rfl ?_
        refine A_iconst (pc := 1165) (v := (2 : Int32)) dL_law_1165 (by decide) ?_
        refine A_iadd (pc := 1166) dL_law_1166 ?_
        refine A_ite (fun hg174 => ?_) (fun _ => Aw.none)
        refine A_sld (pc := 1167) (L := L) (xs := xs) rfl dL_law_1167 (in_of hL hg174) ?_
        refine A_callV (pc := 1168) (M' := mX8_read) (As := [vi (xs (Int32.toNatClampNeg (x3 + (1 : Int32)))), vi (xs (Int32.toNatClampNeg (x3 + (2 : Int32))))]) (st := [vi r172.1]) (n, 12 * n) (fun r175 => [vi r175.1, vi r172.1]) (fun r175 => r175.2) (a_X8_read (xs (Int32.toNatClampNeg (x3 + (1 : Int32)))) (xs (Int32.toNatClampNeg (x3 + (2 : Int32)))) r172.2) kD_X8_read kM_L_136 kI_X8_read kS_X8_read kN_X8 ⟨(Nat.le_of_ble_eq_true rfl), (Nat.le_of_ble_eq_true rfl)⟩ dL_law_1168 rfl rfl rfl (by decide) rfl (Nat.le_of_ble_eq_true rfl) (show n + 0 ≤ n by omega) (show 12 * n + 0 ≤ 12 * n by omega) (fun _ => rfl) (fun _ => rfl) (fun r175 => ?_)
        refine A_icmp_eq (pc := 1171) (tgt := 1199) dL_law_1171 (by decide) ?_ ?_
        · refine A_iinc (pc := 1199) (i := 3) (v := (x3 + 6)) (ls2 := [some (vr 99 (some 0)), some (vr 7 (some 0)), some (vr 8 (some 0)), some (vi (x3 + 6))]) dL_law_1199 rfl rfl (Nat.le_of_ble_eq_true rfl) rfl ?_
          refine A_goto (pc := 1202) (tgt := 18) dL_law_1202 (by decide) ?_
          exact Aw.weak (ls' := [some (vr 99 (some 0)), some (vr 7 (some 0)), some (vr 8 (some 0)), some (vi (x3 + 6))]) ⟨rfl, ⟨rfl, ⟨rfl, ⟨rfl, trivial⟩⟩⟩⟩ (ih (x3 + 6) r175.2)
        · refine A_iconst (pc := 1174) (v := (0 : Int32)) dL_law_1174 (by decide) ?_
          exact A_retB rfl rfl dL_law_1175
      · refine A_aload_n (pc := 1176) (i := 1) dL_law_1176 rfl rfl ?_
        refine A_aload_n (pc := 1177) (i := 0) dL_law_1177 rfl rfl ?_
        refine A_iload_n (pc := 1178) (i := 3) dL_law_1178 rfl rfl ?_
        refine A_iconst (pc := 1179) (v := (1 : Int32)) dL_law_1179 (by decide) ?_
        refine A_iadd (pc := 1180) dL_law_1180 ?_
        refine A_ite (fun hg176 => ?_) (fun _ => Aw.none)
        refine A_sld (pc := 1181) (L := L) (xs := xs) rfl dL_law_1181 (in_of hL hg176) ?_
        refine A_callV (pc := 1182) (M' := mX7_told) (As := [vi (xs (Int32.toNatClampNeg (x3 + (1 : Int32))))]) (st := []) (n, 12 * n) (fun r177 => [vi r177.1]) (fun r177 => r177.2) (a_X7_told (xs (Int32.toNatClampNeg (x3 + (1 : Int32)))) h) kD_X7_told kM_L_137 kI_X7_told kS_X7_told kN_X7 ⟨(Nat.le_of_ble_eq_true rfl), (Nat.le_of_ble_eq_true rfl)⟩ dL_law_1182 rfl rfl rfl (by decide) rfl (Nat.le_of_ble_eq_true rfl) (show n + 0 ≤ n + 1 by omega) (show 12 * n + 0 ≤ 12 * n + 12 by omega) (fun _ => rfl) (fun _ => rfl) (fun r177 => ?_)
        refine A_aload_n (pc := 1185) (i := 2) dL_law_1185 rfl rfl ?_
        refine A_aload_n (pc := 1186) (i := 0) dL_law_1186 rfl rfl ?_
        refine A_iload_n (pc := 1187) (i := 3) dL_law_1187 rfl rfl ?_
        refine A_iconst (pc := 1188) (v := (1 : Int32)) dL_law_1188 (by decide) ?_
        refine A_iadd (pc := 1189) dL_law_1189 ?_
        refine A_ite (fun hg178 => ?_) (fun _ => Aw.none)
        refine A_sld (pc := 1190) (L := L) (xs := xs) rfl dL_law_1190 (in_of hL hg178) ?_
        refine A_callV (pc := 1191) (M' := mX8_told) (As := [vi (xs (Int32.toNatClampNeg (x3 + (1 : Int32))))]) (st := [vi r177.1]) (n, 12 * n) (fun r179 => [vi r179.1, vi r177.1]) (fun r179 => r179.2) (a_X8_told (xs (Int32.toNatClampNeg (x3 + (1 : Int32)))) r177.2) kD_X8_told kM_L_140 kI_X8_told kS_X8_told kN_X8 ⟨(Nat.le_of_ble_eq_true rfl), (Nat.le_of_ble_eq_true rfl)⟩ dL_law_1191 rfl rfl rfl (by decide) rfl (Nat.le_of_ble_eq_true rfl) (show n + 0 ≤ n by omega) (show 12 * n + 0 ≤ 12 * n by omega) (fun _ => rfl) (fun _ => rfl) (fun r179 => ?_)
        refine A_icmp_eq (pc := 1194) (tgt := 1199) dL_law_1194 (by decide) ?_ ?_
        · refine A_iinc (pc := 1199) (i := 3) (v := (x3 + 6)) (ls2 := [some (vr 99 (some 0)), some (vr 7 (some 0)), some (vr 8 (some 0)), some (vi (x3 + 6))]) dL_law_1199 rfl rfl (Nat.le_of_ble_eq_true rfl) rfl ?_
          refine A_goto (pc := 1202) (tgt := 18) dL_law_1202 (by decide) ?_
          exact Aw.weak (ls' := [some (vr 99 (some 0)), some (vr 7 (some 0)), some (vr 8 (some 0)), some (vi (x3 + 6))]) ⟨rfl, ⟨rfl, ⟨rfl, ⟨rfl, trivial⟩⟩⟩⟩ (ih (x3 + 6) r179.2)
        · refine A_iconst (pc := 1197) (v := (0 : Int32)) dL_law_1197 (by decide) ?_
          exact A_retB rfl rfl dL_law_1198
def f_L_law (L : Nat) (xs : Nat → Int32) (h : Hp) : Option (Bool × Hp) := (if gN h 7 = 0 then ((f_X7_init (wN h 7)).bind fun r1 => (if gN r1 8 = 0 then ((f_X8_init (wN r1 8)).bind fun r2 => (fL_L_law_18 L xs 513 (0 : Int32) r2)) else none)) else none)
set_option maxRecDepth 100000 in
set_option maxHeartbeats 20000000 in
theorem a_L_law (L : Nat) (xs : Nat → Int32) (hL : (Int32.ofNat L).toInt = (L : Int)) (h : Hp) : Aw eB U0 (mL_law L xs) (600000, 7302250) U0 0 [some (vr 99 (some 0)), none, none, none] [] h (f_L_law L xs h) := by
  unfold f_L_law
  refine A_newS (pc := 0) (i := 0) (599999, 7302244) clX7 dL_law_0 kL_L_7 kZ_X7 kN_X7 hdX7 (Nat.le_of_ble_eq_true rfl) (Nat.le_of_ble_eq_true rfl) ?_
  refine A_dup (pc := 3) dL_law_3 (fun _ => cv_catr _ _) ?_
  refine A_callI (pc := 4) (M' := mX7_init) (As := []) (st := [vr 7 (some 0)]) (599974, 7301528) (fun r1 => [vr 7 (some 0)]) (fun r1 => r1) (a_X7_init (uN U0 7 0) (wN h 7)) kD_X7_init rfl rfl kM_L_9 kI_X7_init kN_X7 ⟨(Nat.le_of_ble_eq_true rfl), (Nat.le_of_ble_eq_true rfl)⟩ dL_law_4 rfl rfl (Nat.le_of_ble_eq_true rfl) (Nat.le_of_ble_eq_true rfl) (Nat.le_of_ble_eq_true rfl) (fun _ => rfl) (fun _ => rfl) (fun r1 => ?_)
  refine A_astore_n (pc := 7) (i := 1) (ls2 := [some (vr 99 (some 0)), some (vr 7 (some 0)), none, none]) dL_law_7 rfl (Nat.le_of_ble_eq_true rfl) rfl ?_
  refine A_newS (pc := 8) (i := 0) (599973, 7301483) clX8 dL_law_8 kL_L_10 kZ_X8 kN_X8 hdX8 (Nat.le_of_ble_eq_true rfl) (Nat.le_of_ble_eq_true rfl) ?_
  refine A_dup (pc := 11) dL_law_11 (fun _ => cv_catr _ _) ?_
  refine A_callI (pc := 12) (M' := mX8_init) (As := []) (st := [vr 8 (some 0)]) (599941, 7301135) (fun r2 => [vr 8 (some 0)]) (fun r2 => r2) (a_X8_init (uN (uS (uN (uS (uN (uS (uN (uS (uN (uS (uS (uS (uS (uS (uS (uN (uS (uS (uS (uS (uS (uS (uS (uN (uS (uN (uS (uS (uS (uN (uN U0 7 0) 5 0) 5 0 0) 5 0 1) 7 0 0) 2 0) 7 0 1) 4 0) 4 0 0) 4 0 1) 4 0 2) 4 0 3) 4 0 4) 4 0 5) 7 0 2) 3 0) 3 0 0) 3 0 1) 3 0 2) 3 0 3) 7 0 3) 7 0 4) 6 0) 6 0 0) 6 1) 6 1 0) 6 2) 6 2 0) 6 3) 6 3 0) 8 0) (wN r1 8)) kD_X8_init rfl rfl kM_L_12 kI_X8_init kN_X8 ⟨(Nat.le_of_ble_eq_true rfl), (Nat.le_of_ble_eq_true rfl)⟩ dL_law_12 rfl rfl (Nat.le_of_ble_eq_true rfl) (Nat.le_of_ble_eq_true rfl) (Nat.le_of_ble_eq_true rfl) (fun _ => rfl) (fun _ => rfl) (fun r2 => ?_)
  refine A_astore_n (pc := 15) (i := 2) (ls2 := [some (vr 99 (some 0)), some (vr 7 (some 0)), some (vr 8 (some 0)), none]) dL_law_15 rfl (Nat.le_of_ble_eq_true rfl) rfl ?_
  refine A_iconst (pc := 16) (v := (0 : Int32)) dL_law_16 (by decide) ?_
  refine A_istore_n (pc := 17) (i := 3) (ls2 := [some (vr 99 (some 0)), some (vr 7 (some 0)), some (vr 8 (some 0)), some (vi (0 : Int32))]) dL_law_17 rfl (Nat.le_of_ble_eq_true rfl) rfl ?_
  refine Aw.bud (b' := (513, 12 * 513)) (Nat.le_of_ble_eq_true rfl) (Nat.le_of_ble_eq_true rfl) ?_
  refine Aw.setU (U' := U0) law_U ?_
  exact Aw.weak (ls' := [some (vr 99 (some 0)), some (vr 7 (some 0)), some (vr 8 (some 0)), some (vi (0 : Int32))]) ⟨rfl, ⟨rfl, ⟨rfl, ⟨rfl, trivial⟩⟩⟩⟩ (aL_L_law_18 L xs hL 513 (0 : Int32) r2)
