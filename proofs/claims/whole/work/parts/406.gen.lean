abbrev mX8_fault : MD := (yX8_fault, cX8_fault, 3, (some .int), { frames := 2, cells := 0, slots := 0, locals := 46 }, none)
theorem kD_X8_fault : CodeIn mX8_fault 1 := ⟨kC_X8_fault, by decide +kernel⟩
def fL_X8_fault_17 : Nat → Int32 → Int32 → Hp → Option (Int32 × Hp)
  | 0, _, _, _ => none
  | n + 1, x1, x2, h => (if 0 ≤ x1 ∧ x1 < 4 then (if (gI h 43 0 (Int32.toNatClampNeg x1)) ≤ x2 then (some ((-1 : Int32), h)) else (if 0 ≤ (((6 : Int32) * x1) + x2) ∧ (((6 : Int32) * x1) + x2) < 24 then ((f_X8_insideOf x1 x2 h).bind fun r2 => ((f_X8_whyNot (gI h 44 0 (Int32.toNatClampNeg (((6 : Int32) * x1) + x2))) x1 x2 r2 h).bind fun r3 => (if r3 = 0 then ((fL_X8_fault_17 n) x1 (x2 + 1) h) else (some (x2, h))))) else none)) else none)
set_option maxRecDepth 100000 in
set_option maxHeartbeats 4000000 in
theorem aL_X8_fault_17 : ∀ (n : Nat) (x1 : Int32) (x2 : Int32) (h : Hp), Aw eI U0 mX8_fault (0, 0) U0 17 [some (vr 8 (some 0)), some (vi x1), some (vi x2)] [] h (fL_X8_fault_17 n x1 x2 h) := by
  intro n
  induction n with
  | zero =>
    intro x1 x2 h
    exact Aw.none
  | succ n ih =>
    intro x1 x2 h
    show Aw _ _ _ _ _ _ _ _ _ (fL_X8_fault_17 (n + 1) x1 x2 h)
    unfold fL_X8_fault_17
    refine A_iload_n (pc := 17) (i := 2) dX8_fault_17 rfl rfl ?_
    refine A_aload_n (pc := 18) (i := 0) dX8_fault_18 rfl rfl ?_
    refine A_getS (pc := 19) (k := 17) (tp := 43) clX8 (Nat.le_of_ble_eq_true rfl) dX8_fault_19 kF_X8_50 rfl rfl rfl ?_
    refine A_iload_n (pc := 22) (i := 1) dX8_fault_22 rfl rfl ?_
    refine A_iaload (pc := 23) (n := 4) (by decide) (by decide) rfl dX8_fault_23 (by decide) ?_
    refine A_icmp_ge (pc := 24) (tgt := 61) dX8_fault_24 (by decide) ?_ ?_
    · refine A_iconst (pc := 61) (v := (-1 : Int32)) dX8_fault_61 (by decide) ?_
      exact A_retI rfl dX8_fault_62
    · refine A_aload_n (pc := 27) (i := 0) dX8_fault_27 rfl rfl ?_
      refine A_aload_n (pc := 28) (i := 0) dX8_fault_28 rfl rfl ?_
      refine A_getS (pc := 29) (k := 18) (tp := 44) clX8 (Nat.le_of_ble_eq_true rfl) dX8_fault_29 kF_X8_53 rfl rfl rfl ?_
      refine A_bipush (pc := 32) (v := (6 : Int32)) dX8_fault_32 (by decide) ?_
      refine A_iload_n (pc := 34) (i := 1) dX8_fault_34 rfl rfl ?_
      refine A_imul (pc := 35) dX8_fault_35 ?_
      refine A_iload_n (pc := 36) (i := 2) dX8_fault_36 rfl rfl ?_
      refine A_iadd (pc := 37) dX8_fault_37 ?_
      refine A_iaload (pc := 38) (n := 24) (by decide) (by decide) rfl dX8_fault_38 (by decide) ?_
      refine A_iload_n (pc := 39) (i := 1) dX8_fault_39 rfl rfl ?_
      refine A_iload_n (pc := 40) (i := 2) dX8_fault_40 rfl rfl ?_
      refine A_aload_n (pc := 41) (i := 0) dX8_fault_41 rfl rfl ?_
      refine A_iload_n (pc := 42) (i := 1) dX8_fault_42 rfl rfl ?_
      refine A_iload_n (pc := 43) (i := 2) dX8_fault_43 rfl rfl ?_
      refine A_callV (pc := 44) (M' := mX8_insideOf) (As := [vi x1, vi x2]) (st := [vi x2, vi x1, vi (gI h 44 0 (Int32.toNatClampNeg (((6 : Int32) * x1) + x2))), vr 8 (some 0)]) (0, 0) (fun r2 => [vi r2, vi x2, vi x1, vi (gI h 44 0 (Int32.toNatClampNeg (((6 : Int32) * x1) + x2))), vr 8 (some 0)]) (fun _ => h) (a_X8_insideOf x1 x2 h) kD_X8_insideOf kM_X8_152 kI_X8_insideOf kS_X8_insideOf kN_X8 ⟨(Nat.le_of_ble_eq_true rfl), (Nat.le_of_ble_eq_true rfl)⟩ dX8_fault_44 rfl rfl rfl (by decide) rfl (Nat.le_of_ble_eq_true rfl) (Nat.le_of_ble_eq_true rfl) (Nat.le_of_ble_eq_true rfl) (fun _ => rfl) (fun _ => rfl) (fun r2 => ?_)
      refine A_callV (pc := 47) (M' := mX8_whyNot) (As := [vi (gI h 44 0 (Int32.toNatClampNeg (((6 : Int32) * x1) + x2))), vi x1, vi x2, vi r2]) (st := []) (0, 0) (fun r3 => [vi r3]) (fun _ => h) (a_X8_whyNot (gI h 44 0 (Int32.toNatClampNeg (((6 : Int32) * x1) + x2))) x1 x2 r2 h) kD_X8_whyNot kM_X8_156 kI_X8_whyNot kS_X8_whyNot kN_X8 ⟨(Nat.le_of_ble_eq_true rfl), (Nat.le_of_ble_eq_true rfl)⟩ dX8_fault_47 rfl rfl rfl (by decide) rfl (Nat.le_of_ble_eq_true rfl) (Nat.le_of_ble_eq_true rfl) (Nat.le_of_ble_eq_true rfl) (fun _ => rfl) (fun _ => rfl) (fun r3 => ?_)
      refine A_if_eq (pc := 50) (tgt := 55) dX8_fault_50 (by decide) ?_ ?_
      · refine A_iinc (pc := 55) (i := 2) (v := (x2 + 1)) (ls2 := [some (vr 8 (some 0)), some (vi x1), some (vi (x2 + 1))]) dX8_fault_55 rfl rfl (Nat.le_of_ble_eq_true rfl) rfl ?_
        refine A_goto (pc := 58) (tgt := 17) dX8_fault_58 (by decide) ?_
        exact Aw.weak (ls' := [some (vr 8 (some 0)), some (vi x1), some (vi (x2 + 1))]) ⟨rfl, ⟨rfl, ⟨rfl, trivial⟩⟩⟩ (ih x1 (x2 + 1) h)
      · refine A_iload_n (pc := 53) (i := 2) dX8_fault_53 rfl rfl ?_
        exact A_retI rfl dX8_fault_54
def f_X8_fault (x1 : Int32) (h : Hp) : Option (Int32 × Hp) := ((f_X8_isBerth x1 h).bind fun r1 => (if r1 = true then (fL_X8_fault_17 FU x1 (0 : Int32) h) else ((f_X8_finding (-1000001 : Int32) h).bind fun r4 => (some (r4.1, r4.2)))))
set_option maxRecDepth 100000 in
set_option maxHeartbeats 4000000 in
theorem a_X8_fault (x1 : Int32) (h : Hp) : CtA eI mX8_fault U0 U0 [vr 8 (some 0), vi x1] h (f_X8_fault x1 h) := by
  refine Ct.of (ls := [some (vr 8 (some 0)), some (vi x1), none]) (n := 1) (by decide +kernel) rfl rfl rfl ?_
  unfold f_X8_fault
  refine A_aload_n (pc := 0) (i := 0) dX8_fault_0 rfl rfl ?_
  refine A_iload_n (pc := 1) (i := 1) dX8_fault_1 rfl rfl ?_
  refine A_callV (pc := 2) (M' := mX8_isBerth) (As := [vi x1]) (st := []) (0, 0) (fun r1 => [vi (bi r1)]) (fun _ => h) (a_X8_isBerth x1 h) kD_X8_isBerth kM_X8_149 kI_X8_isBerth kS_X8_isBerth kN_X8 ⟨(Nat.le_of_ble_eq_true rfl), (Nat.le_of_ble_eq_true rfl)⟩ dX8_fault_2 rfl rfl rfl (by decide) rfl (Nat.le_of_ble_eq_true rfl) (Nat.le_of_ble_eq_true rfl) (Nat.le_of_ble_eq_true rfl) (fun _ => rfl) (fun _ => rfl) (fun r1 => ?_)
  refine A_ifb_ne (pc := 5) (tgt := 15) dX8_fault_5 (by decide) ?_ ?_
  · refine A_iconst (pc := 15) (v := (0 : Int32)) dX8_fault_15 (by decide) ?_
    refine A_istore_n (pc := 16) (i := 2) (ls2 := [some (vr 8 (some 0)), some (vi x1), some (vi (0 : Int32))]) dX8_fault_16 rfl (Nat.le_of_ble_eq_true rfl) rfl ?_
    exact Aw.weak (ls' := [some (vr 8 (some 0)), some (vi x1), some (vi (0 : Int32))]) ⟨rfl, ⟨rfl, ⟨rfl, trivial⟩⟩⟩ (aL_X8_fault_17 FU x1 (0 : Int32) h)
  · refine A_aload_n (pc := 8) (i := 0) dX8_fault_8 rfl rfl ?_
    refine A_ldc (pc := 9) (v := (-1000001 : Int32)) dX8_fault_9 kK_X8_125 ?_
    refine A_callV (pc := 11) (M' := mX8_finding) (As := [vi (-1000001 : Int32)]) (st := []) (0, 0) (fun r4 => [vi r4.1]) (fun r4 => r4.2) (a_X8_finding (-1000001 : Int32) h) kD_X8_finding kM_X8_126 kI_X8_finding kS_X8_finding kN_X8 ⟨(Nat.le_of_ble_eq_true rfl), (Nat.le_of_ble_eq_true rfl)⟩ dX8_fault_11 rfl rfl rfl (by decide) rfl (Nat.le_of_ble_eq_true rfl) (Nat.le_of_ble_eq_true rfl) (Nat.le_of_ble_eq_true rfl) (fun _ => rfl) (fun _ => rfl) (fun r4 => ?_)
    exact A_retI rfl dX8_fault_14

abbrev mX8_movesMaybe : MD := (yX8_movesMaybe, cX8_movesMaybe, 3, (some .boolean), { frames := 0, cells := 0, slots := 0, locals := 0 }, none)
theorem kD_X8_movesMaybe : CodeIn mX8_movesMaybe 2 := ⟨kC_X8_movesMaybe, by decide +kernel⟩
def f_X8_movesMaybe (x1 : Int32) (x2 : Int32) (h : Hp) : Option Bool := (if 0 ≤ x1 ∧ x1 < 8 then (if 0 ≤ x2 ∧ x2 < 8 then (if (gI h 39 0 (Int32.toNatClampNeg x2)) ≤ (gI h 38 0 (Int32.toNatClampNeg x1)) then (some false) else (some true)) else none) else none)
set_option maxRecDepth 100000 in
set_option maxHeartbeats 4000000 in
theorem a_X8_movesMaybe (x1 : Int32) (x2 : Int32) (h : Hp) : CtA (eBr h) mX8_movesMaybe U0 U0 [vr 8 (some 0), vi x1, vi x2] h (f_X8_movesMaybe x1 x2 h) := by
  refine Ct.of (ls := [some (vr 8 (some 0)), some (vi x1), some (vi x2)]) (n := 0) (by decide +kernel) rfl rfl rfl ?_
  unfold f_X8_movesMaybe
  refine A_aload_n (pc := 0) (i := 0) dX8_movesMaybe_0 rfl rfl ?_
  refine A_getS (pc := 1) (k := 11) (tp := 38) clX8 (Nat.le_of_ble_eq_true rfl) dX8_movesMaybe_1 kF_X8_35 rfl rfl rfl ?_
  refine A_iload_n (pc := 4) (i := 1) dX8_movesMaybe_4 rfl rfl ?_
  refine A_iaload (pc := 5) (n := 8) (by decide) (by decide) rfl dX8_movesMaybe_5 (by decide) ?_
  refine A_aload_n (pc := 6) (i := 0) dX8_movesMaybe_6 rfl rfl ?_
  refine A_getS (pc := 7) (k := 12) (tp := 39) clX8 (Nat.le_of_ble_eq_true rfl) dX8_movesMaybe_7 kF_X8_38 rfl rfl rfl ?_
  refine A_iload_n (pc := 10) (i := 2) dX8_movesMaybe_10 rfl rfl ?_
  refine A_iaload (pc := 11) (n := 8) (by decide) (by decide) rfl dX8_movesMaybe_11 (by decide) ?_
  refine A_icmp_ge (pc := 12) (tgt := 19) dX8_movesMaybe_12 (by decide) ?_ ?_
  · refine A_iconst (pc := 19) (v := (0 : Int32)) dX8_movesMaybe_19 (by decide) ?_
    exact A_retBr rfl rfl dX8_movesMaybe_20
  · refine A_iconst (pc := 15) (v := (1 : Int32)) dX8_movesMaybe_15 (by decide) ?_
    refine A_goto (pc := 16) (tgt := 20) dX8_movesMaybe_16 (by decide) ?_
    exact A_retBr rfl rfl dX8_movesMaybe_20

abbrev mX8_pairs : MD := (yX8_pairs, cX8_pairs, 9, (some .int), { frames := 2, cells := 0, slots := 0, locals := 43 }, none)
theorem kD_X8_pairs : CodeIn mX8_pairs 2 := ⟨kC_X8_pairs, by decide +kernel⟩
def fJ_X8_pairs_106 (c20 : Int32 → Int32 → Int32 → Int32 → Hp → Option (Int32 × Hp)) (c34 : Int32 → Int32 → Int32 → Int32 → Int32 → Hp → Option (Int32 × Hp)) (x1 : Int32) (x2 : Int32) (x3 : Int32) (x4 : Int32) (x5 : Int32) (xs0 : Int32) (h : Hp) : Option (Int32 × Hp) := (if xs0 = 0 then (c34 x1 x2 (x3 + (0 : Int32)) x4 (x5 + 1) h) else (c34 x1 x2 (x3 + (1 : Int32)) x4 (x5 + 1) h))
set_option maxRecDepth 100000 in
set_option maxHeartbeats 4000000 in
theorem aJ_X8_pairs_106 (c20 : Int32 → Int32 → Int32 → Int32 → Hp → Option (Int32 × Hp)) (c34 : Int32 → Int32 → Int32 → Int32 → Int32 → Hp → Option (Int32 × Hp)) (hc20 : ∀ (x1 : Int32) (x2 : Int32) (x3 : Int32) (x4 : Int32) (h : Hp), Aw eI U0 mX8_pairs (0, 0) U0 20 [some (vr 8 (some 0)), some (vi x1), some (vi x2), some (vi x3), some (vi x4), none, none, none, none] [] h (c20 x1 x2 x3 x4 h)) (hc34 : ∀ (x1 : Int32) (x2 : Int32) (x3 : Int32) (x4 : Int32) (x5 : Int32) (h : Hp), Aw eI U0 mX8_pairs (0, 0) U0 34 [some (vr 8 (some 0)), some (vi x1), some (vi x2), some (vi x3), some (vi x4), some (vi x5), none, none, none] [] h (c34 x1 x2 x3 x4 x5 h)) (x1 : Int32) (x2 : Int32) (x3 : Int32) (x4 : Int32) (x5 : Int32) (xs0 : Int32) (h : Hp) : Aw eI U0 mX8_pairs (0, 0) U0 106 [some (vr 8 (some 0)), some (vi x1), some (vi x2), some (vi x3), some (vi x4), some (vi x5), none, none, none] [vi xs0] h (fJ_X8_pairs_106 c20 c34 x1 x2 x3 x4 x5 xs0 h) := by
  unfold fJ_X8_pairs_106
  refine A_istore (pc := 106) (i := 8) (ls2 := [some (vr 8 (some 0)), some (vi x1), some (vi x2), some (vi x3), some (vi x4), some (vi x5), none, none, some (vi xs0)]) dX8_pairs_106 (Nat.le_of_ble_eq_true rfl) rfl ?_
  refine A_iload_n (pc := 108) (i := 3) dX8_pairs_108 rfl rfl ?_
  refine A_iload (pc := 109) (i := 8) dX8_pairs_109 rfl ?_
  refine A_if_eq (pc := 111) (tgt := 118) dX8_pairs_111 (by decide) ?_ ?_
  · refine A_iconst (pc := 118) (v := (0 : Int32)) dX8_pairs_118 (by decide) ?_
    refine A_iadd (pc := 119) dX8_pairs_119 ?_
    refine A_istore_n (pc := 120) (i := 3) (ls2 := [some (vr 8 (some 0)), some (vi x1), some (vi x2), some (vi (x3 + (0 : Int32))), some (vi x4), some (vi x5), none, none, some (vi xs0)]) dX8_pairs_120 rfl (Nat.le_of_ble_eq_true rfl) rfl ?_
    refine A_iinc (pc := 121) (i := 5) (v := (x5 + 1)) (ls2 := [some (vr 8 (some 0)), some (vi x1), some (vi x2), some (vi (x3 + (0 : Int32))), some (vi x4), some (vi (x5 + 1)), none, none, some (vi xs0)]) dX8_pairs_121 rfl rfl (Nat.le_of_ble_eq_true rfl) rfl ?_
    refine A_goto (pc := 124) (tgt := 34) dX8_pairs_124 (by decide) ?_
    exact Aw.weak (ls' := [some (vr 8 (some 0)), some (vi x1), some (vi x2), some (vi (x3 + (0 : Int32))), some (vi x4), some (vi (x5 + 1)), none, none, none]) ⟨rfl, ⟨rfl, ⟨rfl, ⟨rfl, ⟨rfl, ⟨rfl, trivial⟩⟩⟩⟩⟩⟩ (hc34 x1 x2 (x3 + (0 : Int32)) x4 (x5 + 1) h)
  · refine A_iconst (pc := 114) (v := (1 : Int32)) dX8_pairs_114 (by decide) ?_
    refine A_goto (pc := 115) (tgt := 119) dX8_pairs_115 (by decide) ?_
    refine A_iadd (pc := 119) dX8_pairs_119 ?_
    refine A_istore_n (pc := 120) (i := 3) (ls2 := [some (vr 8 (some 0)), some (vi x1), some (vi x2), some (vi (x3 + (1 : Int32))), some (vi x4), some (vi x5), none, none, some (vi xs0)]) dX8_pairs_120 rfl (Nat.le_of_ble_eq_true rfl) rfl ?_
    refine A_iinc (pc := 121) (i := 5) (v := (x5 + 1)) (ls2 := [some (vr 8 (some 0)), some (vi x1), some (vi x2), some (vi (x3 + (1 : Int32))), some (vi x4), some (vi (x5 + 1)), none, none, some (vi xs0)]) dX8_pairs_121 rfl rfl (Nat.le_of_ble_eq_true rfl) rfl ?_
    refine A_goto (pc := 124) (tgt := 34) dX8_pairs_124 (by decide) ?_
    exact Aw.weak (ls' := [some (vr 8 (some 0)), some (vi x1), some (vi x2), some (vi (x3 + (1 : Int32))), some (vi x4), some (vi (x5 + 1)), none, none, none]) ⟨rfl, ⟨rfl, ⟨rfl, ⟨rfl, ⟨rfl, ⟨rfl, trivial⟩⟩⟩⟩⟩⟩ (hc34 x1 x2 (x3 + (1 : Int32)) x4 (x5 + 1) h)
def fL_X8_pairs_34 (c20 : Int32 → Int32 → Int32 → Int32 → Hp → Option (Int32 × Hp)) : Nat → Int32 → Int32 → Int32 → Int32 → Int32 → Hp → Option (Int32 × Hp)
  | 0, _, _, _, _, _, _ => none
  | n + 1, x1, x2, x3, x4, x5, h => (if x4 ≤ x5 then (c20 x1 x2 x3 (x4 + 1) h) else (if 0 ≤ (((6 : Int32) * x1) + x5) ∧ (((6 : Int32) * x1) + x5) < 24 then (if 0 ≤ (((6 : Int32) * x1) + x4) ∧ (((6 : Int32) * x1) + x4) < 24 then (if x2 = 0 then ((f_X8_movesMaybe (gI h 44 0 (Int32.toNatClampNeg (((6 : Int32) * x1) + x5))) (gI h 44 0 (Int32.toNatClampNeg (((6 : Int32) * x1) + x4))) h).bind fun r2 => (fJ_X8_pairs_106 c20 (fL_X8_pairs_34 c20 n) x1 x2 x3 x4 x5 (bi r2) h)) else (if 0 ≤ (gI h 44 0 (Int32.toNatClampNeg (((6 : Int32) * x1) + x5))) ∧ (gI h 44 0 (Int32.toNatClampNeg (((6 : Int32) * x1) + x5))) < 8 then (if 0 ≤ (gI h 44 0 (Int32.toNatClampNeg (((6 : Int32) * x1) + x4))) ∧ (gI h 44 0 (Int32.toNatClampNeg (((6 : Int32) * x1) + x4))) < 8 then (if (gI h 38 0 (Int32.toNatClampNeg (gI h 44 0 (Int32.toNatClampNeg (((6 : Int32) * x1) + x4))))) ≤ (gI h 39 0 (Int32.toNatClampNeg (gI h 44 0 (Int32.toNatClampNeg (((6 : Int32) * x1) + x5))))) then (fJ_X8_pairs_106 c20 (fL_X8_pairs_34 c20 n) x1 x2 x3 x4 x5 (0 : Int32) h) else (fJ_X8_pairs_106 c20 (fL_X8_pairs_34 c20 n) x1 x2 x3 x4 x5 (1 : Int32) h)) else none) else none)) else none) else none))
set_option maxRecDepth 100000 in
set_option maxHeartbeats 4000000 in
theorem aL_X8_pairs_34 (c20 : Int32 → Int32 → Int32 → Int32 → Hp → Option (Int32 × Hp)) (hc20 : ∀ (x1 : Int32) (x2 : Int32) (x3 : Int32) (x4 : Int32) (h : Hp), Aw eI U0 mX8_pairs (0, 0) U0 20 [some (vr 8 (some 0)), some (vi x1), some (vi x2), some (vi x3), some (vi x4), none, none, none, none] [] h (c20 x1 x2 x3 x4 h)) : ∀ (n : Nat) (x1 : Int32) (x2 : Int32) (x3 : Int32) (x4 : Int32) (x5 : Int32) (h : Hp), Aw eI U0 mX8_pairs (0, 0) U0 34 [some (vr 8 (some 0)), some (vi x1), some (vi x2), some (vi x3), some (vi x4), some (vi x5), none, none, none] [] h (fL_X8_pairs_34 c20 n x1 x2 x3 x4 x5 h) := by
  intro n
  induction n with
  | zero =>
    intro x1 x2 x3 x4 x5 h
    exact Aw.none
  | succ n ih =>
    intro x1 x2 x3 x4 x5 h
    show Aw _ _ _ _ _ _ _ _ _ (fL_X8_pairs_34 c20 (n + 1) x1 x2 x3 x4 x5 h)
    unfold fL_X8_pairs_34
    refine A_iload (pc := 34) (i := 5) dX8_pairs_34 rfl ?_
    refine A_iload (pc := 36) (i := 4) dX8_pairs_36 rfl ?_
    refine A_icmp_ge (pc := 38) (tgt := 127) dX8_pairs_38 (by decide) ?_ ?_
    · refine A_iinc (pc := 127) (i := 4) (v := (x4 + 1)) (ls2 := [some (vr 8 (some 0)), some (vi x1), some (vi x2), some (vi x3), some (vi (x4 + 1)), some (vi x5), none, none, none]) dX8_pairs_127 rfl rfl (Nat.le_of_ble_eq_true rfl) rfl ?_
      refine A_goto (pc := 130) (tgt := 20) dX8_pairs_130 (by decide) ?_
      exact Aw.weak (ls' := [some (vr 8 (some 0)), some (vi x1), some (vi x2), some (vi x3), some (vi (x4 + 1)), none, none, none, none]) ⟨rfl, ⟨rfl, ⟨rfl, ⟨rfl, ⟨rfl, trivial⟩⟩⟩⟩⟩ (hc20 x1 x2 x3 (x4 + 1) h)
    · refine A_aload_n (pc := 41) (i := 0) dX8_pairs_41 rfl rfl ?_
      refine A_getS (pc := 42) (k := 18) (tp := 44) clX8 (Nat.le_of_ble_eq_true rfl) dX8_pairs_42 kF_X8_53 rfl rfl rfl ?_
      refine A_bipush (pc := 45) (v := (6 : Int32)) dX8_pairs_45 (by decide) ?_
      refine A_iload_n (pc := 47) (i := 1) dX8_pairs_47 rfl rfl ?_
      refine A_imul (pc := 48) dX8_pairs_48 ?_
      refine A_iload (pc := 49) (i := 5) dX8_pairs_49 rfl ?_
      refine A_iadd (pc := 51) dX8_pairs_51 ?_
      refine A_iaload (pc := 52) (n := 24) (by decide) (by decide) rfl dX8_pairs_52 (by decide) ?_
      refine A_istore (pc := 53) (i := 6) (ls2 := [some (vr 8 (some 0)), some (vi x1), some (vi x2), some (vi x3), some (vi x4), some (vi x5), some (vi (gI h 44 0 (Int32.toNatClampNeg (((6 : Int32) * x1) + x5)))), none, none]) dX8_pairs_53 (Nat.le_of_ble_eq_true rfl) rfl ?_
      refine A_aload_n (pc := 55) (i := 0) dX8_pairs_55 rfl rfl ?_
      refine A_getS (pc := 56) (k := 18) (tp := 44) clX8 (Nat.le_of_ble_eq_true rfl) dX8_pairs_56 kF_X8_53 rfl rfl rfl ?_
      refine A_bipush (pc := 59) (v := (6 : Int32)) dX8_pairs_59 (by decide) ?_
      refine A_iload_n (pc := 61) (i := 1) dX8_pairs_61 rfl rfl ?_
      refine A_imul (pc := 62) dX8_pairs_62 ?_
      refine A_iload (pc := 63) (i := 4) dX8_pairs_63 rfl ?_
      refine A_iadd (pc := 65) dX8_pairs_65 ?_
      refine A_iaload (pc := 66) (n := 24) (by decide) (by decide) rfl dX8_pairs_66 (by decide) ?_
      refine A_istore (pc := 67) (i := 7) (ls2 := [some (vr 8 (some 0)), some (vi x1), some (vi x2), some (vi x3), some (vi x4), some (vi x5), some (vi (gI h 44 0 (Int32.toNatClampNeg (((6 : Int32) * x1) + x5)))), some (vi (gI h 44 0 (Int32.toNatClampNeg (((6 : Int32) * x1) + x4)))), none]) dX8_pairs_67 (Nat.le_of_ble_eq_true rfl) rfl ?_
      refine A_iload_n (pc := 69) (i := 2) dX8_pairs_69 rfl rfl ?_
      refine A_if_eq (pc := 70) (tgt := 98) dX8_pairs_70 (by decide) ?_ ?_
      · refine A_aload_n (pc := 98) (i := 0) dX8_pairs_98 rfl rfl ?_
        refine A_iload (pc := 99) (i := 6) dX8_pairs_99 rfl ?_
        refine A_iload (pc := 101) (i := 7) dX8_pairs_101 rfl ?_
        refine A_callV (pc := 103) (M' := mX8_movesMaybe) (As := [vi (gI h 44 0 (Int32.toNatClampNeg (((6 : Int32) * x1) + x5))), vi (gI h 44 0 (Int32.toNatClampNeg (((6 : Int32) * x1) + x4)))]) (st := []) (0, 0) (fun r2 => [vi (bi r2)]) (fun _ => h) (a_X8_movesMaybe (gI h 44 0 (Int32.toNatClampNeg (((6 : Int32) * x1) + x5))) (gI h 44 0 (Int32.toNatClampNeg (((6 : Int32) * x1) + x4))) h) kD_X8_movesMaybe kM_X8_178 kI_X8_movesMaybe kS_X8_movesMaybe kN_X8 ⟨(Nat.le_of_ble_eq_true rfl), (Nat.le_of_ble_eq_true rfl)⟩ dX8_pairs_103 rfl rfl rfl (by decide) rfl (Nat.le_of_ble_eq_true rfl) (Nat.le_of_ble_eq_true rfl) (Nat.le_of_ble_eq_true rfl) (fun _ => rfl) (fun _ => rfl) (fun r2 => ?_)
        exact Aw.weak (ls' := [some (vr 8 (some 0)), some (vi x1), some (vi x2), some (vi x3), some (vi x4), some (vi x5), none, none, none]) ⟨rfl, ⟨rfl, ⟨rfl, ⟨rfl, ⟨rfl, ⟨rfl, trivial⟩⟩⟩⟩⟩⟩ (aJ_X8_pairs_106 c20 (fL_X8_pairs_34 c20 n) hc20 ih x1 x2 x3 x4 x5 (bi r2) h)
      · refine A_aload_n (pc := 73) (i := 0) dX8_pairs_73 rfl rfl ?_
        refine A_getS (pc := 74) (k := 12) (tp := 39) clX8 (Nat.le_of_ble_eq_true rfl) dX8_pairs_74 kF_X8_38 rfl rfl rfl ?_
        refine A_iload (pc := 77) (i := 6) dX8_pairs_77 rfl ?_
        refine A_iaload (pc := 79) (n := 8) (by decide) (by decide) rfl dX8_pairs_79 (by decide) ?_
        refine A_aload_n (pc := 80) (i := 0) dX8_pairs_80 rfl rfl ?_
        refine A_getS (pc := 81) (k := 11) (tp := 38) clX8 (Nat.le_of_ble_eq_true rfl) dX8_pairs_81 kF_X8_35 rfl rfl rfl ?_
        refine A_iload (pc := 84) (i := 7) dX8_pairs_84 rfl ?_
        refine A_iaload (pc := 86) (n := 8) (by decide) (by decide) rfl dX8_pairs_86 (by decide) ?_
        refine A_icmp_ge (pc := 87) (tgt := 94) dX8_pairs_87 (by decide) ?_ ?_
        · refine A_iconst (pc := 94) (v := (0 : Int32)) dX8_pairs_94 (by decide) ?_
          refine A_goto (pc := 95) (tgt := 106) dX8_pairs_95 (by decide) ?_
          exact Aw.weak (ls' := [some (vr 8 (some 0)), some (vi x1), some (vi x2), some (vi x3), some (vi x4), some (vi x5), none, none, none]) ⟨rfl, ⟨rfl, ⟨rfl, ⟨rfl, ⟨rfl, ⟨rfl, trivial⟩⟩⟩⟩⟩⟩ (aJ_X8_pairs_106 c20 (fL_X8_pairs_34 c20 n) hc20 ih x1 x2 x3 x4 x5 (0 : Int32) h)
        · refine A_iconst (pc := 90) (v := (1 : Int32)) dX8_pairs_90 (by decide) ?_
          refine A_goto (pc := 91) (tgt := 106) dX8_pairs_91 (by decide) ?_
          exact Aw.weak (ls' := [some (vr 8 (some 0)), some (vi x1), some (vi x2), some (vi x3), some (vi x4), some (vi x5), none, none, none]) ⟨rfl, ⟨rfl, ⟨rfl, ⟨rfl, ⟨rfl, ⟨rfl, trivial⟩⟩⟩⟩⟩⟩ (aJ_X8_pairs_106 c20 (fL_X8_pairs_34 c20 n) hc20 ih x1 x2 x3 x4 x5 (1 : Int32) h)
def fL_X8_pairs_20 : Nat → Int32 → Int32 → Int32 → Int32 → Hp → Option (Int32 × Hp)
  | 0, _, _, _, _, _ => none
  | n + 1, x1, x2, x3, x4, h => (if 0 ≤ x1 ∧ x1 < 4 then (if (gI h 43 0 (Int32.toNatClampNeg x1)) ≤ x4 then (some (x3, h)) else (fL_X8_pairs_34 (fL_X8_pairs_20 n) FU x1 x2 x3 x4 (0 : Int32) h)) else none)
set_option maxRecDepth 100000 in
set_option maxHeartbeats 4000000 in
theorem aL_X8_pairs_20 : ∀ (n : Nat) (x1 : Int32) (x2 : Int32) (x3 : Int32) (x4 : Int32) (h : Hp), Aw eI U0 mX8_pairs (0, 0) U0 20 [some (vr 8 (some 0)), some (vi x1), some (vi x2), some (vi x3), some (vi x4), none, none, none, none] [] h (fL_X8_pairs_20 n x1 x2 x3 x4 h) := by
  intro n
  induction n with
  | zero =>
    intro x1 x2 x3 x4 h
    exact Aw.none
  | succ n ih =>
    intro x1 x2 x3 x4 h
    show Aw _ _ _ _ _ _ _ _ _ (fL_X8_pairs_20 (n + 1) x1 x2 x3 x4 h)
    unfold fL_X8_pairs_20
    refine A_iload (pc := 20) (i := 4) dX8_pairs_20 rfl ?_
    refine A_aload_n (pc := 22) (i := 0) dX8_pairs_22 rfl rfl ?_
    refine A_getS (pc := 23) (k := 17) (tp := 43) clX8 (Nat.le_of_ble_eq_true rfl) dX8_pairs_23 kF_X8_50 rfl rfl rfl ?_
    refine A_iload_n (pc := 26) (i := 1) dX8_pairs_26 rfl rfl ?_
    refine A_iaload (pc := 27) (n := 4) (by decide) (by decide) rfl dX8_pairs_27 (by decide) ?_
    refine A_icmp_ge (pc := 28) (tgt := 133) dX8_pairs_28 (by decide) ?_ ?_
    · refine A_iload_n (pc := 133) (i := 3) dX8_pairs_133 rfl rfl ?_
      exact A_retI rfl dX8_pairs_134
    · refine A_iconst (pc := 31) (v := (0 : Int32)) dX8_pairs_31 (by decide) ?_
      refine A_istore (pc := 32) (i := 5) (ls2 := [some (vr 8 (some 0)), some (vi x1), some (vi x2), some (vi x3), some (vi x4), some (vi (0 : Int32)), none, none, none]) dX8_pairs_32 (Nat.le_of_ble_eq_true rfl) rfl ?_
      exact Aw.weak (ls' := [some (vr 8 (some 0)), some (vi x1), some (vi x2), some (vi x3), some (vi x4), some (vi (0 : Int32)), none, none, none]) ⟨rfl, ⟨rfl, ⟨rfl, ⟨rfl, ⟨rfl, ⟨rfl, trivial⟩⟩⟩⟩⟩⟩ (aL_X8_pairs_34 (fL_X8_pairs_20 n) ih FU x1 x2 x3 x4 (0 : Int32) h)
def f_X8_pairs (x1 : Int32) (x2 : Int32) (h : Hp) : Option (Int32 × Hp) := ((f_X8_isBerth x1 h).bind fun r1 => (if r1 = true then (fL_X8_pairs_20 FU x1 x2 (0 : Int32) (0 : Int32) h) else ((f_X8_finding (-1000001 : Int32) h).bind fun r3 => (some (r3.1, r3.2)))))
set_option maxRecDepth 100000 in
set_option maxHeartbeats 4000000 in
theorem a_X8_pairs (x1 : Int32) (x2 : Int32) (h : Hp) : CtA eI mX8_pairs U0 U0 [vr 8 (some 0), vi x1, vi x2] h (f_X8_pairs x1 x2 h) := by
  refine Ct.of (ls := [some (vr 8 (some 0)), some (vi x1), some (vi x2), none, none, none, none, none, none]) (n := 6) (by decide +kernel) rfl rfl rfl ?_
  unfold f_X8_pairs
  refine A_aload_n (pc := 0) (i := 0) dX8_pairs_0 rfl rfl ?_
  refine A_iload_n (pc := 1) (i := 1) dX8_pairs_1 rfl rfl ?_
  refine A_callV (pc := 2) (M' := mX8_isBerth) (As := [vi x1]) (st := []) (0, 0) (fun r1 => [vi (bi r1)]) (fun _ => h) (a_X8_isBerth x1 h) kD_X8_isBerth kM_X8_149 kI_X8_isBerth kS_X8_isBerth kN_X8 ⟨(Nat.le_of_ble_eq_true rfl), (Nat.le_of_ble_eq_true rfl)⟩ dX8_pairs_2 rfl rfl rfl (by decide) rfl (Nat.le_of_ble_eq_true rfl) (Nat.le_of_ble_eq_true rfl) (Nat.le_of_ble_eq_true rfl) (fun _ => rfl) (fun _ => rfl) (fun r1 => ?_)
  refine A_ifb_ne (pc := 5) (tgt := 15) dX8_pairs_5 (by decide) ?_ ?_
  · refine A_iconst (pc := 15) (v := (0 : Int32)) dX8_pairs_15 (by decide) ?_
    refine A_istore_n (pc := 16) (i := 3) (ls2 := [some (vr 8 (some 0)), some (vi x1), some (vi x2), some (vi (0 : Int32)), none, none, none, none, none]) dX8_pairs_16 rfl (Nat.le_of_ble_eq_true rfl) rfl ?_
    refine A_iconst (pc := 17) (v := (0 : Int32)) dX8_pairs_17 (by decide) ?_
    refine A_istore (pc := 18) (i := 4) (ls2 := [some (vr 8 (some 0)), some (vi x1), some (vi x2), some (vi (0 : Int32)), some (vi (0 : Int32)), none, none, none, none]) dX8_pairs_18 (Nat.le_of_ble_eq_true rfl) rfl ?_
    exact Aw.weak (ls' := [some (vr 8 (some 0)), some (vi x1), some (vi x2), some (vi (0 : Int32)), some (vi (0 : Int32)), none, none, none, none]) ⟨rfl, ⟨rfl, ⟨rfl, ⟨rfl, ⟨rfl, trivial⟩⟩⟩⟩⟩ (aL_X8_pairs_20 FU x1 x2 (0 : Int32) (0 : Int32) h)
  · refine A_aload_n (pc := 8) (i := 0) dX8_pairs_8 rfl rfl ?_
    refine A_ldc (pc := 9) (v := (-1000001 : Int32)) dX8_pairs_9 kK_X8_125 ?_
    refine A_callV (pc := 11) (M' := mX8_finding) (As := [vi (-1000001 : Int32)]) (st := []) (0, 0) (fun r3 => [vi r3.1]) (fun r3 => r3.2) (a_X8_finding (-1000001 : Int32) h) kD_X8_finding kM_X8_126 kI_X8_finding kS_X8_finding kN_X8 ⟨(Nat.le_of_ble_eq_true rfl), (Nat.le_of_ble_eq_true rfl)⟩ dX8_pairs_11 rfl rfl rfl (by decide) rfl (Nat.le_of_ble_eq_true rfl) (Nat.le_of_ble_eq_true rfl) (Nat.le_of_ble_eq_true rfl) (fun _ => rfl) (fun _ => rfl) (fun r3 => ?_)
    exact A_retI rfl dX8_pairs_14

abbrev mX8_offer : MD := (yX8_offer, cX8_offer, 7, (some .int), { frames := 3, cells := 0, slots := 0, locals := 68 }, none)
theorem kD_X8_offer : CodeIn mX8_offer 1 := ⟨kC_X8_offer, by decide +kernel⟩
def fJ_X8_offer_121 (c37 : Int32 → Int32 → Int32 → Int32 → Hp → Option (Int32 × Hp)) (x1 : Int32) (x4 : Int32) (x5 : Int32) (h : Hp) : Option (Int32 × Hp) := (c37 x1 x4 x5 (x4 + 1) h)
set_option maxRecDepth 100000 in
set_option maxHeartbeats 4000000 in
theorem aJ_X8_offer_121 (c37 : Int32 → Int32 → Int32 → Int32 → Hp → Option (Int32 × Hp)) (hc37 : ∀ (x1 : Int32) (x2 : Int32) (x3 : Int32) (x4 : Int32) (h : Hp), Aw eI U0 mX8_offer (0, 0) U0 37 [some (vr 8 (some 0)), some (vi x1), some (vi x2), some (vi x3), some (vi x4), none, none] [] h (c37 x1 x2 x3 x4 h)) (x1 : Int32) (x4 : Int32) (x5 : Int32) (h : Hp) : Aw eI U0 mX8_offer (0, 0) U0 121 [some (vr 8 (some 0)), some (vi x1), none, none, some (vi x4), some (vi x5), none] [] h (fJ_X8_offer_121 c37 x1 x4 x5 h) := by
  unfold fJ_X8_offer_121
  refine A_iload (pc := 121) (i := 4) dX8_offer_121 rfl ?_
  refine A_istore_n (pc := 123) (i := 2) (ls2 := [some (vr 8 (some 0)), some (vi x1), some (vi x4), none, some (vi x4), some (vi x5), none]) dX8_offer_123 rfl (Nat.le_of_ble_eq_true rfl) rfl ?_
  refine A_iload (pc := 124) (i := 5) dX8_offer_124 rfl ?_
  refine A_istore_n (pc := 126) (i := 3) (ls2 := [some (vr 8 (some 0)), some (vi x1), some (vi x4), some (vi x5), some (vi x4), some (vi x5), none]) dX8_offer_126 rfl (Nat.le_of_ble_eq_true rfl) rfl ?_
  refine A_iinc (pc := 127) (i := 4) (v := (x4 + 1)) (ls2 := [some (vr 8 (some 0)), some (vi x1), some (vi x4), some (vi x5), some (vi (x4 + 1)), some (vi x5), none]) dX8_offer_127 rfl rfl (Nat.le_of_ble_eq_true rfl) rfl ?_
  refine A_goto (pc := 130) (tgt := 37) dX8_offer_130 (by decide) ?_
  exact Aw.weak (ls' := [some (vr 8 (some 0)), some (vi x1), some (vi x4), some (vi x5), some (vi (x4 + 1)), none, none]) ⟨rfl, ⟨rfl, ⟨rfl, ⟨rfl, ⟨rfl, trivial⟩⟩⟩⟩⟩ (hc37 x1 x4 x5 (x4 + 1) h)
def fL_X8_offer_52 (c37 : Int32 → Int32 → Int32 → Int32 → Hp → Option (Int32 × Hp)) : Nat → Int32 → Int32 → Int32 → Int32 → Int32 → Int32 → Hp → Option (Int32 × Hp)
  | 0, _, _, _, _, _, _, _ => none
  | n + 1, x1, x2, x3, x4, x5, x6, h => (if 0 ≤ x4 ∧ x4 < 4 then (if (gI h 43 0 (Int32.toNatClampNeg x4)) ≤ x6 then ((f_X8_whyNotOutside x1 x4 h).bind fun r4 => (if r4 = 0 then (if x2 < 0 then (fJ_X8_offer_121 c37 x1 x4 x5 h) else (if x3 ≤ x5 then (c37 x1 x2 x3 (x4 + 1) h) else (fJ_X8_offer_121 c37 x1 x4 x5 h))) else (c37 x1 x2 x3 (x4 + 1) h))) else (if 0 ≤ (((6 : Int32) * x4) + x6) ∧ (((6 : Int32) * x4) + x6) < 24 then ((f_X8_movesMaybe (gI h 44 0 (Int32.toNatClampNeg (((6 : Int32) * x4) + x6))) x1 h).bind fun r5 => (if r5 = true then ((fL_X8_offer_52 c37 n) x1 x2 x3 x4 (x5 + (1 : Int32)) (x6 + 1) h) else ((fL_X8_offer_52 c37 n) x1 x2 x3 x4 (x5 + (0 : Int32)) (x6 + 1) h))) else none)) else none)
set_option maxRecDepth 100000 in
set_option maxHeartbeats 4000000 in
theorem aL_X8_offer_52 (c37 : Int32 → Int32 → Int32 → Int32 → Hp → Option (Int32 × Hp)) (hc37 : ∀ (x1 : Int32) (x2 : Int32) (x3 : Int32) (x4 : Int32) (h : Hp), Aw eI U0 mX8_offer (0, 0) U0 37 [some (vr 8 (some 0)), some (vi x1), some (vi x2), some (vi x3), some (vi x4), none, none] [] h (c37 x1 x2 x3 x4 h)) : ∀ (n : Nat) (x1 : Int32) (x2 : Int32) (x3 : Int32) (x4 : Int32) (x5 : Int32) (x6 : Int32) (h : Hp), Aw eI U0 mX8_offer (0, 0) U0 52 [some (vr 8 (some 0)), some (vi x1), some (vi x2), some (vi x3), some (vi x4), some (vi x5), some (vi x6)] [] h (fL_X8_offer_52 c37 n x1 x2 x3 x4 x5 x6 h) := by
  intro n
  induction n with
  | zero =>
    intro x1 x2 x3 x4 x5 x6 h
    exact Aw.none
  | succ n ih =>
    intro x1 x2 x3 x4 x5 x6 h
    show Aw _ _ _ _ _ _ _ _ _ (fL_X8_offer_52 c37 (n + 1) x1 x2 x3 x4 x5 x6 h)
    unfold fL_X8_offer_52
    refine A_iload (pc := 52) (i := 6) dX8_offer_52 rfl ?_
    refine A_aload_n (pc := 54) (i := 0) dX8_offer_54 rfl rfl ?_
    refine A_getS (pc := 55) (k := 17) (tp := 43) clX8 (Nat.le_of_ble_eq_true rfl) dX8_offer_55 kF_X8_50 rfl rfl rfl ?_
    refine A_iload (pc := 58) (i := 4) dX8_offer_58 rfl ?_
    refine A_iaload (pc := 60) (n := 4) (by decide) (by decide) rfl dX8_offer_60 (by decide) ?_
    refine A_icmp_ge (pc := 61) (tgt := 101) dX8_offer_61 (by decide) ?_ ?_
    · refine A_aload_n (pc := 101) (i := 0) dX8_offer_101 rfl rfl ?_
      refine A_iload_n (pc := 102) (i := 1) dX8_offer_102 rfl rfl ?_
      refine A_iload (pc := 103) (i := 4) dX8_offer_103 rfl ?_
      refine A_callV (pc := 105) (M' := mX8_whyNotOutside) (As := [vi x1, vi x4]) (st := []) (0, 0) (fun r4 => [vi r4]) (fun _ => h) (a_X8_whyNotOutside x1 x4 h) kD_X8_whyNotOutside kM_X8_161 kI_X8_whyNotOutside kS_X8_whyNotOutside kN_X8 ⟨(Nat.le_of_ble_eq_true rfl), (Nat.le_of_ble_eq_true rfl)⟩ dX8_offer_105 rfl rfl rfl (by decide) rfl (Nat.le_of_ble_eq_true rfl) (Nat.le_of_ble_eq_true rfl) (Nat.le_of_ble_eq_true rfl) (fun _ => rfl) (fun _ => rfl) (fun r4 => ?_)
      refine A_if_ne (pc := 108) (tgt := 127) dX8_offer_108 (by decide) ?_ ?_
      · refine A_iinc (pc := 127) (i := 4) (v := (x4 + 1)) (ls2 := [some (vr 8 (some 0)), some (vi x1), some (vi x2), some (vi x3), some (vi (x4 + 1)), some (vi x5), some (vi x6)]) dX8_offer_127 rfl rfl (Nat.le_of_ble_eq_true rfl) rfl ?_
        refine A_goto (pc := 130) (tgt := 37) dX8_offer_130 (by decide) ?_
        exact Aw.weak (ls' := [some (vr 8 (some 0)), some (vi x1), some (vi x2), some (vi x3), some (vi (x4 + 1)), none, none]) ⟨rfl, ⟨rfl, ⟨rfl, ⟨rfl, ⟨rfl, trivial⟩⟩⟩⟩⟩ (hc37 x1 x2 x3 (x4 + 1) h)
      · refine A_iload_n (pc := 111) (i := 2) dX8_offer_111 rfl rfl ?_
        refine A_if_lt (pc := 112) (tgt := 121) dX8_offer_112 (by decide) ?_ ?_
        · exact Aw.weak (ls' := [some (vr 8 (some 0)), some (vi x1), none, none, some (vi x4), some (vi x5), none]) ⟨rfl, ⟨rfl, ⟨rfl, ⟨rfl, trivial⟩⟩⟩⟩ (aJ_X8_offer_121 c37 hc37 x1 x4 x5 h)
        · refine A_iload (pc := 115) (i := 5) dX8_offer_115 rfl ?_
          refine A_iload_n (pc := 117) (i := 3) dX8_offer_117 rfl rfl ?_
          refine A_icmp_ge (pc := 118) (tgt := 127) dX8_offer_118 (by decide) ?_ ?_
          · refine A_iinc (pc := 127) (i := 4) (v := (x4 + 1)) (ls2 := [some (vr 8 (some 0)), some (vi x1), some (vi x2), some (vi x3), some (vi (x4 + 1)), some (vi x5), some (vi x6)]) dX8_offer_127 rfl rfl (Nat.le_of_ble_eq_true rfl) rfl ?_
            refine A_goto (pc := 130) (tgt := 37) dX8_offer_130 (by decide) ?_
            exact Aw.weak (ls' := [some (vr 8 (some 0)), some (vi x1), some (vi x2), some (vi x3), some (vi (x4 + 1)), none, none]) ⟨rfl, ⟨rfl, ⟨rfl, ⟨rfl, ⟨rfl, trivial⟩⟩⟩⟩⟩ (hc37 x1 x2 x3 (x4 + 1) h)
          · exact Aw.weak (ls' := [some (vr 8 (some 0)), some (vi x1), none, none, some (vi x4), some (vi x5), none]) ⟨rfl, ⟨rfl, ⟨rfl, ⟨rfl, trivial⟩⟩⟩⟩ (aJ_X8_offer_121 c37 hc37 x1 x4 x5 h)
    · refine A_iload (pc := 64) (i := 5) dX8_offer_64 rfl ?_
      refine A_aload_n (pc := 66) (i := 0) dX8_offer_66 rfl rfl ?_
      refine A_aload_n (pc := 67) (i := 0) dX8_offer_67 rfl rfl ?_
      refine A_getS (pc := 68) (k := 18) (tp := 44) clX8 (Nat.le_of_ble_eq_true rfl) dX8_offer_68 kF_X8_53 rfl rfl rfl ?_
      refine A_bipush (pc := 71) (v := (6 : Int32)) dX8_offer_71 (by decide) ?_
      refine A_iload (pc := 73) (i := 4) dX8_offer_73 rfl ?_
      refine A_imul (pc := 75) dX8_offer_75 ?_
      refine A_iload (pc := 76) (i := 6) dX8_offer_76 rfl ?_
      refine A_iadd (pc := 78) dX8_offer_78 ?_
      refine A_iaload (pc := 79) (n := 24) (by decide) (by decide) rfl dX8_offer_79 (by decide) ?_
      refine A_iload_n (pc := 80) (i := 1) dX8_offer_80 rfl rfl ?_
      refine A_callV (pc := 81) (M' := mX8_movesMaybe) (As := [vi (gI h 44 0 (Int32.toNatClampNeg (((6 : Int32) * x4) + x6))), vi x1]) (st := [vi x5]) (0, 0) (fun r5 => [vi (bi r5), vi x5]) (fun _ => h) (a_X8_movesMaybe (gI h 44 0 (Int32.toNatClampNeg (((6 : Int32) * x4) + x6))) x1 h) kD_X8_movesMaybe kM_X8_178 kI_X8_movesMaybe kS_X8_movesMaybe kN_X8 ⟨(Nat.le_of_ble_eq_true rfl), (Nat.le_of_ble_eq_true rfl)⟩ dX8_offer_81 rfl rfl rfl (by decide) rfl (Nat.le_of_ble_eq_true rfl) (Nat.le_of_ble_eq_true rfl) (Nat.le_of_ble_eq_true rfl) (fun _ => rfl) (fun _ => rfl) (fun r5 => ?_)
      refine A_ifb_eq (pc := 84) (tgt := 91) dX8_offer_84 (by decide) ?_ ?_
      · refine A_iconst (pc := 91) (v := (0 : Int32)) dX8_offer_91 (by decide) ?_
        refine A_iadd (pc := 92) dX8_offer_92 ?_
        refine A_istore (pc := 93) (i := 5) (ls2 := [some (vr 8 (some 0)), some (vi x1), some (vi x2), some (vi x3), some (vi x4), some (vi (x5 + (0 : Int32))), some (vi x6)]) dX8_offer_93 (Nat.le_of_ble_eq_true rfl) rfl ?_
        refine A_iinc (pc := 95) (i := 6) (v := (x6 + 1)) (ls2 := [some (vr 8 (some 0)), some (vi x1), some (vi x2), some (vi x3), some (vi x4), some (vi (x5 + (0 : Int32))), some (vi (x6 + 1))]) dX8_offer_95 rfl rfl (Nat.le_of_ble_eq_true rfl) rfl ?_
        refine A_goto (pc := 98) (tgt := 52) dX8_offer_98 (by decide) ?_
        exact Aw.weak (ls' := [some (vr 8 (some 0)), some (vi x1), some (vi x2), some (vi x3), some (vi x4), some (vi (x5 + (0 : Int32))), some (vi (x6 + 1))]) ⟨rfl, ⟨rfl, ⟨rfl, ⟨rfl, ⟨rfl, ⟨rfl, ⟨rfl, trivial⟩⟩⟩⟩⟩⟩⟩ (ih x1 x2 x3 x4 (x5 + (0 : Int32)) (x6 + 1) h)
      · refine A_iconst (pc := 87) (v := (1 : Int32)) dX8_offer_87 (by decide) ?_
        refine A_goto (pc := 88) (tgt := 92) dX8_offer_88 (by decide) ?_
        refine A_iadd (pc := 92) dX8_offer_92 ?_
        refine A_istore (pc := 93) (i := 5) (ls2 := [some (vr 8 (some 0)), some (vi x1), some (vi x2), some (vi x3), some (vi x4), some (vi (x5 + (1 : Int32))), some (vi x6)]) dX8_offer_93 (Nat.le_of_ble_eq_true rfl) rfl ?_
        refine A_iinc (pc := 95) (i := 6) (v := (x6 + 1)) (ls2 := [some (vr 8 (some 0)), some (vi x1), some (vi x2), some (vi x3), some (vi x4), some (vi (x5 + (1 : Int32))), some (vi (x6 + 1))]) dX8_offer_95 rfl rfl (Nat.le_of_ble_eq_true rfl) rfl ?_
        refine A_goto (pc := 98) (tgt := 52) dX8_offer_98 (by decide) ?_
        exact Aw.weak (ls' := [some (vr 8 (some 0)), some (vi x1), some (vi x2), some (vi x3), some (vi x4), some (vi (x5 + (1 : Int32))), some (vi (x6 + 1))]) ⟨rfl, ⟨rfl, ⟨rfl, ⟨rfl, ⟨rfl, ⟨rfl, ⟨rfl, trivial⟩⟩⟩⟩⟩⟩⟩ (ih x1 x2 x3 x4 (x5 + (1 : Int32)) (x6 + 1) h)
def fL_X8_offer_37 : Nat → Int32 → Int32 → Int32 → Int32 → Hp → Option (Int32 × Hp)
  | 0, _, _, _, _, _ => none
  | n + 1, x1, x2, x3, x4, h => (if (gI h 8 0 0) ≤ x4 then (if 0 ≤ x2 then (some (x2, h)) else ((f_X8_finding (-1000004 : Int32) h).bind fun r3 => (some (r3.1, r3.2)))) else (fL_X8_offer_52 (fL_X8_offer_37 n) FU x1 x2 x3 x4 (0 : Int32) (0 : Int32) h))
set_option maxRecDepth 100000 in
set_option maxHeartbeats 4000000 in
theorem aL_X8_offer_37 : ∀ (n : Nat) (x1 : Int32) (x2 : Int32) (x3 : Int32) (x4 : Int32) (h : Hp), Aw eI U0 mX8_offer (0, 0) U0 37 [some (vr 8 (some 0)), some (vi x1), some (vi x2), some (vi x3), some (vi x4), none, none] [] h (fL_X8_offer_37 n x1 x2 x3 x4 h) := by
  intro n
  induction n with
  | zero =>
    intro x1 x2 x3 x4 h
    exact Aw.none
  | succ n ih =>
    intro x1 x2 x3 x4 h
    show Aw _ _ _ _ _ _ _ _ _ (fL_X8_offer_37 (n + 1) x1 x2 x3 x4 h)
    unfold fL_X8_offer_37
    refine A_iload (pc := 37) (i := 4) dX8_offer_37 rfl ?_
    refine A_aload_n (pc := 39) (i := 0) dX8_offer_39 rfl rfl ?_
    refine A_getI (pc := 40) (k := 0) clX8 (Nat.le_of_ble_eq_true rfl) dX8_offer_40 kF_X8_115 rfl ?_
    refine A_icmp_ge (pc := 43) (tgt := 133) dX8_offer_43 (by decide) ?_ ?_
    · refine A_iload_n (pc := 133) (i := 2) dX8_offer_133 rfl rfl ?_
      refine A_if_ge (pc := 134) (tgt := 146) dX8_offer_134 (by decide) ?_ ?_
      · refine A_iload_n (pc := 146) (i := 2) dX8_offer_146 rfl rfl ?_
        exact A_retI rfl dX8_offer_147
      · refine A_aload_n (pc := 137) (i := 0) dX8_offer_137 rfl rfl ?_
        refine A_ldc (pc := 138) (v := (-1000004 : Int32)) dX8_offer_138 kK_X8_181 ?_
        refine A_callV (pc := 140) (M' := mX8_finding) (As := [vi (-1000004 : Int32)]) (st := []) (0, 0) (fun r3 => [vi r3.1]) (fun r3 => r3.2) (a_X8_finding (-1000004 : Int32) h) kD_X8_finding kM_X8_126 kI_X8_finding kS_X8_finding kN_X8 ⟨(Nat.le_of_ble_eq_true rfl), (Nat.le_of_ble_eq_true rfl)⟩ dX8_offer_140 rfl rfl rfl (by decide) rfl (Nat.le_of_ble_eq_true rfl) (Nat.le_of_ble_eq_true rfl) (Nat.le_of_ble_eq_true rfl) (fun _ => rfl) (fun _ => rfl) (fun r3 => ?_)
        refine A_goto (pc := 143) (tgt := 147) dX8_offer_143 (by decide) ?_
        exact A_retI rfl dX8_offer_147
    · refine A_iconst (pc := 46) (v := (0 : Int32)) dX8_offer_46 (by decide) ?_
      refine A_istore (pc := 47) (i := 5) (ls2 := [some (vr 8 (some 0)), some (vi x1), some (vi x2), some (vi x3), some (vi x4), some (vi (0 : Int32)), none]) dX8_offer_47 (Nat.le_of_ble_eq_true rfl) rfl ?_
      refine A_iconst (pc := 49) (v := (0 : Int32)) dX8_offer_49 (by decide) ?_
      refine A_istore (pc := 50) (i := 6) (ls2 := [some (vr 8 (some 0)), some (vi x1), some (vi x2), some (vi x3), some (vi x4), some (vi (0 : Int32)), some (vi (0 : Int32))]) dX8_offer_50 (Nat.le_of_ble_eq_true rfl) rfl ?_
      exact Aw.weak (ls' := [some (vr 8 (some 0)), some (vi x1), some (vi x2), some (vi x3), some (vi x4), some (vi (0 : Int32)), some (vi (0 : Int32))]) ⟨rfl, ⟨rfl, ⟨rfl, ⟨rfl, ⟨rfl, ⟨rfl, ⟨rfl, trivial⟩⟩⟩⟩⟩⟩⟩ (aL_X8_offer_52 (fL_X8_offer_37 n) ih FU x1 x2 x3 x4 (0 : Int32) (0 : Int32) h)
def f_X8_offer (x1 : Int32) (h : Hp) : Option (Int32 × Hp) := ((f_X8_isBoat x1 h).bind fun r1 => (if r1 = true then ((f_X8_spotOf x1 h).bind fun r2 => (if r2 < 0 then (fL_X8_offer_37 FU x1 (-1 : Int32) (0 : Int32) (0 : Int32) h) else ((f_X8_finding (-1000005 : Int32) h).bind fun r6 => (some (r6.1, r6.2))))) else ((f_X8_finding (-1000001 : Int32) h).bind fun r7 => (some (r7.1, r7.2)))))
set_option maxRecDepth 100000 in
set_option maxHeartbeats 4000000 in
theorem a_X8_offer (x1 : Int32) (h : Hp) : CtA eI mX8_offer U0 U0 [vr 8 (some 0), vi x1] h (f_X8_offer x1 h) := by
  refine Ct.of (ls := [some (vr 8 (some 0)), some (vi x1), none, none, none, none, none]) (n := 5) (by decide +kernel) rfl rfl rfl ?_
  unfold f_X8_offer
  refine A_aload_n (pc := 0) (i := 0) dX8_offer_0 rfl rfl ?_
  refine A_iload_n (pc := 1) (i := 1) dX8_offer_1 rfl rfl ?_
  refine A_callV (pc := 2) (M' := mX8_isBoat) (As := [vi x1]) (st := []) (0, 0) (fun r1 => [vi (bi r1)]) (fun _ => h) (a_X8_isBoat x1 h) kD_X8_isBoat kM_X8_131 kI_X8_isBoat kS_X8_isBoat kN_X8 ⟨(Nat.le_of_ble_eq_true rfl), (Nat.le_of_ble_eq_true rfl)⟩ dX8_offer_2 rfl rfl rfl (by decide) rfl (Nat.le_of_ble_eq_true rfl) (Nat.le_of_ble_eq_true rfl) (Nat.le_of_ble_eq_true rfl) (fun _ => rfl) (fun _ => rfl) (fun r1 => ?_)
  refine A_ifb_ne (pc := 5) (tgt := 15) dX8_offer_5 (by decide) ?_ ?_
  · refine A_aload_n (pc := 15) (i := 0) dX8_offer_15 rfl rfl ?_
    refine A_iload_n (pc := 16) (i := 1) dX8_offer_16 rfl rfl ?_
    refine A_callV (pc := 17) (M' := mX8_spotOf) (As := [vi x1]) (st := []) (0, 0) (fun r2 => [vi r2]) (fun _ => h) (a_X8_spotOf x1 h) kD_X8_spotOf kM_X8_146 kI_X8_spotOf kS_X8_spotOf kN_X8 ⟨(Nat.le_of_ble_eq_true rfl), (Nat.le_of_ble_eq_true rfl)⟩ dX8_offer_17 rfl rfl rfl (by decide) rfl (Nat.le_of_ble_eq_true rfl) (Nat.le_of_ble_eq_true rfl) (Nat.le_of_ble_eq_true rfl) (fun _ => rfl) (fun _ => rfl) (fun r2 => ?_)
    refine A_if_lt (pc := 20) (tgt := 30) dX8_offer_20 (by decide) ?_ ?_
    · refine A_iconst (pc := 30) (v := (-1 : Int32)) dX8_offer_30 (by decide) ?_
      refine A_istore_n (pc := 31) (i := 2) (ls2 := [some (vr 8 (some 0)), some (vi x1), some (vi (-1 : Int32)), none, none, none, none]) dX8_offer_31 rfl (Nat.le_of_ble_eq_true rfl) rfl ?_
      refine A_iconst (pc := 32) (v := (0 : Int32)) dX8_offer_32 (by decide) ?_
      refine A_istore_n (pc := 33) (i := 3) (ls2 := [some (vr 8 (some 0)), some (vi x1), some (vi (-1 : Int32)), some (vi (0 : Int32)), none, none, none]) dX8_offer_33 rfl (Nat.le_of_ble_eq_true rfl) rfl ?_
      refine A_iconst (pc := 34) (v := (0 : Int32)) dX8_offer_34 (by decide) ?_
      refine A_istore (pc := 35) (i := 4) (ls2 := [some (vr 8 (some 0)), some (vi x1), some (vi (-1 : Int32)), some (vi (0 : Int32)), some (vi (0 : Int32)), none, none]) dX8_offer_35 (Nat.le_of_ble_eq_true rfl) rfl ?_
      exact Aw.weak (ls' := [some (vr 8 (some 0)), some (vi x1), some (vi (-1 : Int32)), some (vi (0 : Int32)), some (vi (0 : Int32)), none, none]) ⟨rfl, ⟨rfl, ⟨rfl, ⟨rfl, ⟨rfl, trivial⟩⟩⟩⟩⟩ (aL_X8_offer_37 FU x1 (-1 : Int32) (0 : Int32) (0 : Int32) h)
    · refine A_aload_n (pc := 23) (i := 0) dX8_offer_23 rfl rfl ?_
      refine A_ldc (pc := 24) (v := (-1000005 : Int32)) dX8_offer_24 kK_X8_160 ?_
      refine A_callV (pc := 26) (M' := mX8_finding) (As := [vi (-1000005 : Int32)]) (st := []) (0, 0) (fun r6 => [vi r6.1]) (fun r6 => r6.2) (a_X8_finding (-1000005 : Int32) h) kD_X8_finding kM_X8_126 kI_X8_finding kS_X8_finding kN_X8 ⟨(Nat.le_of_ble_eq_true rfl), (Nat.le_of_ble_eq_true rfl)⟩ dX8_offer_26 rfl rfl rfl (by decide) rfl (Nat.le_of_ble_eq_true rfl) (Nat.le_of_ble_eq_true rfl) (Nat.le_of_ble_eq_true rfl) (fun _ => rfl) (fun _ => rfl) (fun r6 => ?_)
      exact A_retI rfl dX8_offer_29
  · refine A_aload_n (pc := 8) (i := 0) dX8_offer_8 rfl rfl ?_
    refine A_ldc (pc := 9) (v := (-1000001 : Int32)) dX8_offer_9 kK_X8_125 ?_
    refine A_callV (pc := 11) (M' := mX8_finding) (As := [vi (-1000001 : Int32)]) (st := []) (0, 0) (fun r7 => [vi r7.1]) (fun r7 => r7.2) (a_X8_finding (-1000001 : Int32) h) kD_X8_finding kM_X8_126 kI_X8_finding kS_X8_finding kN_X8 ⟨(Nat.le_of_ble_eq_true rfl), (Nat.le_of_ble_eq_true rfl)⟩ dX8_offer_11 rfl rfl rfl (by decide) rfl (Nat.le_of_ble_eq_true rfl) (Nat.le_of_ble_eq_true rfl) (Nat.le_of_ble_eq_true rfl) (fun _ => rfl) (fun _ => rfl) (fun r7 => ?_)
    exact A_retI rfl dX8_offer_14

abbrev mX8_pairsWith : MD := (yX8_pairsWith, cX8_pairsWith, 8, (some .int), { frames := 2, cells := 0, slots := 0, locals := 46 }, none)
theorem kD_X8_pairsWith : CodeIn mX8_pairsWith 2 := ⟨kC_X8_pairsWith, by decide +kernel⟩
def fL_X8_pairsWith_65 (h : Hp) : Nat → Int32 → Int32 → Int32 → Int32 → Int32 → Option Int32
  | 0, _, _, _, _, _ => none
  | n + 1, x1, x2, x4, x6, x7 => (if x4 < x7 then (some x6) else (if 0 ≤ (x1 - x7) ∧ (x1 - x7) < 10 then (if 0 ≤ (gI h 53 0 (Int32.toNatClampNeg (x1 - x7))) ∧ (gI h 53 0 (Int32.toNatClampNeg (x1 - x7))) < 6 then (if 0 ≤ x2 ∧ x2 < 6 then ((f_X8_movesMaybe (gI h 52 0 (Int32.toNatClampNeg (gI h 53 0 (Int32.toNatClampNeg (x1 - x7))))) (gI h 52 0 (Int32.toNatClampNeg x2)) h).bind fun r2 => (if r2 = true then ((fL_X8_pairsWith_65 h n) x1 x2 x4 (x6 + (1 : Int32)) (x7 + 1)) else ((fL_X8_pairsWith_65 h n) x1 x2 x4 (x6 + (0 : Int32)) (x7 + 1)))) else none) else none) else none))
set_option maxRecDepth 100000 in
set_option maxHeartbeats 4000000 in
theorem aL_X8_pairsWith_65 (h : Hp) : ∀ (n : Nat) (x1 : Int32) (x2 : Int32) (x4 : Int32) (x6 : Int32) (x7 : Int32), Aw (eIr h) U0 mX8_pairsWith (0, 0) U0 65 [some (vr 8 (some 0)), some (vi x1), some (vi x2), none, some (vi x4), none, some (vi x6), some (vi x7)] [] h (fL_X8_pairsWith_65 h n x1 x2 x4 x6 x7) := by
  intro n
  induction n with
  | zero =>
    intro x1 x2 x4 x6 x7
    exact Aw.none
  | succ n ih =>
    intro x1 x2 x4 x6 x7
    show Aw _ _ _ _ _ _ _ _ _ (fL_X8_pairsWith_65 h (n + 1) x1 x2 x4 x6 x7)
    unfold fL_X8_pairsWith_65
    refine A_iload (pc := 65) (i := 7) dX8_pairsWith_65 rfl ?_
    refine A_iload (pc := 67) (i := 4) dX8_pairsWith_67 rfl ?_
    refine A_icmp_gt (pc := 69) (tgt := 115) dX8_pairsWith_69 (by decide) ?_ ?_
    · refine A_iload (pc := 115) (i := 6) dX8_pairsWith_115 rfl ?_
      exact A_retIr rfl dX8_pairsWith_117
    · refine A_iload (pc := 72) (i := 6) dX8_pairsWith_72 rfl ?_
      refine A_aload_n (pc := 74) (i := 0) dX8_pairsWith_74 rfl rfl ?_
      refine A_aload_n (pc := 75) (i := 0) dX8_pairsWith_75 rfl rfl ?_
      refine A_getS (pc := 76) (k := 32) (tp := 52) clX8 (Nat.le_of_ble_eq_true rfl) dX8_pairsWith_76 kF_X8_82 rfl rfl rfl ?_
      refine A_aload_n (pc := 79) (i := 0) dX8_pairsWith_79 rfl rfl ?_
      refine A_getS (pc := 80) (k := 33) (tp := 53) clX8 (Nat.le_of_ble_eq_true rfl) dX8_pairsWith_80 kF_X8_85 rfl rfl rfl ?_
      refine A_iload_n (pc := 83) (i := 1) dX8_pairsWith_83 rfl rfl ?_
      refine A_iload (pc := 84) (i := 7) dX8_pairsWith_84 rfl ?_
      refine A_isub (pc := 86) dX8_pairsWith_86 ?_
      refine A_iaload (pc := 87) (n := 10) (by decide) (by decide) rfl dX8_pairsWith_87 (by decide) ?_
      refine A_iaload (pc := 88) (n := 6) (by decide) (by decide) rfl dX8_pairsWith_88 (by decide) ?_
      refine A_aload_n (pc := 89) (i := 0) dX8_pairsWith_89 rfl rfl ?_
      refine A_getS (pc := 90) (k := 32) (tp := 52) clX8 (Nat.le_of_ble_eq_true rfl) dX8_pairsWith_90 kF_X8_82 rfl rfl rfl ?_
      refine A_iload_n (pc := 93) (i := 2) dX8_pairsWith_93 rfl rfl ?_
      refine A_iaload (pc := 94) (n := 6) (by decide) (by decide) rfl dX8_pairsWith_94 (by decide) ?_
      refine A_callV (pc := 95) (M' := mX8_movesMaybe) (As := [vi (gI h 52 0 (Int32.toNatClampNeg (gI h 53 0 (Int32.toNatClampNeg (x1 - x7))))), vi (gI h 52 0 (Int32.toNatClampNeg x2))]) (st := [vi x6]) (0, 0) (fun r2 => [vi (bi r2), vi x6]) (fun _ => h) (a_X8_movesMaybe (gI h 52 0 (Int32.toNatClampNeg (gI h 53 0 (Int32.toNatClampNeg (x1 - x7))))) (gI h 52 0 (Int32.toNatClampNeg x2)) h) kD_X8_movesMaybe kM_X8_178 kI_X8_movesMaybe kS_X8_movesMaybe kN_X8 ⟨(Nat.le_of_ble_eq_true rfl), (Nat.le_of_ble_eq_true rfl)⟩ dX8_pairsWith_95 rfl rfl rfl (by decide) rfl (Nat.le_of_ble_eq_true rfl) (Nat.le_of_ble_eq_true rfl) (Nat.le_of_ble_eq_true rfl) (fun _ => rfl) (fun _ => rfl) (fun r2 => ?_)
      refine A_ifb_eq (pc := 98) (tgt := 105) dX8_pairsWith_98 (by decide) ?_ ?_
      · refine A_iconst (pc := 105) (v := (0 : Int32)) dX8_pairsWith_105 (by decide) ?_
        refine A_iadd (pc := 106) dX8_pairsWith_106 ?_
        refine A_istore (pc := 107) (i := 6) (ls2 := [some (vr 8 (some 0)), some (vi x1), some (vi x2), none, some (vi x4), none, some (vi (x6 + (0 : Int32))), some (vi x7)]) dX8_pairsWith_107 (Nat.le_of_ble_eq_true rfl) rfl ?_
        refine A_iinc (pc := 109) (i := 7) (v := (x7 + 1)) (ls2 := [some (vr 8 (some 0)), some (vi x1), some (vi x2), none, some (vi x4), none, some (vi (x6 + (0 : Int32))), some (vi (x7 + 1))]) dX8_pairsWith_109 rfl rfl (Nat.le_of_ble_eq_true rfl) rfl ?_
        refine A_goto (pc := 112) (tgt := 65) dX8_pairsWith_112 (by decide) ?_
        exact Aw.weak (ls' := [some (vr 8 (some 0)), some (vi x1), some (vi x2), none, some (vi x4), none, some (vi (x6 + (0 : Int32))), some (vi (x7 + 1))]) ⟨rfl, ⟨rfl, ⟨rfl, ⟨rfl, ⟨rfl, ⟨rfl, trivial⟩⟩⟩⟩⟩⟩ (ih x1 x2 x4 (x6 + (0 : Int32)) (x7 + 1))
      · refine A_iconst (pc := 101) (v := (1 : Int32)) dX8_pairsWith_101 (by decide) ?_
        refine A_goto (pc := 102) (tgt := 106) dX8_pairsWith_102 (by decide) ?_
        refine A_iadd (pc := 106) dX8_pairsWith_106 ?_
        refine A_istore (pc := 107) (i := 6) (ls2 := [some (vr 8 (some 0)), some (vi x1), some (vi x2), none, some (vi x4), none, some (vi (x6 + (1 : Int32))), some (vi x7)]) dX8_pairsWith_107 (Nat.le_of_ble_eq_true rfl) rfl ?_
        refine A_iinc (pc := 109) (i := 7) (v := (x7 + 1)) (ls2 := [some (vr 8 (some 0)), some (vi x1), some (vi x2), none, some (vi x4), none, some (vi (x6 + (1 : Int32))), some (vi (x7 + 1))]) dX8_pairsWith_109 rfl rfl (Nat.le_of_ble_eq_true rfl) rfl ?_
        refine A_goto (pc := 112) (tgt := 65) dX8_pairsWith_112 (by decide) ?_
        exact Aw.weak (ls' := [some (vr 8 (some 0)), some (vi x1), some (vi x2), none, some (vi x4), none, some (vi (x6 + (1 : Int32))), some (vi (x7 + 1))]) ⟨rfl, ⟨rfl, ⟨rfl, ⟨rfl, ⟨rfl, ⟨rfl, trivial⟩⟩⟩⟩⟩⟩ (ih x1 x2 x4 (x6 + (1 : Int32)) (x7 + 1))
def fJ_X8_pairsWith_37 (h : Hp) (x1 : Int32) (x2 : Int32) (x3 : Int32) (x4 : Int32) (xs0 : Int32) : Option Int32 := (if 0 ≤ x2 ∧ x2 < 6 then ((f_X8_whyNot (gI h 52 0 (Int32.toNatClampNeg x2)) x3 x4 xs0 h).bind fun r1 => (if r1 = 0 then (fL_X8_pairsWith_65 h FU x1 x2 x4 (0 : Int32) (1 : Int32)) else (some (-1 : Int32)))) else none)
set_option maxRecDepth 100000 in
set_option maxHeartbeats 4000000 in
theorem aJ_X8_pairsWith_37 (h : Hp) (x1 : Int32) (x2 : Int32) (x3 : Int32) (x4 : Int32) (xs0 : Int32) : Aw (eIr h) U0 mX8_pairsWith (0, 0) U0 37 [some (vr 8 (some 0)), some (vi x1), some (vi x2), some (vi x3), some (vi x4), none, none, none] [vi xs0] h (fJ_X8_pairsWith_37 h x1 x2 x3 x4 xs0) := by
  unfold fJ_X8_pairsWith_37
  refine A_istore (pc := 37) (i := 5) (ls2 := [some (vr 8 (some 0)), some (vi x1), some (vi x2), some (vi x3), some (vi x4), some (vi xs0), none, none]) dX8_pairsWith_37 (Nat.le_of_ble_eq_true rfl) rfl ?_
  refine A_aload_n (pc := 39) (i := 0) dX8_pairsWith_39 rfl rfl ?_
  refine A_aload_n (pc := 40) (i := 0) dX8_pairsWith_40 rfl rfl ?_
  refine A_getS (pc := 41) (k := 32) (tp := 52) clX8 (Nat.le_of_ble_eq_true rfl) dX8_pairsWith_41 kF_X8_82 rfl rfl rfl ?_
  refine A_iload_n (pc := 44) (i := 2) dX8_pairsWith_44 rfl rfl ?_
  refine A_iaload (pc := 45) (n := 6) (by decide) (by decide) rfl dX8_pairsWith_45 (by decide) ?_
  refine A_iload_n (pc := 46) (i := 3) dX8_pairsWith_46 rfl rfl ?_
  refine A_iload (pc := 47) (i := 4) dX8_pairsWith_47 rfl ?_
  refine A_iload (pc := 49) (i := 5) dX8_pairsWith_49 rfl ?_
  refine A_callV (pc := 51) (M' := mX8_whyNot) (As := [vi (gI h 52 0 (Int32.toNatClampNeg x2)), vi x3, vi x4, vi xs0]) (st := []) (0, 0) (fun r1 => [vi r1]) (fun _ => h) (a_X8_whyNot (gI h 52 0 (Int32.toNatClampNeg x2)) x3 x4 xs0 h) kD_X8_whyNot kM_X8_156 kI_X8_whyNot kS_X8_whyNot kN_X8 ⟨(Nat.le_of_ble_eq_true rfl), (Nat.le_of_ble_eq_true rfl)⟩ dX8_pairsWith_51 rfl rfl rfl (by decide) rfl (Nat.le_of_ble_eq_true rfl) (Nat.le_of_ble_eq_true rfl) (Nat.le_of_ble_eq_true rfl) (fun _ => rfl) (fun _ => rfl) (fun r1 => ?_)
  refine A_if_eq (pc := 54) (tgt := 59) dX8_pairsWith_54 (by decide) ?_ ?_
  · refine A_iconst (pc := 59) (v := (0 : Int32)) dX8_pairsWith_59 (by decide) ?_
    refine A_istore (pc := 60) (i := 6) (ls2 := [some (vr 8 (some 0)), some (vi x1), some (vi x2), some (vi x3), some (vi x4), some (vi xs0), some (vi (0 : Int32)), none]) dX8_pairsWith_60 (Nat.le_of_ble_eq_true rfl) rfl ?_
    refine A_iconst (pc := 62) (v := (1 : Int32)) dX8_pairsWith_62 (by decide) ?_
    refine A_istore (pc := 63) (i := 7) (ls2 := [some (vr 8 (some 0)), some (vi x1), some (vi x2), some (vi x3), some (vi x4), some (vi xs0), some (vi (0 : Int32)), some (vi (1 : Int32))]) dX8_pairsWith_63 (Nat.le_of_ble_eq_true rfl) rfl ?_
    exact Aw.weak (ls' := [some (vr 8 (some 0)), some (vi x1), some (vi x2), none, some (vi x4), none, some (vi (0 : Int32)), some (vi (1 : Int32))]) ⟨rfl, ⟨rfl, ⟨rfl, ⟨rfl, ⟨rfl, ⟨rfl, trivial⟩⟩⟩⟩⟩⟩ (aL_X8_pairsWith_65 h FU x1 x2 x4 (0 : Int32) (1 : Int32))
  · refine A_iconst (pc := 57) (v := (-1 : Int32)) dX8_pairsWith_57 (by decide) ?_
    exact A_retIr rfl dX8_pairsWith_58
def f_X8_pairsWith (x1 : Int32) (x2 : Int32) (h : Hp) : Option Int32 := (if 0 ≤ x1 ∧ x1 < 11 then (if 0 ≤ x1 ∧ x1 < 11 then (if (gI h 55 0 (Int32.toNatClampNeg x1)) = 0 then (fJ_X8_pairsWith_37 h x1 x2 (gI h 54 0 (Int32.toNatClampNeg x1)) (gI h 55 0 (Int32.toNatClampNeg x1)) (-1 : Int32)) else (if 0 ≤ (x1 - (1 : Int32)) ∧ (x1 - (1 : Int32)) < 10 then (if 0 ≤ (gI h 53 0 (Int32.toNatClampNeg (x1 - (1 : Int32)))) ∧ (gI h 53 0 (Int32.toNatClampNeg (x1 - (1 : Int32)))) < 6 then (fJ_X8_pairsWith_37 h x1 x2 (gI h 54 0 (Int32.toNatClampNeg x1)) (gI h 55 0 (Int32.toNatClampNeg x1)) (gI h 52 0 (Int32.toNatClampNeg (gI h 53 0 (Int32.toNatClampNeg (x1 - (1 : Int32))))))) else none) else none)) else none) else none)
set_option maxRecDepth 100000 in
set_option maxHeartbeats 4000000 in
theorem a_X8_pairsWith (x1 : Int32) (x2 : Int32) (h : Hp) : CtA (eIr h) mX8_pairsWith U0 U0 [vr 8 (some 0), vi x1, vi x2] h (f_X8_pairsWith x1 x2 h) := by
  refine Ct.of (ls := [some (vr 8 (some 0)), some (vi x1), some (vi x2), none, none, none, none, none]) (n := 5) (by decide +kernel) rfl rfl rfl ?_
  unfold f_X8_pairsWith
  refine A_aload_n (pc := 0) (i := 0) dX8_pairsWith_0 rfl rfl ?_
  refine A_getS (pc := 1) (k := 34) (tp := 54) clX8 (Nat.le_of_ble_eq_true rfl) dX8_pairsWith_1 kF_X8_88 rfl rfl rfl ?_
  refine A_iload_n (pc := 4) (i := 1) dX8_pairsWith_4 rfl rfl ?_
  refine A_iaload (pc := 5) (n := 11) (by decide) (by decide) rfl dX8_pairsWith_5 (by decide) ?_
  refine A_istore_n (pc := 6) (i := 3) (ls2 := [some (vr 8 (some 0)), some (vi x1), some (vi x2), some (vi (gI h 54 0 (Int32.toNatClampNeg x1))), none, none, none, none]) dX8_pairsWith_6 rfl (Nat.le_of_ble_eq_true rfl) rfl ?_
  refine A_aload_n (pc := 7) (i := 0) dX8_pairsWith_7 rfl rfl ?_
  refine A_getS (pc := 8) (k := 35) (tp := 55) clX8 (Nat.le_of_ble_eq_true rfl) dX8_pairsWith_8 kF_X8_91 rfl rfl rfl ?_
  refine A_iload_n (pc := 11) (i := 1) dX8_pairsWith_11 rfl rfl ?_
  refine A_iaload (pc := 12) (n := 11) (by decide) (by decide) rfl dX8_pairsWith_12 (by decide) ?_
  refine A_istore (pc := 13) (i := 4) (ls2 := [some (vr 8 (some 0)), some (vi x1), some (vi x2), some (vi (gI h 54 0 (Int32.toNatClampNeg x1))), some (vi (gI h 55 0 (Int32.toNatClampNeg x1))), none, none, none]) dX8_pairsWith_13 (Nat.le_of_ble_eq_true rfl) rfl ?_
  refine A_iload (pc := 15) (i := 4) dX8_pairsWith_15 rfl ?_
  refine A_if_ne (pc := 17) (tgt := 24) dX8_pairsWith_17 (by decide) ?_ ?_
  · refine A_aload_n (pc := 24) (i := 0) dX8_pairsWith_24 rfl rfl ?_
    refine A_getS (pc := 25) (k := 32) (tp := 52) clX8 (Nat.le_of_ble_eq_true rfl) dX8_pairsWith_25 kF_X8_82 rfl rfl rfl ?_
    refine A_aload_n (pc := 28) (i := 0) dX8_pairsWith_28 rfl rfl ?_
    refine A_getS (pc := 29) (k := 33) (tp := 53) clX8 (Nat.le_of_ble_eq_true rfl) dX8_pairsWith_29 kF_X8_85 rfl rfl rfl ?_
    refine A_iload_n (pc := 32) (i := 1) dX8_pairsWith_32 rfl rfl ?_
    refine A_iconst (pc := 33) (v := (1 : Int32)) dX8_pairsWith_33 (by decide) ?_
    refine A_isub (pc := 34) dX8_pairsWith_34 ?_
    refine A_iaload (pc := 35) (n := 10) (by decide) (by decide) rfl dX8_pairsWith_35 (by decide) ?_
    refine A_iaload (pc := 36) (n := 6) (by decide) (by decide) rfl dX8_pairsWith_36 (by decide) ?_
    exact Aw.weak (ls' := [some (vr 8 (some 0)), some (vi x1), some (vi x2), some (vi (gI h 54 0 (Int32.toNatClampNeg x1))), some (vi (gI h 55 0 (Int32.toNatClampNeg x1))), none, none, none]) ⟨rfl, ⟨rfl, ⟨rfl, ⟨rfl, ⟨rfl, trivial⟩⟩⟩⟩⟩ (aJ_X8_pairsWith_37 h x1 x2 (gI h 54 0 (Int32.toNatClampNeg x1)) (gI h 55 0 (Int32.toNatClampNeg x1)) (gI h 52 0 (Int32.toNatClampNeg (gI h 53 0 (Int32.toNatClampNeg (x1 - (1 : Int32)))))))
  · refine A_iconst (pc := 20) (v := (-1 : Int32)) dX8_pairsWith_20 (by decide) ?_
    refine A_goto (pc := 21) (tgt := 37) dX8_pairsWith_21 (by decide) ?_
    exact Aw.weak (ls' := [some (vr 8 (some 0)), some (vi x1), some (vi x2), some (vi (gI h 54 0 (Int32.toNatClampNeg x1))), some (vi (gI h 55 0 (Int32.toNatClampNeg x1))), none, none, none]) ⟨rfl, ⟨rfl, ⟨rfl, ⟨rfl, ⟨rfl, trivial⟩⟩⟩⟩⟩ (aJ_X8_pairsWith_37 h x1 x2 (gI h 54 0 (Int32.toNatClampNeg x1)) (gI h 55 0 (Int32.toNatClampNeg x1)) (-1 : Int32))

abbrev mX8_goesOn : MD := (yX8_goesOn, cX8_goesOn, 4, (some .boolean), { frames := 3, cells := 0, slots := 0, locals := 73 }, none)
theorem kD_X8_goesOn : CodeIn mX8_goesOn 1 := ⟨kC_X8_goesOn, by decide +kernel⟩
def f_X8_goesOn (x1 : Int32) (h : Hp) : Option (Bool × Hp) := (if 0 ≤ x1 ∧ x1 < 10 then (if 0 ≤ x1 ∧ x1 < 11 then (if 0 ≤ (x1 + (1 : Int32)) ∧ (x1 + (1 : Int32)) < 11 then (if 0 ≤ x1 ∧ x1 < 11 then (if 0 ≤ (x1 + (1 : Int32)) ∧ (x1 + (1 : Int32)) < 11 then (if (gI h 53 0 (Int32.toNatClampNeg x1)) = (6 : Int32) then (if 0 ≤ x1 ∧ x1 < 11 then (if 0 ≤ (x1 + (1 : Int32)) ∧ (x1 + (1 : Int32)) < 11 then (if 0 ≤ (x1 + (1 : Int32)) ∧ (x1 + (1 : Int32)) < 11 then (if 0 ≤ x1 ∧ x1 < 11 then (if (gI (wI (wI (wI (wI h 56 0 (Int32.toNatClampNeg (x1 + (1 : Int32))) (gI h 56 0 (Int32.toNatClampNeg x1))) 57 0 (Int32.toNatClampNeg (x1 + (1 : Int32))) (gI (wI h 56 0 (Int32.toNatClampNeg (x1 + (1 : Int32))) (gI h 56 0 (Int32.toNatClampNeg x1))) 57 0 (Int32.toNatClampNeg x1))) 54 0 (Int32.toNatClampNeg (x1 + (1 : Int32))) ((gI (wI (wI h 56 0 (Int32.toNatClampNeg (x1 + (1 : Int32))) (gI h 56 0 (Int32.toNatClampNeg x1))) 57 0 (Int32.toNatClampNeg (x1 + (1 : Int32))) (gI (wI h 56 0 (Int32.toNatClampNeg (x1 + (1 : Int32))) (gI h 56 0 (Int32.toNatClampNeg x1))) 57 0 (Int32.toNatClampNeg x1))) 54 0 (Int32.toNatClampNeg x1)) + (1 : Int32))) 55 0 (Int32.toNatClampNeg (x1 + (1 : Int32))) (0 : Int32)) 8 0 0) ≤ ((gI (wI (wI (wI (wI h 56 0 (Int32.toNatClampNeg (x1 + (1 : Int32))) (gI h 56 0 (Int32.toNatClampNeg x1))) 57 0 (Int32.toNatClampNeg (x1 + (1 : Int32))) (gI (wI h 56 0 (Int32.toNatClampNeg (x1 + (1 : Int32))) (gI h 56 0 (Int32.toNatClampNeg x1))) 57 0 (Int32.toNatClampNeg x1))) 54 0 (Int32.toNatClampNeg (x1 + (1 : Int32))) ((gI (wI (wI h 56 0 (Int32.toNatClampNeg (x1 + (1 : Int32))) (gI h 56 0 (Int32.toNatClampNeg x1))) 57 0 (Int32.toNatClampNeg (x1 + (1 : Int32))) (gI (wI h 56 0 (Int32.toNatClampNeg (x1 + (1 : Int32))) (gI h 56 0 (Int32.toNatClampNeg x1))) 57 0 (Int32.toNatClampNeg x1))) 54 0 (Int32.toNatClampNeg x1)) + (1 : Int32))) 55 0 (Int32.toNatClampNeg (x1 + (1 : Int32))) (0 : Int32)) 54 0 (Int32.toNatClampNeg x1)) + (1 : Int32)) then (some (false, (wI (wI (wI (wI h 56 0 (Int32.toNatClampNeg (x1 + (1 : Int32))) (gI h 56 0 (Int32.toNatClampNeg x1))) 57 0 (Int32.toNatClampNeg (x1 + (1 : Int32))) (gI (wI h 56 0 (Int32.toNatClampNeg (x1 + (1 : Int32))) (gI h 56 0 (Int32.toNatClampNeg x1))) 57 0 (Int32.toNatClampNeg x1))) 54 0 (Int32.toNatClampNeg (x1 + (1 : Int32))) ((gI (wI (wI h 56 0 (Int32.toNatClampNeg (x1 + (1 : Int32))) (gI h 56 0 (Int32.toNatClampNeg x1))) 57 0 (Int32.toNatClampNeg (x1 + (1 : Int32))) (gI (wI h 56 0 (Int32.toNatClampNeg (x1 + (1 : Int32))) (gI h 56 0 (Int32.toNatClampNeg x1))) 57 0 (Int32.toNatClampNeg x1))) 54 0 (Int32.toNatClampNeg x1)) + (1 : Int32))) 55 0 (Int32.toNatClampNeg (x1 + (1 : Int32))) (0 : Int32)))) else (some (true, (wI (wI (wI (wI h 56 0 (Int32.toNatClampNeg (x1 + (1 : Int32))) (gI h 56 0 (Int32.toNatClampNeg x1))) 57 0 (Int32.toNatClampNeg (x1 + (1 : Int32))) (gI (wI h 56 0 (Int32.toNatClampNeg (x1 + (1 : Int32))) (gI h 56 0 (Int32.toNatClampNeg x1))) 57 0 (Int32.toNatClampNeg x1))) 54 0 (Int32.toNatClampNeg (x1 + (1 : Int32))) ((gI (wI (wI h 56 0 (Int32.toNatClampNeg (x1 + (1 : Int32))) (gI h 56 0 (Int32.toNatClampNeg x1))) 57 0 (Int32.toNatClampNeg (x1 + (1 : Int32))) (gI (wI h 56 0 (Int32.toNatClampNeg (x1 + (1 : Int32))) (gI h 56 0 (Int32.toNatClampNeg x1))) 57 0 (Int32.toNatClampNeg x1))) 54 0 (Int32.toNatClampNeg x1)) + (1 : Int32))) 55 0 (Int32.toNatClampNeg (x1 + (1 : Int32))) (0 : Int32))))) else none) else none) else none) else none) else (if (gI (wI (wI h 56 0 (Int32.toNatClampNeg (x1 + (1 : Int32))) (gI h 56 0 (Int32.toNatClampNeg x1))) 57 0 (Int32.toNatClampNeg (x1 + (1 : Int32))) (gI (wI h 56 0 (Int32.toNatClampNeg (x1 + (1 : Int32))) (gI h 56 0 (Int32.toNatClampNeg x1))) 57 0 (Int32.toNatClampNeg x1))) 8 0 31) ≤ (gI h 53 0 (Int32.toNatClampNeg x1)) then (some (false, (wI (wI h 56 0 (Int32.toNatClampNeg (x1 + (1 : Int32))) (gI h 56 0 (Int32.toNatClampNeg x1))) 57 0 (Int32.toNatClampNeg (x1 + (1 : Int32))) (gI (wI h 56 0 (Int32.toNatClampNeg (x1 + (1 : Int32))) (gI h 56 0 (Int32.toNatClampNeg x1))) 57 0 (Int32.toNatClampNeg x1))))) else (if 0 ≤ x1 ∧ x1 < 11 then (if (((gI (wI (wI h 56 0 (Int32.toNatClampNeg (x1 + (1 : Int32))) (gI h 56 0 (Int32.toNatClampNeg x1))) 57 0 (Int32.toNatClampNeg (x1 + (1 : Int32))) (gI (wI h 56 0 (Int32.toNatClampNeg (x1 + (1 : Int32))) (gI h 56 0 (Int32.toNatClampNeg x1))) 57 0 (Int32.toNatClampNeg x1))) 57 0 (Int32.toNatClampNeg x1)) >>> ((gI h 53 0 (Int32.toNatClampNeg x1)) &&& 31)) &&& (1 : Int32)) = (1 : Int32) then (some (false, (wI (wI h 56 0 (Int32.toNatClampNeg (x1 + (1 : Int32))) (gI h 56 0 (Int32.toNatClampNeg x1))) 57 0 (Int32.toNatClampNeg (x1 + (1 : Int32))) (gI (wI h 56 0 (Int32.toNatClampNeg (x1 + (1 : Int32))) (gI h 56 0 (Int32.toNatClampNeg x1))) 57 0 (Int32.toNatClampNeg x1))))) else (if (gI (wI (wI h 56 0 (Int32.toNatClampNeg (x1 + (1 : Int32))) (gI h 56 0 (Int32.toNatClampNeg x1))) 57 0 (Int32.toNatClampNeg (x1 + (1 : Int32))) (gI (wI h 56 0 (Int32.toNatClampNeg (x1 + (1 : Int32))) (gI h 56 0 (Int32.toNatClampNeg x1))) 57 0 (Int32.toNatClampNeg x1))) 8 0 0) = 0 then (some (false, (wI (wI h 56 0 (Int32.toNatClampNeg (x1 + (1 : Int32))) (gI h 56 0 (Int32.toNatClampNeg x1))) 57 0 (Int32.toNatClampNeg (x1 + (1 : Int32))) (gI (wI h 56 0 (Int32.toNatClampNeg (x1 + (1 : Int32))) (gI h 56 0 (Int32.toNatClampNeg x1))) 57 0 (Int32.toNatClampNeg x1))))) else ((f_X8_pairsWith x1 (gI h 53 0 (Int32.toNatClampNeg x1)) (wI (wI h 56 0 (Int32.toNatClampNeg (x1 + (1 : Int32))) (gI h 56 0 (Int32.toNatClampNeg x1))) 57 0 (Int32.toNatClampNeg (x1 + (1 : Int32))) (gI (wI h 56 0 (Int32.toNatClampNeg (x1 + (1 : Int32))) (gI h 56 0 (Int32.toNatClampNeg x1))) 57 0 (Int32.toNatClampNeg x1)))).bind fun r1 => (if 0 ≤ r1 then (if 0 ≤ x1 ∧ x1 < 11 then (if 0 ≤ x1 ∧ x1 < 11 then (if 0 ≤ (gI h 53 0 (Int32.toNatClampNeg x1)) ∧ (gI h 53 0 (Int32.toNatClampNeg x1)) < 6 then (if 0 ≤ x1 ∧ x1 < 11 then (if 0 ≤ (x1 + (1 : Int32)) ∧ (x1 + (1 : Int32)) < 11 then (if 0 ≤ x1 ∧ x1 < 11 then (if 0 ≤ (x1 + (1 : Int32)) ∧ (x1 + (1 : Int32)) < 11 then (if 0 ≤ (x1 + (1 : Int32)) ∧ (x1 + (1 : Int32)) < 11 then (if 0 ≤ (x1 + (1 : Int32)) ∧ (x1 + (1 : Int32)) < 11 then (if 0 ≤ (x1 + (1 : Int32)) ∧ (x1 + (1 : Int32)) < 11 then (if 0 ≤ (x1 + (1 : Int32)) ∧ (x1 + (1 : Int32)) < 11 then (some (true, (wI (wI (wI (wI (wI (wI (wI h 56 0 (Int32.toNatClampNeg (x1 + (1 : Int32))) (gI h 56 0 (Int32.toNatClampNeg x1))) 57 0 (Int32.toNatClampNeg (x1 + (1 : Int32))) (gI (wI h 56 0 (Int32.toNatClampNeg (x1 + (1 : Int32))) (gI h 56 0 (Int32.toNatClampNeg x1))) 57 0 (Int32.toNatClampNeg x1))) 58 0 (Int32.toNatClampNeg (gI h 53 0 (Int32.toNatClampNeg x1))) (((6 : Int32) * (gI (wI (wI h 56 0 (Int32.toNatClampNeg (x1 + (1 : Int32))) (gI h 56 0 (Int32.toNatClampNeg x1))) 57 0 (Int32.toNatClampNeg (x1 + (1 : Int32))) (gI (wI h 56 0 (Int32.toNatClampNeg (x1 + (1 : Int32))) (gI h 56 0 (Int32.toNatClampNeg x1))) 57 0 (Int32.toNatClampNeg x1))) 54 0 (Int32.toNatClampNeg x1))) + (gI (wI (wI h 56 0 (Int32.toNatClampNeg (x1 + (1 : Int32))) (gI h 56 0 (Int32.toNatClampNeg x1))) 57 0 (Int32.toNatClampNeg (x1 + (1 : Int32))) (gI (wI h 56 0 (Int32.toNatClampNeg (x1 + (1 : Int32))) (gI h 56 0 (Int32.toNatClampNeg x1))) 57 0 (Int32.toNatClampNeg x1))) 55 0 (Int32.toNatClampNeg x1)))) 54 0 (Int32.toNatClampNeg (x1 + (1 : Int32))) (gI (wI (wI (wI h 56 0 (Int32.toNatClampNeg (x1 + (1 : Int32))) (gI h 56 0 (Int32.toNatClampNeg x1))) 57 0 (Int32.toNatClampNeg (x1 + (1 : Int32))) (gI (wI h 56 0 (Int32.toNatClampNeg (x1 + (1 : Int32))) (gI h 56 0 (Int32.toNatClampNeg x1))) 57 0 (Int32.toNatClampNeg x1))) 58 0 (Int32.toNatClampNeg (gI h 53 0 (Int32.toNatClampNeg x1))) (((6 : Int32) * (gI (wI (wI h 56 0 (Int32.toNatClampNeg (x1 + (1 : Int32))) (gI h 56 0 (Int32.toNatClampNeg x1))) 57 0 (Int32.toNatClampNeg (x1 + (1 : Int32))) (gI (wI h 56 0 (Int32.toNatClampNeg (x1 + (1 : Int32))) (gI h 56 0 (Int32.toNatClampNeg x1))) 57 0 (Int32.toNatClampNeg x1))) 54 0 (Int32.toNatClampNeg x1))) + (gI (wI (wI h 56 0 (Int32.toNatClampNeg (x1 + (1 : Int32))) (gI h 56 0 (Int32.toNatClampNeg x1))) 57 0 (Int32.toNatClampNeg (x1 + (1 : Int32))) (gI (wI h 56 0 (Int32.toNatClampNeg (x1 + (1 : Int32))) (gI h 56 0 (Int32.toNatClampNeg x1))) 57 0 (Int32.toNatClampNeg x1))) 55 0 (Int32.toNatClampNeg x1)))) 54 0 (Int32.toNatClampNeg x1))) 55 0 (Int32.toNatClampNeg (x1 + (1 : Int32))) ((gI (wI (wI (wI (wI h 56 0 (Int32.toNatClampNeg (x1 + (1 : Int32))) (gI h 56 0 (Int32.toNatClampNeg x1))) 57 0 (Int32.toNatClampNeg (x1 + (1 : Int32))) (gI (wI h 56 0 (Int32.toNatClampNeg (x1 + (1 : Int32))) (gI h 56 0 (Int32.toNatClampNeg x1))) 57 0 (Int32.toNatClampNeg x1))) 58 0 (Int32.toNatClampNeg (gI h 53 0 (Int32.toNatClampNeg x1))) (((6 : Int32) * (gI (wI (wI h 56 0 (Int32.toNatClampNeg (x1 + (1 : Int32))) (gI h 56 0 (Int32.toNatClampNeg x1))) 57 0 (Int32.toNatClampNeg (x1 + (1 : Int32))) (gI (wI h 56 0 (Int32.toNatClampNeg (x1 + (1 : Int32))) (gI h 56 0 (Int32.toNatClampNeg x1))) 57 0 (Int32.toNatClampNeg x1))) 54 0 (Int32.toNatClampNeg x1))) + (gI (wI (wI h 56 0 (Int32.toNatClampNeg (x1 + (1 : Int32))) (gI h 56 0 (Int32.toNatClampNeg x1))) 57 0 (Int32.toNatClampNeg (x1 + (1 : Int32))) (gI (wI h 56 0 (Int32.toNatClampNeg (x1 + (1 : Int32))) (gI h 56 0 (Int32.toNatClampNeg x1))) 57 0 (Int32.toNatClampNeg x1))) 55 0 (Int32.toNatClampNeg x1)))) 54 0 (Int32.toNatClampNeg (x1 + (1 : Int32))) (gI (wI (wI (wI h 56 0 (Int32.toNatClampNeg (x1 + (1 : Int32))) (gI h 56 0 (Int32.toNatClampNeg x1))) 57 0 (Int32.toNatClampNeg (x1 + (1 : Int32))) (gI (wI h 56 0 (Int32.toNatClampNeg (x1 + (1 : Int32))) (gI h 56 0 (Int32.toNatClampNeg x1))) 57 0 (Int32.toNatClampNeg x1))) 58 0 (Int32.toNatClampNeg (gI h 53 0 (Int32.toNatClampNeg x1))) (((6 : Int32) * (gI (wI (wI h 56 0 (Int32.toNatClampNeg (x1 + (1 : Int32))) (gI h 56 0 (Int32.toNatClampNeg x1))) 57 0 (Int32.toNatClampNeg (x1 + (1 : Int32))) (gI (wI h 56 0 (Int32.toNatClampNeg (x1 + (1 : Int32))) (gI h 56 0 (Int32.toNatClampNeg x1))) 57 0 (Int32.toNatClampNeg x1))) 54 0 (Int32.toNatClampNeg x1))) + (gI (wI (wI h 56 0 (Int32.toNatClampNeg (x1 + (1 : Int32))) (gI h 56 0 (Int32.toNatClampNeg x1))) 57 0 (Int32.toNatClampNeg (x1 + (1 : Int32))) (gI (wI h 56 0 (Int32.toNatClampNeg (x1 + (1 : Int32))) (gI h 56 0 (Int32.toNatClampNeg x1))) 57 0 (Int32.toNatClampNeg x1))) 55 0 (Int32.toNatClampNeg x1)))) 54 0 (Int32.toNatClampNeg x1))) 55 0 (Int32.toNatClampNeg x1)) + (1 : Int32))) 56 0 (Int32.toNatClampNeg (x1 + (1 : Int32))) ((gI (wI (wI (wI (wI (wI h 56 0 (Int32.toNatClampNeg (x1 + (1 : Int32))) (gI h 56 0 (Int32.toNatClampNeg x1))) 57 0 (Int32.toNatClampNeg (x1 + (1 : Int32))) (gI (wI h 56 0 (Int32.toNatClampNeg (x1 + (1 : Int32))) (gI h 56 0 (Int32.toNatClampNeg x1))) 57 0 (Int32.toNatClampNeg x1))) 58 0 (Int32.toNatClampNeg (gI h 53 0 (Int32.toNatClampNeg x1))) (((6 : Int32) * (gI (wI (wI h 56 0 (Int32.toNatClampNeg (x1 + (1 : Int32))) (gI h 56 0 (Int32.toNatClampNeg x1))) 57 0 (Int32.toNatClampNeg (x1 + (1 : Int32))) (gI (wI h 56 0 (Int32.toNatClampNeg (x1 + (1 : Int32))) (gI h 56 0 (Int32.toNatClampNeg x1))) 57 0 (Int32.toNatClampNeg x1))) 54 0 (Int32.toNatClampNeg x1))) + (gI (wI (wI h 56 0 (Int32.toNatClampNeg (x1 + (1 : Int32))) (gI h 56 0 (Int32.toNatClampNeg x1))) 57 0 (Int32.toNatClampNeg (x1 + (1 : Int32))) (gI (wI h 56 0 (Int32.toNatClampNeg (x1 + (1 : Int32))) (gI h 56 0 (Int32.toNatClampNeg x1))) 57 0 (Int32.toNatClampNeg x1))) 55 0 (Int32.toNatClampNeg x1)))) 54 0 (Int32.toNatClampNeg (x1 + (1 : Int32))) (gI (wI (wI (wI h 56 0 (Int32.toNatClampNeg (x1 + (1 : Int32))) (gI h 56 0 (Int32.toNatClampNeg x1))) 57 0 (Int32.toNatClampNeg (x1 + (1 : Int32))) (gI (wI h 56 0 (Int32.toNatClampNeg (x1 + (1 : Int32))) (gI h 56 0 (Int32.toNatClampNeg x1))) 57 0 (Int32.toNatClampNeg x1))) 58 0 (Int32.toNatClampNeg (gI h 53 0 (Int32.toNatClampNeg x1))) (((6 : Int32) * (gI (wI (wI h 56 0 (Int32.toNatClampNeg (x1 + (1 : Int32))) (gI h 56 0 (Int32.toNatClampNeg x1))) 57 0 (Int32.toNatClampNeg (x1 + (1 : Int32))) (gI (wI h 56 0 (Int32.toNatClampNeg (x1 + (1 : Int32))) (gI h 56 0 (Int32.toNatClampNeg x1))) 57 0 (Int32.toNatClampNeg x1))) 54 0 (Int32.toNatClampNeg x1))) + (gI (wI (wI h 56 0 (Int32.toNatClampNeg (x1 + (1 : Int32))) (gI h 56 0 (Int32.toNatClampNeg x1))) 57 0 (Int32.toNatClampNeg (x1 + (1 : Int32))) (gI (wI h 56 0 (Int32.toNatClampNeg (x1 + (1 : Int32))) (gI h 56 0 (Int32.toNatClampNeg x1))) 57 0 (Int32.toNatClampNeg x1))) 55 0 (Int32.toNatClampNeg x1)))) 54 0 (Int32.toNatClampNeg x1))) 55 0 (Int32.toNatClampNeg (x1 + (1 : Int32))) ((gI (wI (wI (wI (wI h 56 0 (Int32.toNatClampNeg (x1 + (1 : Int32))) (gI h 56 0 (Int32.toNatClampNeg x1))) 57 0 (Int32.toNatClampNeg (x1 + (1 : Int32))) (gI (wI h 56 0 (Int32.toNatClampNeg (x1 + (1 : Int32))) (gI h 56 0 (Int32.toNatClampNeg x1))) 57 0 (Int32.toNatClampNeg x1))) 58 0 (Int32.toNatClampNeg (gI h 53 0 (Int32.toNatClampNeg x1))) (((6 : Int32) * (gI (wI (wI h 56 0 (Int32.toNatClampNeg (x1 + (1 : Int32))) (gI h 56 0 (Int32.toNatClampNeg x1))) 57 0 (Int32.toNatClampNeg (x1 + (1 : Int32))) (gI (wI h 56 0 (Int32.toNatClampNeg (x1 + (1 : Int32))) (gI h 56 0 (Int32.toNatClampNeg x1))) 57 0 (Int32.toNatClampNeg x1))) 54 0 (Int32.toNatClampNeg x1))) + (gI (wI (wI h 56 0 (Int32.toNatClampNeg (x1 + (1 : Int32))) (gI h 56 0 (Int32.toNatClampNeg x1))) 57 0 (Int32.toNatClampNeg (x1 + (1 : Int32))) (gI (wI h 56 0 (Int32.toNatClampNeg (x1 + (1 : Int32))) (gI h 56 0 (Int32.toNatClampNeg x1))) 57 0 (Int32.toNatClampNeg x1))) 55 0 (Int32.toNatClampNeg x1)))) 54 0 (Int32.toNatClampNeg (x1 + (1 : Int32))) (gI (wI (wI (wI h 56 0 (Int32.toNatClampNeg (x1 + (1 : Int32))) (gI h 56 0 (Int32.toNatClampNeg x1))) 57 0 (Int32.toNatClampNeg (x1 + (1 : Int32))) (gI (wI h 56 0 (Int32.toNatClampNeg (x1 + (1 : Int32))) (gI h 56 0 (Int32.toNatClampNeg x1))) 57 0 (Int32.toNatClampNeg x1))) 58 0 (Int32.toNatClampNeg (gI h 53 0 (Int32.toNatClampNeg x1))) (((6 : Int32) * (gI (wI (wI h 56 0 (Int32.toNatClampNeg (x1 + (1 : Int32))) (gI h 56 0 (Int32.toNatClampNeg x1))) 57 0 (Int32.toNatClampNeg (x1 + (1 : Int32))) (gI (wI h 56 0 (Int32.toNatClampNeg (x1 + (1 : Int32))) (gI h 56 0 (Int32.toNatClampNeg x1))) 57 0 (Int32.toNatClampNeg x1))) 54 0 (Int32.toNatClampNeg x1))) + (gI (wI (wI h 56 0 (Int32.toNatClampNeg (x1 + (1 : Int32))) (gI h 56 0 (Int32.toNatClampNeg x1))) 57 0 (Int32.toNatClampNeg (x1 + (1 : Int32))) (gI (wI h 56 0 (Int32.toNatClampNeg (x1 + (1 : Int32))) (gI h 56 0 (Int32.toNatClampNeg x1))) 57 0 (Int32.toNatClampNeg x1))) 55 0 (Int32.toNatClampNeg x1)))) 54 0 (Int32.toNatClampNeg x1))) 55 0 (Int32.toNatClampNeg x1)) + (1 : Int32))) 56 0 (Int32.toNatClampNeg (x1 + (1 : Int32)))) + r1)) 57 0 (Int32.toNatClampNeg (x1 + (1 : Int32))) ((gI (wI (wI (wI (wI (wI (wI h 56 0 (Int32.toNatClampNeg (x1 + (1 : Int32))) (gI h 56 0 (Int32.toNatClampNeg x1))) 57 0 (Int32.toNatClampNeg (x1 + (1 : Int32))) (gI (wI h 56 0 (Int32.toNatClampNeg (x1 + (1 : Int32))) (gI h 56 0 (Int32.toNatClampNeg x1))) 57 0 (Int32.toNatClampNeg x1))) 58 0 (Int32.toNatClampNeg (gI h 53 0 (Int32.toNatClampNeg x1))) (((6 : Int32) * (gI (wI (wI h 56 0 (Int32.toNatClampNeg (x1 + (1 : Int32))) (gI h 56 0 (Int32.toNatClampNeg x1))) 57 0 (Int32.toNatClampNeg (x1 + (1 : Int32))) (gI (wI h 56 0 (Int32.toNatClampNeg (x1 + (1 : Int32))) (gI h 56 0 (Int32.toNatClampNeg x1))) 57 0 (Int32.toNatClampNeg x1))) 54 0 (Int32.toNatClampNeg x1))) + (gI (wI (wI h 56 0 (Int32.toNatClampNeg (x1 + (1 : Int32))) (gI h 56 0 (Int32.toNatClampNeg x1))) 57 0 (Int32.toNatClampNeg (x1 + (1 : Int32))) (gI (wI h 56 0 (Int32.toNatClampNeg (x1 + (1 : Int32))) (gI h 56 0 (Int32.toNatClampNeg x1))) 57 0 (Int32.toNatClampNeg x1))) 55 0 (Int32.toNatClampNeg x1)))) 54 0 (Int32.toNatClampNeg (x1 + (1 : Int32))) (gI (wI (wI (wI h 56 0 (Int32.toNatClampNeg (x1 + (1 : Int32))) (gI h 56 0 (Int32.toNatClampNeg x1))) 57 0 (Int32.toNatClampNeg (x1 + (1 : Int32))) (gI (wI h 56 0 (Int32.toNatClampNeg (x1 + (1 : Int32))) (gI h 56 0 (Int32.toNatClampNeg x1))) 57 0 (Int32.toNatClampNeg x1))) 58 0 (Int32.toNatClampNeg (gI h 53 0 (Int32.toNatClampNeg x1))) (((6 : Int32) * (gI (wI (wI h 56 0 (Int32.toNatClampNeg (x1 + (1 : Int32))) (gI h 56 0 (Int32.toNatClampNeg x1))) 57 0 (Int32.toNatClampNeg (x1 + (1 : Int32))) (gI (wI h 56 0 (Int32.toNatClampNeg (x1 + (1 : Int32))) (gI h 56 0 (Int32.toNatClampNeg x1))) 57 0 (Int32.toNatClampNeg x1))) 54 0 (Int32.toNatClampNeg x1))) + (gI (wI (wI h 56 0 (Int32.toNatClampNeg (x1 + (1 : Int32))) (gI h 56 0 (Int32.toNatClampNeg x1))) 57 0 (Int32.toNatClampNeg (x1 + (1 : Int32))) (gI (wI h 56 0 (Int32.toNatClampNeg (x1 + (1 : Int32))) (gI h 56 0 (Int32.toNatClampNeg x1))) 57 0 (Int32.toNatClampNeg x1))) 55 0 (Int32.toNatClampNeg x1)))) 54 0 (Int32.toNatClampNeg x1))) 55 0 (Int32.toNatClampNeg (x1 + (1 : Int32))) ((gI (wI (wI (wI (wI h 56 0 (Int32.toNatClampNeg (x1 + (1 : Int32))) (gI h 56 0 (Int32.toNatClampNeg x1))) 57 0 (Int32.toNatClampNeg (x1 + (1 : Int32))) (gI (wI h 56 0 (Int32.toNatClampNeg (x1 + (1 : Int32))) (gI h 56 0 (Int32.toNatClampNeg x1))) 57 0 (Int32.toNatClampNeg x1))) 58 0 (Int32.toNatClampNeg (gI h 53 0 (Int32.toNatClampNeg x1))) (((6 : Int32) * (gI (wI (wI h 56 0 (Int32.toNatClampNeg (x1 + (1 : Int32))) (gI h 56 0 (Int32.toNatClampNeg x1))) 57 0 (Int32.toNatClampNeg (x1 + (1 : Int32))) (gI (wI h 56 0 (Int32.toNatClampNeg (x1 + (1 : Int32))) (gI h 56 0 (Int32.toNatClampNeg x1))) 57 0 (Int32.toNatClampNeg x1))) 54 0 (Int32.toNatClampNeg x1))) + (gI (wI (wI h 56 0 (Int32.toNatClampNeg (x1 + (1 : Int32))) (gI h 56 0 (Int32.toNatClampNeg x1))) 57 0 (Int32.toNatClampNeg (x1 + (1 : Int32))) (gI (wI h 56 0 (Int32.toNatClampNeg (x1 + (1 : Int32))) (gI h 56 0 (Int32.toNatClampNeg x1))) 57 0 (Int32.toNatClampNeg x1))) 55 0 (Int32.toNatClampNeg x1)))) 54 0 (Int32.toNatClampNeg (x1 + (1 : Int32))) (gI (wI (wI (wI h 56 0 (Int32.toNatClampNeg (x1 + (1 : Int32))) (gI h 56 0 (Int32.toNatClampNeg x1))) 57 0 (Int32.toNatClampNeg (x1 + (1 : Int32))) (gI (wI h 56 0 (Int32.toNatClampNeg (x1 + (1 : Int32))) (gI h 56 0 (Int32.toNatClampNeg x1))) 57 0 (Int32.toNatClampNeg x1))) 58 0 (Int32.toNatClampNeg (gI h 53 0 (Int32.toNatClampNeg x1))) (((6 : Int32) * (gI (wI (wI h 56 0 (Int32.toNatClampNeg (x1 + (1 : Int32))) (gI h 56 0 (Int32.toNatClampNeg x1))) 57 0 (Int32.toNatClampNeg (x1 + (1 : Int32))) (gI (wI h 56 0 (Int32.toNatClampNeg (x1 + (1 : Int32))) (gI h 56 0 (Int32.toNatClampNeg x1))) 57 0 (Int32.toNatClampNeg x1))) 54 0 (Int32.toNatClampNeg x1))) + (gI (wI (wI h 56 0 (Int32.toNatClampNeg (x1 + (1 : Int32))) (gI h 56 0 (Int32.toNatClampNeg x1))) 57 0 (Int32.toNatClampNeg (x1 + (1 : Int32))) (gI (wI h 56 0 (Int32.toNatClampNeg (x1 + (1 : Int32))) (gI h 56 0 (Int32.toNatClampNeg x1))) 57 0 (Int32.toNatClampNeg x1))) 55 0 (Int32.toNatClampNeg x1)))) 54 0 (Int32.toNatClampNeg x1))) 55 0 (Int32.toNatClampNeg x1)) + (1 : Int32))) 56 0 (Int32.toNatClampNeg (x1 + (1 : Int32))) ((gI (wI (wI (wI (wI (wI h 56 0 (Int32.toNatClampNeg (x1 + (1 : Int32))) (gI h 56 0 (Int32.toNatClampNeg x1))) 57 0 (Int32.toNatClampNeg (x1 + (1 : Int32))) (gI (wI h 56 0 (Int32.toNatClampNeg (x1 + (1 : Int32))) (gI h 56 0 (Int32.toNatClampNeg x1))) 57 0 (Int32.toNatClampNeg x1))) 58 0 (Int32.toNatClampNeg (gI h 53 0 (Int32.toNatClampNeg x1))) (((6 : Int32) * (gI (wI (wI h 56 0 (Int32.toNatClampNeg (x1 + (1 : Int32))) (gI h 56 0 (Int32.toNatClampNeg x1))) 57 0 (Int32.toNatClampNeg (x1 + (1 : Int32))) (gI (wI h 56 0 (Int32.toNatClampNeg (x1 + (1 : Int32))) (gI h 56 0 (Int32.toNatClampNeg x1))) 57 0 (Int32.toNatClampNeg x1))) 54 0 (Int32.toNatClampNeg x1))) + (gI (wI (wI h 56 0 (Int32.toNatClampNeg (x1 + (1 : Int32))) (gI h 56 0 (Int32.toNatClampNeg x1))) 57 0 (Int32.toNatClampNeg (x1 + (1 : Int32))) (gI (wI h 56 0 (Int32.toNatClampNeg (x1 + (1 : Int32))) (gI h 56 0 (Int32.toNatClampNeg x1))) 57 0 (Int32.toNatClampNeg x1))) 55 0 (Int32.toNatClampNeg x1)))) 54 0 (Int32.toNatClampNeg (x1 + (1 : Int32))) (gI (wI (wI (wI h 56 0 (Int32.toNatClampNeg (x1 + (1 : Int32))) (gI h 56 0 (Int32.toNatClampNeg x1))) 57 0 (Int32.toNatClampNeg (x1 + (1 : Int32))) (gI (wI h 56 0 (Int32.toNatClampNeg (x1 + (1 : Int32))) (gI h 56 0 (Int32.toNatClampNeg x1))) 57 0 (Int32.toNatClampNeg x1))) 58 0 (Int32.toNatClampNeg (gI h 53 0 (Int32.toNatClampNeg x1))) (((6 : Int32) * (gI (wI (wI h 56 0 (Int32.toNatClampNeg (x1 + (1 : Int32))) (gI h 56 0 (Int32.toNatClampNeg x1))) 57 0 (Int32.toNatClampNeg (x1 + (1 : Int32))) (gI (wI h 56 0 (Int32.toNatClampNeg (x1 + (1 : Int32))) (gI h 56 0 (Int32.toNatClampNeg x1))) 57 0 (Int32.toNatClampNeg x1))) 54 0 (Int32.toNatClampNeg x1))) + (gI (wI (wI h 56 0 (Int32.toNatClampNeg (x1 + (1 : Int32))) (gI h 56 0 (Int32.toNatClampNeg x1))) 57 0 (Int32.toNatClampNeg (x1 + (1 : Int32))) (gI (wI h 56 0 (Int32.toNatClampNeg (x1 + (1 : Int32))) (gI h 56 0 (Int32.toNatClampNeg x1))) 57 0 (Int32.toNatClampNeg x1))) 55 0 (Int32.toNatClampNeg x1)))) 54 0 (Int32.toNatClampNeg x1))) 55 0 (Int32.toNatClampNeg (x1 + (1 : Int32))) ((gI (wI (wI (wI (wI h 56 0 (Int32.toNatClampNeg (x1 + (1 : Int32))) (gI h 56 0 (Int32.toNatClampNeg x1))) 57 0 (Int32.toNatClampNeg (x1 + (1 : Int32))) (gI (wI h 56 0 (Int32.toNatClampNeg (x1 + (1 : Int32))) (gI h 56 0 (Int32.toNatClampNeg x1))) 57 0 (Int32.toNatClampNeg x1))) 58 0 (Int32.toNatClampNeg (gI h 53 0 (Int32.toNatClampNeg x1))) (((6 : Int32) * (gI (wI (wI h 56 0 (Int32.toNatClampNeg (x1 + (1 : Int32))) (gI h 56 0 (Int32.toNatClampNeg x1))) 57 0 (Int32.toNatClampNeg (x1 + (1 : Int32))) (gI (wI h 56 0 (Int32.toNatClampNeg (x1 + (1 : Int32))) (gI h 56 0 (Int32.toNatClampNeg x1))) 57 0 (Int32.toNatClampNeg x1))) 54 0 (Int32.toNatClampNeg x1))) + (gI (wI (wI h 56 0 (Int32.toNatClampNeg (x1 + (1 : Int32))) (gI h 56 0 (Int32.toNatClampNeg x1))) 57 0 (Int32.toNatClampNeg (x1 + (1 : Int32))) (gI (wI h 56 0 (Int32.toNatClampNeg (x1 + (1 : Int32))) (gI h 56 0 (Int32.toNatClampNeg x1))) 57 0 (Int32.toNatClampNeg x1))) 55 0 (Int32.toNatClampNeg x1)))) 54 0 (Int32.toNatClampNeg (x1 + (1 : Int32))) (gI (wI (wI (wI h 56 0 (Int32.toNatClampNeg (x1 + (1 : Int32))) (gI h 56 0 (Int32.toNatClampNeg x1))) 57 0 (Int32.toNatClampNeg (x1 + (1 : Int32))) (gI (wI h 56 0 (Int32.toNatClampNeg (x1 + (1 : Int32))) (gI h 56 0 (Int32.toNatClampNeg x1))) 57 0 (Int32.toNatClampNeg x1))) 58 0 (Int32.toNatClampNeg (gI h 53 0 (Int32.toNatClampNeg x1))) (((6 : Int32) * (gI (wI (wI h 56 0 (Int32.toNatClampNeg (x1 + (1 : Int32))) (gI h 56 0 (Int32.toNatClampNeg x1))) 57 0 (Int32.toNatClampNeg (x1 + (1 : Int32))) (gI (wI h 56 0 (Int32.toNatClampNeg (x1 + (1 : Int32))) (gI h 56 0 (Int32.toNatClampNeg x1))) 57 0 (Int32.toNatClampNeg x1))) 54 0 (Int32.toNatClampNeg x1))) + (gI (wI (wI h 56 0 (Int32.toNatClampNeg (x1 + (1 : Int32))) (gI h 56 0 (Int32.toNatClampNeg x1))) 57 0 (Int32.toNatClampNeg (x1 + (1 : Int32))) (gI (wI h 56 0 (Int32.toNatClampNeg (x1 + (1 : Int32))) (gI h 56 0 (Int32.toNatClampNeg x1))) 57 0 (Int32.toNatClampNeg x1))) 55 0 (Int32.toNatClampNeg x1)))) 54 0 (Int32.toNatClampNeg x1))) 55 0 (Int32.toNatClampNeg x1)) + (1 : Int32))) 56 0 (Int32.toNatClampNeg (x1 + (1 : Int32)))) + r1)) 57 0 (Int32.toNatClampNeg (x1 + (1 : Int32)))) ||| ((1 : Int32) <<< ((gI h 53 0 (Int32.toNatClampNeg x1)) &&& 31)))))) else none) else none) else none) else none) else none) else none) else none) else none) else none) else none) else none) else (some (false, (wI (wI h 56 0 (Int32.toNatClampNeg (x1 + (1 : Int32))) (gI h 56 0 (Int32.toNatClampNeg x1))) 57 0 (Int32.toNatClampNeg (x1 + (1 : Int32))) (gI (wI h 56 0 (Int32.toNatClampNeg (x1 + (1 : Int32))) (gI h 56 0 (Int32.toNatClampNeg x1))) 57 0 (Int32.toNatClampNeg x1))))))))) else none))) else none) else none) else none) else none) else none)
set_option maxRecDepth 100000 in
set_option maxHeartbeats 4000000 in
theorem a_X8_goesOn (x1 : Int32) (h : Hp) : CtA eB mX8_goesOn U0 U0 [vr 8 (some 0), vi x1] h (f_X8_goesOn x1 h) := by
  refine Ct.of (ls := [some (vr 8 (some 0)), some (vi x1), none, none]) (n := 2) (by decide +kernel) rfl rfl rfl ?_
  unfold f_X8_goesOn
  refine A_aload_n (pc := 0) (i := 0) dX8_goesOn_0 rfl rfl ?_
  refine A_getS (pc := 1) (k := 33) (tp := 53) clX8 (Nat.le_of_ble_eq_true rfl) dX8_goesOn_1 kF_X8_85 rfl rfl rfl ?_
  refine A_iload_n (pc := 4) (i := 1) dX8_goesOn_4 rfl rfl ?_
  refine A_iaload (pc := 5) (n := 10) (by decide) (by decide) rfl dX8_goesOn_5 (by decide) ?_
  refine A_istore_n (pc := 6) (i := 2) (ls2 := [some (vr 8 (some 0)), some (vi x1), some (vi (gI h 53 0 (Int32.toNatClampNeg x1))), none]) dX8_goesOn_6 rfl (Nat.le_of_ble_eq_true rfl) rfl ?_
  refine A_aload_n (pc := 7) (i := 0) dX8_goesOn_7 rfl rfl ?_
  refine A_getS (pc := 8) (k := 36) (tp := 56) clX8 (Nat.le_of_ble_eq_true rfl) dX8_goesOn_8 kF_X8_94 rfl rfl rfl ?_
  refine A_iload_n (pc := 11) (i := 1) dX8_goesOn_11 rfl rfl ?_
  refine A_iconst (pc := 12) (v := (1 : Int32)) dX8_goesOn_12 (by decide) ?_
  refine A_iadd (pc := 13) dX8_goesOn_13 ?_
  refine A_aload_n (pc := 14) (i := 0) dX8_goesOn_14 rfl rfl ?_
  refine A_getS (pc := 15) (k := 36) (tp := 56) clX8 (Nat.le_of_ble_eq_true rfl) dX8_goesOn_15 kF_X8_94 rfl rfl rfl ?_
  refine A_iload_n (pc := 18) (i := 1) dX8_goesOn_18 rfl rfl ?_
  refine A_iaload (pc := 19) (n := 11) (by decide) (by decide) rfl dX8_goesOn_19 (by decide) ?_
  refine A_iastore (pc := 20) (n := 11) (by decide) (by decide) rfl dX8_goesOn_20 (by decide) ?_
  refine A_aload_n (pc := 21) (i := 0) dX8_goesOn_21 rfl rfl ?_
  refine A_getS (pc := 22) (k := 37) (tp := 57) clX8 (Nat.le_of_ble_eq_true rfl) dX8_goesOn_22 kF_X8_97 rfl rfl rfl ?_
  refine A_iload_n (pc := 25) (i := 1) dX8_goesOn_25 rfl rfl ?_
  refine A_iconst (pc := 26) (v := (1 : Int32)) dX8_goesOn_26 (by decide) ?_
  refine A_iadd (pc := 27) dX8_goesOn_27 ?_
  refine A_aload_n (pc := 28) (i := 0) dX8_goesOn_28 rfl rfl ?_
  refine A_getS (pc := 29) (k := 37) (tp := 57) clX8 (Nat.le_of_ble_eq_true rfl) dX8_goesOn_29 kF_X8_97 rfl rfl rfl ?_
  refine A_iload_n (pc := 32) (i := 1) dX8_goesOn_32 rfl rfl ?_
  refine A_iaload (pc := 33) (n := 11) (by decide) (by decide) rfl dX8_goesOn_33 (by decide) ?_
  refine A_iastore (pc := 34) (n := 11) (by decide) (by decide) rfl dX8_goesOn_34 (by decide) ?_
  refine A_iload_n (pc := 35) (i := 2) dX8_goesOn_35 rfl rfl ?_
  refine A_bipush (pc := 36) (v := (6 : Int32)) dX8_goesOn_36 (by decide) ?_
  refine A_icmp_ne (pc := 38) (tgt := 87) dX8_goesOn_38 (by decide) ?_ ?_
  · refine A_iload_n (pc := 87) (i := 2) dX8_goesOn_87 rfl rfl ?_
    refine A_aload_n (pc := 88) (i := 0) dX8_goesOn_88 rfl rfl ?_
    refine A_getI (pc := 89) (k := 31) clX8 (Nat.le_of_ble_eq_true rfl) dX8_goesOn_89 kF_X8_182 rfl ?_
    refine A_icmp_ge (pc := 92) (tgt := 116) dX8_goesOn_92 (by decide) ?_ ?_
    · refine A_iconst (pc := 116) (v := (0 : Int32)) dX8_goesOn_116 (by decide) ?_
      exact A_retB rfl rfl dX8_goesOn_117
    · refine A_aload_n (pc := 95) (i := 0) dX8_goesOn_95 rfl rfl ?_
      refine A_getS (pc := 96) (k := 37) (tp := 57) clX8 (Nat.le_of_ble_eq_true rfl) dX8_goesOn_96 kF_X8_97 rfl rfl rfl ?_
      refine A_iload_n (pc := 99) (i := 1) dX8_goesOn_99 rfl rfl ?_
      refine A_iaload (pc := 100) (n := 11) (by decide) (by decide) rfl dX8_goesOn_100 (by decide) ?_
      refine A_iload_n (pc := 101) (i := 2) dX8_goesOn_101 rfl rfl ?_
      refine A_ishr (pc := 102) dX8_goesOn_102 ?_
      refine A_iconst (pc := 103) (v := (1 : Int32)) dX8_goesOn_103 (by decide) ?_
      refine A_iand (pc := 104) dX8_goesOn_104 ?_
      refine A_iconst (pc := 105) (v := (1 : Int32)) dX8_goesOn_105 (by decide) ?_
      refine A_icmp_eq (pc := 106) (tgt := 116) dX8_goesOn_106 (by decide) ?_ ?_
      · refine A_iconst (pc := 116) (v := (0 : Int32)) dX8_goesOn_116 (by decide) ?_
        exact A_retB rfl rfl dX8_goesOn_117
      · refine A_aload_n (pc := 109) (i := 0) dX8_goesOn_109 rfl rfl ?_
        refine A_getI (pc := 110) (k := 0) clX8 (Nat.le_of_ble_eq_true rfl) dX8_goesOn_110 kF_X8_115 rfl ?_
        refine A_if_ne (pc := 113) (tgt := 118) dX8_goesOn_113 (by decide) ?_ ?_
        · refine A_aload_n (pc := 118) (i := 0) dX8_goesOn_118 rfl rfl ?_
          refine A_iload_n (pc := 119) (i := 1) dX8_goesOn_119 rfl rfl ?_
          refine A_iload_n (pc := 120) (i := 2) dX8_goesOn_120 rfl rfl ?_
          refine A_callV (pc := 121) (M' := mX8_pairsWith) (As := [vi x1, vi (gI h 53 0 (Int32.toNatClampNeg x1))]) (st := []) (0, 0) (fun r1 => [vi r1]) (fun _ => (wI (wI h 56 0 (Int32.toNatClampNeg (x1 + (1 : Int32))) (gI h 56 0 (Int32.toNatClampNeg x1))) 57 0 (Int32.toNatClampNeg (x1 + (1 : Int32))) (gI (wI h 56 0 (Int32.toNatClampNeg (x1 + (1 : Int32))) (gI h 56 0 (Int32.toNatClampNeg x1))) 57 0 (Int32.toNatClampNeg x1)))) (a_X8_pairsWith x1 (gI h 53 0 (Int32.toNatClampNeg x1)) (wI (wI h 56 0 (Int32.toNatClampNeg (x1 + (1 : Int32))) (gI h 56 0 (Int32.toNatClampNeg x1))) 57 0 (Int32.toNatClampNeg (x1 + (1 : Int32))) (gI (wI h 56 0 (Int32.toNatClampNeg (x1 + (1 : Int32))) (gI h 56 0 (Int32.toNatClampNeg x1))) 57 0 (Int32.toNatClampNeg x1)))) kD_X8_pairsWith kM_X8_185 kI_X8_pairsWith kS_X8_pairsWith kN_X8 ⟨(Nat.le_of_ble_eq_true rfl), (Nat.le_of_ble_eq_true rfl)⟩ dX8_goesOn_121 rfl rfl rfl (by decide) rfl (Nat.le_of_ble_eq_true rfl) (Nat.le_of_ble_eq_true rfl) (Nat.le_of_ble_eq_true rfl) (fun _ => rfl) (fun _ => rfl) (fun r1 => ?_)
          refine A_istore_n (pc := 124) (i := 3) (ls2 := [some (vr 8 (some 0)), some (vi x1), some (vi (gI h 53 0 (Int32.toNatClampNeg x1))), some (vi r1)]) dX8_goesOn_124 rfl (Nat.le_of_ble_eq_true rfl) rfl ?_
          refine A_iload_n (pc := 125) (i := 3) dX8_goesOn_125 rfl rfl ?_
          refine A_if_ge (pc := 126) (tgt := 131) dX8_goesOn_126 (by decide) ?_ ?_
          · refine A_aload_n (pc := 131) (i := 0) dX8_goesOn_131 rfl rfl ?_
            refine A_getS (pc := 132) (k := 41) (tp := 58) clX8 (Nat.le_of_ble_eq_true rfl) dX8_goesOn_132 kF_X8_100 rfl rfl rfl ?_
            refine A_iload_n (pc := 135) (i := 2) dX8_goesOn_135 rfl rfl ?_
            refine A_bipush (pc := 136) (v := (6 : Int32)) dX8_goesOn_136 (by decide) ?_
            refine A_aload_n (pc := 138) (i := 0) dX8_goesOn_138 rfl rfl ?_
            refine A_getS (pc := 139) (k := 34) (tp := 54) clX8 (Nat.le_of_ble_eq_true rfl) dX8_goesOn_139 kF_X8_88 rfl rfl rfl ?_
            refine A_iload_n (pc := 142) (i := 1) dX8_goesOn_142 rfl rfl ?_
            refine A_iaload (pc := 143) (n := 11) (by decide) (by decide) rfl dX8_goesOn_143 (by decide) ?_
            refine A_imul (pc := 144) dX8_goesOn_144 ?_
            refine A_aload_n (pc := 145) (i := 0) dX8_goesOn_145 rfl rfl ?_
            refine A_getS (pc := 146) (k := 35) (tp := 55) clX8 (Nat.le_of_ble_eq_true rfl) dX8_goesOn_146 kF_X8_91 rfl rfl rfl ?_
            refine A_iload_n (pc := 149) (i := 1) dX8_goesOn_149 rfl rfl ?_
            refine A_iaload (pc := 150) (n := 11) (by decide) (by decide) rfl dX8_goesOn_150 (by decide) ?_
            refine A_iadd (pc := 151) dX8_goesOn_151 ?_
            refine A_iastore (pc := 152) (n := 6) (by decide) (by decide) rfl dX8_goesOn_152 (by decide) ?_
            refine A_aload_n (pc := 153) (i := 0) dX8_goesOn_153 rfl rfl ?_
            refine A_getS (pc := 154) (k := 34) (tp := 54) clX8 (Nat.le_of_ble_eq_true rfl) dX8_goesOn_154 kF_X8_88 rfl rfl rfl ?_
            refine A_iload_n (pc := 157) (i := 1) dX8_goesOn_157 rfl rfl ?_
            refine A_iconst (pc := 158) (v := (1 : Int32)) dX8_goesOn_158 (by decide) ?_
            refine A_iadd (pc := 159) dX8_goesOn_159 ?_
            refine A_aload_n (pc := 160) (i := 0) dX8_goesOn_160 rfl rfl ?_
            refine A_getS (pc := 161) (k := 34) (tp := 54) clX8 (Nat.le_of_ble_eq_true rfl) dX8_goesOn_161 kF_X8_88 rfl rfl rfl ?_
            refine A_iload_n (pc := 164) (i := 1) dX8_goesOn_164 rfl rfl ?_
            refine A_iaload (pc := 165) (n := 11) (by decide) (by decide) rfl dX8_goesOn_165 (by decide) ?_
            refine A_iastore (pc := 166) (n := 11) (by decide) (by decide) rfl dX8_goesOn_166 (by decide) ?_
            refine A_aload_n (pc := 167) (i := 0) dX8_goesOn_167 rfl rfl ?_
            refine A_getS (pc := 168) (k := 35) (tp := 55) clX8 (Nat.le_of_ble_eq_true rfl) dX8_goesOn_168 kF_X8_91 rfl rfl rfl ?_
            refine A_iload_n (pc := 171) (i := 1) dX8_goesOn_171 rfl rfl ?_
            refine A_iconst (pc := 172) (v := (1 : Int32)) dX8_goesOn_172 (by decide) ?_
            refine A_iadd (pc := 173) dX8_goesOn_173 ?_
            refine A_aload_n (pc := 174) (i := 0) dX8_goesOn_174 rfl rfl ?_
            refine A_getS (pc := 175) (k := 35) (tp := 55) clX8 (Nat.le_of_ble_eq_true rfl) dX8_goesOn_175 kF_X8_91 rfl rfl rfl ?_
            refine A_iload_n (pc := 178) (i := 1) dX8_goesOn_178 rfl rfl ?_
            refine A_iaload (pc := 179) (n := 11) (by decide) (by decide) rfl dX8_goesOn_179 (by decide) ?_
            refine A_iconst (pc := 180) (v := (1 : Int32)) dX8_goesOn_180 (by decide) ?_
            refine A_iadd (pc := 181) dX8_goesOn_181 ?_
            refine A_iastore (pc := 182) (n := 11) (by decide) (by decide) rfl dX8_goesOn_182 (by decide) ?_
            refine A_aload_n (pc := 183) (i := 0) dX8_goesOn_183 rfl rfl ?_
            refine A_getS (pc := 184) (k := 36) (tp := 56) clX8 (Nat.le_of_ble_eq_true rfl) dX8_goesOn_184 kF_X8_94 rfl rfl rfl ?_
            refine A_iload_n (pc := 187) (i := 1) dX8_goesOn_187 rfl rfl ?_
            refine A_iconst (pc := 188) (v := (1 : Int32)) dX8_goesOn_188 (by decide) ?_
            refine A_iadd (pc := 189) dX8_goesOn_189 ?_
            refine A_dup2 (pc := 190) dX8_goesOn_190 (fun _ => rfl) (fun _ => cv_catr _ _) ?_
            refine A_iaload (pc := 191) (n := 11) (by decide) (by decide) rfl dX8_goesOn_191 (by decide) ?_
            refine A_iload_n (pc := 192) (i := 3) dX8_goesOn_192 rfl rfl ?_
            refine A_iadd (pc := 193) dX8_goesOn_193 ?_
            refine A_iastore (pc := 194) (n := 11) (by decide) (by decide) rfl dX8_goesOn_194 (by decide) ?_
            refine A_aload_n (pc := 195) (i := 0) dX8_goesOn_195 rfl rfl ?_
            refine A_getS (pc := 196) (k := 37) (tp := 57) clX8 (Nat.le_of_ble_eq_true rfl) dX8_goesOn_196 kF_X8_97 rfl rfl rfl ?_
            refine A_iload_n (pc := 199) (i := 1) dX8_goesOn_199 rfl rfl ?_
            refine A_iconst (pc := 200) (v := (1 : Int32)) dX8_goesOn_200 (by decide) ?_
            refine A_iadd (pc := 201) dX8_goesOn_201 ?_
            refine A_dup2 (pc := 202) dX8_goesOn_202 (fun _ => rfl) (fun _ => cv_catr _ _) ?_
            refine A_iaload (pc := 203) (n := 11) (by decide) (by decide) rfl dX8_goesOn_203 (by decide) ?_
            refine A_iconst (pc := 204) (v := (1 : Int32)) dX8_goesOn_204 (by decide) ?_
            refine A_iload_n (pc := 205) (i := 2) dX8_goesOn_205 rfl rfl ?_
            refine A_ishl (pc := 206) dX8_goesOn_206 ?_
            refine A_ior (pc := 207) dX8_goesOn_207 ?_
            refine A_iastore (pc := 208) (n := 11) (by decide) (by decide) rfl dX8_goesOn_208 (by decide) ?_
            refine A_iconst (pc := 209) (v := (1 : Int32)) dX8_goesOn_209 (by decide) ?_
            exact A_retB rfl rfl dX8_goesOn_210
          · refine A_iconst (pc := 129) (v := (0 : Int32)) dX8_goesOn_129 (by decide) ?_
            exact A_retB rfl rfl dX8_goesOn_130
        · refine A_iconst (pc := 116) (v := (0 : Int32)) dX8_goesOn_116 (by decide) ?_
          exact A_retB rfl rfl dX8_goesOn_117
  · refine A_aload_n (pc := 41) (i := 0) dX8_goesOn_41 rfl rfl ?_
    refine A_getS (pc := 42) (k := 34) (tp := 54) clX8 (Nat.le_of_ble_eq_true rfl) dX8_goesOn_42 kF_X8_88 rfl rfl rfl ?_
    refine A_iload_n (pc := 45) (i := 1) dX8_goesOn_45 rfl rfl ?_
    refine A_iconst (pc := 46) (v := (1 : Int32)) dX8_goesOn_46 (by decide) ?_
    refine A_iadd (pc := 47) dX8_goesOn_47 ?_
    refine A_aload_n (pc := 48) (i := 0) dX8_goesOn_48 rfl rfl ?_
    refine A_getS (pc := 49) (k := 34) (tp := 54) clX8 (Nat.le_of_ble_eq_true rfl) dX8_goesOn_49 kF_X8_88 rfl rfl rfl ?_
    refine A_iload_n (pc := 52) (i := 1) dX8_goesOn_52 rfl rfl ?_
    refine A_iaload (pc := 53) (n := 11) (by decide) (by decide) rfl dX8_goesOn_53 (by decide) ?_
    refine A_iconst (pc := 54) (v := (1 : Int32)) dX8_goesOn_54 (by decide) ?_
    refine A_iadd (pc := 55) dX8_goesOn_55 ?_
    refine A_iastore (pc := 56) (n := 11) (by decide) (by decide) rfl dX8_goesOn_56 (by decide) ?_
    refine A_aload_n (pc := 57) (i := 0) dX8_goesOn_57 rfl rfl ?_
    refine A_getS (pc := 58) (k := 35) (tp := 55) clX8 (Nat.le_of_ble_eq_true rfl) dX8_goesOn_58 kF_X8_91 rfl rfl rfl ?_
    refine A_iload_n (pc := 61) (i := 1) dX8_goesOn_61 rfl rfl ?_
    refine A_iconst (pc := 62) (v := (1 : Int32)) dX8_goesOn_62 (by decide) ?_
    refine A_iadd (pc := 63) dX8_goesOn_63 ?_
    refine A_iconst (pc := 64) (v := (0 : Int32)) dX8_goesOn_64 (by decide) ?_
    refine A_iastore (pc := 65) (n := 11) (by decide) (by decide) rfl dX8_goesOn_65 (by decide) ?_
    refine A_aload_n (pc := 66) (i := 0) dX8_goesOn_66 rfl rfl ?_
    refine A_getS (pc := 67) (k := 34) (tp := 54) clX8 (Nat.le_of_ble_eq_true rfl) dX8_goesOn_67 kF_X8_88 rfl rfl rfl ?_
    refine A_iload_n (pc := 70) (i := 1) dX8_goesOn_70 rfl rfl ?_
    refine A_iaload (pc := 71) (n := 11) (by decide) (by decide) rfl dX8_goesOn_71 (by decide) ?_
    refine A_iconst (pc := 72) (v := (1 : Int32)) dX8_goesOn_72 (by decide) ?_
    refine A_iadd (pc := 73) dX8_goesOn_73 ?_
    refine A_aload_n (pc := 74) (i := 0) dX8_goesOn_74 rfl rfl ?_
    refine A_getI (pc := 75) (k := 0) clX8 (Nat.le_of_ble_eq_true rfl) dX8_goesOn_75 kF_X8_115 rfl ?_
    refine A_icmp_ge (pc := 78) (tgt := 85) dX8_goesOn_78 (by decide) ?_ ?_
    · refine A_iconst (pc := 85) (v := (0 : Int32)) dX8_goesOn_85 (by decide) ?_
      exact A_retB rfl rfl dX8_goesOn_86
    · refine A_iconst (pc := 81) (v := (1 : Int32)) dX8_goesOn_81 (by decide) ?_
      refine A_goto (pc := 82) (tgt := 86) dX8_goesOn_82 (by decide) ?_
      exact A_retB rfl rfl dX8_goesOn_86

abbrev mX8_ends : MD := (yX8_ends, cX8_ends, 4, none, { frames := 0, cells := 0, slots := 0, locals := 0 }, none)
theorem kD_X8_ends : CodeIn mX8_ends 1 := ⟨kC_X8_ends, by decide +kernel⟩
def fL_X8_ends_78 : Nat → Int32 → Hp → Option Hp
  | 0, _, _ => none
  | n + 1, x3, h => (if (gI h 8 0 31) ≤ x3 then (some h) else (if 0 ≤ x3 ∧ x3 < 6 then (if 0 ≤ x3 ∧ x3 < 6 then ((fL_X8_ends_78 n) (x3 + 1) (wI h 59 0 (Int32.toNatClampNeg x3) (gI h 58 0 (Int32.toNatClampNeg x3)))) else none) else none))
set_option maxRecDepth 100000 in
set_option maxHeartbeats 4000000 in
theorem aL_X8_ends_78 : ∀ (n : Nat) (x3 : Int32) (h : Hp), Aw eV U0 mX8_ends (0, 0) U0 78 [some (vr 8 (some 0)), none, none, some (vi x3)] [] h (fL_X8_ends_78 n x3 h) := by
  intro n
  induction n with
  | zero =>
    intro x3 h
    exact Aw.none
  | succ n ih =>
    intro x3 h
    show Aw _ _ _ _ _ _ _ _ _ (fL_X8_ends_78 (n + 1) x3 h)
    unfold fL_X8_ends_78
    refine A_iload_n (pc := 78) (i := 3) dX8_ends_78 rfl rfl ?_
    refine A_aload_n (pc := 79) (i := 0) dX8_ends_79 rfl rfl ?_
    refine A_getI (pc := 80) (k := 31) clX8 (Nat.le_of_ble_eq_true rfl) dX8_ends_80 kF_X8_182 rfl ?_
    refine A_icmp_ge (pc := 83) (tgt := 104) dX8_ends_83 (by decide) ?_ ?_
    · exact A_retV rfl dX8_ends_104
    · refine A_aload_n (pc := 86) (i := 0) dX8_ends_86 rfl rfl ?_
      refine A_getS (pc := 87) (k := 42) (tp := 59) clX8 (Nat.le_of_ble_eq_true rfl) dX8_ends_87 kF_X8_103 rfl rfl rfl ?_
      refine A_iload_n (pc := 90) (i := 3) dX8_ends_90 rfl rfl ?_
      refine A_aload_n (pc := 91) (i := 0) dX8_ends_91 rfl rfl ?_
      refine A_getS (pc := 92) (k := 41) (tp := 58) clX8 (Nat.le_of_ble_eq_true rfl) dX8_ends_92 kF_X8_100 rfl rfl rfl ?_
      refine A_iload_n (pc := 95) (i := 3) dX8_ends_95 rfl rfl ?_
      refine A_iaload (pc := 96) (n := 6) (by decide) (by decide) rfl dX8_ends_96 (by decide) ?_
      refine A_iastore (pc := 97) (n := 6) (by decide) (by decide) rfl dX8_ends_97 (by decide) ?_
      refine A_iinc (pc := 98) (i := 3) (v := (x3 + 1)) (ls2 := [some (vr 8 (some 0)), none, none, some (vi (x3 + 1))]) dX8_ends_98 rfl rfl (Nat.le_of_ble_eq_true rfl) rfl ?_
      refine A_goto (pc := 101) (tgt := 78) dX8_ends_101 (by decide) ?_
      exact Aw.weak (ls' := [some (vr 8 (some 0)), none, none, some (vi (x3 + 1))]) ⟨rfl, ⟨rfl, trivial⟩⟩ (ih (x3 + 1) (wI h 59 0 (Int32.toNatClampNeg x3) (gI h 58 0 (Int32.toNatClampNeg x3))))
def fJ_X8_ends_61 (x1 : Int32) (x2 : Int32) (h : Hp) : Option Hp := (fL_X8_ends_78 FU (0 : Int32) (wI (wI (wI h 8 0 38 (1 : Int32)) 8 0 39 x1) 8 0 40 x2))
set_option maxRecDepth 100000 in
set_option maxHeartbeats 4000000 in
theorem aJ_X8_ends_61 (x1 : Int32) (x2 : Int32) (h : Hp) : Aw eV U0 mX8_ends (0, 0) U0 61 [some (vr 8 (some 0)), some (vi x1), some (vi x2), none] [] h (fJ_X8_ends_61 x1 x2 h) := by
  unfold fJ_X8_ends_61
  refine A_aload_n (pc := 61) (i := 0) dX8_ends_61 rfl rfl ?_
  refine A_iconst (pc := 62) (v := (1 : Int32)) dX8_ends_62 (by decide) ?_
  refine A_putI (pc := 63) (k := 38) clX8 (Nat.le_of_ble_eq_true rfl) dX8_ends_63 kF_X8_188 rfl (Or.inl rfl) ⟨rfl, rfl⟩ ?_
  refine A_aload_n (pc := 66) (i := 0) dX8_ends_66 rfl rfl ?_
  refine A_iload_n (pc := 67) (i := 1) dX8_ends_67 rfl rfl ?_
  refine A_putI (pc := 68) (k := 39) clX8 (Nat.le_of_ble_eq_true rfl) dX8_ends_68 kF_X8_192 rfl (Or.inl rfl) ⟨rfl, rfl⟩ ?_
  refine A_aload_n (pc := 71) (i := 0) dX8_ends_71 rfl rfl ?_
  refine A_iload_n (pc := 72) (i := 2) dX8_ends_72 rfl rfl ?_
  refine A_putI (pc := 73) (k := 40) clX8 (Nat.le_of_ble_eq_true rfl) dX8_ends_73 kF_X8_195 rfl (Or.inl rfl) ⟨rfl, rfl⟩ ?_
  refine A_iconst (pc := 76) (v := (0 : Int32)) dX8_ends_76 (by decide) ?_
  refine A_istore_n (pc := 77) (i := 3) (ls2 := [some (vr 8 (some 0)), some (vi x1), some (vi x2), some (vi (0 : Int32))]) dX8_ends_77 rfl (Nat.le_of_ble_eq_true rfl) rfl ?_
  exact Aw.weak (ls' := [some (vr 8 (some 0)), none, none, some (vi (0 : Int32))]) ⟨rfl, ⟨rfl, trivial⟩⟩ (aL_X8_ends_78 FU (0 : Int32) (wI (wI (wI h 8 0 38 (1 : Int32)) 8 0 39 x1) 8 0 40 x2))
def fL_X8_ends_4 : Nat → Int32 → Int32 → Int32 → Hp → Option Hp
  | 0, _, _, _, _ => none
  | n + 1, x1, x2, x3, h => (if (gI h 8 0 31) ≤ x3 then (if (gI h 8 0 38) = 0 then (fJ_X8_ends_61 x1 x2 h) else (if x1 < (gI h 8 0 39) then (fJ_X8_ends_61 x1 x2 h) else (if x1 = (gI h 8 0 39) then (if (gI h 8 0 40) ≤ x2 then (some h) else (fJ_X8_ends_61 x1 x2 h)) else (some h)))) else (if 0 ≤ x3 ∧ x3 < 6 then ((fL_X8_ends_4 n) x1 (((24 : Int32) * x2) + (gI h 58 0 (Int32.toNatClampNeg x3))) (x3 + 1) h) else none))
set_option maxRecDepth 100000 in
set_option maxHeartbeats 4000000 in
theorem aL_X8_ends_4 : ∀ (n : Nat) (x1 : Int32) (x2 : Int32) (x3 : Int32) (h : Hp), Aw eV U0 mX8_ends (0, 0) U0 4 [some (vr 8 (some 0)), some (vi x1), some (vi x2), some (vi x3)] [] h (fL_X8_ends_4 n x1 x2 x3 h) := by
  intro n
  induction n with
  | zero =>
    intro x1 x2 x3 h
    exact Aw.none
  | succ n ih =>
    intro x1 x2 x3 h
    show Aw _ _ _ _ _ _ _ _ _ (fL_X8_ends_4 (n + 1) x1 x2 x3 h)
    unfold fL_X8_ends_4
    refine A_iload_n (pc := 4) (i := 3) dX8_ends_4 rfl rfl ?_
    refine A_aload_n (pc := 5) (i := 0) dX8_ends_5 rfl rfl ?_
    refine A_getI (pc := 6) (k := 31) clX8 (Nat.le_of_ble_eq_true rfl) dX8_ends_6 kF_X8_182 rfl ?_
    refine A_icmp_ge (pc := 9) (tgt := 30) dX8_ends_9 (by decide) ?_ ?_
    · refine A_aload_n (pc := 30) (i := 0) dX8_ends_30 rfl rfl ?_
      refine A_getI (pc := 31) (k := 38) clX8 (Nat.le_of_ble_eq_true rfl) dX8_ends_31 kF_X8_188 rfl ?_
      refine A_if_eq (pc := 34) (tgt := 61) dX8_ends_34 (by decide) ?_ ?_
      · exact Aw.weak (ls' := [some (vr 8 (some 0)), some (vi x1), some (vi x2), none]) ⟨rfl, ⟨rfl, ⟨rfl, trivial⟩⟩⟩ (aJ_X8_ends_61 x1 x2 h)
      · refine A_iload_n (pc := 37) (i := 1) dX8_ends_37 rfl rfl ?_
        refine A_aload_n (pc := 38) (i := 0) dX8_ends_38 rfl rfl ?_
        refine A_getI (pc := 39) (k := 39) clX8 (Nat.le_of_ble_eq_true rfl) dX8_ends_39 kF_X8_192 rfl ?_
        refine A_icmp_lt (pc := 42) (tgt := 61) dX8_ends_42 (by decide) ?_ ?_
        · exact Aw.weak (ls' := [some (vr 8 (some 0)), some (vi x1), some (vi x2), none]) ⟨rfl, ⟨rfl, ⟨rfl, trivial⟩⟩⟩ (aJ_X8_ends_61 x1 x2 h)
        · refine A_iload_n (pc := 45) (i := 1) dX8_ends_45 rfl rfl ?_
          refine A_aload_n (pc := 46) (i := 0) dX8_ends_46 rfl rfl ?_
          refine A_getI (pc := 47) (k := 39) clX8 (Nat.le_of_ble_eq_true rfl) dX8_ends_47 kF_X8_192 rfl ?_
          refine A_icmp_ne (pc := 50) (tgt := 104) dX8_ends_50 (by decide) ?_ ?_
          · exact A_retV rfl dX8_ends_104
          · refine A_iload_n (pc := 53) (i := 2) dX8_ends_53 rfl rfl ?_
            refine A_aload_n (pc := 54) (i := 0) dX8_ends_54 rfl rfl ?_
            refine A_getI (pc := 55) (k := 40) clX8 (Nat.le_of_ble_eq_true rfl) dX8_ends_55 kF_X8_195 rfl ?_
            refine A_icmp_ge (pc := 58) (tgt := 104) dX8_ends_58 (by decide) ?_ ?_
            · exact A_retV rfl dX8_ends_104
            · exact Aw.weak (ls' := [some (vr 8 (some 0)), some (vi x1), some (vi x2), none]) ⟨rfl, ⟨rfl, ⟨rfl, trivial⟩⟩⟩ (aJ_X8_ends_61 x1 x2 h)
    · refine A_bipush (pc := 12) (v := (24 : Int32)) dX8_ends_12 (by decide) ?_
      refine A_iload_n (pc := 14) (i := 2) dX8_ends_14 rfl rfl ?_
      refine A_imul (pc := 15) dX8_ends_15 ?_
      refine A_aload_n (pc := 16) (i := 0) dX8_ends_16 rfl rfl ?_
      refine A_getS (pc := 17) (k := 41) (tp := 58) clX8 (Nat.le_of_ble_eq_true rfl) dX8_ends_17 kF_X8_100 rfl rfl rfl ?_
      refine A_iload_n (pc := 20) (i := 3) dX8_ends_20 rfl rfl ?_
      refine A_iaload (pc := 21) (n := 6) (by decide) (by decide) rfl dX8_ends_21 (by decide) ?_
      refine A_iadd (pc := 22) dX8_ends_22 ?_
      refine A_istore_n (pc := 23) (i := 2) (ls2 := [some (vr 8 (some 0)), some (vi x1), some (vi (((24 : Int32) * x2) + (gI h 58 0 (Int32.toNatClampNeg x3)))), some (vi x3)]) dX8_ends_23 rfl (Nat.le_of_ble_eq_true rfl) rfl ?_
      refine A_iinc (pc := 24) (i := 3) (v := (x3 + 1)) (ls2 := [some (vr 8 (some 0)), some (vi x1), some (vi (((24 : Int32) * x2) + (gI h 58 0 (Int32.toNatClampNeg x3)))), some (vi (x3 + 1))]) dX8_ends_24 rfl rfl (Nat.le_of_ble_eq_true rfl) rfl ?_
      refine A_goto (pc := 27) (tgt := 4) dX8_ends_27 (by decide) ?_
      exact Aw.weak (ls' := [some (vr 8 (some 0)), some (vi x1), some (vi (((24 : Int32) * x2) + (gI h 58 0 (Int32.toNatClampNeg x3)))), some (vi (x3 + 1))]) ⟨rfl, ⟨rfl, ⟨rfl, ⟨rfl, trivial⟩⟩⟩⟩ (ih x1 (((24 : Int32) * x2) + (gI h 58 0 (Int32.toNatClampNeg x3))) (x3 + 1) h)
def f_X8_ends (x1 : Int32) (h : Hp) : Option Hp := (fL_X8_ends_4 FU x1 (0 : Int32) (0 : Int32) h)
set_option maxRecDepth 100000 in
set_option maxHeartbeats 4000000 in
theorem a_X8_ends (x1 : Int32) (h : Hp) : CtA eV mX8_ends U0 U0 [vr 8 (some 0), vi x1] h (f_X8_ends x1 h) := by
  refine Ct.of (ls := [some (vr 8 (some 0)), some (vi x1), none, none]) (n := 2) (by decide +kernel) rfl rfl rfl ?_
  unfold f_X8_ends
  refine A_iconst (pc := 0) (v := (0 : Int32)) dX8_ends_0 (by decide) ?_
  refine A_istore_n (pc := 1) (i := 2) (ls2 := [some (vr 8 (some 0)), some (vi x1), some (vi (0 : Int32)), none]) dX8_ends_1 rfl (Nat.le_of_ble_eq_true rfl) rfl ?_
  refine A_iconst (pc := 2) (v := (0 : Int32)) dX8_ends_2 (by decide) ?_
  refine A_istore_n (pc := 3) (i := 3) (ls2 := [some (vr 8 (some 0)), some (vi x1), some (vi (0 : Int32)), some (vi (0 : Int32))]) dX8_ends_3 rfl (Nat.le_of_ble_eq_true rfl) rfl ?_
  exact Aw.weak (ls' := [some (vr 8 (some 0)), some (vi x1), some (vi (0 : Int32)), some (vi (0 : Int32))]) ⟨rfl, ⟨rfl, ⟨rfl, ⟨rfl, trivial⟩⟩⟩⟩ (aL_X8_ends_4 FU x1 (0 : Int32) (0 : Int32) h)

abbrev mX8_findPlacing : MD := (yX8_findPlacing, cX8_findPlacing, 2, none, { frames := 4, cells := 0, slots := 0, locals := 96 }, none)
theorem kD_X8_findPlacing : CodeIn mX8_findPlacing 0 := ⟨kC_X8_findPlacing, by decide +kernel⟩
def fJ_X8_findPlacing_101 (c55 : Int32 → Hp → Option Hp) (x1 : Int32) (h : Hp) : Option Hp := (if 0 ≤ x1 ∧ x1 < 10 then (if (gI h 53 0 (Int32.toNatClampNeg x1)) ≤ (6 : Int32) then (if 0 ≤ (x1 + (1 : Int32)) ∧ (x1 + (1 : Int32)) < 11 then (if (gI h 57 0 (Int32.toNatClampNeg (x1 + (1 : Int32)))) = (((1 : Int32) <<< ((gI h 8 0 31) &&& 31)) - (1 : Int32)) then (if 0 ≤ (x1 + (1 : Int32)) ∧ (x1 + (1 : Int32)) < 11 then ((f_X8_ends (gI h 56 0 (Int32.toNatClampNeg (x1 + (1 : Int32)))) h).bind fun r1 => (c55 x1 r1)) else none) else (if 0 ≤ (x1 + 1) ∧ (x1 + 1) < 10 then (c55 (x1 + 1) (wI h 53 0 (Int32.toNatClampNeg (x1 + 1)) (-1 : Int32))) else none)) else none) else (c55 (x1 + (-1)) h)) else none)
set_option maxRecDepth 100000 in
set_option maxHeartbeats 4000000 in
theorem aJ_X8_findPlacing_101 (c55 : Int32 → Hp → Option Hp) (hc55 : ∀ (x1 : Int32) (h : Hp), Aw eV U0 mX8_findPlacing (0, 0) U0 55 [some (vr 8 (some 0)), some (vi x1)] [] h (c55 x1 h)) (x1 : Int32) (h : Hp) : Aw eV U0 mX8_findPlacing (0, 0) U0 101 [some (vr 8 (some 0)), some (vi x1)] [] h (fJ_X8_findPlacing_101 c55 x1 h) := by
  unfold fJ_X8_findPlacing_101
  refine A_aload_n (pc := 101) (i := 0) dX8_findPlacing_101 rfl rfl ?_
  refine A_getS (pc := 102) (k := 33) (tp := 53) clX8 (Nat.le_of_ble_eq_true rfl) dX8_findPlacing_102 kF_X8_85 rfl rfl rfl ?_
  refine A_iload_n (pc := 105) (i := 1) dX8_findPlacing_105 rfl rfl ?_
  refine A_iaload (pc := 106) (n := 10) (by decide) (by decide) rfl dX8_findPlacing_106 (by decide) ?_
  refine A_bipush (pc := 107) (v := (6 : Int32)) dX8_findPlacing_107 (by decide) ?_
  refine A_icmp_le (pc := 109) (tgt := 118) dX8_findPlacing_109 (by decide) ?_ ?_
  · refine A_aload_n (pc := 118) (i := 0) dX8_findPlacing_118 rfl rfl ?_
    refine A_getS (pc := 119) (k := 37) (tp := 57) clX8 (Nat.le_of_ble_eq_true rfl) dX8_findPlacing_119 kF_X8_97 rfl rfl rfl ?_
    refine A_iload_n (pc := 122) (i := 1) dX8_findPlacing_122 rfl rfl ?_
    refine A_iconst (pc := 123) (v := (1 : Int32)) dX8_findPlacing_123 (by decide) ?_
    refine A_iadd (pc := 124) dX8_findPlacing_124 ?_
    refine A_iaload (pc := 125) (n := 11) (by decide) (by decide) rfl dX8_findPlacing_125 (by decide) ?_
    refine A_iconst (pc := 126) (v := (1 : Int32)) dX8_findPlacing_126 (by decide) ?_
    refine A_aload_n (pc := 127) (i := 0) dX8_findPlacing_127 rfl rfl ?_
    refine A_getI (pc := 128) (k := 31) clX8 (Nat.le_of_ble_eq_true rfl) dX8_findPlacing_128 kF_X8_182 rfl ?_
    refine A_ishl (pc := 131) dX8_findPlacing_131 ?_
    refine A_iconst (pc := 132) (v := (1 : Int32)) dX8_findPlacing_132 (by decide) ?_
    refine A_isub (pc := 133) dX8_findPlacing_133 ?_
    refine A_icmp_ne (pc := 134) (tgt := 152) dX8_findPlacing_134 (by decide) ?_ ?_
    · refine A_iinc (pc := 152) (i := 1) (v := (x1 + 1)) (ls2 := [some (vr 8 (some 0)), some (vi (x1 + 1))]) dX8_findPlacing_152 rfl rfl (Nat.le_of_ble_eq_true rfl) rfl ?_
      refine A_aload_n (pc := 155) (i := 0) dX8_findPlacing_155 rfl rfl ?_
      refine A_getS (pc := 156) (k := 33) (tp := 53) clX8 (Nat.le_of_ble_eq_true rfl) dX8_findPlacing_156 kF_X8_85 rfl rfl rfl ?_
      refine A_iload_n (pc := 159) (i := 1) dX8_findPlacing_159 rfl rfl ?_
      refine A_iconst (pc := 160) (v := (-1 : Int32)) dX8_findPlacing_160 (by decide) ?_
      refine A_iastore (pc := 161) (n := 10) (by decide) (by decide) rfl dX8_findPlacing_161 (by decide) ?_
      refine A_goto (pc := 162) (tgt := 55) dX8_findPlacing_162 (by decide) ?_
      exact Aw.weak (ls' := [some (vr 8 (some 0)), some (vi (x1 + 1))]) ⟨rfl, ⟨rfl, trivial⟩⟩ (hc55 (x1 + 1) (wI h 53 0 (Int32.toNatClampNeg (x1 + 1)) (-1 : Int32)))
    · refine A_aload_n (pc := 137) (i := 0) dX8_findPlacing_137 rfl rfl ?_
      refine A_aload_n (pc := 138) (i := 0) dX8_findPlacing_138 rfl rfl ?_
      refine A_getS (pc := 139) (k := 36) (tp := 56) clX8 (Nat.le_of_ble_eq_true rfl) dX8_findPlacing_139 kF_X8_94 rfl rfl rfl ?_
      refine A_iload_n (pc := 142) (i := 1) dX8_findPlacing_142 rfl rfl ?_
      refine A_iconst (pc := 143) (v := (1 : Int32)) dX8_findPlacing_143 (by decide) ?_
      refine A_iadd (pc := 144) dX8_findPlacing_144 ?_
      refine A_iaload (pc := 145) (n := 11) (by decide) (by decide) rfl dX8_findPlacing_145 (by decide) ?_
      refine A_callV (pc := 146) (M' := mX8_ends) (As := [vi (gI h 56 0 (Int32.toNatClampNeg (x1 + (1 : Int32))))]) (st := []) (0, 0) (fun r1 => []) (fun r1 => r1) (a_X8_ends (gI h 56 0 (Int32.toNatClampNeg (x1 + (1 : Int32)))) h) kD_X8_ends kM_X8_198 kI_X8_ends kS_X8_ends kN_X8 ⟨(Nat.le_of_ble_eq_true rfl), (Nat.le_of_ble_eq_true rfl)⟩ dX8_findPlacing_146 rfl rfl rfl (by decide) rfl (Nat.le_of_ble_eq_true rfl) (Nat.le_of_ble_eq_true rfl) (Nat.le_of_ble_eq_true rfl) (fun _ => rfl) (fun _ => rfl) (fun r1 => ?_)
      refine A_goto (pc := 149) (tgt := 55) dX8_findPlacing_149 (by decide) ?_
      exact Aw.weak (ls' := [some (vr 8 (some 0)), some (vi x1)]) ⟨rfl, ⟨rfl, trivial⟩⟩ (hc55 x1 r1)
  · refine A_iinc (pc := 112) (i := 1) (v := (x1 + (-1))) (ls2 := [some (vr 8 (some 0)), some (vi (x1 + (-1)))]) dX8_findPlacing_112 rfl rfl (Nat.le_of_ble_eq_true rfl) rfl ?_
    refine A_goto (pc := 115) (tgt := 55) dX8_findPlacing_115 (by decide) ?_
    exact Aw.weak (ls' := [some (vr 8 (some 0)), some (vi (x1 + (-1)))]) ⟨rfl, ⟨rfl, trivial⟩⟩ (hc55 (x1 + (-1)) h)
def fL_X8_findPlacing_69 (c55 : Int32 → Hp → Option Hp) : Nat → Int32 → Hp → Option Hp
  | 0, _, _ => none
  | n + 1, x1, h => (if 0 ≤ x1 ∧ x1 < 10 then (if (6 : Int32) < (gI h 53 0 (Int32.toNatClampNeg x1)) then (fJ_X8_findPlacing_101 c55 x1 h) else ((f_X8_goesOn x1 h).bind fun r2 => (if r2.1 = true then (fJ_X8_findPlacing_101 c55 x1 r2.2) else (if 0 ≤ x1 ∧ x1 < 10 then (if 0 ≤ x1 ∧ x1 < 10 then ((fL_X8_findPlacing_69 c55 n) x1 (wI r2.2 53 0 (Int32.toNatClampNeg x1) ((gI r2.2 53 0 (Int32.toNatClampNeg x1)) + (1 : Int32)))) else none) else none)))) else none)
set_option maxRecDepth 100000 in
set_option maxHeartbeats 4000000 in
theorem aL_X8_findPlacing_69 (c55 : Int32 → Hp → Option Hp) (hc55 : ∀ (x1 : Int32) (h : Hp), Aw eV U0 mX8_findPlacing (0, 0) U0 55 [some (vr 8 (some 0)), some (vi x1)] [] h (c55 x1 h)) : ∀ (n : Nat) (x1 : Int32) (h : Hp), Aw eV U0 mX8_findPlacing (0, 0) U0 69 [some (vr 8 (some 0)), some (vi x1)] [] h (fL_X8_findPlacing_69 c55 n x1 h) := by
  intro n
  induction n with
  | zero =>
    intro x1 h
    exact Aw.none
  | succ n ih =>
    intro x1 h
    show Aw _ _ _ _ _ _ _ _ _ (fL_X8_findPlacing_69 c55 (n + 1) x1 h)
    unfold fL_X8_findPlacing_69
    refine A_aload_n (pc := 69) (i := 0) dX8_findPlacing_69 rfl rfl ?_
    refine A_getS (pc := 70) (k := 33) (tp := 53) clX8 (Nat.le_of_ble_eq_true rfl) dX8_findPlacing_70 kF_X8_85 rfl rfl rfl ?_
    refine A_iload_n (pc := 73) (i := 1) dX8_findPlacing_73 rfl rfl ?_
    refine A_iaload (pc := 74) (n := 10) (by decide) (by decide) rfl dX8_findPlacing_74 (by decide) ?_
    refine A_bipush (pc := 75) (v := (6 : Int32)) dX8_findPlacing_75 (by decide) ?_
    refine A_icmp_gt (pc := 77) (tgt := 101) dX8_findPlacing_77 (by decide) ?_ ?_
    · exact Aw.weak (ls' := [some (vr 8 (some 0)), some (vi x1)]) ⟨rfl, ⟨rfl, trivial⟩⟩ (aJ_X8_findPlacing_101 c55 hc55 x1 h)
    · refine A_aload_n (pc := 80) (i := 0) dX8_findPlacing_80 rfl rfl ?_
      refine A_iload_n (pc := 81) (i := 1) dX8_findPlacing_81 rfl rfl ?_
      refine A_callV (pc := 82) (M' := mX8_goesOn) (As := [vi x1]) (st := []) (0, 0) (fun r2 => [vi (bi r2.1)]) (fun r2 => r2.2) (a_X8_goesOn x1 h) kD_X8_goesOn kM_X8_201 kI_X8_goesOn kS_X8_goesOn kN_X8 ⟨(Nat.le_of_ble_eq_true rfl), (Nat.le_of_ble_eq_true rfl)⟩ dX8_findPlacing_82 rfl rfl rfl (by decide) rfl (Nat.le_of_ble_eq_true rfl) (Nat.le_of_ble_eq_true rfl) (Nat.le_of_ble_eq_true rfl) (fun _ => rfl) (fun _ => rfl) (fun r2 => ?_)
      refine A_ifb_ne (pc := 85) (tgt := 101) dX8_findPlacing_85 (by decide) ?_ ?_
      · exact Aw.weak (ls' := [some (vr 8 (some 0)), some (vi x1)]) ⟨rfl, ⟨rfl, trivial⟩⟩ (aJ_X8_findPlacing_101 c55 hc55 x1 r2.2)
      · refine A_aload_n (pc := 88) (i := 0) dX8_findPlacing_88 rfl rfl ?_
        refine A_getS (pc := 89) (k := 33) (tp := 53) clX8 (Nat.le_of_ble_eq_true rfl) dX8_findPlacing_89 kF_X8_85 rfl rfl rfl ?_
        refine A_iload_n (pc := 92) (i := 1) dX8_findPlacing_92 rfl rfl ?_
        refine A_dup2 (pc := 93) dX8_findPlacing_93 (fun _ => rfl) (fun _ => cv_catr _ _) ?_
        refine A_iaload (pc := 94) (n := 10) (by decide) (by decide) rfl dX8_findPlacing_94 (by decide) ?_
        refine A_iconst (pc := 95) (v := (1 : Int32)) dX8_findPlacing_95 (by decide) ?_
        refine A_iadd (pc := 96) dX8_findPlacing_96 ?_
        refine A_iastore (pc := 97) (n := 10) (by decide) (by decide) rfl dX8_findPlacing_97 (by decide) ?_
        refine A_goto (pc := 98) (tgt := 69) dX8_findPlacing_98 (by decide) ?_
        exact Aw.weak (ls' := [some (vr 8 (some 0)), some (vi x1)]) ⟨rfl, ⟨rfl, trivial⟩⟩ (ih x1 (wI r2.2 53 0 (Int32.toNatClampNeg x1) ((gI r2.2 53 0 (Int32.toNatClampNeg x1)) + (1 : Int32))))
def fL_X8_findPlacing_55 : Nat → Int32 → Hp → Option Hp
  | 0, _, _ => none
  | n + 1, x1, h => (if x1 < 0 then (some h) else (if 0 ≤ x1 ∧ x1 < 10 then (if 0 ≤ x1 ∧ x1 < 10 then (fL_X8_findPlacing_69 (fL_X8_findPlacing_55 n) FU x1 (wI h 53 0 (Int32.toNatClampNeg x1) ((gI h 53 0 (Int32.toNatClampNeg x1)) + (1 : Int32)))) else none) else none))
set_option maxRecDepth 100000 in
set_option maxHeartbeats 4000000 in
theorem aL_X8_findPlacing_55 : ∀ (n : Nat) (x1 : Int32) (h : Hp), Aw eV U0 mX8_findPlacing (0, 0) U0 55 [some (vr 8 (some 0)), some (vi x1)] [] h (fL_X8_findPlacing_55 n x1 h) := by
  intro n
  induction n with
  | zero =>
    intro x1 h
    exact Aw.none
  | succ n ih =>
    intro x1 h
    show Aw _ _ _ _ _ _ _ _ _ (fL_X8_findPlacing_55 (n + 1) x1 h)
    unfold fL_X8_findPlacing_55
    refine A_iload_n (pc := 55) (i := 1) dX8_findPlacing_55 rfl rfl ?_
    refine A_if_lt (pc := 56) (tgt := 165) dX8_findPlacing_56 (by decide) ?_ ?_
    · exact A_retV rfl dX8_findPlacing_165
    · refine A_aload_n (pc := 59) (i := 0) dX8_findPlacing_59 rfl rfl ?_
      refine A_getS (pc := 60) (k := 33) (tp := 53) clX8 (Nat.le_of_ble_eq_true rfl) dX8_findPlacing_60 kF_X8_85 rfl rfl rfl ?_
      refine A_iload_n (pc := 63) (i := 1) dX8_findPlacing_63 rfl rfl ?_
      refine A_dup2 (pc := 64) dX8_findPlacing_64 (fun _ => rfl) (fun _ => cv_catr _ _) ?_
      refine A_iaload (pc := 65) (n := 10) (by decide) (by decide) rfl dX8_findPlacing_65 (by decide) ?_
      refine A_iconst (pc := 66) (v := (1 : Int32)) dX8_findPlacing_66 (by decide) ?_
      refine A_iadd (pc := 67) dX8_findPlacing_67 ?_
      refine A_iastore (pc := 68) (n := 10) (by decide) (by decide) rfl dX8_findPlacing_68 (by decide) ?_
      exact Aw.weak (ls' := [some (vr 8 (some 0)), some (vi x1)]) ⟨rfl, ⟨rfl, trivial⟩⟩ (aL_X8_findPlacing_69 (fL_X8_findPlacing_55 n) ih FU x1 (wI h 53 0 (Int32.toNatClampNeg x1) ((gI h 53 0 (Int32.toNatClampNeg x1)) + (1 : Int32))))
def f_X8_findPlacing (h : Hp) : Option Hp := (if (gI (wI (wI (wI (wI (wI h 8 0 38 (0 : Int32)) 54 0 (Int32.toNatClampNeg (0 : Int32)) (0 : Int32)) 55 0 (Int32.toNatClampNeg (0 : Int32)) (0 : Int32)) 56 0 (Int32.toNatClampNeg (0 : Int32)) (0 : Int32)) 57 0 (Int32.toNatClampNeg (0 : Int32)) (0 : Int32)) 8 0 31) = 0 then ((f_X8_ends (0 : Int32) (wI (wI (wI (wI (wI h 8 0 38 (0 : Int32)) 54 0 (Int32.toNatClampNeg (0 : Int32)) (0 : Int32)) 55 0 (Int32.toNatClampNeg (0 : Int32)) (0 : Int32)) 56 0 (Int32.toNatClampNeg (0 : Int32)) (0 : Int32)) 57 0 (Int32.toNatClampNeg (0 : Int32)) (0 : Int32))).bind fun r3 => (some r3)) else (fL_X8_findPlacing_55 FU (0 : Int32) (wI (wI (wI (wI (wI (wI h 8 0 38 (0 : Int32)) 54 0 (Int32.toNatClampNeg (0 : Int32)) (0 : Int32)) 55 0 (Int32.toNatClampNeg (0 : Int32)) (0 : Int32)) 56 0 (Int32.toNatClampNeg (0 : Int32)) (0 : Int32)) 57 0 (Int32.toNatClampNeg (0 : Int32)) (0 : Int32)) 53 0 (Int32.toNatClampNeg (0 : Int32)) (-1 : Int32))))
set_option maxRecDepth 100000 in
set_option maxHeartbeats 4000000 in
theorem a_X8_findPlacing (h : Hp) : CtA eV mX8_findPlacing U0 U0 [vr 8 (some 0)] h (f_X8_findPlacing h) := by
  refine Ct.of (ls := [some (vr 8 (some 0)), none]) (n := 1) (by decide +kernel) rfl rfl rfl ?_
  unfold f_X8_findPlacing
  refine A_aload_n (pc := 0) (i := 0) dX8_findPlacing_0 rfl rfl ?_
  refine A_iconst (pc := 1) (v := (0 : Int32)) dX8_findPlacing_1 (by decide) ?_
  refine A_putI (pc := 2) (k := 38) clX8 (Nat.le_of_ble_eq_true rfl) dX8_findPlacing_2 kF_X8_188 rfl (Or.inl rfl) ⟨rfl, rfl⟩ ?_
  refine A_aload_n (pc := 5) (i := 0) dX8_findPlacing_5 rfl rfl ?_
  refine A_getS (pc := 6) (k := 34) (tp := 54) clX8 (Nat.le_of_ble_eq_true rfl) dX8_findPlacing_6 kF_X8_88 rfl rfl rfl ?_
  refine A_iconst (pc := 9) (v := (0 : Int32)) dX8_findPlacing_9 (by decide) ?_
  refine A_iconst (pc := 10) (v := (0 : Int32)) dX8_findPlacing_10 (by decide) ?_
  refine Aw.ifT (q := 0 ≤ (0 : Int32) ∧ (0 : Int32) < 11) (Y := none) (by decide) ?_
  refine A_iastore (pc := 11) (n := 11) (by decide) (by decide) rfl dX8_findPlacing_11 (by decide) ?_
  refine A_aload_n (pc := 12) (i := 0) dX8_findPlacing_12 rfl rfl ?_
  refine A_getS (pc := 13) (k := 35) (tp := 55) clX8 (Nat.le_of_ble_eq_true rfl) dX8_findPlacing_13 kF_X8_91 rfl rfl rfl ?_
  refine A_iconst (pc := 16) (v := (0 : Int32)) dX8_findPlacing_16 (by decide) ?_
  refine A_iconst (pc := 17) (v := (0 : Int32)) dX8_findPlacing_17 (by decide) ?_
  refine Aw.ifT (q := 0 ≤ (0 : Int32) ∧ (0 : Int32) < 11) (Y := none) (by decide) ?_
  refine A_iastore (pc := 18) (n := 11) (by decide) (by decide) rfl dX8_findPlacing_18 (by decide) ?_
  refine A_aload_n (pc := 19) (i := 0) dX8_findPlacing_19 rfl rfl ?_
  refine A_getS (pc := 20) (k := 36) (tp := 56) clX8 (Nat.le_of_ble_eq_true rfl) dX8_findPlacing_20 kF_X8_94 rfl rfl rfl ?_
  refine A_iconst (pc := 23) (v := (0 : Int32)) dX8_findPlacing_23 (by decide) ?_
  refine A_iconst (pc := 24) (v := (0 : Int32)) dX8_findPlacing_24 (by decide) ?_
  refine Aw.ifT (q := 0 ≤ (0 : Int32) ∧ (0 : Int32) < 11) (Y := none) (by decide) ?_
  refine A_iastore (pc := 25) (n := 11) (by decide) (by decide) rfl dX8_findPlacing_25 (by decide) ?_
  refine A_aload_n (pc := 26) (i := 0) dX8_findPlacing_26 rfl rfl ?_
  refine A_getS (pc := 27) (k := 37) (tp := 57) clX8 (Nat.le_of_ble_eq_true rfl) dX8_findPlacing_27 kF_X8_97 rfl rfl rfl ?_
  refine A_iconst (pc := 30) (v := (0 : Int32)) dX8_findPlacing_30 (by decide) ?_
  refine A_iconst (pc := 31) (v := (0 : Int32)) dX8_findPlacing_31 (by decide) ?_
  refine Aw.ifT (q := 0 ≤ (0 : Int32) ∧ (0 : Int32) < 11) (Y := none) (by decide) ?_
  refine A_iastore (pc := 32) (n := 11) (by decide) (by decide) rfl dX8_findPlacing_32 (by decide) ?_
  refine A_aload_n (pc := 33) (i := 0) dX8_findPlacing_33 rfl rfl ?_
  refine A_getI (pc := 34) (k := 31) clX8 (Nat.le_of_ble_eq_true rfl) dX8_findPlacing_34 kF_X8_182 rfl ?_
  refine A_if_ne (pc := 37) (tgt := 46) dX8_findPlacing_37 (by decide) ?_ ?_
  · refine A_iconst (pc := 46) (v := (0 : Int32)) dX8_findPlacing_46 (by decide) ?_
    refine A_istore_n (pc := 47) (i := 1) (ls2 := [some (vr 8 (some 0)), some (vi (0 : Int32))]) dX8_findPlacing_47 rfl (Nat.le_of_ble_eq_true rfl) rfl ?_
    refine A_aload_n (pc := 48) (i := 0) dX8_findPlacing_48 rfl rfl ?_
    refine A_getS (pc := 49) (k := 33) (tp := 53) clX8 (Nat.le_of_ble_eq_true rfl) dX8_findPlacing_49 kF_X8_85 rfl rfl rfl ?_
    refine A_iconst (pc := 52) (v := (0 : Int32)) dX8_findPlacing_52 (by decide) ?_
    refine A_iconst (pc := 53) (v := (-1 : Int32)) dX8_findPlacing_53 (by decide) ?_
    refine Aw.ifT (q := 0 ≤ (0 : Int32) ∧ (0 : Int32) < 10) (Y := none) (by decide) ?_
    refine A_iastore (pc := 54) (n := 10) (by decide) (by decide) rfl dX8_findPlacing_54 (by decide) ?_
    exact Aw.weak (ls' := [some (vr 8 (some 0)), some (vi (0 : Int32))]) ⟨rfl, ⟨rfl, trivial⟩⟩ (aL_X8_findPlacing_55 FU (0 : Int32) (wI (wI (wI (wI (wI (wI h 8 0 38 (0 : Int32)) 54 0 (Int32.toNatClampNeg (0 : Int32)) (0 : Int32)) 55 0 (Int32.toNatClampNeg (0 : Int32)) (0 : Int32)) 56 0 (Int32.toNatClampNeg (0 : Int32)) (0 : Int32)) 57 0 (Int32.toNatClampNeg (0 : Int32)) (0 : Int32)) 53 0 (Int32.toNatClampNeg (0 : Int32)) (-1 : Int32)))
  · refine A_aload_n (pc := 40) (i := 0) dX8_findPlacing_40 rfl rfl ?_
    refine A_iconst (pc := 41) (v := (0 : Int32)) dX8_findPlacing_41 (by decide) ?_
    refine A_callV (pc := 42) (M' := mX8_ends) (As := [vi (0 : Int32)]) (st := []) (0, 0) (fun r3 => []) (fun r3 => r3) (a_X8_ends (0 : Int32) (wI (wI (wI (wI (wI h 8 0 38 (0 : Int32)) 54 0 (Int32.toNatClampNeg (0 : Int32)) (0 : Int32)) 55 0 (Int32.toNatClampNeg (0 : Int32)) (0 : Int32)) 56 0 (Int32.toNatClampNeg (0 : Int32)) (0 : Int32)) 57 0 (Int32.toNatClampNeg (0 : Int32)) (0 : Int32))) kD_X8_ends kM_X8_198 kI_X8_ends kS_X8_ends kN_X8 ⟨(Nat.le_of_ble_eq_true rfl), (Nat.le_of_ble_eq_true rfl)⟩ dX8_findPlacing_42 rfl rfl rfl (by decide) rfl (Nat.le_of_ble_eq_true rfl) (Nat.le_of_ble_eq_true rfl) (Nat.le_of_ble_eq_true rfl) (fun _ => rfl) (fun _ => rfl) (fun r3 => ?_)
    exact A_retV rfl dX8_findPlacing_45
