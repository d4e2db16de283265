abbrev mX8_isSheet : MD := (yX8_isSheet, cX8_isSheet, 1, (some .boolean), { frames := 1, cells := 0, slots := 0, locals := 22 }, none)
theorem kD_X8_isSheet : CodeIn mX8_isSheet 1 := ⟨kC_X8_isSheet, by decide +kernel⟩
def f_X8_isSheet (x0 : Int32) (h : Hp) : Option Bool := ((f_X8_within x0 (0 : Int32) (3 : Int32) h).bind fun r1 => (some r1))
set_option maxRecDepth 100000 in
set_option maxHeartbeats 4000000 in
theorem a_X8_isSheet (x0 : Int32) (h : Hp) : CtA (eBr h) mX8_isSheet U0 U0 [vi x0] h (f_X8_isSheet x0 h) := by
  refine Ct.of (ls := [some (vi x0)]) (n := 0) (by decide +kernel) rfl rfl rfl ?_
  unfold f_X8_isSheet
  refine A_iload_n (pc := 0) (i := 0) dX8_isSheet_0 rfl rfl ?_
  refine A_iconst (pc := 1) (v := (0 : Int32)) dX8_isSheet_1 (by decide) ?_
  refine A_iconst (pc := 2) (v := (3 : Int32)) dX8_isSheet_2 (by decide) ?_
  refine A_callS (pc := 3) (M' := mX8_within) (As := [vi x0, vi (0 : Int32), vi (3 : Int32)]) (st := []) (0, 0) (fun r1 => [vi (bi r1)]) (fun _ => h) (a_X8_within x0 (0 : Int32) (3 : Int32) h) kD_X8_within kM_X8_118 kT_X8_within kN_X8 ⟨(Nat.le_of_ble_eq_true rfl), (Nat.le_of_ble_eq_true rfl)⟩ dX8_isSheet_3 rfl rfl (Nat.le_of_ble_eq_true rfl) (Nat.le_of_ble_eq_true rfl) (Nat.le_of_ble_eq_true rfl) (fun _ => rfl) (fun _ => rfl) (fun r1 => ?_)
  exact A_retBr rfl rfl dX8_isSheet_6

abbrev mX8_sheet : MD := (yX8_sheet, cX8_sheet, 5, (some .int), { frames := 2, cells := 0, slots := 0, locals := 42 }, none)
theorem kD_X8_sheet : CodeIn mX8_sheet 3 := ⟨kC_X8_sheet, by decide +kernel⟩
def fL_X8_sheet_85 : Nat → Int32 → Int32 → Hp → Option (Int32 × Hp)
  | 0, _, _, _ => none
  | n + 1, x1, x4, h => (if (8 : Int32) ≤ x4 then (if 0 ≤ x1 ∧ x1 < 4 then (some ((gI h 50 0 (Int32.toNatClampNeg x1)), h)) else none) else (if 0 ≤ (((8 : Int32) * x1) + x4) ∧ (((8 : Int32) * x1) + x4) < 32 then ((fL_X8_sheet_85 n) x1 (x4 + 1) (wI h 51 0 (Int32.toNatClampNeg (((8 : Int32) * x1) + x4)) (0 : Int32))) else none))
set_option maxRecDepth 100000 in
set_option maxHeartbeats 4000000 in
theorem aL_X8_sheet_85 : ∀ (n : Nat) (x1 : Int32) (x4 : Int32) (h : Hp), Aw eI U0 mX8_sheet (0, 0) U0 85 [some (vr 8 (some 0)), some (vi x1), none, none, some (vi x4)] [] h (fL_X8_sheet_85 n x1 x4 h) := by
  intro n
  induction n with
  | zero =>
    intro x1 x4 h
    exact Aw.none
  | succ n ih =>
    intro x1 x4 h
    show Aw _ _ _ _ _ _ _ _ _ (fL_X8_sheet_85 (n + 1) x1 x4 h)
    unfold fL_X8_sheet_85
    refine A_iload (pc := 85) (i := 4) dX8_sheet_85 rfl ?_
    refine A_bipush (pc := 87) (v := (8 : Int32)) dX8_sheet_87 (by decide) ?_
    refine A_icmp_ge (pc := 89) (tgt := 111) dX8_sheet_89 (by decide) ?_ ?_
    · refine A_aload_n (pc := 111) (i := 0) dX8_sheet_111 rfl rfl ?_
      refine A_getS (pc := 112) (k := 28) (tp := 50) clX8 (Nat.le_of_ble_eq_true rfl) dX8_sheet_112 kF_X8_76 rfl rfl rfl ?_
      refine A_iload_n (pc := 115) (i := 1) dX8_sheet_115 rfl rfl ?_
      refine A_iaload (pc := 116) (n := 4) (by decide) (by decide) rfl dX8_sheet_116 (by decide) ?_
      exact A_retI rfl dX8_sheet_117
    · refine A_aload_n (pc := 92) (i := 0) dX8_sheet_92 rfl rfl ?_
      refine A_getS (pc := 93) (k := 29) (tp := 51) clX8 (Nat.le_of_ble_eq_true rfl) dX8_sheet_93 kF_X8_79 rfl rfl rfl ?_
      refine A_bipush (pc := 96) (v := (8 : Int32)) dX8_sheet_96 (by decide) ?_
      refine A_iload_n (pc := 98) (i := 1) dX8_sheet_98 rfl rfl ?_
      refine A_imul (pc := 99) dX8_sheet_99 ?_
      refine A_iload (pc := 100) (i := 4) dX8_sheet_100 rfl ?_
      refine A_iadd (pc := 102) dX8_sheet_102 ?_
      refine A_iconst (pc := 103) (v := (0 : Int32)) dX8_sheet_103 (by decide) ?_
      refine A_iastore (pc := 104) (n := 32) (by decide) (by decide) rfl dX8_sheet_104 (by decide) ?_
      refine A_iinc (pc := 105) (i := 4) (v := (x4 + 1)) (ls2 := [some (vr 8 (some 0)), some (vi x1), none, none, some (vi (x4 + 1))]) dX8_sheet_105 rfl rfl (Nat.le_of_ble_eq_true rfl) rfl ?_
      refine A_goto (pc := 108) (tgt := 85) dX8_sheet_108 (by decide) ?_
      exact Aw.weak (ls' := [some (vr 8 (some 0)), some (vi x1), none, none, some (vi (x4 + 1))]) ⟨rfl, ⟨rfl, ⟨rfl, trivial⟩⟩⟩ (ih x1 (x4 + 1) (wI h 51 0 (Int32.toNatClampNeg (((8 : Int32) * x1) + x4)) (0 : Int32)))
def fJ_X8_sheet_36 (x1 : Int32) (x2 : Int32) (x3 : Int32) (h : Hp) : Option (Int32 × Hp) := (if 0 ≤ x3 then (if x3 ≤ (8 : Int32) then (if 0 ≤ x1 ∧ x1 < 4 then (if x2 = 0 then (if 0 ≤ x1 ∧ x1 < 4 then (fL_X8_sheet_85 FU x1 (0 : Int32) (wI (wI h 49 0 (Int32.toNatClampNeg x1) x2) 50 0 (Int32.toNatClampNeg x1) (0 : Int32))) else none) else (if 0 ≤ x1 ∧ x1 < 4 then (fL_X8_sheet_85 FU x1 (0 : Int32) (wI (wI h 49 0 (Int32.toNatClampNeg x1) x2) 50 0 (Int32.toNatClampNeg x1) x3)) else none)) else none) else ((f_X8_finding (-1000001 : Int32) h).bind fun r3 => (some (r3.1, r3.2)))) else ((f_X8_finding (-1000007 : Int32) h).bind fun r4 => (some (r4.1, r4.2))))
set_option maxRecDepth 100000 in
set_option maxHeartbeats 4000000 in
theorem aJ_X8_sheet_36 (x1 : Int32) (x2 : Int32) (x3 : Int32) (h : Hp) : Aw eI U0 mX8_sheet (0, 0) U0 36 [some (vr 8 (some 0)), some (vi x1), some (vi x2), some (vi x3), none] [] h (fJ_X8_sheet_36 x1 x2 x3 h) := by
  unfold fJ_X8_sheet_36
  refine A_iload_n (pc := 36) (i := 3) dX8_sheet_36 rfl rfl ?_
  refine A_if_ge (pc := 37) (tgt := 47) dX8_sheet_37 (by decide) ?_ ?_
  · refine A_iload_n (pc := 47) (i := 3) dX8_sheet_47 rfl rfl ?_
    refine A_bipush (pc := 48) (v := (8 : Int32)) dX8_sheet_48 (by decide) ?_
    refine A_icmp_le (pc := 50) (tgt := 60) dX8_sheet_50 (by decide) ?_ ?_
    · refine A_aload_n (pc := 60) (i := 0) dX8_sheet_60 rfl rfl ?_
      refine A_getS (pc := 61) (k := 27) (tp := 49) clX8 (Nat.le_of_ble_eq_true rfl) dX8_sheet_61 kF_X8_73 rfl rfl rfl ?_
      refine A_iload_n (pc := 64) (i := 1) dX8_sheet_64 rfl rfl ?_
      refine A_iload_n (pc := 65) (i := 2) dX8_sheet_65 rfl rfl ?_
      refine A_iastore (pc := 66) (n := 4) (by decide) (by decide) rfl dX8_sheet_66 (by decide) ?_
      refine A_aload_n (pc := 67) (i := 0) dX8_sheet_67 rfl rfl ?_
      refine A_getS (pc := 68) (k := 28) (tp := 50) clX8 (Nat.le_of_ble_eq_true rfl) dX8_sheet_68 kF_X8_76 rfl rfl rfl ?_
      refine A_iload_n (pc := 71) (i := 1) dX8_sheet_71 rfl rfl ?_
      refine A_iload_n (pc := 72) (i := 2) dX8_sheet_72 rfl rfl ?_
      refine A_if_ne (pc := 73) (tgt := 80) dX8_sheet_73 (by decide) ?_ ?_
      · refine A_iload_n (pc := 80) (i := 3) dX8_sheet_80 rfl rfl ?_
        refine A_iastore (pc := 81) (n := 4) (by decide) (by decide) rfl dX8_sheet_81 (by decide) ?_
        refine A_iconst (pc := 82) (v := (0 : Int32)) dX8_sheet_82 (by decide) ?_
        refine A_istore (pc := 83) (i := 4) (ls2 := [some (vr 8 (some 0)), some (vi x1), some (vi x2), some (vi x3), some (vi (0 : Int32))]) dX8_sheet_83 (Nat.le_of_ble_eq_true rfl) rfl ?_
        exact Aw.weak (ls' := [some (vr 8 (some 0)), some (vi x1), none, none, some (vi (0 : Int32))]) ⟨rfl, ⟨rfl, ⟨rfl, trivial⟩⟩⟩ (aL_X8_sheet_85 FU x1 (0 : Int32) (wI (wI h 49 0 (Int32.toNatClampNeg x1) x2) 50 0 (Int32.toNatClampNeg x1) x3))
      · refine A_iconst (pc := 76) (v := (0 : Int32)) dX8_sheet_76 (by decide) ?_
        refine A_goto (pc := 77) (tgt := 81) dX8_sheet_77 (by decide) ?_
        refine A_iastore (pc := 81) (n := 4) (by decide) (by decide) rfl dX8_sheet_81 (by decide) ?_
        refine A_iconst (pc := 82) (v := (0 : Int32)) dX8_sheet_82 (by decide) ?_
        refine A_istore (pc := 83) (i := 4) (ls2 := [some (vr 8 (some 0)), some (vi x1), some (vi x2), some (vi x3), some (vi (0 : Int32))]) dX8_sheet_83 (Nat.le_of_ble_eq_true rfl) rfl ?_
        exact Aw.weak (ls' := [some (vr 8 (some 0)), some (vi x1), none, none, some (vi (0 : Int32))]) ⟨rfl, ⟨rfl, ⟨rfl, trivial⟩⟩⟩ (aL_X8_sheet_85 FU x1 (0 : Int32) (wI (wI h 49 0 (Int32.toNatClampNeg x1) x2) 50 0 (Int32.toNatClampNeg x1) (0 : Int32)))
    · refine A_aload_n (pc := 53) (i := 0) dX8_sheet_53 rfl rfl ?_
      refine A_ldc (pc := 54) (v := (-1000001 : Int32)) dX8_sheet_54 kK_X8_125 ?_
      refine A_callV (pc := 56) (M' := mX8_finding) (As := [vi (-1000001 : Int32)]) (st := []) (0, 0) (fun r3 => [vi r3.1]) (fun r3 => r3.2) (a_X8_finding (-1000001 : Int32) h) kD_X8_finding kM_X8_126 kI_X8_finding kS_X8_finding kN_X8 ⟨(Nat.le_of_ble_eq_true rfl), (Nat.le_of_ble_eq_true rfl)⟩ dX8_sheet_56 rfl rfl rfl (by decide) rfl (Nat.le_of_ble_eq_true rfl) (Nat.le_of_ble_eq_true rfl) (Nat.le_of_ble_eq_true rfl) (fun _ => rfl) (fun _ => rfl) (fun r3 => ?_)
      exact A_retI rfl dX8_sheet_59
  · refine A_aload_n (pc := 40) (i := 0) dX8_sheet_40 rfl rfl ?_
    refine A_ldc (pc := 41) (v := (-1000007 : Int32)) dX8_sheet_41 kK_X8_204 ?_
    refine A_callV (pc := 43) (M' := mX8_finding) (As := [vi (-1000007 : Int32)]) (st := []) (0, 0) (fun r4 => [vi r4.1]) (fun r4 => r4.2) (a_X8_finding (-1000007 : Int32) h) kD_X8_finding kM_X8_126 kI_X8_finding kS_X8_finding kN_X8 ⟨(Nat.le_of_ble_eq_true rfl), (Nat.le_of_ble_eq_true rfl)⟩ dX8_sheet_43 rfl rfl rfl (by decide) rfl (Nat.le_of_ble_eq_true rfl) (Nat.le_of_ble_eq_true rfl) (Nat.le_of_ble_eq_true rfl) (fun _ => rfl) (fun _ => rfl) (fun r4 => ?_)
    exact A_retI rfl dX8_sheet_46
def f_X8_sheet (x1 : Int32) (x2 : Int32) (x3 : Int32) (h : Hp) : Option (Int32 × Hp) := ((f_X8_isSheet x1 h).bind fun r1 => (if r1 = true then (if x2 = 0 then (fJ_X8_sheet_36 x1 x2 x3 h) else (if x2 = (8 : Int32) then (fJ_X8_sheet_36 x1 x2 x3 h) else (if x2 = (16 : Int32) then (fJ_X8_sheet_36 x1 x2 x3 h) else (if x2 = (32 : Int32) then (fJ_X8_sheet_36 x1 x2 x3 h) else ((f_X8_finding (-1000001 : Int32) h).bind fun r5 => (some (r5.1, r5.2))))))) else ((f_X8_finding (-1000001 : Int32) h).bind fun r2 => (some (r2.1, r2.2)))))
set_option maxRecDepth 100000 in
set_option maxHeartbeats 4000000 in
theorem a_X8_sheet (x1 : Int32) (x2 : Int32) (x3 : Int32) (h : Hp) : CtA eI mX8_sheet U0 U0 [vr 8 (some 0), vi x1, vi x2, vi x3] h (f_X8_sheet x1 x2 x3 h) := by
  refine Ct.of (ls := [some (vr 8 (some 0)), some (vi x1), some (vi x2), some (vi x3), none]) (n := 1) (by decide +kernel) rfl rfl rfl ?_
  unfold f_X8_sheet
  refine A_iload_n (pc := 0) (i := 1) dX8_sheet_0 rfl rfl ?_
  refine A_callS (pc := 1) (M' := mX8_isSheet) (As := [vi x1]) (st := []) (0, 0) (fun r1 => [vi (bi r1)]) (fun _ => h) (a_X8_isSheet x1 h) kD_X8_isSheet kM_X8_242 kT_X8_isSheet kN_X8 ⟨(Nat.le_of_ble_eq_true rfl), (Nat.le_of_ble_eq_true rfl)⟩ dX8_sheet_1 rfl rfl (Nat.le_of_ble_eq_true rfl) (Nat.le_of_ble_eq_true rfl) (Nat.le_of_ble_eq_true rfl) (fun _ => rfl) (fun _ => rfl) (fun r1 => ?_)
  refine A_ifb_eq (pc := 4) (tgt := 29) dX8_sheet_4 (by decide) ?_ ?_
  · refine A_aload_n (pc := 29) (i := 0) dX8_sheet_29 rfl rfl ?_
    refine A_ldc (pc := 30) (v := (-1000001 : Int32)) dX8_sheet_30 kK_X8_125 ?_
    refine A_callV (pc := 32) (M' := mX8_finding) (As := [vi (-1000001 : Int32)]) (st := []) (0, 0) (fun r2 => [vi r2.1]) (fun r2 => r2.2) (a_X8_finding (-1000001 : Int32) h) kD_X8_finding kM_X8_126 kI_X8_finding kS_X8_finding kN_X8 ⟨(Nat.le_of_ble_eq_true rfl), (Nat.le_of_ble_eq_true rfl)⟩ dX8_sheet_32 rfl rfl rfl (by decide) rfl (Nat.le_of_ble_eq_true rfl) (Nat.le_of_ble_eq_true rfl) (Nat.le_of_ble_eq_true rfl) (fun _ => rfl) (fun _ => rfl) (fun r2 => ?_)
    exact A_retI rfl dX8_sheet_35
  · refine A_iload_n (pc := 7) (i := 2) dX8_sheet_7 rfl rfl ?_
    refine A_if_eq (pc := 8) (tgt := 36) dX8_sheet_8 (by decide) ?_ ?_
    · exact Aw.weak (ls' := [some (vr 8 (some 0)), some (vi x1), some (vi x2), some (vi x3), none]) ⟨rfl, ⟨rfl, ⟨rfl, ⟨rfl, trivial⟩⟩⟩⟩ (aJ_X8_sheet_36 x1 x2 x3 h)
    · refine A_iload_n (pc := 11) (i := 2) dX8_sheet_11 rfl rfl ?_
      refine A_bipush (pc := 12) (v := (8 : Int32)) dX8_sheet_12 (by decide) ?_
      refine A_icmp_eq (pc := 14) (tgt := 36) dX8_sheet_14 (by decide) ?_ ?_
      · exact Aw.weak (ls' := [some (vr 8 (some 0)), some (vi x1), some (vi x2), some (vi x3), none]) ⟨rfl, ⟨rfl, ⟨rfl, ⟨rfl, trivial⟩⟩⟩⟩ (aJ_X8_sheet_36 x1 x2 x3 h)
      · refine A_iload_n (pc := 17) (i := 2) dX8_sheet_17 rfl rfl ?_
        refine A_bipush (pc := 18) (v := (16 : Int32)) dX8_sheet_18 (by decide) ?_
        refine A_icmp_eq (pc := 20) (tgt := 36) dX8_sheet_20 (by decide) ?_ ?_
        · exact Aw.weak (ls' := [some (vr 8 (some 0)), some (vi x1), some (vi x2), some (vi x3), none]) ⟨rfl, ⟨rfl, ⟨rfl, ⟨rfl, trivial⟩⟩⟩⟩ (aJ_X8_sheet_36 x1 x2 x3 h)
        · refine A_iload_n (pc := 23) (i := 2) dX8_sheet_23 rfl rfl ?_
          refine A_bipush (pc := 24) (v := (32 : Int32)) dX8_sheet_24 (by decide) ?_
          refine A_icmp_eq (pc := 26) (tgt := 36) dX8_sheet_26 (by decide) ?_ ?_
          · exact Aw.weak (ls' := [some (vr 8 (some 0)), some (vi x1), some (vi x2), some (vi x3), none]) ⟨rfl, ⟨rfl, ⟨rfl, ⟨rfl, trivial⟩⟩⟩⟩ (aJ_X8_sheet_36 x1 x2 x3 h)
          · refine A_aload_n (pc := 29) (i := 0) dX8_sheet_29 rfl rfl ?_
            refine A_ldc (pc := 30) (v := (-1000001 : Int32)) dX8_sheet_30 kK_X8_125 ?_
            refine A_callV (pc := 32) (M' := mX8_finding) (As := [vi (-1000001 : Int32)]) (st := []) (0, 0) (fun r5 => [vi r5.1]) (fun r5 => r5.2) (a_X8_finding (-1000001 : Int32) h) kD_X8_finding kM_X8_126 kI_X8_finding kS_X8_finding kN_X8 ⟨(Nat.le_of_ble_eq_true rfl), (Nat.le_of_ble_eq_true rfl)⟩ dX8_sheet_32 rfl rfl rfl (by decide) rfl (Nat.le_of_ble_eq_true rfl) (Nat.le_of_ble_eq_true rfl) (Nat.le_of_ble_eq_true rfl) (fun _ => rfl) (fun _ => rfl) (fun r5 => ?_)
            exact A_retI rfl dX8_sheet_35

abbrev mX8_write : MD := (yX8_write, cX8_write, 6, (some .int), { frames := 2, cells := 0, slots := 0, locals := 42 }, none)
theorem kD_X8_write : CodeIn mX8_write 3 := ⟨kC_X8_write, by decide +kernel⟩
def f_X8_write (x1 : Int32) (x2 : Int32) (x3 : Int32) (h : Hp) : Option (Int32 × Hp) := ((f_X8_isSheet x1 h).bind fun r1 => (if r1 = true then (if 0 ≤ x1 ∧ x1 < 4 then (if (gI h 49 0 (Int32.toNatClampNeg x1)) = 0 then ((f_X8_finding (-1000006 : Int32) h).bind fun r4 => (some (r4.1, r4.2))) else (if 0 ≤ x1 ∧ x1 < 4 then ((f_X8_within x2 (0 : Int32) ((gI h 50 0 (Int32.toNatClampNeg x1)) - (1 : Int32)) h).bind fun r2 => (if r2 = true then (if 0 ≤ (((8 : Int32) * x1) + x2) ∧ (((8 : Int32) * x1) + x2) < 32 then (if 0 ≤ x1 ∧ x1 < 4 then (if 0 ≤ (((8 : Int32) * x1) + x2) ∧ (((8 : Int32) * x1) + x2) < 32 then (some ((gI h 51 0 (Int32.toNatClampNeg (((8 : Int32) * x1) + x2))), (wI h 51 0 (Int32.toNatClampNeg (((8 : Int32) * x1) + x2)) ((x3 <<< (((32 : Int32) - (gI h 49 0 (Int32.toNatClampNeg x1))) &&& 31)) >>> (((32 : Int32) - (gI h 49 0 (Int32.toNatClampNeg x1))) &&& 31))))) else none) else none) else none) else ((f_X8_finding (-1000001 : Int32) h).bind fun r3 => (some (r3.1, r3.2))))) else none)) else none) else ((f_X8_finding (-1000001 : Int32) h).bind fun r5 => (some (r5.1, r5.2)))))
set_option maxRecDepth 100000 in
set_option maxHeartbeats 4000000 in
theorem a_X8_write (x1 : Int32) (x2 : Int32) (x3 : Int32) (h : Hp) : CtA eI mX8_write U0 U0 [vr 8 (some 0), vi x1, vi x2, vi x3] h (f_X8_write x1 x2 x3 h) := by
  refine Ct.of (ls := [some (vr 8 (some 0)), some (vi x1), some (vi x2), some (vi x3), none, none]) (n := 2) (by decide +kernel) rfl rfl rfl ?_
  unfold f_X8_write
  refine A_iload_n (pc := 0) (i := 1) dX8_write_0 rfl rfl ?_
  refine A_callS (pc := 1) (M' := mX8_isSheet) (As := [vi x1]) (st := []) (0, 0) (fun r1 => [vi (bi r1)]) (fun _ => h) (a_X8_isSheet x1 h) kD_X8_isSheet kM_X8_242 kT_X8_isSheet kN_X8 ⟨(Nat.le_of_ble_eq_true rfl), (Nat.le_of_ble_eq_true rfl)⟩ dX8_write_1 rfl rfl (Nat.le_of_ble_eq_true rfl) (Nat.le_of_ble_eq_true rfl) (Nat.le_of_ble_eq_true rfl) (fun _ => rfl) (fun _ => rfl) (fun r1 => ?_)
  refine A_ifb_ne (pc := 4) (tgt := 14) dX8_write_4 (by decide) ?_ ?_
  · refine A_aload_n (pc := 14) (i := 0) dX8_write_14 rfl rfl ?_
    refine A_getS (pc := 15) (k := 27) (tp := 49) clX8 (Nat.le_of_ble_eq_true rfl) dX8_write_15 kF_X8_73 rfl rfl rfl ?_
    refine A_iload_n (pc := 18) (i := 1) dX8_write_18 rfl rfl ?_
    refine A_iaload (pc := 19) (n := 4) (by decide) (by decide) rfl dX8_write_19 (by decide) ?_
    refine A_if_ne (pc := 20) (tgt := 30) dX8_write_20 (by decide) ?_ ?_
    · refine A_iload_n (pc := 30) (i := 2) dX8_write_30 rfl rfl ?_
      refine A_iconst (pc := 31) (v := (0 : Int32)) dX8_write_31 (by decide) ?_
      refine A_aload_n (pc := 32) (i := 0) dX8_write_32 rfl rfl ?_
      refine A_getS (pc := 33) (k := 28) (tp := 50) clX8 (Nat.le_of_ble_eq_true rfl) dX8_write_33 kF_X8_76 rfl rfl rfl ?_
      refine A_iload_n (pc := 36) (i := 1) dX8_write_36 rfl rfl ?_
      refine A_iaload (pc := 37) (n := 4) (by decide) (by decide) rfl dX8_write_37 (by decide) ?_
      refine A_iconst (pc := 38) (v := (1 : Int32)) dX8_write_38 (by decide) ?_
      refine A_isub (pc := 39) dX8_write_39 ?_
      refine A_callS (pc := 40) (M' := mX8_within) (As := [vi x2, vi (0 : Int32), vi ((gI h 50 0 (Int32.toNatClampNeg x1)) - (1 : Int32))]) (st := []) (0, 0) (fun r2 => [vi (bi r2)]) (fun _ => h) (a_X8_within x2 (0 : Int32) ((gI h 50 0 (Int32.toNatClampNeg x1)) - (1 : Int32)) h) kD_X8_within kM_X8_118 kT_X8_within kN_X8 ⟨(Nat.le_of_ble_eq_true rfl), (Nat.le_of_ble_eq_true rfl)⟩ dX8_write_40 rfl rfl (Nat.le_of_ble_eq_true rfl) (Nat.le_of_ble_eq_true rfl) (Nat.le_of_ble_eq_true rfl) (fun _ => rfl) (fun _ => rfl) (fun r2 => ?_)
      refine A_ifb_ne (pc := 43) (tgt := 53) dX8_write_43 (by decide) ?_ ?_
      · refine A_aload_n (pc := 53) (i := 0) dX8_write_53 rfl rfl ?_
        refine A_getS (pc := 54) (k := 29) (tp := 51) clX8 (Nat.le_of_ble_eq_true rfl) dX8_write_54 kF_X8_79 rfl rfl rfl ?_
        refine A_bipush (pc := 57) (v := (8 : Int32)) dX8_write_57 (by decide) ?_
        refine A_iload_n (pc := 59) (i := 1) dX8_write_59 rfl rfl ?_
        refine A_imul (pc := 60) dX8_write_60 ?_
        refine A_iload_n (pc := 61) (i := 2) dX8_write_61 rfl rfl ?_
        refine A_iadd (pc := 62) dX8_write_62 ?_
        refine A_iaload (pc := 63) (n := 32) (by decide) (by decide) rfl dX8_write_63 (by decide) ?_
        refine A_istore (pc := 64) (i := 4) (ls2 := [some (vr 8 (some 0)), some (vi x1), some (vi x2), some (vi x3), some (vi (gI h 51 0 (Int32.toNatClampNeg (((8 : Int32) * x1) + x2)))), none]) dX8_write_64 (Nat.le_of_ble_eq_true rfl) rfl ?_
        refine A_bipush (pc := 66) (v := (32 : Int32)) dX8_write_66 (by decide) ?_
        refine A_aload_n (pc := 68) (i := 0) dX8_write_68 rfl rfl ?_
        refine A_getS (pc := 69) (k := 27) (tp := 49) clX8 (Nat.le_of_ble_eq_true rfl) dX8_write_69 kF_X8_73 rfl rfl rfl ?_
        refine A_iload_n (pc := 72) (i := 1) dX8_write_72 rfl rfl ?_
        refine A_iaload (pc := 73) (n := 4) (by decide) (by decide) rfl dX8_write_73 (by decide) ?_
        refine A_isub (pc := 74) dX8_write_74 ?_
        refine A_istore (pc := 75) (i := 5) (ls2 := [some (vr 8 (some 0)), some (vi x1), some (vi x2), some (vi x3), some (vi (gI h 51 0 (Int32.toNatClampNeg (((8 : Int32) * x1) + x2)))), some (vi ((32 : Int32) - (gI h 49 0 (Int32.toNatClampNeg x1))))]) dX8_write_75 (Nat.le_of_ble_eq_true rfl) rfl ?_
        refine A_aload_n (pc := 77) (i := 0) dX8_write_77 rfl rfl ?_
        refine A_getS (pc := 78) (k := 29) (tp := 51) clX8 (Nat.le_of_ble_eq_true rfl) dX8_write_78 kF_X8_79 rfl rfl rfl ?_
        refine A_bipush (pc := 81) (v := (8 : Int32)) dX8_write_81 (by decide) ?_
        refine A_iload_n (pc := 83) (i := 1) dX8_write_83 rfl rfl ?_
        refine A_imul (pc := 84) dX8_write_84 ?_
        refine A_iload_n (pc := 85) (i := 2) dX8_write_85 rfl rfl ?_
        refine A_iadd (pc := 86) dX8_write_86 ?_
        refine A_iload_n (pc := 87) (i := 3) dX8_write_87 rfl rfl ?_
        refine A_iload (pc := 88) (i := 5) dX8_write_88 rfl ?_
        refine A_ishl (pc := 90) dX8_write_90 ?_
        refine A_iload (pc := 91) (i := 5) dX8_write_91 rfl ?_
        refine A_ishr (pc := 93) dX8_write_93 ?_
        refine A_iastore (pc := 94) (n := 32) (by decide) (by decide) rfl dX8_write_94 (by decide) ?_
        refine A_iload (pc := 95) (i := 4) dX8_write_95 rfl ?_
        exact A_retI rfl dX8_write_97
      · refine A_aload_n (pc := 46) (i := 0) dX8_write_46 rfl rfl ?_
        refine A_ldc (pc := 47) (v := (-1000001 : Int32)) dX8_write_47 kK_X8_125 ?_
        refine A_callV (pc := 49) (M' := mX8_finding) (As := [vi (-1000001 : Int32)]) (st := []) (0, 0) (fun r3 => [vi r3.1]) (fun r3 => r3.2) (a_X8_finding (-1000001 : Int32) h) kD_X8_finding kM_X8_126 kI_X8_finding kS_X8_finding kN_X8 ⟨(Nat.le_of_ble_eq_true rfl), (Nat.le_of_ble_eq_true rfl)⟩ dX8_write_49 rfl rfl rfl (by decide) rfl (Nat.le_of_ble_eq_true rfl) (Nat.le_of_ble_eq_true rfl) (Nat.le_of_ble_eq_true rfl) (fun _ => rfl) (fun _ => rfl) (fun r3 => ?_)
        exact A_retI rfl dX8_write_52
    · refine A_aload_n (pc := 23) (i := 0) dX8_write_23 rfl rfl ?_
      refine A_ldc (pc := 24) (v := (-1000006 : Int32)) dX8_write_24 kK_X8_245 ?_
      refine A_callV (pc := 26) (M' := mX8_finding) (As := [vi (-1000006 : Int32)]) (st := []) (0, 0) (fun r4 => [vi r4.1]) (fun r4 => r4.2) (a_X8_finding (-1000006 : Int32) h) kD_X8_finding kM_X8_126 kI_X8_finding kS_X8_finding kN_X8 ⟨(Nat.le_of_ble_eq_true rfl), (Nat.le_of_ble_eq_true rfl)⟩ dX8_write_26 rfl rfl rfl (by decide) rfl (Nat.le_of_ble_eq_true rfl) (Nat.le_of_ble_eq_true rfl) (Nat.le_of_ble_eq_true rfl) (fun _ => rfl) (fun _ => rfl) (fun r4 => ?_)
      exact A_retI rfl dX8_write_29
  · refine A_aload_n (pc := 7) (i := 0) dX8_write_7 rfl rfl ?_
    refine A_ldc (pc := 8) (v := (-1000001 : Int32)) dX8_write_8 kK_X8_125 ?_
    refine A_callV (pc := 10) (M' := mX8_finding) (As := [vi (-1000001 : Int32)]) (st := []) (0, 0) (fun r5 => [vi r5.1]) (fun r5 => r5.2) (a_X8_finding (-1000001 : Int32) h) kD_X8_finding kM_X8_126 kI_X8_finding kS_X8_finding kN_X8 ⟨(Nat.le_of_ble_eq_true rfl), (Nat.le_of_ble_eq_true rfl)⟩ dX8_write_10 rfl rfl rfl (by decide) rfl (Nat.le_of_ble_eq_true rfl) (Nat.le_of_ble_eq_true rfl) (Nat.le_of_ble_eq_true rfl) (fun _ => rfl) (fun _ => rfl) (fun r5 => ?_)
    exact A_retI rfl dX8_write_13

abbrev mX8_copy : MD := (yX8_copy, cX8_copy, 7, (some .int), { frames := 2, cells := 0, slots := 0, locals := 42 }, none)
theorem kD_X8_copy : CodeIn mX8_copy 5 := ⟨kC_X8_copy, by decide +kernel⟩
def fL_X8_copy_164 : Nat → Int32 → Int32 → Int32 → Int32 → Hp → Option (Int32 × Hp)
  | 0, _, _, _, _, _ => none
  | n + 1, x3, x4, x5, x6, h => (if x5 ≤ x6 then (some (x5, h)) else (if 0 ≤ x6 ∧ x6 < 8 then (if 0 ≤ ((((8 : Int32) * x3) + x4) + x6) ∧ ((((8 : Int32) * x3) + x4) + x6) < 32 then ((fL_X8_copy_164 n) x3 x4 x5 (x6 + 1) (wI h 51 0 (Int32.toNatClampNeg ((((8 : Int32) * x3) + x4) + x6)) (gI h 61 0 (Int32.toNatClampNeg x6)))) else none) else none))
set_option maxRecDepth 100000 in
set_option maxHeartbeats 4000000 in
theorem aL_X8_copy_164 : ∀ (n : Nat) (x3 : Int32) (x4 : Int32) (x5 : Int32) (x6 : Int32) (h : Hp), Aw eI U0 mX8_copy (0, 0) U0 164 [some (vr 8 (some 0)), none, none, some (vi x3), some (vi x4), some (vi x5), some (vi x6)] [] h (fL_X8_copy_164 n x3 x4 x5 x6 h) := by
  intro n
  induction n with
  | zero =>
    intro x3 x4 x5 x6 h
    exact Aw.none
  | succ n ih =>
    intro x3 x4 x5 x6 h
    show Aw _ _ _ _ _ _ _ _ _ (fL_X8_copy_164 (n + 1) x3 x4 x5 x6 h)
    unfold fL_X8_copy_164
    refine A_iload (pc := 164) (i := 6) dX8_copy_164 rfl ?_
    refine A_iload (pc := 166) (i := 5) dX8_copy_166 rfl ?_
    refine A_icmp_ge (pc := 168) (tgt := 199) dX8_copy_168 (by decide) ?_ ?_
    · refine A_iload (pc := 199) (i := 5) dX8_copy_199 rfl ?_
      exact A_retI rfl dX8_copy_201
    · refine A_aload_n (pc := 171) (i := 0) dX8_copy_171 rfl rfl ?_
      refine A_getS (pc := 172) (k := 29) (tp := 51) clX8 (Nat.le_of_ble_eq_true rfl) dX8_copy_172 kF_X8_79 rfl rfl rfl ?_
      refine A_bipush (pc := 175) (v := (8 : Int32)) dX8_copy_175 (by decide) ?_
      refine A_iload_n (pc := 177) (i := 3) dX8_copy_177 rfl rfl ?_
      refine A_imul (pc := 178) dX8_copy_178 ?_
      refine A_iload (pc := 179) (i := 4) dX8_copy_179 rfl ?_
      refine A_iadd (pc := 181) dX8_copy_181 ?_
      refine A_iload (pc := 182) (i := 6) dX8_copy_182 rfl ?_
      refine A_iadd (pc := 184) dX8_copy_184 ?_
      refine A_aload_n (pc := 185) (i := 0) dX8_copy_185 rfl rfl ?_
      refine A_getS (pc := 186) (k := 44) (tp := 61) clX8 (Nat.le_of_ble_eq_true rfl) dX8_copy_186 kF_X8_109 rfl rfl rfl ?_
      refine A_iload (pc := 189) (i := 6) dX8_copy_189 rfl ?_
      refine A_iaload (pc := 191) (n := 8) (by decide) (by decide) rfl dX8_copy_191 (by decide) ?_
      refine A_iastore (pc := 192) (n := 32) (by decide) (by decide) rfl dX8_copy_192 (by decide) ?_
      refine A_iinc (pc := 193) (i := 6) (v := (x6 + 1)) (ls2 := [some (vr 8 (some 0)), none, none, some (vi x3), some (vi x4), some (vi x5), some (vi (x6 + 1))]) dX8_copy_193 rfl rfl (Nat.le_of_ble_eq_true rfl) rfl ?_
      refine A_goto (pc := 196) (tgt := 164) dX8_copy_196 (by decide) ?_
      exact Aw.weak (ls' := [some (vr 8 (some 0)), none, none, some (vi x3), some (vi x4), some (vi x5), some (vi (x6 + 1))]) ⟨rfl, ⟨rfl, ⟨rfl, ⟨rfl, ⟨rfl, trivial⟩⟩⟩⟩⟩ (ih x3 x4 x5 (x6 + 1) (wI h 51 0 (Int32.toNatClampNeg ((((8 : Int32) * x3) + x4) + x6)) (gI h 61 0 (Int32.toNatClampNeg x6))))
def fL_X8_copy_127 : Nat → Int32 → Int32 → Int32 → Int32 → Int32 → Int32 → Hp → Option (Int32 × Hp)
  | 0, _, _, _, _, _, _, _ => none
  | n + 1, x1, x2, x3, x4, x5, x6, h => (if x5 ≤ x6 then (fL_X8_copy_164 FU x3 x4 x5 (0 : Int32) h) else (if 0 ≤ ((((8 : Int32) * x1) + x2) + x6) ∧ ((((8 : Int32) * x1) + x2) + x6) < 32 then (if 0 ≤ x6 ∧ x6 < 8 then ((fL_X8_copy_127 n) x1 x2 x3 x4 x5 (x6 + 1) (wI h 61 0 (Int32.toNatClampNeg x6) (gI h 51 0 (Int32.toNatClampNeg ((((8 : Int32) * x1) + x2) + x6))))) else none) else none))
set_option maxRecDepth 100000 in
set_option maxHeartbeats 4000000 in
theorem aL_X8_copy_127 : ∀ (n : Nat) (x1 : Int32) (x2 : Int32) (x3 : Int32) (x4 : Int32) (x5 : Int32) (x6 : Int32) (h : Hp), Aw eI U0 mX8_copy (0, 0) U0 127 [some (vr 8 (some 0)), some (vi x1), some (vi x2), some (vi x3), some (vi x4), some (vi x5), some (vi x6)] [] h (fL_X8_copy_127 n x1 x2 x3 x4 x5 x6 h) := by
  intro n
  induction n with
  | zero =>
    intro x1 x2 x3 x4 x5 x6 h
    exact Aw.none
  | succ n ih =>
    intro x1 x2 x3 x4 x5 x6 h
    show Aw _ _ _ _ _ _ _ _ _ (fL_X8_copy_127 (n + 1) x1 x2 x3 x4 x5 x6 h)
    unfold fL_X8_copy_127
    refine A_iload (pc := 127) (i := 6) dX8_copy_127 rfl ?_
    refine A_iload (pc := 129) (i := 5) dX8_copy_129 rfl ?_
    refine A_icmp_ge (pc := 131) (tgt := 161) dX8_copy_131 (by decide) ?_ ?_
    · refine A_iconst (pc := 161) (v := (0 : Int32)) dX8_copy_161 (by decide) ?_
      refine A_istore (pc := 162) (i := 6) (ls2 := [some (vr 8 (some 0)), some (vi x1), some (vi x2), some (vi x3), some (vi x4), some (vi x5), some (vi (0 : Int32))]) dX8_copy_162 (Nat.le_of_ble_eq_true rfl) rfl ?_
      exact Aw.weak (ls' := [some (vr 8 (some 0)), none, none, some (vi x3), some (vi x4), some (vi x5), some (vi (0 : Int32))]) ⟨rfl, ⟨rfl, ⟨rfl, ⟨rfl, ⟨rfl, trivial⟩⟩⟩⟩⟩ (aL_X8_copy_164 FU x3 x4 x5 (0 : Int32) h)
    · refine A_aload_n (pc := 134) (i := 0) dX8_copy_134 rfl rfl ?_
      refine A_getS (pc := 135) (k := 44) (tp := 61) clX8 (Nat.le_of_ble_eq_true rfl) dX8_copy_135 kF_X8_109 rfl rfl rfl ?_
      refine A_iload (pc := 138) (i := 6) dX8_copy_138 rfl ?_
      refine A_aload_n (pc := 140) (i := 0) dX8_copy_140 rfl rfl ?_
      refine A_getS (pc := 141) (k := 29) (tp := 51) clX8 (Nat.le_of_ble_eq_true rfl) dX8_copy_141 kF_X8_79 rfl rfl rfl ?_
      refine A_bipush (pc := 144) (v := (8 : Int32)) dX8_copy_144 (by decide) ?_
      refine A_iload_n (pc := 146) (i := 1) dX8_copy_146 rfl rfl ?_
      refine A_imul (pc := 147) dX8_copy_147 ?_
      refine A_iload_n (pc := 148) (i := 2) dX8_copy_148 rfl rfl ?_
      refine A_iadd (pc := 149) dX8_copy_149 ?_
      refine A_iload (pc := 150) (i := 6) dX8_copy_150 rfl ?_
      refine A_iadd (pc := 152) dX8_copy_152 ?_
      refine A_iaload (pc := 153) (n := 32) (by decide) (by decide) rfl dX8_copy_153 (by decide) ?_
      refine A_iastore (pc := 154) (n := 8) (by decide) (by decide) rfl dX8_copy_154 (by decide) ?_
      refine A_iinc (pc := 155) (i := 6) (v := (x6 + 1)) (ls2 := [some (vr 8 (some 0)), some (vi x1), some (vi x2), some (vi x3), some (vi x4), some (vi x5), some (vi (x6 + 1))]) dX8_copy_155 rfl rfl (Nat.le_of_ble_eq_true rfl) rfl ?_
      refine A_goto (pc := 158) (tgt := 127) dX8_copy_158 (by decide) ?_
      exact Aw.weak (ls' := [some (vr 8 (some 0)), some (vi x1), some (vi x2), some (vi x3), some (vi x4), some (vi x5), some (vi (x6 + 1))]) ⟨rfl, ⟨rfl, ⟨rfl, ⟨rfl, ⟨rfl, ⟨rfl, ⟨rfl, trivial⟩⟩⟩⟩⟩⟩⟩ (ih x1 x2 x3 x4 x5 (x6 + 1) (wI h 61 0 (Int32.toNatClampNeg x6) (gI h 51 0 (Int32.toNatClampNeg ((((8 : Int32) * x1) + x2) + x6)))))
def f_X8_copy (x1 : Int32) (x2 : Int32) (x3 : Int32) (x4 : Int32) (x5 : Int32) (h : Hp) : Option (Int32 × Hp) := ((f_X8_isSheet x1 h).bind fun r1 => (if r1 = true then ((f_X8_isSheet x3 h).bind fun r3 => (if r3 = true then (if 0 ≤ x1 ∧ x1 < 4 then (if (gI h 49 0 (Int32.toNatClampNeg x1)) = 0 then ((f_X8_finding (-1000006 : Int32) h).bind fun r4 => (some (r4.1, r4.2))) else (if 0 ≤ x3 ∧ x3 < 4 then (if (gI h 49 0 (Int32.toNatClampNeg x3)) = 0 then ((f_X8_finding (-1000006 : Int32) h).bind fun r11 => (some (r11.1, r11.2))) else (if 0 ≤ x1 ∧ x1 < 4 then (if 0 ≤ x3 ∧ x3 < 4 then (if (gI h 49 0 (Int32.toNatClampNeg x1)) = (gI h 49 0 (Int32.toNatClampNeg x3)) then (if x2 < 0 then ((f_X8_finding (-1000001 : Int32) h).bind fun r5 => (some (r5.1, r5.2))) else (if x4 < 0 then ((f_X8_finding (-1000001 : Int32) h).bind fun r6 => (some (r6.1, r6.2))) else (if x5 < 0 then ((f_X8_finding (-1000001 : Int32) h).bind fun r7 => (some (r7.1, r7.2))) else (if 0 ≤ x1 ∧ x1 < 4 then (if 0 < (lg_cmp ((Int32.toInt64 x2) + (Int32.toInt64 x5)) (Int32.toInt64 (gI h 50 0 (Int32.toNatClampNeg x1)))) then ((f_X8_finding (-1000001 : Int32) h).bind fun r8 => (some (r8.1, r8.2))) else (if 0 ≤ x3 ∧ x3 < 4 then (if (lg_cmp ((Int32.toInt64 x4) + (Int32.toInt64 x5)) (Int32.toInt64 (gI h 50 0 (Int32.toNatClampNeg x3)))) ≤ 0 then (fL_X8_copy_127 FU x1 x2 x3 x4 x5 (0 : Int32) h) else ((f_X8_finding (-1000001 : Int32) h).bind fun r9 => (some (r9.1, r9.2)))) else none)) else none)))) else ((f_X8_finding (-1000003 : Int32) h).bind fun r10 => (some (r10.1, r10.2)))) else none) else none)) else none)) else none) else ((f_X8_finding (-1000001 : Int32) h).bind fun r12 => (some (r12.1, r12.2))))) else ((f_X8_finding (-1000001 : Int32) h).bind fun r2 => (some (r2.1, r2.2)))))
set_option maxRecDepth 100000 in
set_option maxHeartbeats 4000000 in
theorem a_X8_copy (x1 : Int32) (x2 : Int32) (x3 : Int32) (x4 : Int32) (x5 : Int32) (h : Hp) : CtA eI mX8_copy U0 U0 [vr 8 (some 0), vi x1, vi x2, vi x3, vi x4, vi x5] h (f_X8_copy x1 x2 x3 x4 x5 h) := by
  refine Ct.of (ls := [some (vr 8 (some 0)), some (vi x1), some (vi x2), some (vi x3), some (vi x4), some (vi x5), none]) (n := 1) (by decide +kernel) rfl rfl rfl ?_
  unfold f_X8_copy
  refine A_iload_n (pc := 0) (i := 1) dX8_copy_0 rfl rfl ?_
  refine A_callS (pc := 1) (M' := mX8_isSheet) (As := [vi x1]) (st := []) (0, 0) (fun r1 => [vi (bi r1)]) (fun _ => h) (a_X8_isSheet x1 h) kD_X8_isSheet kM_X8_242 kT_X8_isSheet kN_X8 ⟨(Nat.le_of_ble_eq_true rfl), (Nat.le_of_ble_eq_true rfl)⟩ dX8_copy_1 rfl rfl (Nat.le_of_ble_eq_true rfl) (Nat.le_of_ble_eq_true rfl) (Nat.le_of_ble_eq_true rfl) (fun _ => rfl) (fun _ => rfl) (fun r1 => ?_)
  refine A_ifb_eq (pc := 4) (tgt := 14) dX8_copy_4 (by decide) ?_ ?_
  · refine A_aload_n (pc := 14) (i := 0) dX8_copy_14 rfl rfl ?_
    refine A_ldc (pc := 15) (v := (-1000001 : Int32)) dX8_copy_15 kK_X8_125 ?_
    refine A_callV (pc := 17) (M' := mX8_finding) (As := [vi (-1000001 : Int32)]) (st := []) (0, 0) (fun r2 => [vi r2.1]) (fun r2 => r2.2) (a_X8_finding (-1000001 : Int32) h) kD_X8_finding kM_X8_126 kI_X8_finding kS_X8_finding kN_X8 ⟨(Nat.le_of_ble_eq_true rfl), (Nat.le_of_ble_eq_true rfl)⟩ dX8_copy_17 rfl rfl rfl (by decide) rfl (Nat.le_of_ble_eq_true rfl) (Nat.le_of_ble_eq_true rfl) (Nat.le_of_ble_eq_true rfl) (fun _ => rfl) (fun _ => rfl) (fun r2 => ?_)
    exact A_retI rfl dX8_copy_20
  · refine A_iload_n (pc := 7) (i := 3) dX8_copy_7 rfl rfl ?_
    refine A_callS (pc := 8) (M' := mX8_isSheet) (As := [vi x3]) (st := []) (0, 0) (fun r3 => [vi (bi r3)]) (fun _ => h) (a_X8_isSheet x3 h) kD_X8_isSheet kM_X8_242 kT_X8_isSheet kN_X8 ⟨(Nat.le_of_ble_eq_true rfl), (Nat.le_of_ble_eq_true rfl)⟩ dX8_copy_8 rfl rfl (Nat.le_of_ble_eq_true rfl) (Nat.le_of_ble_eq_true rfl) (Nat.le_of_ble_eq_true rfl) (fun _ => rfl) (fun _ => rfl) (fun r3 => ?_)
    refine A_ifb_ne (pc := 11) (tgt := 21) dX8_copy_11 (by decide) ?_ ?_
    · refine A_aload_n (pc := 21) (i := 0) dX8_copy_21 rfl rfl ?_
      refine A_getS (pc := 22) (k := 27) (tp := 49) clX8 (Nat.le_of_ble_eq_true rfl) dX8_copy_22 kF_X8_73 rfl rfl rfl ?_
      refine A_iload_n (pc := 25) (i := 1) dX8_copy_25 rfl rfl ?_
      refine A_iaload (pc := 26) (n := 4) (by decide) (by decide) rfl dX8_copy_26 (by decide) ?_
      refine A_if_eq (pc := 27) (tgt := 39) dX8_copy_27 (by decide) ?_ ?_
      · refine A_aload_n (pc := 39) (i := 0) dX8_copy_39 rfl rfl ?_
        refine A_ldc (pc := 40) (v := (-1000006 : Int32)) dX8_copy_40 kK_X8_245 ?_
        refine A_callV (pc := 42) (M' := mX8_finding) (As := [vi (-1000006 : Int32)]) (st := []) (0, 0) (fun r4 => [vi r4.1]) (fun r4 => r4.2) (a_X8_finding (-1000006 : Int32) h) kD_X8_finding kM_X8_126 kI_X8_finding kS_X8_finding kN_X8 ⟨(Nat.le_of_ble_eq_true rfl), (Nat.le_of_ble_eq_true rfl)⟩ dX8_copy_42 rfl rfl rfl (by decide) rfl (Nat.le_of_ble_eq_true rfl) (Nat.le_of_ble_eq_true rfl) (Nat.le_of_ble_eq_true rfl) (fun _ => rfl) (fun _ => rfl) (fun r4 => ?_)
        exact A_retI rfl dX8_copy_45
      · refine A_aload_n (pc := 30) (i := 0) dX8_copy_30 rfl rfl ?_
        refine A_getS (pc := 31) (k := 27) (tp := 49) clX8 (Nat.le_of_ble_eq_true rfl) dX8_copy_31 kF_X8_73 rfl rfl rfl ?_
        refine A_iload_n (pc := 34) (i := 3) dX8_copy_34 rfl rfl ?_
        refine A_iaload (pc := 35) (n := 4) (by decide) (by decide) rfl dX8_copy_35 (by decide) ?_
        refine A_if_ne (pc := 36) (tgt := 46) dX8_copy_36 (by decide) ?_ ?_
        · refine A_aload_n (pc := 46) (i := 0) dX8_copy_46 rfl rfl ?_
          refine A_getS (pc := 47) (k := 27) (tp := 49) clX8 (Nat.le_of_ble_eq_true rfl) dX8_copy_47 kF_X8_73 rfl rfl rfl ?_
          refine A_iload_n (pc := 50) (i := 1) dX8_copy_50 rfl rfl ?_
          refine A_iaload (pc := 51) (n := 4) (by decide) (by decide) rfl dX8_copy_51 (by decide) ?_
          refine A_aload_n (pc := 52) (i := 0) dX8_copy_52 rfl rfl ?_
          refine A_getS (pc := 53) (k := 27) (tp := 49) clX8 (Nat.le_of_ble_eq_true rfl) dX8_copy_53 kF_X8_73 rfl rfl rfl ?_
          refine A_iload_n (pc := 56) (i := 3) dX8_copy_56 rfl rfl ?_
          refine A_iaload (pc := 57) (n := 4) (by decide) (by decide) rfl dX8_copy_57 (by decide) ?_
          refine A_icmp_eq (pc := 58) (tgt := 68) dX8_copy_58 (by decide) ?_ ?_
          · refine A_iload_n (pc := 68) (i := 2) dX8_copy_68 rfl rfl ?_
            refine A_if_lt (pc := 69) (tgt := 117) dX8_copy_69 (by decide) ?_ ?_
            · refine A_aload_n (pc := 117) (i := 0) dX8_copy_117 rfl rfl ?_
              refine A_ldc (pc := 118) (v := (-1000001 : Int32)) dX8_copy_118 kK_X8_125 ?_
              refine A_callV (pc := 120) (M' := mX8_finding) (As := [vi (-1000001 : Int32)]) (st := []) (0, 0) (fun r5 => [vi r5.1]) (fun r5 => r5.2) (a_X8_finding (-1000001 : Int32) h) kD_X8_finding kM_X8_126 kI_X8_finding kS_X8_finding kN_X8 ⟨(Nat.le_of_ble_eq_true rfl), (Nat.le_of_ble_eq_true rfl)⟩ dX8_copy_120 rfl rfl rfl (by decide) rfl (Nat.le_of_ble_eq_true rfl) (Nat.le_of_ble_eq_true rfl) (Nat.le_of_ble_eq_true rfl) (fun _ => rfl) (fun _ => rfl) (fun r5 => ?_)
              exact A_retI rfl dX8_copy_123
            · refine A_iload (pc := 72) (i := 4) dX8_copy_72 rfl ?_
              refine A_if_lt (pc := 74) (tgt := 117) dX8_copy_74 (by decide) ?_ ?_
              · refine A_aload_n (pc := 117) (i := 0) dX8_copy_117 rfl rfl ?_
                refine A_ldc (pc := 118) (v := (-1000001 : Int32)) dX8_copy_118 kK_X8_125 ?_
                refine A_callV (pc := 120) (M' := mX8_finding) (As := [vi (-1000001 : Int32)]) (st := []) (0, 0) (fun r6 => [vi r6.1]) (fun r6 => r6.2) (a_X8_finding (-1000001 : Int32) h) kD_X8_finding kM_X8_126 kI_X8_finding kS_X8_finding kN_X8 ⟨(Nat.le_of_ble_eq_true rfl), (Nat.le_of_ble_eq_true rfl)⟩ dX8_copy_120 rfl rfl rfl (by decide) rfl (Nat.le_of_ble_eq_true rfl) (Nat.le_of_ble_eq_true rfl) (Nat.le_of_ble_eq_true rfl) (fun _ => rfl) (fun _ => rfl) (fun r6 => ?_)
                exact A_retI rfl dX8_copy_123
              · refine A_iload (pc := 77) (i := 5) dX8_copy_77 rfl ?_
                refine A_if_lt (pc := 79) (tgt := 117) dX8_copy_79 (by decide) ?_ ?_
                · refine A_aload_n (pc := 117) (i := 0) dX8_copy_117 rfl rfl ?_
                  refine A_ldc (pc := 118) (v := (-1000001 : Int32)) dX8_copy_118 kK_X8_125 ?_
                  refine A_callV (pc := 120) (M' := mX8_finding) (As := [vi (-1000001 : Int32)]) (st := []) (0, 0) (fun r7 => [vi r7.1]) (fun r7 => r7.2) (a_X8_finding (-1000001 : Int32) h) kD_X8_finding kM_X8_126 kI_X8_finding kS_X8_finding kN_X8 ⟨(Nat.le_of_ble_eq_true rfl), (Nat.le_of_ble_eq_true rfl)⟩ dX8_copy_120 rfl rfl rfl (by decide) rfl (Nat.le_of_ble_eq_true rfl) (Nat.le_of_ble_eq_true rfl) (Nat.le_of_ble_eq_true rfl) (fun _ => rfl) (fun _ => rfl) (fun r7 => ?_)
                  exact A_retI rfl dX8_copy_123
                · refine A_iload_n (pc := 82) (i := 2) dX8_copy_82 rfl rfl ?_
                  refine A_i2l (pc := 83) dX8_copy_83 ?_
                  refine A_iload (pc := 84) (i := 5) dX8_copy_84 rfl ?_
                  refine A_i2l (pc := 86) dX8_copy_86 ?_
                  refine A_ladd (pc := 87) dX8_copy_87 ?_
                  refine A_aload_n (pc := 88) (i := 0) dX8_copy_88 rfl rfl ?_
                  refine A_getS (pc := 89) (k := 28) (tp := 50) clX8 (Nat.le_of_ble_eq_true rfl) dX8_copy_89 kF_X8_76 rfl rfl rfl ?_
                  refine A_iload_n (pc := 92) (i := 1) dX8_copy_92 rfl rfl ?_
                  refine A_iaload (pc := 93) (n := 4) (by decide) (by decide) rfl dX8_copy_93 (by decide) ?_
                  refine A_i2l (pc := 94) dX8_copy_94 ?_
                  refine A_lcmp (pc := 95) dX8_copy_95 ?_
                  refine A_if_gt (pc := 96) (tgt := 117) dX8_copy_96 (by decide) ?_ ?_
                  · refine A_aload_n (pc := 117) (i := 0) dX8_copy_117 rfl rfl ?_
                    refine A_ldc (pc := 118) (v := (-1000001 : Int32)) dX8_copy_118 kK_X8_125 ?_
                    refine A_callV (pc := 120) (M' := mX8_finding) (As := [vi (-1000001 : Int32)]) (st := []) (0, 0) (fun r8 => [vi r8.1]) (fun r8 => r8.2) (a_X8_finding (-1000001 : Int32) h) kD_X8_finding kM_X8_126 kI_X8_finding kS_X8_finding kN_X8 ⟨(Nat.le_of_ble_eq_true rfl), (Nat.le_of_ble_eq_true rfl)⟩ dX8_copy_120 rfl rfl rfl (by decide) rfl (Nat.le_of_ble_eq_true rfl) (Nat.le_of_ble_eq_true rfl) (Nat.le_of_ble_eq_true rfl) (fun _ => rfl) (fun _ => rfl) (fun r8 => ?_)
                    exact A_retI rfl dX8_copy_123
                  · refine A_iload (pc := 99) (i := 4) dX8_copy_99 rfl ?_
                    refine A_i2l (pc := 101) dX8_copy_101 ?_
                    refine A_iload (pc := 102) (i := 5) dX8_copy_102 rfl ?_
                    refine A_i2l (pc := 104) dX8_copy_104 ?_
                    refine A_ladd (pc := 105) dX8_copy_105 ?_
                    refine A_aload_n (pc := 106) (i := 0) dX8_copy_106 rfl rfl ?_
                    refine A_getS (pc := 107) (k := 28) (tp := 50) clX8 (Nat.le_of_ble_eq_true rfl) dX8_copy_107 kF_X8_76 rfl rfl rfl ?_
                    refine A_iload_n (pc := 110) (i := 3) dX8_copy_110 rfl rfl ?_
                    refine A_iaload (pc := 111) (n := 4) (by decide) (by decide) rfl dX8_copy_111 (by decide) ?_
                    refine A_i2l (pc := 112) dX8_copy_112 ?_
                    refine A_lcmp (pc := 113) dX8_copy_113 ?_
                    refine A_if_le (pc := 114) (tgt := 124) dX8_copy_114 (by decide) ?_ ?_
                    · refine A_iconst (pc := 124) (v := (0 : Int32)) dX8_copy_124 (by decide) ?_
                      refine A_istore (pc := 125) (i := 6) (ls2 := [some (vr 8 (some 0)), some (vi x1), some (vi x2), some (vi x3), some (vi x4), some (vi x5), some (vi (0 : Int32))]) dX8_copy_125 (Nat.le_of_ble_eq_true rfl) rfl ?_
                      exact Aw.weak (ls' := [some (vr 8 (some 0)), some (vi x1), some (vi x2), some (vi x3), some (vi x4), some (vi x5), some (vi (0 : Int32))]) ⟨rfl, ⟨rfl, ⟨rfl, ⟨rfl, ⟨rfl, ⟨rfl, ⟨rfl, trivial⟩⟩⟩⟩⟩⟩⟩ (aL_X8_copy_127 FU x1 x2 x3 x4 x5 (0 : Int32) h)
                    · refine A_aload_n (pc := 117) (i := 0) dX8_copy_117 rfl rfl ?_
                      refine A_ldc (pc := 118) (v := (-1000001 : Int32)) dX8_copy_118 kK_X8_125 ?_
                      refine A_callV (pc := 120) (M' := mX8_finding) (As := [vi (-1000001 : Int32)]) (st := []) (0, 0) (fun r9 => [vi r9.1]) (fun r9 => r9.2) (a_X8_finding (-1000001 : Int32) h) kD_X8_finding kM_X8_126 kI_X8_finding kS_X8_finding kN_X8 ⟨(Nat.le_of_ble_eq_true rfl), (Nat.le_of_ble_eq_true rfl)⟩ dX8_copy_120 rfl rfl rfl (by decide) rfl (Nat.le_of_ble_eq_true rfl) (Nat.le_of_ble_eq_true rfl) (Nat.le_of_ble_eq_true rfl) (fun _ => rfl) (fun _ => rfl) (fun r9 => ?_)
                      exact A_retI rfl dX8_copy_123
          · refine A_aload_n (pc := 61) (i := 0) dX8_copy_61 rfl rfl ?_
            refine A_ldc (pc := 62) (v := (-1000003 : Int32)) dX8_copy_62 kK_X8_145 ?_
            refine A_callV (pc := 64) (M' := mX8_finding) (As := [vi (-1000003 : Int32)]) (st := []) (0, 0) (fun r10 => [vi r10.1]) (fun r10 => r10.2) (a_X8_finding (-1000003 : Int32) h) kD_X8_finding kM_X8_126 kI_X8_finding kS_X8_finding kN_X8 ⟨(Nat.le_of_ble_eq_true rfl), (Nat.le_of_ble_eq_true rfl)⟩ dX8_copy_64 rfl rfl rfl (by decide) rfl (Nat.le_of_ble_eq_true rfl) (Nat.le_of_ble_eq_true rfl) (Nat.le_of_ble_eq_true rfl) (fun _ => rfl) (fun _ => rfl) (fun r10 => ?_)
            exact A_retI rfl dX8_copy_67
        · refine A_aload_n (pc := 39) (i := 0) dX8_copy_39 rfl rfl ?_
          refine A_ldc (pc := 40) (v := (-1000006 : Int32)) dX8_copy_40 kK_X8_245 ?_
          refine A_callV (pc := 42) (M' := mX8_finding) (As := [vi (-1000006 : Int32)]) (st := []) (0, 0) (fun r11 => [vi r11.1]) (fun r11 => r11.2) (a_X8_finding (-1000006 : Int32) h) kD_X8_finding kM_X8_126 kI_X8_finding kS_X8_finding kN_X8 ⟨(Nat.le_of_ble_eq_true rfl), (Nat.le_of_ble_eq_true rfl)⟩ dX8_copy_42 rfl rfl rfl (by decide) rfl (Nat.le_of_ble_eq_true rfl) (Nat.le_of_ble_eq_true rfl) (Nat.le_of_ble_eq_true rfl) (fun _ => rfl) (fun _ => rfl) (fun r11 => ?_)
          exact A_retI rfl dX8_copy_45
    · refine A_aload_n (pc := 14) (i := 0) dX8_copy_14 rfl rfl ?_
      refine A_ldc (pc := 15) (v := (-1000001 : Int32)) dX8_copy_15 kK_X8_125 ?_
      refine A_callV (pc := 17) (M' := mX8_finding) (As := [vi (-1000001 : Int32)]) (st := []) (0, 0) (fun r12 => [vi r12.1]) (fun r12 => r12.2) (a_X8_finding (-1000001 : Int32) h) kD_X8_finding kM_X8_126 kI_X8_finding kS_X8_finding kN_X8 ⟨(Nat.le_of_ble_eq_true rfl), (Nat.le_of_ble_eq_true rfl)⟩ dX8_copy_17 rfl rfl rfl (by decide) rfl (Nat.le_of_ble_eq_true rfl) (Nat.le_of_ble_eq_true rfl) (Nat.le_of_ble_eq_true rfl) (fun _ => rfl) (fun _ => rfl) (fun r12 => ?_)
      exact A_retI rfl dX8_copy_20

abbrev mX8_read : MD := (yX8_read, cX8_read, 6, (some .int), { frames := 3, cells := 0, slots := 0, locals := 68 }, none)
theorem kD_X8_read : CodeIn mX8_read 2 := ⟨kC_X8_read, by decide +kernel⟩
def fJ_X8_read_108 (c57 : Int32 → Int32 → Int32 → Int32 → Hp → Option (Int32 × Hp)) (x1 : Int32) (x2 : Int32) (x3 : Int32) (x5 : Int32) (xs0 : Int32) (h : Hp) : Option (Int32 × Hp) := (if xs0 = 0 then (c57 x1 x2 x3 xs0 h) else ((f_X8_laysOut x5 x2 h).bind fun r5 => (if 0 ≤ x1 ∧ x1 < 4 then (if (gI r5 50 0 (Int32.toNatClampNeg x1)) ≤ (x3 + 1) then (c57 x1 x2 (x3 + 1) (0 : Int32) r5) else (c57 x1 x2 (x3 + 1) (1 : Int32) r5)) else none)))
set_option maxRecDepth 100000 in
set_option maxHeartbeats 4000000 in
theorem aJ_X8_read_108 (c57 : Int32 → Int32 → Int32 → Int32 → Hp → Option (Int32 × Hp)) (hc57 : ∀ (x1 : Int32) (x2 : Int32) (x3 : Int32) (x4 : Int32) (h : Hp), Aw eI U0 mX8_read (0, 0) U0 57 [some (vr 8 (some 0)), some (vi x1), some (vi x2), some (vi x3), some (vi x4), none] [] h (c57 x1 x2 x3 x4 h)) (x1 : Int32) (x2 : Int32) (x3 : Int32) (x5 : Int32) (xs0 : Int32) (h : Hp) : Aw eI U0 mX8_read (0, 0) U0 108 [some (vr 8 (some 0)), some (vi x1), some (vi x2), some (vi x3), none, some (vi x5)] [vi xs0] h (fJ_X8_read_108 c57 x1 x2 x3 x5 xs0 h) := by
  unfold fJ_X8_read_108
  refine A_istore (pc := 108) (i := 4) (ls2 := [some (vr 8 (some 0)), some (vi x1), some (vi x2), some (vi x3), some (vi xs0), some (vi x5)]) dX8_read_108 (Nat.le_of_ble_eq_true rfl) rfl ?_
  refine A_iload (pc := 110) (i := 4) dX8_read_110 rfl ?_
  refine A_if_eq (pc := 112) (tgt := 142) dX8_read_112 (by decide) ?_ ?_
  · refine A_goto (pc := 142) (tgt := 57) dX8_read_142 (by decide) ?_
    exact Aw.weak (ls' := [some (vr 8 (some 0)), some (vi x1), some (vi x2), some (vi x3), some (vi xs0), none]) ⟨rfl, ⟨rfl, ⟨rfl, ⟨rfl, ⟨rfl, trivial⟩⟩⟩⟩⟩ (hc57 x1 x2 x3 xs0 h)
  · refine A_aload_n (pc := 115) (i := 0) dX8_read_115 rfl rfl ?_
    refine A_iload (pc := 116) (i := 5) dX8_read_116 rfl ?_
    refine A_iload_n (pc := 118) (i := 2) dX8_read_118 rfl rfl ?_
    refine A_callV (pc := 119) (M' := mX8_laysOut) (As := [vi x5, vi x2]) (st := []) (0, 0) (fun r5 => []) (fun r5 => r5) (a_X8_laysOut x5 x2 h) kD_X8_laysOut kM_X8_164 kI_X8_laysOut kS_X8_laysOut kN_X8 ⟨(Nat.le_of_ble_eq_true rfl), (Nat.le_of_ble_eq_true rfl)⟩ dX8_read_119 rfl rfl rfl (by decide) rfl (Nat.le_of_ble_eq_true rfl) (Nat.le_of_ble_eq_true rfl) (Nat.le_of_ble_eq_true rfl) (fun _ => rfl) (fun _ => rfl) (fun r5 => ?_)
    refine A_iinc (pc := 122) (i := 3) (v := (x3 + 1)) (ls2 := [some (vr 8 (some 0)), some (vi x1), some (vi x2), some (vi (x3 + 1)), some (vi xs0), some (vi x5)]) dX8_read_122 rfl rfl (Nat.le_of_ble_eq_true rfl) rfl ?_
    refine A_iload_n (pc := 125) (i := 3) dX8_read_125 rfl rfl ?_
    refine A_aload_n (pc := 126) (i := 0) dX8_read_126 rfl rfl ?_
    refine A_getS (pc := 127) (k := 28) (tp := 50) clX8 (Nat.le_of_ble_eq_true rfl) dX8_read_127 kF_X8_76 rfl rfl rfl ?_
    refine A_iload_n (pc := 130) (i := 1) dX8_read_130 rfl rfl ?_
    refine A_iaload (pc := 131) (n := 4) (by decide) (by decide) rfl dX8_read_131 (by decide) ?_
    refine A_icmp_ge (pc := 132) (tgt := 139) dX8_read_132 (by decide) ?_ ?_
    · refine A_iconst (pc := 139) (v := (0 : Int32)) dX8_read_139 (by decide) ?_
      refine A_istore (pc := 140) (i := 4) (ls2 := [some (vr 8 (some 0)), some (vi x1), some (vi x2), some (vi (x3 + 1)), some (vi (0 : Int32)), some (vi x5)]) dX8_read_140 (Nat.le_of_ble_eq_true rfl) rfl ?_
      refine A_goto (pc := 142) (tgt := 57) dX8_read_142 (by decide) ?_
      exact Aw.weak (ls' := [some (vr 8 (some 0)), some (vi x1), some (vi x2), some (vi (x3 + 1)), some (vi (0 : Int32)), none]) ⟨rfl, ⟨rfl, ⟨rfl, ⟨rfl, ⟨rfl, trivial⟩⟩⟩⟩⟩ (hc57 x1 x2 (x3 + 1) (0 : Int32) r5)
    · refine A_iconst (pc := 135) (v := (1 : Int32)) dX8_read_135 (by decide) ?_
      refine A_goto (pc := 136) (tgt := 140) dX8_read_136 (by decide) ?_
      refine A_istore (pc := 140) (i := 4) (ls2 := [some (vr 8 (some 0)), some (vi x1), some (vi x2), some (vi (x3 + 1)), some (vi (1 : Int32)), some (vi x5)]) dX8_read_140 (Nat.le_of_ble_eq_true rfl) rfl ?_
      refine A_goto (pc := 142) (tgt := 57) dX8_read_142 (by decide) ?_
      exact Aw.weak (ls' := [some (vr 8 (some 0)), some (vi x1), some (vi x2), some (vi (x3 + 1)), some (vi (1 : Int32)), none]) ⟨rfl, ⟨rfl, ⟨rfl, ⟨rfl, ⟨rfl, trivial⟩⟩⟩⟩⟩ (hc57 x1 x2 (x3 + 1) (1 : Int32) r5)
def fJ_X8_read_107 (c57 : Int32 → Int32 → Int32 → Int32 → Hp → Option (Int32 × Hp)) (x1 : Int32) (x2 : Int32) (x3 : Int32) (x5 : Int32) (h : Hp) : Option (Int32 × Hp) := (fJ_X8_read_108 c57 x1 x2 x3 x5 (0 : Int32) h)
set_option maxRecDepth 100000 in
set_option maxHeartbeats 4000000 in
theorem aJ_X8_read_107 (c57 : Int32 → Int32 → Int32 → Int32 → Hp → Option (Int32 × Hp)) (hc57 : ∀ (x1 : Int32) (x2 : Int32) (x3 : Int32) (x4 : Int32) (h : Hp), Aw eI U0 mX8_read (0, 0) U0 57 [some (vr 8 (some 0)), some (vi x1), some (vi x2), some (vi x3), some (vi x4), none] [] h (c57 x1 x2 x3 x4 h)) (x1 : Int32) (x2 : Int32) (x3 : Int32) (x5 : Int32) (h : Hp) : Aw eI U0 mX8_read (0, 0) U0 107 [some (vr 8 (some 0)), some (vi x1), some (vi x2), some (vi x3), none, some (vi x5)] [] h (fJ_X8_read_107 c57 x1 x2 x3 x5 h) := by
  unfold fJ_X8_read_107
  refine A_iconst (pc := 107) (v := (0 : Int32)) dX8_read_107 (by decide) ?_
  exact Aw.weak (ls' := [some (vr 8 (some 0)), some (vi x1), some (vi x2), some (vi x3), none, some (vi x5)]) ⟨rfl, ⟨rfl, ⟨rfl, ⟨rfl, ⟨rfl, trivial⟩⟩⟩⟩⟩ (aJ_X8_read_108 c57 hc57 x1 x2 x3 x5 (0 : Int32) h)
def fL_X8_read_57 : Nat → Int32 → Int32 → Int32 → Int32 → Hp → Option (Int32 × Hp)
  | 0, _, _, _, _, _ => none
  | n + 1, x1, x2, x3, x4, h => (if x4 = 0 then (some (x3, h)) else (if 0 ≤ (((8 : Int32) * x1) + x3) ∧ (((8 : Int32) * x1) + x3) < 32 then ((f_X8_isBoat (gI h 51 0 (Int32.toNatClampNeg (((8 : Int32) * x1) + x3))) h).bind fun r4 => (if r4 = true then ((f_X8_spotOf (gI h 51 0 (Int32.toNatClampNeg (((8 : Int32) * x1) + x3))) h).bind fun r6 => (if 0 ≤ r6 then (fJ_X8_read_107 (fL_X8_read_57 n) x1 x2 x3 (gI h 51 0 (Int32.toNatClampNeg (((8 : Int32) * x1) + x3))) h) else ((f_X8_whyNotOutside (gI h 51 0 (Int32.toNatClampNeg (((8 : Int32) * x1) + x3))) x2 h).bind fun r7 => (if r7 = 0 then (fJ_X8_read_108 (fL_X8_read_57 n) x1 x2 x3 (gI h 51 0 (Int32.toNatClampNeg (((8 : Int32) * x1) + x3))) (1 : Int32) h) else (fJ_X8_read_107 (fL_X8_read_57 n) x1 x2 x3 (gI h 51 0 (Int32.toNatClampNeg (((8 : Int32) * x1) + x3))) h))))) else (fJ_X8_read_107 (fL_X8_read_57 n) x1 x2 x3 (gI h 51 0 (Int32.toNatClampNeg (((8 : Int32) * x1) + x3))) h))) else none))
set_option maxRecDepth 100000 in
set_option maxHeartbeats 4000000 in
theorem aL_X8_read_57 : ∀ (n : Nat) (x1 : Int32) (x2 : Int32) (x3 : Int32) (x4 : Int32) (h : Hp), Aw eI U0 mX8_read (0, 0) U0 57 [some (vr 8 (some 0)), some (vi x1), some (vi x2), some (vi x3), some (vi x4), none] [] h (fL_X8_read_57 n x1 x2 x3 x4 h) := by
  intro n
  induction n with
  | zero =>
    intro x1 x2 x3 x4 h
    exact Aw.none
  | succ n ih =>
    intro x1 x2 x3 x4 h
    show Aw _ _ _ _ _ _ _ _ _ (fL_X8_read_57 (n + 1) x1 x2 x3 x4 h)
    unfold fL_X8_read_57
    refine A_iload (pc := 57) (i := 4) dX8_read_57 rfl ?_
    refine A_if_eq (pc := 59) (tgt := 145) dX8_read_59 (by decide) ?_ ?_
    · refine A_iload_n (pc := 145) (i := 3) dX8_read_145 rfl rfl ?_
      exact A_retI rfl dX8_read_146
    · refine A_aload_n (pc := 62) (i := 0) dX8_read_62 rfl rfl ?_
      refine A_getS (pc := 63) (k := 29) (tp := 51) clX8 (Nat.le_of_ble_eq_true rfl) dX8_read_63 kF_X8_79 rfl rfl rfl ?_
      refine A_bipush (pc := 66) (v := (8 : Int32)) dX8_read_66 (by decide) ?_
      refine A_iload_n (pc := 68) (i := 1) dX8_read_68 rfl rfl ?_
      refine A_imul (pc := 69) dX8_read_69 ?_
      refine A_iload_n (pc := 70) (i := 3) dX8_read_70 rfl rfl ?_
      refine A_iadd (pc := 71) dX8_read_71 ?_
      refine A_iaload (pc := 72) (n := 32) (by decide) (by decide) rfl dX8_read_72 (by decide) ?_
      refine A_istore (pc := 73) (i := 5) (ls2 := [some (vr 8 (some 0)), some (vi x1), some (vi x2), some (vi x3), some (vi x4), some (vi (gI h 51 0 (Int32.toNatClampNeg (((8 : Int32) * x1) + x3))))]) dX8_read_73 (Nat.le_of_ble_eq_true rfl) rfl ?_
      refine A_aload_n (pc := 75) (i := 0) dX8_read_75 rfl rfl ?_
      refine A_iload (pc := 76) (i := 5) dX8_read_76 rfl ?_
      refine A_callV (pc := 78) (M' := mX8_isBoat) (As := [vi (gI h 51 0 (Int32.toNatClampNeg (((8 : Int32) * x1) + x3)))]) (st := []) (0, 0) (fun r4 => [vi (bi r4)]) (fun _ => h) (a_X8_isBoat (gI h 51 0 (Int32.toNatClampNeg (((8 : Int32) * x1) + x3))) h) kD_X8_isBoat kM_X8_131 kI_X8_isBoat kS_X8_isBoat kN_X8 ⟨(Nat.le_of_ble_eq_true rfl), (Nat.le_of_ble_eq_true rfl)⟩ dX8_read_78 rfl rfl rfl (by decide) rfl (Nat.le_of_ble_eq_true rfl) (Nat.le_of_ble_eq_true rfl) (Nat.le_of_ble_eq_true rfl) (fun _ => rfl) (fun _ => rfl) (fun r4 => ?_)
      refine A_ifb_eq (pc := 81) (tgt := 107) dX8_read_81 (by decide) ?_ ?_
      · exact Aw.weak (ls' := [some (vr 8 (some 0)), some (vi x1), some (vi x2), some (vi x3), none, some (vi (gI h 51 0 (Int32.toNatClampNeg (((8 : Int32) * x1) + x3))))]) ⟨rfl, ⟨rfl, ⟨rfl, ⟨rfl, ⟨rfl, trivial⟩⟩⟩⟩⟩ (aJ_X8_read_107 (fL_X8_read_57 n) ih x1 x2 x3 (gI h 51 0 (Int32.toNatClampNeg (((8 : Int32) * x1) + x3))) h)
      · refine A_aload_n (pc := 84) (i := 0) dX8_read_84 rfl rfl ?_
        refine A_iload (pc := 85) (i := 5) dX8_read_85 rfl ?_
        refine A_callV (pc := 87) (M' := mX8_spotOf) (As := [vi (gI h 51 0 (Int32.toNatClampNeg (((8 : Int32) * x1) + x3)))]) (st := []) (0, 0) (fun r6 => [vi r6]) (fun _ => h) (a_X8_spotOf (gI h 51 0 (Int32.toNatClampNeg (((8 : Int32) * x1) + x3))) h) kD_X8_spotOf kM_X8_146 kI_X8_spotOf kS_X8_spotOf kN_X8 ⟨(Nat.le_of_ble_eq_true rfl), (Nat.le_of_ble_eq_true rfl)⟩ dX8_read_87 rfl rfl rfl (by decide) rfl (Nat.le_of_ble_eq_true rfl) (Nat.le_of_ble_eq_true rfl) (Nat.le_of_ble_eq_true rfl) (fun _ => rfl) (fun _ => rfl) (fun r6 => ?_)
        refine A_if_ge (pc := 90) (tgt := 107) dX8_read_90 (by decide) ?_ ?_
        · exact Aw.weak (ls' := [some (vr 8 (some 0)), some (vi x1), some (vi x2), some (vi x3), none, some (vi (gI h 51 0 (Int32.toNatClampNeg (((8 : Int32) * x1) + x3))))]) ⟨rfl, ⟨rfl, ⟨rfl, ⟨rfl, ⟨rfl, trivial⟩⟩⟩⟩⟩ (aJ_X8_read_107 (fL_X8_read_57 n) ih x1 x2 x3 (gI h 51 0 (Int32.toNatClampNeg (((8 : Int32) * x1) + x3))) h)
        · refine A_aload_n (pc := 93) (i := 0) dX8_read_93 rfl rfl ?_
          refine A_iload (pc := 94) (i := 5) dX8_read_94 rfl ?_
          refine A_iload_n (pc := 96) (i := 2) dX8_read_96 rfl rfl ?_
          refine A_callV (pc := 97) (M' := mX8_whyNotOutside) (As := [vi (gI h 51 0 (Int32.toNatClampNeg (((8 : Int32) * x1) + x3))), vi x2]) (st := []) (0, 0) (fun r7 => [vi r7]) (fun _ => h) (a_X8_whyNotOutside (gI h 51 0 (Int32.toNatClampNeg (((8 : Int32) * x1) + x3))) x2 h) kD_X8_whyNotOutside kM_X8_161 kI_X8_whyNotOutside kS_X8_whyNotOutside kN_X8 ⟨(Nat.le_of_ble_eq_true rfl), (Nat.le_of_ble_eq_true rfl)⟩ dX8_read_97 rfl rfl rfl (by decide) rfl (Nat.le_of_ble_eq_true rfl) (Nat.le_of_ble_eq_true rfl) (Nat.le_of_ble_eq_true rfl) (fun _ => rfl) (fun _ => rfl) (fun r7 => ?_)
          refine A_if_ne (pc := 100) (tgt := 107) dX8_read_100 (by decide) ?_ ?_
          · exact Aw.weak (ls' := [some (vr 8 (some 0)), some (vi x1), some (vi x2), some (vi x3), none, some (vi (gI h 51 0 (Int32.toNatClampNeg (((8 : Int32) * x1) + x3))))]) ⟨rfl, ⟨rfl, ⟨rfl, ⟨rfl, ⟨rfl, trivial⟩⟩⟩⟩⟩ (aJ_X8_read_107 (fL_X8_read_57 n) ih x1 x2 x3 (gI h 51 0 (Int32.toNatClampNeg (((8 : Int32) * x1) + x3))) h)
          · refine A_iconst (pc := 103) (v := (1 : Int32)) dX8_read_103 (by decide) ?_
            refine A_goto (pc := 104) (tgt := 108) dX8_read_104 (by decide) ?_
            exact Aw.weak (ls' := [some (vr 8 (some 0)), some (vi x1), some (vi x2), some (vi x3), none, some (vi (gI h 51 0 (Int32.toNatClampNeg (((8 : Int32) * x1) + x3))))]) ⟨rfl, ⟨rfl, ⟨rfl, ⟨rfl, ⟨rfl, trivial⟩⟩⟩⟩⟩ (aJ_X8_read_108 (fL_X8_read_57 n) ih x1 x2 x3 (gI h 51 0 (Int32.toNatClampNeg (((8 : Int32) * x1) + x3))) (1 : Int32) h)
def f_X8_read (x1 : Int32) (x2 : Int32) (h : Hp) : Option (Int32 × Hp) := ((f_X8_isSheet x1 h).bind fun r1 => (if r1 = true then ((f_X8_isBerth x2 h).bind fun r3 => (if r3 = true then (if 0 ≤ x1 ∧ x1 < 4 then (if (gI h 49 0 (Int32.toNatClampNeg x1)) = 0 then ((f_X8_finding (-1000006 : Int32) h).bind fun r8 => (some (r8.1, r8.2))) else (if 0 ≤ x1 ∧ x1 < 4 then (if (gI h 50 0 (Int32.toNatClampNeg x1)) ≤ (0 : Int32) then (fL_X8_read_57 FU x1 x2 (0 : Int32) (0 : Int32) h) else (fL_X8_read_57 FU x1 x2 (0 : Int32) (1 : Int32) h)) else none)) else none) else ((f_X8_finding (-1000001 : Int32) h).bind fun r9 => (some (r9.1, r9.2))))) else ((f_X8_finding (-1000001 : Int32) h).bind fun r2 => (some (r2.1, r2.2)))))
set_option maxRecDepth 100000 in
set_option maxHeartbeats 4000000 in
theorem a_X8_read (x1 : Int32) (x2 : Int32) (h : Hp) : CtA eI mX8_read U0 U0 [vr 8 (some 0), vi x1, vi x2] h (f_X8_read x1 x2 h) := by
  refine Ct.of (ls := [some (vr 8 (some 0)), some (vi x1), some (vi x2), none, none, none]) (n := 3) (by decide +kernel) rfl rfl rfl ?_
  unfold f_X8_read
  refine A_iload_n (pc := 0) (i := 1) dX8_read_0 rfl rfl ?_
  refine A_callS (pc := 1) (M' := mX8_isSheet) (As := [vi x1]) (st := []) (0, 0) (fun r1 => [vi (bi r1)]) (fun _ => h) (a_X8_isSheet x1 h) kD_X8_isSheet kM_X8_242 kT_X8_isSheet kN_X8 ⟨(Nat.le_of_ble_eq_true rfl), (Nat.le_of_ble_eq_true rfl)⟩ dX8_read_1 rfl rfl (Nat.le_of_ble_eq_true rfl) (Nat.le_of_ble_eq_true rfl) (Nat.le_of_ble_eq_true rfl) (fun _ => rfl) (fun _ => rfl) (fun r1 => ?_)
  refine A_ifb_eq (pc := 4) (tgt := 15) dX8_read_4 (by decide) ?_ ?_
  · refine A_aload_n (pc := 15) (i := 0) dX8_read_15 rfl rfl ?_
    refine A_ldc (pc := 16) (v := (-1000001 : Int32)) dX8_read_16 kK_X8_125 ?_
    refine A_callV (pc := 18) (M' := mX8_finding) (As := [vi (-1000001 : Int32)]) (st := []) (0, 0) (fun r2 => [vi r2.1]) (fun r2 => r2.2) (a_X8_finding (-1000001 : Int32) h) kD_X8_finding kM_X8_126 kI_X8_finding kS_X8_finding kN_X8 ⟨(Nat.le_of_ble_eq_true rfl), (Nat.le_of_ble_eq_true rfl)⟩ dX8_read_18 rfl rfl rfl (by decide) rfl (Nat.le_of_ble_eq_true rfl) (Nat.le_of_ble_eq_true rfl) (Nat.le_of_ble_eq_true rfl) (fun _ => rfl) (fun _ => rfl) (fun r2 => ?_)
    exact A_retI rfl dX8_read_21
  · refine A_aload_n (pc := 7) (i := 0) dX8_read_7 rfl rfl ?_
    refine A_iload_n (pc := 8) (i := 2) dX8_read_8 rfl rfl ?_
    refine A_callV (pc := 9) (M' := mX8_isBerth) (As := [vi x2]) (st := []) (0, 0) (fun r3 => [vi (bi r3)]) (fun _ => h) (a_X8_isBerth x2 h) kD_X8_isBerth kM_X8_149 kI_X8_isBerth kS_X8_isBerth kN_X8 ⟨(Nat.le_of_ble_eq_true rfl), (Nat.le_of_ble_eq_true rfl)⟩ dX8_read_9 rfl rfl rfl (by decide) rfl (Nat.le_of_ble_eq_true rfl) (Nat.le_of_ble_eq_true rfl) (Nat.le_of_ble_eq_true rfl) (fun _ => rfl) (fun _ => rfl) (fun r3 => ?_)
    refine A_ifb_ne (pc := 12) (tgt := 22) dX8_read_12 (by decide) ?_ ?_
    · refine A_aload_n (pc := 22) (i := 0) dX8_read_22 rfl rfl ?_
      refine A_getS (pc := 23) (k := 27) (tp := 49) clX8 (Nat.le_of_ble_eq_true rfl) dX8_read_23 kF_X8_73 rfl rfl rfl ?_
      refine A_iload_n (pc := 26) (i := 1) dX8_read_26 rfl rfl ?_
      refine A_iaload (pc := 27) (n := 4) (by decide) (by decide) rfl dX8_read_27 (by decide) ?_
      refine A_if_ne (pc := 28) (tgt := 38) dX8_read_28 (by decide) ?_ ?_
      · refine A_iconst (pc := 38) (v := (0 : Int32)) dX8_read_38 (by decide) ?_
        refine A_istore_n (pc := 39) (i := 3) (ls2 := [some (vr 8 (some 0)), some (vi x1), some (vi x2), some (vi (0 : Int32)), none, none]) dX8_read_39 rfl (Nat.le_of_ble_eq_true rfl) rfl ?_
        refine A_iload_n (pc := 40) (i := 3) dX8_read_40 rfl rfl ?_
        refine A_aload_n (pc := 41) (i := 0) dX8_read_41 rfl rfl ?_
        refine A_getS (pc := 42) (k := 28) (tp := 50) clX8 (Nat.le_of_ble_eq_true rfl) dX8_read_42 kF_X8_76 rfl rfl rfl ?_
        refine A_iload_n (pc := 45) (i := 1) dX8_read_45 rfl rfl ?_
        refine A_iaload (pc := 46) (n := 4) (by decide) (by decide) rfl dX8_read_46 (by decide) ?_
        refine A_icmp_ge (pc := 47) (tgt := 54) dX8_read_47 (by decide) ?_ ?_
        · refine A_iconst (pc := 54) (v := (0 : Int32)) dX8_read_54 (by decide) ?_
          refine A_istore (pc := 55) (i := 4) (ls2 := [some (vr 8 (some 0)), some (vi x1), some (vi x2), some (vi (0 : Int32)), some (vi (0 : Int32)), none]) dX8_read_55 (Nat.le_of_ble_eq_true rfl) rfl ?_
          exact Aw.weak (ls' := [some (vr 8 (some 0)), some (vi x1), some (vi x2), some (vi (0 : Int32)), some (vi (0 : Int32)), none]) ⟨rfl, ⟨rfl, ⟨rfl, ⟨rfl, ⟨rfl, trivial⟩⟩⟩⟩⟩ (aL_X8_read_57 FU x1 x2 (0 : Int32) (0 : Int32) h)
        · refine A_iconst (pc := 50) (v := (1 : Int32)) dX8_read_50 (by decide) ?_
          refine A_goto (pc := 51) (tgt := 55) dX8_read_51 (by decide) ?_
          refine A_istore (pc := 55) (i := 4) (ls2 := [some (vr 8 (some 0)), some (vi x1), some (vi x2), some (vi (0 : Int32)), some (vi (1 : Int32)), none]) dX8_read_55 (Nat.le_of_ble_eq_true rfl) rfl ?_
          exact Aw.weak (ls' := [some (vr 8 (some 0)), some (vi x1), some (vi x2), some (vi (0 : Int32)), some (vi (1 : Int32)), none]) ⟨rfl, ⟨rfl, ⟨rfl, ⟨rfl, ⟨rfl, trivial⟩⟩⟩⟩⟩ (aL_X8_read_57 FU x1 x2 (0 : Int32) (1 : Int32) h)
      · refine A_aload_n (pc := 31) (i := 0) dX8_read_31 rfl rfl ?_
        refine A_ldc (pc := 32) (v := (-1000006 : Int32)) dX8_read_32 kK_X8_245 ?_
        refine A_callV (pc := 34) (M' := mX8_finding) (As := [vi (-1000006 : Int32)]) (st := []) (0, 0) (fun r8 => [vi r8.1]) (fun r8 => r8.2) (a_X8_finding (-1000006 : Int32) h) kD_X8_finding kM_X8_126 kI_X8_finding kS_X8_finding kN_X8 ⟨(Nat.le_of_ble_eq_true rfl), (Nat.le_of_ble_eq_true rfl)⟩ dX8_read_34 rfl rfl rfl (by decide) rfl (Nat.le_of_ble_eq_true rfl) (Nat.le_of_ble_eq_true rfl) (Nat.le_of_ble_eq_true rfl) (fun _ => rfl) (fun _ => rfl) (fun r8 => ?_)
        exact A_retI rfl dX8_read_37
    · refine A_aload_n (pc := 15) (i := 0) dX8_read_15 rfl rfl ?_
      refine A_ldc (pc := 16) (v := (-1000001 : Int32)) dX8_read_16 kK_X8_125 ?_
      refine A_callV (pc := 18) (M' := mX8_finding) (As := [vi (-1000001 : Int32)]) (st := []) (0, 0) (fun r9 => [vi r9.1]) (fun r9 => r9.2) (a_X8_finding (-1000001 : Int32) h) kD_X8_finding kM_X8_126 kI_X8_finding kS_X8_finding kN_X8 ⟨(Nat.le_of_ble_eq_true rfl), (Nat.le_of_ble_eq_true rfl)⟩ dX8_read_18 rfl rfl rfl (by decide) rfl (Nat.le_of_ble_eq_true rfl) (Nat.le_of_ble_eq_true rfl) (Nat.le_of_ble_eq_true rfl) (fun _ => rfl) (fun _ => rfl) (fun r9 => ?_)
      exact A_retI rfl dX8_read_21

abbrev mX8_told : MD := (yX8_told, cX8_told, 4, (some .int), { frames := 1, cells := 0, slots := 0, locals := 21 }, none)
theorem kD_X8_told : CodeIn mX8_told 1 := ⟨kC_X8_told, by decide +kernel⟩
def fL_X8_told_4 : Nat → Int32 → Int32 → Int32 → Hp → Option (Int32 × Hp)
  | 0, _, _, _, _ => none
  | n + 1, x1, x2, x3, h => (if (gI h 8 0 0) ≤ x3 then (nif x1 0 [(some ((gI h 8 0 0), h)), (some ((gI h 8 0 6), h)), (some (x2, h)), (some ((gI h 8 0 19), h)), (some ((gI h 8 0 21), h)), (some ((gI h 8 0 26), h)), (some ((gI h 8 0 16), h)), (some ((gI h 8 0 30), h))] ((f_X8_finding (-1000001 : Int32) h).bind fun r1 => (some (r1.1, r1.2)))) else (if 0 ≤ x3 ∧ x3 < 4 then ((fL_X8_told_4 n) x1 (x2 + (gI h 43 0 (Int32.toNatClampNeg x3))) (x3 + 1) h) else none))
set_option maxRecDepth 100000 in
set_option maxHeartbeats 4000000 in
theorem aL_X8_told_4 : ∀ (n : Nat) (x1 : Int32) (x2 : Int32) (x3 : Int32) (h : Hp), Aw eI U0 mX8_told (0, 0) U0 4 [some (vr 8 (some 0)), some (vi x1), some (vi x2), some (vi x3)] [] h (fL_X8_told_4 n x1 x2 x3 h) := by
  intro n
  induction n with
  | zero =>
    intro x1 x2 x3 h
    exact Aw.none
  | succ n ih =>
    intro x1 x2 x3 h
    show Aw _ _ _ _ _ _ _ _ _ (fL_X8_told_4 (n + 1) x1 x2 x3 h)
    unfold fL_X8_told_4
    refine A_iload_n (pc := 4) (i := 3) dX8_told_4 rfl rfl ?_
    refine A_aload_n (pc := 5) (i := 0) dX8_told_5 rfl rfl ?_
    refine A_getI (pc := 6) (k := 0) clX8 (Nat.le_of_ble_eq_true rfl) dX8_told_6 kF_X8_115 rfl ?_
    refine A_icmp_ge (pc := 9) (tgt := 27) dX8_told_9 (by decide) ?_ ?_
    · refine A_iload_n (pc := 27) (i := 1) dX8_told_27 rfl rfl ?_
      refine A_table (pc := 28) (tgt := 113) dX8_told_28 (by simp) (by simp) (by decide) ?_ (AwL_c 76 (by decide) ?_ (AwL_c 81 (by decide) ?_ (AwL_c 86 (by decide) ?_ (AwL_c 88 (by decide) ?_ (AwL_c 93 (by decide) ?_ (AwL_c 98 (by decide) ?_ (AwL_c 103 (by decide) ?_ (AwL_c 108 (by decide) ?_ AwL_n))))))))
      · refine A_aload_n (pc := 113) (i := 0) dX8_told_113 rfl rfl ?_
        refine A_ldc (pc := 114) (v := (-1000001 : Int32)) dX8_told_114 kK_X8_125 ?_
        refine A_callV (pc := 116) (M' := mX8_finding) (As := [vi (-1000001 : Int32)]) (st := []) (0, 0) (fun r1 => [vi r1.1]) (fun r1 => r1.2) (a_X8_finding (-1000001 : Int32) h) kD_X8_finding kM_X8_126 kI_X8_finding kS_X8_finding kN_X8 ⟨(Nat.le_of_ble_eq_true rfl), (Nat.le_of_ble_eq_true rfl)⟩ dX8_told_116 rfl rfl rfl (by decide) rfl (Nat.le_of_ble_eq_true rfl) (Nat.le_of_ble_eq_true rfl) (Nat.le_of_ble_eq_true rfl) (fun _ => rfl) (fun _ => rfl) (fun r1 => ?_)
        exact A_retI rfl dX8_told_119
      · refine A_aload_n (pc := 76) (i := 0) dX8_told_76 rfl rfl ?_
        refine A_getI (pc := 77) (k := 0) clX8 (Nat.le_of_ble_eq_true rfl) dX8_told_77 kF_X8_115 rfl ?_
        exact A_retI rfl dX8_told_80
      · refine A_aload_n (pc := 81) (i := 0) dX8_told_81 rfl rfl ?_
        refine A_getI (pc := 82) (k := 6) clX8 (Nat.le_of_ble_eq_true rfl) dX8_told_82 kF_X8_122 rfl ?_
        exact A_retI rfl dX8_told_85
      · refine A_iload_n (pc := 86) (i := 2) dX8_told_86 rfl rfl ?_
        exact A_retI rfl dX8_told_87
      · refine A_aload_n (pc := 88) (i := 0) dX8_told_88 rfl rfl ?_
        refine A_getI (pc := 89) (k := 19) clX8 (Nat.le_of_ble_eq_true rfl) dX8_told_89 kF_X8_211 rfl ?_
        exact A_retI rfl dX8_told_92
      · refine A_aload_n (pc := 93) (i := 0) dX8_told_93 rfl rfl ?_
        refine A_getI (pc := 94) (k := 21) clX8 (Nat.le_of_ble_eq_true rfl) dX8_told_94 kF_X8_236 rfl ?_
        exact A_retI rfl dX8_told_97
      · refine A_aload_n (pc := 98) (i := 0) dX8_told_98 rfl rfl ?_
        refine A_getI (pc := 99) (k := 26) clX8 (Nat.le_of_ble_eq_true rfl) dX8_told_99 kF_X8_224 rfl ?_
        exact A_retI rfl dX8_told_102
      · refine A_aload_n (pc := 103) (i := 0) dX8_told_103 rfl rfl ?_
        refine A_getI (pc := 104) (k := 16) clX8 (Nat.le_of_ble_eq_true rfl) dX8_told_104 kF_X8_168 rfl ?_
        exact A_retI rfl dX8_told_107
      · refine A_aload_n (pc := 108) (i := 0) dX8_told_108 rfl rfl ?_
        refine A_getI (pc := 109) (k := 30) clX8 (Nat.le_of_ble_eq_true rfl) dX8_told_109 kF_X8_112 rfl ?_
        exact A_retI rfl dX8_told_112
    · refine A_iload_n (pc := 12) (i := 2) dX8_told_12 rfl rfl ?_
      refine A_aload_n (pc := 13) (i := 0) dX8_told_13 rfl rfl ?_
      refine A_getS (pc := 14) (k := 17) (tp := 43) clX8 (Nat.le_of_ble_eq_true rfl) dX8_told_14 kF_X8_50 rfl rfl rfl ?_
      refine A_iload_n (pc := 17) (i := 3) dX8_told_17 rfl rfl ?_
      refine A_iaload (pc := 18) (n := 4) (by decide) (by decide) rfl dX8_told_18 (by decide) ?_
      refine A_iadd (pc := 19) dX8_told_19 ?_
      refine A_istore_n (pc := 20) (i := 2) (ls2 := [some (vr 8 (some 0)), some (vi x1), some (vi (x2 + (gI h 43 0 (Int32.toNatClampNeg x3)))), some (vi x3)]) dX8_told_20 rfl (Nat.le_of_ble_eq_true rfl) rfl ?_
      refine A_iinc (pc := 21) (i := 3) (v := (x3 + 1)) (ls2 := [some (vr 8 (some 0)), some (vi x1), some (vi (x2 + (gI h 43 0 (Int32.toNatClampNeg x3)))), some (vi (x3 + 1))]) dX8_told_21 rfl rfl (Nat.le_of_ble_eq_true rfl) rfl ?_
      refine A_goto (pc := 24) (tgt := 4) dX8_told_24 (by decide) ?_
      exact Aw.weak (ls' := [some (vr 8 (some 0)), some (vi x1), some (vi (x2 + (gI h 43 0 (Int32.toNatClampNeg x3)))), some (vi (x3 + 1))]) ⟨rfl, ⟨rfl, ⟨rfl, ⟨rfl, trivial⟩⟩⟩⟩ (ih x1 (x2 + (gI h 43 0 (Int32.toNatClampNeg x3))) (x3 + 1) h)
def f_X8_told (x1 : Int32) (h : Hp) : Option (Int32 × Hp) := (fL_X8_told_4 FU x1 (0 : Int32) (0 : Int32) h)
set_option maxRecDepth 100000 in
set_option maxHeartbeats 4000000 in
theorem a_X8_told (x1 : Int32) (h : Hp) : CtA eI mX8_told U0 U0 [vr 8 (some 0), vi x1] h (f_X8_told x1 h) := by
  refine Ct.of (ls := [some (vr 8 (some 0)), some (vi x1), none, none]) (n := 2) (by decide +kernel) rfl rfl rfl ?_
  unfold f_X8_told
  refine A_iconst (pc := 0) (v := (0 : Int32)) dX8_told_0 (by decide) ?_
  refine A_istore_n (pc := 1) (i := 2) (ls2 := [some (vr 8 (some 0)), some (vi x1), some (vi (0 : Int32)), none]) dX8_told_1 rfl (Nat.le_of_ble_eq_true rfl) rfl ?_
  refine A_iconst (pc := 2) (v := (0 : Int32)) dX8_told_2 (by decide) ?_
  refine A_istore_n (pc := 3) (i := 3) (ls2 := [some (vr 8 (some 0)), some (vi x1), some (vi (0 : Int32)), some (vi (0 : Int32))]) dX8_told_3 rfl (Nat.le_of_ble_eq_true rfl) rfl ?_
  exact Aw.weak (ls' := [some (vr 8 (some 0)), some (vi x1), some (vi (0 : Int32)), some (vi (0 : Int32))]) ⟨rfl, ⟨rfl, ⟨rfl, ⟨rfl, trivial⟩⟩⟩⟩ (aL_X8_told_4 FU x1 (0 : Int32) (0 : Int32) h)
