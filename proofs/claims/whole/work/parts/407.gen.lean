abbrev mX8_refusal : MD := (yX8_refusal, cX8_refusal, 5, (some .int), { frames := 5, cells := 0, slots := 0, locals := 117 }, none)
theorem kD_X8_refusal : CodeIn mX8_refusal 2 := ⟨kC_X8_refusal, by decide +kernel⟩
def fJ_X8_refusal_126 (h : Hp) : Option (Int32 × Hp) := ((f_X8_findPlacing h).bind fun r2 => (if (gI r2 8 0 38) = 0 then (some ((-1000004 : Int32), r2)) else (some ((0 : Int32), r2))))
set_option maxRecDepth 100000 in
set_option maxHeartbeats 4000000 in
theorem aJ_X8_refusal_126 (h : Hp) : Aw eI U0 mX8_refusal (0, 0) U0 126 [some (vr 8 (some 0)), none, none, none, none] [] h (fJ_X8_refusal_126 h) := by
  unfold fJ_X8_refusal_126
  refine A_aload_n (pc := 126) (i := 0) dX8_refusal_126 rfl rfl ?_
  refine A_callV (pc := 127) (M' := mX8_findPlacing) (As := []) (st := []) (0, 0) (fun r2 => []) (fun r2 => r2) (a_X8_findPlacing h) kD_X8_findPlacing kM_X8_205 kI_X8_findPlacing kS_X8_findPlacing kN_X8 ⟨(Nat.le_of_ble_eq_true rfl), (Nat.le_of_ble_eq_true rfl)⟩ dX8_refusal_127 rfl rfl rfl (by decide) rfl (Nat.le_of_ble_eq_true rfl) (Nat.le_of_ble_eq_true rfl) (Nat.le_of_ble_eq_true rfl) (fun _ => rfl) (fun _ => rfl) (fun r2 => ?_)
  refine A_aload_n (pc := 130) (i := 0) dX8_refusal_130 rfl rfl ?_
  refine A_getI (pc := 131) (k := 38) clX8 (Nat.le_of_ble_eq_true rfl) dX8_refusal_131 kF_X8_188 rfl ?_
  refine A_if_eq (pc := 134) (tgt := 141) dX8_refusal_134 (by decide) ?_ ?_
  · refine A_ldc (pc := 141) (v := (-1000004 : Int32)) dX8_refusal_141 kK_X8_181 ?_
    exact A_retI rfl dX8_refusal_143
  · refine A_iconst (pc := 137) (v := (0 : Int32)) dX8_refusal_137 (by decide) ?_
    refine A_goto (pc := 138) (tgt := 143) dX8_refusal_138 (by decide) ?_
    exact A_retI rfl dX8_refusal_143
def fL_X8_refusal_29 : Nat → Int32 → Int32 → Int32 → Int32 → Hp → Option (Int32 × Hp)
  | 0, _, _, _, _, _ => none
  | n + 1, x1, x2, x3, x4, h => (if (gI h 8 0 6) ≤ x4 then (if x3 ≤ (6 : Int32) then (if x2 = (-1 : Int32) then (fJ_X8_refusal_126 h) else ((f_X8_isBoat x2 h).bind fun r3 => (if r3 = true then (if ((x1 >>> (x2 &&& 31)) &&& (1 : Int32)) = 0 then (some ((-1000003 : Int32), h)) else (fJ_X8_refusal_126 h)) else (some ((-1000003 : Int32), h))))) else (some ((-1000007 : Int32), h))) else (if ((x1 >>> (x4 &&& 31)) &&& (1 : Int32)) = (1 : Int32) then (if (6 : Int32) ≤ (gI h 8 0 31) then ((fL_X8_refusal_29 n) x1 x2 (x3 + ((x1 >>> (x4 &&& 31)) &&& (1 : Int32))) (x4 + 1) h) else (if 0 ≤ (gI h 8 0 31) ∧ (gI h 8 0 31) < 6 then ((fL_X8_refusal_29 n) x1 x2 (x3 + ((x1 >>> (x4 &&& 31)) &&& (1 : Int32))) (x4 + 1) (wI (wI h 52 0 (Int32.toNatClampNeg (gI h 8 0 31)) x4) 8 0 31 ((gI (wI h 52 0 (Int32.toNatClampNeg (gI h 8 0 31)) x4) 8 0 31) + (1 : Int32)))) else none)) else ((fL_X8_refusal_29 n) x1 x2 (x3 + ((x1 >>> (x4 &&& 31)) &&& (1 : Int32))) (x4 + 1) h)))
set_option maxRecDepth 100000 in
set_option maxHeartbeats 4000000 in
theorem aL_X8_refusal_29 : ∀ (n : Nat) (x1 : Int32) (x2 : Int32) (x3 : Int32) (x4 : Int32) (h : Hp), Aw eI U0 mX8_refusal (0, 0) U0 29 [some (vr 8 (some 0)), some (vi x1), some (vi x2), some (vi x3), some (vi x4)] [] h (fL_X8_refusal_29 n x1 x2 x3 x4 h) := by
  intro n
  induction n with
  | zero =>
    intro x1 x2 x3 x4 h
    exact Aw.none
  | succ n ih =>
    intro x1 x2 x3 x4 h
    show Aw _ _ _ _ _ _ _ _ _ (fL_X8_refusal_29 (n + 1) x1 x2 x3 x4 h)
    unfold fL_X8_refusal_29
    refine A_iload (pc := 29) (i := 4) dX8_refusal_29 rfl ?_
    refine A_aload_n (pc := 31) (i := 0) dX8_refusal_31 rfl rfl ?_
    refine A_getI (pc := 32) (k := 6) clX8 (Nat.le_of_ble_eq_true rfl) dX8_refusal_32 kF_X8_122 rfl ?_
    refine A_icmp_ge (pc := 35) (tgt := 93) dX8_refusal_35 (by decide) ?_ ?_
    · refine A_iload_n (pc := 93) (i := 3) dX8_refusal_93 rfl rfl ?_
      refine A_bipush (pc := 94) (v := (6 : Int32)) dX8_refusal_94 (by decide) ?_
      refine A_icmp_le (pc := 96) (tgt := 102) dX8_refusal_96 (by decide) ?_ ?_
      · refine A_iload_n (pc := 102) (i := 2) dX8_refusal_102 rfl rfl ?_
        refine A_iconst (pc := 103) (v := (-1 : Int32)) dX8_refusal_103 (by decide) ?_
        refine A_icmp_eq (pc := 104) (tgt := 126) dX8_refusal_104 (by decide) ?_ ?_
        · exact Aw.weak (ls' := [some (vr 8 (some 0)), none, none, none, none]) ⟨rfl, trivial⟩ (aJ_X8_refusal_126 h)
        · refine A_aload_n (pc := 107) (i := 0) dX8_refusal_107 rfl rfl ?_
          refine A_iload_n (pc := 108) (i := 2) dX8_refusal_108 rfl rfl ?_
          refine A_callV (pc := 109) (M' := mX8_isBoat) (As := [vi x2]) (st := []) (0, 0) (fun r3 => [vi (bi r3)]) (fun _ => h) (a_X8_isBoat x2 h) kD_X8_isBoat kM_X8_131 kI_X8_isBoat kS_X8_isBoat kN_X8 ⟨(Nat.le_of_ble_eq_true rfl), (Nat.le_of_ble_eq_true rfl)⟩ dX8_refusal_109 rfl rfl rfl (by decide) rfl (Nat.le_of_ble_eq_true rfl) (Nat.le_of_ble_eq_true rfl) (Nat.le_of_ble_eq_true rfl) (fun _ => rfl) (fun _ => rfl) (fun r3 => ?_)
          refine A_ifb_eq (pc := 112) (tgt := 123) dX8_refusal_112 (by decide) ?_ ?_
          · refine A_ldc (pc := 123) (v := (-1000003 : Int32)) dX8_refusal_123 kK_X8_145 ?_
            exact A_retI rfl dX8_refusal_125
          · refine A_iload_n (pc := 115) (i := 1) dX8_refusal_115 rfl rfl ?_
            refine A_iload_n (pc := 116) (i := 2) dX8_refusal_116 rfl rfl ?_
            refine A_ishr (pc := 117) dX8_refusal_117 ?_
            refine A_iconst (pc := 118) (v := (1 : Int32)) dX8_refusal_118 (by decide) ?_
            refine A_iand (pc := 119) dX8_refusal_119 ?_
            refine A_if_ne (pc := 120) (tgt := 126) dX8_refusal_120 (by decide) ?_ ?_
            · exact Aw.weak (ls' := [some (vr 8 (some 0)), none, none, none, none]) ⟨rfl, trivial⟩ (aJ_X8_refusal_126 h)
            · refine A_ldc (pc := 123) (v := (-1000003 : Int32)) dX8_refusal_123 kK_X8_145 ?_
              exact A_retI rfl dX8_refusal_125
      · refine A_ldc (pc := 99) (v := (-1000007 : Int32)) dX8_refusal_99 kK_X8_204 ?_
        exact A_retI rfl dX8_refusal_101
    · refine A_iload_n (pc := 38) (i := 3) dX8_refusal_38 rfl rfl ?_
      refine A_iload_n (pc := 39) (i := 1) dX8_refusal_39 rfl rfl ?_
      refine A_iload (pc := 40) (i := 4) dX8_refusal_40 rfl ?_
      refine A_ishr (pc := 42) dX8_refusal_42 ?_
      refine A_iconst (pc := 43) (v := (1 : Int32)) dX8_refusal_43 (by decide) ?_
      refine A_iand (pc := 44) dX8_refusal_44 ?_
      refine A_iadd (pc := 45) dX8_refusal_45 ?_
      refine A_istore_n (pc := 46) (i := 3) (ls2 := [some (vr 8 (some 0)), some (vi x1), some (vi x2), some (vi (x3 + ((x1 >>> (x4 &&& 31)) &&& (1 : Int32)))), some (vi x4)]) dX8_refusal_46 rfl (Nat.le_of_ble_eq_true rfl) rfl ?_
      refine A_iload_n (pc := 47) (i := 1) dX8_refusal_47 rfl rfl ?_
      refine A_iload (pc := 48) (i := 4) dX8_refusal_48 rfl ?_
      refine A_ishr (pc := 50) dX8_refusal_50 ?_
      refine A_iconst (pc := 51) (v := (1 : Int32)) dX8_refusal_51 (by decide) ?_
      refine A_iand (pc := 52) dX8_refusal_52 ?_
      refine A_iconst (pc := 53) (v := (1 : Int32)) dX8_refusal_53 (by decide) ?_
      refine A_icmp_ne (pc := 54) (tgt := 87) dX8_refusal_54 (by decide) ?_ ?_
      · refine A_iinc (pc := 87) (i := 4) (v := (x4 + 1)) (ls2 := [some (vr 8 (some 0)), some (vi x1), some (vi x2), some (vi (x3 + ((x1 >>> (x4 &&& 31)) &&& (1 : Int32)))), some (vi (x4 + 1))]) dX8_refusal_87 rfl rfl (Nat.le_of_ble_eq_true rfl) rfl ?_
        refine A_goto (pc := 90) (tgt := 29) dX8_refusal_90 (by decide) ?_
        exact Aw.weak (ls' := [some (vr 8 (some 0)), some (vi x1), some (vi x2), some (vi (x3 + ((x1 >>> (x4 &&& 31)) &&& (1 : Int32)))), some (vi (x4 + 1))]) ⟨rfl, ⟨rfl, ⟨rfl, ⟨rfl, ⟨rfl, trivial⟩⟩⟩⟩⟩ (ih x1 x2 (x3 + ((x1 >>> (x4 &&& 31)) &&& (1 : Int32))) (x4 + 1) h)
      · refine A_aload_n (pc := 57) (i := 0) dX8_refusal_57 rfl rfl ?_
        refine A_getI (pc := 58) (k := 31) clX8 (Nat.le_of_ble_eq_true rfl) dX8_refusal_58 kF_X8_182 rfl ?_
        refine A_bipush (pc := 61) (v := (6 : Int32)) dX8_refusal_61 (by decide) ?_
        refine A_icmp_ge (pc := 63) (tgt := 87) dX8_refusal_63 (by decide) ?_ ?_
        · refine A_iinc (pc := 87) (i := 4) (v := (x4 + 1)) (ls2 := [some (vr 8 (some 0)), some (vi x1), some (vi x2), some (vi (x3 + ((x1 >>> (x4 &&& 31)) &&& (1 : Int32)))), some (vi (x4 + 1))]) dX8_refusal_87 rfl rfl (Nat.le_of_ble_eq_true rfl) rfl ?_
          refine A_goto (pc := 90) (tgt := 29) dX8_refusal_90 (by decide) ?_
          exact Aw.weak (ls' := [some (vr 8 (some 0)), some (vi x1), some (vi x2), some (vi (x3 + ((x1 >>> (x4 &&& 31)) &&& (1 : Int32)))), some (vi (x4 + 1))]) ⟨rfl, ⟨rfl, ⟨rfl, ⟨rfl, ⟨rfl, trivial⟩⟩⟩⟩⟩ (ih x1 x2 (x3 + ((x1 >>> (x4 &&& 31)) &&& (1 : Int32))) (x4 + 1) h)
        · refine A_aload_n (pc := 66) (i := 0) dX8_refusal_66 rfl rfl ?_
          refine A_getS (pc := 67) (k := 32) (tp := 52) clX8 (Nat.le_of_ble_eq_true rfl) dX8_refusal_67 kF_X8_82 rfl rfl rfl ?_
          refine A_aload_n (pc := 70) (i := 0) dX8_refusal_70 rfl rfl ?_
          refine A_getI (pc := 71) (k := 31) clX8 (Nat.le_of_ble_eq_true rfl) dX8_refusal_71 kF_X8_182 rfl ?_
          refine A_iload (pc := 74) (i := 4) dX8_refusal_74 rfl ?_
          refine A_iastore (pc := 76) (n := 6) (by decide) (by decide) rfl dX8_refusal_76 (by decide) ?_
          refine A_aload_n (pc := 77) (i := 0) dX8_refusal_77 rfl rfl ?_
          refine A_dup (pc := 78) dX8_refusal_78 (fun _ => cv_catr _ _) ?_
          refine A_getI (pc := 79) (k := 31) clX8 (Nat.le_of_ble_eq_true rfl) dX8_refusal_79 kF_X8_182 rfl ?_
          refine A_iconst (pc := 82) (v := (1 : Int32)) dX8_refusal_82 (by decide) ?_
          refine A_iadd (pc := 83) dX8_refusal_83 ?_
          refine A_putI (pc := 84) (k := 31) clX8 (Nat.le_of_ble_eq_true rfl) dX8_refusal_84 kF_X8_182 rfl (Or.inl rfl) ⟨rfl, rfl⟩ ?_
          refine A_iinc (pc := 87) (i := 4) (v := (x4 + 1)) (ls2 := [some (vr 8 (some 0)), some (vi x1), some (vi x2), some (vi (x3 + ((x1 >>> (x4 &&& 31)) &&& (1 : Int32)))), some (vi (x4 + 1))]) dX8_refusal_87 rfl rfl (Nat.le_of_ble_eq_true rfl) rfl ?_
          refine A_goto (pc := 90) (tgt := 29) dX8_refusal_90 (by decide) ?_
          exact Aw.weak (ls' := [some (vr 8 (some 0)), some (vi x1), some (vi x2), some (vi (x3 + ((x1 >>> (x4 &&& 31)) &&& (1 : Int32)))), some (vi (x4 + 1))]) ⟨rfl, ⟨rfl, ⟨rfl, ⟨rfl, ⟨rfl, trivial⟩⟩⟩⟩⟩ (ih x1 x2 (x3 + ((x1 >>> (x4 &&& 31)) &&& (1 : Int32))) (x4 + 1) (wI (wI h 52 0 (Int32.toNatClampNeg (gI h 8 0 31)) x4) 8 0 31 ((gI (wI h 52 0 (Int32.toNatClampNeg (gI h 8 0 31)) x4) 8 0 31) + (1 : Int32))))
def f_X8_refusal (x1 : Int32) (x2 : Int32) (h : Hp) : Option (Int32 × Hp) := ((f_X8_within x1 (0 : Int32) (((1 : Int32) <<< ((gI h 8 0 6) &&& 31)) - (1 : Int32)) h).bind fun r1 => (if r1 = true then (fL_X8_refusal_29 FU x1 x2 (0 : Int32) (0 : Int32) (wI h 8 0 31 (0 : Int32))) else (some ((-1000001 : Int32), h))))
set_option maxRecDepth 100000 in
set_option maxHeartbeats 4000000 in
theorem a_X8_refusal (x1 : Int32) (x2 : Int32) (h : Hp) : CtA eI mX8_refusal U0 U0 [vr 8 (some 0), vi x1, vi x2] h (f_X8_refusal x1 x2 h) := by
  refine Ct.of (ls := [some (vr 8 (some 0)), some (vi x1), some (vi x2), none, none]) (n := 2) (by decide +kernel) rfl rfl rfl ?_
  unfold f_X8_refusal
  refine A_iload_n (pc := 0) (i := 1) dX8_refusal_0 rfl rfl ?_
  refine A_iconst (pc := 1) (v := (0 : Int32)) dX8_refusal_1 (by decide) ?_
  refine A_iconst (pc := 2) (v := (1 : Int32)) dX8_refusal_2 (by decide) ?_
  refine A_aload_n (pc := 3) (i := 0) dX8_refusal_3 rfl rfl ?_
  refine A_getI (pc := 4) (k := 6) clX8 (Nat.le_of_ble_eq_true rfl) dX8_refusal_4 kF_X8_122 rfl ?_
  refine A_ishl (pc := 7) dX8_refusal_7 ?_
  refine A_iconst (pc := 8) (v := (1 : Int32)) dX8_refusal_8 (by decide) ?_
  refine A_isub (pc := 9) dX8_refusal_9 ?_
  refine A_callS (pc := 10) (M' := mX8_within) (As := [vi x1, vi (0 : Int32), vi (((1 : Int32) <<< ((gI h 8 0 6) &&& 31)) - (1 : Int32))]) (st := []) (0, 0) (fun r1 => [vi (bi r1)]) (fun _ => h) (a_X8_within x1 (0 : Int32) (((1 : Int32) <<< ((gI h 8 0 6) &&& 31)) - (1 : Int32)) h) kD_X8_within kM_X8_118 kT_X8_within kN_X8 ⟨(Nat.le_of_ble_eq_true rfl), (Nat.le_of_ble_eq_true rfl)⟩ dX8_refusal_10 rfl rfl (Nat.le_of_ble_eq_true rfl) (Nat.le_of_ble_eq_true rfl) (Nat.le_of_ble_eq_true rfl) (fun _ => rfl) (fun _ => rfl) (fun r1 => ?_)
  refine A_ifb_ne (pc := 13) (tgt := 19) dX8_refusal_13 (by decide) ?_ ?_
  · refine A_aload_n (pc := 19) (i := 0) dX8_refusal_19 rfl rfl ?_
    refine A_iconst (pc := 20) (v := (0 : Int32)) dX8_refusal_20 (by decide) ?_
    refine A_putI (pc := 21) (k := 31) clX8 (Nat.le_of_ble_eq_true rfl) dX8_refusal_21 kF_X8_182 rfl (Or.inl rfl) ⟨rfl, rfl⟩ ?_
    refine A_iconst (pc := 24) (v := (0 : Int32)) dX8_refusal_24 (by decide) ?_
    refine A_istore_n (pc := 25) (i := 3) (ls2 := [some (vr 8 (some 0)), some (vi x1), some (vi x2), some (vi (0 : Int32)), none]) dX8_refusal_25 rfl (Nat.le_of_ble_eq_true rfl) rfl ?_
    refine A_iconst (pc := 26) (v := (0 : Int32)) dX8_refusal_26 (by decide) ?_
    refine A_istore (pc := 27) (i := 4) (ls2 := [some (vr 8 (some 0)), some (vi x1), some (vi x2), some (vi (0 : Int32)), some (vi (0 : Int32))]) dX8_refusal_27 (Nat.le_of_ble_eq_true rfl) rfl ?_
    exact Aw.weak (ls' := [some (vr 8 (some 0)), some (vi x1), some (vi x2), some (vi (0 : Int32)), some (vi (0 : Int32))]) ⟨rfl, ⟨rfl, ⟨rfl, ⟨rfl, ⟨rfl, trivial⟩⟩⟩⟩⟩ (aL_X8_refusal_29 FU x1 x2 (0 : Int32) (0 : Int32) (wI h 8 0 31 (0 : Int32)))
  · refine A_ldc (pc := 16) (v := (-1000001 : Int32)) dX8_refusal_16 kK_X8_125 ?_
    exact A_retI rfl dX8_refusal_18

abbrev mX8_plan : MD := (yX8_plan, cX8_plan, 3, (some .int), { frames := 6, cells := 0, slots := 0, locals := 141 }, none)
theorem kD_X8_plan : CodeIn mX8_plan 1 := ⟨kC_X8_plan, by decide +kernel⟩
def f_X8_plan (x1 : Int32) (h : Hp) : Option (Int32 × Hp) := ((f_X8_refusal x1 (-1 : Int32) h).bind fun r1 => (if r1.1 = 0 then (some ((gI r1.2 8 0 39), r1.2)) else ((f_X8_finding r1.1 r1.2).bind fun r2 => (some (r2.1, r2.2)))))
set_option maxRecDepth 100000 in
set_option maxHeartbeats 4000000 in
theorem a_X8_plan (x1 : Int32) (h : Hp) : CtA eI mX8_plan U0 U0 [vr 8 (some 0), vi x1] h (f_X8_plan x1 h) := by
  refine Ct.of (ls := [some (vr 8 (some 0)), some (vi x1), none]) (n := 1) (by decide +kernel) rfl rfl rfl ?_
  unfold f_X8_plan
  refine A_aload_n (pc := 0) (i := 0) dX8_plan_0 rfl rfl ?_
  refine A_iload_n (pc := 1) (i := 1) dX8_plan_1 rfl rfl ?_
  refine A_iconst (pc := 2) (v := (-1 : Int32)) dX8_plan_2 (by decide) ?_
  refine A_callV (pc := 3) (M' := mX8_refusal) (As := [vi x1, vi (-1 : Int32)]) (st := []) (0, 0) (fun r1 => [vi r1.1]) (fun r1 => r1.2) (a_X8_refusal x1 (-1 : Int32) h) kD_X8_refusal kM_X8_208 kI_X8_refusal kS_X8_refusal kN_X8 ⟨(Nat.le_of_ble_eq_true rfl), (Nat.le_of_ble_eq_true rfl)⟩ dX8_plan_3 rfl rfl rfl (by decide) rfl (Nat.le_of_ble_eq_true rfl) (Nat.le_of_ble_eq_true rfl) (Nat.le_of_ble_eq_true rfl) (fun _ => rfl) (fun _ => rfl) (fun r1 => ?_)
  refine A_istore_n (pc := 6) (i := 2) (ls2 := [some (vr 8 (some 0)), some (vi x1), some (vi r1.1)]) dX8_plan_6 rfl (Nat.le_of_ble_eq_true rfl) rfl ?_
  refine A_iload_n (pc := 7) (i := 2) dX8_plan_7 rfl rfl ?_
  refine A_if_eq (pc := 8) (tgt := 19) dX8_plan_8 (by decide) ?_ ?_
  · refine A_aload_n (pc := 19) (i := 0) dX8_plan_19 rfl rfl ?_
    refine A_getI (pc := 20) (k := 39) clX8 (Nat.le_of_ble_eq_true rfl) dX8_plan_20 kF_X8_192 rfl ?_
    exact A_retI rfl dX8_plan_23
  · refine A_aload_n (pc := 11) (i := 0) dX8_plan_11 rfl rfl ?_
    refine A_iload_n (pc := 12) (i := 2) dX8_plan_12 rfl rfl ?_
    refine A_callV (pc := 13) (M' := mX8_finding) (As := [vi r1.1]) (st := []) (0, 0) (fun r2 => [vi r2.1]) (fun r2 => r2.2) (a_X8_finding r1.1 r1.2) kD_X8_finding kM_X8_126 kI_X8_finding kS_X8_finding kN_X8 ⟨(Nat.le_of_ble_eq_true rfl), (Nat.le_of_ble_eq_true rfl)⟩ dX8_plan_13 rfl rfl rfl (by decide) rfl (Nat.le_of_ble_eq_true rfl) (Nat.le_of_ble_eq_true rfl) (Nat.le_of_ble_eq_true rfl) (fun _ => rfl) (fun _ => rfl) (fun r2 => ?_)
    refine A_goto (pc := 16) (tgt := 23) dX8_plan_16 (by decide) ?_
    exact A_retI rfl dX8_plan_23

abbrev mX8_lies : MD := (yX8_lies, cX8_lies, 6, (some .int), { frames := 6, cells := 0, slots := 0, locals := 141 }, none)
theorem kD_X8_lies : CodeIn mX8_lies 3 := ⟨kC_X8_lies, by decide +kernel⟩
def fL_X8_lies_33 : Nat → Int32 → Int32 → Int32 → Hp → Option (Int32 × Hp)
  | 0, _, _, _, _ => none
  | n + 1, x2, x3, x5, h => (if 0 ≤ x5 ∧ x5 < 6 then (if (gI h 52 0 (Int32.toNatClampNeg x5)) = x2 then (if x3 = 0 then (if 0 ≤ x5 ∧ x5 < 6 then (some (((gI h 59 0 (Int32.toNatClampNeg x5)) / (6 : Int32)), h)) else none) else (if 0 ≤ x5 ∧ x5 < 6 then (some (((gI h 59 0 (Int32.toNatClampNeg x5)) - (gI h 59 0 (Int32.toNatClampNeg x5)) / (6 : Int32) * (6 : Int32)), h)) else none)) else ((fL_X8_lies_33 n) x2 x3 (x5 + 1) h)) else none)
set_option maxRecDepth 100000 in
set_option maxHeartbeats 4000000 in
theorem aL_X8_lies_33 : ∀ (n : Nat) (x2 : Int32) (x3 : Int32) (x5 : Int32) (h : Hp), Aw eI U0 mX8_lies (0, 0) U0 33 [some (vr 8 (some 0)), none, some (vi x2), some (vi x3), none, some (vi x5)] [] h (fL_X8_lies_33 n x2 x3 x5 h) := by
  intro n
  induction n with
  | zero =>
    intro x2 x3 x5 h
    exact Aw.none
  | succ n ih =>
    intro x2 x3 x5 h
    show Aw _ _ _ _ _ _ _ _ _ (fL_X8_lies_33 (n + 1) x2 x3 x5 h)
    unfold fL_X8_lies_33
    refine A_aload_n (pc := 33) (i := 0) dX8_lies_33 rfl rfl ?_
    refine A_getS (pc := 34) (k := 32) (tp := 52) clX8 (Nat.le_of_ble_eq_true rfl) dX8_lies_34 kF_X8_82 rfl rfl rfl ?_
    refine A_iload (pc := 37) (i := 5) dX8_lies_37 rfl ?_
    refine A_iaload (pc := 39) (n := 6) (by decide) (by decide) rfl dX8_lies_39 (by decide) ?_
    refine A_iload_n (pc := 40) (i := 2) dX8_lies_40 rfl rfl ?_
    refine A_icmp_eq (pc := 41) (tgt := 50) dX8_lies_41 (by decide) ?_ ?_
    · refine A_iload_n (pc := 50) (i := 3) dX8_lies_50 rfl rfl ?_
      refine A_if_eq (pc := 51) (tgt := 67) dX8_lies_51 (by decide) ?_ ?_
      · refine A_aload_n (pc := 67) (i := 0) dX8_lies_67 rfl rfl ?_
        refine A_getS (pc := 68) (k := 42) (tp := 59) clX8 (Nat.le_of_ble_eq_true rfl) dX8_lies_68 kF_X8_103 rfl rfl rfl ?_
        refine A_iload (pc := 71) (i := 5) dX8_lies_71 rfl ?_
        refine A_iaload (pc := 73) (n := 6) (by decide) (by decide) rfl dX8_lies_73 (by decide) ?_
        refine A_bipush (pc := 74) (v := (6 : Int32)) dX8_lies_74 (by decide) ?_
        refine A_idiv (pc := 76) dX8_lies_76 (by decide) ?_
        exact A_retI rfl dX8_lies_77
      · refine A_aload_n (pc := 54) (i := 0) dX8_lies_54 rfl rfl ?_
        refine A_getS (pc := 55) (k := 42) (tp := 59) clX8 (Nat.le_of_ble_eq_true rfl) dX8_lies_55 kF_X8_103 rfl rfl rfl ?_
        refine A_iload (pc := 58) (i := 5) dX8_lies_58 rfl ?_
        refine A_iaload (pc := 60) (n := 6) (by decide) (by decide) rfl dX8_lies_60 (by decide) ?_
        refine A_bipush (pc := 61) (v := (6 : Int32)) dX8_lies_61 (by decide) ?_
        refine A_irem (pc := 63) dX8_lies_63 (by decide) ?_
        refine A_goto (pc := 64) (tgt := 77) dX8_lies_64 (by decide) ?_
        exact A_retI rfl dX8_lies_77
    · refine A_iinc (pc := 44) (i := 5) (v := (x5 + 1)) (ls2 := [some (vr 8 (some 0)), none, some (vi x2), some (vi x3), none, some (vi (x5 + 1))]) dX8_lies_44 rfl rfl (Nat.le_of_ble_eq_true rfl) rfl ?_
      refine A_goto (pc := 47) (tgt := 33) dX8_lies_47 (by decide) ?_
      exact Aw.weak (ls' := [some (vr 8 (some 0)), none, some (vi x2), some (vi x3), none, some (vi (x5 + 1))]) ⟨rfl, ⟨rfl, ⟨rfl, ⟨rfl, trivial⟩⟩⟩⟩ (ih x2 x3 (x5 + 1) h)
def fJ_X8_lies_13 (x2 : Int32) (x3 : Int32) (xs1 : Int32) (xs2 : Int32) (h : Hp) : Option (Int32 × Hp) := ((f_X8_refusal xs1 xs2 h).bind fun r1 => (if r1.1 = 0 then (fL_X8_lies_33 FU x2 x3 (0 : Int32) r1.2) else ((f_X8_finding r1.1 r1.2).bind fun r2 => (some (r2.1, r2.2)))))
set_option maxRecDepth 100000 in
set_option maxHeartbeats 4000000 in
theorem aJ_X8_lies_13 (x2 : Int32) (x3 : Int32) (xs1 : Int32) (xs2 : Int32) (h : Hp) : Aw eI U0 mX8_lies (0, 0) U0 13 [some (vr 8 (some 0)), none, some (vi x2), some (vi x3), none, none] [vi xs2, vi xs1, vr 8 (some 0)] h (fJ_X8_lies_13 x2 x3 xs1 xs2 h) := by
  unfold fJ_X8_lies_13
  refine A_callV (pc := 13) (M' := mX8_refusal) (As := [vi xs1, vi xs2]) (st := []) (0, 0) (fun r1 => [vi r1.1]) (fun r1 => r1.2) (a_X8_refusal xs1 xs2 h) kD_X8_refusal kM_X8_208 kI_X8_refusal kS_X8_refusal kN_X8 ⟨(Nat.le_of_ble_eq_true rfl), (Nat.le_of_ble_eq_true rfl)⟩ dX8_lies_13 rfl rfl rfl (by decide) rfl (Nat.le_of_ble_eq_true rfl) (Nat.le_of_ble_eq_true rfl) (Nat.le_of_ble_eq_true rfl) (fun _ => rfl) (fun _ => rfl) (fun r1 => ?_)
  refine A_istore (pc := 16) (i := 4) (ls2 := [some (vr 8 (some 0)), none, some (vi x2), some (vi x3), some (vi r1.1), none]) dX8_lies_16 (Nat.le_of_ble_eq_true rfl) rfl ?_
  refine A_iload (pc := 18) (i := 4) dX8_lies_18 rfl ?_
  refine A_if_eq (pc := 20) (tgt := 30) dX8_lies_20 (by decide) ?_ ?_
  · refine A_iconst (pc := 30) (v := (0 : Int32)) dX8_lies_30 (by decide) ?_
    refine A_istore (pc := 31) (i := 5) (ls2 := [some (vr 8 (some 0)), none, some (vi x2), some (vi x3), some (vi r1.1), some (vi (0 : Int32))]) dX8_lies_31 (Nat.le_of_ble_eq_true rfl) rfl ?_
    exact Aw.weak (ls' := [some (vr 8 (some 0)), none, some (vi x2), some (vi x3), none, some (vi (0 : Int32))]) ⟨rfl, ⟨rfl, ⟨rfl, ⟨rfl, trivial⟩⟩⟩⟩ (aL_X8_lies_33 FU x2 x3 (0 : Int32) r1.2)
  · refine A_aload_n (pc := 23) (i := 0) dX8_lies_23 rfl rfl ?_
    refine A_iload (pc := 24) (i := 4) dX8_lies_24 rfl ?_
    refine A_callV (pc := 26) (M' := mX8_finding) (As := [vi r1.1]) (st := []) (0, 0) (fun r2 => [vi r2.1]) (fun r2 => r2.2) (a_X8_finding r1.1 r1.2) kD_X8_finding kM_X8_126 kI_X8_finding kS_X8_finding kN_X8 ⟨(Nat.le_of_ble_eq_true rfl), (Nat.le_of_ble_eq_true rfl)⟩ dX8_lies_26 rfl rfl rfl (by decide) rfl (Nat.le_of_ble_eq_true rfl) (Nat.le_of_ble_eq_true rfl) (Nat.le_of_ble_eq_true rfl) (fun _ => rfl) (fun _ => rfl) (fun r2 => ?_)
    exact A_retI rfl dX8_lies_29
def f_X8_lies (x1 : Int32) (x2 : Int32) (x3 : Int32) (h : Hp) : Option (Int32 × Hp) := (if x2 = (-1 : Int32) then (fJ_X8_lies_13 x2 x3 x1 (-2 : Int32) h) else (fJ_X8_lies_13 x2 x3 x1 x2 h))
set_option maxRecDepth 100000 in
set_option maxHeartbeats 4000000 in
theorem a_X8_lies (x1 : Int32) (x2 : Int32) (x3 : Int32) (h : Hp) : CtA eI mX8_lies U0 U0 [vr 8 (some 0), vi x1, vi x2, vi x3] h (f_X8_lies x1 x2 x3 h) := by
  refine Ct.of (ls := [some (vr 8 (some 0)), some (vi x1), some (vi x2), some (vi x3), none, none]) (n := 2) (by decide +kernel) rfl rfl rfl ?_
  unfold f_X8_lies
  refine A_aload_n (pc := 0) (i := 0) dX8_lies_0 rfl rfl ?_
  refine A_iload_n (pc := 1) (i := 1) dX8_lies_1 rfl rfl ?_
  refine A_iload_n (pc := 2) (i := 2) dX8_lies_2 rfl rfl ?_
  refine A_iconst (pc := 3) (v := (-1 : Int32)) dX8_lies_3 (by decide) ?_
  refine A_icmp_ne (pc := 4) (tgt := 12) dX8_lies_4 (by decide) ?_ ?_
  · refine A_iload_n (pc := 12) (i := 2) dX8_lies_12 rfl rfl ?_
    exact Aw.weak (ls' := [some (vr 8 (some 0)), none, some (vi x2), some (vi x3), none, none]) ⟨rfl, ⟨rfl, ⟨rfl, trivial⟩⟩⟩ (aJ_X8_lies_13 x2 x3 x1 x2 h)
  · refine A_bipush (pc := 7) (v := (-2 : Int32)) dX8_lies_7 (by decide) ?_
    refine A_goto (pc := 9) (tgt := 13) dX8_lies_9 (by decide) ?_
    exact Aw.weak (ls' := [some (vr 8 (some 0)), none, some (vi x2), some (vi x3), none, none]) ⟨rfl, ⟨rfl, ⟨rfl, trivial⟩⟩⟩ (aJ_X8_lies_13 x2 x3 x1 (-2 : Int32) h)

abbrev mX8_lay : MD := (yX8_lay, cX8_lay, 5, (some .int), { frames := 6, cells := 0, slots := 0, locals := 141 }, none)
theorem kD_X8_lay : CodeIn mX8_lay 1 := ⟨kC_X8_lay, by decide +kernel⟩
def fJ_X8_lay_163 (c123 : Int32 → Int32 → Hp → Option (Int32 × Hp)) (x4 : Int32) (xs0 : Int32) (h : Hp) : Option (Int32 × Hp) := (c123 (xs0 + (0 : Int32)) (x4 + 1) h)
set_option maxRecDepth 100000 in
set_option maxHeartbeats 4000000 in
theorem aJ_X8_lay_163 (c123 : Int32 → Int32 → Hp → Option (Int32 × Hp)) (hc123 : ∀ (x3 : Int32) (x4 : Int32) (h : Hp), Aw eI U0 mX8_lay (0, 0) U0 123 [some (vr 8 (some 0)), none, none, some (vi x3), some (vi x4)] [] h (c123 x3 x4 h)) (x4 : Int32) (xs0 : Int32) (h : Hp) : Aw eI U0 mX8_lay (0, 0) U0 163 [some (vr 8 (some 0)), none, none, none, some (vi x4)] [vi xs0] h (fJ_X8_lay_163 c123 x4 xs0 h) := by
  unfold fJ_X8_lay_163
  refine A_iconst (pc := 163) (v := (0 : Int32)) dX8_lay_163 (by decide) ?_
  refine A_iadd (pc := 164) dX8_lay_164 ?_
  refine A_istore_n (pc := 165) (i := 3) (ls2 := [some (vr 8 (some 0)), none, none, some (vi (xs0 + (0 : Int32))), some (vi x4)]) dX8_lay_165 rfl (Nat.le_of_ble_eq_true rfl) rfl ?_
  refine A_iinc (pc := 166) (i := 4) (v := (x4 + 1)) (ls2 := [some (vr 8 (some 0)), none, none, some (vi (xs0 + (0 : Int32))), some (vi (x4 + 1))]) dX8_lay_166 rfl rfl (Nat.le_of_ble_eq_true rfl) rfl ?_
  refine A_goto (pc := 169) (tgt := 123) dX8_lay_169 (by decide) ?_
  exact Aw.weak (ls' := [some (vr 8 (some 0)), none, none, some (vi (xs0 + (0 : Int32))), some (vi (x4 + 1))]) ⟨rfl, ⟨rfl, ⟨rfl, trivial⟩⟩⟩ (hc123 (xs0 + (0 : Int32)) (x4 + 1) h)
def fL_X8_lay_123 : Nat → Int32 → Int32 → Hp → Option (Int32 × Hp)
  | 0, _, _, _ => none
  | n + 1, x3, x4, h => (if (gI h 8 0 6) ≤ x4 then (some (x3, h)) else (if 0 ≤ x4 ∧ x4 < 8 then (if (gI h 60 0 (Int32.toNatClampNeg x4)) < 0 then (fJ_X8_lay_163 (fL_X8_lay_123 n) x4 x3 h) else (if 0 ≤ x4 ∧ x4 < 8 then ((f_X8_spotOf x4 h).bind fun r2 => (if (gI h 60 0 (Int32.toNatClampNeg x4)) = r2 then (fJ_X8_lay_163 (fL_X8_lay_123 n) x4 x3 h) else ((fL_X8_lay_123 n) (x3 + (1 : Int32)) (x4 + 1) h))) else none)) else none))
set_option maxRecDepth 100000 in
set_option maxHeartbeats 4000000 in
theorem aL_X8_lay_123 : ∀ (n : Nat) (x3 : Int32) (x4 : Int32) (h : Hp), Aw eI U0 mX8_lay (0, 0) U0 123 [some (vr 8 (some 0)), none, none, some (vi x3), some (vi x4)] [] h (fL_X8_lay_123 n x3 x4 h) := by
  intro n
  induction n with
  | zero =>
    intro x3 x4 h
    exact Aw.none
  | succ n ih =>
    intro x3 x4 h
    show Aw _ _ _ _ _ _ _ _ _ (fL_X8_lay_123 (n + 1) x3 x4 h)
    unfold fL_X8_lay_123
    refine A_iload (pc := 123) (i := 4) dX8_lay_123 rfl ?_
    refine A_aload_n (pc := 125) (i := 0) dX8_lay_125 rfl rfl ?_
    refine A_getI (pc := 126) (k := 6) clX8 (Nat.le_of_ble_eq_true rfl) dX8_lay_126 kF_X8_122 rfl ?_
    refine A_icmp_ge (pc := 129) (tgt := 172) dX8_lay_129 (by decide) ?_ ?_
    · refine A_iload_n (pc := 172) (i := 3) dX8_lay_172 rfl rfl ?_
      exact A_retI rfl dX8_lay_173
    · refine A_iload_n (pc := 132) (i := 3) dX8_lay_132 rfl rfl ?_
      refine A_aload_n (pc := 133) (i := 0) dX8_lay_133 rfl rfl ?_
      refine A_getS (pc := 134) (k := 43) (tp := 60) clX8 (Nat.le_of_ble_eq_true rfl) dX8_lay_134 kF_X8_106 rfl rfl rfl ?_
      refine A_iload (pc := 137) (i := 4) dX8_lay_137 rfl ?_
      refine A_iaload (pc := 139) (n := 8) (by decide) (by decide) rfl dX8_lay_139 (by decide) ?_
      refine A_if_lt (pc := 140) (tgt := 163) dX8_lay_140 (by decide) ?_ ?_
      · exact Aw.weak (ls' := [some (vr 8 (some 0)), none, none, none, some (vi x4)]) ⟨rfl, ⟨rfl, trivial⟩⟩ (aJ_X8_lay_163 (fL_X8_lay_123 n) ih x4 x3 h)
      · refine A_aload_n (pc := 143) (i := 0) dX8_lay_143 rfl rfl ?_
        refine A_getS (pc := 144) (k := 43) (tp := 60) clX8 (Nat.le_of_ble_eq_true rfl) dX8_lay_144 kF_X8_106 rfl rfl rfl ?_
        refine A_iload (pc := 147) (i := 4) dX8_lay_147 rfl ?_
        refine A_iaload (pc := 149) (n := 8) (by decide) (by decide) rfl dX8_lay_149 (by decide) ?_
        refine A_aload_n (pc := 150) (i := 0) dX8_lay_150 rfl rfl ?_
        refine A_iload (pc := 151) (i := 4) dX8_lay_151 rfl ?_
        refine A_callV (pc := 153) (M' := mX8_spotOf) (As := [vi x4]) (st := [vi (gI h 60 0 (Int32.toNatClampNeg x4)), vi x3]) (0, 0) (fun r2 => [vi r2, vi (gI h 60 0 (Int32.toNatClampNeg x4)), vi x3]) (fun _ => h) (a_X8_spotOf x4 h) kD_X8_spotOf kM_X8_146 kI_X8_spotOf kS_X8_spotOf kN_X8 ⟨(Nat.le_of_ble_eq_true rfl), (Nat.le_of_ble_eq_true rfl)⟩ dX8_lay_153 rfl rfl rfl (by decide) rfl (Nat.le_of_ble_eq_true rfl) (Nat.le_of_ble_eq_true rfl) (Nat.le_of_ble_eq_true rfl) (fun _ => rfl) (fun _ => rfl) (fun r2 => ?_)
        refine A_icmp_eq (pc := 156) (tgt := 163) dX8_lay_156 (by decide) ?_ ?_
        · exact Aw.weak (ls' := [some (vr 8 (some 0)), none, none, none, some (vi x4)]) ⟨rfl, ⟨rfl, trivial⟩⟩ (aJ_X8_lay_163 (fL_X8_lay_123 n) ih x4 x3 h)
        · refine A_iconst (pc := 159) (v := (1 : Int32)) dX8_lay_159 (by decide) ?_
          refine A_goto (pc := 160) (tgt := 164) dX8_lay_160 (by decide) ?_
          refine A_iadd (pc := 164) dX8_lay_164 ?_
          refine A_istore_n (pc := 165) (i := 3) (ls2 := [some (vr 8 (some 0)), none, none, some (vi (x3 + (1 : Int32))), some (vi x4)]) dX8_lay_165 rfl (Nat.le_of_ble_eq_true rfl) rfl ?_
          refine A_iinc (pc := 166) (i := 4) (v := (x4 + 1)) (ls2 := [some (vr 8 (some 0)), none, none, some (vi (x3 + (1 : Int32))), some (vi (x4 + 1))]) dX8_lay_166 rfl rfl (Nat.le_of_ble_eq_true rfl) rfl ?_
          refine A_goto (pc := 169) (tgt := 123) dX8_lay_169 (by decide) ?_
          exact Aw.weak (ls' := [some (vr 8 (some 0)), none, none, some (vi (x3 + (1 : Int32))), some (vi (x4 + 1))]) ⟨rfl, ⟨rfl, ⟨rfl, trivial⟩⟩⟩ (ih (x3 + (1 : Int32)) (x4 + 1) h)
def fL_X8_lay_69 : Nat → Int32 → Hp → Option (Int32 × Hp)
  | 0, _, _ => none
  | n + 1, x3, h => (if (gI h 8 0 31) ≤ x3 then (fL_X8_lay_123 FU (0 : Int32) (0 : Int32) h) else (if 0 ≤ x3 ∧ x3 < 6 then (if 0 ≤ x3 ∧ x3 < 6 then (if 0 ≤ (gI h 59 0 (Int32.toNatClampNeg x3)) ∧ (gI h 59 0 (Int32.toNatClampNeg x3)) < 24 then (if 0 ≤ x3 ∧ x3 < 6 then (if 0 ≤ ((gI (wI h 44 0 (Int32.toNatClampNeg (gI h 59 0 (Int32.toNatClampNeg x3))) (gI h 52 0 (Int32.toNatClampNeg x3))) 59 0 (Int32.toNatClampNeg x3)) / (6 : Int32)) ∧ ((gI (wI h 44 0 (Int32.toNatClampNeg (gI h 59 0 (Int32.toNatClampNeg x3))) (gI h 52 0 (Int32.toNatClampNeg x3))) 59 0 (Int32.toNatClampNeg x3)) / (6 : Int32)) < 4 then (if 0 ≤ ((gI (wI h 44 0 (Int32.toNatClampNeg (gI h 59 0 (Int32.toNatClampNeg x3))) (gI h 52 0 (Int32.toNatClampNeg x3))) 59 0 (Int32.toNatClampNeg x3)) / (6 : Int32)) ∧ ((gI (wI h 44 0 (Int32.toNatClampNeg (gI h 59 0 (Int32.toNatClampNeg x3))) (gI h 52 0 (Int32.toNatClampNeg x3))) 59 0 (Int32.toNatClampNeg x3)) / (6 : Int32)) < 4 then ((fL_X8_lay_69 n) (x3 + 1) (wI (wI h 44 0 (Int32.toNatClampNeg (gI h 59 0 (Int32.toNatClampNeg x3))) (gI h 52 0 (Int32.toNatClampNeg x3))) 43 0 (Int32.toNatClampNeg ((gI (wI h 44 0 (Int32.toNatClampNeg (gI h 59 0 (Int32.toNatClampNeg x3))) (gI h 52 0 (Int32.toNatClampNeg x3))) 59 0 (Int32.toNatClampNeg x3)) / (6 : Int32))) ((gI (wI h 44 0 (Int32.toNatClampNeg (gI h 59 0 (Int32.toNatClampNeg x3))) (gI h 52 0 (Int32.toNatClampNeg x3))) 43 0 (Int32.toNatClampNeg ((gI (wI h 44 0 (Int32.toNatClampNeg (gI h 59 0 (Int32.toNatClampNeg x3))) (gI h 52 0 (Int32.toNatClampNeg x3))) 59 0 (Int32.toNatClampNeg x3)) / (6 : Int32)))) + (1 : Int32)))) else none) else none) else none) else none) else none) else none))
set_option maxRecDepth 100000 in
set_option maxHeartbeats 4000000 in
theorem aL_X8_lay_69 : ∀ (n : Nat) (x3 : Int32) (h : Hp), Aw eI U0 mX8_lay (0, 0) U0 69 [some (vr 8 (some 0)), none, none, some (vi x3), none] [] h (fL_X8_lay_69 n x3 h) := by
  intro n
  induction n with
  | zero =>
    intro x3 h
    exact Aw.none
  | succ n ih =>
    intro x3 h
    show Aw _ _ _ _ _ _ _ _ _ (fL_X8_lay_69 (n + 1) x3 h)
    unfold fL_X8_lay_69
    refine A_iload_n (pc := 69) (i := 3) dX8_lay_69 rfl rfl ?_
    refine A_aload_n (pc := 70) (i := 0) dX8_lay_70 rfl rfl ?_
    refine A_getI (pc := 71) (k := 31) clX8 (Nat.le_of_ble_eq_true rfl) dX8_lay_71 kF_X8_182 rfl ?_
    refine A_icmp_ge (pc := 74) (tgt := 118) dX8_lay_74 (by decide) ?_ ?_
    · refine A_iconst (pc := 118) (v := (0 : Int32)) dX8_lay_118 (by decide) ?_
      refine A_istore_n (pc := 119) (i := 3) (ls2 := [some (vr 8 (some 0)), none, none, some (vi (0 : Int32)), none]) dX8_lay_119 rfl (Nat.le_of_ble_eq_true rfl) rfl ?_
      refine A_iconst (pc := 120) (v := (0 : Int32)) dX8_lay_120 (by decide) ?_
      refine A_istore (pc := 121) (i := 4) (ls2 := [some (vr 8 (some 0)), none, none, some (vi (0 : Int32)), some (vi (0 : Int32))]) dX8_lay_121 (Nat.le_of_ble_eq_true rfl) rfl ?_
      exact Aw.weak (ls' := [some (vr 8 (some 0)), none, none, some (vi (0 : Int32)), some (vi (0 : Int32))]) ⟨rfl, ⟨rfl, ⟨rfl, trivial⟩⟩⟩ (aL_X8_lay_123 FU (0 : Int32) (0 : Int32) h)
    · refine A_aload_n (pc := 77) (i := 0) dX8_lay_77 rfl rfl ?_
      refine A_getS (pc := 78) (k := 18) (tp := 44) clX8 (Nat.le_of_ble_eq_true rfl) dX8_lay_78 kF_X8_53 rfl rfl rfl ?_
      refine A_aload_n (pc := 81) (i := 0) dX8_lay_81 rfl rfl ?_
      refine A_getS (pc := 82) (k := 42) (tp := 59) clX8 (Nat.le_of_ble_eq_true rfl) dX8_lay_82 kF_X8_103 rfl rfl rfl ?_
      refine A_iload_n (pc := 85) (i := 3) dX8_lay_85 rfl rfl ?_
      refine A_iaload (pc := 86) (n := 6) (by decide) (by decide) rfl dX8_lay_86 (by decide) ?_
      refine A_aload_n (pc := 87) (i := 0) dX8_lay_87 rfl rfl ?_
      refine A_getS (pc := 88) (k := 32) (tp := 52) clX8 (Nat.le_of_ble_eq_true rfl) dX8_lay_88 kF_X8_82 rfl rfl rfl ?_
      refine A_iload_n (pc := 91) (i := 3) dX8_lay_91 rfl rfl ?_
      refine A_iaload (pc := 92) (n := 6) (by decide) (by decide) rfl dX8_lay_92 (by decide) ?_
      refine A_iastore (pc := 93) (n := 24) (by decide) (by decide) rfl dX8_lay_93 (by decide) ?_
      refine A_aload_n (pc := 94) (i := 0) dX8_lay_94 rfl rfl ?_
      refine A_getS (pc := 95) (k := 17) (tp := 43) clX8 (Nat.le_of_ble_eq_true rfl) dX8_lay_95 kF_X8_50 rfl rfl rfl ?_
      refine A_aload_n (pc := 98) (i := 0) dX8_lay_98 rfl rfl ?_
      refine A_getS (pc := 99) (k := 42) (tp := 59) clX8 (Nat.le_of_ble_eq_true rfl) dX8_lay_99 kF_X8_103 rfl rfl rfl ?_
      refine A_iload_n (pc := 102) (i := 3) dX8_lay_102 rfl rfl ?_
      refine A_iaload (pc := 103) (n := 6) (by decide) (by decide) rfl dX8_lay_103 (by decide) ?_
      refine A_bipush (pc := 104) (v := (6 : Int32)) dX8_lay_104 (by decide) ?_
      refine A_idiv (pc := 106) dX8_lay_106 (by decide) ?_
      refine A_dup2 (pc := 107) dX8_lay_107 (fun _ => rfl) (fun _ => cv_catr _ _) ?_
      refine A_iaload (pc := 108) (n := 4) (by decide) (by decide) rfl dX8_lay_108 (by decide) ?_
      refine A_iconst (pc := 109) (v := (1 : Int32)) dX8_lay_109 (by decide) ?_
      refine A_iadd (pc := 110) dX8_lay_110 ?_
      refine A_iastore (pc := 111) (n := 4) (by decide) (by decide) rfl dX8_lay_111 (by decide) ?_
      refine A_iinc (pc := 112) (i := 3) (v := (x3 + 1)) (ls2 := [some (vr 8 (some 0)), none, none, some (vi (x3 + 1)), none]) dX8_lay_112 rfl rfl (Nat.le_of_ble_eq_true rfl) rfl ?_
      refine A_goto (pc := 115) (tgt := 69) dX8_lay_115 (by decide) ?_
      exact Aw.weak (ls' := [some (vr 8 (some 0)), none, none, some (vi (x3 + 1)), none]) ⟨rfl, ⟨rfl, trivial⟩⟩ (ih (x3 + 1) (wI (wI h 44 0 (Int32.toNatClampNeg (gI h 59 0 (Int32.toNatClampNeg x3))) (gI h 52 0 (Int32.toNatClampNeg x3))) 43 0 (Int32.toNatClampNeg ((gI (wI h 44 0 (Int32.toNatClampNeg (gI h 59 0 (Int32.toNatClampNeg x3))) (gI h 52 0 (Int32.toNatClampNeg x3))) 59 0 (Int32.toNatClampNeg x3)) / (6 : Int32))) ((gI (wI h 44 0 (Int32.toNatClampNeg (gI h 59 0 (Int32.toNatClampNeg x3))) (gI h 52 0 (Int32.toNatClampNeg x3))) 43 0 (Int32.toNatClampNeg ((gI (wI h 44 0 (Int32.toNatClampNeg (gI h 59 0 (Int32.toNatClampNeg x3))) (gI h 52 0 (Int32.toNatClampNeg x3))) 59 0 (Int32.toNatClampNeg x3)) / (6 : Int32)))) + (1 : Int32))))
def fL_X8_lay_46 : Nat → Int32 → Hp → Option (Int32 × Hp)
  | 0, _, _ => none
  | n + 1, x3, h => (if (gI h 8 0 0) ≤ x3 then (fL_X8_lay_69 FU (0 : Int32) h) else (if 0 ≤ x3 ∧ x3 < 4 then ((fL_X8_lay_46 n) (x3 + 1) (wI h 43 0 (Int32.toNatClampNeg x3) (0 : Int32))) else none))
set_option maxRecDepth 100000 in
set_option maxHeartbeats 4000000 in
theorem aL_X8_lay_46 : ∀ (n : Nat) (x3 : Int32) (h : Hp), Aw eI U0 mX8_lay (0, 0) U0 46 [some (vr 8 (some 0)), none, none, some (vi x3), none] [] h (fL_X8_lay_46 n x3 h) := by
  intro n
  induction n with
  | zero =>
    intro x3 h
    exact Aw.none
  | succ n ih =>
    intro x3 h
    show Aw _ _ _ _ _ _ _ _ _ (fL_X8_lay_46 (n + 1) x3 h)
    unfold fL_X8_lay_46
    refine A_iload_n (pc := 46) (i := 3) dX8_lay_46 rfl rfl ?_
    refine A_aload_n (pc := 47) (i := 0) dX8_lay_47 rfl rfl ?_
    refine A_getI (pc := 48) (k := 0) clX8 (Nat.le_of_ble_eq_true rfl) dX8_lay_48 kF_X8_115 rfl ?_
    refine A_icmp_ge (pc := 51) (tgt := 67) dX8_lay_51 (by decide) ?_ ?_
    · refine A_iconst (pc := 67) (v := (0 : Int32)) dX8_lay_67 (by decide) ?_
      refine A_istore_n (pc := 68) (i := 3) (ls2 := [some (vr 8 (some 0)), none, none, some (vi (0 : Int32)), none]) dX8_lay_68 rfl (Nat.le_of_ble_eq_true rfl) rfl ?_
      exact Aw.weak (ls' := [some (vr 8 (some 0)), none, none, some (vi (0 : Int32)), none]) ⟨rfl, ⟨rfl, trivial⟩⟩ (aL_X8_lay_69 FU (0 : Int32) h)
    · refine A_aload_n (pc := 54) (i := 0) dX8_lay_54 rfl rfl ?_
      refine A_getS (pc := 55) (k := 17) (tp := 43) clX8 (Nat.le_of_ble_eq_true rfl) dX8_lay_55 kF_X8_50 rfl rfl rfl ?_
      refine A_iload_n (pc := 58) (i := 3) dX8_lay_58 rfl rfl ?_
      refine A_iconst (pc := 59) (v := (0 : Int32)) dX8_lay_59 (by decide) ?_
      refine A_iastore (pc := 60) (n := 4) (by decide) (by decide) rfl dX8_lay_60 (by decide) ?_
      refine A_iinc (pc := 61) (i := 3) (v := (x3 + 1)) (ls2 := [some (vr 8 (some 0)), none, none, some (vi (x3 + 1)), none]) dX8_lay_61 rfl rfl (Nat.le_of_ble_eq_true rfl) rfl ?_
      refine A_goto (pc := 64) (tgt := 46) dX8_lay_64 (by decide) ?_
      exact Aw.weak (ls' := [some (vr 8 (some 0)), none, none, some (vi (x3 + 1)), none]) ⟨rfl, ⟨rfl, trivial⟩⟩ (ih (x3 + 1) (wI h 43 0 (Int32.toNatClampNeg x3) (0 : Int32)))
def fL_X8_lay_19 : Nat → Int32 → Hp → Option (Int32 × Hp)
  | 0, _, _ => none
  | n + 1, x3, h => (if (gI h 8 0 6) ≤ x3 then (fL_X8_lay_46 FU (0 : Int32) h) else ((f_X8_spotOf x3 h).bind fun r3 => (if 0 ≤ x3 ∧ x3 < 8 then ((fL_X8_lay_19 n) (x3 + 1) (wI h 60 0 (Int32.toNatClampNeg x3) r3)) else none)))
set_option maxRecDepth 100000 in
set_option maxHeartbeats 4000000 in
theorem aL_X8_lay_19 : ∀ (n : Nat) (x3 : Int32) (h : Hp), Aw eI U0 mX8_lay (0, 0) U0 19 [some (vr 8 (some 0)), none, none, some (vi x3), none] [] h (fL_X8_lay_19 n x3 h) := by
  intro n
  induction n with
  | zero =>
    intro x3 h
    exact Aw.none
  | succ n ih =>
    intro x3 h
    show Aw _ _ _ _ _ _ _ _ _ (fL_X8_lay_19 (n + 1) x3 h)
    unfold fL_X8_lay_19
    refine A_iload_n (pc := 19) (i := 3) dX8_lay_19 rfl rfl ?_
    refine A_aload_n (pc := 20) (i := 0) dX8_lay_20 rfl rfl ?_
    refine A_getI (pc := 21) (k := 6) clX8 (Nat.le_of_ble_eq_true rfl) dX8_lay_21 kF_X8_122 rfl ?_
    refine A_icmp_ge (pc := 24) (tgt := 44) dX8_lay_24 (by decide) ?_ ?_
    · refine A_iconst (pc := 44) (v := (0 : Int32)) dX8_lay_44 (by decide) ?_
      refine A_istore_n (pc := 45) (i := 3) (ls2 := [some (vr 8 (some 0)), none, none, some (vi (0 : Int32)), none]) dX8_lay_45 rfl (Nat.le_of_ble_eq_true rfl) rfl ?_
      exact Aw.weak (ls' := [some (vr 8 (some 0)), none, none, some (vi (0 : Int32)), none]) ⟨rfl, ⟨rfl, trivial⟩⟩ (aL_X8_lay_46 FU (0 : Int32) h)
    · refine A_aload_n (pc := 27) (i := 0) dX8_lay_27 rfl rfl ?_
      refine A_getS (pc := 28) (k := 43) (tp := 60) clX8 (Nat.le_of_ble_eq_true rfl) dX8_lay_28 kF_X8_106 rfl rfl rfl ?_
      refine A_iload_n (pc := 31) (i := 3) dX8_lay_31 rfl rfl ?_
      refine A_aload_n (pc := 32) (i := 0) dX8_lay_32 rfl rfl ?_
      refine A_iload_n (pc := 33) (i := 3) dX8_lay_33 rfl rfl ?_
      refine A_callV (pc := 34) (M' := mX8_spotOf) (As := [vi x3]) (st := [vi x3, vr 60 (some 0)]) (0, 0) (fun r3 => [vi r3, vi x3, vr 60 (some 0)]) (fun _ => h) (a_X8_spotOf x3 h) kD_X8_spotOf kM_X8_146 kI_X8_spotOf kS_X8_spotOf kN_X8 ⟨(Nat.le_of_ble_eq_true rfl), (Nat.le_of_ble_eq_true rfl)⟩ dX8_lay_34 rfl rfl rfl (by decide) rfl (Nat.le_of_ble_eq_true rfl) (Nat.le_of_ble_eq_true rfl) (Nat.le_of_ble_eq_true rfl) (fun _ => rfl) (fun _ => rfl) (fun r3 => ?_)
      refine A_iastore (pc := 37) (n := 8) (by decide) (by decide) rfl dX8_lay_37 (by decide) ?_
      refine A_iinc (pc := 38) (i := 3) (v := (x3 + 1)) (ls2 := [some (vr 8 (some 0)), none, none, some (vi (x3 + 1)), none]) dX8_lay_38 rfl rfl (Nat.le_of_ble_eq_true rfl) rfl ?_
      refine A_goto (pc := 41) (tgt := 19) dX8_lay_41 (by decide) ?_
      exact Aw.weak (ls' := [some (vr 8 (some 0)), none, none, some (vi (x3 + 1)), none]) ⟨rfl, ⟨rfl, trivial⟩⟩ (ih (x3 + 1) (wI h 60 0 (Int32.toNatClampNeg x3) r3))
def f_X8_lay (x1 : Int32) (h : Hp) : Option (Int32 × Hp) := ((f_X8_refusal x1 (-1 : Int32) h).bind fun r1 => (if r1.1 = 0 then (fL_X8_lay_19 FU (0 : Int32) r1.2) else ((f_X8_finding r1.1 r1.2).bind fun r4 => (some (r4.1, r4.2)))))
set_option maxRecDepth 100000 in
set_option maxHeartbeats 4000000 in
theorem a_X8_lay (x1 : Int32) (h : Hp) : CtA eI mX8_lay U0 U0 [vr 8 (some 0), vi x1] h (f_X8_lay x1 h) := by
  refine Ct.of (ls := [some (vr 8 (some 0)), some (vi x1), none, none, none]) (n := 3) (by decide +kernel) rfl rfl rfl ?_
  unfold f_X8_lay
  refine A_aload_n (pc := 0) (i := 0) dX8_lay_0 rfl rfl ?_
  refine A_iload_n (pc := 1) (i := 1) dX8_lay_1 rfl rfl ?_
  refine A_iconst (pc := 2) (v := (-1 : Int32)) dX8_lay_2 (by decide) ?_
  refine A_callV (pc := 3) (M' := mX8_refusal) (As := [vi x1, vi (-1 : Int32)]) (st := []) (0, 0) (fun r1 => [vi r1.1]) (fun r1 => r1.2) (a_X8_refusal x1 (-1 : Int32) h) kD_X8_refusal kM_X8_208 kI_X8_refusal kS_X8_refusal kN_X8 ⟨(Nat.le_of_ble_eq_true rfl), (Nat.le_of_ble_eq_true rfl)⟩ dX8_lay_3 rfl rfl rfl (by decide) rfl (Nat.le_of_ble_eq_true rfl) (Nat.le_of_ble_eq_true rfl) (Nat.le_of_ble_eq_true rfl) (fun _ => rfl) (fun _ => rfl) (fun r1 => ?_)
  refine A_istore_n (pc := 6) (i := 2) (ls2 := [some (vr 8 (some 0)), some (vi x1), some (vi r1.1), none, none]) dX8_lay_6 rfl (Nat.le_of_ble_eq_true rfl) rfl ?_
  refine A_iload_n (pc := 7) (i := 2) dX8_lay_7 rfl rfl ?_
  refine A_if_eq (pc := 8) (tgt := 17) dX8_lay_8 (by decide) ?_ ?_
  · refine A_iconst (pc := 17) (v := (0 : Int32)) dX8_lay_17 (by decide) ?_
    refine A_istore_n (pc := 18) (i := 3) (ls2 := [some (vr 8 (some 0)), some (vi x1), some (vi r1.1), some (vi (0 : Int32)), none]) dX8_lay_18 rfl (Nat.le_of_ble_eq_true rfl) rfl ?_
    exact Aw.weak (ls' := [some (vr 8 (some 0)), none, none, some (vi (0 : Int32)), none]) ⟨rfl, ⟨rfl, trivial⟩⟩ (aL_X8_lay_19 FU (0 : Int32) r1.2)
  · refine A_aload_n (pc := 11) (i := 0) dX8_lay_11 rfl rfl ?_
    refine A_iload_n (pc := 12) (i := 2) dX8_lay_12 rfl rfl ?_
    refine A_callV (pc := 13) (M' := mX8_finding) (As := [vi r1.1]) (st := []) (0, 0) (fun r4 => [vi r4.1]) (fun r4 => r4.2) (a_X8_finding r1.1 r1.2) kD_X8_finding kM_X8_126 kI_X8_finding kS_X8_finding kN_X8 ⟨(Nat.le_of_ble_eq_true rfl), (Nat.le_of_ble_eq_true rfl)⟩ dX8_lay_13 rfl rfl rfl (by decide) rfl (Nat.le_of_ble_eq_true rfl) (Nat.le_of_ble_eq_true rfl) (Nat.le_of_ble_eq_true rfl) (fun _ => rfl) (fun _ => rfl) (fun r4 => ?_)
    exact A_retI rfl dX8_lay_16

abbrev mX8_tide : MD := (yX8_tide, cX8_tide, 3, (some .int), { frames := 1, cells := 0, slots := 0, locals := 22 }, none)
theorem kD_X8_tide : CodeIn mX8_tide 1 := ⟨kC_X8_tide, by decide +kernel⟩
def f_X8_tide (x1 : Int32) (h : Hp) : Option (Int32 × Hp) := ((f_X8_within x1 (0 : Int32) (16777215 : Int32) h).bind fun r1 => (if r1 = true then (some ((gI h 8 0 20), (wI h 8 0 20 x1))) else ((f_X8_finding (-1000001 : Int32) h).bind fun r2 => (some (r2.1, r2.2)))))
set_option maxRecDepth 100000 in
set_option maxHeartbeats 4000000 in
theorem a_X8_tide (x1 : Int32) (h : Hp) : CtA eI mX8_tide U0 U0 [vr 8 (some 0), vi x1] h (f_X8_tide x1 h) := by
  refine Ct.of (ls := [some (vr 8 (some 0)), some (vi x1), none]) (n := 1) (by decide +kernel) rfl rfl rfl ?_
  unfold f_X8_tide
  refine A_iload_n (pc := 0) (i := 1) dX8_tide_0 rfl rfl ?_
  refine A_iconst (pc := 1) (v := (0 : Int32)) dX8_tide_1 (by decide) ?_
  refine A_ldc (pc := 2) (v := (16777215 : Int32)) dX8_tide_2 kK_X8_56 ?_
  refine A_callS (pc := 4) (M' := mX8_within) (As := [vi x1, vi (0 : Int32), vi (16777215 : Int32)]) (st := []) (0, 0) (fun r1 => [vi (bi r1)]) (fun _ => h) (a_X8_within x1 (0 : Int32) (16777215 : Int32) h) kD_X8_within kM_X8_118 kT_X8_within kN_X8 ⟨(Nat.le_of_ble_eq_true rfl), (Nat.le_of_ble_eq_true rfl)⟩ dX8_tide_4 rfl rfl (Nat.le_of_ble_eq_true rfl) (Nat.le_of_ble_eq_true rfl) (Nat.le_of_ble_eq_true rfl) (fun _ => rfl) (fun _ => rfl) (fun r1 => ?_)
  refine A_ifb_ne (pc := 7) (tgt := 17) dX8_tide_7 (by decide) ?_ ?_
  · refine A_aload_n (pc := 17) (i := 0) dX8_tide_17 rfl rfl ?_
    refine A_getI (pc := 18) (k := 20) clX8 (Nat.le_of_ble_eq_true rfl) dX8_tide_18 kF_X8_57 rfl ?_
    refine A_istore_n (pc := 21) (i := 2) (ls2 := [some (vr 8 (some 0)), some (vi x1), some (vi (gI h 8 0 20))]) dX8_tide_21 rfl (Nat.le_of_ble_eq_true rfl) rfl ?_
    refine A_aload_n (pc := 22) (i := 0) dX8_tide_22 rfl rfl ?_
    refine A_iload_n (pc := 23) (i := 1) dX8_tide_23 rfl rfl ?_
    refine A_putI (pc := 24) (k := 20) clX8 (Nat.le_of_ble_eq_true rfl) dX8_tide_24 kF_X8_57 rfl (Or.inl rfl) ⟨rfl, rfl⟩ ?_
    refine A_iload_n (pc := 27) (i := 2) dX8_tide_27 rfl rfl ?_
    exact A_retI rfl dX8_tide_28
  · refine A_aload_n (pc := 10) (i := 0) dX8_tide_10 rfl rfl ?_
    refine A_ldc (pc := 11) (v := (-1000001 : Int32)) dX8_tide_11 kK_X8_125 ?_
    refine A_callV (pc := 13) (M' := mX8_finding) (As := [vi (-1000001 : Int32)]) (st := []) (0, 0) (fun r2 => [vi r2.1]) (fun r2 => r2.2) (a_X8_finding (-1000001 : Int32) h) kD_X8_finding kM_X8_126 kI_X8_finding kS_X8_finding kN_X8 ⟨(Nat.le_of_ble_eq_true rfl), (Nat.le_of_ble_eq_true rfl)⟩ dX8_tide_13 rfl rfl rfl (by decide) rfl (Nat.le_of_ble_eq_true rfl) (Nat.le_of_ble_eq_true rfl) (Nat.le_of_ble_eq_true rfl) (fun _ => rfl) (fun _ => rfl) (fun r2 => ?_)
    exact A_retI rfl dX8_tide_16

abbrev mX8_outside : MD := (yX8_outside, cX8_outside, 4, (some .int), { frames := 0, cells := 0, slots := 0, locals := 0 }, none)
theorem kD_X8_outside : CodeIn mX8_outside 1 := ⟨kC_X8_outside, by decide +kernel⟩
def fL_X8_outside_7 (h : Hp) : Nat → Int32 → Int32 → Int32 → Option Int32
  | 0, _, _, _ => none
  | n + 1, x1, x2, x3 => (if 0 ≤ x2 ∧ x2 < 4 then (if (((6 : Int32) * x2) + (gI h 43 0 (Int32.toNatClampNeg x2))) ≤ x3 then (if 0 ≤ x2 ∧ x2 < 4 then (some (((gI h 43 0 (Int32.toNatClampNeg x2)) - (x1 - x1 / (6 : Int32) * (6 : Int32))) - (1 : Int32))) else none) else (if 0 ≤ x3 ∧ x3 < 24 then (if 0 ≤ (gI h 44 0 (Int32.toNatClampNeg x3)) ∧ (gI h 44 0 (Int32.toNatClampNeg x3)) < 8 then (if (((gI h 40 0 (Int32.toNatClampNeg (gI h 44 0 (Int32.toNatClampNeg x3)))) >>> ((gI h 8 0 19) &&& 31)) &&& (1 : Int32)) = 0 then (some (-1 : Int32)) else ((fL_X8_outside_7 h n) x1 x2 (x3 + 1))) else none) else none)) else none)
set_option maxRecDepth 100000 in
set_option maxHeartbeats 4000000 in
theorem aL_X8_outside_7 (h : Hp) : ∀ (n : Nat) (x1 : Int32) (x2 : Int32) (x3 : Int32), Aw (eIr h) U0 mX8_outside (0, 0) U0 7 [some (vr 8 (some 0)), some (vi x1), some (vi x2), some (vi x3)] [] h (fL_X8_outside_7 h n x1 x2 x3) := by
  intro n
  induction n with
  | zero =>
    intro x1 x2 x3
    exact Aw.none
  | succ n ih =>
    intro x1 x2 x3
    show Aw _ _ _ _ _ _ _ _ _ (fL_X8_outside_7 h (n + 1) x1 x2 x3)
    unfold fL_X8_outside_7
    refine A_iload_n (pc := 7) (i := 3) dX8_outside_7 rfl rfl ?_
    refine A_bipush (pc := 8) (v := (6 : Int32)) dX8_outside_8 (by decide) ?_
    refine A_iload_n (pc := 10) (i := 2) dX8_outside_10 rfl rfl ?_
    refine A_imul (pc := 11) dX8_outside_11 ?_
    refine A_aload_n (pc := 12) (i := 0) dX8_outside_12 rfl rfl ?_
    refine A_getS (pc := 13) (k := 17) (tp := 43) clX8 (Nat.le_of_ble_eq_true rfl) dX8_outside_13 kF_X8_50 rfl rfl rfl ?_
    refine A_iload_n (pc := 16) (i := 2) dX8_outside_16 rfl rfl ?_
    refine A_iaload (pc := 17) (n := 4) (by decide) (by decide) rfl dX8_outside_17 (by decide) ?_
    refine A_iadd (pc := 18) dX8_outside_18 ?_
    refine A_icmp_ge (pc := 19) (tgt := 51) dX8_outside_19 (by decide) ?_ ?_
    · refine A_aload_n (pc := 51) (i := 0) dX8_outside_51 rfl rfl ?_
      refine A_getS (pc := 52) (k := 17) (tp := 43) clX8 (Nat.le_of_ble_eq_true rfl) dX8_outside_52 kF_X8_50 rfl rfl rfl ?_
      refine A_iload_n (pc := 55) (i := 2) dX8_outside_55 rfl rfl ?_
      refine A_iaload (pc := 56) (n := 4) (by decide) (by decide) rfl dX8_outside_56 (by decide) ?_
      refine A_iload_n (pc := 57) (i := 1) dX8_outside_57 rfl rfl ?_
      refine A_bipush (pc := 58) (v := (6 : Int32)) dX8_outside_58 (by decide) ?_
      refine A_irem (pc := 60) dX8_outside_60 (by decide) ?_
      refine A_isub (pc := 61) dX8_outside_61 ?_
      refine A_iconst (pc := 62) (v := (1 : Int32)) dX8_outside_62 (by decide) ?_
      refine A_isub (pc := 63) dX8_outside_63 ?_
      exact A_retIr rfl dX8_outside_64
    · refine A_aload_n (pc := 22) (i := 0) dX8_outside_22 rfl rfl ?_
      refine A_getS (pc := 23) (k := 13) (tp := 40) clX8 (Nat.le_of_ble_eq_true rfl) dX8_outside_23 kF_X8_41 rfl rfl rfl ?_
      refine A_aload_n (pc := 26) (i := 0) dX8_outside_26 rfl rfl ?_
      refine A_getS (pc := 27) (k := 18) (tp := 44) clX8 (Nat.le_of_ble_eq_true rfl) dX8_outside_27 kF_X8_53 rfl rfl rfl ?_
      refine A_iload_n (pc := 30) (i := 3) dX8_outside_30 rfl rfl ?_
      refine A_iaload (pc := 31) (n := 24) (by decide) (by decide) rfl dX8_outside_31 (by decide) ?_
      refine A_iaload (pc := 32) (n := 8) (by decide) (by decide) rfl dX8_outside_32 (by decide) ?_
      refine A_aload_n (pc := 33) (i := 0) dX8_outside_33 rfl rfl ?_
      refine A_getI (pc := 34) (k := 19) clX8 (Nat.le_of_ble_eq_true rfl) dX8_outside_34 kF_X8_211 rfl ?_
      refine A_ishr (pc := 37) dX8_outside_37 ?_
      refine A_iconst (pc := 38) (v := (1 : Int32)) dX8_outside_38 (by decide) ?_
      refine A_iand (pc := 39) dX8_outside_39 ?_
      refine A_if_ne (pc := 40) (tgt := 45) dX8_outside_40 (by decide) ?_ ?_
      · refine A_iinc (pc := 45) (i := 3) (v := (x3 + 1)) (ls2 := [some (vr 8 (some 0)), some (vi x1), some (vi x2), some (vi (x3 + 1))]) dX8_outside_45 rfl rfl (Nat.le_of_ble_eq_true rfl) rfl ?_
        refine A_goto (pc := 48) (tgt := 7) dX8_outside_48 (by decide) ?_
        exact Aw.weak (ls' := [some (vr 8 (some 0)), some (vi x1), some (vi x2), some (vi (x3 + 1))]) ⟨rfl, ⟨rfl, ⟨rfl, ⟨rfl, trivial⟩⟩⟩⟩ (ih x1 x2 (x3 + 1))
      · refine A_iconst (pc := 43) (v := (-1 : Int32)) dX8_outside_43 (by decide) ?_
        exact A_retIr rfl dX8_outside_44
def f_X8_outside (x1 : Int32) (h : Hp) : Option Int32 := (fL_X8_outside_7 h FU x1 (x1 / (6 : Int32)) x1)
set_option maxRecDepth 100000 in
set_option maxHeartbeats 4000000 in
theorem a_X8_outside (x1 : Int32) (h : Hp) : CtA (eIr h) mX8_outside U0 U0 [vr 8 (some 0), vi x1] h (f_X8_outside x1 h) := by
  refine Ct.of (ls := [some (vr 8 (some 0)), some (vi x1), none, none]) (n := 2) (by decide +kernel) rfl rfl rfl ?_
  unfold f_X8_outside
  refine A_iload_n (pc := 0) (i := 1) dX8_outside_0 rfl rfl ?_
  refine A_bipush (pc := 1) (v := (6 : Int32)) dX8_outside_1 (by decide) ?_
  refine A_idiv (pc := 3) dX8_outside_3 (by decide) ?_
  refine A_istore_n (pc := 4) (i := 2) (ls2 := [some (vr 8 (some 0)), some (vi x1), some (vi (x1 / (6 : Int32))), none]) dX8_outside_4 rfl (Nat.le_of_ble_eq_true rfl) rfl ?_
  refine A_iload_n (pc := 5) (i := 1) dX8_outside_5 rfl rfl ?_
  refine A_istore_n (pc := 6) (i := 3) (ls2 := [some (vr 8 (some 0)), some (vi x1), some (vi (x1 / (6 : Int32))), some (vi x1)]) dX8_outside_6 rfl (Nat.le_of_ble_eq_true rfl) rfl ?_
  exact Aw.weak (ls' := [some (vr 8 (some 0)), some (vi x1), some (vi (x1 / (6 : Int32))), some (vi x1)]) ⟨rfl, ⟨rfl, ⟨rfl, ⟨rfl, trivial⟩⟩⟩⟩ (aL_X8_outside_7 h FU x1 (x1 / (6 : Int32)) x1)

abbrev mX8_nextToLeave : MD := (yX8_nextToLeave, cX8_nextToLeave, 6, (some .int), { frames := 1, cells := 0, slots := 0, locals := 23 }, none)
theorem kD_X8_nextToLeave : CodeIn mX8_nextToLeave 0 := ⟨kC_X8_nextToLeave, by decide +kernel⟩
def fJ_X8_nextToLeave_66 (h : Hp) (c6 : Int32 → Int32 → Int32 → Option Int32) (x3 : Int32) (x5 : Int32) : Option Int32 := (c6 x3 x5 (x3 + 1))
set_option maxRecDepth 100000 in
set_option maxHeartbeats 4000000 in
theorem aJ_X8_nextToLeave_66 (h : Hp) (c6 : Int32 → Int32 → Int32 → Option Int32) (hc6 : ∀ (x1 : Int32) (x2 : Int32) (x3 : Int32), Aw (eIr h) U0 mX8_nextToLeave (0, 0) U0 6 [some (vr 8 (some 0)), some (vi x1), some (vi x2), some (vi x3), none, none] [] h (c6 x1 x2 x3)) (x3 : Int32) (x5 : Int32) : Aw (eIr h) U0 mX8_nextToLeave (0, 0) U0 66 [some (vr 8 (some 0)), none, none, some (vi x3), none, some (vi x5)] [] h (fJ_X8_nextToLeave_66 h c6 x3 x5) := by
  unfold fJ_X8_nextToLeave_66
  refine A_iload_n (pc := 66) (i := 3) dX8_nextToLeave_66 rfl rfl ?_
  refine A_istore_n (pc := 67) (i := 1) (ls2 := [some (vr 8 (some 0)), some (vi x3), none, some (vi x3), none, some (vi x5)]) dX8_nextToLeave_67 rfl (Nat.le_of_ble_eq_true rfl) rfl ?_
  refine A_iload (pc := 68) (i := 5) dX8_nextToLeave_68 rfl ?_
  refine A_istore_n (pc := 70) (i := 2) (ls2 := [some (vr 8 (some 0)), some (vi x3), some (vi x5), some (vi x3), none, some (vi x5)]) dX8_nextToLeave_70 rfl (Nat.le_of_ble_eq_true rfl) rfl ?_
  refine A_iinc (pc := 71) (i := 3) (v := (x3 + 1)) (ls2 := [some (vr 8 (some 0)), some (vi x3), some (vi x5), some (vi (x3 + 1)), none, some (vi x5)]) dX8_nextToLeave_71 rfl rfl (Nat.le_of_ble_eq_true rfl) rfl ?_
  refine A_goto (pc := 74) (tgt := 6) dX8_nextToLeave_74 (by decide) ?_
  exact Aw.weak (ls' := [some (vr 8 (some 0)), some (vi x3), some (vi x5), some (vi (x3 + 1)), none, none]) ⟨rfl, ⟨rfl, ⟨rfl, ⟨rfl, trivial⟩⟩⟩⟩ (hc6 x3 x5 (x3 + 1))
def fJ_X8_nextToLeave_49 (h : Hp) (c6 : Int32 → Int32 → Int32 → Option Int32) (x1 : Int32) (x2 : Int32) (x3 : Int32) (xs0 : Int32) : Option Int32 := (if xs0 < 0 then (c6 x1 x2 (x3 + 1)) else (if x1 < 0 then (fJ_X8_nextToLeave_66 h c6 x3 xs0) else (if x2 ≤ xs0 then (c6 x1 x2 (x3 + 1)) else (fJ_X8_nextToLeave_66 h c6 x3 xs0))))
set_option maxRecDepth 100000 in
set_option maxHeartbeats 4000000 in
theorem aJ_X8_nextToLeave_49 (h : Hp) (c6 : Int32 → Int32 → Int32 → Option Int32) (hc6 : ∀ (x1 : Int32) (x2 : Int32) (x3 : Int32), Aw (eIr h) U0 mX8_nextToLeave (0, 0) U0 6 [some (vr 8 (some 0)), some (vi x1), some (vi x2), some (vi x3), none, none] [] h (c6 x1 x2 x3)) (x1 : Int32) (x2 : Int32) (x3 : Int32) (xs0 : Int32) : Aw (eIr h) U0 mX8_nextToLeave (0, 0) U0 49 [some (vr 8 (some 0)), some (vi x1), some (vi x2), some (vi x3), none, none] [vi xs0] h (fJ_X8_nextToLeave_49 h c6 x1 x2 x3 xs0) := by
  unfold fJ_X8_nextToLeave_49
  refine A_istore (pc := 49) (i := 5) (ls2 := [some (vr 8 (some 0)), some (vi x1), some (vi x2), some (vi x3), none, some (vi xs0)]) dX8_nextToLeave_49 (Nat.le_of_ble_eq_true rfl) rfl ?_
  refine A_iload (pc := 51) (i := 5) dX8_nextToLeave_51 rfl ?_
  refine A_if_lt (pc := 53) (tgt := 71) dX8_nextToLeave_53 (by decide) ?_ ?_
  · refine A_iinc (pc := 71) (i := 3) (v := (x3 + 1)) (ls2 := [some (vr 8 (some 0)), some (vi x1), some (vi x2), some (vi (x3 + 1)), none, some (vi xs0)]) dX8_nextToLeave_71 rfl rfl (Nat.le_of_ble_eq_true rfl) rfl ?_
    refine A_goto (pc := 74) (tgt := 6) dX8_nextToLeave_74 (by decide) ?_
    exact Aw.weak (ls' := [some (vr 8 (some 0)), some (vi x1), some (vi x2), some (vi (x3 + 1)), none, none]) ⟨rfl, ⟨rfl, ⟨rfl, ⟨rfl, trivial⟩⟩⟩⟩ (hc6 x1 x2 (x3 + 1))
  · refine A_iload_n (pc := 56) (i := 1) dX8_nextToLeave_56 rfl rfl ?_
    refine A_if_lt (pc := 57) (tgt := 66) dX8_nextToLeave_57 (by decide) ?_ ?_
    · exact Aw.weak (ls' := [some (vr 8 (some 0)), none, none, some (vi x3), none, some (vi xs0)]) ⟨rfl, ⟨rfl, ⟨rfl, trivial⟩⟩⟩ (aJ_X8_nextToLeave_66 h c6 hc6 x3 xs0)
    · refine A_iload (pc := 60) (i := 5) dX8_nextToLeave_60 rfl ?_
      refine A_iload_n (pc := 62) (i := 2) dX8_nextToLeave_62 rfl rfl ?_
      refine A_icmp_ge (pc := 63) (tgt := 71) dX8_nextToLeave_63 (by decide) ?_ ?_
      · refine A_iinc (pc := 71) (i := 3) (v := (x3 + 1)) (ls2 := [some (vr 8 (some 0)), some (vi x1), some (vi x2), some (vi (x3 + 1)), none, some (vi xs0)]) dX8_nextToLeave_71 rfl rfl (Nat.le_of_ble_eq_true rfl) rfl ?_
        refine A_goto (pc := 74) (tgt := 6) dX8_nextToLeave_74 (by decide) ?_
        exact Aw.weak (ls' := [some (vr 8 (some 0)), some (vi x1), some (vi x2), some (vi (x3 + 1)), none, none]) ⟨rfl, ⟨rfl, ⟨rfl, ⟨rfl, trivial⟩⟩⟩⟩ (hc6 x1 x2 (x3 + 1))
      · exact Aw.weak (ls' := [some (vr 8 (some 0)), none, none, some (vi x3), none, some (vi xs0)]) ⟨rfl, ⟨rfl, ⟨rfl, trivial⟩⟩⟩ (aJ_X8_nextToLeave_66 h c6 hc6 x3 xs0)
def fJ_X8_nextToLeave_39 (h : Hp) (c6 : Int32 → Int32 → Int32 → Option Int32) (x1 : Int32) (x2 : Int32) (x3 : Int32) : Option Int32 := (fJ_X8_nextToLeave_49 h c6 x1 x2 x3 (-1 : Int32))
set_option maxRecDepth 100000 in
set_option maxHeartbeats 4000000 in
theorem aJ_X8_nextToLeave_39 (h : Hp) (c6 : Int32 → Int32 → Int32 → Option Int32) (hc6 : ∀ (x1 : Int32) (x2 : Int32) (x3 : Int32), Aw (eIr h) U0 mX8_nextToLeave (0, 0) U0 6 [some (vr 8 (some 0)), some (vi x1), some (vi x2), some (vi x3), none, none] [] h (c6 x1 x2 x3)) (x1 : Int32) (x2 : Int32) (x3 : Int32) : Aw (eIr h) U0 mX8_nextToLeave (0, 0) U0 39 [some (vr 8 (some 0)), some (vi x1), some (vi x2), some (vi x3), none, none] [] h (fJ_X8_nextToLeave_39 h c6 x1 x2 x3) := by
  unfold fJ_X8_nextToLeave_39
  refine A_iconst (pc := 39) (v := (-1 : Int32)) dX8_nextToLeave_39 (by decide) ?_
  refine A_goto (pc := 40) (tgt := 49) dX8_nextToLeave_40 (by decide) ?_
  exact Aw.weak (ls' := [some (vr 8 (some 0)), some (vi x1), some (vi x2), some (vi x3), none, none]) ⟨rfl, ⟨rfl, ⟨rfl, ⟨rfl, trivial⟩⟩⟩⟩ (aJ_X8_nextToLeave_49 h c6 hc6 x1 x2 x3 (-1 : Int32))
def fL_X8_nextToLeave_6 (h : Hp) : Nat → Int32 → Int32 → Int32 → Option Int32
  | 0, _, _, _ => none
  | n + 1, x1, x2, x3 => (if (gI h 8 0 6) ≤ x3 then (some x1) else ((f_X8_spotOf x3 h).bind fun r1 => (if r1 < 0 then (fJ_X8_nextToLeave_39 h (fL_X8_nextToLeave_6 h n) x1 x2 x3) else (if 0 ≤ x3 ∧ x3 < 8 then (if (gI h 38 0 (Int32.toNatClampNeg x3)) ≤ (gI h 8 0 19) then ((f_X8_outside r1 h).bind fun r2 => (fJ_X8_nextToLeave_49 h (fL_X8_nextToLeave_6 h n) x1 x2 x3 r2)) else (fJ_X8_nextToLeave_39 h (fL_X8_nextToLeave_6 h n) x1 x2 x3)) else none))))
set_option maxRecDepth 100000 in
set_option maxHeartbeats 4000000 in
theorem aL_X8_nextToLeave_6 (h : Hp) : ∀ (n : Nat) (x1 : Int32) (x2 : Int32) (x3 : Int32), Aw (eIr h) U0 mX8_nextToLeave (0, 0) U0 6 [some (vr 8 (some 0)), some (vi x1), some (vi x2), some (vi x3), none, none] [] h (fL_X8_nextToLeave_6 h n x1 x2 x3) := by
  intro n
  induction n with
  | zero =>
    intro x1 x2 x3
    exact Aw.none
  | succ n ih =>
    intro x1 x2 x3
    show Aw _ _ _ _ _ _ _ _ _ (fL_X8_nextToLeave_6 h (n + 1) x1 x2 x3)
    unfold fL_X8_nextToLeave_6
    refine A_iload_n (pc := 6) (i := 3) dX8_nextToLeave_6 rfl rfl ?_
    refine A_aload_n (pc := 7) (i := 0) dX8_nextToLeave_7 rfl rfl ?_
    refine A_getI (pc := 8) (k := 6) clX8 (Nat.le_of_ble_eq_true rfl) dX8_nextToLeave_8 kF_X8_122 rfl ?_
    refine A_icmp_ge (pc := 11) (tgt := 77) dX8_nextToLeave_11 (by decide) ?_ ?_
    · refine A_iload_n (pc := 77) (i := 1) dX8_nextToLeave_77 rfl rfl ?_
      exact A_retIr rfl dX8_nextToLeave_78
    · refine A_aload_n (pc := 14) (i := 0) dX8_nextToLeave_14 rfl rfl ?_
      refine A_iload_n (pc := 15) (i := 3) dX8_nextToLeave_15 rfl rfl ?_
      refine A_callV (pc := 16) (M' := mX8_spotOf) (As := [vi x3]) (st := []) (0, 0) (fun r1 => [vi r1]) (fun _ => h) (a_X8_spotOf x3 h) kD_X8_spotOf kM_X8_146 kI_X8_spotOf kS_X8_spotOf kN_X8 ⟨(Nat.le_of_ble_eq_true rfl), (Nat.le_of_ble_eq_true rfl)⟩ dX8_nextToLeave_16 rfl rfl rfl (by decide) rfl (Nat.le_of_ble_eq_true rfl) (Nat.le_of_ble_eq_true rfl) (Nat.le_of_ble_eq_true rfl) (fun _ => rfl) (fun _ => rfl) (fun r1 => ?_)
      refine A_istore (pc := 19) (i := 4) (ls2 := [some (vr 8 (some 0)), some (vi x1), some (vi x2), some (vi x3), some (vi r1), none]) dX8_nextToLeave_19 (Nat.le_of_ble_eq_true rfl) rfl ?_
      refine A_iload (pc := 21) (i := 4) dX8_nextToLeave_21 rfl ?_
      refine A_if_lt (pc := 23) (tgt := 39) dX8_nextToLeave_23 (by decide) ?_ ?_
      · exact Aw.weak (ls' := [some (vr 8 (some 0)), some (vi x1), some (vi x2), some (vi x3), none, none]) ⟨rfl, ⟨rfl, ⟨rfl, ⟨rfl, trivial⟩⟩⟩⟩ (aJ_X8_nextToLeave_39 h (fL_X8_nextToLeave_6 h n) ih x1 x2 x3)
      · refine A_aload_n (pc := 26) (i := 0) dX8_nextToLeave_26 rfl rfl ?_
        refine A_getS (pc := 27) (k := 11) (tp := 38) clX8 (Nat.le_of_ble_eq_true rfl) dX8_nextToLeave_27 kF_X8_35 rfl rfl rfl ?_
        refine A_iload_n (pc := 30) (i := 3) dX8_nextToLeave_30 rfl rfl ?_
        refine A_iaload (pc := 31) (n := 8) (by decide) (by decide) rfl dX8_nextToLeave_31 (by decide) ?_
        refine A_aload_n (pc := 32) (i := 0) dX8_nextToLeave_32 rfl rfl ?_
        refine A_getI (pc := 33) (k := 19) clX8 (Nat.le_of_ble_eq_true rfl) dX8_nextToLeave_33 kF_X8_211 rfl ?_
        refine A_icmp_le (pc := 36) (tgt := 43) dX8_nextToLeave_36 (by decide) ?_ ?_
        · refine A_aload_n (pc := 43) (i := 0) dX8_nextToLeave_43 rfl rfl ?_
          refine A_iload (pc := 44) (i := 4) dX8_nextToLeave_44 rfl ?_
          refine A_callV (pc := 46) (M' := mX8_outside) (As := [vi r1]) (st := []) (0, 0) (fun r2 => [vi r2]) (fun _ => h) (a_X8_outside r1 h) kD_X8_outside kM_X8_214 kI_X8_outside kS_X8_outside kN_X8 ⟨(Nat.le_of_ble_eq_true rfl), (Nat.le_of_ble_eq_true rfl)⟩ dX8_nextToLeave_46 rfl rfl rfl (by decide) rfl (Nat.le_of_ble_eq_true rfl) (Nat.le_of_ble_eq_true rfl) (Nat.le_of_ble_eq_true rfl) (fun _ => rfl) (fun _ => rfl) (fun r2 => ?_)
          exact Aw.weak (ls' := [some (vr 8 (some 0)), some (vi x1), some (vi x2), some (vi x3), none, none]) ⟨rfl, ⟨rfl, ⟨rfl, ⟨rfl, trivial⟩⟩⟩⟩ (aJ_X8_nextToLeave_49 h (fL_X8_nextToLeave_6 h n) ih x1 x2 x3 r2)
        · exact Aw.weak (ls' := [some (vr 8 (some 0)), some (vi x1), some (vi x2), some (vi x3), none, none]) ⟨rfl, ⟨rfl, ⟨rfl, ⟨rfl, trivial⟩⟩⟩⟩ (aJ_X8_nextToLeave_39 h (fL_X8_nextToLeave_6 h n) ih x1 x2 x3)
def f_X8_nextToLeave (h : Hp) : Option Int32 := (fL_X8_nextToLeave_6 h FU (-1 : Int32) (0 : Int32) (0 : Int32))
set_option maxRecDepth 100000 in
set_option maxHeartbeats 4000000 in
theorem a_X8_nextToLeave (h : Hp) : CtA (eIr h) mX8_nextToLeave U0 U0 [vr 8 (some 0)] h (f_X8_nextToLeave h) := by
  refine Ct.of (ls := [some (vr 8 (some 0)), none, none, none, none, none]) (n := 5) (by decide +kernel) rfl rfl rfl ?_
  unfold f_X8_nextToLeave
  refine A_iconst (pc := 0) (v := (-1 : Int32)) dX8_nextToLeave_0 (by decide) ?_
  refine A_istore_n (pc := 1) (i := 1) (ls2 := [some (vr 8 (some 0)), some (vi (-1 : Int32)), none, none, none, none]) dX8_nextToLeave_1 rfl (Nat.le_of_ble_eq_true rfl) rfl ?_
  refine A_iconst (pc := 2) (v := (0 : Int32)) dX8_nextToLeave_2 (by decide) ?_
  refine A_istore_n (pc := 3) (i := 2) (ls2 := [some (vr 8 (some 0)), some (vi (-1 : Int32)), some (vi (0 : Int32)), none, none, none]) dX8_nextToLeave_3 rfl (Nat.le_of_ble_eq_true rfl) rfl ?_
  refine A_iconst (pc := 4) (v := (0 : Int32)) dX8_nextToLeave_4 (by decide) ?_
  refine A_istore_n (pc := 5) (i := 3) (ls2 := [some (vr 8 (some 0)), some (vi (-1 : Int32)), some (vi (0 : Int32)), some (vi (0 : Int32)), none, none]) dX8_nextToLeave_5 rfl (Nat.le_of_ble_eq_true rfl) rfl ?_
  exact Aw.weak (ls' := [some (vr 8 (some 0)), some (vi (-1 : Int32)), some (vi (0 : Int32)), some (vi (0 : Int32)), none, none]) ⟨rfl, ⟨rfl, ⟨rfl, ⟨rfl, trivial⟩⟩⟩⟩ (aL_X8_nextToLeave_6 h FU (-1 : Int32) (0 : Int32) (0 : Int32))

abbrev mX8_doHour : MD := (yX8_doHour, cX8_doHour, 5, (some .int), { frames := 2, cells := 0, slots := 0, locals := 48 }, none)
theorem kD_X8_doHour : CodeIn mX8_doHour 0 := ⟨kC_X8_doHour, by decide +kernel⟩
def fJ_X8_doHour_105 (c65 : Int32 → Int32 → Hp → Option (Int32 × Hp)) (x1 : Int32) (x3 : Int32) (xs1 : Int32) (xs2 : Int32) (h : Hp) : Option (Int32 × Hp) := (if 0 ≤ xs1 ∧ xs1 < 8 then (c65 x1 (x3 + 1) (wI h 41 0 (Int32.toNatClampNeg xs1) (xs2 + (0 : Int32)))) else none)
set_option maxRecDepth 100000 in
set_option maxHeartbeats 4000000 in
theorem aJ_X8_doHour_105 (c65 : Int32 → Int32 → Hp → Option (Int32 × Hp)) (hc65 : ∀ (x1 : Int32) (x3 : Int32) (h : Hp), Aw eI U0 mX8_doHour (0, 0) U0 65 [some (vr 8 (some 0)), some (vi x1), none, some (vi x3), none] [] h (c65 x1 x3 h)) (x1 : Int32) (x3 : Int32) (xs1 : Int32) (xs2 : Int32) (h : Hp) : Aw eI U0 mX8_doHour (0, 0) U0 105 [some (vr 8 (some 0)), some (vi x1), none, some (vi x3), none] [vi xs2, vi xs1, vr 41 (some 0)] h (fJ_X8_doHour_105 c65 x1 x3 xs1 xs2 h) := by
  unfold fJ_X8_doHour_105
  refine A_iconst (pc := 105) (v := (0 : Int32)) dX8_doHour_105 (by decide) ?_
  refine A_iadd (pc := 106) dX8_doHour_106 ?_
  refine A_iastore (pc := 107) (n := 8) (by decide) (by decide) rfl dX8_doHour_107 (by decide) ?_
  refine A_iinc (pc := 108) (i := 3) (v := (x3 + 1)) (ls2 := [some (vr 8 (some 0)), some (vi x1), none, some (vi (x3 + 1)), none]) dX8_doHour_108 rfl rfl (Nat.le_of_ble_eq_true rfl) rfl ?_
  refine A_goto (pc := 111) (tgt := 65) dX8_doHour_111 (by decide) ?_
  exact Aw.weak (ls' := [some (vr 8 (some 0)), some (vi x1), none, some (vi (x3 + 1)), none]) ⟨rfl, ⟨rfl, ⟨rfl, trivial⟩⟩⟩ (hc65 x1 (x3 + 1) (wI h 41 0 (Int32.toNatClampNeg xs1) (xs2 + (0 : Int32))))
def fL_X8_doHour_65 : Nat → Int32 → Int32 → Hp → Option (Int32 × Hp)
  | 0, _, _, _ => none
  | n + 1, x1, x3, h => (if (gI h 8 0 6) ≤ x3 then (some (x1, (wI h 8 0 19 (((gI h 8 0 19) + (1 : Int32)) - ((gI h 8 0 19) + (1 : Int32)) / (24 : Int32) * (24 : Int32))))) else (if 0 ≤ x3 ∧ x3 < 8 then ((f_X8_spotOf x3 h).bind fun r1 => (if r1 < 0 then (fJ_X8_doHour_105 (fL_X8_doHour_65 n) x1 x3 x3 (gI h 41 0 (Int32.toNatClampNeg x3)) h) else (if 0 ≤ x3 ∧ x3 < 8 then (if (gI h 8 0 19) < (gI h 38 0 (Int32.toNatClampNeg x3)) then (fJ_X8_doHour_105 (fL_X8_doHour_65 n) x1 x3 x3 (gI h 41 0 (Int32.toNatClampNeg x3)) h) else (if 0 ≤ x3 ∧ x3 < 8 then ((fL_X8_doHour_65 n) x1 (x3 + 1) (wI h 41 0 (Int32.toNatClampNeg x3) ((gI h 41 0 (Int32.toNatClampNeg x3)) + (1 : Int32)))) else none)) else none))) else none))
set_option maxRecDepth 100000 in
set_option maxHeartbeats 4000000 in
theorem aL_X8_doHour_65 : ∀ (n : Nat) (x1 : Int32) (x3 : Int32) (h : Hp), Aw eI U0 mX8_doHour (0, 0) U0 65 [some (vr 8 (some 0)), some (vi x1), none, some (vi x3), none] [] h (fL_X8_doHour_65 n x1 x3 h) := by
  intro n
  induction n with
  | zero =>
    intro x1 x3 h
    exact Aw.none
  | succ n ih =>
    intro x1 x3 h
    show Aw _ _ _ _ _ _ _ _ _ (fL_X8_doHour_65 (n + 1) x1 x3 h)
    unfold fL_X8_doHour_65
    refine A_iload_n (pc := 65) (i := 3) dX8_doHour_65 rfl rfl ?_
    refine A_aload_n (pc := 66) (i := 0) dX8_doHour_66 rfl rfl ?_
    refine A_getI (pc := 67) (k := 6) clX8 (Nat.le_of_ble_eq_true rfl) dX8_doHour_67 kF_X8_122 rfl ?_
    refine A_icmp_ge (pc := 70) (tgt := 114) dX8_doHour_70 (by decide) ?_ ?_
    · refine A_aload_n (pc := 114) (i := 0) dX8_doHour_114 rfl rfl ?_
      refine A_aload_n (pc := 115) (i := 0) dX8_doHour_115 rfl rfl ?_
      refine A_getI (pc := 116) (k := 19) clX8 (Nat.le_of_ble_eq_true rfl) dX8_doHour_116 kF_X8_211 rfl ?_
      refine A_iconst (pc := 119) (v := (1 : Int32)) dX8_doHour_119 (by decide) ?_
      refine A_iadd (pc := 120) dX8_doHour_120 ?_
      refine A_bipush (pc := 121) (v := (24 : Int32)) dX8_doHour_121 (by decide) ?_
      refine A_irem (pc := 123) dX8_doHour_123 (by decide) ?_
      refine A_putI (pc := 124) (k := 19) clX8 (Nat.le_of_ble_eq_true rfl) dX8_doHour_124 kF_X8_211 rfl (Or.inl rfl) ⟨rfl, rfl⟩ ?_
      refine A_iload_n (pc := 127) (i := 1) dX8_doHour_127 rfl rfl ?_
      exact A_retI rfl dX8_doHour_128
    · refine A_aload_n (pc := 73) (i := 0) dX8_doHour_73 rfl rfl ?_
      refine A_getS (pc := 74) (k := 14) (tp := 41) clX8 (Nat.le_of_ble_eq_true rfl) dX8_doHour_74 kF_X8_44 rfl rfl rfl ?_
      refine A_iload_n (pc := 77) (i := 3) dX8_doHour_77 rfl rfl ?_
      refine A_dup2 (pc := 78) dX8_doHour_78 (fun _ => rfl) (fun _ => cv_catr _ _) ?_
      refine A_iaload (pc := 79) (n := 8) (by decide) (by decide) rfl dX8_doHour_79 (by decide) ?_
      refine A_aload_n (pc := 80) (i := 0) dX8_doHour_80 rfl rfl ?_
      refine A_iload_n (pc := 81) (i := 3) dX8_doHour_81 rfl rfl ?_
      refine A_callV (pc := 82) (M' := mX8_spotOf) (As := [vi x3]) (st := [vi (gI h 41 0 (Int32.toNatClampNeg x3)), vi x3, vr 41 (some 0)]) (0, 0) (fun r1 => [vi r1, vi (gI h 41 0 (Int32.toNatClampNeg x3)), vi x3, vr 41 (some 0)]) (fun _ => h) (a_X8_spotOf x3 h) kD_X8_spotOf kM_X8_146 kI_X8_spotOf kS_X8_spotOf kN_X8 ⟨(Nat.le_of_ble_eq_true rfl), (Nat.le_of_ble_eq_true rfl)⟩ dX8_doHour_82 rfl rfl rfl (by decide) rfl (Nat.le_of_ble_eq_true rfl) (Nat.le_of_ble_eq_true rfl) (Nat.le_of_ble_eq_true rfl) (fun _ => rfl) (fun _ => rfl) (fun r1 => ?_)
      refine A_if_lt (pc := 85) (tgt := 105) dX8_doHour_85 (by decide) ?_ ?_
      · exact Aw.weak (ls' := [some (vr 8 (some 0)), some (vi x1), none, some (vi x3), none]) ⟨rfl, ⟨rfl, ⟨rfl, trivial⟩⟩⟩ (aJ_X8_doHour_105 (fL_X8_doHour_65 n) ih x1 x3 x3 (gI h 41 0 (Int32.toNatClampNeg x3)) h)
      · refine A_aload_n (pc := 88) (i := 0) dX8_doHour_88 rfl rfl ?_
        refine A_getS (pc := 89) (k := 11) (tp := 38) clX8 (Nat.le_of_ble_eq_true rfl) dX8_doHour_89 kF_X8_35 rfl rfl rfl ?_
        refine A_iload_n (pc := 92) (i := 3) dX8_doHour_92 rfl rfl ?_
        refine A_iaload (pc := 93) (n := 8) (by decide) (by decide) rfl dX8_doHour_93 (by decide) ?_
        refine A_aload_n (pc := 94) (i := 0) dX8_doHour_94 rfl rfl ?_
        refine A_getI (pc := 95) (k := 19) clX8 (Nat.le_of_ble_eq_true rfl) dX8_doHour_95 kF_X8_211 rfl ?_
        refine A_icmp_gt (pc := 98) (tgt := 105) dX8_doHour_98 (by decide) ?_ ?_
        · exact Aw.weak (ls' := [some (vr 8 (some 0)), some (vi x1), none, some (vi x3), none]) ⟨rfl, ⟨rfl, ⟨rfl, trivial⟩⟩⟩ (aJ_X8_doHour_105 (fL_X8_doHour_65 n) ih x1 x3 x3 (gI h 41 0 (Int32.toNatClampNeg x3)) h)
        · refine A_iconst (pc := 101) (v := (1 : Int32)) dX8_doHour_101 (by decide) ?_
          refine A_goto (pc := 102) (tgt := 106) dX8_doHour_102 (by decide) ?_
          refine A_iadd (pc := 106) dX8_doHour_106 ?_
          refine A_iastore (pc := 107) (n := 8) (by decide) (by decide) rfl dX8_doHour_107 (by decide) ?_
          refine A_iinc (pc := 108) (i := 3) (v := (x3 + 1)) (ls2 := [some (vr 8 (some 0)), some (vi x1), none, some (vi (x3 + 1)), none]) dX8_doHour_108 rfl rfl (Nat.le_of_ble_eq_true rfl) rfl ?_
          refine A_goto (pc := 111) (tgt := 65) dX8_doHour_111 (by decide) ?_
          exact Aw.weak (ls' := [some (vr 8 (some 0)), some (vi x1), none, some (vi (x3 + 1)), none]) ⟨rfl, ⟨rfl, ⟨rfl, trivial⟩⟩⟩ (ih x1 (x3 + 1) (wI h 41 0 (Int32.toNatClampNeg x3) ((gI h 41 0 (Int32.toNatClampNeg x3)) + (1 : Int32))))
def fJ_X8_doHour_41 (c23 : Int32 → Int32 → Hp → Option (Int32 × Hp)) (x1 : Int32) (x3 : Int32) (xs0 : Int32) (h : Hp) : Option (Int32 × Hp) := (if xs0 = 0 then (c23 x1 xs0 h) else ((f_X8_spotOf x3 h).bind fun r3 => ((f_X8_leavesNow r3 h).bind fun r4 => (c23 (x1 + 1) xs0 r4.2))))
set_option maxRecDepth 100000 in
set_option maxHeartbeats 4000000 in
theorem aJ_X8_doHour_41 (c23 : Int32 → Int32 → Hp → Option (Int32 × Hp)) (hc23 : ∀ (x1 : Int32) (x2 : Int32) (h : Hp), Aw eI U0 mX8_doHour (0, 0) U0 23 [some (vr 8 (some 0)), some (vi x1), some (vi x2), none, none] [] h (c23 x1 x2 h)) (x1 : Int32) (x3 : Int32) (xs0 : Int32) (h : Hp) : Aw eI U0 mX8_doHour (0, 0) U0 41 [some (vr 8 (some 0)), some (vi x1), none, some (vi x3), none] [vi xs0] h (fJ_X8_doHour_41 c23 x1 x3 xs0 h) := by
  unfold fJ_X8_doHour_41
  refine A_istore_n (pc := 41) (i := 2) (ls2 := [some (vr 8 (some 0)), some (vi x1), some (vi xs0), some (vi x3), none]) dX8_doHour_41 rfl (Nat.le_of_ble_eq_true rfl) rfl ?_
  refine A_iload_n (pc := 42) (i := 2) dX8_doHour_42 rfl rfl ?_
  refine A_if_eq (pc := 43) (tgt := 60) dX8_doHour_43 (by decide) ?_ ?_
  · refine A_goto (pc := 60) (tgt := 23) dX8_doHour_60 (by decide) ?_
    exact Aw.weak (ls' := [some (vr 8 (some 0)), some (vi x1), some (vi xs0), none, none]) ⟨rfl, ⟨rfl, ⟨rfl, trivial⟩⟩⟩ (hc23 x1 xs0 h)
  · refine A_aload_n (pc := 46) (i := 0) dX8_doHour_46 rfl rfl ?_
    refine A_aload_n (pc := 47) (i := 0) dX8_doHour_47 rfl rfl ?_
    refine A_iload_n (pc := 48) (i := 3) dX8_doHour_48 rfl rfl ?_
    refine A_callV (pc := 49) (M' := mX8_spotOf) (As := [vi x3]) (st := [vr 8 (some 0)]) (0, 0) (fun r3 => [vi r3, vr 8 (some 0)]) (fun _ => h) (a_X8_spotOf x3 h) kD_X8_spotOf kM_X8_146 kI_X8_spotOf kS_X8_spotOf kN_X8 ⟨(Nat.le_of_ble_eq_true rfl), (Nat.le_of_ble_eq_true rfl)⟩ dX8_doHour_49 rfl rfl rfl (by decide) rfl (Nat.le_of_ble_eq_true rfl) (Nat.le_of_ble_eq_true rfl) (Nat.le_of_ble_eq_true rfl) (fun _ => rfl) (fun _ => rfl) (fun r3 => ?_)
    refine A_callV (pc := 52) (M' := mX8_leavesNow) (As := [vi r3]) (st := []) (0, 0) (fun r4 => [vi r4.1]) (fun r4 => r4.2) (a_X8_leavesNow r3 h) kD_X8_leavesNow kM_X8_175 kI_X8_leavesNow kS_X8_leavesNow kN_X8 ⟨(Nat.le_of_ble_eq_true rfl), (Nat.le_of_ble_eq_true rfl)⟩ dX8_doHour_52 rfl rfl rfl (by decide) rfl (Nat.le_of_ble_eq_true rfl) (Nat.le_of_ble_eq_true rfl) (Nat.le_of_ble_eq_true rfl) (fun _ => rfl) (fun _ => rfl) (fun r4 => ?_)
    refine A_istore (pc := 55) (i := 4) (ls2 := [some (vr 8 (some 0)), some (vi x1), some (vi xs0), some (vi x3), some (vi r4.1)]) dX8_doHour_55 (Nat.le_of_ble_eq_true rfl) rfl ?_
    refine A_iinc (pc := 57) (i := 1) (v := (x1 + 1)) (ls2 := [some (vr 8 (some 0)), some (vi (x1 + 1)), some (vi xs0), some (vi x3), some (vi r4.1)]) dX8_doHour_57 rfl rfl (Nat.le_of_ble_eq_true rfl) rfl ?_
    refine A_goto (pc := 60) (tgt := 23) dX8_doHour_60 (by decide) ?_
    exact Aw.weak (ls' := [some (vr 8 (some 0)), some (vi (x1 + 1)), some (vi xs0), none, none]) ⟨rfl, ⟨rfl, ⟨rfl, trivial⟩⟩⟩ (hc23 (x1 + 1) xs0 r4.2)
def fL_X8_doHour_23 : Nat → Int32 → Int32 → Hp → Option (Int32 × Hp)
  | 0, _, _, _ => none
  | n + 1, x1, x2, h => (if x2 = 0 then (fL_X8_doHour_65 FU x1 (0 : Int32) h) else ((f_X8_nextToLeave h).bind fun r2 => (if r2 < 0 then (fJ_X8_doHour_41 (fL_X8_doHour_23 n) x1 r2 (0 : Int32) h) else (fJ_X8_doHour_41 (fL_X8_doHour_23 n) x1 r2 (1 : Int32) h))))
set_option maxRecDepth 100000 in
set_option maxHeartbeats 4000000 in
theorem aL_X8_doHour_23 : ∀ (n : Nat) (x1 : Int32) (x2 : Int32) (h : Hp), Aw eI U0 mX8_doHour (0, 0) U0 23 [some (vr 8 (some 0)), some (vi x1), some (vi x2), none, none] [] h (fL_X8_doHour_23 n x1 x2 h) := by
  intro n
  induction n with
  | zero =>
    intro x1 x2 h
    exact Aw.none
  | succ n ih =>
    intro x1 x2 h
    show Aw _ _ _ _ _ _ _ _ _ (fL_X8_doHour_23 (n + 1) x1 x2 h)
    unfold fL_X8_doHour_23
    refine A_iload_n (pc := 23) (i := 2) dX8_doHour_23 rfl rfl ?_
    refine A_if_eq (pc := 24) (tgt := 63) dX8_doHour_24 (by decide) ?_ ?_
    · refine A_iconst (pc := 63) (v := (0 : Int32)) dX8_doHour_63 (by decide) ?_
      refine A_istore_n (pc := 64) (i := 3) (ls2 := [some (vr 8 (some 0)), some (vi x1), some (vi x2), some (vi (0 : Int32)), none]) dX8_doHour_64 rfl (Nat.le_of_ble_eq_true rfl) rfl ?_
      exact Aw.weak (ls' := [some (vr 8 (some 0)), some (vi x1), none, some (vi (0 : Int32)), none]) ⟨rfl, ⟨rfl, ⟨rfl, trivial⟩⟩⟩ (aL_X8_doHour_65 FU x1 (0 : Int32) h)
    · refine A_aload_n (pc := 27) (i := 0) dX8_doHour_27 rfl rfl ?_
      refine A_callV (pc := 28) (M' := mX8_nextToLeave) (As := []) (st := []) (0, 0) (fun r2 => [vi r2]) (fun _ => h) (a_X8_nextToLeave h) kD_X8_nextToLeave kM_X8_217 kI_X8_nextToLeave kS_X8_nextToLeave kN_X8 ⟨(Nat.le_of_ble_eq_true rfl), (Nat.le_of_ble_eq_true rfl)⟩ dX8_doHour_28 rfl rfl rfl (by decide) rfl (Nat.le_of_ble_eq_true rfl) (Nat.le_of_ble_eq_true rfl) (Nat.le_of_ble_eq_true rfl) (fun _ => rfl) (fun _ => rfl) (fun r2 => ?_)
      refine A_istore_n (pc := 31) (i := 3) (ls2 := [some (vr 8 (some 0)), some (vi x1), some (vi x2), some (vi r2), none]) dX8_doHour_31 rfl (Nat.le_of_ble_eq_true rfl) rfl ?_
      refine A_iload_n (pc := 32) (i := 3) dX8_doHour_32 rfl rfl ?_
      refine A_if_lt (pc := 33) (tgt := 40) dX8_doHour_33 (by decide) ?_ ?_
      · refine A_iconst (pc := 40) (v := (0 : Int32)) dX8_doHour_40 (by decide) ?_
        exact Aw.weak (ls' := [some (vr 8 (some 0)), some (vi x1), none, some (vi r2), none]) ⟨rfl, ⟨rfl, ⟨rfl, trivial⟩⟩⟩ (aJ_X8_doHour_41 (fL_X8_doHour_23 n) ih x1 r2 (0 : Int32) h)
      · refine A_iconst (pc := 36) (v := (1 : Int32)) dX8_doHour_36 (by decide) ?_
        refine A_goto (pc := 37) (tgt := 41) dX8_doHour_37 (by decide) ?_
        exact Aw.weak (ls' := [some (vr 8 (some 0)), some (vi x1), none, some (vi r2), none]) ⟨rfl, ⟨rfl, ⟨rfl, trivial⟩⟩⟩ (aJ_X8_doHour_41 (fL_X8_doHour_23 n) ih x1 r2 (1 : Int32) h)
def f_X8_doHour (h : Hp) : Option (Int32 × Hp) := (if (((gI h 8 0 20) >>> ((gI h 8 0 19) &&& 31)) &&& (1 : Int32)) = (1 : Int32) then (fL_X8_doHour_23 FU (0 : Int32) (1 : Int32) h) else (fL_X8_doHour_23 FU (0 : Int32) (0 : Int32) h))
set_option maxRecDepth 100000 in
set_option maxHeartbeats 4000000 in
theorem a_X8_doHour (h : Hp) : CtA eI mX8_doHour U0 U0 [vr 8 (some 0)] h (f_X8_doHour h) := by
  refine Ct.of (ls := [some (vr 8 (some 0)), none, none, none, none]) (n := 4) (by decide +kernel) rfl rfl rfl ?_
  unfold f_X8_doHour
  refine A_iconst (pc := 0) (v := (0 : Int32)) dX8_doHour_0 (by decide) ?_
  refine A_istore_n (pc := 1) (i := 1) (ls2 := [some (vr 8 (some 0)), some (vi (0 : Int32)), none, none, none]) dX8_doHour_1 rfl (Nat.le_of_ble_eq_true rfl) rfl ?_
  refine A_aload_n (pc := 2) (i := 0) dX8_doHour_2 rfl rfl ?_
  refine A_getI (pc := 3) (k := 20) clX8 (Nat.le_of_ble_eq_true rfl) dX8_doHour_3 kF_X8_57 rfl ?_
  refine A_aload_n (pc := 6) (i := 0) dX8_doHour_6 rfl rfl ?_
  refine A_getI (pc := 7) (k := 19) clX8 (Nat.le_of_ble_eq_true rfl) dX8_doHour_7 kF_X8_211 rfl ?_
  refine A_ishr (pc := 10) dX8_doHour_10 ?_
  refine A_iconst (pc := 11) (v := (1 : Int32)) dX8_doHour_11 (by decide) ?_
  refine A_iand (pc := 12) dX8_doHour_12 ?_
  refine A_iconst (pc := 13) (v := (1 : Int32)) dX8_doHour_13 (by decide) ?_
  refine A_icmp_ne (pc := 14) (tgt := 21) dX8_doHour_14 (by decide) ?_ ?_
  · refine A_iconst (pc := 21) (v := (0 : Int32)) dX8_doHour_21 (by decide) ?_
    refine A_istore_n (pc := 22) (i := 2) (ls2 := [some (vr 8 (some 0)), some (vi (0 : Int32)), some (vi (0 : Int32)), none, none]) dX8_doHour_22 rfl (Nat.le_of_ble_eq_true rfl) rfl ?_
    exact Aw.weak (ls' := [some (vr 8 (some 0)), some (vi (0 : Int32)), some (vi (0 : Int32)), none, none]) ⟨rfl, ⟨rfl, ⟨rfl, trivial⟩⟩⟩ (aL_X8_doHour_23 FU (0 : Int32) (0 : Int32) h)
  · refine A_iconst (pc := 17) (v := (1 : Int32)) dX8_doHour_17 (by decide) ?_
    refine A_goto (pc := 18) (tgt := 22) dX8_doHour_18 (by decide) ?_
    refine A_istore_n (pc := 22) (i := 2) (ls2 := [some (vr 8 (some 0)), some (vi (0 : Int32)), some (vi (1 : Int32)), none, none]) dX8_doHour_22 rfl (Nat.le_of_ble_eq_true rfl) rfl ?_
    exact Aw.weak (ls' := [some (vr 8 (some 0)), some (vi (0 : Int32)), some (vi (1 : Int32)), none, none]) ⟨rfl, ⟨rfl, ⟨rfl, trivial⟩⟩⟩ (aL_X8_doHour_23 FU (0 : Int32) (1 : Int32) h)

abbrev mX8_run : MD := (yX8_run, cX8_run, 4, (some .int), { frames := 3, cells := 0, slots := 0, locals := 72 }, none)
theorem kD_X8_run : CodeIn mX8_run 1 := ⟨kC_X8_run, by decide +kernel⟩
def fL_X8_run_21 : Nat → Int32 → Int32 → Int32 → Hp → Option (Int32 × Hp)
  | 0, _, _, _, _ => none
  | n + 1, x1, x2, x3, h => (if x1 ≤ x3 then (some (x2, h)) else ((f_X8_doHour h).bind fun r2 => ((fL_X8_run_21 n) x1 (x2 + r2.1) (x3 + 1) r2.2)))
set_option maxRecDepth 100000 in
set_option maxHeartbeats 4000000 in
theorem aL_X8_run_21 : ∀ (n : Nat) (x1 : Int32) (x2 : Int32) (x3 : Int32) (h : Hp), Aw eI U0 mX8_run (0, 0) U0 21 [some (vr 8 (some 0)), some (vi x1), some (vi x2), some (vi x3)] [] h (fL_X8_run_21 n x1 x2 x3 h) := by
  intro n
  induction n with
  | zero =>
    intro x1 x2 x3 h
    exact Aw.none
  | succ n ih =>
    intro x1 x2 x3 h
    show Aw _ _ _ _ _ _ _ _ _ (fL_X8_run_21 (n + 1) x1 x2 x3 h)
    unfold fL_X8_run_21
    refine A_iload_n (pc := 21) (i := 3) dX8_run_21 rfl rfl ?_
    refine A_iload_n (pc := 22) (i := 1) dX8_run_22 rfl rfl ?_
    refine A_icmp_ge (pc := 23) (tgt := 39) dX8_run_23 (by decide) ?_ ?_
    · refine A_iload_n (pc := 39) (i := 2) dX8_run_39 rfl rfl ?_
      exact A_retI rfl dX8_run_40
    · refine A_iload_n (pc := 26) (i := 2) dX8_run_26 rfl rfl ?_
      refine A_aload_n (pc := 27) (i := 0) dX8_run_27 rfl rfl ?_
      refine A_callV (pc := 28) (M' := mX8_doHour) (As := []) (st := [vi x2]) (0, 0) (fun r2 => [vi r2.1, vi x2]) (fun r2 => r2.2) (a_X8_doHour h) kD_X8_doHour kM_X8_221 kI_X8_doHour kS_X8_doHour kN_X8 ⟨(Nat.le_of_ble_eq_true rfl), (Nat.le_of_ble_eq_true rfl)⟩ dX8_run_28 rfl rfl rfl (by decide) rfl (Nat.le_of_ble_eq_true rfl) (Nat.le_of_ble_eq_true rfl) (Nat.le_of_ble_eq_true rfl) (fun _ => rfl) (fun _ => rfl) (fun r2 => ?_)
      refine A_iadd (pc := 31) dX8_run_31 ?_
      refine A_istore_n (pc := 32) (i := 2) (ls2 := [some (vr 8 (some 0)), some (vi x1), some (vi (x2 + r2.1)), some (vi x3)]) dX8_run_32 rfl (Nat.le_of_ble_eq_true rfl) rfl ?_
      refine A_iinc (pc := 33) (i := 3) (v := (x3 + 1)) (ls2 := [some (vr 8 (some 0)), some (vi x1), some (vi (x2 + r2.1)), some (vi (x3 + 1))]) dX8_run_33 rfl rfl (Nat.le_of_ble_eq_true rfl) rfl ?_
      refine A_goto (pc := 36) (tgt := 21) dX8_run_36 (by decide) ?_
      exact Aw.weak (ls' := [some (vr 8 (some 0)), some (vi x1), some (vi (x2 + r2.1)), some (vi (x3 + 1))]) ⟨rfl, ⟨rfl, ⟨rfl, ⟨rfl, trivial⟩⟩⟩⟩ (ih x1 (x2 + r2.1) (x3 + 1) r2.2)
def f_X8_run (x1 : Int32) (h : Hp) : Option (Int32 × Hp) := ((f_X8_within x1 (1 : Int32) (24 : Int32) h).bind fun r1 => (if r1 = true then (fL_X8_run_21 FU x1 (0 : Int32) (0 : Int32) h) else ((f_X8_finding (-1000001 : Int32) h).bind fun r3 => (some (r3.1, r3.2)))))
set_option maxRecDepth 100000 in
set_option maxHeartbeats 4000000 in
theorem a_X8_run (x1 : Int32) (h : Hp) : CtA eI mX8_run U0 U0 [vr 8 (some 0), vi x1] h (f_X8_run x1 h) := by
  refine Ct.of (ls := [some (vr 8 (some 0)), some (vi x1), none, none]) (n := 2) (by decide +kernel) rfl rfl rfl ?_
  unfold f_X8_run
  refine A_iload_n (pc := 0) (i := 1) dX8_run_0 rfl rfl ?_
  refine A_iconst (pc := 1) (v := (1 : Int32)) dX8_run_1 (by decide) ?_
  refine A_bipush (pc := 2) (v := (24 : Int32)) dX8_run_2 (by decide) ?_
  refine A_callS (pc := 4) (M' := mX8_within) (As := [vi x1, vi (1 : Int32), vi (24 : Int32)]) (st := []) (0, 0) (fun r1 => [vi (bi r1)]) (fun _ => h) (a_X8_within x1 (1 : Int32) (24 : Int32) h) kD_X8_within kM_X8_118 kT_X8_within kN_X8 ⟨(Nat.le_of_ble_eq_true rfl), (Nat.le_of_ble_eq_true rfl)⟩ dX8_run_4 rfl rfl (Nat.le_of_ble_eq_true rfl) (Nat.le_of_ble_eq_true rfl) (Nat.le_of_ble_eq_true rfl) (fun _ => rfl) (fun _ => rfl) (fun r1 => ?_)
  refine A_ifb_ne (pc := 7) (tgt := 17) dX8_run_7 (by decide) ?_ ?_
  · refine A_iconst (pc := 17) (v := (0 : Int32)) dX8_run_17 (by decide) ?_
    refine A_istore_n (pc := 18) (i := 2) (ls2 := [some (vr 8 (some 0)), some (vi x1), some (vi (0 : Int32)), none]) dX8_run_18 rfl (Nat.le_of_ble_eq_true rfl) rfl ?_
    refine A_iconst (pc := 19) (v := (0 : Int32)) dX8_run_19 (by decide) ?_
    refine A_istore_n (pc := 20) (i := 3) (ls2 := [some (vr 8 (some 0)), some (vi x1), some (vi (0 : Int32)), some (vi (0 : Int32))]) dX8_run_20 rfl (Nat.le_of_ble_eq_true rfl) rfl ?_
    exact Aw.weak (ls' := [some (vr 8 (some 0)), some (vi x1), some (vi (0 : Int32)), some (vi (0 : Int32))]) ⟨rfl, ⟨rfl, ⟨rfl, ⟨rfl, trivial⟩⟩⟩⟩ (aL_X8_run_21 FU x1 (0 : Int32) (0 : Int32) h)
  · refine A_aload_n (pc := 10) (i := 0) dX8_run_10 rfl rfl ?_
    refine A_ldc (pc := 11) (v := (-1000001 : Int32)) dX8_run_11 kK_X8_125 ?_
    refine A_callV (pc := 13) (M' := mX8_finding) (As := [vi (-1000001 : Int32)]) (st := []) (0, 0) (fun r3 => [vi r3.1]) (fun r3 => r3.2) (a_X8_finding (-1000001 : Int32) h) kD_X8_finding kM_X8_126 kI_X8_finding kS_X8_finding kN_X8 ⟨(Nat.le_of_ble_eq_true rfl), (Nat.le_of_ble_eq_true rfl)⟩ dX8_run_13 rfl rfl rfl (by decide) rfl (Nat.le_of_ble_eq_true rfl) (Nat.le_of_ble_eq_true rfl) (Nat.le_of_ble_eq_true rfl) (fun _ => rfl) (fun _ => rfl) (fun r3 => ?_)
    exact A_retI rfl dX8_run_16

abbrev mX8_could : MD := (yX8_could, cX8_could, 3, (some .int), { frames := 2, cells := 0, slots := 0, locals := 43 }, none)
theorem kD_X8_could : CodeIn mX8_could 1 := ⟨kC_X8_could, by decide +kernel⟩
def f_X8_could (x1 : Int32) (h : Hp) : Option (Int32 × Hp) := ((f_X8_isBoat x1 h).bind fun r1 => (if r1 = true then ((f_X8_spotOf x1 h).bind fun r2 => (if 0 ≤ r2 then ((f_X8_outside r2 h).bind fun r3 => (some (r3, h))) else ((f_X8_finding (-1000005 : Int32) h).bind fun r4 => (some (r4.1, r4.2))))) else ((f_X8_finding (-1000001 : Int32) h).bind fun r5 => (some (r5.1, r5.2)))))
set_option maxRecDepth 100000 in
set_option maxHeartbeats 4000000 in
theorem a_X8_could (x1 : Int32) (h : Hp) : CtA eI mX8_could U0 U0 [vr 8 (some 0), vi x1] h (f_X8_could x1 h) := by
  refine Ct.of (ls := [some (vr 8 (some 0)), some (vi x1), none]) (n := 1) (by decide +kernel) rfl rfl rfl ?_
  unfold f_X8_could
  refine A_aload_n (pc := 0) (i := 0) dX8_could_0 rfl rfl ?_
  refine A_iload_n (pc := 1) (i := 1) dX8_could_1 rfl rfl ?_
  refine A_callV (pc := 2) (M' := mX8_isBoat) (As := [vi x1]) (st := []) (0, 0) (fun r1 => [vi (bi r1)]) (fun _ => h) (a_X8_isBoat x1 h) kD_X8_isBoat kM_X8_131 kI_X8_isBoat kS_X8_isBoat kN_X8 ⟨(Nat.le_of_ble_eq_true rfl), (Nat.le_of_ble_eq_true rfl)⟩ dX8_could_2 rfl rfl rfl (by decide) rfl (Nat.le_of_ble_eq_true rfl) (Nat.le_of_ble_eq_true rfl) (Nat.le_of_ble_eq_true rfl) (fun _ => rfl) (fun _ => rfl) (fun r1 => ?_)
  refine A_ifb_ne (pc := 5) (tgt := 15) dX8_could_5 (by decide) ?_ ?_
  · refine A_aload_n (pc := 15) (i := 0) dX8_could_15 rfl rfl ?_
    refine A_iload_n (pc := 16) (i := 1) dX8_could_16 rfl rfl ?_
    refine A_callV (pc := 17) (M' := mX8_spotOf) (As := [vi x1]) (st := []) (0, 0) (fun r2 => [vi r2]) (fun _ => h) (a_X8_spotOf x1 h) kD_X8_spotOf kM_X8_146 kI_X8_spotOf kS_X8_spotOf kN_X8 ⟨(Nat.le_of_ble_eq_true rfl), (Nat.le_of_ble_eq_true rfl)⟩ dX8_could_17 rfl rfl rfl (by decide) rfl (Nat.le_of_ble_eq_true rfl) (Nat.le_of_ble_eq_true rfl) (Nat.le_of_ble_eq_true rfl) (fun _ => rfl) (fun _ => rfl) (fun r2 => ?_)
    refine A_istore_n (pc := 20) (i := 2) (ls2 := [some (vr 8 (some 0)), some (vi x1), some (vi r2)]) dX8_could_20 rfl (Nat.le_of_ble_eq_true rfl) rfl ?_
    refine A_iload_n (pc := 21) (i := 2) dX8_could_21 rfl rfl ?_
    refine A_if_ge (pc := 22) (tgt := 34) dX8_could_22 (by decide) ?_ ?_
    · refine A_aload_n (pc := 34) (i := 0) dX8_could_34 rfl rfl ?_
      refine A_iload_n (pc := 35) (i := 2) dX8_could_35 rfl rfl ?_
      refine A_callV (pc := 36) (M' := mX8_outside) (As := [vi r2]) (st := []) (0, 0) (fun r3 => [vi r3]) (fun _ => h) (a_X8_outside r2 h) kD_X8_outside kM_X8_214 kI_X8_outside kS_X8_outside kN_X8 ⟨(Nat.le_of_ble_eq_true rfl), (Nat.le_of_ble_eq_true rfl)⟩ dX8_could_36 rfl rfl rfl (by decide) rfl (Nat.le_of_ble_eq_true rfl) (Nat.le_of_ble_eq_true rfl) (Nat.le_of_ble_eq_true rfl) (fun _ => rfl) (fun _ => rfl) (fun r3 => ?_)
      exact A_retI rfl dX8_could_39
    · refine A_aload_n (pc := 25) (i := 0) dX8_could_25 rfl rfl ?_
      refine A_ldc (pc := 26) (v := (-1000005 : Int32)) dX8_could_26 kK_X8_160 ?_
      refine A_callV (pc := 28) (M' := mX8_finding) (As := [vi (-1000005 : Int32)]) (st := []) (0, 0) (fun r4 => [vi r4.1]) (fun r4 => r4.2) (a_X8_finding (-1000005 : Int32) h) kD_X8_finding kM_X8_126 kI_X8_finding kS_X8_finding kN_X8 ⟨(Nat.le_of_ble_eq_true rfl), (Nat.le_of_ble_eq_true rfl)⟩ dX8_could_28 rfl rfl rfl (by decide) rfl (Nat.le_of_ble_eq_true rfl) (Nat.le_of_ble_eq_true rfl) (Nat.le_of_ble_eq_true rfl) (fun _ => rfl) (fun _ => rfl) (fun r4 => ?_)
      refine A_goto (pc := 31) (tgt := 39) dX8_could_31 (by decide) ?_
      exact A_retI rfl dX8_could_39
  · refine A_aload_n (pc := 8) (i := 0) dX8_could_8 rfl rfl ?_
    refine A_ldc (pc := 9) (v := (-1000001 : Int32)) dX8_could_9 kK_X8_125 ?_
    refine A_callV (pc := 11) (M' := mX8_finding) (As := [vi (-1000001 : Int32)]) (st := []) (0, 0) (fun r5 => [vi r5.1]) (fun r5 => r5.2) (a_X8_finding (-1000001 : Int32) h) kD_X8_finding kM_X8_126 kI_X8_finding kS_X8_finding kN_X8 ⟨(Nat.le_of_ble_eq_true rfl), (Nat.le_of_ble_eq_true rfl)⟩ dX8_could_11 rfl rfl rfl (by decide) rfl (Nat.le_of_ble_eq_true rfl) (Nat.le_of_ble_eq_true rfl) (Nat.le_of_ble_eq_true rfl) (fun _ => rfl) (fun _ => rfl) (fun r5 => ?_)
    exact A_retI rfl dX8_could_14

abbrev mX8_feed : MD := (yX8_feed, cX8_feed, 5, (some .int), { frames := 1, cells := 0, slots := 0, locals := 22 }, none)
theorem kD_X8_feed : CodeIn mX8_feed 2 := ⟨kC_X8_feed, by decide +kernel⟩
def fL_X8_feed_38 : Nat → Int64 → Int32 → Int32 → Hp → Option (Int32 × Hp)
  | 0, _, _, _, _ => none
  | n + 1, w1, x3, x4, h => (if x3 ≤ x4 then (some ((gI h 8 0 26), h)) else (if 0 ≤ (gI h 8 0 26) ∧ (gI h 8 0 26) < 80 then ((fL_X8_feed_38 n) w1 x3 (x4 + 1) (wI (wI h 48 0 (Int32.toNatClampNeg (gI h 8 0 26)) (Int64.toInt32 ((w1 >>> (Int32.toInt64 ((8 : Int32) * x4) &&& 63)) &&& (255 : Int64)))) 8 0 26 ((gI (wI h 48 0 (Int32.toNatClampNeg (gI h 8 0 26)) (Int64.toInt32 ((w1 >>> (Int32.toInt64 ((8 : Int32) * x4) &&& 63)) &&& (255 : Int64)))) 8 0 26) + (1 : Int32)))) else none))
set_option maxRecDepth 100000 in
set_option maxHeartbeats 4000000 in
theorem aL_X8_feed_38 : ∀ (n : Nat) (w1 : Int64) (x3 : Int32) (x4 : Int32) (h : Hp), Aw eI U0 mX8_feed (0, 0) U0 38 [some (vr 8 (some 0)), some (vl w1), none, some (vi x3), some (vi x4)] [] h (fL_X8_feed_38 n w1 x3 x4 h) := by
  intro n
  induction n with
  | zero =>
    intro w1 x3 x4 h
    exact Aw.none
  | succ n ih =>
    intro w1 x3 x4 h
    show Aw _ _ _ _ _ _ _ _ _ (fL_X8_feed_38 (n + 1) w1 x3 x4 h)
    unfold fL_X8_feed_38
    refine A_iload (pc := 38) (i := 4) dX8_feed_38 rfl ?_
    refine A_iload_n (pc := 40) (i := 3) dX8_feed_40 rfl rfl ?_
    refine A_icmp_ge (pc := 41) (tgt := 81) dX8_feed_41 (by decide) ?_ ?_
    · refine A_aload_n (pc := 81) (i := 0) dX8_feed_81 rfl rfl ?_
      refine A_getI (pc := 82) (k := 26) clX8 (Nat.le_of_ble_eq_true rfl) dX8_feed_82 kF_X8_224 rfl ?_
      exact A_retI rfl dX8_feed_85
    · refine A_aload_n (pc := 44) (i := 0) dX8_feed_44 rfl rfl ?_
      refine A_getS (pc := 45) (k := 25) (tp := 48) clX8 (Nat.le_of_ble_eq_true rfl) dX8_feed_45 kF_X8_70 rfl rfl rfl ?_
      refine A_aload_n (pc := 48) (i := 0) dX8_feed_48 rfl rfl ?_
      refine A_getI (pc := 49) (k := 26) clX8 (Nat.le_of_ble_eq_true rfl) dX8_feed_49 kF_X8_224 rfl ?_
      refine A_lload_n (pc := 52) (i := 1) dX8_feed_52 rfl rfl ?_
      refine A_bipush (pc := 53) (v := (8 : Int32)) dX8_feed_53 (by decide) ?_
      refine A_iload (pc := 55) (i := 4) dX8_feed_55 rfl ?_
      refine A_imul (pc := 57) dX8_feed_57 ?_
      refine A_lshr (pc := 58) dX8_feed_58 ?_
      refine A_ldc2 (pc := 59) (v := (255 : Int64)) dX8_feed_59 kJ_X8_227 ?_
      refine A_land (pc := 62) dX8_feed_62 ?_
      refine A_l2i (pc := 63) dX8_feed_63 ?_
      refine A_iastore (pc := 64) (n := 80) (by decide) (by decide) rfl dX8_feed_64 (by decide) ?_
      refine A_aload_n (pc := 65) (i := 0) dX8_feed_65 rfl rfl ?_
      refine A_dup (pc := 66) dX8_feed_66 (fun _ => cv_catr _ _) ?_
      refine A_getI (pc := 67) (k := 26) clX8 (Nat.le_of_ble_eq_true rfl) dX8_feed_67 kF_X8_224 rfl ?_
      refine A_iconst (pc := 70) (v := (1 : Int32)) dX8_feed_70 (by decide) ?_
      refine A_iadd (pc := 71) dX8_feed_71 ?_
      refine A_putI (pc := 72) (k := 26) clX8 (Nat.le_of_ble_eq_true rfl) dX8_feed_72 kF_X8_224 rfl (Or.inl rfl) ⟨rfl, rfl⟩ ?_
      refine A_iinc (pc := 75) (i := 4) (v := (x4 + 1)) (ls2 := [some (vr 8 (some 0)), some (vl w1), none, some (vi x3), some (vi (x4 + 1))]) dX8_feed_75 rfl rfl (Nat.le_of_ble_eq_true rfl) rfl ?_
      refine A_goto (pc := 78) (tgt := 38) dX8_feed_78 (by decide) ?_
      exact Aw.weak (ls' := [some (vr 8 (some 0)), some (vl w1), none, some (vi x3), some (vi (x4 + 1))]) ⟨rfl, ⟨rfl, ⟨rfl, ⟨rfl, trivial⟩⟩⟩⟩ (ih w1 x3 (x4 + 1) (wI (wI h 48 0 (Int32.toNatClampNeg (gI h 8 0 26)) (Int64.toInt32 ((w1 >>> (Int32.toInt64 ((8 : Int32) * x4) &&& 63)) &&& (255 : Int64)))) 8 0 26 ((gI (wI h 48 0 (Int32.toNatClampNeg (gI h 8 0 26)) (Int64.toInt32 ((w1 >>> (Int32.toInt64 ((8 : Int32) * x4) &&& 63)) &&& (255 : Int64)))) 8 0 26) + (1 : Int32))))
def f_X8_feed (w1 : Int64) (x3 : Int32) (h : Hp) : Option (Int32 × Hp) := ((f_X8_within x3 (1 : Int32) (8 : Int32) h).bind fun r1 => (if r1 = true then (if ((gI h 8 0 26) + x3) ≤ (80 : Int32) then (fL_X8_feed_38 FU w1 x3 (0 : Int32) h) else ((f_X8_finding (-1000002 : Int32) h).bind fun r2 => (some (r2.1, r2.2)))) else ((f_X8_finding (-1000001 : Int32) h).bind fun r3 => (some (r3.1, r3.2)))))
set_option maxRecDepth 100000 in
set_option maxHeartbeats 4000000 in
theorem a_X8_feed (w1 : Int64) (x3 : Int32) (h : Hp) : CtA eI mX8_feed U0 U0 [vr 8 (some 0), vl w1, vi x3] h (f_X8_feed w1 x3 h) := by
  refine Ct.of (ls := [some (vr 8 (some 0)), some (vl w1), none, some (vi x3), none]) (n := 1) (by decide +kernel) rfl rfl rfl ?_
  unfold f_X8_feed
  refine A_iload_n (pc := 0) (i := 3) dX8_feed_0 rfl rfl ?_
  refine A_iconst (pc := 1) (v := (1 : Int32)) dX8_feed_1 (by decide) ?_
  refine A_bipush (pc := 2) (v := (8 : Int32)) dX8_feed_2 (by decide) ?_
  refine A_callS (pc := 4) (M' := mX8_within) (As := [vi x3, vi (1 : Int32), vi (8 : Int32)]) (st := []) (0, 0) (fun r1 => [vi (bi r1)]) (fun _ => h) (a_X8_within x3 (1 : Int32) (8 : Int32) h) kD_X8_within kM_X8_118 kT_X8_within kN_X8 ⟨(Nat.le_of_ble_eq_true rfl), (Nat.le_of_ble_eq_true rfl)⟩ dX8_feed_4 rfl rfl (Nat.le_of_ble_eq_true rfl) (Nat.le_of_ble_eq_true rfl) (Nat.le_of_ble_eq_true rfl) (fun _ => rfl) (fun _ => rfl) (fun r1 => ?_)
  refine A_ifb_ne (pc := 7) (tgt := 17) dX8_feed_7 (by decide) ?_ ?_
  · refine A_aload_n (pc := 17) (i := 0) dX8_feed_17 rfl rfl ?_
    refine A_getI (pc := 18) (k := 26) clX8 (Nat.le_of_ble_eq_true rfl) dX8_feed_18 kF_X8_224 rfl ?_
    refine A_iload_n (pc := 21) (i := 3) dX8_feed_21 rfl rfl ?_
    refine A_iadd (pc := 22) dX8_feed_22 ?_
    refine A_bipush (pc := 23) (v := (80 : Int32)) dX8_feed_23 (by decide) ?_
    refine A_icmp_le (pc := 25) (tgt := 35) dX8_feed_25 (by decide) ?_ ?_
    · refine A_iconst (pc := 35) (v := (0 : Int32)) dX8_feed_35 (by decide) ?_
      refine A_istore (pc := 36) (i := 4) (ls2 := [some (vr 8 (some 0)), some (vl w1), none, some (vi x3), some (vi (0 : Int32))]) dX8_feed_36 (Nat.le_of_ble_eq_true rfl) rfl ?_
      exact Aw.weak (ls' := [some (vr 8 (some 0)), some (vl w1), none, some (vi x3), some (vi (0 : Int32))]) ⟨rfl, ⟨rfl, ⟨rfl, ⟨rfl, trivial⟩⟩⟩⟩ (aL_X8_feed_38 FU w1 x3 (0 : Int32) h)
    · refine A_aload_n (pc := 28) (i := 0) dX8_feed_28 rfl rfl ?_
      refine A_ldc (pc := 29) (v := (-1000002 : Int32)) dX8_feed_29 kK_X8_130 ?_
      refine A_callV (pc := 31) (M' := mX8_finding) (As := [vi (-1000002 : Int32)]) (st := []) (0, 0) (fun r2 => [vi r2.1]) (fun r2 => r2.2) (a_X8_finding (-1000002 : Int32) h) kD_X8_finding kM_X8_126 kI_X8_finding kS_X8_finding kN_X8 ⟨(Nat.le_of_ble_eq_true rfl), (Nat.le_of_ble_eq_true rfl)⟩ dX8_feed_31 rfl rfl rfl (by decide) rfl (Nat.le_of_ble_eq_true rfl) (Nat.le_of_ble_eq_true rfl) (Nat.le_of_ble_eq_true rfl) (fun _ => rfl) (fun _ => rfl) (fun r2 => ?_)
      exact A_retI rfl dX8_feed_34
  · refine A_aload_n (pc := 10) (i := 0) dX8_feed_10 rfl rfl ?_
    refine A_ldc (pc := 11) (v := (-1000001 : Int32)) dX8_feed_11 kK_X8_125 ?_
    refine A_callV (pc := 13) (M' := mX8_finding) (As := [vi (-1000001 : Int32)]) (st := []) (0, 0) (fun r3 => [vi r3.1]) (fun r3 => r3.2) (a_X8_finding (-1000001 : Int32) h) kD_X8_finding kM_X8_126 kI_X8_finding kS_X8_finding kN_X8 ⟨(Nat.le_of_ble_eq_true rfl), (Nat.le_of_ble_eq_true rfl)⟩ dX8_feed_13 rfl rfl rfl (by decide) rfl (Nat.le_of_ble_eq_true rfl) (Nat.le_of_ble_eq_true rfl) (Nat.le_of_ble_eq_true rfl) (fun _ => rfl) (fun _ => rfl) (fun r3 => ?_)
    exact A_retI rfl dX8_feed_16

abbrev mX8_kindBy : MD := (yX8_kindBy, cX8_kindBy, 1, (some .int), { frames := 0, cells := 0, slots := 0, locals := 0 }, none)
theorem kD_X8_kindBy : CodeIn mX8_kindBy 1 := ⟨kC_X8_kindBy, by decide +kernel⟩
def f_X8_kindBy (x0 : Int32) (h : Hp) : Option Int32 := (if x0 = (98 : Int32) then (some (0 : Int32)) else (if x0 = (99 : Int32) then (some (1 : Int32)) else (if x0 = (108 : Int32) then (some (2 : Int32)) else (if x0 = (114 : Int32) then (some (3 : Int32)) else (some (-1 : Int32))))))
set_option maxRecDepth 100000 in
set_option maxHeartbeats 4000000 in
theorem a_X8_kindBy (x0 : Int32) (h : Hp) : CtA (eIr h) mX8_kindBy U0 U0 [vi x0] h (f_X8_kindBy x0 h) := by
  refine Ct.of (ls := [some (vi x0)]) (n := 0) (by decide +kernel) rfl rfl rfl ?_
  unfold f_X8_kindBy
  refine A_iload_n (pc := 0) (i := 0) dX8_kindBy_0 rfl rfl ?_
  refine A_bipush (pc := 1) (v := (98 : Int32)) dX8_kindBy_1 (by decide) ?_
  refine A_icmp_ne (pc := 3) (tgt := 10) dX8_kindBy_3 (by decide) ?_ ?_
  · refine A_iload_n (pc := 10) (i := 0) dX8_kindBy_10 rfl rfl ?_
    refine A_bipush (pc := 11) (v := (99 : Int32)) dX8_kindBy_11 (by decide) ?_
    refine A_icmp_ne (pc := 13) (tgt := 20) dX8_kindBy_13 (by decide) ?_ ?_
    · refine A_iload_n (pc := 20) (i := 0) dX8_kindBy_20 rfl rfl ?_
      refine A_bipush (pc := 21) (v := (108 : Int32)) dX8_kindBy_21 (by decide) ?_
      refine A_icmp_ne (pc := 23) (tgt := 30) dX8_kindBy_23 (by decide) ?_ ?_
      · refine A_iload_n (pc := 30) (i := 0) dX8_kindBy_30 rfl rfl ?_
        refine A_bipush (pc := 31) (v := (114 : Int32)) dX8_kindBy_31 (by decide) ?_
        refine A_icmp_ne (pc := 33) (tgt := 40) dX8_kindBy_33 (by decide) ?_ ?_
        · refine A_iconst (pc := 40) (v := (-1 : Int32)) dX8_kindBy_40 (by decide) ?_
          exact A_retIr rfl dX8_kindBy_41
        · refine A_iconst (pc := 36) (v := (3 : Int32)) dX8_kindBy_36 (by decide) ?_
          refine A_goto (pc := 37) (tgt := 41) dX8_kindBy_37 (by decide) ?_
          exact A_retIr rfl dX8_kindBy_41
      · refine A_iconst (pc := 26) (v := (2 : Int32)) dX8_kindBy_26 (by decide) ?_
        refine A_goto (pc := 27) (tgt := 41) dX8_kindBy_27 (by decide) ?_
        exact A_retIr rfl dX8_kindBy_41
    · refine A_iconst (pc := 16) (v := (1 : Int32)) dX8_kindBy_16 (by decide) ?_
      refine A_goto (pc := 17) (tgt := 41) dX8_kindBy_17 (by decide) ?_
      exact A_retIr rfl dX8_kindBy_41
  · refine A_iconst (pc := 6) (v := (0 : Int32)) dX8_kindBy_6 (by decide) ?_
    refine A_goto (pc := 7) (tgt := 41) dX8_kindBy_7 (by decide) ?_
    exact A_retIr rfl dX8_kindBy_41

abbrev mX8_canStand : MD := (yX8_canStand, cX8_canStand, 3, (some .boolean), { frames := 1, cells := 0, slots := 0, locals := 22 }, none)
theorem kD_X8_canStand : CodeIn mX8_canStand 1 := ⟨kC_X8_canStand, by decide +kernel⟩
def f_X8_canStand (x1 : Int32) (h : Hp) : Option Bool := (if 0 ≤ x1 ∧ x1 < 80 then (lif (x1 - x1 / (7 : Int32) * (7 : Int32)) [((0 : Int32), ((f_X8_kindBy (gI h 48 0 (Int32.toNatClampNeg x1)) h).bind fun r2 => (if r2 < 0 then (some false) else (if (56 : Int32) ≤ x1 then (some false) else (some true))))), ((3 : Int32), (if (gI h 48 0 (Int32.toNatClampNeg x1)) = (58 : Int32) then (some true) else (some false))), ((6 : Int32), (if (gI h 48 0 (Int32.toNatClampNeg x1)) = (59 : Int32) then (some true) else (some false)))] ((f_X8_within (gI h 48 0 (Int32.toNatClampNeg x1)) (48 : Int32) (57 : Int32) h).bind fun r1 => (some r1))) else none)
set_option maxRecDepth 100000 in
set_option maxHeartbeats 4000000 in
theorem a_X8_canStand (x1 : Int32) (h : Hp) : CtA (eBr h) mX8_canStand U0 U0 [vr 8 (some 0), vi x1] h (f_X8_canStand x1 h) := by
  refine Ct.of (ls := [some (vr 8 (some 0)), some (vi x1), none]) (n := 1) (by decide +kernel) rfl rfl rfl ?_
  unfold f_X8_canStand
  refine A_aload_n (pc := 0) (i := 0) dX8_canStand_0 rfl rfl ?_
  refine A_getS (pc := 1) (k := 25) (tp := 48) clX8 (Nat.le_of_ble_eq_true rfl) dX8_canStand_1 kF_X8_70 rfl rfl rfl ?_
  refine A_iload_n (pc := 4) (i := 1) dX8_canStand_4 rfl rfl ?_
  refine A_iaload (pc := 5) (n := 80) (by decide) (by decide) rfl dX8_canStand_5 (by decide) ?_
  refine A_istore_n (pc := 6) (i := 2) (ls2 := [some (vr 8 (some 0)), some (vi x1), some (vi (gI h 48 0 (Int32.toNatClampNeg x1)))]) dX8_canStand_6 rfl (Nat.le_of_ble_eq_true rfl) rfl ?_
  refine A_iload_n (pc := 7) (i := 1) dX8_canStand_7 rfl rfl ?_
  refine A_bipush (pc := 8) (v := (7 : Int32)) dX8_canStand_8 (by decide) ?_
  refine A_irem (pc := 10) dX8_canStand_10 (by decide) ?_
  refine A_lookup (pc := 11) (tgt := 87) dX8_canStand_11 (by decide) (by decide) ?_ (LwL_c 44 (by decide) (by decide) ?_ (LwL_c 63 (by decide) (by decide) ?_ (LwL_c 75 (by decide) (by decide) ?_ LwL_n)))
  · refine A_iload_n (pc := 87) (i := 2) dX8_canStand_87 rfl rfl ?_
    refine A_bipush (pc := 88) (v := (48 : Int32)) dX8_canStand_88 (by decide) ?_
    refine A_bipush (pc := 90) (v := (57 : Int32)) dX8_canStand_90 (by decide) ?_
    refine A_callS (pc := 92) (M' := mX8_within) (As := [vi (gI h 48 0 (Int32.toNatClampNeg x1)), vi (48 : Int32), vi (57 : Int32)]) (st := []) (0, 0) (fun r1 => [vi (bi r1)]) (fun _ => h) (a_X8_within (gI h 48 0 (Int32.toNatClampNeg x1)) (48 : Int32) (57 : Int32) h) kD_X8_within kM_X8_118 kT_X8_within kN_X8 ⟨(Nat.le_of_ble_eq_true rfl), (Nat.le_of_ble_eq_true rfl)⟩ dX8_canStand_92 rfl rfl (Nat.le_of_ble_eq_true rfl) (Nat.le_of_ble_eq_true rfl) (Nat.le_of_ble_eq_true rfl) (fun _ => rfl) (fun _ => rfl) (fun r1 => ?_)
    exact A_retBr rfl rfl dX8_canStand_95
  · refine A_iload_n (pc := 44) (i := 2) dX8_canStand_44 rfl rfl ?_
    refine A_callS (pc := 45) (M' := mX8_kindBy) (As := [vi (gI h 48 0 (Int32.toNatClampNeg x1))]) (st := []) (0, 0) (fun r2 => [vi r2]) (fun _ => h) (a_X8_kindBy (gI h 48 0 (Int32.toNatClampNeg x1)) h) kD_X8_kindBy kM_X8_229 kT_X8_kindBy kN_X8 ⟨(Nat.le_of_ble_eq_true rfl), (Nat.le_of_ble_eq_true rfl)⟩ dX8_canStand_45 rfl rfl (Nat.le_of_ble_eq_true rfl) (Nat.le_of_ble_eq_true rfl) (Nat.le_of_ble_eq_true rfl) (fun _ => rfl) (fun _ => rfl) (fun r2 => ?_)
    refine A_if_lt (pc := 48) (tgt := 61) dX8_canStand_48 (by decide) ?_ ?_
    · refine A_iconst (pc := 61) (v := (0 : Int32)) dX8_canStand_61 (by decide) ?_
      exact A_retBr rfl rfl dX8_canStand_62
    · refine A_iload_n (pc := 51) (i := 1) dX8_canStand_51 rfl rfl ?_
      refine A_bipush (pc := 52) (v := (56 : Int32)) dX8_canStand_52 (by decide) ?_
      refine A_icmp_ge (pc := 54) (tgt := 61) dX8_canStand_54 (by decide) ?_ ?_
      · refine A_iconst (pc := 61) (v := (0 : Int32)) dX8_canStand_61 (by decide) ?_
        exact A_retBr rfl rfl dX8_canStand_62
      · refine A_iconst (pc := 57) (v := (1 : Int32)) dX8_canStand_57 (by decide) ?_
        refine A_goto (pc := 58) (tgt := 62) dX8_canStand_58 (by decide) ?_
        exact A_retBr rfl rfl dX8_canStand_62
  · refine A_iload_n (pc := 63) (i := 2) dX8_canStand_63 rfl rfl ?_
    refine A_bipush (pc := 64) (v := (58 : Int32)) dX8_canStand_64 (by decide) ?_
    refine A_icmp_ne (pc := 66) (tgt := 73) dX8_canStand_66 (by decide) ?_ ?_
    · refine A_iconst (pc := 73) (v := (0 : Int32)) dX8_canStand_73 (by decide) ?_
      exact A_retBr rfl rfl dX8_canStand_74
    · refine A_iconst (pc := 69) (v := (1 : Int32)) dX8_canStand_69 (by decide) ?_
      refine A_goto (pc := 70) (tgt := 74) dX8_canStand_70 (by decide) ?_
      exact A_retBr rfl rfl dX8_canStand_74
  · refine A_iload_n (pc := 75) (i := 2) dX8_canStand_75 rfl rfl ?_
    refine A_bipush (pc := 76) (v := (59 : Int32)) dX8_canStand_76 (by decide) ?_
    refine A_icmp_ne (pc := 78) (tgt := 85) dX8_canStand_78 (by decide) ?_ ?_
    · refine A_iconst (pc := 85) (v := (0 : Int32)) dX8_canStand_85 (by decide) ?_
      exact A_retBr rfl rfl dX8_canStand_86
    · refine A_iconst (pc := 81) (v := (1 : Int32)) dX8_canStand_81 (by decide) ?_
      refine A_goto (pc := 82) (tgt := 86) dX8_canStand_82 (by decide) ?_
      exact A_retBr rfl rfl dX8_canStand_86

abbrev mX8_twoDigits : MD := (yX8_twoDigits, cX8_twoDigits, 2, (some .int), { frames := 0, cells := 0, slots := 0, locals := 0 }, none)
theorem kD_X8_twoDigits : CodeIn mX8_twoDigits 1 := ⟨kC_X8_twoDigits, by decide +kernel⟩
def f_X8_twoDigits (x1 : Int32) (h : Hp) : Option Int32 := (if 0 ≤ x1 ∧ x1 < 80 then (if 0 ≤ (x1 + (1 : Int32)) ∧ (x1 + (1 : Int32)) < 80 then (some ((((10 : Int32) * ((gI h 48 0 (Int32.toNatClampNeg x1)) - (48 : Int32))) + (gI h 48 0 (Int32.toNatClampNeg (x1 + (1 : Int32))))) - (48 : Int32))) else none) else none)
set_option maxRecDepth 100000 in
set_option maxHeartbeats 4000000 in
theorem a_X8_twoDigits (x1 : Int32) (h : Hp) : CtA (eIr h) mX8_twoDigits U0 U0 [vr 8 (some 0), vi x1] h (f_X8_twoDigits x1 h) := by
  refine Ct.of (ls := [some (vr 8 (some 0)), some (vi x1)]) (n := 0) (by decide +kernel) rfl rfl rfl ?_
  unfold f_X8_twoDigits
  refine A_bipush (pc := 0) (v := (10 : Int32)) dX8_twoDigits_0 (by decide) ?_
  refine A_aload_n (pc := 2) (i := 0) dX8_twoDigits_2 rfl rfl ?_
  refine A_getS (pc := 3) (k := 25) (tp := 48) clX8 (Nat.le_of_ble_eq_true rfl) dX8_twoDigits_3 kF_X8_70 rfl rfl rfl ?_
  refine A_iload_n (pc := 6) (i := 1) dX8_twoDigits_6 rfl rfl ?_
  refine A_iaload (pc := 7) (n := 80) (by decide) (by decide) rfl dX8_twoDigits_7 (by decide) ?_
  refine A_bipush (pc := 8) (v := (48 : Int32)) dX8_twoDigits_8 (by decide) ?_
  refine A_isub (pc := 10) dX8_twoDigits_10 ?_
  refine A_imul (pc := 11) dX8_twoDigits_11 ?_
  refine A_aload_n (pc := 12) (i := 0) dX8_twoDigits_12 rfl rfl ?_
  refine A_getS (pc := 13) (k := 25) (tp := 48) clX8 (Nat.le_of_ble_eq_true rfl) dX8_twoDigits_13 kF_X8_70 rfl rfl rfl ?_
  refine A_iload_n (pc := 16) (i := 1) dX8_twoDigits_16 rfl rfl ?_
  refine A_iconst (pc := 17) (v := (1 : Int32)) dX8_twoDigits_17 (by decide) ?_
  refine A_iadd (pc := 18) dX8_twoDigits_18 ?_
  refine A_iaload (pc := 19) (n := 80) (by decide) (by decide) rfl dX8_twoDigits_19 (by decide) ?_
  refine A_iadd (pc := 20) dX8_twoDigits_20 ?_
  refine A_bipush (pc := 21) (v := (48 : Int32)) dX8_twoDigits_21 (by decide) ?_
  refine A_isub (pc := 23) dX8_twoDigits_23 ?_
  exact A_retIr rfl dX8_twoDigits_24

abbrev mX8_text : MD := (yX8_text, cX8_text, 3, (some .int), { frames := 2, cells := 0, slots := 0, locals := 44 }, none)
theorem kD_X8_text : CodeIn mX8_text 0 := ⟨kC_X8_text, by decide +kernel⟩
def fL_X8_text_66 : Nat → Int32 → Hp → Option (Int32 × Hp)
  | 0, _, _ => none
  | n + 1, x2, h => (if (gI h 8 0 21) ≤ x2 then (some ((gI h 8 0 21), h)) else (if 0 ≤ ((7 : Int32) * x2) ∧ ((7 : Int32) * x2) < 80 then ((f_X8_kindBy (gI h 48 0 (Int32.toNatClampNeg ((7 : Int32) * x2))) h).bind fun r1 => (if 0 ≤ x2 ∧ x2 < 8 then ((f_X8_twoDigits (((7 : Int32) * x2) + (1 : Int32)) (wI h 45 0 (Int32.toNatClampNeg x2) r1)).bind fun r2 => (if 0 ≤ x2 ∧ x2 < 8 then ((f_X8_twoDigits (((7 : Int32) * x2) + (4 : Int32)) (wI (wI h 45 0 (Int32.toNatClampNeg x2) r1) 46 0 (Int32.toNatClampNeg x2) r2)).bind fun r3 => (if 0 ≤ x2 ∧ x2 < 8 then ((fL_X8_text_66 n) (x2 + 1) (wI (wI (wI h 45 0 (Int32.toNatClampNeg x2) r1) 46 0 (Int32.toNatClampNeg x2) r2) 47 0 (Int32.toNatClampNeg x2) r3)) else none)) else none)) else none)) else none))
set_option maxRecDepth 100000 in
set_option maxHeartbeats 4000000 in
theorem aL_X8_text_66 : ∀ (n : Nat) (x2 : Int32) (h : Hp), Aw eI U0 mX8_text (0, 0) U0 66 [some (vr 8 (some 0)), none, some (vi x2)] [] h (fL_X8_text_66 n x2 h) := by
  intro n
  induction n with
  | zero =>
    intro x2 h
    exact Aw.none
  | succ n ih =>
    intro x2 h
    show Aw _ _ _ _ _ _ _ _ _ (fL_X8_text_66 (n + 1) x2 h)
    unfold fL_X8_text_66
    refine A_iload_n (pc := 66) (i := 2) dX8_text_66 rfl rfl ?_
    refine A_aload_n (pc := 67) (i := 0) dX8_text_67 rfl rfl ?_
    refine A_getI (pc := 68) (k := 21) clX8 (Nat.le_of_ble_eq_true rfl) dX8_text_68 kF_X8_236 rfl ?_
    refine A_icmp_ge (pc := 71) (tgt := 130) dX8_text_71 (by decide) ?_ ?_
    · refine A_aload_n (pc := 130) (i := 0) dX8_text_130 rfl rfl ?_
      refine A_getI (pc := 131) (k := 21) clX8 (Nat.le_of_ble_eq_true rfl) dX8_text_131 kF_X8_236 rfl ?_
      exact A_retI rfl dX8_text_134
    · refine A_aload_n (pc := 74) (i := 0) dX8_text_74 rfl rfl ?_
      refine A_getS (pc := 75) (k := 22) (tp := 45) clX8 (Nat.le_of_ble_eq_true rfl) dX8_text_75 kF_X8_61 rfl rfl rfl ?_
      refine A_iload_n (pc := 78) (i := 2) dX8_text_78 rfl rfl ?_
      refine A_aload_n (pc := 79) (i := 0) dX8_text_79 rfl rfl ?_
      refine A_getS (pc := 80) (k := 25) (tp := 48) clX8 (Nat.le_of_ble_eq_true rfl) dX8_text_80 kF_X8_70 rfl rfl rfl ?_
      refine A_bipush (pc := 83) (v := (7 : Int32)) dX8_text_83 (by decide) ?_
      refine A_iload_n (pc := 85) (i := 2) dX8_text_85 rfl rfl ?_
      refine A_imul (pc := 86) dX8_text_86 ?_
      refine A_iaload (pc := 87) (n := 80) (by decide) (by decide) rfl dX8_text_87 (by decide) ?_
      refine A_callS (pc := 88) (M' := mX8_kindBy) (As := [vi (gI h 48 0 (Int32.toNatClampNeg ((7 : Int32) * x2)))]) (st := [vi x2, vr 45 (some 0)]) (0, 0) (fun r1 => [vi r1, vi x2, vr 45 (some 0)]) (fun _ => h) (a_X8_kindBy (gI h 48 0 (Int32.toNatClampNeg ((7 : Int32) * x2))) h) kD_X8_kindBy kM_X8_229 kT_X8_kindBy kN_X8 ⟨(Nat.le_of_ble_eq_true rfl), (Nat.le_of_ble_eq_true rfl)⟩ dX8_text_88 rfl rfl (Nat.le_of_ble_eq_true rfl) (Nat.le_of_ble_eq_true rfl) (Nat.le_of_ble_eq_true rfl) (fun _ => rfl) (fun _ => rfl) (fun r1 => ?_)
      refine A_iastore (pc := 91) (n := 8) (by decide) (by decide) rfl dX8_text_91 (by decide) ?_
      refine A_aload_n (pc := 92) (i := 0) dX8_text_92 rfl rfl ?_
      refine A_getS (pc := 93) (k := 23) (tp := 46) clX8 (Nat.le_of_ble_eq_true rfl) dX8_text_93 kF_X8_64 rfl rfl rfl ?_
      refine A_iload_n (pc := 96) (i := 2) dX8_text_96 rfl rfl ?_
      refine A_aload_n (pc := 97) (i := 0) dX8_text_97 rfl rfl ?_
      refine A_bipush (pc := 98) (v := (7 : Int32)) dX8_text_98 (by decide) ?_
      refine A_iload_n (pc := 100) (i := 2) dX8_text_100 rfl rfl ?_
      refine A_imul (pc := 101) dX8_text_101 ?_
      refine A_iconst (pc := 102) (v := (1 : Int32)) dX8_text_102 (by decide) ?_
      refine A_iadd (pc := 103) dX8_text_103 ?_
      refine A_callV (pc := 104) (M' := mX8_twoDigits) (As := [vi (((7 : Int32) * x2) + (1 : Int32))]) (st := [vi x2, vr 46 (some 0)]) (0, 0) (fun r2 => [vi r2, vi x2, vr 46 (some 0)]) (fun _ => (wI h 45 0 (Int32.toNatClampNeg x2) r1)) (a_X8_twoDigits (((7 : Int32) * x2) + (1 : Int32)) (wI h 45 0 (Int32.toNatClampNeg x2) r1)) kD_X8_twoDigits kM_X8_239 kI_X8_twoDigits kS_X8_twoDigits kN_X8 ⟨(Nat.le_of_ble_eq_true rfl), (Nat.le_of_ble_eq_true rfl)⟩ dX8_text_104 rfl rfl rfl (by decide) rfl (Nat.le_of_ble_eq_true rfl) (Nat.le_of_ble_eq_true rfl) (Nat.le_of_ble_eq_true rfl) (fun _ => rfl) (fun _ => rfl) (fun r2 => ?_)
      refine A_iastore (pc := 107) (n := 8) (by decide) (by decide) rfl dX8_text_107 (by decide) ?_
      refine A_aload_n (pc := 108) (i := 0) dX8_text_108 rfl rfl ?_
      refine A_getS (pc := 109) (k := 24) (tp := 47) clX8 (Nat.le_of_ble_eq_true rfl) dX8_text_109 kF_X8_67 rfl rfl rfl ?_
      refine A_iload_n (pc := 112) (i := 2) dX8_text_112 rfl rfl ?_
      refine A_aload_n (pc := 113) (i := 0) dX8_text_113 rfl rfl ?_
      refine A_bipush (pc := 114) (v := (7 : Int32)) dX8_text_114 (by decide) ?_
      refine A_iload_n (pc := 116) (i := 2) dX8_text_116 rfl rfl ?_
      refine A_imul (pc := 117) dX8_text_117 ?_
      refine A_iconst (pc := 118) (v := (4 : Int32)) dX8_text_118 (by decide) ?_
      refine A_iadd (pc := 119) dX8_text_119 ?_
      refine A_callV (pc := 120) (M' := mX8_twoDigits) (As := [vi (((7 : Int32) * x2) + (4 : Int32))]) (st := [vi x2, vr 47 (some 0)]) (0, 0) (fun r3 => [vi r3, vi x2, vr 47 (some 0)]) (fun _ => (wI (wI h 45 0 (Int32.toNatClampNeg x2) r1) 46 0 (Int32.toNatClampNeg x2) r2)) (a_X8_twoDigits (((7 : Int32) * x2) + (4 : Int32)) (wI (wI h 45 0 (Int32.toNatClampNeg x2) r1) 46 0 (Int32.toNatClampNeg x2) r2)) kD_X8_twoDigits kM_X8_239 kI_X8_twoDigits kS_X8_twoDigits kN_X8 ⟨(Nat.le_of_ble_eq_true rfl), (Nat.le_of_ble_eq_true rfl)⟩ dX8_text_120 rfl rfl rfl (by decide) rfl (Nat.le_of_ble_eq_true rfl) (Nat.le_of_ble_eq_true rfl) (Nat.le_of_ble_eq_true rfl) (fun _ => rfl) (fun _ => rfl) (fun r3 => ?_)
      refine A_iastore (pc := 123) (n := 8) (by decide) (by decide) rfl dX8_text_123 (by decide) ?_
      refine A_iinc (pc := 124) (i := 2) (v := (x2 + 1)) (ls2 := [some (vr 8 (some 0)), none, some (vi (x2 + 1))]) dX8_text_124 rfl rfl (Nat.le_of_ble_eq_true rfl) rfl ?_
      refine A_goto (pc := 127) (tgt := 66) dX8_text_127 (by decide) ?_
      exact Aw.weak (ls' := [some (vr 8 (some 0)), none, some (vi (x2 + 1))]) ⟨rfl, ⟨rfl, trivial⟩⟩ (ih (x2 + 1) (wI (wI (wI h 45 0 (Int32.toNatClampNeg x2) r1) 46 0 (Int32.toNatClampNeg x2) r2) 47 0 (Int32.toNatClampNeg x2) r3))
def fL_X8_text_12 : Nat → Int32 → Int32 → Hp → Option (Int32 × Hp)
  | 0, _, _, _ => none
  | n + 1, x1, x2, h => (if x1 ≤ x2 then (if (x1 - x1 / (7 : Int32) * (7 : Int32)) = 0 then (fL_X8_text_66 FU (0 : Int32) (wI h 8 0 21 (x1 / (7 : Int32)))) else ((f_X8_finding ((-1000100 : Int32) - x1) h).bind fun r4 => (some (r4.1, r4.2)))) else ((f_X8_canStand x2 h).bind fun r5 => (if r5 = true then ((fL_X8_text_12 n) x1 (x2 + 1) h) else ((f_X8_finding ((-1000100 : Int32) - x2) h).bind fun r6 => (some (r6.1, r6.2))))))
set_option maxRecDepth 100000 in
set_option maxHeartbeats 4000000 in
theorem aL_X8_text_12 : ∀ (n : Nat) (x1 : Int32) (x2 : Int32) (h : Hp), Aw eI U0 mX8_text (0, 0) U0 12 [some (vr 8 (some 0)), some (vi x1), some (vi x2)] [] h (fL_X8_text_12 n x1 x2 h) := by
  intro n
  induction n with
  | zero =>
    intro x1 x2 h
    exact Aw.none
  | succ n ih =>
    intro x1 x2 h
    show Aw _ _ _ _ _ _ _ _ _ (fL_X8_text_12 (n + 1) x1 x2 h)
    unfold fL_X8_text_12
    refine A_iload_n (pc := 12) (i := 2) dX8_text_12 rfl rfl ?_
    refine A_iload_n (pc := 13) (i := 1) dX8_text_13 rfl rfl ?_
    refine A_icmp_ge (pc := 14) (tgt := 40) dX8_text_14 (by decide) ?_ ?_
    · refine A_iload_n (pc := 40) (i := 1) dX8_text_40 rfl rfl ?_
      refine A_bipush (pc := 41) (v := (7 : Int32)) dX8_text_41 (by decide) ?_
      refine A_irem (pc := 43) dX8_text_43 (by decide) ?_
      refine A_if_eq (pc := 44) (tgt := 56) dX8_text_44 (by decide) ?_ ?_
      · refine A_aload_n (pc := 56) (i := 0) dX8_text_56 rfl rfl ?_
        refine A_iload_n (pc := 57) (i := 1) dX8_text_57 rfl rfl ?_
        refine A_bipush (pc := 58) (v := (7 : Int32)) dX8_text_58 (by decide) ?_
        refine A_idiv (pc := 60) dX8_text_60 (by decide) ?_
        refine A_putI (pc := 61) (k := 21) clX8 (Nat.le_of_ble_eq_true rfl) dX8_text_61 kF_X8_236 rfl (Or.inl rfl) ⟨rfl, rfl⟩ ?_
        refine A_iconst (pc := 64) (v := (0 : Int32)) dX8_text_64 (by decide) ?_
        refine A_istore_n (pc := 65) (i := 2) (ls2 := [some (vr 8 (some 0)), some (vi x1), some (vi (0 : Int32))]) dX8_text_65 rfl (Nat.le_of_ble_eq_true rfl) rfl ?_
        exact Aw.weak (ls' := [some (vr 8 (some 0)), none, some (vi (0 : Int32))]) ⟨rfl, ⟨rfl, trivial⟩⟩ (aL_X8_text_66 FU (0 : Int32) (wI h 8 0 21 (x1 / (7 : Int32))))
      · refine A_aload_n (pc := 47) (i := 0) dX8_text_47 rfl rfl ?_
        refine A_ldc (pc := 48) (v := (-1000100 : Int32)) dX8_text_48 kK_X8_235 ?_
        refine A_iload_n (pc := 50) (i := 1) dX8_text_50 rfl rfl ?_
        refine A_isub (pc := 51) dX8_text_51 ?_
        refine A_callV (pc := 52) (M' := mX8_finding) (As := [vi ((-1000100 : Int32) - x1)]) (st := []) (0, 0) (fun r4 => [vi r4.1]) (fun r4 => r4.2) (a_X8_finding ((-1000100 : Int32) - x1) h) kD_X8_finding kM_X8_126 kI_X8_finding kS_X8_finding kN_X8 ⟨(Nat.le_of_ble_eq_true rfl), (Nat.le_of_ble_eq_true rfl)⟩ dX8_text_52 rfl rfl rfl (by decide) rfl (Nat.le_of_ble_eq_true rfl) (Nat.le_of_ble_eq_true rfl) (Nat.le_of_ble_eq_true rfl) (fun _ => rfl) (fun _ => rfl) (fun r4 => ?_)
        exact A_retI rfl dX8_text_55
    · refine A_aload_n (pc := 17) (i := 0) dX8_text_17 rfl rfl ?_
      refine A_iload_n (pc := 18) (i := 2) dX8_text_18 rfl rfl ?_
      refine A_callV (pc := 19) (M' := mX8_canStand) (As := [vi x2]) (st := []) (0, 0) (fun r5 => [vi (bi r5)]) (fun _ => h) (a_X8_canStand x2 h) kD_X8_canStand kM_X8_232 kI_X8_canStand kS_X8_canStand kN_X8 ⟨(Nat.le_of_ble_eq_true rfl), (Nat.le_of_ble_eq_true rfl)⟩ dX8_text_19 rfl rfl rfl (by decide) rfl (Nat.le_of_ble_eq_true rfl) (Nat.le_of_ble_eq_true rfl) (Nat.le_of_ble_eq_true rfl) (fun _ => rfl) (fun _ => rfl) (fun r5 => ?_)
      refine A_ifb_ne (pc := 22) (tgt := 34) dX8_text_22 (by decide) ?_ ?_
      · refine A_iinc (pc := 34) (i := 2) (v := (x2 + 1)) (ls2 := [some (vr 8 (some 0)), some (vi x1), some (vi (x2 + 1))]) dX8_text_34 rfl rfl (Nat.le_of_ble_eq_true rfl) rfl ?_
        refine A_goto (pc := 37) (tgt := 12) dX8_text_37 (by decide) ?_
        exact Aw.weak (ls' := [some (vr 8 (some 0)), some (vi x1), some (vi (x2 + 1))]) ⟨rfl, ⟨rfl, ⟨rfl, trivial⟩⟩⟩ (ih x1 (x2 + 1) h)
      · refine A_aload_n (pc := 25) (i := 0) dX8_text_25 rfl rfl ?_
        refine A_ldc (pc := 26) (v := (-1000100 : Int32)) dX8_text_26 kK_X8_235 ?_
        refine A_iload_n (pc := 28) (i := 2) dX8_text_28 rfl rfl ?_
        refine A_isub (pc := 29) dX8_text_29 ?_
        refine A_callV (pc := 30) (M' := mX8_finding) (As := [vi ((-1000100 : Int32) - x2)]) (st := []) (0, 0) (fun r6 => [vi r6.1]) (fun r6 => r6.2) (a_X8_finding ((-1000100 : Int32) - x2) h) kD_X8_finding kM_X8_126 kI_X8_finding kS_X8_finding kN_X8 ⟨(Nat.le_of_ble_eq_true rfl), (Nat.le_of_ble_eq_true rfl)⟩ dX8_text_30 rfl rfl rfl (by decide) rfl (Nat.le_of_ble_eq_true rfl) (Nat.le_of_ble_eq_true rfl) (Nat.le_of_ble_eq_true rfl) (fun _ => rfl) (fun _ => rfl) (fun r6 => ?_)
        exact A_retI rfl dX8_text_33
def f_X8_text (h : Hp) : Option (Int32 × Hp) := (fL_X8_text_12 FU (gI h 8 0 26) (0 : Int32) (wI h 8 0 26 (0 : Int32)))
set_option maxRecDepth 100000 in
set_option maxHeartbeats 4000000 in
theorem a_X8_text (h : Hp) : CtA eI mX8_text U0 U0 [vr 8 (some 0)] h (f_X8_text h) := by
  refine Ct.of (ls := [some (vr 8 (some 0)), none, none]) (n := 2) (by decide +kernel) rfl rfl rfl ?_
  unfold f_X8_text
  refine A_aload_n (pc := 0) (i := 0) dX8_text_0 rfl rfl ?_
  refine A_getI (pc := 1) (k := 26) clX8 (Nat.le_of_ble_eq_true rfl) dX8_text_1 kF_X8_224 rfl ?_
  refine A_istore_n (pc := 4) (i := 1) (ls2 := [some (vr 8 (some 0)), some (vi (gI h 8 0 26)), none]) dX8_text_4 rfl (Nat.le_of_ble_eq_true rfl) rfl ?_
  refine A_aload_n (pc := 5) (i := 0) dX8_text_5 rfl rfl ?_
  refine A_iconst (pc := 6) (v := (0 : Int32)) dX8_text_6 (by decide) ?_
  refine A_putI (pc := 7) (k := 26) clX8 (Nat.le_of_ble_eq_true rfl) dX8_text_7 kF_X8_224 rfl (Or.inl rfl) ⟨rfl, rfl⟩ ?_
  refine A_iconst (pc := 10) (v := (0 : Int32)) dX8_text_10 (by decide) ?_
  refine A_istore_n (pc := 11) (i := 2) (ls2 := [some (vr 8 (some 0)), some (vi (gI h 8 0 26)), some (vi (0 : Int32))]) dX8_text_11 rfl (Nat.le_of_ble_eq_true rfl) rfl ?_
  exact Aw.weak (ls' := [some (vr 8 (some 0)), some (vi (gI h 8 0 26)), some (vi (0 : Int32))]) ⟨rfl, ⟨rfl, ⟨rfl, trivial⟩⟩⟩ (aL_X8_text_12 FU (gI h 8 0 26) (0 : Int32) (wI h 8 0 26 (0 : Int32)))

abbrev mX8_due : MD := (yX8_due, cX8_due, 4, (some .int), { frames := 2, cells := 0, slots := 0, locals := 43 }, none)
theorem kD_X8_due : CodeIn mX8_due 2 := ⟨kC_X8_due, by decide +kernel⟩
def fL_X8_due_27 : Nat → Int32 → Int32 → Int32 → Hp → Option (Int32 × Hp)
  | 0, _, _, _, _ => none
  | n + 1, x1, x2, x3, h => (if (gI h 8 0 21) ≤ x3 then ((f_X8_finding (-1000004 : Int32) h).bind fun r4 => (some (r4.1, r4.2))) else (if 0 ≤ x1 ∧ x1 < 8 then (if 0 ≤ x3 ∧ x3 < 8 then ((f_X8_isUnder (gI h 34 0 (Int32.toNatClampNeg x1)) (gI h 45 0 (Int32.toNatClampNeg x3)) h).bind fun r5 => (if r5 = true then (if 0 ≤ x3 ∧ x3 < 8 then (if 0 ≤ x1 ∧ x1 < 8 then (if (gI h 46 0 (Int32.toNatClampNeg x3)) < (gI h 35 0 (Int32.toNatClampNeg x1)) then ((fL_X8_due_27 n) x1 x2 (x3 + 1) h) else (if 0 ≤ x3 ∧ x3 < 8 then (if 0 ≤ x1 ∧ x1 < 8 then (some ((((gI h 47 0 (Int32.toNatClampNeg x3)) * (gI h 35 0 (Int32.toNatClampNeg x1))) * x2), h)) else none) else none)) else none) else none) else ((fL_X8_due_27 n) x1 x2 (x3 + 1) h))) else none) else none))
set_option maxRecDepth 100000 in
set_option maxHeartbeats 4000000 in
theorem aL_X8_due_27 : ∀ (n : Nat) (x1 : Int32) (x2 : Int32) (x3 : Int32) (h : Hp), Aw eI U0 mX8_due (0, 0) U0 27 [some (vr 8 (some 0)), some (vi x1), some (vi x2), some (vi x3)] [] h (fL_X8_due_27 n x1 x2 x3 h) := by
  intro n
  induction n with
  | zero =>
    intro x1 x2 x3 h
    exact Aw.none
  | succ n ih =>
    intro x1 x2 x3 h
    show Aw _ _ _ _ _ _ _ _ _ (fL_X8_due_27 (n + 1) x1 x2 x3 h)
    unfold fL_X8_due_27
    refine A_iload_n (pc := 27) (i := 3) dX8_due_27 rfl rfl ?_
    refine A_aload_n (pc := 28) (i := 0) dX8_due_28 rfl rfl ?_
    refine A_getI (pc := 29) (k := 21) clX8 (Nat.le_of_ble_eq_true rfl) dX8_due_29 kF_X8_236 rfl ?_
    refine A_icmp_ge (pc := 32) (tgt := 90) dX8_due_32 (by decide) ?_ ?_
    · refine A_aload_n (pc := 90) (i := 0) dX8_due_90 rfl rfl ?_
      refine A_ldc (pc := 91) (v := (-1000004 : Int32)) dX8_due_91 kK_X8_181 ?_
      refine A_callV (pc := 93) (M' := mX8_finding) (As := [vi (-1000004 : Int32)]) (st := []) (0, 0) (fun r4 => [vi r4.1]) (fun r4 => r4.2) (a_X8_finding (-1000004 : Int32) h) kD_X8_finding kM_X8_126 kI_X8_finding kS_X8_finding kN_X8 ⟨(Nat.le_of_ble_eq_true rfl), (Nat.le_of_ble_eq_true rfl)⟩ dX8_due_93 rfl rfl rfl (by decide) rfl (Nat.le_of_ble_eq_true rfl) (Nat.le_of_ble_eq_true rfl) (Nat.le_of_ble_eq_true rfl) (fun _ => rfl) (fun _ => rfl) (fun r4 => ?_)
      exact A_retI rfl dX8_due_96
    · refine A_aload_n (pc := 35) (i := 0) dX8_due_35 rfl rfl ?_
      refine A_getS (pc := 36) (k := 7) (tp := 34) clX8 (Nat.le_of_ble_eq_true rfl) dX8_due_36 kF_X8_22 rfl rfl rfl ?_
      refine A_iload_n (pc := 39) (i := 1) dX8_due_39 rfl rfl ?_
      refine A_iaload (pc := 40) (n := 8) (by decide) (by decide) rfl dX8_due_40 (by decide) ?_
      refine A_aload_n (pc := 41) (i := 0) dX8_due_41 rfl rfl ?_
      refine A_getS (pc := 42) (k := 22) (tp := 45) clX8 (Nat.le_of_ble_eq_true rfl) dX8_due_42 kF_X8_61 rfl rfl rfl ?_
      refine A_iload_n (pc := 45) (i := 3) dX8_due_45 rfl rfl ?_
      refine A_iaload (pc := 46) (n := 8) (by decide) (by decide) rfl dX8_due_46 (by decide) ?_
      refine A_callS (pc := 47) (M' := mX8_isUnder) (As := [vi (gI h 34 0 (Int32.toNatClampNeg x1)), vi (gI h 45 0 (Int32.toNatClampNeg x3))]) (st := []) (0, 0) (fun r5 => [vi (bi r5)]) (fun _ => h) (a_X8_isUnder (gI h 34 0 (Int32.toNatClampNeg x1)) (gI h 45 0 (Int32.toNatClampNeg x3)) h) kD_X8_isUnder kM_X8_141 kT_X8_isUnder kN_X8 ⟨(Nat.le_of_ble_eq_true rfl), (Nat.le_of_ble_eq_true rfl)⟩ dX8_due_47 rfl rfl (Nat.le_of_ble_eq_true rfl) (Nat.le_of_ble_eq_true rfl) (Nat.le_of_ble_eq_true rfl) (fun _ => rfl) (fun _ => rfl) (fun r5 => ?_)
      refine A_ifb_eq (pc := 50) (tgt := 84) dX8_due_50 (by decide) ?_ ?_
      · refine A_iinc (pc := 84) (i := 3) (v := (x3 + 1)) (ls2 := [some (vr 8 (some 0)), some (vi x1), some (vi x2), some (vi (x3 + 1))]) dX8_due_84 rfl rfl (Nat.le_of_ble_eq_true rfl) rfl ?_
        refine A_goto (pc := 87) (tgt := 27) dX8_due_87 (by decide) ?_
        exact Aw.weak (ls' := [some (vr 8 (some 0)), some (vi x1), some (vi x2), some (vi (x3 + 1))]) ⟨rfl, ⟨rfl, ⟨rfl, ⟨rfl, trivial⟩⟩⟩⟩ (ih x1 x2 (x3 + 1) h)
      · refine A_aload_n (pc := 53) (i := 0) dX8_due_53 rfl rfl ?_
        refine A_getS (pc := 54) (k := 23) (tp := 46) clX8 (Nat.le_of_ble_eq_true rfl) dX8_due_54 kF_X8_64 rfl rfl rfl ?_
        refine A_iload_n (pc := 57) (i := 3) dX8_due_57 rfl rfl ?_
        refine A_iaload (pc := 58) (n := 8) (by decide) (by decide) rfl dX8_due_58 (by decide) ?_
        refine A_aload_n (pc := 59) (i := 0) dX8_due_59 rfl rfl ?_
        refine A_getS (pc := 60) (k := 8) (tp := 35) clX8 (Nat.le_of_ble_eq_true rfl) dX8_due_60 kF_X8_25 rfl rfl rfl ?_
        refine A_iload_n (pc := 63) (i := 1) dX8_due_63 rfl rfl ?_
        refine A_iaload (pc := 64) (n := 8) (by decide) (by decide) rfl dX8_due_64 (by decide) ?_
        refine A_icmp_lt (pc := 65) (tgt := 84) dX8_due_65 (by decide) ?_ ?_
        · refine A_iinc (pc := 84) (i := 3) (v := (x3 + 1)) (ls2 := [some (vr 8 (some 0)), some (vi x1), some (vi x2), some (vi (x3 + 1))]) dX8_due_84 rfl rfl (Nat.le_of_ble_eq_true rfl) rfl ?_
          refine A_goto (pc := 87) (tgt := 27) dX8_due_87 (by decide) ?_
          exact Aw.weak (ls' := [some (vr 8 (some 0)), some (vi x1), some (vi x2), some (vi (x3 + 1))]) ⟨rfl, ⟨rfl, ⟨rfl, ⟨rfl, trivial⟩⟩⟩⟩ (ih x1 x2 (x3 + 1) h)
        · refine A_aload_n (pc := 68) (i := 0) dX8_due_68 rfl rfl ?_
          refine A_getS (pc := 69) (k := 24) (tp := 47) clX8 (Nat.le_of_ble_eq_true rfl) dX8_due_69 kF_X8_67 rfl rfl rfl ?_
          refine A_iload_n (pc := 72) (i := 3) dX8_due_72 rfl rfl ?_
          refine A_iaload (pc := 73) (n := 8) (by decide) (by decide) rfl dX8_due_73 (by decide) ?_
          refine A_aload_n (pc := 74) (i := 0) dX8_due_74 rfl rfl ?_
          refine A_getS (pc := 75) (k := 8) (tp := 35) clX8 (Nat.le_of_ble_eq_true rfl) dX8_due_75 kF_X8_25 rfl rfl rfl ?_
          refine A_iload_n (pc := 78) (i := 1) dX8_due_78 rfl rfl ?_
          refine A_iaload (pc := 79) (n := 8) (by decide) (by decide) rfl dX8_due_79 (by decide) ?_
          refine A_imul (pc := 80) dX8_due_80 ?_
          refine A_iload_n (pc := 81) (i := 2) dX8_due_81 rfl rfl ?_
          refine A_imul (pc := 82) dX8_due_82 ?_
          exact A_retI rfl dX8_due_83
def f_X8_due (x1 : Int32) (x2 : Int32) (h : Hp) : Option (Int32 × Hp) := ((f_X8_isBoat x1 h).bind fun r1 => (if r1 = true then ((f_X8_within x2 (0 : Int32) (99 : Int32) h).bind fun r3 => (if r3 = true then (fL_X8_due_27 FU x1 x2 (0 : Int32) h) else ((f_X8_finding (-1000001 : Int32) h).bind fun r6 => (some (r6.1, r6.2))))) else ((f_X8_finding (-1000001 : Int32) h).bind fun r2 => (some (r2.1, r2.2)))))
set_option maxRecDepth 100000 in
set_option maxHeartbeats 4000000 in
theorem a_X8_due (x1 : Int32) (x2 : Int32) (h : Hp) : CtA eI mX8_due U0 U0 [vr 8 (some 0), vi x1, vi x2] h (f_X8_due x1 x2 h) := by
  refine Ct.of (ls := [some (vr 8 (some 0)), some (vi x1), some (vi x2), none]) (n := 1) (by decide +kernel) rfl rfl rfl ?_
  unfold f_X8_due
  refine A_aload_n (pc := 0) (i := 0) dX8_due_0 rfl rfl ?_
  refine A_iload_n (pc := 1) (i := 1) dX8_due_1 rfl rfl ?_
  refine A_callV (pc := 2) (M' := mX8_isBoat) (As := [vi x1]) (st := []) (0, 0) (fun r1 => [vi (bi r1)]) (fun _ => h) (a_X8_isBoat x1 h) kD_X8_isBoat kM_X8_131 kI_X8_isBoat kS_X8_isBoat kN_X8 ⟨(Nat.le_of_ble_eq_true rfl), (Nat.le_of_ble_eq_true rfl)⟩ dX8_due_2 rfl rfl rfl (by decide) rfl (Nat.le_of_ble_eq_true rfl) (Nat.le_of_ble_eq_true rfl) (Nat.le_of_ble_eq_true rfl) (fun _ => rfl) (fun _ => rfl) (fun r1 => ?_)
  refine A_ifb_eq (pc := 5) (tgt := 18) dX8_due_5 (by decide) ?_ ?_
  · refine A_aload_n (pc := 18) (i := 0) dX8_due_18 rfl rfl ?_
    refine A_ldc (pc := 19) (v := (-1000001 : Int32)) dX8_due_19 kK_X8_125 ?_
    refine A_callV (pc := 21) (M' := mX8_finding) (As := [vi (-1000001 : Int32)]) (st := []) (0, 0) (fun r2 => [vi r2.1]) (fun r2 => r2.2) (a_X8_finding (-1000001 : Int32) h) kD_X8_finding kM_X8_126 kI_X8_finding kS_X8_finding kN_X8 ⟨(Nat.le_of_ble_eq_true rfl), (Nat.le_of_ble_eq_true rfl)⟩ dX8_due_21 rfl rfl rfl (by decide) rfl (Nat.le_of_ble_eq_true rfl) (Nat.le_of_ble_eq_true rfl) (Nat.le_of_ble_eq_true rfl) (fun _ => rfl) (fun _ => rfl) (fun r2 => ?_)
    exact A_retI rfl dX8_due_24
  · refine A_iload_n (pc := 8) (i := 2) dX8_due_8 rfl rfl ?_
    refine A_iconst (pc := 9) (v := (0 : Int32)) dX8_due_9 (by decide) ?_
    refine A_bipush (pc := 10) (v := (99 : Int32)) dX8_due_10 (by decide) ?_
    refine A_callS (pc := 12) (M' := mX8_within) (As := [vi x2, vi (0 : Int32), vi (99 : Int32)]) (st := []) (0, 0) (fun r3 => [vi (bi r3)]) (fun _ => h) (a_X8_within x2 (0 : Int32) (99 : Int32) h) kD_X8_within kM_X8_118 kT_X8_within kN_X8 ⟨(Nat.le_of_ble_eq_true rfl), (Nat.le_of_ble_eq_true rfl)⟩ dX8_due_12 rfl rfl (Nat.le_of_ble_eq_true rfl) (Nat.le_of_ble_eq_true rfl) (Nat.le_of_ble_eq_true rfl) (fun _ => rfl) (fun _ => rfl) (fun r3 => ?_)
    refine A_ifb_ne (pc := 15) (tgt := 25) dX8_due_15 (by decide) ?_ ?_
    · refine A_iconst (pc := 25) (v := (0 : Int32)) dX8_due_25 (by decide) ?_
      refine A_istore_n (pc := 26) (i := 3) (ls2 := [some (vr 8 (some 0)), some (vi x1), some (vi x2), some (vi (0 : Int32))]) dX8_due_26 rfl (Nat.le_of_ble_eq_true rfl) rfl ?_
      exact Aw.weak (ls' := [some (vr 8 (some 0)), some (vi x1), some (vi x2), some (vi (0 : Int32))]) ⟨rfl, ⟨rfl, ⟨rfl, ⟨rfl, trivial⟩⟩⟩⟩ (aL_X8_due_27 FU x1 x2 (0 : Int32) h)
    · refine A_aload_n (pc := 18) (i := 0) dX8_due_18 rfl rfl ?_
      refine A_ldc (pc := 19) (v := (-1000001 : Int32)) dX8_due_19 kK_X8_125 ?_
      refine A_callV (pc := 21) (M' := mX8_finding) (As := [vi (-1000001 : Int32)]) (st := []) (0, 0) (fun r6 => [vi r6.1]) (fun r6 => r6.2) (a_X8_finding (-1000001 : Int32) h) kD_X8_finding kM_X8_126 kI_X8_finding kS_X8_finding kN_X8 ⟨(Nat.le_of_ble_eq_true rfl), (Nat.le_of_ble_eq_true rfl)⟩ dX8_due_21 rfl rfl rfl (by decide) rfl (Nat.le_of_ble_eq_true rfl) (Nat.le_of_ble_eq_true rfl) (Nat.le_of_ble_eq_true rfl) (fun _ => rfl) (fun _ => rfl) (fun r6 => ?_)
      exact A_retI rfl dX8_due_24
